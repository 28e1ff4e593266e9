theorem dX11_opensTo_171 : decode cX11_opensTo 171 = .ok (.iload 6, 2) := by decide +kernel
theorem dX11_opensTo_173 : decode cX11_opensTo 173 = .ok (.isub, 1) := by decide +kernel
theorem dX11_opensTo_174 : decode cX11_opensTo 174 = .ok (.if_icmp .lt 22, 3) := by decide +kernel
theorem dX11_opensTo_177 : decode cX11_opensTo 177 = .ok (.aload_n 0, 1) := by decide +kernel
theorem dX11_opensTo_178 : decode cX11_opensTo 178 = .ok (.iload_n 2, 1) := by decide +kernel
theorem dX11_opensTo_179 : decode cX11_opensTo 179 = .ok (.iload 9, 2) := by decide +kernel
theorem dX11_opensTo_181 : decode cX11_opensTo 181 = .ok (.invokevirtual 478, 3) := by decide +kernel
theorem dX11_opensTo_184 : decode cX11_opensTo 184 = .ok (.ifCond .eq 6, 3) := by decide +kernel
theorem dX11_opensTo_187 : decode cX11_opensTo 187 = .ok (.iload 7, 2) := by decide +kernel
theorem dX11_opensTo_189 : decode cX11_opensTo 189 = .ok (.ireturn, 1) := by decide +kernel
theorem dX11_opensTo_190 : decode cX11_opensTo 190 = .ok (.iinc 9 (-1), 3) := by decide +kernel
theorem dX11_opensTo_193 : decode cX11_opensTo 193 = .ok (.goto (-26), 3) := by decide +kernel
theorem dX11_opensTo_196 : decode cX11_opensTo 196 = .ok (.iload 4, 2) := by decide +kernel
theorem dX11_opensTo_198 : decode cX11_opensTo 198 = .ok (.iconst 2, 1) := by decide +kernel
theorem dX11_opensTo_199 : decode cX11_opensTo 199 = .ok (.if_icmp .ne 40, 3) := by decide +kernel
theorem dX11_opensTo_202 : decode cX11_opensTo 202 = .ok (.aload_n 0, 1) := by decide +kernel
theorem dX11_opensTo_203 : decode cX11_opensTo 203 = .ok (.getfield 195, 3) := by decide +kernel
theorem dX11_opensTo_206 : decode cX11_opensTo 206 = .ok (.iload_n 3, 1) := by decide +kernel
theorem dX11_opensTo_207 : decode cX11_opensTo 207 = .ok (.iaload, 1) := by decide +kernel
theorem dX11_opensTo_208 : decode cX11_opensTo 208 = .ok (.iconst (-1), 1) := by decide +kernel
theorem dX11_opensTo_209 : decode cX11_opensTo 209 = .ok (.if_icmp .eq 30, 3) := by decide +kernel
theorem dX11_opensTo_212 : decode cX11_opensTo 212 = .ok (.aload_n 0, 1) := by decide +kernel
theorem dX11_opensTo_213 : decode cX11_opensTo 213 = .ok (.iload_n 2, 1) := by decide +kernel
theorem dX11_opensTo_214 : decode cX11_opensTo 214 = .ok (.aload_n 0, 1) := by decide +kernel
theorem dX11_opensTo_215 : decode cX11_opensTo 215 = .ok (.getfield 195, 3) := by decide +kernel
theorem dX11_opensTo_218 : decode cX11_opensTo 218 = .ok (.iload_n 3, 1) := by decide +kernel
theorem dX11_opensTo_219 : decode cX11_opensTo 219 = .ok (.iaload, 1) := by decide +kernel
theorem dX11_opensTo_220 : decode cX11_opensTo 220 = .ok (.iconst 1, 1) := by decide +kernel
theorem dX11_opensTo_221 : decode cX11_opensTo 221 = .ok (.iadd, 1) := by decide +kernel
theorem dX11_opensTo_222 : decode cX11_opensTo 222 = .ok (.invokevirtual 478, 3) := by decide +kernel
theorem dX11_opensTo_225 : decode cX11_opensTo 225 = .ok (.ifCond .eq 14, 3) := by decide +kernel
theorem dX11_opensTo_228 : decode cX11_opensTo 228 = .ok (.aload_n 0, 1) := by decide +kernel
theorem dX11_opensTo_229 : decode cX11_opensTo 229 = .ok (.getfield 195, 3) := by decide +kernel
theorem dX11_opensTo_232 : decode cX11_opensTo 232 = .ok (.iload_n 3, 1) := by decide +kernel
theorem dX11_opensTo_233 : decode cX11_opensTo 233 = .ok (.iaload, 1) := by decide +kernel
theorem dX11_opensTo_234 : decode cX11_opensTo 234 = .ok (.iconst 2, 1) := by decide +kernel
theorem dX11_opensTo_235 : decode cX11_opensTo 235 = .ok (.iadd, 1) := by decide +kernel
theorem dX11_opensTo_236 : decode cX11_opensTo 236 = .ok (.goto 4, 3) := by decide +kernel
theorem dX11_opensTo_239 : decode cX11_opensTo 239 = .ok (.iconst (-1), 1) := by decide +kernel
theorem dX11_opensTo_240 : decode cX11_opensTo 240 = .ok (.ireturn, 1) := by decide +kernel
theorem dX11_misses_0 : decode cX11_misses 0 = .ok (.iconst 3, 1) := by decide +kernel
theorem dX11_misses_1 : decode cX11_misses 1 = .ok (.iload_n 1, 1) := by decide +kernel
theorem dX11_misses_2 : decode cX11_misses 2 = .ok (.imul, 1) := by decide +kernel
theorem dX11_misses_3 : decode cX11_misses 3 = .ok (.iload_n 2, 1) := by decide +kernel
theorem dX11_misses_4 : decode cX11_misses 4 = .ok (.iadd, 1) := by decide +kernel
theorem dX11_misses_5 : decode cX11_misses 5 = .ok (.istore_n 3, 1) := by decide +kernel
theorem dX11_misses_6 : decode cX11_misses 6 = .ok (.aload_n 0, 1) := by decide +kernel
theorem dX11_misses_7 : decode cX11_misses 7 = .ok (.getfield 198, 3) := by decide +kernel
theorem dX11_misses_10 : decode cX11_misses 10 = .ok (.iload_n 3, 1) := by decide +kernel
theorem dX11_misses_11 : decode cX11_misses 11 = .ok (.aload_n 0, 1) := by decide +kernel
theorem dX11_misses_12 : decode cX11_misses 12 = .ok (.getfield 198, 3) := by decide +kernel
theorem dX11_misses_15 : decode cX11_misses 15 = .ok (.iload_n 3, 1) := by decide +kernel
theorem dX11_misses_16 : decode cX11_misses 16 = .ok (.iaload, 1) := by decide +kernel
theorem dX11_misses_17 : decode cX11_misses 17 = .ok (.sipush 255, 3) := by decide +kernel
theorem dX11_misses_20 : decode cX11_misses 20 = .ok (.if_icmp .ge 14, 3) := by decide +kernel
theorem dX11_misses_23 : decode cX11_misses 23 = .ok (.aload_n 0, 1) := by decide +kernel
theorem dX11_misses_24 : decode cX11_misses 24 = .ok (.getfield 198, 3) := by decide +kernel
theorem dX11_misses_27 : decode cX11_misses 27 = .ok (.iload_n 3, 1) := by decide +kernel
theorem dX11_misses_28 : decode cX11_misses 28 = .ok (.iaload, 1) := by decide +kernel
theorem dX11_misses_29 : decode cX11_misses 29 = .ok (.iconst 1, 1) := by decide +kernel
theorem dX11_misses_30 : decode cX11_misses 30 = .ok (.iadd, 1) := by decide +kernel
theorem dX11_misses_31 : decode cX11_misses 31 = .ok (.goto 6, 3) := by decide +kernel
theorem dX11_misses_34 : decode cX11_misses 34 = .ok (.sipush 255, 3) := by decide +kernel
theorem dX11_misses_37 : decode cX11_misses 37 = .ok (.iastore, 1) := by decide +kernel
theorem dX11_misses_38 : decode cX11_misses 38 = .ok (.aload_n 0, 1) := by decide +kernel
theorem dX11_misses_39 : decode cX11_misses 39 = .ok (.getfield 88, 3) := by decide +kernel
theorem dX11_misses_42 : decode cX11_misses 42 = .ok (.aload_n 0, 1) := by decide +kernel
theorem dX11_misses_43 : decode cX11_misses 43 = .ok (.iload_n 1, 1) := by decide +kernel
theorem dX11_misses_44 : decode cX11_misses 44 = .ok (.invokevirtual 463, 3) := by decide +kernel
theorem dX11_misses_47 : decode cX11_misses 47 = .ok (.iaload, 1) := by decide +kernel
theorem dX11_misses_48 : decode cX11_misses 48 = .ok (.iconst 2, 1) := by decide +kernel
theorem dX11_misses_49 : decode cX11_misses 49 = .ok (.if_icmp .eq 4, 3) := by decide +kernel
theorem dX11_misses_52 : decode cX11_misses 52 = .ok (.return_, 1) := by decide +kernel
theorem dX11_misses_53 : decode cX11_misses 53 = .ok (.aload_n 0, 1) := by decide +kernel
theorem dX11_misses_54 : decode cX11_misses 54 = .ok (.getfield 192, 3) := by decide +kernel
theorem dX11_misses_57 : decode cX11_misses 57 = .ok (.iload_n 3, 1) := by decide +kernel
theorem dX11_misses_58 : decode cX11_misses 58 = .ok (.iaload, 1) := by decide +kernel
theorem dX11_misses_59 : decode cX11_misses 59 = .ok (.istore 4, 2) := by decide +kernel
theorem dX11_misses_61 : decode cX11_misses 61 = .ok (.aload_n 0, 1) := by decide +kernel
theorem dX11_misses_62 : decode cX11_misses 62 = .ok (.getfield 195, 3) := by decide +kernel
theorem dX11_misses_65 : decode cX11_misses 65 = .ok (.iload_n 3, 1) := by decide +kernel
theorem dX11_misses_66 : decode cX11_misses 66 = .ok (.iconst (-1), 1) := by decide +kernel
theorem dX11_misses_67 : decode cX11_misses 67 = .ok (.iastore, 1) := by decide +kernel
theorem dX11_misses_68 : decode cX11_misses 68 = .ok (.iload 4, 2) := by decide +kernel
theorem dX11_misses_70 : decode cX11_misses 70 = .ok (.aload_n 0, 1) := by decide +kernel
theorem dX11_misses_71 : decode cX11_misses 71 = .ok (.getfield 91, 3) := by decide +kernel
theorem dX11_misses_74 : decode cX11_misses 74 = .ok (.aload_n 0, 1) := by decide +kernel
theorem dX11_misses_75 : decode cX11_misses 75 = .ok (.iload_n 1, 1) := by decide +kernel
theorem dX11_misses_76 : decode cX11_misses 76 = .ok (.invokevirtual 463, 3) := by decide +kernel
theorem dX11_misses_79 : decode cX11_misses 79 = .ok (.iaload, 1) := by decide +kernel
theorem dX11_misses_80 : decode cX11_misses 80 = .ok (.iadd, 1) := by decide +kernel
theorem dX11_misses_81 : decode cX11_misses 81 = .ok (.istore 5, 2) := by decide +kernel
theorem dX11_misses_83 : decode cX11_misses 83 = .ok (.iload 5, 2) := by decide +kernel
theorem dX11_misses_85 : decode cX11_misses 85 = .ok (.iload 4, 2) := by decide +kernel
theorem dX11_misses_87 : decode cX11_misses 87 = .ok (.if_icmp .le 36, 3) := by decide +kernel
theorem dX11_misses_90 : decode cX11_misses 90 = .ok (.aload_n 0, 1) := by decide +kernel
theorem dX11_misses_91 : decode cX11_misses 91 = .ok (.getfield 195, 3) := by decide +kernel
theorem dX11_misses_94 : decode cX11_misses 94 = .ok (.iload_n 3, 1) := by decide +kernel
theorem dX11_misses_95 : decode cX11_misses 95 = .ok (.aload_n 0, 1) := by decide +kernel
theorem dX11_misses_96 : decode cX11_misses 96 = .ok (.iload_n 2, 1) := by decide +kernel
theorem dX11_misses_97 : decode cX11_misses 97 = .ok (.iload 5, 2) := by decide +kernel
theorem dX11_misses_99 : decode cX11_misses 99 = .ok (.invokevirtual 478, 3) := by decide +kernel
theorem dX11_misses_102 : decode cX11_misses 102 = .ok (.ifCond .eq 8, 3) := by decide +kernel
theorem dX11_misses_105 : decode cX11_misses 105 = .ok (.iload 5, 2) := by decide +kernel
theorem dX11_misses_107 : decode cX11_misses 107 = .ok (.goto 9, 3) := by decide +kernel
theorem dX11_misses_110 : decode cX11_misses 110 = .ok (.aload_n 0, 1) := by decide +kernel
theorem dX11_misses_111 : decode cX11_misses 111 = .ok (.getfield 195, 3) := by decide +kernel
theorem dX11_misses_114 : decode cX11_misses 114 = .ok (.iload_n 3, 1) := by decide +kernel
theorem dX11_misses_115 : decode cX11_misses 115 = .ok (.iaload, 1) := by decide +kernel
theorem dX11_misses_116 : decode cX11_misses 116 = .ok (.iastore, 1) := by decide +kernel
theorem dX11_misses_117 : decode cX11_misses 117 = .ok (.iinc 5 (-1), 3) := by decide +kernel
theorem dX11_misses_120 : decode cX11_misses 120 = .ok (.goto (-37), 3) := by decide +kernel
theorem dX11_misses_123 : decode cX11_misses 123 = .ok (.return_, 1) := by decide +kernel
theorem dX11_hears_0 : decode cX11_hears 0 = .ok (.iconst 0, 1) := by decide +kernel
theorem dX11_hears_1 : decode cX11_hears 1 = .ok (.istore_n 2, 1) := by decide +kernel
theorem dX11_hears_2 : decode cX11_hears 2 = .ok (.iload_n 2, 1) := by decide +kernel
theorem dX11_hears_3 : decode cX11_hears 3 = .ok (.aload_n 0, 1) := by decide +kernel
theorem dX11_hears_4 : decode cX11_hears 4 = .ok (.getfield 57, 3) := by decide +kernel
theorem dX11_hears_7 : decode cX11_hears 7 = .ok (.aload_n 0, 1) := by decide +kernel
theorem dX11_hears_8 : decode cX11_hears 8 = .ok (.getfield 48, 3) := by decide +kernel
theorem dX11_hears_11 : decode cX11_hears 11 = .ok (.iaload, 1) := by decide +kernel
theorem dX11_hears_12 : decode cX11_hears 12 = .ok (.if_icmp .ge 70, 3) := by decide +kernel
theorem dX11_hears_15 : decode cX11_hears 15 = .ok (.aload_n 0, 1) := by decide +kernel
theorem dX11_hears_16 : decode cX11_hears 16 = .ok (.iload_n 1, 1) := by decide +kernel
theorem dX11_hears_17 : decode cX11_hears 17 = .ok (.iload_n 2, 1) := by decide +kernel
theorem dX11_hears_18 : decode cX11_hears 18 = .ok (.invokevirtual 459, 3) := by decide +kernel
theorem dX11_hears_21 : decode cX11_hears 21 = .ok (.ifCond .eq 12, 3) := by decide +kernel
theorem dX11_hears_24 : decode cX11_hears 24 = .ok (.aload_n 0, 1) := by decide +kernel
theorem dX11_hears_25 : decode cX11_hears 25 = .ok (.iload_n 1, 1) := by decide +kernel
theorem dX11_hears_26 : decode cX11_hears 26 = .ok (.iload_n 2, 1) := by decide +kernel
theorem dX11_hears_27 : decode cX11_hears 27 = .ok (.invokevirtual 481, 3) := by decide +kernel
theorem dX11_hears_30 : decode cX11_hears 30 = .ok (.goto 4, 3) := by decide +kernel
theorem dX11_hears_33 : decode cX11_hears 33 = .ok (.iconst (-1), 1) := by decide +kernel
theorem dX11_hears_34 : decode cX11_hears 34 = .ok (.istore_n 3, 1) := by decide +kernel
theorem dX11_hears_35 : decode cX11_hears 35 = .ok (.iload_n 3, 1) := by decide +kernel
theorem dX11_hears_36 : decode cX11_hears 36 = .ok (.iconst (-1), 1) := by decide +kernel
theorem dX11_hears_37 : decode cX11_hears 37 = .ok (.if_icmp .ne 6, 3) := by decide +kernel
theorem dX11_hears_40 : decode cX11_hears 40 = .ok (.goto 36, 3) := by decide +kernel
theorem dX11_hears_43 : decode cX11_hears 43 = .ok (.iconst 3, 1) := by decide +kernel
theorem dX11_hears_44 : decode cX11_hears 44 = .ok (.iload_n 1, 1) := by decide +kernel
theorem dX11_hears_45 : decode cX11_hears 45 = .ok (.imul, 1) := by decide +kernel
theorem dX11_hears_46 : decode cX11_hears 46 = .ok (.iload_n 2, 1) := by decide +kernel
theorem dX11_hears_47 : decode cX11_hears 47 = .ok (.iadd, 1) := by decide +kernel
theorem dX11_hears_48 : decode cX11_hears 48 = .ok (.istore 4, 2) := by decide +kernel
theorem dX11_hears_50 : decode cX11_hears 50 = .ok (.aload_n 0, 1) := by decide +kernel
theorem dX11_hears_51 : decode cX11_hears 51 = .ok (.getfield 192, 3) := by decide +kernel
theorem dX11_hears_54 : decode cX11_hears 54 = .ok (.iload 4, 2) := by decide +kernel
theorem dX11_hears_56 : decode cX11_hears 56 = .ok (.iload_n 3, 1) := by decide +kernel
theorem dX11_hears_57 : decode cX11_hears 57 = .ok (.iastore, 1) := by decide +kernel
theorem dX11_hears_58 : decode cX11_hears 58 = .ok (.aload_n 0, 1) := by decide +kernel
theorem dX11_hears_59 : decode cX11_hears 59 = .ok (.getfield 195, 3) := by decide +kernel
theorem dX11_hears_62 : decode cX11_hears 62 = .ok (.iload 4, 2) := by decide +kernel
theorem dX11_hears_64 : decode cX11_hears 64 = .ok (.iconst (-1), 1) := by decide +kernel
theorem dX11_hears_65 : decode cX11_hears 65 = .ok (.iastore, 1) := by decide +kernel
theorem dX11_hears_66 : decode cX11_hears 66 = .ok (.aload_n 0, 1) := by decide +kernel
theorem dX11_hears_67 : decode cX11_hears 67 = .ok (.getfield 198, 3) := by decide +kernel
theorem dX11_hears_70 : decode cX11_hears 70 = .ok (.iload 4, 2) := by decide +kernel
theorem dX11_hears_72 : decode cX11_hears 72 = .ok (.iconst 0, 1) := by decide +kernel
theorem dX11_hears_73 : decode cX11_hears 73 = .ok (.iastore, 1) := by decide +kernel
theorem dX11_hears_74 : decode cX11_hears 74 = .ok (.iload_n 2, 1) := by decide +kernel
theorem dX11_hears_75 : decode cX11_hears 75 = .ok (.ireturn, 1) := by decide +kernel
theorem dX11_hears_76 : decode cX11_hears 76 = .ok (.iinc 2 1, 3) := by decide +kernel
theorem dX11_hears_79 : decode cX11_hears 79 = .ok (.goto (-77), 3) := by decide +kernel
theorem dX11_hears_82 : decode cX11_hears 82 = .ok (.iconst 0, 1) := by decide +kernel
theorem dX11_hears_83 : decode cX11_hears 83 = .ok (.istore_n 2, 1) := by decide +kernel
theorem dX11_hears_84 : decode cX11_hears 84 = .ok (.iload_n 2, 1) := by decide +kernel
theorem dX11_hears_85 : decode cX11_hears 85 = .ok (.aload_n 0, 1) := by decide +kernel
theorem dX11_hears_86 : decode cX11_hears 86 = .ok (.getfield 57, 3) := by decide +kernel
theorem dX11_hears_89 : decode cX11_hears 89 = .ok (.aload_n 0, 1) := by decide +kernel
theorem dX11_hears_90 : decode cX11_hears 90 = .ok (.getfield 48, 3) := by decide +kernel
theorem dX11_hears_93 : decode cX11_hears 93 = .ok (.iaload, 1) := by decide +kernel
theorem dX11_hears_94 : decode cX11_hears 94 = .ok (.if_icmp .ge 24, 3) := by decide +kernel
theorem dX11_hears_97 : decode cX11_hears 97 = .ok (.aload_n 0, 1) := by decide +kernel
theorem dX11_hears_98 : decode cX11_hears 98 = .ok (.iload_n 1, 1) := by decide +kernel
theorem dX11_hears_99 : decode cX11_hears 99 = .ok (.iload_n 2, 1) := by decide +kernel
theorem dX11_hears_100 : decode cX11_hears 100 = .ok (.invokevirtual 459, 3) := by decide +kernel
theorem dX11_hears_103 : decode cX11_hears 103 = .ok (.ifCond .eq 9, 3) := by decide +kernel
theorem dX11_hears_106 : decode cX11_hears 106 = .ok (.aload_n 0, 1) := by decide +kernel
theorem dX11_hears_107 : decode cX11_hears 107 = .ok (.iload_n 1, 1) := by decide +kernel
theorem dX11_hears_108 : decode cX11_hears 108 = .ok (.iload_n 2, 1) := by decide +kernel
theorem dX11_hears_109 : decode cX11_hears 109 = .ok (.invokevirtual 484, 3) := by decide +kernel
theorem dX11_hears_112 : decode cX11_hears 112 = .ok (.iinc 2 1, 3) := by decide +kernel
theorem dX11_hears_115 : decode cX11_hears 115 = .ok (.goto (-31), 3) := by decide +kernel
theorem dX11_hears_118 : decode cX11_hears 118 = .ok (.iconst (-1), 1) := by decide +kernel
theorem dX11_hears_119 : decode cX11_hears 119 = .ok (.ireturn, 1) := by decide +kernel
theorem dX11_hearsNow_0 : decode cX11_hearsNow 0 = .ok (.aload_n 0, 1) := by decide +kernel
theorem dX11_hearsNow_1 : decode cX11_hearsNow 1 = .ok (.iload_n 1, 1) := by decide +kernel
theorem dX11_hearsNow_2 : decode cX11_hearsNow 2 = .ok (.invokevirtual 487, 3) := by decide +kernel
theorem dX11_hearsNow_5 : decode cX11_hearsNow 5 = .ok (.istore_n 2, 1) := by decide +kernel
theorem dX11_hearsNow_6 : decode cX11_hearsNow 6 = .ok (.iload_n 2, 1) := by decide +kernel
theorem dX11_hearsNow_7 : decode cX11_hearsNow 7 = .ok (.iconst (-1), 1) := by decide +kernel
theorem dX11_hearsNow_8 : decode cX11_hearsNow 8 = .ok (.if_icmp .ne 16, 3) := by decide +kernel
theorem dX11_hearsNow_11 : decode cX11_hearsNow 11 = .ok (.aload_n 0, 1) := by decide +kernel
theorem dX11_hearsNow_12 : decode cX11_hearsNow 12 = .ok (.getfield 207, 3) := by decide +kernel
theorem dX11_hearsNow_15 : decode cX11_hearsNow 15 = .ok (.iload_n 1, 1) := by decide +kernel
theorem dX11_hearsNow_16 : decode cX11_hearsNow 16 = .ok (.dup2, 1) := by decide +kernel
theorem dX11_hearsNow_17 : decode cX11_hearsNow 17 = .ok (.iaload, 1) := by decide +kernel
theorem dX11_hearsNow_18 : decode cX11_hearsNow 18 = .ok (.iconst 1, 1) := by decide +kernel
theorem dX11_hearsNow_19 : decode cX11_hearsNow 19 = .ok (.iadd, 1) := by decide +kernel
theorem dX11_hearsNow_20 : decode cX11_hearsNow 20 = .ok (.iastore, 1) := by decide +kernel
theorem dX11_hearsNow_21 : decode cX11_hearsNow 21 = .ok (.goto 20, 3) := by decide +kernel
theorem dX11_hearsNow_24 : decode cX11_hearsNow 24 = .ok (.aload_n 0, 1) := by decide +kernel
theorem dX11_hearsNow_25 : decode cX11_hearsNow 25 = .ok (.getfield 201, 3) := by decide +kernel
theorem dX11_hearsNow_28 : decode cX11_hearsNow 28 = .ok (.iload_n 1, 1) := by decide +kernel
theorem dX11_hearsNow_29 : decode cX11_hearsNow 29 = .ok (.iload_n 2, 1) := by decide +kernel
theorem dX11_hearsNow_30 : decode cX11_hearsNow 30 = .ok (.iastore, 1) := by decide +kernel
theorem dX11_hearsNow_31 : decode cX11_hearsNow 31 = .ok (.aload_n 0, 1) := by decide +kernel
theorem dX11_hearsNow_32 : decode cX11_hearsNow 32 = .ok (.getfield 204, 3) := by decide +kernel
theorem dX11_hearsNow_35 : decode cX11_hearsNow 35 = .ok (.iload_n 1, 1) := by decide +kernel
theorem dX11_hearsNow_36 : decode cX11_hearsNow 36 = .ok (.dup2, 1) := by decide +kernel
theorem dX11_hearsNow_37 : decode cX11_hearsNow 37 = .ok (.iaload, 1) := by decide +kernel
theorem dX11_hearsNow_38 : decode cX11_hearsNow 38 = .ok (.iconst 1, 1) := by decide +kernel
theorem dX11_hearsNow_39 : decode cX11_hearsNow 39 = .ok (.iadd, 1) := by decide +kernel
theorem dX11_hearsNow_40 : decode cX11_hearsNow 40 = .ok (.iastore, 1) := by decide +kernel
theorem dX11_hearsNow_41 : decode cX11_hearsNow 41 = .ok (.iload_n 2, 1) := by decide +kernel
theorem dX11_hearsNow_42 : decode cX11_hearsNow 42 = .ok (.ireturn, 1) := by decide +kernel
theorem dX11_opened_0 : decode cX11_opened 0 = .ok (.aload_n 0, 1) := by decide +kernel
theorem dX11_opened_1 : decode cX11_opened 1 = .ok (.iload_n 1, 1) := by decide +kernel
theorem dX11_opened_2 : decode cX11_opened 2 = .ok (.invokevirtual 456, 3) := by decide +kernel
theorem dX11_opened_5 : decode cX11_opened 5 = .ok (.ifCond .ne 7, 3) := by decide +kernel
theorem dX11_opened_8 : decode cX11_opened 8 = .ok (.iconst (-1), 1) := by decide +kernel
theorem dX11_opened_9 : decode cX11_opened 9 = .ok (.goto 45, 3) := by decide +kernel
theorem dX11_opened_12 : decode cX11_opened 12 = .ok (.iload_n 2, 1) := by decide +kernel
theorem dX11_opened_13 : decode cX11_opened 13 = .ok (.ifCond .ne 12, 3) := by decide +kernel
theorem dX11_opened_16 : decode cX11_opened 16 = .ok (.aload_n 0, 1) := by decide +kernel
theorem dX11_opened_17 : decode cX11_opened 17 = .ok (.getfield 201, 3) := by decide +kernel
theorem dX11_opened_20 : decode cX11_opened 20 = .ok (.iload_n 1, 1) := by decide +kernel
theorem dX11_opened_21 : decode cX11_opened 21 = .ok (.iaload, 1) := by decide +kernel
theorem dX11_opened_22 : decode cX11_opened 22 = .ok (.goto 32, 3) := by decide +kernel
theorem dX11_opened_25 : decode cX11_opened 25 = .ok (.iload_n 2, 1) := by decide +kernel
theorem dX11_opened_26 : decode cX11_opened 26 = .ok (.iconst 1, 1) := by decide +kernel
theorem dX11_opened_27 : decode cX11_opened 27 = .ok (.if_icmp .ne 12, 3) := by decide +kernel
theorem dX11_opened_30 : decode cX11_opened 30 = .ok (.aload_n 0, 1) := by decide +kernel
theorem dX11_opened_31 : decode cX11_opened 31 = .ok (.getfield 204, 3) := by decide +kernel
theorem dX11_opened_34 : decode cX11_opened 34 = .ok (.iload_n 1, 1) := by decide +kernel
theorem dX11_opened_35 : decode cX11_opened 35 = .ok (.iaload, 1) := by decide +kernel
theorem dX11_opened_36 : decode cX11_opened 36 = .ok (.goto 18, 3) := by decide +kernel
theorem dX11_opened_39 : decode cX11_opened 39 = .ok (.iload_n 2, 1) := by decide +kernel
theorem dX11_opened_40 : decode cX11_opened 40 = .ok (.iconst 2, 1) := by decide +kernel
theorem dX11_opened_41 : decode cX11_opened 41 = .ok (.if_icmp .ne 12, 3) := by decide +kernel
theorem dX11_opened_44 : decode cX11_opened 44 = .ok (.aload_n 0, 1) := by decide +kernel
theorem dX11_opened_45 : decode cX11_opened 45 = .ok (.getfield 207, 3) := by decide +kernel
theorem dX11_opened_48 : decode cX11_opened 48 = .ok (.iload_n 1, 1) := by decide +kernel
theorem dX11_opened_49 : decode cX11_opened 49 = .ok (.iaload, 1) := by decide +kernel
theorem dX11_opened_50 : decode cX11_opened 50 = .ok (.goto 4, 3) := by decide +kernel
theorem dX11_opened_53 : decode cX11_opened 53 = .ok (.iconst (-1), 1) := by decide +kernel
theorem dX11_opened_54 : decode cX11_opened 54 = .ok (.ireturn, 1) := by decide +kernel
theorem dX11_ear_0 : decode cX11_ear 0 = .ok (.aload_n 0, 1) := by decide +kernel
theorem dX11_ear_1 : decode cX11_ear 1 = .ok (.iload_n 1, 1) := by decide +kernel
theorem dX11_ear_2 : decode cX11_ear 2 = .ok (.invokevirtual 456, 3) := by decide +kernel
theorem dX11_ear_5 : decode cX11_ear 5 = .ok (.ifCond .eq 20, 3) := by decide +kernel
theorem dX11_ear_8 : decode cX11_ear 8 = .ok (.aload_n 0, 1) := by decide +kernel
theorem dX11_ear_9 : decode cX11_ear 9 = .ok (.iload_n 2, 1) := by decide +kernel
theorem dX11_ear_10 : decode cX11_ear 10 = .ok (.invokevirtual 469, 3) := by decide +kernel
theorem dX11_ear_13 : decode cX11_ear 13 = .ok (.ifCond .eq 12, 3) := by decide +kernel
theorem dX11_ear_16 : decode cX11_ear 16 = .ok (.aload_n 0, 1) := by decide +kernel
theorem dX11_ear_17 : decode cX11_ear 17 = .ok (.iload_n 1, 1) := by decide +kernel
theorem dX11_ear_18 : decode cX11_ear 18 = .ok (.iload_n 2, 1) := by decide +kernel
theorem dX11_ear_19 : decode cX11_ear 19 = .ok (.invokevirtual 459, 3) := by decide +kernel
theorem dX11_ear_22 : decode cX11_ear 22 = .ok (.ifCond .ne 5, 3) := by decide +kernel
theorem dX11_ear_25 : decode cX11_ear 25 = .ok (.iconst (-1), 1) := by decide +kernel
theorem dX11_ear_26 : decode cX11_ear 26 = .ok (.ireturn, 1) := by decide +kernel
theorem dX11_ear_27 : decode cX11_ear 27 = .ok (.iconst 3, 1) := by decide +kernel
theorem dX11_ear_28 : decode cX11_ear 28 = .ok (.iload_n 1, 1) := by decide +kernel
theorem dX11_ear_29 : decode cX11_ear 29 = .ok (.imul, 1) := by decide +kernel
theorem dX11_ear_30 : decode cX11_ear 30 = .ok (.iload_n 2, 1) := by decide +kernel
theorem dX11_ear_31 : decode cX11_ear 31 = .ok (.iadd, 1) := by decide +kernel
theorem dX11_ear_32 : decode cX11_ear 32 = .ok (.istore 4, 2) := by decide +kernel
theorem dX11_ear_34 : decode cX11_ear 34 = .ok (.iload_n 3, 1) := by decide +kernel
theorem dX11_ear_35 : decode cX11_ear 35 = .ok (.ifCond .ne 13, 3) := by decide +kernel
theorem dX11_ear_38 : decode cX11_ear 38 = .ok (.aload_n 0, 1) := by decide +kernel
theorem dX11_ear_39 : decode cX11_ear 39 = .ok (.getfield 192, 3) := by decide +kernel
theorem dX11_ear_42 : decode cX11_ear 42 = .ok (.iload 4, 2) := by decide +kernel
theorem dX11_ear_44 : decode cX11_ear 44 = .ok (.iaload, 1) := by decide +kernel
theorem dX11_ear_45 : decode cX11_ear 45 = .ok (.goto 34, 3) := by decide +kernel
theorem dX11_ear_48 : decode cX11_ear 48 = .ok (.iload_n 3, 1) := by decide +kernel
theorem dX11_ear_49 : decode cX11_ear 49 = .ok (.iconst 1, 1) := by decide +kernel
theorem dX11_ear_50 : decode cX11_ear 50 = .ok (.if_icmp .ne 13, 3) := by decide +kernel
theorem dX11_ear_53 : decode cX11_ear 53 = .ok (.aload_n 0, 1) := by decide +kernel
theorem dX11_ear_54 : decode cX11_ear 54 = .ok (.getfield 195, 3) := by decide +kernel
theorem dX11_ear_57 : decode cX11_ear 57 = .ok (.iload 4, 2) := by decide +kernel
theorem dX11_ear_59 : decode cX11_ear 59 = .ok (.iaload, 1) := by decide +kernel
theorem dX11_ear_60 : decode cX11_ear 60 = .ok (.goto 19, 3) := by decide +kernel
theorem dX11_ear_63 : decode cX11_ear 63 = .ok (.iload_n 3, 1) := by decide +kernel
theorem dX11_ear_64 : decode cX11_ear 64 = .ok (.iconst 2, 1) := by decide +kernel
theorem dX11_ear_65 : decode cX11_ear 65 = .ok (.if_icmp .ne 13, 3) := by decide +kernel
theorem dX11_ear_68 : decode cX11_ear 68 = .ok (.aload_n 0, 1) := by decide +kernel
theorem dX11_ear_69 : decode cX11_ear 69 = .ok (.getfield 198, 3) := by decide +kernel
theorem dX11_ear_72 : decode cX11_ear 72 = .ok (.iload 4, 2) := by decide +kernel
theorem dX11_ear_74 : decode cX11_ear 74 = .ok (.iaload, 1) := by decide +kernel
theorem dX11_ear_75 : decode cX11_ear 75 = .ok (.goto 4, 3) := by decide +kernel
theorem dX11_ear_78 : decode cX11_ear 78 = .ok (.iconst (-1), 1) := by decide +kernel
theorem dX11_ear_79 : decode cX11_ear 79 = .ok (.ireturn, 1) := by decide +kernel
theorem dX11_comes_0 : decode cX11_comes 0 = .ok (.aload_n 0, 1) := by decide +kernel
theorem dX11_comes_1 : decode cX11_comes 1 = .ok (.getfield 183, 3) := by decide +kernel
theorem dX11_comes_4 : decode cX11_comes 4 = .ok (.iload_n 1, 1) := by decide +kernel
theorem dX11_comes_5 : decode cX11_comes 5 = .ok (.dup2, 1) := by decide +kernel
theorem dX11_comes_6 : decode cX11_comes 6 = .ok (.iaload, 1) := by decide +kernel
theorem dX11_comes_7 : decode cX11_comes 7 = .ok (.iconst 1, 1) := by decide +kernel
theorem dX11_comes_8 : decode cX11_comes 8 = .ok (.iadd, 1) := by decide +kernel
theorem dX11_comes_9 : decode cX11_comes 9 = .ok (.iastore, 1) := by decide +kernel
theorem dX11_comes_10 : decode cX11_comes 10 = .ok (.aload_n 0, 1) := by decide +kernel
theorem dX11_comes_11 : decode cX11_comes 11 = .ok (.aload_n 0, 1) := by decide +kernel
theorem dX11_comes_12 : decode cX11_comes 12 = .ok (.getfield 103, 3) := by decide +kernel
theorem dX11_comes_15 : decode cX11_comes 15 = .ok (.aload_n 0, 1) := by decide +kernel
theorem dX11_comes_16 : decode cX11_comes 16 = .ok (.iload_n 1, 1) := by decide +kernel
theorem dX11_comes_17 : decode cX11_comes 17 = .ok (.invokevirtual 453, 3) := by decide +kernel
theorem dX11_comes_20 : decode cX11_comes 20 = .ok (.iaload, 1) := by decide +kernel
theorem dX11_comes_21 : decode cX11_comes 21 = .ok (.invokevirtual 490, 3) := by decide +kernel
theorem dX11_comes_24 : decode cX11_comes 24 = .ok (.istore_n 2, 1) := by decide +kernel
theorem dX11_comes_25 : decode cX11_comes 25 = .ok (.iload_n 2, 1) := by decide +kernel
theorem dX11_comes_26 : decode cX11_comes 26 = .ok (.iconst (-1), 1) := by decide +kernel
theorem dX11_comes_27 : decode cX11_comes 27 = .ok (.if_icmp .ne 16, 3) := by decide +kernel
theorem dX11_comes_30 : decode cX11_comes 30 = .ok (.aload_n 0, 1) := by decide +kernel
theorem dX11_comes_31 : decode cX11_comes 31 = .ok (.getfield 189, 3) := by decide +kernel
theorem dX11_comes_34 : decode cX11_comes 34 = .ok (.iload_n 1, 1) := by decide +kernel
theorem dX11_comes_35 : decode cX11_comes 35 = .ok (.dup2, 1) := by decide +kernel
theorem dX11_comes_36 : decode cX11_comes 36 = .ok (.iaload, 1) := by decide +kernel
theorem dX11_comes_37 : decode cX11_comes 37 = .ok (.iconst 1, 1) := by decide +kernel
theorem dX11_comes_38 : decode cX11_comes 38 = .ok (.iadd, 1) := by decide +kernel
theorem dX11_comes_39 : decode cX11_comes 39 = .ok (.iastore, 1) := by decide +kernel
theorem dX11_comes_40 : decode cX11_comes 40 = .ok (.goto 13, 3) := by decide +kernel
theorem dX11_comes_43 : decode cX11_comes 43 = .ok (.aload_n 0, 1) := by decide +kernel
theorem dX11_comes_44 : decode cX11_comes 44 = .ok (.getfield 186, 3) := by decide +kernel
theorem dX11_comes_47 : decode cX11_comes 47 = .ok (.iload_n 1, 1) := by decide +kernel
theorem dX11_comes_48 : decode cX11_comes 48 = .ok (.dup2, 1) := by decide +kernel
theorem dX11_comes_49 : decode cX11_comes 49 = .ok (.iaload, 1) := by decide +kernel
theorem dX11_comes_50 : decode cX11_comes 50 = .ok (.iconst 1, 1) := by decide +kernel
theorem dX11_comes_51 : decode cX11_comes 51 = .ok (.iadd, 1) := by decide +kernel
theorem dX11_comes_52 : decode cX11_comes 52 = .ok (.iastore, 1) := by decide +kernel
theorem dX11_comes_53 : decode cX11_comes 53 = .ok (.iload_n 2, 1) := by decide +kernel
theorem dX11_comes_54 : decode cX11_comes 54 = .ok (.ireturn, 1) := by decide +kernel
theorem dX11_canCome_0 : decode cX11_canCome 0 = .ok (.aload_n 0, 1) := by decide +kernel
theorem dX11_canCome_1 : decode cX11_canCome 1 = .ok (.getfield 183, 3) := by decide +kernel
theorem dX11_canCome_4 : decode cX11_canCome 4 = .ok (.iload_n 1, 1) := by decide +kernel
theorem dX11_canCome_5 : decode cX11_canCome 5 = .ok (.iaload, 1) := by decide +kernel
theorem dX11_canCome_6 : decode cX11_canCome 6 = .ok (.sipush 1000, 3) := by decide +kernel
theorem dX11_canCome_9 : decode cX11_canCome 9 = .ok (.if_icmp .ge 7, 3) := by decide +kernel
theorem dX11_canCome_12 : decode cX11_canCome 12 = .ok (.iconst 1, 1) := by decide +kernel
theorem dX11_canCome_13 : decode cX11_canCome 13 = .ok (.goto 4, 3) := by decide +kernel
theorem dX11_canCome_16 : decode cX11_canCome 16 = .ok (.iconst 0, 1) := by decide +kernel
theorem dX11_canCome_17 : decode cX11_canCome 17 = .ok (.ireturn, 1) := by decide +kernel
theorem dX11_refused2_0 : decode cX11_refused2 0 = .ok (.aload_n 0, 1) := by decide +kernel
theorem dX11_refused2_1 : decode cX11_refused2 1 = .ok (.getfield 165, 3) := by decide +kernel
theorem dX11_refused2_4 : decode cX11_refused2 4 = .ok (.iconst 2, 1) := by decide +kernel
theorem dX11_refused2_5 : decode cX11_refused2 5 = .ok (.dup2, 1) := by decide +kernel
theorem dX11_refused2_6 : decode cX11_refused2 6 = .ok (.iaload, 1) := by decide +kernel
theorem dX11_refused2_7 : decode cX11_refused2 7 = .ok (.iconst 1, 1) := by decide +kernel
theorem dX11_refused2_8 : decode cX11_refused2 8 = .ok (.iadd, 1) := by decide +kernel
theorem dX11_refused2_9 : decode cX11_refused2 9 = .ok (.iastore, 1) := by decide +kernel
theorem dX11_refused2_10 : decode cX11_refused2 10 = .ok (.bipush (-2), 2) := by decide +kernel
theorem dX11_refused2_12 : decode cX11_refused2 12 = .ok (.ireturn, 1) := by decide +kernel
theorem dX11_come_0 : decode cX11_come 0 = .ok (.aload_n 0, 1) := by decide +kernel
theorem dX11_come_1 : decode cX11_come 1 = .ok (.iload_n 1, 1) := by decide +kernel
theorem dX11_come_2 : decode cX11_come 2 = .ok (.invokevirtual 466, 3) := by decide +kernel
theorem dX11_come_5 : decode cX11_come 5 = .ok (.ifCond .eq 11, 3) := by decide +kernel
theorem dX11_come_8 : decode cX11_come 8 = .ok (.aload_n 0, 1) := by decide +kernel
theorem dX11_come_9 : decode cX11_come 9 = .ok (.iload_n 1, 1) := by decide +kernel
theorem dX11_come_10 : decode cX11_come 10 = .ok (.invokevirtual 493, 3) := by decide +kernel
theorem dX11_come_13 : decode cX11_come 13 = .ok (.ifCond .ne 8, 3) := by decide +kernel
theorem dX11_come_16 : decode cX11_come 16 = .ok (.aload_n 0, 1) := by decide +kernel
theorem dX11_come_17 : decode cX11_come 17 = .ok (.invokevirtual 496, 3) := by decide +kernel
theorem dX11_come_20 : decode cX11_come 20 = .ok (.ireturn, 1) := by decide +kernel
theorem dX11_come_21 : decode cX11_come 21 = .ok (.aload_n 0, 1) := by decide +kernel
theorem dX11_come_22 : decode cX11_come 22 = .ok (.aload_n 0, 1) := by decide +kernel
theorem dX11_come_23 : decode cX11_come 23 = .ok (.getfield 106, 3) := by decide +kernel
theorem dX11_come_26 : decode cX11_come 26 = .ok (.aload_n 0, 1) := by decide +kernel
theorem dX11_come_27 : decode cX11_come 27 = .ok (.iload_n 1, 1) := by decide +kernel
theorem dX11_come_28 : decode cX11_come 28 = .ok (.invokevirtual 453, 3) := by decide +kernel
theorem dX11_come_31 : decode cX11_come 31 = .ok (.iaload, 1) := by decide +kernel
theorem dX11_come_32 : decode cX11_come 32 = .ok (.aload_n 0, 1) := by decide +kernel
theorem dX11_come_33 : decode cX11_come 33 = .ok (.getfield 183, 3) := by decide +kernel
theorem dX11_come_36 : decode cX11_come 36 = .ok (.iload_n 1, 1) := by decide +kernel
theorem dX11_come_37 : decode cX11_come 37 = .ok (.iaload, 1) := by decide +kernel
theorem dX11_come_38 : decode cX11_come 38 = .ok (.invokevirtual 499, 3) := by decide +kernel
theorem dX11_come_41 : decode cX11_come 41 = .ok (.aload_n 0, 1) := by decide +kernel
theorem dX11_come_42 : decode cX11_come 42 = .ok (.iload_n 1, 1) := by decide +kernel
theorem dX11_come_43 : decode cX11_come 43 = .ok (.invokevirtual 502, 3) := by decide +kernel
theorem dX11_come_46 : decode cX11_come 46 = .ok (.ireturn, 1) := by decide +kernel
theorem dX11_slip_0 : decode cX11_slip 0 = .ok (.aload_n 0, 1) := by decide +kernel
theorem dX11_slip_1 : decode cX11_slip 1 = .ok (.iload_n 1, 1) := by decide +kernel
theorem dX11_slip_2 : decode cX11_slip 2 = .ok (.invokevirtual 466, 3) := by decide +kernel
theorem dX11_slip_5 : decode cX11_slip 5 = .ok (.ifCond .eq 49, 3) := by decide +kernel
theorem dX11_slip_8 : decode cX11_slip 8 = .ok (.aload_n 0, 1) := by decide +kernel
theorem dX11_slip_9 : decode cX11_slip 9 = .ok (.iload_n 1, 1) := by decide +kernel
theorem dX11_slip_10 : decode cX11_slip 10 = .ok (.invokevirtual 493, 3) := by decide +kernel
theorem dX11_slip_13 : decode cX11_slip 13 = .ok (.ifCond .eq 41, 3) := by decide +kernel
theorem dX11_slip_16 : decode cX11_slip 16 = .ok (.iload_n 2, 1) := by decide +kernel
theorem dX11_slip_17 : decode cX11_slip 17 = .ok (.iconst 0, 1) := by decide +kernel
theorem dX11_slip_18 : decode cX11_slip 18 = .ok (.aload_n 0, 1) := by decide +kernel
theorem dX11_slip_19 : decode cX11_slip 19 = .ok (.getfield 54, 3) := by decide +kernel
theorem dX11_slip_22 : decode cX11_slip 22 = .ok (.aload_n 0, 1) := by decide +kernel
theorem dX11_slip_23 : decode cX11_slip 23 = .ok (.getfield 48, 3) := by decide +kernel
theorem dX11_slip_26 : decode cX11_slip 26 = .ok (.iaload, 1) := by decide +kernel
theorem dX11_slip_27 : decode cX11_slip 27 = .ok (.iconst 1, 1) := by decide +kernel
theorem dX11_slip_28 : decode cX11_slip 28 = .ok (.isub, 1) := by decide +kernel
theorem dX11_slip_29 : decode cX11_slip 29 = .ok (.invokestatic 324, 3) := by decide +kernel
theorem dX11_slip_32 : decode cX11_slip 32 = .ok (.ifCond .eq 22, 3) := by decide +kernel
theorem dX11_slip_35 : decode cX11_slip 35 = .ok (.iload_n 3, 1) := by decide +kernel
theorem dX11_slip_36 : decode cX11_slip 36 = .ok (.iconst 0, 1) := by decide +kernel
theorem dX11_slip_37 : decode cX11_slip 37 = .ok (.aload_n 0, 1) := by decide +kernel
theorem dX11_slip_38 : decode cX11_slip 38 = .ok (.getfield 51, 3) := by decide +kernel
theorem dX11_slip_41 : decode cX11_slip 41 = .ok (.aload_n 0, 1) := by decide +kernel
theorem dX11_slip_42 : decode cX11_slip 42 = .ok (.getfield 48, 3) := by decide +kernel
theorem dX11_slip_45 : decode cX11_slip 45 = .ok (.iaload, 1) := by decide +kernel
theorem dX11_slip_46 : decode cX11_slip 46 = .ok (.iconst 1, 1) := by decide +kernel
theorem dX11_slip_47 : decode cX11_slip 47 = .ok (.isub, 1) := by decide +kernel
theorem dX11_slip_48 : decode cX11_slip 48 = .ok (.invokestatic 324, 3) := by decide +kernel
theorem dX11_slip_51 : decode cX11_slip 51 = .ok (.ifCond .ne 8, 3) := by decide +kernel
theorem dX11_slip_54 : decode cX11_slip 54 = .ok (.aload_n 0, 1) := by decide +kernel
theorem dX11_slip_55 : decode cX11_slip 55 = .ok (.invokevirtual 496, 3) := by decide +kernel
theorem dX11_slip_58 : decode cX11_slip 58 = .ok (.ireturn, 1) := by decide +kernel
theorem dX11_slip_59 : decode cX11_slip 59 = .ok (.aload_n 0, 1) := by decide +kernel
theorem dX11_slip_60 : decode cX11_slip 60 = .ok (.aload_n 0, 1) := by decide +kernel
theorem dX11_slip_61 : decode cX11_slip 61 = .ok (.getfield 106, 3) := by decide +kernel
theorem dX11_slip_64 : decode cX11_slip 64 = .ok (.aload_n 0, 1) := by decide +kernel
theorem dX11_slip_65 : decode cX11_slip 65 = .ok (.iload_n 1, 1) := by decide +kernel
theorem dX11_slip_66 : decode cX11_slip 66 = .ok (.invokevirtual 453, 3) := by decide +kernel
theorem dX11_slip_69 : decode cX11_slip 69 = .ok (.iaload, 1) := by decide +kernel
theorem dX11_slip_70 : decode cX11_slip 70 = .ok (.aload_n 0, 1) := by decide +kernel
theorem dX11_slip_71 : decode cX11_slip 71 = .ok (.getfield 183, 3) := by decide +kernel
theorem dX11_slip_74 : decode cX11_slip 74 = .ok (.iload_n 1, 1) := by decide +kernel
theorem dX11_slip_75 : decode cX11_slip 75 = .ok (.iaload, 1) := by decide +kernel
theorem dX11_slip_76 : decode cX11_slip 76 = .ok (.invokevirtual 499, 3) := by decide +kernel
theorem dX11_slip_79 : decode cX11_slip 79 = .ok (.aload_n 0, 1) := by decide +kernel
theorem dX11_slip_80 : decode cX11_slip 80 = .ok (.getfield 210, 3) := by decide +kernel
theorem dX11_slip_83 : decode cX11_slip 83 = .ok (.iload_n 2, 1) := by decide +kernel
theorem dX11_slip_84 : decode cX11_slip 84 = .ok (.iaload, 1) := by decide +kernel
theorem dX11_slip_85 : decode cX11_slip 85 = .ok (.iload_n 3, 1) := by decide +kernel
theorem dX11_slip_86 : decode cX11_slip 86 = .ok (.if_icmp .ne 8, 3) := by decide +kernel
theorem dX11_slip_89 : decode cX11_slip 89 = .ok (.aload_n 0, 1) := by decide +kernel
theorem dX11_slip_90 : decode cX11_slip 90 = .ok (.invokevirtual 496, 3) := by decide +kernel
theorem dX11_slip_93 : decode cX11_slip 93 = .ok (.ireturn, 1) := by decide +kernel
theorem dX11_slip_94 : decode cX11_slip 94 = .ok (.aload_n 0, 1) := by decide +kernel
theorem dX11_slip_95 : decode cX11_slip 95 = .ok (.getfield 210, 3) := by decide +kernel
theorem dX11_slip_98 : decode cX11_slip 98 = .ok (.iload_n 2, 1) := by decide +kernel
theorem dX11_slip_99 : decode cX11_slip 99 = .ok (.iload_n 3, 1) := by decide +kernel
theorem dX11_slip_100 : decode cX11_slip 100 = .ok (.iastore, 1) := by decide +kernel
theorem dX11_slip_101 : decode cX11_slip 101 = .ok (.aload_n 0, 1) := by decide +kernel
theorem dX11_slip_102 : decode cX11_slip 102 = .ok (.invokevirtual 505, 3) := by decide +kernel
theorem dX11_slip_105 : decode cX11_slip 105 = .ok (.aload_n 0, 1) := by decide +kernel
theorem dX11_slip_106 : decode cX11_slip 106 = .ok (.iload_n 1, 1) := by decide +kernel
theorem dX11_slip_107 : decode cX11_slip 107 = .ok (.invokevirtual 502, 3) := by decide +kernel
theorem dX11_slip_110 : decode cX11_slip 110 = .ok (.ireturn, 1) := by decide +kernel
theorem dX11_waste_0 : decode cX11_waste 0 = .ok (.aload_n 0, 1) := by decide +kernel
theorem dX11_waste_1 : decode cX11_waste 1 = .ok (.iload_n 1, 1) := by decide +kernel
theorem dX11_waste_2 : decode cX11_waste 2 = .ok (.invokevirtual 466, 3) := by decide +kernel
theorem dX11_waste_5 : decode cX11_waste 5 = .ok (.ifCond .eq 27, 3) := by decide +kernel
theorem dX11_waste_8 : decode cX11_waste 8 = .ok (.iload_n 2, 1) := by decide +kernel
theorem dX11_waste_9 : decode cX11_waste 9 = .ok (.iconst 1, 1) := by decide +kernel
theorem dX11_waste_10 : decode cX11_waste 10 = .ok (.bipush 99, 2) := by decide +kernel
theorem dX11_waste_12 : decode cX11_waste 12 = .ok (.invokestatic 324, 3) := by decide +kernel
theorem dX11_waste_15 : decode cX11_waste 15 = .ok (.ifCond .eq 17, 3) := by decide +kernel
theorem dX11_waste_18 : decode cX11_waste 18 = .ok (.aload_n 0, 1) := by decide +kernel
theorem dX11_waste_19 : decode cX11_waste 19 = .ok (.getfield 183, 3) := by decide +kernel
theorem dX11_waste_22 : decode cX11_waste 22 = .ok (.iload_n 1, 1) := by decide +kernel
theorem dX11_waste_23 : decode cX11_waste 23 = .ok (.iaload, 1) := by decide +kernel
theorem dX11_waste_24 : decode cX11_waste 24 = .ok (.iload_n 2, 1) := by decide +kernel
theorem dX11_waste_25 : decode cX11_waste 25 = .ok (.iadd, 1) := by decide +kernel
theorem dX11_waste_26 : decode cX11_waste 26 = .ok (.sipush 1000, 3) := by decide +kernel
theorem dX11_waste_29 : decode cX11_waste 29 = .ok (.if_icmp .le 9, 3) := by decide +kernel
theorem dX11_waste_32 : decode cX11_waste 32 = .ok (.aload_n 0, 1) := by decide +kernel
theorem dX11_waste_33 : decode cX11_waste 33 = .ok (.iconst 2, 1) := by decide +kernel
theorem dX11_waste_34 : decode cX11_waste 34 = .ok (.invokevirtual 237, 3) := by decide +kernel
theorem dX11_waste_37 : decode cX11_waste 37 = .ok (.ireturn, 1) := by decide +kernel
theorem dX11_waste_38 : decode cX11_waste 38 = .ok (.aload_n 0, 1) := by decide +kernel
theorem dX11_waste_39 : decode cX11_waste 39 = .ok (.getfield 183, 3) := by decide +kernel
theorem dX11_waste_42 : decode cX11_waste 42 = .ok (.iload_n 1, 1) := by decide +kernel
theorem dX11_waste_43 : decode cX11_waste 43 = .ok (.dup2, 1) := by decide +kernel
theorem dX11_waste_44 : decode cX11_waste 44 = .ok (.iaload, 1) := by decide +kernel
theorem dX11_waste_45 : decode cX11_waste 45 = .ok (.iload_n 2, 1) := by decide +kernel
theorem dX11_waste_46 : decode cX11_waste 46 = .ok (.iadd, 1) := by decide +kernel
theorem dX11_waste_47 : decode cX11_waste 47 = .ok (.iastore, 1) := by decide +kernel
theorem dX11_waste_48 : decode cX11_waste 48 = .ok (.aload_n 0, 1) := by decide +kernel
theorem dX11_waste_49 : decode cX11_waste 49 = .ok (.getfield 183, 3) := by decide +kernel
theorem dX11_waste_52 : decode cX11_waste 52 = .ok (.iload_n 1, 1) := by decide +kernel
theorem dX11_waste_53 : decode cX11_waste 53 = .ok (.iaload, 1) := by decide +kernel
theorem dX11_waste_54 : decode cX11_waste 54 = .ok (.ireturn, 1) := by decide +kernel
theorem dX11_listen_0 : decode cX11_listen 0 = .ok (.aload_n 0, 1) := by decide +kernel
theorem dX11_listen_1 : decode cX11_listen 1 = .ok (.getfield 13, 3) := by decide +kernel
theorem dX11_listen_4 : decode cX11_listen 4 = .ok (.istore_n 2, 1) := by decide +kernel
theorem dX11_listen_5 : decode cX11_listen 5 = .ok (.aload_n 0, 1) := by decide +kernel
theorem dX11_listen_6 : decode cX11_listen 6 = .ok (.iconst 0, 1) := by decide +kernel
theorem dX11_listen_7 : decode cX11_listen 7 = .ok (.putfield 13, 3) := by decide +kernel
theorem dX11_listen_10 : decode cX11_listen 10 = .ok (.aload_n 0, 1) := by decide +kernel
theorem dX11_listen_11 : decode cX11_listen 11 = .ok (.iload_n 1, 1) := by decide +kernel
theorem dX11_listen_12 : decode cX11_listen 12 = .ok (.invokevirtual 456, 3) := by decide +kernel
theorem dX11_listen_15 : decode cX11_listen 15 = .ok (.ifCond .eq 20, 3) := by decide +kernel
theorem dX11_listen_18 : decode cX11_listen 18 = .ok (.iload_n 2, 1) := by decide +kernel
theorem dX11_listen_19 : decode cX11_listen 19 = .ok (.aload_n 0, 1) := by decide +kernel
theorem dX11_listen_20 : decode cX11_listen 20 = .ok (.getfield 54, 3) := by decide +kernel
theorem dX11_listen_23 : decode cX11_listen 23 = .ok (.aload_n 0, 1) := by decide +kernel
theorem dX11_listen_24 : decode cX11_listen 24 = .ok (.getfield 48, 3) := by decide +kernel
theorem dX11_listen_27 : decode cX11_listen 27 = .ok (.iaload, 1) := by decide +kernel
theorem dX11_listen_28 : decode cX11_listen 28 = .ok (.if_icmp .ne 7, 3) := by decide +kernel
theorem dX11_listen_31 : decode cX11_listen 31 = .ok (.iconst 1, 1) := by decide +kernel
theorem dX11_listen_32 : decode cX11_listen 32 = .ok (.goto 4, 3) := by decide +kernel
theorem dX11_listen_35 : decode cX11_listen 35 = .ok (.iconst 0, 1) := by decide +kernel
theorem dX11_listen_36 : decode cX11_listen 36 = .ok (.istore_n 3, 1) := by decide +kernel
theorem dX11_listen_37 : decode cX11_listen 37 = .ok (.iconst 0, 1) := by decide +kernel
theorem dX11_listen_38 : decode cX11_listen 38 = .ok (.istore 4, 2) := by decide +kernel
theorem dX11_listen_40 : decode cX11_listen 40 = .ok (.iload 4, 2) := by decide +kernel
theorem dX11_listen_42 : decode cX11_listen 42 = .ok (.iload_n 2, 1) := by decide +kernel
theorem dX11_listen_43 : decode cX11_listen 43 = .ok (.if_icmp .ge 38, 3) := by decide +kernel
theorem dX11_listen_46 : decode cX11_listen 46 = .ok (.iload_n 3, 1) := by decide +kernel
theorem dX11_listen_47 : decode cX11_listen 47 = .ok (.ifCond .eq 34, 3) := by decide +kernel
theorem dX11_listen_50 : decode cX11_listen 50 = .ok (.aload_n 0, 1) := by decide +kernel
theorem dX11_listen_51 : decode cX11_listen 51 = .ok (.getfield 7, 3) := by decide +kernel
theorem dX11_listen_54 : decode cX11_listen 54 = .ok (.iload 4, 2) := by decide +kernel
theorem dX11_listen_56 : decode cX11_listen 56 = .ok (.iaload, 1) := by decide +kernel
theorem dX11_listen_57 : decode cX11_listen 57 = .ok (.aload_n 0, 1) := by decide +kernel
theorem dX11_listen_58 : decode cX11_listen 58 = .ok (.getfield 51, 3) := by decide +kernel
theorem dX11_listen_61 : decode cX11_listen 61 = .ok (.aload_n 0, 1) := by decide +kernel
theorem dX11_listen_62 : decode cX11_listen 62 = .ok (.getfield 48, 3) := by decide +kernel
theorem dX11_listen_65 : decode cX11_listen 65 = .ok (.iaload, 1) := by decide +kernel
theorem dX11_listen_66 : decode cX11_listen 66 = .ok (.if_icmp .ge 7, 3) := by decide +kernel
theorem dX11_listen_69 : decode cX11_listen 69 = .ok (.iconst 1, 1) := by decide +kernel
theorem dX11_listen_70 : decode cX11_listen 70 = .ok (.goto 4, 3) := by decide +kernel
theorem dX11_listen_73 : decode cX11_listen 73 = .ok (.iconst 0, 1) := by decide +kernel
theorem dX11_listen_74 : decode cX11_listen 74 = .ok (.istore_n 3, 1) := by decide +kernel
theorem dX11_listen_75 : decode cX11_listen 75 = .ok (.iinc 4 1, 3) := by decide +kernel
theorem dX11_listen_78 : decode cX11_listen 78 = .ok (.goto (-38), 3) := by decide +kernel
theorem dX11_listen_81 : decode cX11_listen 81 = .ok (.iload_n 3, 1) := by decide +kernel
theorem dX11_listen_82 : decode cX11_listen 82 = .ok (.ifCond .ne 8, 3) := by decide +kernel
theorem dX11_listen_85 : decode cX11_listen 85 = .ok (.aload_n 0, 1) := by decide +kernel
theorem dX11_listen_86 : decode cX11_listen 86 = .ok (.invokevirtual 496, 3) := by decide +kernel
theorem dX11_listen_89 : decode cX11_listen 89 = .ok (.ireturn, 1) := by decide +kernel
theorem dX11_listen_90 : decode cX11_listen 90 = .ok (.iconst 0, 1) := by decide +kernel
theorem dX11_listen_91 : decode cX11_listen 91 = .ok (.istore 4, 2) := by decide +kernel
theorem dX11_listen_93 : decode cX11_listen 93 = .ok (.iload 4, 2) := by decide +kernel
theorem dX11_listen_95 : decode cX11_listen 95 = .ok (.iload_n 2, 1) := by decide +kernel
theorem dX11_listen_96 : decode cX11_listen 96 = .ok (.if_icmp .ge 23, 3) := by decide +kernel
theorem dX11_listen_99 : decode cX11_listen 99 = .ok (.aload_n 0, 1) := by decide +kernel
theorem dX11_listen_100 : decode cX11_listen 100 = .ok (.getfield 210, 3) := by decide +kernel
theorem dX11_listen_103 : decode cX11_listen 103 = .ok (.iload 4, 2) := by decide +kernel
theorem dX11_listen_105 : decode cX11_listen 105 = .ok (.aload_n 0, 1) := by decide +kernel
theorem dX11_listen_106 : decode cX11_listen 106 = .ok (.getfield 7, 3) := by decide +kernel
theorem dX11_listen_109 : decode cX11_listen 109 = .ok (.iload 4, 2) := by decide +kernel
theorem dX11_listen_111 : decode cX11_listen 111 = .ok (.iaload, 1) := by decide +kernel
theorem dX11_listen_112 : decode cX11_listen 112 = .ok (.iastore, 1) := by decide +kernel
theorem dX11_listen_113 : decode cX11_listen 113 = .ok (.iinc 4 1, 3) := by decide +kernel
theorem dX11_listen_116 : decode cX11_listen 116 = .ok (.goto (-23), 3) := by decide +kernel
theorem dX11_listen_119 : decode cX11_listen 119 = .ok (.aload_n 0, 1) := by decide +kernel
theorem dX11_listen_120 : decode cX11_listen 120 = .ok (.invokevirtual 505, 3) := by decide +kernel
theorem dX11_listen_123 : decode cX11_listen 123 = .ok (.aload_n 0, 1) := by decide +kernel
theorem dX11_listen_124 : decode cX11_listen 124 = .ok (.iload_n 1, 1) := by decide +kernel
theorem dX11_listen_125 : decode cX11_listen 125 = .ok (.invokevirtual 490, 3) := by decide +kernel
theorem dX11_listen_128 : decode cX11_listen 128 = .ok (.ireturn, 1) := by decide +kernel
theorem dX11_apart_0 : decode cX11_apart 0 = .ok (.aload_n 0, 1) := by decide +kernel
theorem dX11_apart_1 : decode cX11_apart 1 = .ok (.iload_n 1, 1) := by decide +kernel
theorem dX11_apart_2 : decode cX11_apart 2 = .ok (.invokevirtual 466, 3) := by decide +kernel
theorem dX11_apart_5 : decode cX11_apart 5 = .ok (.ifCond .eq 41, 3) := by decide +kernel
theorem dX11_apart_8 : decode cX11_apart 8 = .ok (.aload_n 0, 1) := by decide +kernel
theorem dX11_apart_9 : decode cX11_apart 9 = .ok (.getfield 183, 3) := by decide +kernel
theorem dX11_apart_12 : decode cX11_apart 12 = .ok (.iload_n 1, 1) := by decide +kernel
theorem dX11_apart_13 : decode cX11_apart 13 = .ok (.iaload, 1) := by decide +kernel
theorem dX11_apart_14 : decode cX11_apart 14 = .ok (.aload_n 0, 1) := by decide +kernel
theorem dX11_apart_15 : decode cX11_apart 15 = .ok (.getfield 192, 3) := by decide +kernel
theorem dX11_apart_18 : decode cX11_apart 18 = .ok (.iconst 3, 1) := by decide +kernel
theorem dX11_apart_19 : decode cX11_apart 19 = .ok (.aload_n 0, 1) := by decide +kernel
theorem dX11_apart_20 : decode cX11_apart 20 = .ok (.getfield 103, 3) := by decide +kernel
theorem dX11_apart_23 : decode cX11_apart 23 = .ok (.aload_n 0, 1) := by decide +kernel
theorem dX11_apart_24 : decode cX11_apart 24 = .ok (.iload_n 1, 1) := by decide +kernel
theorem dX11_apart_25 : decode cX11_apart 25 = .ok (.invokevirtual 453, 3) := by decide +kernel
theorem dX11_apart_28 : decode cX11_apart 28 = .ok (.iaload, 1) := by decide +kernel
theorem dX11_apart_29 : decode cX11_apart 29 = .ok (.imul, 1) := by decide +kernel
theorem dX11_apart_30 : decode cX11_apart 30 = .ok (.aload_n 0, 1) := by decide +kernel
theorem dX11_apart_31 : decode cX11_apart 31 = .ok (.getfield 106, 3) := by decide +kernel
theorem dX11_apart_34 : decode cX11_apart 34 = .ok (.aload_n 0, 1) := by decide +kernel
theorem dX11_apart_35 : decode cX11_apart 35 = .ok (.iload_n 1, 1) := by decide +kernel
theorem dX11_apart_36 : decode cX11_apart 36 = .ok (.invokevirtual 453, 3) := by decide +kernel
theorem dX11_apart_39 : decode cX11_apart 39 = .ok (.iaload, 1) := by decide +kernel
theorem dX11_apart_40 : decode cX11_apart 40 = .ok (.iadd, 1) := by decide +kernel
theorem dX11_apart_41 : decode cX11_apart 41 = .ok (.iaload, 1) := by decide +kernel
theorem dX11_apart_42 : decode cX11_apart 42 = .ok (.isub, 1) := by decide +kernel
theorem dX11_apart_43 : decode cX11_apart 43 = .ok (.goto 6, 3) := by decide +kernel
theorem dX11_apart_46 : decode cX11_apart 46 = .ok (.sipush (-10000), 3) := by decide +kernel
theorem dX11_apart_49 : decode cX11_apart 49 = .ok (.ireturn, 1) := by decide +kernel
theorem dX11_keeps_0 : decode cX11_keeps 0 = .ok (.iconst 0, 1) := by decide +kernel
theorem dX11_keeps_1 : decode cX11_keeps 1 = .ok (.istore_n 1, 1) := by decide +kernel
theorem dX11_keeps_2 : decode cX11_keeps 2 = .ok (.iload_n 1, 1) := by decide +kernel
theorem dX11_keeps_3 : decode cX11_keeps 3 = .ok (.iconst 4, 1) := by decide +kernel
theorem dX11_keeps_4 : decode cX11_keeps 4 = .ok (.if_icmp .ge 21, 3) := by decide +kernel
theorem dX11_keeps_7 : decode cX11_keeps 7 = .ok (.aload_n 0, 1) := by decide +kernel
theorem dX11_keeps_8 : decode cX11_keeps 8 = .ok (.getfield 216, 3) := by decide +kernel
theorem dX11_keeps_11 : decode cX11_keeps 11 = .ok (.iload_n 1, 1) := by decide +kernel
theorem dX11_keeps_12 : decode cX11_keeps 12 = .ok (.aload_n 0, 1) := by decide +kernel
theorem dX11_keeps_13 : decode cX11_keeps 13 = .ok (.getfield 183, 3) := by decide +kernel
theorem dX11_keeps_16 : decode cX11_keeps 16 = .ok (.iload_n 1, 1) := by decide +kernel
theorem dX11_keeps_17 : decode cX11_keeps 17 = .ok (.iaload, 1) := by decide +kernel
theorem dX11_keeps_18 : decode cX11_keeps 18 = .ok (.iastore, 1) := by decide +kernel
theorem dX11_keeps_19 : decode cX11_keeps 19 = .ok (.iinc 1 1, 3) := by decide +kernel
theorem dX11_keeps_22 : decode cX11_keeps 22 = .ok (.goto (-20), 3) := by decide +kernel
theorem dX11_keeps_25 : decode cX11_keeps 25 = .ok (.iconst 0, 1) := by decide +kernel
theorem dX11_keeps_26 : decode cX11_keeps 26 = .ok (.istore_n 1, 1) := by decide +kernel
theorem dX11_keeps_27 : decode cX11_keeps 27 = .ok (.iload_n 1, 1) := by decide +kernel
theorem dX11_keeps_28 : decode cX11_keeps 28 = .ok (.bipush 12, 2) := by decide +kernel
theorem dX11_keeps_30 : decode cX11_keeps 30 = .ok (.if_icmp .ge 45, 3) := by decide +kernel
theorem dX11_keeps_33 : decode cX11_keeps 33 = .ok (.aload_n 0, 1) := by decide +kernel
theorem dX11_keeps_34 : decode cX11_keeps 34 = .ok (.getfield 219, 3) := by decide +kernel
theorem dX11_keeps_37 : decode cX11_keeps 37 = .ok (.iload_n 1, 1) := by decide +kernel
theorem dX11_keeps_38 : decode cX11_keeps 38 = .ok (.aload_n 0, 1) := by decide +kernel
theorem dX11_keeps_39 : decode cX11_keeps 39 = .ok (.getfield 192, 3) := by decide +kernel
theorem dX11_keeps_42 : decode cX11_keeps 42 = .ok (.iload_n 1, 1) := by decide +kernel
theorem dX11_keeps_43 : decode cX11_keeps 43 = .ok (.iaload, 1) := by decide +kernel
theorem dX11_keeps_44 : decode cX11_keeps 44 = .ok (.iastore, 1) := by decide +kernel
theorem dX11_keeps_45 : decode cX11_keeps 45 = .ok (.aload_n 0, 1) := by decide +kernel
theorem dX11_keeps_46 : decode cX11_keeps 46 = .ok (.getfield 222, 3) := by decide +kernel
theorem dX11_keeps_49 : decode cX11_keeps 49 = .ok (.iload_n 1, 1) := by decide +kernel
theorem dX11_keeps_50 : decode cX11_keeps 50 = .ok (.aload_n 0, 1) := by decide +kernel
theorem dX11_keeps_51 : decode cX11_keeps 51 = .ok (.getfield 195, 3) := by decide +kernel
theorem dX11_keeps_54 : decode cX11_keeps 54 = .ok (.iload_n 1, 1) := by decide +kernel
theorem dX11_keeps_55 : decode cX11_keeps 55 = .ok (.iaload, 1) := by decide +kernel
theorem dX11_keeps_56 : decode cX11_keeps 56 = .ok (.iastore, 1) := by decide +kernel
theorem dX11_keeps_57 : decode cX11_keeps 57 = .ok (.aload_n 0, 1) := by decide +kernel
theorem dX11_keeps_58 : decode cX11_keeps 58 = .ok (.getfield 225, 3) := by decide +kernel
theorem dX11_keeps_61 : decode cX11_keeps 61 = .ok (.iload_n 1, 1) := by decide +kernel
theorem dX11_keeps_62 : decode cX11_keeps 62 = .ok (.aload_n 0, 1) := by decide +kernel
theorem dX11_keeps_63 : decode cX11_keeps 63 = .ok (.getfield 198, 3) := by decide +kernel
theorem dX11_keeps_66 : decode cX11_keeps 66 = .ok (.iload_n 1, 1) := by decide +kernel
theorem dX11_keeps_67 : decode cX11_keeps 67 = .ok (.iaload, 1) := by decide +kernel
theorem dX11_keeps_68 : decode cX11_keeps 68 = .ok (.iastore, 1) := by decide +kernel
theorem dX11_keeps_69 : decode cX11_keeps 69 = .ok (.iinc 1 1, 3) := by decide +kernel
theorem dX11_keeps_72 : decode cX11_keeps 72 = .ok (.goto (-45), 3) := by decide +kernel
theorem dX11_keeps_75 : decode cX11_keeps 75 = .ok (.return_, 1) := by decide +kernel
theorem dX11_back_0 : decode cX11_back 0 = .ok (.iconst 0, 1) := by decide +kernel
theorem dX11_back_1 : decode cX11_back 1 = .ok (.istore_n 1, 1) := by decide +kernel
theorem dX11_back_2 : decode cX11_back 2 = .ok (.iload_n 1, 1) := by decide +kernel
theorem dX11_back_3 : decode cX11_back 3 = .ok (.iconst 4, 1) := by decide +kernel
theorem dX11_back_4 : decode cX11_back 4 = .ok (.if_icmp .ge 21, 3) := by decide +kernel
theorem dX11_back_7 : decode cX11_back 7 = .ok (.aload_n 0, 1) := by decide +kernel
theorem dX11_back_8 : decode cX11_back 8 = .ok (.getfield 183, 3) := by decide +kernel
theorem dX11_back_11 : decode cX11_back 11 = .ok (.iload_n 1, 1) := by decide +kernel
theorem dX11_back_12 : decode cX11_back 12 = .ok (.aload_n 0, 1) := by decide +kernel
theorem dX11_back_13 : decode cX11_back 13 = .ok (.getfield 216, 3) := by decide +kernel
theorem dX11_back_16 : decode cX11_back 16 = .ok (.iload_n 1, 1) := by decide +kernel
theorem dX11_back_17 : decode cX11_back 17 = .ok (.iaload, 1) := by decide +kernel
theorem dX11_back_18 : decode cX11_back 18 = .ok (.iastore, 1) := by decide +kernel
theorem dX11_back_19 : decode cX11_back 19 = .ok (.iinc 1 1, 3) := by decide +kernel
theorem dX11_back_22 : decode cX11_back 22 = .ok (.goto (-20), 3) := by decide +kernel
theorem dX11_back_25 : decode cX11_back 25 = .ok (.iconst 0, 1) := by decide +kernel
theorem dX11_back_26 : decode cX11_back 26 = .ok (.istore_n 1, 1) := by decide +kernel
theorem dX11_back_27 : decode cX11_back 27 = .ok (.iload_n 1, 1) := by decide +kernel
theorem dX11_back_28 : decode cX11_back 28 = .ok (.bipush 12, 2) := by decide +kernel
theorem dX11_back_30 : decode cX11_back 30 = .ok (.if_icmp .ge 45, 3) := by decide +kernel
theorem dX11_back_33 : decode cX11_back 33 = .ok (.aload_n 0, 1) := by decide +kernel
theorem dX11_back_34 : decode cX11_back 34 = .ok (.getfield 192, 3) := by decide +kernel
theorem dX11_back_37 : decode cX11_back 37 = .ok (.iload_n 1, 1) := by decide +kernel
theorem dX11_back_38 : decode cX11_back 38 = .ok (.aload_n 0, 1) := by decide +kernel
theorem dX11_back_39 : decode cX11_back 39 = .ok (.getfield 219, 3) := by decide +kernel
theorem dX11_back_42 : decode cX11_back 42 = .ok (.iload_n 1, 1) := by decide +kernel
theorem dX11_back_43 : decode cX11_back 43 = .ok (.iaload, 1) := by decide +kernel
theorem dX11_back_44 : decode cX11_back 44 = .ok (.iastore, 1) := by decide +kernel
theorem dX11_back_45 : decode cX11_back 45 = .ok (.aload_n 0, 1) := by decide +kernel
theorem dX11_back_46 : decode cX11_back 46 = .ok (.getfield 195, 3) := by decide +kernel
theorem dX11_back_49 : decode cX11_back 49 = .ok (.iload_n 1, 1) := by decide +kernel
theorem dX11_back_50 : decode cX11_back 50 = .ok (.aload_n 0, 1) := by decide +kernel
theorem dX11_back_51 : decode cX11_back 51 = .ok (.getfield 222, 3) := by decide +kernel
theorem dX11_back_54 : decode cX11_back 54 = .ok (.iload_n 1, 1) := by decide +kernel
theorem dX11_back_55 : decode cX11_back 55 = .ok (.iaload, 1) := by decide +kernel
theorem dX11_back_56 : decode cX11_back 56 = .ok (.iastore, 1) := by decide +kernel
theorem dX11_back_57 : decode cX11_back 57 = .ok (.aload_n 0, 1) := by decide +kernel
theorem dX11_back_58 : decode cX11_back 58 = .ok (.getfield 198, 3) := by decide +kernel
theorem dX11_back_61 : decode cX11_back 61 = .ok (.iload_n 1, 1) := by decide +kernel
theorem dX11_back_62 : decode cX11_back 62 = .ok (.aload_n 0, 1) := by decide +kernel
theorem dX11_back_63 : decode cX11_back 63 = .ok (.getfield 225, 3) := by decide +kernel
theorem dX11_back_66 : decode cX11_back 66 = .ok (.iload_n 1, 1) := by decide +kernel
theorem dX11_back_67 : decode cX11_back 67 = .ok (.iaload, 1) := by decide +kernel
theorem dX11_back_68 : decode cX11_back 68 = .ok (.iastore, 1) := by decide +kernel
theorem dX11_back_69 : decode cX11_back 69 = .ok (.iinc 1 1, 3) := by decide +kernel
theorem dX11_back_72 : decode cX11_back 72 = .ok (.goto (-45), 3) := by decide +kernel
theorem dX11_back_75 : decode cX11_back 75 = .ok (.return_, 1) := by decide +kernel
theorem dX11_isLetIn_0 : decode cX11_isLetIn 0 = .ok (.aload_n 0, 1) := by decide +kernel
theorem dX11_isLetIn_1 : decode cX11_isLetIn 1 = .ok (.iload_n 1, 1) := by decide +kernel
theorem dX11_isLetIn_2 : decode cX11_isLetIn 2 = .ok (.invokevirtual 493, 3) := by decide +kernel
theorem dX11_isLetIn_5 : decode cX11_isLetIn 5 = .ok (.ifCond .ne 5, 3) := by decide +kernel
theorem dX11_isLetIn_8 : decode cX11_isLetIn 8 = .ok (.iconst 0, 1) := by decide +kernel
theorem dX11_isLetIn_9 : decode cX11_isLetIn 9 = .ok (.ireturn, 1) := by decide +kernel
theorem dX11_isLetIn_10 : decode cX11_isLetIn 10 = .ok (.aload_n 0, 1) := by decide +kernel
theorem dX11_isLetIn_11 : decode cX11_isLetIn 11 = .ok (.aload_n 0, 1) := by decide +kernel
theorem dX11_isLetIn_12 : decode cX11_isLetIn 12 = .ok (.getfield 106, 3) := by decide +kernel
theorem dX11_isLetIn_15 : decode cX11_isLetIn 15 = .ok (.aload_n 0, 1) := by decide +kernel
theorem dX11_isLetIn_16 : decode cX11_isLetIn 16 = .ok (.iload_n 1, 1) := by decide +kernel
theorem dX11_isLetIn_17 : decode cX11_isLetIn 17 = .ok (.invokevirtual 453, 3) := by decide +kernel
theorem dX11_isLetIn_20 : decode cX11_isLetIn 20 = .ok (.iaload, 1) := by decide +kernel
theorem dX11_isLetIn_21 : decode cX11_isLetIn 21 = .ok (.aload_n 0, 1) := by decide +kernel
theorem dX11_isLetIn_22 : decode cX11_isLetIn 22 = .ok (.getfield 183, 3) := by decide +kernel
theorem dX11_isLetIn_25 : decode cX11_isLetIn 25 = .ok (.iload_n 1, 1) := by decide +kernel
theorem dX11_isLetIn_26 : decode cX11_isLetIn 26 = .ok (.iaload, 1) := by decide +kernel
theorem dX11_isLetIn_27 : decode cX11_isLetIn 27 = .ok (.invokevirtual 499, 3) := by decide +kernel
theorem dX11_isLetIn_30 : decode cX11_isLetIn 30 = .ok (.aload_n 0, 1) := by decide +kernel
theorem dX11_isLetIn_31 : decode cX11_isLetIn 31 = .ok (.getfield 183, 3) := by decide +kernel
theorem dX11_isLetIn_34 : decode cX11_isLetIn 34 = .ok (.iload_n 1, 1) := by decide +kernel
theorem dX11_isLetIn_35 : decode cX11_isLetIn 35 = .ok (.dup2, 1) := by decide +kernel
theorem dX11_isLetIn_36 : decode cX11_isLetIn 36 = .ok (.iaload, 1) := by decide +kernel
theorem dX11_isLetIn_37 : decode cX11_isLetIn 37 = .ok (.iconst 1, 1) := by decide +kernel
theorem dX11_isLetIn_38 : decode cX11_isLetIn 38 = .ok (.iadd, 1) := by decide +kernel
theorem dX11_isLetIn_39 : decode cX11_isLetIn 39 = .ok (.iastore, 1) := by decide +kernel
theorem dX11_isLetIn_40 : decode cX11_isLetIn 40 = .ok (.aload_n 0, 1) := by decide +kernel
theorem dX11_isLetIn_41 : decode cX11_isLetIn 41 = .ok (.aload_n 0, 1) := by decide +kernel
theorem dX11_isLetIn_42 : decode cX11_isLetIn 42 = .ok (.getfield 103, 3) := by decide +kernel
theorem dX11_isLetIn_45 : decode cX11_isLetIn 45 = .ok (.aload_n 0, 1) := by decide +kernel
theorem dX11_isLetIn_46 : decode cX11_isLetIn 46 = .ok (.iload_n 1, 1) := by decide +kernel
theorem dX11_isLetIn_47 : decode cX11_isLetIn 47 = .ok (.invokevirtual 453, 3) := by decide +kernel
theorem dX11_isLetIn_50 : decode cX11_isLetIn 50 = .ok (.iaload, 1) := by decide +kernel
theorem dX11_isLetIn_51 : decode cX11_isLetIn 51 = .ok (.invokevirtual 487, 3) := by decide +kernel
theorem dX11_isLetIn_54 : decode cX11_isLetIn 54 = .ok (.iconst (-1), 1) := by decide +kernel
theorem dX11_isLetIn_55 : decode cX11_isLetIn 55 = .ok (.if_icmp .eq 7, 3) := by decide +kernel
theorem dX11_isLetIn_58 : decode cX11_isLetIn 58 = .ok (.iconst 1, 1) := by decide +kernel
theorem dX11_isLetIn_59 : decode cX11_isLetIn 59 = .ok (.goto 4, 3) := by decide +kernel
theorem dX11_isLetIn_62 : decode cX11_isLetIn 62 = .ok (.iconst 0, 1) := by decide +kernel
theorem dX11_isLetIn_63 : decode cX11_isLetIn 63 = .ok (.ireturn, 1) := by decide +kernel
theorem dX11_mend_0 : decode cX11_mend 0 = .ok (.aload_n 0, 1) := by decide +kernel
theorem dX11_mend_1 : decode cX11_mend 1 = .ok (.iload_n 1, 1) := by decide +kernel
theorem dX11_mend_2 : decode cX11_mend 2 = .ok (.invokevirtual 466, 3) := by decide +kernel
theorem dX11_mend_5 : decode cX11_mend 5 = .ok (.ifCond .ne 5, 3) := by decide +kernel
theorem dX11_mend_8 : decode cX11_mend 8 = .ok (.iconst (-1), 1) := by decide +kernel
theorem dX11_mend_9 : decode cX11_mend 9 = .ok (.ireturn, 1) := by decide +kernel
theorem dX11_mend_10 : decode cX11_mend 10 = .ok (.aload_n 0, 1) := by decide +kernel
theorem dX11_mend_11 : decode cX11_mend 11 = .ok (.invokevirtual 508, 3) := by decide +kernel
theorem dX11_mend_14 : decode cX11_mend 14 = .ok (.iconst (-1), 1) := by decide +kernel
theorem dX11_mend_15 : decode cX11_mend 15 = .ok (.istore_n 2, 1) := by decide +kernel
theorem dX11_mend_16 : decode cX11_mend 16 = .ok (.iconst 1, 1) := by decide +kernel
theorem dX11_mend_17 : decode cX11_mend 17 = .ok (.istore_n 3, 1) := by decide +kernel
theorem dX11_mend_18 : decode cX11_mend 18 = .ok (.iload_n 3, 1) := by decide +kernel
theorem dX11_mend_19 : decode cX11_mend 19 = .ok (.bipush 50, 2) := by decide +kernel
theorem dX11_mend_21 : decode cX11_mend 21 = .ok (.if_icmp .gt 36, 3) := by decide +kernel
theorem dX11_mend_24 : decode cX11_mend 24 = .ok (.iload_n 2, 1) := by decide +kernel
theorem dX11_mend_25 : decode cX11_mend 25 = .ok (.iconst (-1), 1) := by decide +kernel
theorem dX11_mend_26 : decode cX11_mend 26 = .ok (.if_icmp .ne 31, 3) := by decide +kernel
theorem dX11_mend_29 : decode cX11_mend 29 = .ok (.aload_n 0, 1) := by decide +kernel
theorem dX11_mend_30 : decode cX11_mend 30 = .ok (.iload_n 1, 1) := by decide +kernel
theorem dX11_mend_31 : decode cX11_mend 31 = .ok (.invokevirtual 493, 3) := by decide +kernel
theorem dX11_mend_34 : decode cX11_mend 34 = .ok (.ifCond .eq 23, 3) := by decide +kernel
theorem dX11_mend_37 : decode cX11_mend 37 = .ok (.aload_n 0, 1) := by decide +kernel
theorem dX11_mend_38 : decode cX11_mend 38 = .ok (.iload_n 1, 1) := by decide +kernel
theorem dX11_mend_39 : decode cX11_mend 39 = .ok (.invokevirtual 511, 3) := by decide +kernel
theorem dX11_mend_42 : decode cX11_mend 42 = .ok (.ifCond .eq 7, 3) := by decide +kernel
theorem dX11_mend_45 : decode cX11_mend 45 = .ok (.iload_n 3, 1) := by decide +kernel
theorem dX11_mend_46 : decode cX11_mend 46 = .ok (.goto 4, 3) := by decide +kernel
theorem dX11_mend_49 : decode cX11_mend 49 = .ok (.iconst (-1), 1) := by decide +kernel
theorem dX11_mend_50 : decode cX11_mend 50 = .ok (.istore_n 2, 1) := by decide +kernel
theorem dX11_mend_51 : decode cX11_mend 51 = .ok (.iinc 3 1, 3) := by decide +kernel
theorem dX11_mend_54 : decode cX11_mend 54 = .ok (.goto (-36), 3) := by decide +kernel
theorem dX11_mend_57 : decode cX11_mend 57 = .ok (.aload_n 0, 1) := by decide +kernel
theorem dX11_mend_58 : decode cX11_mend 58 = .ok (.invokevirtual 514, 3) := by decide +kernel
theorem dX11_mend_61 : decode cX11_mend 61 = .ok (.iload_n 2, 1) := by decide +kernel
theorem dX11_mend_62 : decode cX11_mend 62 = .ok (.ireturn, 1) := by decide +kernel
theorem dX11_would_0 : decode cX11_would 0 = .ok (.aload_n 0, 1) := by decide +kernel
theorem dX11_would_1 : decode cX11_would 1 = .ok (.iload_n 1, 1) := by decide +kernel
theorem dX11_would_2 : decode cX11_would 2 = .ok (.invokevirtual 456, 3) := by decide +kernel
theorem dX11_would_5 : decode cX11_would 5 = .ok (.ifCond .ne 5, 3) := by decide +kernel
theorem dX11_would_8 : decode cX11_would 8 = .ok (.iconst (-1), 1) := by decide +kernel
theorem dX11_would_9 : decode cX11_would 9 = .ok (.ireturn, 1) := by decide +kernel
theorem dX11_would_10 : decode cX11_would 10 = .ok (.iconst 0, 1) := by decide +kernel
theorem dX11_would_11 : decode cX11_would 11 = .ok (.istore_n 2, 1) := by decide +kernel
theorem dX11_would_12 : decode cX11_would 12 = .ok (.aload_n 0, 1) := by decide +kernel
theorem dX11_would_13 : decode cX11_would 13 = .ok (.invokevirtual 508, 3) := by decide +kernel
theorem dX11_would_16 : decode cX11_would 16 = .ok (.iconst 0, 1) := by decide +kernel
theorem dX11_would_17 : decode cX11_would 17 = .ok (.istore_n 3, 1) := by decide +kernel
theorem dX11_would_18 : decode cX11_would 18 = .ok (.iload_n 3, 1) := by decide +kernel
theorem dX11_would_19 : decode cX11_would 19 = .ok (.aload_n 0, 1) := by decide +kernel
theorem dX11_would_20 : decode cX11_would 20 = .ok (.getfield 97, 3) := by decide +kernel
theorem dX11_would_23 : decode cX11_would 23 = .ok (.aload_n 0, 1) := by decide +kernel
theorem dX11_would_24 : decode cX11_would 24 = .ok (.getfield 48, 3) := by decide +kernel
theorem dX11_would_27 : decode cX11_would 27 = .ok (.iaload, 1) := by decide +kernel
theorem dX11_would_28 : decode cX11_would 28 = .ok (.if_icmp .ge 48, 3) := by decide +kernel
theorem dX11_would_31 : decode cX11_would 31 = .ok (.aload_n 0, 1) := by decide +kernel
theorem dX11_would_32 : decode cX11_would 32 = .ok (.getfield 103, 3) := by decide +kernel
theorem dX11_would_35 : decode cX11_would 35 = .ok (.aload_n 0, 1) := by decide +kernel
theorem dX11_would_36 : decode cX11_would 36 = .ok (.iload_n 3, 1) := by decide +kernel
theorem dX11_would_37 : decode cX11_would 37 = .ok (.invokevirtual 453, 3) := by decide +kernel
theorem dX11_would_40 : decode cX11_would 40 = .ok (.iaload, 1) := by decide +kernel
theorem dX11_would_41 : decode cX11_would 41 = .ok (.iload_n 1, 1) := by decide +kernel
theorem dX11_would_42 : decode cX11_would 42 = .ok (.if_icmp .eq 6, 3) := by decide +kernel
theorem dX11_would_45 : decode cX11_would 45 = .ok (.goto 25, 3) := by decide +kernel
theorem dX11_would_48 : decode cX11_would 48 = .ok (.iload_n 2, 1) := by decide +kernel
theorem dX11_would_49 : decode cX11_would 49 = .ok (.aload_n 0, 1) := by decide +kernel
theorem dX11_would_50 : decode cX11_would 50 = .ok (.iload_n 3, 1) := by decide +kernel
theorem dX11_would_51 : decode cX11_would 51 = .ok (.invokevirtual 511, 3) := by decide +kernel
theorem dX11_would_54 : decode cX11_would 54 = .ok (.ifCond .eq 9, 3) := by decide +kernel
theorem dX11_would_57 : decode cX11_would 57 = .ok (.iconst 1, 1) := by decide +kernel
theorem dX11_would_58 : decode cX11_would 58 = .ok (.iload_n 3, 1) := by decide +kernel
theorem dX11_would_59 : decode cX11_would 59 = .ok (.ishl, 1) := by decide +kernel
theorem dX11_would_60 : decode cX11_would 60 = .ok (.goto 4, 3) := by decide +kernel
theorem dX11_would_63 : decode cX11_would 63 = .ok (.iconst 0, 1) := by decide +kernel
theorem dX11_would_64 : decode cX11_would 64 = .ok (.ior, 1) := by decide +kernel
theorem dX11_would_65 : decode cX11_would 65 = .ok (.istore_n 2, 1) := by decide +kernel
theorem dX11_would_66 : decode cX11_would 66 = .ok (.aload_n 0, 1) := by decide +kernel
theorem dX11_would_67 : decode cX11_would 67 = .ok (.invokevirtual 514, 3) := by decide +kernel
theorem dX11_would_70 : decode cX11_would 70 = .ok (.iinc 3 1, 3) := by decide +kernel
theorem dX11_would_73 : decode cX11_would 73 = .ok (.goto (-55), 3) := by decide +kernel
theorem dX11_would_76 : decode cX11_would 76 = .ok (.iload_n 2, 1) := by decide +kernel
theorem dX11_would_77 : decode cX11_would 77 = .ok (.ireturn, 1) := by decide +kernel
theorem dX11_bears_0 : decode cX11_bears 0 = .ok (.aload_n 0, 1) := by decide +kernel
theorem dX11_bears_1 : decode cX11_bears 1 = .ok (.iload_n 1, 1) := by decide +kernel
theorem dX11_bears_2 : decode cX11_bears 2 = .ok (.invokevirtual 466, 3) := by decide +kernel
theorem dX11_bears_5 : decode cX11_bears 5 = .ok (.ifCond .ne 5, 3) := by decide +kernel
theorem dX11_bears_8 : decode cX11_bears 8 = .ok (.iconst (-1), 1) := by decide +kernel
theorem dX11_bears_9 : decode cX11_bears 9 = .ok (.ireturn, 1) := by decide +kernel
theorem dX11_bears_10 : decode cX11_bears 10 = .ok (.aload_n 0, 1) := by decide +kernel
theorem dX11_bears_11 : decode cX11_bears 11 = .ok (.invokevirtual 508, 3) := by decide +kernel
theorem dX11_bears_14 : decode cX11_bears 14 = .ok (.iconst (-1), 1) := by decide +kernel
theorem dX11_bears_15 : decode cX11_bears 15 = .ok (.istore_n 2, 1) := by decide +kernel
theorem dX11_bears_16 : decode cX11_bears 16 = .ok (.iconst 0, 1) := by decide +kernel
theorem dX11_bears_17 : decode cX11_bears 17 = .ok (.istore_n 3, 1) := by decide +kernel
theorem dX11_bears_18 : decode cX11_bears 18 = .ok (.iload_n 3, 1) := by decide +kernel
theorem dX11_bears_19 : decode cX11_bears 19 = .ok (.bipush 60, 2) := by decide +kernel
theorem dX11_bears_21 : decode cX11_bears 21 = .ok (.if_icmp .gt 39, 3) := by decide +kernel
theorem dX11_bears_24 : decode cX11_bears 24 = .ok (.aload_n 0, 1) := by decide +kernel
theorem dX11_bears_25 : decode cX11_bears 25 = .ok (.getfield 183, 3) := by decide +kernel
theorem dX11_bears_28 : decode cX11_bears 28 = .ok (.iload_n 1, 1) := by decide +kernel
theorem dX11_bears_29 : decode cX11_bears 29 = .ok (.dup2, 1) := by decide +kernel
theorem dX11_bears_30 : decode cX11_bears 30 = .ok (.iaload, 1) := by decide +kernel
theorem dX11_bears_31 : decode cX11_bears 31 = .ok (.iload_n 3, 1) := by decide +kernel
theorem dX11_bears_32 : decode cX11_bears 32 = .ok (.iadd, 1) := by decide +kernel
theorem dX11_bears_33 : decode cX11_bears 33 = .ok (.iastore, 1) := by decide +kernel
theorem dX11_bears_34 : decode cX11_bears 34 = .ok (.aload_n 0, 1) := by decide +kernel
theorem dX11_bears_35 : decode cX11_bears 35 = .ok (.iload_n 1, 1) := by decide +kernel
theorem dX11_bears_36 : decode cX11_bears 36 = .ok (.invokevirtual 511, 3) := by decide +kernel
theorem dX11_bears_39 : decode cX11_bears 39 = .ok (.istore 4, 2) := by decide +kernel
theorem dX11_bears_41 : decode cX11_bears 41 = .ok (.aload_n 0, 1) := by decide +kernel
theorem dX11_bears_42 : decode cX11_bears 42 = .ok (.invokevirtual 514, 3) := by decide +kernel
theorem dX11_bears_45 : decode cX11_bears 45 = .ok (.iload 4, 2) := by decide +kernel
theorem dX11_bears_47 : decode cX11_bears 47 = .ok (.ifCond .ne 5, 3) := by decide +kernel
theorem dX11_bears_50 : decode cX11_bears 50 = .ok (.iload_n 2, 1) := by decide +kernel
theorem dX11_bears_51 : decode cX11_bears 51 = .ok (.ireturn, 1) := by decide +kernel
theorem dX11_bears_52 : decode cX11_bears 52 = .ok (.iload_n 3, 1) := by decide +kernel
theorem dX11_bears_53 : decode cX11_bears 53 = .ok (.istore_n 2, 1) := by decide +kernel
theorem dX11_bears_54 : decode cX11_bears 54 = .ok (.iinc 3 1, 3) := by decide +kernel
theorem dX11_bears_57 : decode cX11_bears 57 = .ok (.goto (-39), 3) := by decide +kernel
theorem dX11_bears_60 : decode cX11_bears 60 = .ok (.iload_n 2, 1) := by decide +kernel
theorem dX11_bears_61 : decode cX11_bears 61 = .ok (.ireturn, 1) := by decide +kernel
theorem dX11_waysOf_0 : decode cX11_waysOf 0 = .ok (.lconst 0, 1) := by decide +kernel
theorem dX11_waysOf_1 : decode cX11_waysOf 1 = .ok (.lstore 4, 2) := by decide +kernel
theorem dX11_waysOf_3 : decode cX11_waysOf 3 = .ok (.aload_n 0, 1) := by decide +kernel
theorem dX11_waysOf_4 : decode cX11_waysOf 4 = .ok (.getfield 109, 3) := by decide +kernel
theorem dX11_waysOf_7 : decode cX11_waysOf 7 = .ok (.aload_n 0, 1) := by decide +kernel
theorem dX11_waysOf_8 : decode cX11_waysOf 8 = .ok (.iload_n 1, 1) := by decide +kernel
theorem dX11_waysOf_9 : decode cX11_waysOf 9 = .ok (.invokevirtual 453, 3) := by decide +kernel
theorem dX11_waysOf_12 : decode cX11_waysOf 12 = .ok (.iaload, 1) := by decide +kernel
theorem dX11_waysOf_13 : decode cX11_waysOf 13 = .ok (.istore 6, 2) := by decide +kernel
theorem dX11_waysOf_15 : decode cX11_waysOf 15 = .ok (.aload_n 0, 1) := by decide +kernel
theorem dX11_waysOf_16 : decode cX11_waysOf 16 = .ok (.invokevirtual 508, 3) := by decide +kernel
theorem dX11_waysOf_19 : decode cX11_waysOf 19 = .ok (.iconst 0, 1) := by decide +kernel
theorem dX11_waysOf_20 : decode cX11_waysOf 20 = .ok (.istore 7, 2) := by decide +kernel
theorem dX11_waysOf_22 : decode cX11_waysOf 22 = .ok (.iload 7, 2) := by decide +kernel
theorem dX11_waysOf_24 : decode cX11_waysOf 24 = .ok (.iconst 1, 1) := by decide +kernel
theorem dX11_waysOf_25 : decode cX11_waysOf 25 = .ok (.iload_n 2, 1) := by decide +kernel
theorem dX11_waysOf_26 : decode cX11_waysOf 26 = .ok (.ishl, 1) := by decide +kernel
theorem dX11_waysOf_27 : decode cX11_waysOf 27 = .ok (.if_icmp .ge 165, 3) := by decide +kernel
theorem dX11_waysOf_30 : decode cX11_waysOf 30 = .ok (.ldc2_w 517, 3) := by decide +kernel
theorem dX11_waysOf_33 : decode cX11_waysOf 33 = .ok (.lstore 8, 2) := by decide +kernel
theorem dX11_waysOf_35 : decode cX11_waysOf 35 = .ok (.iconst 0, 1) := by decide +kernel
theorem dX11_waysOf_36 : decode cX11_waysOf 36 = .ok (.istore 10, 2) := by decide +kernel
theorem dX11_waysOf_38 : decode cX11_waysOf 38 = .ok (.iconst 0, 1) := by decide +kernel
theorem dX11_waysOf_39 : decode cX11_waysOf 39 = .ok (.istore 11, 2) := by decide +kernel
theorem dX11_waysOf_41 : decode cX11_waysOf 41 = .ok (.iconst 0, 1) := by decide +kernel
theorem dX11_waysOf_42 : decode cX11_waysOf 42 = .ok (.istore 12, 2) := by decide +kernel
theorem dX11_waysOf_44 : decode cX11_waysOf 44 = .ok (.iload 12, 2) := by decide +kernel
theorem dX11_waysOf_46 : decode cX11_waysOf 46 = .ok (.iload_n 2, 1) := by decide +kernel
theorem dX11_waysOf_47 : decode cX11_waysOf 47 = .ok (.if_icmp .ge 107, 3) := by decide +kernel
theorem dX11_waysOf_50 : decode cX11_waysOf 50 = .ok (.iload 7, 2) := by decide +kernel
theorem dX11_waysOf_52 : decode cX11_waysOf 52 = .ok (.iload 12, 2) := by decide +kernel
theorem dX11_waysOf_54 : decode cX11_waysOf 54 = .ok (.ishr, 1) := by decide +kernel
theorem dX11_waysOf_55 : decode cX11_waysOf 55 = .ok (.iconst 1, 1) := by decide +kernel
theorem dX11_waysOf_56 : decode cX11_waysOf 56 = .ok (.iand, 1) := by decide +kernel
theorem dX11_waysOf_57 : decode cX11_waysOf 57 = .ok (.iconst 1, 1) := by decide +kernel
theorem dX11_waysOf_58 : decode cX11_waysOf 58 = .ok (.if_icmp .ne 7, 3) := by decide +kernel
theorem dX11_waysOf_61 : decode cX11_waysOf 61 = .ok (.iconst 1, 1) := by decide +kernel
theorem dX11_waysOf_62 : decode cX11_waysOf 62 = .ok (.goto 4, 3) := by decide +kernel
theorem dX11_waysOf_65 : decode cX11_waysOf 65 = .ok (.iconst 0, 1) := by decide +kernel
theorem dX11_waysOf_66 : decode cX11_waysOf 66 = .ok (.istore 13, 2) := by decide +kernel
theorem dX11_waysOf_68 : decode cX11_waysOf 68 = .ok (.lload 8, 2) := by decide +kernel
theorem dX11_waysOf_70 : decode cX11_waysOf 70 = .ok (.iload 13, 2) := by decide +kernel
theorem dX11_waysOf_72 : decode cX11_waysOf 72 = .ok (.ifCond .eq 8, 3) := by decide +kernel
theorem dX11_waysOf_75 : decode cX11_waysOf 75 = .ok (.iload 6, 2) := by decide +kernel
theorem dX11_waysOf_77 : decode cX11_waysOf 77 = .ok (.goto 8, 3) := by decide +kernel
theorem dX11_waysOf_80 : decode cX11_waysOf 80 = .ok (.bipush 100, 2) := by decide +kernel
theorem dX11_waysOf_82 : decode cX11_waysOf 82 = .ok (.iload 6, 2) := by decide +kernel
theorem dX11_waysOf_84 : decode cX11_waysOf 84 = .ok (.isub, 1) := by decide +kernel
theorem dX11_waysOf_85 : decode cX11_waysOf 85 = .ok (.i2l, 1) := by decide +kernel
theorem dX11_waysOf_86 : decode cX11_waysOf 86 = .ok (.lmul, 1) := by decide +kernel
theorem dX11_waysOf_87 : decode cX11_waysOf 87 = .ok (.ldc2_w 519, 3) := by decide +kernel
theorem dX11_waysOf_90 : decode cX11_waysOf 90 = .ok (.ldiv, 1) := by decide +kernel
theorem dX11_waysOf_91 : decode cX11_waysOf 91 = .ok (.lstore 8, 2) := by decide +kernel
theorem dX11_waysOf_93 : decode cX11_waysOf 93 = .ok (.aload_n 0, 1) := by decide +kernel
theorem dX11_waysOf_94 : decode cX11_waysOf 94 = .ok (.getfield 183, 3) := by decide +kernel
theorem dX11_waysOf_97 : decode cX11_waysOf 97 = .ok (.iload_n 1, 1) := by decide +kernel
theorem dX11_waysOf_98 : decode cX11_waysOf 98 = .ok (.dup2, 1) := by decide +kernel
theorem dX11_waysOf_99 : decode cX11_waysOf 99 = .ok (.iaload, 1) := by decide +kernel
theorem dX11_waysOf_100 : decode cX11_waysOf 100 = .ok (.iload 13, 2) := by decide +kernel
theorem dX11_waysOf_102 : decode cX11_waysOf 102 = .ok (.ifCond .eq 19, 3) := by decide +kernel
theorem dX11_waysOf_105 : decode cX11_waysOf 105 = .ok (.aload_n 0, 1) := by decide +kernel
theorem dX11_waysOf_106 : decode cX11_waysOf 106 = .ok (.getfield 183, 3) := by decide +kernel
theorem dX11_waysOf_109 : decode cX11_waysOf 109 = .ok (.iload_n 1, 1) := by decide +kernel
theorem dX11_waysOf_110 : decode cX11_waysOf 110 = .ok (.iaload, 1) := by decide +kernel
theorem dX11_waysOf_111 : decode cX11_waysOf 111 = .ok (.sipush 1000, 3) := by decide +kernel
theorem dX11_waysOf_114 : decode cX11_waysOf 114 = .ok (.if_icmp .ge 7, 3) := by decide +kernel
theorem dX11_waysOf_117 : decode cX11_waysOf 117 = .ok (.iconst 1, 1) := by decide +kernel
theorem dX11_waysOf_118 : decode cX11_waysOf 118 = .ok (.goto 4, 3) := by decide +kernel
theorem dX11_waysOf_121 : decode cX11_waysOf 121 = .ok (.iconst 0, 1) := by decide +kernel
theorem dX11_waysOf_122 : decode cX11_waysOf 122 = .ok (.iadd, 1) := by decide +kernel
theorem dX11_waysOf_123 : decode cX11_waysOf 123 = .ok (.iastore, 1) := by decide +kernel
theorem dX11_waysOf_124 : decode cX11_waysOf 124 = .ok (.aload_n 0, 1) := by decide +kernel
theorem dX11_waysOf_125 : decode cX11_waysOf 125 = .ok (.iload_n 1, 1) := by decide +kernel
theorem dX11_waysOf_126 : decode cX11_waysOf 126 = .ok (.invokevirtual 511, 3) := by decide +kernel
theorem dX11_waysOf_129 : decode cX11_waysOf 129 = .ok (.istore 10, 2) := by decide +kernel
theorem dX11_waysOf_131 : decode cX11_waysOf 131 = .ok (.iload 11, 2) := by decide +kernel
theorem dX11_waysOf_133 : decode cX11_waysOf 133 = .ok (.ifCond .ne 8, 3) := by decide +kernel
theorem dX11_waysOf_136 : decode cX11_waysOf 136 = .ok (.iload 10, 2) := by decide +kernel
theorem dX11_waysOf_138 : decode cX11_waysOf 138 = .ok (.ifCond .ne 7, 3) := by decide +kernel
theorem dX11_waysOf_141 : decode cX11_waysOf 141 = .ok (.iconst 1, 1) := by decide +kernel
theorem dX11_waysOf_142 : decode cX11_waysOf 142 = .ok (.goto 4, 3) := by decide +kernel
theorem dX11_waysOf_145 : decode cX11_waysOf 145 = .ok (.iconst 0, 1) := by decide +kernel
theorem dX11_waysOf_146 : decode cX11_waysOf 146 = .ok (.istore 11, 2) := by decide +kernel
theorem dX11_waysOf_148 : decode cX11_waysOf 148 = .ok (.iinc 12 1, 3) := by decide +kernel
theorem dX11_waysOf_151 : decode cX11_waysOf 151 = .ok (.goto (-107), 3) := by decide +kernel
theorem dX11_waysOf_154 : decode cX11_waysOf 154 = .ok (.lload 4, 2) := by decide +kernel
theorem dX11_waysOf_156 : decode cX11_waysOf 156 = .ok (.iload_n 3, 1) := by decide +kernel
theorem dX11_waysOf_157 : decode cX11_waysOf 157 = .ok (.ifCond .eq 11, 3) := by decide +kernel
theorem dX11_waysOf_160 : decode cX11_waysOf 160 = .ok (.iload 11, 2) := by decide +kernel
theorem dX11_waysOf_162 : decode cX11_waysOf 162 = .ok (.ifCond .eq 16, 3) := by decide +kernel
theorem dX11_waysOf_165 : decode cX11_waysOf 165 = .ok (.goto 8, 3) := by decide +kernel
theorem dX11_waysOf_168 : decode cX11_waysOf 168 = .ok (.iload 10, 2) := by decide +kernel
theorem dX11_waysOf_170 : decode cX11_waysOf 170 = .ok (.ifCond .eq 8, 3) := by decide +kernel
theorem dX11_waysOf_173 : decode cX11_waysOf 173 = .ok (.lload 8, 2) := by decide +kernel
theorem dX11_waysOf_175 : decode cX11_waysOf 175 = .ok (.goto 4, 3) := by decide +kernel
theorem dX11_waysOf_178 : decode cX11_waysOf 178 = .ok (.lconst 0, 1) := by decide +kernel
theorem dX11_waysOf_179 : decode cX11_waysOf 179 = .ok (.ladd, 1) := by decide +kernel
theorem dX11_waysOf_180 : decode cX11_waysOf 180 = .ok (.lstore 4, 2) := by decide +kernel
theorem dX11_waysOf_182 : decode cX11_waysOf 182 = .ok (.aload_n 0, 1) := by decide +kernel
theorem dX11_waysOf_183 : decode cX11_waysOf 183 = .ok (.invokevirtual 514, 3) := by decide +kernel
theorem dX11_waysOf_186 : decode cX11_waysOf 186 = .ok (.iinc 7 1, 3) := by decide +kernel
theorem dX11_waysOf_189 : decode cX11_waysOf 189 = .ok (.goto (-167), 3) := by decide +kernel
theorem dX11_waysOf_192 : decode cX11_waysOf 192 = .ok (.lload 4, 2) := by decide +kernel
theorem dX11_waysOf_194 : decode cX11_waysOf 194 = .ok (.lreturn, 1) := by decide +kernel
theorem dX11_likely_0 : decode cX11_likely 0 = .ok (.aload_n 0, 1) := by decide +kernel
theorem dX11_likely_1 : decode cX11_likely 1 = .ok (.iload_n 1, 1) := by decide +kernel
theorem dX11_likely_2 : decode cX11_likely 2 = .ok (.invokevirtual 466, 3) := by decide +kernel
theorem dX11_likely_5 : decode cX11_likely 5 = .ok (.ifCond .eq 23, 3) := by decide +kernel
theorem dX11_likely_8 : decode cX11_likely 8 = .ok (.iload_n 2, 1) := by decide +kernel
theorem dX11_likely_9 : decode cX11_likely 9 = .ok (.iconst 1, 1) := by decide +kernel
theorem dX11_likely_10 : decode cX11_likely 10 = .ok (.bipush 8, 2) := by decide +kernel
theorem dX11_likely_12 : decode cX11_likely 12 = .ok (.invokestatic 324, 3) := by decide +kernel
theorem dX11_likely_15 : decode cX11_likely 15 = .ok (.ifCond .eq 13, 3) := by decide +kernel
theorem dX11_likely_18 : decode cX11_likely 18 = .ok (.aload_n 0, 1) := by decide +kernel
theorem dX11_likely_19 : decode cX11_likely 19 = .ok (.iload_n 1, 1) := by decide +kernel
theorem dX11_likely_20 : decode cX11_likely 20 = .ok (.iload_n 2, 1) := by decide +kernel
theorem dX11_likely_21 : decode cX11_likely 21 = .ok (.iconst 0, 1) := by decide +kernel
theorem dX11_likely_22 : decode cX11_likely 22 = .ok (.invokevirtual 521, 3) := by decide +kernel
theorem dX11_likely_25 : decode cX11_likely 25 = .ok (.goto 6, 3) := by decide +kernel
theorem dX11_likely_28 : decode cX11_likely 28 = .ok (.ldc2_w 525, 3) := by decide +kernel
theorem dX11_likely_31 : decode cX11_likely 31 = .ok (.lreturn, 1) := by decide +kernel
theorem dX11_lost_0 : decode cX11_lost 0 = .ok (.aload_n 0, 1) := by decide +kernel
theorem dX11_lost_1 : decode cX11_lost 1 = .ok (.iload_n 1, 1) := by decide +kernel
theorem dX11_lost_2 : decode cX11_lost 2 = .ok (.invokevirtual 466, 3) := by decide +kernel
theorem dX11_lost_5 : decode cX11_lost 5 = .ok (.ifCond .eq 23, 3) := by decide +kernel
theorem dX11_lost_8 : decode cX11_lost 8 = .ok (.iload_n 2, 1) := by decide +kernel
theorem dX11_lost_9 : decode cX11_lost 9 = .ok (.iconst 1, 1) := by decide +kernel
theorem dX11_lost_10 : decode cX11_lost 10 = .ok (.bipush 8, 2) := by decide +kernel
theorem dX11_lost_12 : decode cX11_lost 12 = .ok (.invokestatic 324, 3) := by decide +kernel
theorem dX11_lost_15 : decode cX11_lost 15 = .ok (.ifCond .eq 13, 3) := by decide +kernel
theorem dX11_lost_18 : decode cX11_lost 18 = .ok (.aload_n 0, 1) := by decide +kernel
theorem dX11_lost_19 : decode cX11_lost 19 = .ok (.iload_n 1, 1) := by decide +kernel
theorem dX11_lost_20 : decode cX11_lost 20 = .ok (.iload_n 2, 1) := by decide +kernel
theorem dX11_lost_21 : decode cX11_lost 21 = .ok (.iconst 1, 1) := by decide +kernel
theorem dX11_lost_22 : decode cX11_lost 22 = .ok (.invokevirtual 521, 3) := by decide +kernel
theorem dX11_lost_25 : decode cX11_lost 25 = .ok (.goto 6, 3) := by decide +kernel
theorem dX11_lost_28 : decode cX11_lost 28 = .ok (.ldc2_w 525, 3) := by decide +kernel
theorem dX11_lost_31 : decode cX11_lost 31 = .ok (.lreturn, 1) := by decide +kernel
theorem dX11_tunesAll_0 : decode cX11_tunesAll 0 = .ok (.iconst 1, 1) := by decide +kernel
theorem dX11_tunesAll_1 : decode cX11_tunesAll 1 = .ok (.istore_n 1, 1) := by decide +kernel
theorem dX11_tunesAll_2 : decode cX11_tunesAll 2 = .ok (.iconst 0, 1) := by decide +kernel
theorem dX11_tunesAll_3 : decode cX11_tunesAll 3 = .ok (.istore_n 2, 1) := by decide +kernel
theorem dX11_tunesAll_4 : decode cX11_tunesAll 4 = .ok (.iload_n 2, 1) := by decide +kernel
theorem dX11_tunesAll_5 : decode cX11_tunesAll 5 = .ok (.aload_n 0, 1) := by decide +kernel
theorem dX11_tunesAll_6 : decode cX11_tunesAll 6 = .ok (.getfield 54, 3) := by decide +kernel
theorem dX11_tunesAll_9 : decode cX11_tunesAll 9 = .ok (.aload_n 0, 1) := by decide +kernel
theorem dX11_tunesAll_10 : decode cX11_tunesAll 10 = .ok (.getfield 48, 3) := by decide +kernel
theorem dX11_tunesAll_13 : decode cX11_tunesAll 13 = .ok (.iaload, 1) := by decide +kernel
theorem dX11_tunesAll_14 : decode cX11_tunesAll 14 = .ok (.if_icmp .ge 21, 3) := by decide +kernel
theorem dX11_tunesAll_17 : decode cX11_tunesAll 17 = .ok (.iload_n 1, 1) := by decide +kernel
theorem dX11_tunesAll_18 : decode cX11_tunesAll 18 = .ok (.aload_n 0, 1) := by decide +kernel
theorem dX11_tunesAll_19 : decode cX11_tunesAll 19 = .ok (.getfield 51, 3) := by decide +kernel
theorem dX11_tunesAll_22 : decode cX11_tunesAll 22 = .ok (.aload_n 0, 1) := by decide +kernel
theorem dX11_tunesAll_23 : decode cX11_tunesAll 23 = .ok (.getfield 48, 3) := by decide +kernel
theorem dX11_tunesAll_26 : decode cX11_tunesAll 26 = .ok (.iaload, 1) := by decide +kernel
theorem dX11_tunesAll_27 : decode cX11_tunesAll 27 = .ok (.imul, 1) := by decide +kernel
theorem dX11_tunesAll_28 : decode cX11_tunesAll 28 = .ok (.istore_n 1, 1) := by decide +kernel
theorem dX11_tunesAll_29 : decode cX11_tunesAll 29 = .ok (.iinc 2 1, 3) := by decide +kernel
theorem dX11_tunesAll_32 : decode cX11_tunesAll 32 = .ok (.goto (-28), 3) := by decide +kernel
theorem dX11_tunesAll_35 : decode cX11_tunesAll 35 = .ok (.iload_n 1, 1) := by decide +kernel
theorem dX11_tunesAll_36 : decode cX11_tunesAll 36 = .ok (.ireturn, 1) := by decide +kernel
theorem dX11_isOpenTo_0 : decode cX11_isOpenTo 0 = .ok (.iconst 0, 1) := by decide +kernel
theorem dX11_isOpenTo_1 : decode cX11_isOpenTo 1 = .ok (.istore_n 2, 1) := by decide +kernel
theorem dX11_isOpenTo_2 : decode cX11_isOpenTo 2 = .ok (.iload_n 2, 1) := by decide +kernel
theorem dX11_isOpenTo_3 : decode cX11_isOpenTo 3 = .ok (.aload_n 0, 1) := by decide +kernel
theorem dX11_isOpenTo_4 : decode cX11_isOpenTo 4 = .ok (.getfield 57, 3) := by decide +kernel
theorem dX11_isOpenTo_7 : decode cX11_isOpenTo 7 = .ok (.aload_n 0, 1) := by decide +kernel
theorem dX11_isOpenTo_8 : decode cX11_isOpenTo 8 = .ok (.getfield 48, 3) := by decide +kernel
theorem dX11_isOpenTo_11 : decode cX11_isOpenTo 11 = .ok (.iaload, 1) := by decide +kernel
theorem dX11_isOpenTo_12 : decode cX11_isOpenTo 12 = .ok (.if_icmp .ge 30, 3) := by decide +kernel
theorem dX11_isOpenTo_15 : decode cX11_isOpenTo 15 = .ok (.aload_n 0, 1) := by decide +kernel
theorem dX11_isOpenTo_16 : decode cX11_isOpenTo 16 = .ok (.iload_n 1, 1) := by decide +kernel
theorem dX11_isOpenTo_17 : decode cX11_isOpenTo 17 = .ok (.iload_n 2, 1) := by decide +kernel
theorem dX11_isOpenTo_18 : decode cX11_isOpenTo 18 = .ok (.invokevirtual 459, 3) := by decide +kernel
theorem dX11_isOpenTo_21 : decode cX11_isOpenTo 21 = .ok (.ifCond .eq 15, 3) := by decide +kernel
theorem dX11_isOpenTo_24 : decode cX11_isOpenTo 24 = .ok (.aload_n 0, 1) := by decide +kernel
theorem dX11_isOpenTo_25 : decode cX11_isOpenTo 25 = .ok (.iload_n 1, 1) := by decide +kernel
theorem dX11_isOpenTo_26 : decode cX11_isOpenTo 26 = .ok (.iload_n 2, 1) := by decide +kernel
theorem dX11_isOpenTo_27 : decode cX11_isOpenTo 27 = .ok (.invokevirtual 481, 3) := by decide +kernel
theorem dX11_isOpenTo_30 : decode cX11_isOpenTo 30 = .ok (.iconst (-1), 1) := by decide +kernel
theorem dX11_isOpenTo_31 : decode cX11_isOpenTo 31 = .ok (.if_icmp .eq 5, 3) := by decide +kernel
theorem dX11_isOpenTo_34 : decode cX11_isOpenTo 34 = .ok (.iconst 1, 1) := by decide +kernel
theorem dX11_isOpenTo_35 : decode cX11_isOpenTo 35 = .ok (.ireturn, 1) := by decide +kernel
theorem dX11_isOpenTo_36 : decode cX11_isOpenTo 36 = .ok (.iinc 2 1, 3) := by decide +kernel
theorem dX11_isOpenTo_39 : decode cX11_isOpenTo 39 = .ok (.goto (-37), 3) := by decide +kernel
theorem dX11_isOpenTo_42 : decode cX11_isOpenTo 42 = .ok (.iconst 0, 1) := by decide +kernel
theorem dX11_isOpenTo_43 : decode cX11_isOpenTo 43 = .ok (.ireturn, 1) := by decide +kernel
theorem dX11_openers_0 : decode cX11_openers 0 = .ok (.iconst 0, 1) := by decide +kernel
theorem dX11_openers_1 : decode cX11_openers 1 = .ok (.istore_n 2, 1) := by decide +kernel
theorem dX11_openers_2 : decode cX11_openers 2 = .ok (.iconst 0, 1) := by decide +kernel
theorem dX11_openers_3 : decode cX11_openers 3 = .ok (.istore_n 3, 1) := by decide +kernel
theorem dX11_openers_4 : decode cX11_openers 4 = .ok (.iload_n 3, 1) := by decide +kernel
theorem dX11_openers_5 : decode cX11_openers 5 = .ok (.aload_n 0, 1) := by decide +kernel
theorem dX11_openers_6 : decode cX11_openers 6 = .ok (.invokevirtual 527, 3) := by decide +kernel
theorem dX11_openers_9 : decode cX11_openers 9 = .ok (.if_icmp .ge 90, 3) := by decide +kernel
theorem dX11_openers_12 : decode cX11_openers 12 = .ok (.iload_n 3, 1) := by decide +kernel
theorem dX11_openers_13 : decode cX11_openers 13 = .ok (.istore 4, 2) := by decide +kernel
theorem dX11_openers_15 : decode cX11_openers 15 = .ok (.aload_n 0, 1) := by decide +kernel
theorem dX11_openers_16 : decode cX11_openers 16 = .ok (.getfield 54, 3) := by decide +kernel
theorem dX11_openers_19 : decode cX11_openers 19 = .ok (.aload_n 0, 1) := by decide +kernel
theorem dX11_openers_20 : decode cX11_openers 20 = .ok (.getfield 48, 3) := by decide +kernel
theorem dX11_openers_23 : decode cX11_openers 23 = .ok (.iaload, 1) := by decide +kernel
theorem dX11_openers_24 : decode cX11_openers 24 = .ok (.iconst 1, 1) := by decide +kernel
theorem dX11_openers_25 : decode cX11_openers 25 = .ok (.isub, 1) := by decide +kernel
theorem dX11_openers_26 : decode cX11_openers 26 = .ok (.istore 5, 2) := by decide +kernel
theorem dX11_openers_28 : decode cX11_openers 28 = .ok (.iload 5, 2) := by decide +kernel
theorem dX11_openers_30 : decode cX11_openers 30 = .ok (.ifCond .lt 42, 3) := by decide +kernel
theorem dX11_openers_33 : decode cX11_openers 33 = .ok (.aload_n 0, 1) := by decide +kernel
theorem dX11_openers_34 : decode cX11_openers 34 = .ok (.getfield 210, 3) := by decide +kernel
theorem dX11_openers_37 : decode cX11_openers 37 = .ok (.iload 5, 2) := by decide +kernel
theorem dX11_openers_39 : decode cX11_openers 39 = .ok (.iload 4, 2) := by decide +kernel
theorem dX11_openers_41 : decode cX11_openers 41 = .ok (.aload_n 0, 1) := by decide +kernel
theorem dX11_openers_42 : decode cX11_openers 42 = .ok (.getfield 51, 3) := by decide +kernel
theorem dX11_openers_45 : decode cX11_openers 45 = .ok (.aload_n 0, 1) := by decide +kernel
theorem dX11_openers_46 : decode cX11_openers 46 = .ok (.getfield 48, 3) := by decide +kernel
theorem dX11_openers_49 : decode cX11_openers 49 = .ok (.iaload, 1) := by decide +kernel
theorem dX11_openers_50 : decode cX11_openers 50 = .ok (.irem, 1) := by decide +kernel
theorem dX11_openers_51 : decode cX11_openers 51 = .ok (.iastore, 1) := by decide +kernel
theorem dX11_openers_52 : decode cX11_openers 52 = .ok (.iload 4, 2) := by decide +kernel
theorem dX11_openers_54 : decode cX11_openers 54 = .ok (.aload_n 0, 1) := by decide +kernel
theorem dX11_openers_55 : decode cX11_openers 55 = .ok (.getfield 51, 3) := by decide +kernel
theorem dX11_openers_58 : decode cX11_openers 58 = .ok (.aload_n 0, 1) := by decide +kernel
theorem dX11_openers_59 : decode cX11_openers 59 = .ok (.getfield 48, 3) := by decide +kernel
theorem dX11_openers_62 : decode cX11_openers 62 = .ok (.iaload, 1) := by decide +kernel
theorem dX11_openers_63 : decode cX11_openers 63 = .ok (.idiv, 1) := by decide +kernel
theorem dX11_openers_64 : decode cX11_openers 64 = .ok (.istore 4, 2) := by decide +kernel
theorem dX11_openers_66 : decode cX11_openers 66 = .ok (.iinc 5 (-1), 3) := by decide +kernel
theorem dX11_openers_69 : decode cX11_openers 69 = .ok (.goto (-41), 3) := by decide +kernel
theorem dX11_openers_72 : decode cX11_openers 72 = .ok (.aload_n 0, 1) := by decide +kernel
theorem dX11_openers_73 : decode cX11_openers 73 = .ok (.iload_n 3, 1) := by decide +kernel
theorem dX11_openers_74 : decode cX11_openers 74 = .ok (.putfield 213, 3) := by decide +kernel
theorem dX11_openers_77 : decode cX11_openers 77 = .ok (.iload_n 2, 1) := by decide +kernel
theorem dX11_openers_78 : decode cX11_openers 78 = .ok (.aload_n 0, 1) := by decide +kernel
theorem dX11_openers_79 : decode cX11_openers 79 = .ok (.iload_n 1, 1) := by decide +kernel
theorem dX11_openers_80 : decode cX11_openers 80 = .ok (.invokevirtual 530, 3) := by decide +kernel
theorem dX11_openers_83 : decode cX11_openers 83 = .ok (.ifCond .eq 7, 3) := by decide +kernel
theorem dX11_openers_86 : decode cX11_openers 86 = .ok (.iconst 1, 1) := by decide +kernel
theorem dX11_openers_87 : decode cX11_openers 87 = .ok (.goto 4, 3) := by decide +kernel
theorem dX11_openers_90 : decode cX11_openers 90 = .ok (.iconst 0, 1) := by decide +kernel
theorem dX11_openers_91 : decode cX11_openers 91 = .ok (.iadd, 1) := by decide +kernel
theorem dX11_openers_92 : decode cX11_openers 92 = .ok (.istore_n 2, 1) := by decide +kernel
theorem dX11_openers_93 : decode cX11_openers 93 = .ok (.iinc 3 1, 3) := by decide +kernel
theorem dX11_openers_96 : decode cX11_openers 96 = .ok (.goto (-92), 3) := by decide +kernel
theorem dX11_openers_99 : decode cX11_openers 99 = .ok (.iload_n 2, 1) := by decide +kernel
theorem dX11_openers_100 : decode cX11_openers 100 = .ok (.ireturn, 1) := by decide +kernel
theorem dX11_strangerOf_0 : decode cX11_strangerOf 0 = .ok (.aload_n 0, 1) := by decide +kernel
theorem dX11_strangerOf_1 : decode cX11_strangerOf 1 = .ok (.iload_n 1, 1) := by decide +kernel
theorem dX11_strangerOf_2 : decode cX11_strangerOf 2 = .ok (.invokevirtual 533, 3) := by decide +kernel
theorem dX11_strangerOf_5 : decode cX11_strangerOf 5 = .ok (.istore_n 3, 1) := by decide +kernel
theorem dX11_strangerOf_6 : decode cX11_strangerOf 6 = .ok (.aload_n 0, 1) := by decide +kernel
theorem dX11_strangerOf_7 : decode cX11_strangerOf 7 = .ok (.invokevirtual 527, 3) := by decide +kernel
theorem dX11_strangerOf_10 : decode cX11_strangerOf 10 = .ok (.istore 4, 2) := by decide +kernel
theorem dX11_strangerOf_12 : decode cX11_strangerOf 12 = .ok (.ldc2_w 517, 3) := by decide +kernel
theorem dX11_strangerOf_15 : decode cX11_strangerOf 15 = .ok (.lstore 5, 2) := by decide +kernel
theorem dX11_strangerOf_17 : decode cX11_strangerOf 17 = .ok (.iconst 0, 1) := by decide +kernel
theorem dX11_strangerOf_18 : decode cX11_strangerOf 18 = .ok (.istore 7, 2) := by decide +kernel
theorem dX11_strangerOf_20 : decode cX11_strangerOf 20 = .ok (.iload 7, 2) := by decide +kernel
theorem dX11_strangerOf_22 : decode cX11_strangerOf 22 = .ok (.iload_n 2, 1) := by decide +kernel
theorem dX11_strangerOf_23 : decode cX11_strangerOf 23 = .ok (.if_icmp .ge 23, 3) := by decide +kernel
theorem dX11_strangerOf_26 : decode cX11_strangerOf 26 = .ok (.lload 5, 2) := by decide +kernel
theorem dX11_strangerOf_28 : decode cX11_strangerOf 28 = .ok (.iload 4, 2) := by decide +kernel
theorem dX11_strangerOf_30 : decode cX11_strangerOf 30 = .ok (.iload_n 3, 1) := by decide +kernel
theorem dX11_strangerOf_31 : decode cX11_strangerOf 31 = .ok (.isub, 1) := by decide +kernel
theorem dX11_strangerOf_32 : decode cX11_strangerOf 32 = .ok (.i2l, 1) := by decide +kernel
theorem dX11_strangerOf_33 : decode cX11_strangerOf 33 = .ok (.lmul, 1) := by decide +kernel
theorem dX11_strangerOf_34 : decode cX11_strangerOf 34 = .ok (.iload 4, 2) := by decide +kernel
theorem dX11_strangerOf_36 : decode cX11_strangerOf 36 = .ok (.i2l, 1) := by decide +kernel
theorem dX11_strangerOf_37 : decode cX11_strangerOf 37 = .ok (.ldiv, 1) := by decide +kernel
theorem dX11_strangerOf_38 : decode cX11_strangerOf 38 = .ok (.lstore 5, 2) := by decide +kernel
theorem dX11_strangerOf_40 : decode cX11_strangerOf 40 = .ok (.iinc 7 1, 3) := by decide +kernel
theorem dX11_strangerOf_43 : decode cX11_strangerOf 43 = .ok (.goto (-23), 3) := by decide +kernel
theorem dX11_strangerOf_46 : decode cX11_strangerOf 46 = .ok (.ldc2_w 517, 3) := by decide +kernel
theorem dX11_strangerOf_49 : decode cX11_strangerOf 49 = .ok (.lload 5, 2) := by decide +kernel
theorem dX11_strangerOf_51 : decode cX11_strangerOf 51 = .ok (.lsub, 1) := by decide +kernel
theorem dX11_strangerOf_52 : decode cX11_strangerOf 52 = .ok (.lreturn, 1) := by decide +kernel
theorem dX11_stranger_0 : decode cX11_stranger 0 = .ok (.aload_n 0, 1) := by decide +kernel
theorem dX11_stranger_1 : decode cX11_stranger 1 = .ok (.iload_n 1, 1) := by decide +kernel
theorem dX11_stranger_2 : decode cX11_stranger 2 = .ok (.invokevirtual 456, 3) := by decide +kernel
theorem dX11_stranger_5 : decode cX11_stranger 5 = .ok (.ifCond .eq 19, 3) := by decide +kernel
theorem dX11_stranger_8 : decode cX11_stranger 8 = .ok (.iload_n 2, 1) := by decide +kernel
theorem dX11_stranger_9 : decode cX11_stranger 9 = .ok (.iconst (-1), 1) := by decide +kernel
theorem dX11_stranger_10 : decode cX11_stranger 10 = .ok (.if_icmp .eq 18, 3) := by decide +kernel
theorem dX11_stranger_13 : decode cX11_stranger 13 = .ok (.iload_n 2, 1) := by decide +kernel
theorem dX11_stranger_14 : decode cX11_stranger 14 = .ok (.iconst 0, 1) := by decide +kernel
theorem dX11_stranger_15 : decode cX11_stranger 15 = .ok (.sipush 500, 3) := by decide +kernel
theorem dX11_stranger_18 : decode cX11_stranger 18 = .ok (.invokestatic 324, 3) := by decide +kernel
theorem dX11_stranger_21 : decode cX11_stranger 21 = .ok (.ifCond .ne 7, 3) := by decide +kernel
theorem dX11_stranger_24 : decode cX11_stranger 24 = .ok (.ldc2_w 525, 3) := by decide +kernel
theorem dX11_stranger_27 : decode cX11_stranger 27 = .ok (.lreturn, 1) := by decide +kernel
theorem dX11_stranger_28 : decode cX11_stranger 28 = .ok (.iload_n 2, 1) := by decide +kernel
theorem dX11_stranger_29 : decode cX11_stranger 29 = .ok (.iconst (-1), 1) := by decide +kernel
theorem dX11_stranger_30 : decode cX11_stranger 30 = .ok (.if_icmp .ne 12, 3) := by decide +kernel
theorem dX11_stranger_33 : decode cX11_stranger 33 = .ok (.aload_n 0, 1) := by decide +kernel
theorem dX11_stranger_34 : decode cX11_stranger 34 = .ok (.iload_n 1, 1) := by decide +kernel
theorem dX11_stranger_35 : decode cX11_stranger 35 = .ok (.invokevirtual 533, 3) := by decide +kernel
theorem dX11_stranger_38 : decode cX11_stranger 38 = .ok (.i2l, 1) := by decide +kernel
theorem dX11_stranger_39 : decode cX11_stranger 39 = .ok (.goto 9, 3) := by decide +kernel
theorem dX11_stranger_42 : decode cX11_stranger 42 = .ok (.aload_n 0, 1) := by decide +kernel
theorem dX11_stranger_43 : decode cX11_stranger 43 = .ok (.iload_n 1, 1) := by decide +kernel
theorem dX11_stranger_44 : decode cX11_stranger 44 = .ok (.iload_n 2, 1) := by decide +kernel
theorem dX11_stranger_45 : decode cX11_stranger 45 = .ok (.invokevirtual 536, 3) := by decide +kernel
theorem dX11_stranger_48 : decode cX11_stranger 48 = .ok (.lreturn, 1) := by decide +kernel
theorem dX11_near_0 : decode cX11_near 0 = .ok (.aload_n 0, 1) := by decide +kernel
theorem dX11_near_1 : decode cX11_near 1 = .ok (.iload_n 1, 1) := by decide +kernel
theorem dX11_near_2 : decode cX11_near 2 = .ok (.invokevirtual 456, 3) := by decide +kernel
theorem dX11_near_5 : decode cX11_near 5 = .ok (.ifCond .ne 5, 3) := by decide +kernel
theorem dX11_near_8 : decode cX11_near 8 = .ok (.iconst (-1), 1) := by decide +kernel
theorem dX11_near_9 : decode cX11_near 9 = .ok (.ireturn, 1) := by decide +kernel
theorem dX11_near_10 : decode cX11_near 10 = .ok (.aload_n 0, 1) := by decide +kernel
theorem dX11_near_11 : decode cX11_near 11 = .ok (.getfield 91, 3) := by decide +kernel
theorem dX11_near_14 : decode cX11_near 14 = .ok (.aload_n 0, 1) := by decide +kernel
theorem dX11_near_15 : decode cX11_near 15 = .ok (.iload_n 1, 1) := by decide +kernel
theorem dX11_near_16 : decode cX11_near 16 = .ok (.invokevirtual 463, 3) := by decide +kernel
theorem dX11_near_19 : decode cX11_near 19 = .ok (.iaload, 1) := by decide +kernel
theorem dX11_near_20 : decode cX11_near 20 = .ok (.istore_n 2, 1) := by decide +kernel
theorem dX11_near_21 : decode cX11_near 21 = .ok (.iconst (-1), 1) := by decide +kernel
theorem dX11_near_22 : decode cX11_near 22 = .ok (.istore_n 3, 1) := by decide +kernel
theorem dX11_near_23 : decode cX11_near 23 = .ok (.iconst 0, 1) := by decide +kernel
theorem dX11_near_24 : decode cX11_near 24 = .ok (.istore 4, 2) := by decide +kernel
theorem dX11_near_26 : decode cX11_near 26 = .ok (.iload 4, 2) := by decide +kernel
theorem dX11_near_28 : decode cX11_near 28 = .ok (.aload_n 0, 1) := by decide +kernel
theorem dX11_near_29 : decode cX11_near 29 = .ok (.getfield 57, 3) := by decide +kernel
theorem dX11_near_32 : decode cX11_near 32 = .ok (.aload_n 0, 1) := by decide +kernel
theorem dX11_near_33 : decode cX11_near 33 = .ok (.getfield 48, 3) := by decide +kernel
theorem dX11_near_36 : decode cX11_near 36 = .ok (.iaload, 1) := by decide +kernel
theorem dX11_near_37 : decode cX11_near 37 = .ok (.if_icmp .ge 104, 3) := by decide +kernel
theorem dX11_near_40 : decode cX11_near 40 = .ok (.aload_n 0, 1) := by decide +kernel
theorem dX11_near_41 : decode cX11_near 41 = .ok (.getfield 192, 3) := by decide +kernel
theorem dX11_near_44 : decode cX11_near 44 = .ok (.iconst 3, 1) := by decide +kernel
theorem dX11_near_45 : decode cX11_near 45 = .ok (.iload_n 1, 1) := by decide +kernel
theorem dX11_near_46 : decode cX11_near 46 = .ok (.imul, 1) := by decide +kernel
theorem dX11_near_47 : decode cX11_near 47 = .ok (.iload 4, 2) := by decide +kernel
theorem dX11_near_49 : decode cX11_near 49 = .ok (.iadd, 1) := by decide +kernel
theorem dX11_near_50 : decode cX11_near 50 = .ok (.iaload, 1) := by decide +kernel
theorem dX11_near_51 : decode cX11_near 51 = .ok (.istore 5, 2) := by decide +kernel
theorem dX11_near_53 : decode cX11_near 53 = .ok (.aload_n 0, 1) := by decide +kernel
theorem dX11_near_54 : decode cX11_near 54 = .ok (.iload_n 1, 1) := by decide +kernel
theorem dX11_near_55 : decode cX11_near 55 = .ok (.iload 4, 2) := by decide +kernel
theorem dX11_near_57 : decode cX11_near 57 = .ok (.invokevirtual 459, 3) := by decide +kernel
theorem dX11_near_60 : decode cX11_near 60 = .ok (.ifCond .eq 75, 3) := by decide +kernel
theorem dX11_near_63 : decode cX11_near 63 = .ok (.iload 5, 2) := by decide +kernel
theorem dX11_near_65 : decode cX11_near 65 = .ok (.aload_n 0, 1) := by decide +kernel
theorem dX11_near_66 : decode cX11_near 66 = .ok (.getfield 192, 3) := by decide +kernel
theorem dX11_near_69 : decode cX11_near 69 = .ok (.iconst 3, 1) := by decide +kernel
theorem dX11_near_70 : decode cX11_near 70 = .ok (.iload_n 1, 1) := by decide +kernel
theorem dX11_near_71 : decode cX11_near 71 = .ok (.imul, 1) := by decide +kernel
theorem dX11_near_72 : decode cX11_near 72 = .ok (.iload 4, 2) := by decide +kernel
theorem dX11_near_74 : decode cX11_near 74 = .ok (.iadd, 1) := by decide +kernel
theorem dX11_near_75 : decode cX11_near 75 = .ok (.iaload, 1) := by decide +kernel
theorem dX11_near_76 : decode cX11_near 76 = .ok (.iload_n 2, 1) := by decide +kernel
theorem dX11_near_77 : decode cX11_near 77 = .ok (.iadd, 1) := by decide +kernel
theorem dX11_near_78 : decode cX11_near 78 = .ok (.if_icmp .gt 57, 3) := by decide +kernel
theorem dX11_near_81 : decode cX11_near 81 = .ok (.iload 5, 2) := by decide +kernel
theorem dX11_near_83 : decode cX11_near 83 = .ok (.sipush 1000, 3) := by decide +kernel
theorem dX11_near_86 : decode cX11_near 86 = .ok (.if_icmp .ge 49, 3) := by decide +kernel
theorem dX11_near_89 : decode cX11_near 89 = .ok (.aload_n 0, 1) := by decide +kernel
theorem dX11_near_90 : decode cX11_near 90 = .ok (.iload 4, 2) := by decide +kernel
theorem dX11_near_92 : decode cX11_near 92 = .ok (.iload 5, 2) := by decide +kernel
theorem dX11_near_94 : decode cX11_near 94 = .ok (.invokevirtual 499, 3) := by decide +kernel
theorem dX11_near_97 : decode cX11_near 97 = .ok (.aload_n 0, 1) := by decide +kernel
theorem dX11_near_98 : decode cX11_near 98 = .ok (.iload_n 1, 1) := by decide +kernel
theorem dX11_near_99 : decode cX11_near 99 = .ok (.iload_n 2, 1) := by decide +kernel
theorem dX11_near_100 : decode cX11_near 100 = .ok (.invokevirtual 539, 3) := by decide +kernel
theorem dX11_near_103 : decode cX11_near 103 = .ok (.istore 6, 2) := by decide +kernel
theorem dX11_near_105 : decode cX11_near 105 = .ok (.iload 6, 2) := by decide +kernel
theorem dX11_near_107 : decode cX11_near 107 = .ok (.iconst (-1), 1) := by decide +kernel
theorem dX11_near_108 : decode cX11_near 108 = .ok (.if_icmp .eq 19, 3) := by decide +kernel
theorem dX11_near_111 : decode cX11_near 111 = .ok (.iload_n 3, 1) := by decide +kernel
theorem dX11_near_112 : decode cX11_near 112 = .ok (.iconst (-1), 1) := by decide +kernel
theorem dX11_near_113 : decode cX11_near 113 = .ok (.if_icmp .eq 9, 3) := by decide +kernel
theorem dX11_near_116 : decode cX11_near 116 = .ok (.iload 6, 2) := by decide +kernel
theorem dX11_near_118 : decode cX11_near 118 = .ok (.iload_n 3, 1) := by decide +kernel
theorem dX11_near_119 : decode cX11_near 119 = .ok (.if_icmp .ge 8, 3) := by decide +kernel
theorem dX11_near_122 : decode cX11_near 122 = .ok (.iload 6, 2) := by decide +kernel
theorem dX11_near_124 : decode cX11_near 124 = .ok (.goto 4, 3) := by decide +kernel
theorem dX11_near_127 : decode cX11_near 127 = .ok (.iload_n 3, 1) := by decide +kernel
theorem dX11_near_128 : decode cX11_near 128 = .ok (.istore_n 3, 1) := by decide +kernel
theorem dX11_near_129 : decode cX11_near 129 = .ok (.iinc 5 1, 3) := by decide +kernel
theorem dX11_near_132 : decode cX11_near 132 = .ok (.goto (-79), 3) := by decide +kernel
theorem dX11_near_135 : decode cX11_near 135 = .ok (.iinc 4 1, 3) := by decide +kernel
theorem dX11_near_138 : decode cX11_near 138 = .ok (.goto (-112), 3) := by decide +kernel
theorem dX11_near_141 : decode cX11_near 141 = .ok (.iload_n 3, 1) := by decide +kernel
theorem dX11_near_142 : decode cX11_near 142 = .ok (.ireturn, 1) := by decide +kernel
theorem dX11_nearest_0 : decode cX11_nearest 0 = .ok (.iconst (-1), 1) := by decide +kernel
theorem dX11_nearest_1 : decode cX11_nearest 1 = .ok (.istore_n 3, 1) := by decide +kernel
theorem dX11_nearest_2 : decode cX11_nearest 2 = .ok (.iconst 0, 1) := by decide +kernel
theorem dX11_nearest_3 : decode cX11_nearest 3 = .ok (.istore 4, 2) := by decide +kernel
theorem dX11_nearest_5 : decode cX11_nearest 5 = .ok (.iload 4, 2) := by decide +kernel
theorem dX11_nearest_7 : decode cX11_nearest 7 = .ok (.aload_n 0, 1) := by decide +kernel
theorem dX11_nearest_8 : decode cX11_nearest 8 = .ok (.getfield 57, 3) := by decide +kernel
theorem dX11_nearest_11 : decode cX11_nearest 11 = .ok (.aload_n 0, 1) := by decide +kernel
theorem dX11_nearest_12 : decode cX11_nearest 12 = .ok (.getfield 48, 3) := by decide +kernel
theorem dX11_nearest_15 : decode cX11_nearest 15 = .ok (.iaload, 1) := by decide +kernel
theorem dX11_nearest_16 : decode cX11_nearest 16 = .ok (.if_icmp .ge 92, 3) := by decide +kernel
theorem dX11_nearest_19 : decode cX11_nearest 19 = .ok (.aload_n 0, 1) := by decide +kernel
theorem dX11_nearest_20 : decode cX11_nearest 20 = .ok (.getfield 192, 3) := by decide +kernel
theorem dX11_nearest_23 : decode cX11_nearest 23 = .ok (.iconst 3, 1) := by decide +kernel
theorem dX11_nearest_24 : decode cX11_nearest 24 = .ok (.iload_n 1, 1) := by decide +kernel
theorem dX11_nearest_25 : decode cX11_nearest 25 = .ok (.imul, 1) := by decide +kernel
theorem dX11_nearest_26 : decode cX11_nearest 26 = .ok (.iload 4, 2) := by decide +kernel
theorem dX11_nearest_28 : decode cX11_nearest 28 = .ok (.iadd, 1) := by decide +kernel
theorem dX11_nearest_29 : decode cX11_nearest 29 = .ok (.iaload, 1) := by decide +kernel
theorem dX11_nearest_30 : decode cX11_nearest 30 = .ok (.istore 5, 2) := by decide +kernel
theorem dX11_nearest_32 : decode cX11_nearest 32 = .ok (.iload 5, 2) := by decide +kernel
theorem dX11_nearest_34 : decode cX11_nearest 34 = .ok (.istore 6, 2) := by decide +kernel
theorem dX11_nearest_36 : decode cX11_nearest 36 = .ok (.aload_n 0, 1) := by decide +kernel
theorem dX11_nearest_37 : decode cX11_nearest 37 = .ok (.iload_n 1, 1) := by decide +kernel
theorem dX11_nearest_38 : decode cX11_nearest 38 = .ok (.iload 4, 2) := by decide +kernel
theorem dX11_nearest_40 : decode cX11_nearest 40 = .ok (.invokevirtual 459, 3) := by decide +kernel
theorem dX11_nearest_43 : decode cX11_nearest 43 = .ok (.ifCond .eq 59, 3) := by decide +kernel
theorem dX11_nearest_46 : decode cX11_nearest 46 = .ok (.iload 6, 2) := by decide +kernel
theorem dX11_nearest_48 : decode cX11_nearest 48 = .ok (.iload 5, 2) := by decide +kernel
theorem dX11_nearest_50 : decode cX11_nearest 50 = .ok (.iload_n 2, 1) := by decide +kernel
theorem dX11_nearest_51 : decode cX11_nearest 51 = .ok (.iadd, 1) := by decide +kernel
theorem dX11_nearest_52 : decode cX11_nearest 52 = .ok (.if_icmp .gt 50, 3) := by decide +kernel
theorem dX11_nearest_55 : decode cX11_nearest 55 = .ok (.iload 6, 2) := by decide +kernel
theorem dX11_nearest_57 : decode cX11_nearest 57 = .ok (.sipush 1000, 3) := by decide +kernel
theorem dX11_nearest_60 : decode cX11_nearest 60 = .ok (.if_icmp .ge 42, 3) := by decide +kernel
theorem dX11_nearest_63 : decode cX11_nearest 63 = .ok (.aload_n 0, 1) := by decide +kernel
theorem dX11_nearest_64 : decode cX11_nearest 64 = .ok (.iload 4, 2) := by decide +kernel
theorem dX11_nearest_66 : decode cX11_nearest 66 = .ok (.iload 6, 2) := by decide +kernel
theorem dX11_nearest_68 : decode cX11_nearest 68 = .ok (.invokevirtual 475, 3) := by decide +kernel
theorem dX11_nearest_71 : decode cX11_nearest 71 = .ok (.istore 7, 2) := by decide +kernel
theorem dX11_nearest_73 : decode cX11_nearest 73 = .ok (.iload 7, 2) := by decide +kernel
theorem dX11_nearest_75 : decode cX11_nearest 75 = .ok (.ifCond .le 19, 3) := by decide +kernel
theorem dX11_nearest_78 : decode cX11_nearest 78 = .ok (.iload_n 3, 1) := by decide +kernel
theorem dX11_nearest_79 : decode cX11_nearest 79 = .ok (.iconst (-1), 1) := by decide +kernel
theorem dX11_nearest_80 : decode cX11_nearest 80 = .ok (.if_icmp .eq 9, 3) := by decide +kernel
theorem dX11_nearest_83 : decode cX11_nearest 83 = .ok (.iload 7, 2) := by decide +kernel
theorem dX11_nearest_85 : decode cX11_nearest 85 = .ok (.iload_n 3, 1) := by decide +kernel
theorem dX11_nearest_86 : decode cX11_nearest 86 = .ok (.if_icmp .ge 8, 3) := by decide +kernel
theorem dX11_nearest_89 : decode cX11_nearest 89 = .ok (.iload 7, 2) := by decide +kernel
theorem dX11_nearest_91 : decode cX11_nearest 91 = .ok (.goto 4, 3) := by decide +kernel
theorem dX11_nearest_94 : decode cX11_nearest 94 = .ok (.iload_n 3, 1) := by decide +kernel
theorem dX11_nearest_95 : decode cX11_nearest 95 = .ok (.istore_n 3, 1) := by decide +kernel
theorem dX11_nearest_96 : decode cX11_nearest 96 = .ok (.iinc 6 1, 3) := by decide +kernel
theorem dX11_nearest_99 : decode cX11_nearest 99 = .ok (.goto (-63), 3) := by decide +kernel
theorem dX11_nearest_102 : decode cX11_nearest 102 = .ok (.iinc 4 1, 3) := by decide +kernel
theorem dX11_nearest_105 : decode cX11_nearest 105 = .ok (.goto (-100), 3) := by decide +kernel
theorem dX11_nearest_108 : decode cX11_nearest 108 = .ok (.iload_n 3, 1) := by decide +kernel
theorem dX11_nearest_109 : decode cX11_nearest 109 = .ok (.ireturn, 1) := by decide +kernel
theorem dX11_costOf_0 : decode cX11_costOf 0 = .ok (.aload_n 0, 1) := by decide +kernel
theorem dX11_costOf_1 : decode cX11_costOf 1 = .ok (.getfield 103, 3) := by decide +kernel
theorem dX11_costOf_4 : decode cX11_costOf 4 = .ok (.aload_n 0, 1) := by decide +kernel
theorem dX11_costOf_5 : decode cX11_costOf 5 = .ok (.iload_n 1, 1) := by decide +kernel
theorem dX11_costOf_6 : decode cX11_costOf 6 = .ok (.invokevirtual 453, 3) := by decide +kernel
theorem dX11_costOf_9 : decode cX11_costOf 9 = .ok (.iaload, 1) := by decide +kernel
theorem dX11_costOf_10 : decode cX11_costOf 10 = .ok (.istore 4, 2) := by decide +kernel
theorem dX11_costOf_12 : decode cX11_costOf 12 = .ok (.aload_n 0, 1) := by decide +kernel
theorem dX11_costOf_13 : decode cX11_costOf 13 = .ok (.iload 4, 2) := by decide +kernel
theorem dX11_costOf_15 : decode cX11_costOf 15 = .ok (.invokevirtual 463, 3) := by decide +kernel
theorem dX11_costOf_18 : decode cX11_costOf 18 = .ok (.istore 5, 2) := by decide +kernel
theorem dX11_costOf_20 : decode cX11_costOf 20 = .ok (.aload_n 0, 1) := by decide +kernel
theorem dX11_costOf_21 : decode cX11_costOf 21 = .ok (.getfield 88, 3) := by decide +kernel
theorem dX11_costOf_24 : decode cX11_costOf 24 = .ok (.iload 5, 2) := by decide +kernel
theorem dX11_costOf_26 : decode cX11_costOf 26 = .ok (.iaload, 1) := by decide +kernel
theorem dX11_costOf_27 : decode cX11_costOf 27 = .ok (.istore 6, 2) := by decide +kernel
theorem dX11_costOf_29 : decode cX11_costOf 29 = .ok (.aload_n 0, 1) := by decide +kernel
theorem dX11_costOf_30 : decode cX11_costOf 30 = .ok (.getfield 91, 3) := by decide +kernel
theorem dX11_costOf_33 : decode cX11_costOf 33 = .ok (.iload 5, 2) := by decide +kernel
theorem dX11_costOf_35 : decode cX11_costOf 35 = .ok (.iaload, 1) := by decide +kernel
theorem dX11_costOf_36 : decode cX11_costOf 36 = .ok (.istore 7, 2) := by decide +kernel
theorem dX11_costOf_38 : decode cX11_costOf 38 = .ok (.aload_n 0, 1) := by decide +kernel
theorem dX11_costOf_39 : decode cX11_costOf 39 = .ok (.getfield 94, 3) := by decide +kernel
theorem dX11_costOf_42 : decode cX11_costOf 42 = .ok (.iload 5, 2) := by decide +kernel
theorem dX11_costOf_44 : decode cX11_costOf 44 = .ok (.iaload, 1) := by decide +kernel
theorem dX11_costOf_45 : decode cX11_costOf 45 = .ok (.istore 8, 2) := by decide +kernel
theorem dX11_costOf_47 : decode cX11_costOf 47 = .ok (.aload_n 0, 1) := by decide +kernel
theorem dX11_costOf_48 : decode cX11_costOf 48 = .ok (.getfield 88, 3) := by decide +kernel
theorem dX11_costOf_51 : decode cX11_costOf 51 = .ok (.iload 5, 2) := by decide +kernel
theorem dX11_costOf_53 : decode cX11_costOf 53 = .ok (.iconst 1, 1) := by decide +kernel
theorem dX11_costOf_54 : decode cX11_costOf 54 = .ok (.iastore, 1) := by decide +kernel
theorem dX11_costOf_55 : decode cX11_costOf 55 = .ok (.aload_n 0, 1) := by decide +kernel
theorem dX11_costOf_56 : decode cX11_costOf 56 = .ok (.getfield 91, 3) := by decide +kernel
theorem dX11_costOf_59 : decode cX11_costOf 59 = .ok (.iload 5, 2) := by decide +kernel
theorem dX11_costOf_61 : decode cX11_costOf 61 = .ok (.iload_n 3, 1) := by decide +kernel
theorem dX11_costOf_62 : decode cX11_costOf 62 = .ok (.iastore, 1) := by decide +kernel
theorem dX11_costOf_63 : decode cX11_costOf 63 = .ok (.aload_n 0, 1) := by decide +kernel
theorem dX11_costOf_64 : decode cX11_costOf 64 = .ok (.getfield 94, 3) := by decide +kernel
theorem dX11_costOf_67 : decode cX11_costOf 67 = .ok (.iload 5, 2) := by decide +kernel
theorem dX11_costOf_69 : decode cX11_costOf 69 = .ok (.iconst 0, 1) := by decide +kernel
theorem dX11_costOf_70 : decode cX11_costOf 70 = .ok (.iastore, 1) := by decide +kernel
theorem dX11_costOf_71 : decode cX11_costOf 71 = .ok (.aload_n 0, 1) := by decide +kernel
theorem dX11_costOf_72 : decode cX11_costOf 72 = .ok (.getfield 115, 3) := by decide +kernel
theorem dX11_costOf_75 : decode cX11_costOf 75 = .ok (.aload_n 0, 1) := by decide +kernel
theorem dX11_costOf_76 : decode cX11_costOf 76 = .ok (.getfield 48, 3) := by decide +kernel
theorem dX11_costOf_79 : decode cX11_costOf 79 = .ok (.iaload, 1) := by decide +kernel
theorem dX11_costOf_80 : decode cX11_costOf 80 = .ok (.i2l, 1) := by decide +kernel
theorem dX11_costOf_81 : decode cX11_costOf 81 = .ok (.ldc2_w 517, 3) := by decide +kernel
theorem dX11_costOf_84 : decode cX11_costOf 84 = .ok (.aload_n 0, 1) := by decide +kernel
theorem dX11_costOf_85 : decode cX11_costOf 85 = .ok (.iload_n 1, 1) := by decide +kernel
theorem dX11_costOf_86 : decode cX11_costOf 86 = .ok (.iload_n 2, 1) := by decide +kernel
theorem dX11_costOf_87 : decode cX11_costOf 87 = .ok (.iconst 0, 1) := by decide +kernel
theorem dX11_costOf_88 : decode cX11_costOf 88 = .ok (.invokevirtual 521, 3) := by decide +kernel
theorem dX11_costOf_91 : decode cX11_costOf 91 = .ok (.lsub, 1) := by decide +kernel
theorem dX11_costOf_92 : decode cX11_costOf 92 = .ok (.lmul, 1) := by decide +kernel
theorem dX11_costOf_93 : decode cX11_costOf 93 = .ok (.aload_n 0, 1) := by decide +kernel
theorem dX11_costOf_94 : decode cX11_costOf 94 = .ok (.getfield 118, 3) := by decide +kernel
theorem dX11_costOf_97 : decode cX11_costOf 97 = .ok (.aload_n 0, 1) := by decide +kernel
theorem dX11_costOf_98 : decode cX11_costOf 98 = .ok (.getfield 48, 3) := by decide +kernel
theorem dX11_costOf_101 : decode cX11_costOf 101 = .ok (.iaload, 1) := by decide +kernel
theorem dX11_costOf_102 : decode cX11_costOf 102 = .ok (.i2l, 1) := by decide +kernel
theorem dX11_costOf_103 : decode cX11_costOf 103 = .ok (.aload_n 0, 1) := by decide +kernel
theorem dX11_costOf_104 : decode cX11_costOf 104 = .ok (.iload 4, 2) := by decide +kernel
theorem dX11_costOf_106 : decode cX11_costOf 106 = .ok (.iconst 1, 1) := by decide +kernel
theorem dX11_costOf_107 : decode cX11_costOf 107 = .ok (.invokevirtual 536, 3) := by decide +kernel
theorem dX11_costOf_110 : decode cX11_costOf 110 = .ok (.lmul, 1) := by decide +kernel
theorem dX11_costOf_111 : decode cX11_costOf 111 = .ok (.ladd, 1) := by decide +kernel
theorem dX11_costOf_112 : decode cX11_costOf 112 = .ok (.lstore 9, 2) := by decide +kernel
theorem dX11_costOf_114 : decode cX11_costOf 114 = .ok (.aload_n 0, 1) := by decide +kernel
theorem dX11_costOf_115 : decode cX11_costOf 115 = .ok (.getfield 88, 3) := by decide +kernel
theorem dX11_costOf_118 : decode cX11_costOf 118 = .ok (.iload 5, 2) := by decide +kernel
theorem dX11_costOf_120 : decode cX11_costOf 120 = .ok (.iload 6, 2) := by decide +kernel
theorem dX11_costOf_122 : decode cX11_costOf 122 = .ok (.iastore, 1) := by decide +kernel
theorem dX11_costOf_123 : decode cX11_costOf 123 = .ok (.aload_n 0, 1) := by decide +kernel
theorem dX11_costOf_124 : decode cX11_costOf 124 = .ok (.getfield 91, 3) := by decide +kernel
theorem dX11_costOf_127 : decode cX11_costOf 127 = .ok (.iload 5, 2) := by decide +kernel
theorem dX11_costOf_129 : decode cX11_costOf 129 = .ok (.iload 7, 2) := by decide +kernel
theorem dX11_costOf_131 : decode cX11_costOf 131 = .ok (.iastore, 1) := by decide +kernel
theorem dX11_costOf_132 : decode cX11_costOf 132 = .ok (.aload_n 0, 1) := by decide +kernel
theorem dX11_costOf_133 : decode cX11_costOf 133 = .ok (.getfield 94, 3) := by decide +kernel
theorem dX11_costOf_136 : decode cX11_costOf 136 = .ok (.iload 5, 2) := by decide +kernel
theorem dX11_costOf_138 : decode cX11_costOf 138 = .ok (.iload 8, 2) := by decide +kernel
theorem dX11_costOf_140 : decode cX11_costOf 140 = .ok (.iastore, 1) := by decide +kernel
theorem dX11_costOf_141 : decode cX11_costOf 141 = .ok (.lload 9, 2) := by decide +kernel
theorem dX11_costOf_143 : decode cX11_costOf 143 = .ok (.ldc2_w 517, 3) := by decide +kernel
theorem dX11_costOf_146 : decode cX11_costOf 146 = .ok (.ldiv, 1) := by decide +kernel
theorem dX11_costOf_147 : decode cX11_costOf 147 = .ok (.l2i, 1) := by decide +kernel
theorem dX11_costOf_148 : decode cX11_costOf 148 = .ok (.ireturn, 1) := by decide +kernel
theorem dX11_cost_0 : decode cX11_cost 0 = .ok (.aload_n 0, 1) := by decide +kernel
theorem dX11_cost_1 : decode cX11_cost 1 = .ok (.iload_n 1, 1) := by decide +kernel
theorem dX11_cost_2 : decode cX11_cost 2 = .ok (.invokevirtual 466, 3) := by decide +kernel
theorem dX11_cost_5 : decode cX11_cost 5 = .ok (.ifCond .eq 39, 3) := by decide +kernel
theorem dX11_cost_8 : decode cX11_cost 8 = .ok (.iload_n 2, 1) := by decide +kernel
theorem dX11_cost_9 : decode cX11_cost 9 = .ok (.iconst 1, 1) := by decide +kernel
theorem dX11_cost_10 : decode cX11_cost 10 = .ok (.bipush 6, 2) := by decide +kernel
theorem dX11_cost_12 : decode cX11_cost 12 = .ok (.invokestatic 324, 3) := by decide +kernel
theorem dX11_cost_15 : decode cX11_cost 15 = .ok (.ifCond .eq 29, 3) := by decide +kernel
theorem dX11_cost_18 : decode cX11_cost 18 = .ok (.iload 4, 2) := by decide +kernel
theorem dX11_cost_20 : decode cX11_cost 20 = .ok (.ifCond .eq 9, 3) := by decide +kernel
theorem dX11_cost_23 : decode cX11_cost 23 = .ok (.iload 4, 2) := by decide +kernel
theorem dX11_cost_25 : decode cX11_cost 25 = .ok (.iconst 1, 1) := by decide +kernel
theorem dX11_cost_26 : decode cX11_cost 26 = .ok (.if_icmp .ne 18, 3) := by decide +kernel
theorem dX11_cost_29 : decode cX11_cost 29 = .ok (.iload 4, 2) := by decide +kernel
theorem dX11_cost_31 : decode cX11_cost 31 = .ok (.ifCond .ne 15, 3) := by decide +kernel
theorem dX11_cost_34 : decode cX11_cost 34 = .ok (.iload_n 3, 1) := by decide +kernel
theorem dX11_cost_35 : decode cX11_cost 35 = .ok (.iconst 0, 1) := by decide +kernel
theorem dX11_cost_36 : decode cX11_cost 36 = .ok (.bipush 20, 2) := by decide +kernel
theorem dX11_cost_38 : decode cX11_cost 38 = .ok (.invokestatic 324, 3) := by decide +kernel
theorem dX11_cost_41 : decode cX11_cost 41 = .ok (.ifCond .ne 5, 3) := by decide +kernel
theorem dX11_cost_44 : decode cX11_cost 44 = .ok (.iconst (-1), 1) := by decide +kernel
theorem dX11_cost_45 : decode cX11_cost 45 = .ok (.ireturn, 1) := by decide +kernel
theorem dX11_cost_46 : decode cX11_cost 46 = .ok (.iload 4, 2) := by decide +kernel
theorem dX11_cost_48 : decode cX11_cost 48 = .ok (.ifCond .ne 11, 3) := by decide +kernel
theorem dX11_cost_51 : decode cX11_cost 51 = .ok (.aload_n 0, 1) := by decide +kernel
theorem dX11_cost_52 : decode cX11_cost 52 = .ok (.iload_n 1, 1) := by decide +kernel
theorem dX11_cost_53 : decode cX11_cost 53 = .ok (.iload_n 2, 1) := by decide +kernel
theorem dX11_cost_54 : decode cX11_cost 54 = .ok (.iload_n 3, 1) := by decide +kernel
theorem dX11_cost_55 : decode cX11_cost 55 = .ok (.invokevirtual 542, 3) := by decide +kernel
theorem dX11_cost_58 : decode cX11_cost 58 = .ok (.ireturn, 1) := by decide +kernel
theorem dX11_cost_59 : decode cX11_cost 59 = .ok (.iconst 0, 1) := by decide +kernel
theorem dX11_cost_60 : decode cX11_cost 60 = .ok (.istore 5, 2) := by decide +kernel
theorem dX11_cost_62 : decode cX11_cost 62 = .ok (.aload_n 0, 1) := by decide +kernel
theorem dX11_cost_63 : decode cX11_cost 63 = .ok (.iload_n 1, 1) := by decide +kernel
theorem dX11_cost_64 : decode cX11_cost 64 = .ok (.iload_n 2, 1) := by decide +kernel
theorem dX11_cost_65 : decode cX11_cost 65 = .ok (.iconst 0, 1) := by decide +kernel
theorem dX11_cost_66 : decode cX11_cost 66 = .ok (.invokevirtual 542, 3) := by decide +kernel
