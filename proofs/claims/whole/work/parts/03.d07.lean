theorem dX11_refuses_7 : decode cX11_refuses 7 = .ok (.iconst 1, 1) := by decide +kernel
theorem dX11_refuses_8 : decode cX11_refuses 8 = .ok (.iadd, 1) := by decide +kernel
theorem dX11_refuses_9 : decode cX11_refuses 9 = .ok (.iastore, 1) := by decide +kernel
theorem dX11_refuses_10 : decode cX11_refuses 10 = .ok (.iconst (-1), 1) := by decide +kernel
theorem dX11_refuses_11 : decode cX11_refuses 11 = .ok (.ireturn, 1) := by decide +kernel
theorem dX11_status_0 : decode cX11_status 0 = .ok (.iload_n 1, 1) := by decide +kernel
theorem dX11_status_1 : decode cX11_status 1 = .ok (.iconst 0, 1) := by decide +kernel
theorem dX11_status_2 : decode cX11_status 2 = .ok (.iconst 5, 1) := by decide +kernel
theorem dX11_status_3 : decode cX11_status 3 = .ok (.invokestatic 324, 3) := by decide +kernel
theorem dX11_status_6 : decode cX11_status 6 = .ok (.ifCond .eq 12, 3) := by decide +kernel
theorem dX11_status_9 : decode cX11_status 9 = .ok (.aload_n 0, 1) := by decide +kernel
theorem dX11_status_10 : decode cX11_status 10 = .ok (.getfield 165, 3) := by decide +kernel
theorem dX11_status_13 : decode cX11_status 13 = .ok (.iload_n 1, 1) := by decide +kernel
theorem dX11_status_14 : decode cX11_status 14 = .ok (.iaload, 1) := by decide +kernel
theorem dX11_status_15 : decode cX11_status 15 = .ok (.goto 4, 3) := by decide +kernel
theorem dX11_status_18 : decode cX11_status 18 = .ok (.iconst (-1), 1) := by decide +kernel
theorem dX11_status_19 : decode cX11_status 19 = .ok (.ireturn, 1) := by decide +kernel
theorem dX11_bounded_0 : decode cX11_bounded 0 = .ok (.lload_n 0, 1) := by decide +kernel
theorem dX11_bounded_1 : decode cX11_bounded 1 = .ok (.ldc2_w 418, 3) := by decide +kernel
theorem dX11_bounded_4 : decode cX11_bounded 4 = .ok (.lcmp, 1) := by decide +kernel
theorem dX11_bounded_5 : decode cX11_bounded 5 = .ok (.ifCond .le 9, 3) := by decide +kernel
theorem dX11_bounded_8 : decode cX11_bounded 8 = .ok (.ldc2_w 418, 3) := by decide +kernel
theorem dX11_bounded_11 : decode cX11_bounded 11 = .ok (.goto 18, 3) := by decide +kernel
theorem dX11_bounded_14 : decode cX11_bounded 14 = .ok (.lload_n 0, 1) := by decide +kernel
theorem dX11_bounded_15 : decode cX11_bounded 15 = .ok (.ldc2_w 420, 3) := by decide +kernel
theorem dX11_bounded_18 : decode cX11_bounded 18 = .ok (.lcmp, 1) := by decide +kernel
theorem dX11_bounded_19 : decode cX11_bounded 19 = .ok (.ifCond .ge 9, 3) := by decide +kernel
theorem dX11_bounded_22 : decode cX11_bounded 22 = .ok (.ldc2_w 420, 3) := by decide +kernel
theorem dX11_bounded_25 : decode cX11_bounded 25 = .ok (.goto 4, 3) := by decide +kernel
theorem dX11_bounded_28 : decode cX11_bounded 28 = .ok (.lload_n 0, 1) := by decide +kernel
theorem dX11_bounded_29 : decode cX11_bounded 29 = .ok (.lreturn, 1) := by decide +kernel
theorem dX11_over_0 : decode cX11_over 0 = .ok (.lload_n 2, 1) := by decide +kernel
theorem dX11_over_1 : decode cX11_over 1 = .ok (.lconst 0, 1) := by decide +kernel
theorem dX11_over_2 : decode cX11_over 2 = .ok (.lcmp, 1) := by decide +kernel
theorem dX11_over_3 : decode cX11_over 3 = .ok (.ifCond .ne 5, 3) := by decide +kernel
theorem dX11_over_6 : decode cX11_over 6 = .ok (.lconst 0, 1) := by decide +kernel
theorem dX11_over_7 : decode cX11_over 7 = .ok (.lreturn, 1) := by decide +kernel
theorem dX11_over_8 : decode cX11_over 8 = .ok (.lload_n 0, 1) := by decide +kernel
theorem dX11_over_9 : decode cX11_over 9 = .ok (.lload_n 2, 1) := by decide +kernel
theorem dX11_over_10 : decode cX11_over 10 = .ok (.ldiv, 1) := by decide +kernel
theorem dX11_over_11 : decode cX11_over 11 = .ok (.lstore 4, 2) := by decide +kernel
theorem dX11_over_13 : decode cX11_over 13 = .ok (.lload_n 0, 1) := by decide +kernel
theorem dX11_over_14 : decode cX11_over 14 = .ok (.lload_n 2, 1) := by decide +kernel
theorem dX11_over_15 : decode cX11_over 15 = .ok (.lrem, 1) := by decide +kernel
theorem dX11_over_16 : decode cX11_over 16 = .ok (.lconst 0, 1) := by decide +kernel
theorem dX11_over_17 : decode cX11_over 17 = .ok (.lcmp, 1) := by decide +kernel
theorem dX11_over_18 : decode cX11_over 18 = .ok (.ifCond .eq 35, 3) := by decide +kernel
theorem dX11_over_21 : decode cX11_over 21 = .ok (.lload_n 0, 1) := by decide +kernel
theorem dX11_over_22 : decode cX11_over 22 = .ok (.lconst 0, 1) := by decide +kernel
theorem dX11_over_23 : decode cX11_over 23 = .ok (.lcmp, 1) := by decide +kernel
theorem dX11_over_24 : decode cX11_over 24 = .ok (.ifCond .ge 7, 3) := by decide +kernel
theorem dX11_over_27 : decode cX11_over 27 = .ok (.iconst 1, 1) := by decide +kernel
theorem dX11_over_28 : decode cX11_over 28 = .ok (.goto 4, 3) := by decide +kernel
theorem dX11_over_31 : decode cX11_over 31 = .ok (.iconst 0, 1) := by decide +kernel
theorem dX11_over_32 : decode cX11_over 32 = .ok (.lload_n 2, 1) := by decide +kernel
theorem dX11_over_33 : decode cX11_over 33 = .ok (.lconst 0, 1) := by decide +kernel
theorem dX11_over_34 : decode cX11_over 34 = .ok (.lcmp, 1) := by decide +kernel
theorem dX11_over_35 : decode cX11_over 35 = .ok (.ifCond .ge 7, 3) := by decide +kernel
theorem dX11_over_38 : decode cX11_over 38 = .ok (.iconst 1, 1) := by decide +kernel
theorem dX11_over_39 : decode cX11_over 39 = .ok (.goto 4, 3) := by decide +kernel
theorem dX11_over_42 : decode cX11_over 42 = .ok (.iconst 0, 1) := by decide +kernel
theorem dX11_over_43 : decode cX11_over 43 = .ok (.if_icmp .eq 10, 3) := by decide +kernel
theorem dX11_over_46 : decode cX11_over 46 = .ok (.lload 4, 2) := by decide +kernel
theorem dX11_over_48 : decode cX11_over 48 = .ok (.lconst 1, 1) := by decide +kernel
theorem dX11_over_49 : decode cX11_over 49 = .ok (.lsub, 1) := by decide +kernel
theorem dX11_over_50 : decode cX11_over 50 = .ok (.goto 5, 3) := by decide +kernel
theorem dX11_over_53 : decode cX11_over 53 = .ok (.lload 4, 2) := by decide +kernel
theorem dX11_over_55 : decode cX11_over 55 = .ok (.lreturn, 1) := by decide +kernel
theorem dX11_made_0 : decode cX11_made 0 = .ok (.iload_n 0, 1) := by decide +kernel
theorem dX11_made_1 : decode cX11_made 1 = .ok (.tableswitch 170 10 20 #[59, 66, 73, 80, 86, 106, 118, 130, 142, 154, 166], 59) := by decide +kernel
theorem dX11_made_60 : decode cX11_made 60 = .ok (.lload_n 1, 1) := by decide +kernel
theorem dX11_made_61 : decode cX11_made 61 = .ok (.lload_n 3, 1) := by decide +kernel
theorem dX11_made_62 : decode cX11_made 62 = .ok (.ladd, 1) := by decide +kernel
theorem dX11_made_63 : decode cX11_made 63 = .ok (.invokestatic 422, 3) := by decide +kernel
theorem dX11_made_66 : decode cX11_made 66 = .ok (.lreturn, 1) := by decide +kernel
theorem dX11_made_67 : decode cX11_made 67 = .ok (.lload_n 1, 1) := by decide +kernel
theorem dX11_made_68 : decode cX11_made 68 = .ok (.lload_n 3, 1) := by decide +kernel
theorem dX11_made_69 : decode cX11_made 69 = .ok (.lsub, 1) := by decide +kernel
theorem dX11_made_70 : decode cX11_made 70 = .ok (.invokestatic 422, 3) := by decide +kernel
theorem dX11_made_73 : decode cX11_made 73 = .ok (.lreturn, 1) := by decide +kernel
theorem dX11_made_74 : decode cX11_made 74 = .ok (.lload_n 1, 1) := by decide +kernel
theorem dX11_made_75 : decode cX11_made 75 = .ok (.lload_n 3, 1) := by decide +kernel
theorem dX11_made_76 : decode cX11_made 76 = .ok (.lmul, 1) := by decide +kernel
theorem dX11_made_77 : decode cX11_made 77 = .ok (.invokestatic 422, 3) := by decide +kernel
theorem dX11_made_80 : decode cX11_made 80 = .ok (.lreturn, 1) := by decide +kernel
theorem dX11_made_81 : decode cX11_made 81 = .ok (.lload_n 1, 1) := by decide +kernel
theorem dX11_made_82 : decode cX11_made 82 = .ok (.lload_n 3, 1) := by decide +kernel
theorem dX11_made_83 : decode cX11_made 83 = .ok (.invokestatic 426, 3) := by decide +kernel
theorem dX11_made_86 : decode cX11_made 86 = .ok (.lreturn, 1) := by decide +kernel
theorem dX11_made_87 : decode cX11_made 87 = .ok (.lload_n 3, 1) := by decide +kernel
theorem dX11_made_88 : decode cX11_made 88 = .ok (.lconst 0, 1) := by decide +kernel
theorem dX11_made_89 : decode cX11_made 89 = .ok (.lcmp, 1) := by decide +kernel
theorem dX11_made_90 : decode cX11_made 90 = .ok (.ifCond .ne 7, 3) := by decide +kernel
theorem dX11_made_93 : decode cX11_made 93 = .ok (.lconst 0, 1) := by decide +kernel
theorem dX11_made_94 : decode cX11_made 94 = .ok (.goto 12, 3) := by decide +kernel
theorem dX11_made_97 : decode cX11_made 97 = .ok (.lload_n 1, 1) := by decide +kernel
theorem dX11_made_98 : decode cX11_made 98 = .ok (.lload_n 3, 1) := by decide +kernel
theorem dX11_made_99 : decode cX11_made 99 = .ok (.lload_n 1, 1) := by decide +kernel
theorem dX11_made_100 : decode cX11_made 100 = .ok (.lload_n 3, 1) := by decide +kernel
theorem dX11_made_101 : decode cX11_made 101 = .ok (.invokestatic 426, 3) := by decide +kernel
theorem dX11_made_104 : decode cX11_made 104 = .ok (.lmul, 1) := by decide +kernel
theorem dX11_made_105 : decode cX11_made 105 = .ok (.lsub, 1) := by decide +kernel
theorem dX11_made_106 : decode cX11_made 106 = .ok (.lreturn, 1) := by decide +kernel
theorem dX11_made_107 : decode cX11_made 107 = .ok (.lload_n 1, 1) := by decide +kernel
theorem dX11_made_108 : decode cX11_made 108 = .ok (.lload_n 3, 1) := by decide +kernel
theorem dX11_made_109 : decode cX11_made 109 = .ok (.lcmp, 1) := by decide +kernel
theorem dX11_made_110 : decode cX11_made 110 = .ok (.ifCond .ge 7, 3) := by decide +kernel
theorem dX11_made_113 : decode cX11_made 113 = .ok (.lload_n 1, 1) := by decide +kernel
theorem dX11_made_114 : decode cX11_made 114 = .ok (.goto 4, 3) := by decide +kernel
theorem dX11_made_117 : decode cX11_made 117 = .ok (.lload_n 3, 1) := by decide +kernel
theorem dX11_made_118 : decode cX11_made 118 = .ok (.lreturn, 1) := by decide +kernel
theorem dX11_made_119 : decode cX11_made 119 = .ok (.lload_n 1, 1) := by decide +kernel
theorem dX11_made_120 : decode cX11_made 120 = .ok (.lload_n 3, 1) := by decide +kernel
theorem dX11_made_121 : decode cX11_made 121 = .ok (.lcmp, 1) := by decide +kernel
theorem dX11_made_122 : decode cX11_made 122 = .ok (.ifCond .le 7, 3) := by decide +kernel
theorem dX11_made_125 : decode cX11_made 125 = .ok (.lload_n 1, 1) := by decide +kernel
theorem dX11_made_126 : decode cX11_made 126 = .ok (.goto 4, 3) := by decide +kernel
theorem dX11_made_129 : decode cX11_made 129 = .ok (.lload_n 3, 1) := by decide +kernel
theorem dX11_made_130 : decode cX11_made 130 = .ok (.lreturn, 1) := by decide +kernel
theorem dX11_made_131 : decode cX11_made 131 = .ok (.lload_n 1, 1) := by decide +kernel
theorem dX11_made_132 : decode cX11_made 132 = .ok (.lload_n 3, 1) := by decide +kernel
theorem dX11_made_133 : decode cX11_made 133 = .ok (.lcmp, 1) := by decide +kernel
theorem dX11_made_134 : decode cX11_made 134 = .ok (.ifCond .ge 7, 3) := by decide +kernel
theorem dX11_made_137 : decode cX11_made 137 = .ok (.lconst 1, 1) := by decide +kernel
theorem dX11_made_138 : decode cX11_made 138 = .ok (.goto 4, 3) := by decide +kernel
theorem dX11_made_141 : decode cX11_made 141 = .ok (.lconst 0, 1) := by decide +kernel
theorem dX11_made_142 : decode cX11_made 142 = .ok (.lreturn, 1) := by decide +kernel
theorem dX11_made_143 : decode cX11_made 143 = .ok (.lload_n 1, 1) := by decide +kernel
theorem dX11_made_144 : decode cX11_made 144 = .ok (.lload_n 3, 1) := by decide +kernel
theorem dX11_made_145 : decode cX11_made 145 = .ok (.lcmp, 1) := by decide +kernel
theorem dX11_made_146 : decode cX11_made 146 = .ok (.ifCond .le 7, 3) := by decide +kernel
theorem dX11_made_149 : decode cX11_made 149 = .ok (.lconst 1, 1) := by decide +kernel
theorem dX11_made_150 : decode cX11_made 150 = .ok (.goto 4, 3) := by decide +kernel
theorem dX11_made_153 : decode cX11_made 153 = .ok (.lconst 0, 1) := by decide +kernel
theorem dX11_made_154 : decode cX11_made 154 = .ok (.lreturn, 1) := by decide +kernel
theorem dX11_made_155 : decode cX11_made 155 = .ok (.lload_n 1, 1) := by decide +kernel
theorem dX11_made_156 : decode cX11_made 156 = .ok (.lload_n 3, 1) := by decide +kernel
theorem dX11_made_157 : decode cX11_made 157 = .ok (.lcmp, 1) := by decide +kernel
theorem dX11_made_158 : decode cX11_made 158 = .ok (.ifCond .ne 7, 3) := by decide +kernel
theorem dX11_made_161 : decode cX11_made 161 = .ok (.lconst 1, 1) := by decide +kernel
theorem dX11_made_162 : decode cX11_made 162 = .ok (.goto 4, 3) := by decide +kernel
theorem dX11_made_165 : decode cX11_made 165 = .ok (.lconst 0, 1) := by decide +kernel
theorem dX11_made_166 : decode cX11_made 166 = .ok (.lreturn, 1) := by decide +kernel
theorem dX11_made_167 : decode cX11_made 167 = .ok (.lload_n 1, 1) := by decide +kernel
theorem dX11_made_168 : decode cX11_made 168 = .ok (.lload_n 3, 1) := by decide +kernel
theorem dX11_made_169 : decode cX11_made 169 = .ok (.lmul, 1) := by decide +kernel
theorem dX11_made_170 : decode cX11_made 170 = .ok (.lreturn, 1) := by decide +kernel
theorem dX11_made_171 : decode cX11_made 171 = .ok (.lload_n 1, 1) := by decide +kernel
theorem dX11_made_172 : decode cX11_made 172 = .ok (.lload_n 3, 1) := by decide +kernel
theorem dX11_made_173 : decode cX11_made 173 = .ok (.ladd, 1) := by decide +kernel
theorem dX11_made_174 : decode cX11_made 174 = .ok (.lconst 0, 1) := by decide +kernel
theorem dX11_made_175 : decode cX11_made 175 = .ok (.lcmp, 1) := by decide +kernel
theorem dX11_made_176 : decode cX11_made 176 = .ok (.ifCond .le 7, 3) := by decide +kernel
theorem dX11_made_179 : decode cX11_made 179 = .ok (.lconst 1, 1) := by decide +kernel
theorem dX11_made_180 : decode cX11_made 180 = .ok (.goto 4, 3) := by decide +kernel
theorem dX11_made_183 : decode cX11_made 183 = .ok (.lconst 0, 1) := by decide +kernel
theorem dX11_made_184 : decode cX11_made 184 = .ok (.lreturn, 1) := by decide +kernel
theorem dX11_works_0 : decode cX11_works 0 = .ok (.iconst 0, 1) := by decide +kernel
theorem dX11_works_1 : decode cX11_works 1 = .ok (.istore_n 3, 1) := by decide +kernel
theorem dX11_works_2 : decode cX11_works 2 = .ok (.sipush 1600, 3) := by decide +kernel
theorem dX11_works_5 : decode cX11_works 5 = .ok (.aload_n 0, 1) := by decide +kernel
theorem dX11_works_6 : decode cX11_works 6 = .ok (.getfield 48, 3) := by decide +kernel
theorem dX11_works_9 : decode cX11_works 9 = .ok (.imul, 1) := by decide +kernel
theorem dX11_works_10 : decode cX11_works 10 = .ok (.iload_n 1, 1) := by decide +kernel
theorem dX11_works_11 : decode cX11_works 11 = .ok (.iadd, 1) := by decide +kernel
theorem dX11_works_12 : decode cX11_works 12 = .ok (.istore 4, 2) := by decide +kernel
theorem dX11_works_14 : decode cX11_works 14 = .ok (.iload 4, 2) := by decide +kernel
theorem dX11_works_16 : decode cX11_works 16 = .ok (.sipush 1600, 3) := by decide +kernel
theorem dX11_works_19 : decode cX11_works 19 = .ok (.aload_n 0, 1) := by decide +kernel
theorem dX11_works_20 : decode cX11_works 20 = .ok (.getfield 48, 3) := by decide +kernel
theorem dX11_works_23 : decode cX11_works 23 = .ok (.imul, 1) := by decide +kernel
theorem dX11_works_24 : decode cX11_works 24 = .ok (.iload_n 2, 1) := by decide +kernel
theorem dX11_works_25 : decode cX11_works 25 = .ok (.iadd, 1) := by decide +kernel
theorem dX11_works_26 : decode cX11_works 26 = .ok (.if_icmp .ge 130, 3) := by decide +kernel
theorem dX11_works_29 : decode cX11_works 29 = .ok (.aload_n 0, 1) := by decide +kernel
theorem dX11_works_30 : decode cX11_works 30 = .ok (.getfield 121, 3) := by decide +kernel
theorem dX11_works_33 : decode cX11_works 33 = .ok (.iload 4, 2) := by decide +kernel
theorem dX11_works_35 : decode cX11_works 35 = .ok (.iaload, 1) := by decide +kernel
theorem dX11_works_36 : decode cX11_works 36 = .ok (.istore 5, 2) := by decide +kernel
theorem dX11_works_38 : decode cX11_works 38 = .ok (.iload 5, 2) := by decide +kernel
theorem dX11_works_40 : decode cX11_works 40 = .ok (.bipush 9, 2) := by decide +kernel
theorem dX11_works_42 : decode cX11_works 42 = .ok (.if_icmp .gt 50, 3) := by decide +kernel
theorem dX11_works_45 : decode cX11_works 45 = .ok (.aload_n 0, 1) := by decide +kernel
theorem dX11_works_46 : decode cX11_works 46 = .ok (.getfield 168, 3) := by decide +kernel
theorem dX11_works_49 : decode cX11_works 49 = .ok (.iload_n 3, 1) := by decide +kernel
theorem dX11_works_50 : decode cX11_works 50 = .ok (.iload 5, 2) := by decide +kernel
theorem dX11_works_52 : decode cX11_works 52 = .ok (.ifCond .ne 14, 3) := by decide +kernel
theorem dX11_works_55 : decode cX11_works 55 = .ok (.aload_n 0, 1) := by decide +kernel
theorem dX11_works_56 : decode cX11_works 56 = .ok (.getfield 124, 3) := by decide +kernel
theorem dX11_works_59 : decode cX11_works 59 = .ok (.iload 4, 2) := by decide +kernel
theorem dX11_works_61 : decode cX11_works 61 = .ok (.iaload, 1) := by decide +kernel
theorem dX11_works_62 : decode cX11_works 62 = .ok (.i2l, 1) := by decide +kernel
theorem dX11_works_63 : decode cX11_works 63 = .ok (.goto 22, 3) := by decide +kernel
theorem dX11_works_66 : decode cX11_works 66 = .ok (.iload 5, 2) := by decide +kernel
theorem dX11_works_68 : decode cX11_works 68 = .ok (.bipush 9, 2) := by decide +kernel
theorem dX11_works_70 : decode cX11_works 70 = .ok (.if_icmp .ne 7, 3) := by decide +kernel
theorem dX11_works_73 : decode cX11_works 73 = .ok (.lconst 1, 1) := by decide +kernel
theorem dX11_works_74 : decode cX11_works 74 = .ok (.goto 11, 3) := by decide +kernel
theorem dX11_works_77 : decode cX11_works 77 = .ok (.aload_n 0, 1) := by decide +kernel
theorem dX11_works_78 : decode cX11_works 78 = .ok (.getfield 171, 3) := by decide +kernel
theorem dX11_works_81 : decode cX11_works 81 = .ok (.iload 5, 2) := by decide +kernel
theorem dX11_works_83 : decode cX11_works 83 = .ok (.iaload, 1) := by decide +kernel
theorem dX11_works_84 : decode cX11_works 84 = .ok (.i2l, 1) := by decide +kernel
theorem dX11_works_85 : decode cX11_works 85 = .ok (.lastore, 1) := by decide +kernel
theorem dX11_works_86 : decode cX11_works 86 = .ok (.iinc 3 1, 3) := by decide +kernel
theorem dX11_works_89 : decode cX11_works 89 = .ok (.goto 61, 3) := by decide +kernel
theorem dX11_works_92 : decode cX11_works 92 = .ok (.iload 5, 2) := by decide +kernel
theorem dX11_works_94 : decode cX11_works 94 = .ok (.bipush 22, 2) := by decide +kernel
theorem dX11_works_96 : decode cX11_works 96 = .ok (.if_icmp .ne 24, 3) := by decide +kernel
theorem dX11_works_99 : decode cX11_works 99 = .ok (.aload_n 0, 1) := by decide +kernel
theorem dX11_works_100 : decode cX11_works 100 = .ok (.getfield 168, 3) := by decide +kernel
theorem dX11_works_103 : decode cX11_works 103 = .ok (.iload_n 3, 1) := by decide +kernel
theorem dX11_works_104 : decode cX11_works 104 = .ok (.iconst 1, 1) := by decide +kernel
theorem dX11_works_105 : decode cX11_works 105 = .ok (.isub, 1) := by decide +kernel
theorem dX11_works_106 : decode cX11_works 106 = .ok (.lconst 1, 1) := by decide +kernel
theorem dX11_works_107 : decode cX11_works 107 = .ok (.aload_n 0, 1) := by decide +kernel
theorem dX11_works_108 : decode cX11_works 108 = .ok (.getfield 168, 3) := by decide +kernel
theorem dX11_works_111 : decode cX11_works 111 = .ok (.iload_n 3, 1) := by decide +kernel
theorem dX11_works_112 : decode cX11_works 112 = .ok (.iconst 1, 1) := by decide +kernel
theorem dX11_works_113 : decode cX11_works 113 = .ok (.isub, 1) := by decide +kernel
theorem dX11_works_114 : decode cX11_works 114 = .ok (.laload, 1) := by decide +kernel
theorem dX11_works_115 : decode cX11_works 115 = .ok (.lsub, 1) := by decide +kernel
theorem dX11_works_116 : decode cX11_works 116 = .ok (.lastore, 1) := by decide +kernel
theorem dX11_works_117 : decode cX11_works 117 = .ok (.goto 33, 3) := by decide +kernel
theorem dX11_works_120 : decode cX11_works 120 = .ok (.iinc 3 (-1), 3) := by decide +kernel
theorem dX11_works_123 : decode cX11_works 123 = .ok (.aload_n 0, 1) := by decide +kernel
theorem dX11_works_124 : decode cX11_works 124 = .ok (.getfield 168, 3) := by decide +kernel
theorem dX11_works_127 : decode cX11_works 127 = .ok (.iload_n 3, 1) := by decide +kernel
theorem dX11_works_128 : decode cX11_works 128 = .ok (.iconst 1, 1) := by decide +kernel
theorem dX11_works_129 : decode cX11_works 129 = .ok (.isub, 1) := by decide +kernel
theorem dX11_works_130 : decode cX11_works 130 = .ok (.iload 5, 2) := by decide +kernel
theorem dX11_works_132 : decode cX11_works 132 = .ok (.aload_n 0, 1) := by decide +kernel
theorem dX11_works_133 : decode cX11_works 133 = .ok (.getfield 168, 3) := by decide +kernel
theorem dX11_works_136 : decode cX11_works 136 = .ok (.iload_n 3, 1) := by decide +kernel
theorem dX11_works_137 : decode cX11_works 137 = .ok (.iconst 1, 1) := by decide +kernel
theorem dX11_works_138 : decode cX11_works 138 = .ok (.isub, 1) := by decide +kernel
theorem dX11_works_139 : decode cX11_works 139 = .ok (.laload, 1) := by decide +kernel
theorem dX11_works_140 : decode cX11_works 140 = .ok (.aload_n 0, 1) := by decide +kernel
theorem dX11_works_141 : decode cX11_works 141 = .ok (.getfield 168, 3) := by decide +kernel
theorem dX11_works_144 : decode cX11_works 144 = .ok (.iload_n 3, 1) := by decide +kernel
theorem dX11_works_145 : decode cX11_works 145 = .ok (.laload, 1) := by decide +kernel
theorem dX11_works_146 : decode cX11_works 146 = .ok (.invokestatic 430, 3) := by decide +kernel
theorem dX11_works_149 : decode cX11_works 149 = .ok (.lastore, 1) := by decide +kernel
theorem dX11_works_150 : decode cX11_works 150 = .ok (.iinc 4 1, 3) := by decide +kernel
theorem dX11_works_153 : decode cX11_works 153 = .ok (.goto (-139), 3) := by decide +kernel
theorem dX11_works_156 : decode cX11_works 156 = .ok (.aload_n 0, 1) := by decide +kernel
theorem dX11_works_157 : decode cX11_works 157 = .ok (.getfield 168, 3) := by decide +kernel
theorem dX11_works_160 : decode cX11_works 160 = .ok (.iconst 0, 1) := by decide +kernel
theorem dX11_works_161 : decode cX11_works 161 = .ok (.laload, 1) := by decide +kernel
theorem dX11_works_162 : decode cX11_works 162 = .ok (.lreturn, 1) := by decide +kernel
theorem dX11_ruled_0 : decode cX11_ruled 0 = .ok (.iconst 3, 1) := by decide +kernel
theorem dX11_ruled_1 : decode cX11_ruled 1 = .ok (.aload_n 0, 1) := by decide +kernel
theorem dX11_ruled_2 : decode cX11_ruled 2 = .ok (.getfield 48, 3) := by decide +kernel
theorem dX11_ruled_5 : decode cX11_ruled 5 = .ok (.imul, 1) := by decide +kernel
theorem dX11_ruled_6 : decode cX11_ruled 6 = .ok (.iload_n 1, 1) := by decide +kernel
theorem dX11_ruled_7 : decode cX11_ruled 7 = .ok (.iadd, 1) := by decide +kernel
theorem dX11_ruled_8 : decode cX11_ruled 8 = .ok (.istore 4, 2) := by decide +kernel
theorem dX11_ruled_10 : decode cX11_ruled 10 = .ok (.bipush 6, 2) := by decide +kernel
theorem dX11_ruled_12 : decode cX11_ruled 12 = .ok (.iload 4, 2) := by decide +kernel
theorem dX11_ruled_14 : decode cX11_ruled 14 = .ok (.imul, 1) := by decide +kernel
theorem dX11_ruled_15 : decode cX11_ruled 15 = .ok (.istore 5, 2) := by decide +kernel
theorem dX11_ruled_17 : decode cX11_ruled 17 = .ok (.iload 5, 2) := by decide +kernel
theorem dX11_ruled_19 : decode cX11_ruled 19 = .ok (.bipush 6, 2) := by decide +kernel
theorem dX11_ruled_21 : decode cX11_ruled 21 = .ok (.iload 4, 2) := by decide +kernel
theorem dX11_ruled_23 : decode cX11_ruled 23 = .ok (.imul, 1) := by decide +kernel
theorem dX11_ruled_24 : decode cX11_ruled 24 = .ok (.aload_n 0, 1) := by decide +kernel
theorem dX11_ruled_25 : decode cX11_ruled 25 = .ok (.getfield 70, 3) := by decide +kernel
theorem dX11_ruled_28 : decode cX11_ruled 28 = .ok (.iload 4, 2) := by decide +kernel
theorem dX11_ruled_30 : decode cX11_ruled 30 = .ok (.iaload, 1) := by decide +kernel
theorem dX11_ruled_31 : decode cX11_ruled 31 = .ok (.iadd, 1) := by decide +kernel
theorem dX11_ruled_32 : decode cX11_ruled 32 = .ok (.if_icmp .ge 77, 3) := by decide +kernel
theorem dX11_ruled_35 : decode cX11_ruled 35 = .ok (.aload_n 0, 1) := by decide +kernel
theorem dX11_ruled_36 : decode cX11_ruled 36 = .ok (.aload_n 0, 1) := by decide +kernel
theorem dX11_ruled_37 : decode cX11_ruled 37 = .ok (.getfield 76, 3) := by decide +kernel
theorem dX11_ruled_40 : decode cX11_ruled 40 = .ok (.iload 5, 2) := by decide +kernel
theorem dX11_ruled_42 : decode cX11_ruled 42 = .ok (.iaload, 1) := by decide +kernel
theorem dX11_ruled_43 : decode cX11_ruled 43 = .ok (.aload_n 0, 1) := by decide +kernel
theorem dX11_ruled_44 : decode cX11_ruled 44 = .ok (.getfield 79, 3) := by decide +kernel
theorem dX11_ruled_47 : decode cX11_ruled 47 = .ok (.iload 5, 2) := by decide +kernel
theorem dX11_ruled_49 : decode cX11_ruled 49 = .ok (.iaload, 1) := by decide +kernel
theorem dX11_ruled_50 : decode cX11_ruled 50 = .ok (.invokevirtual 434, 3) := by decide +kernel
theorem dX11_ruled_53 : decode cX11_ruled 53 = .ok (.lconst 1, 1) := by decide +kernel
theorem dX11_ruled_54 : decode cX11_ruled 54 = .ok (.lcmp, 1) := by decide +kernel
theorem dX11_ruled_55 : decode cX11_ruled 55 = .ok (.ifCond .eq 6, 3) := by decide +kernel
theorem dX11_ruled_58 : decode cX11_ruled 58 = .ok (.goto 45, 3) := by decide +kernel
theorem dX11_ruled_61 : decode cX11_ruled 61 = .ok (.aload_n 0, 1) := by decide +kernel
theorem dX11_ruled_62 : decode cX11_ruled 62 = .ok (.aload_n 0, 1) := by decide +kernel
theorem dX11_ruled_63 : decode cX11_ruled 63 = .ok (.getfield 73, 3) := by decide +kernel
theorem dX11_ruled_66 : decode cX11_ruled 66 = .ok (.iload 5, 2) := by decide +kernel
theorem dX11_ruled_68 : decode cX11_ruled 68 = .ok (.iaload, 1) := by decide +kernel
theorem dX11_ruled_69 : decode cX11_ruled 69 = .ok (.aload_n 0, 1) := by decide +kernel
theorem dX11_ruled_70 : decode cX11_ruled 70 = .ok (.getfield 76, 3) := by decide +kernel
theorem dX11_ruled_73 : decode cX11_ruled 73 = .ok (.iload 5, 2) := by decide +kernel
theorem dX11_ruled_75 : decode cX11_ruled 75 = .ok (.iaload, 1) := by decide +kernel
theorem dX11_ruled_76 : decode cX11_ruled 76 = .ok (.invokevirtual 434, 3) := by decide +kernel
theorem dX11_ruled_79 : decode cX11_ruled 79 = .ok (.iload_n 2, 1) := by decide +kernel
theorem dX11_ruled_80 : decode cX11_ruled 80 = .ok (.i2l, 1) := by decide +kernel
theorem dX11_ruled_81 : decode cX11_ruled 81 = .ok (.lrem, 1) := by decide +kernel
theorem dX11_ruled_82 : decode cX11_ruled 82 = .ok (.lstore 6, 2) := by decide +kernel
theorem dX11_ruled_84 : decode cX11_ruled 84 = .ok (.lload 6, 2) := by decide +kernel
theorem dX11_ruled_86 : decode cX11_ruled 86 = .ok (.lconst 0, 1) := by decide +kernel
theorem dX11_ruled_87 : decode cX11_ruled 87 = .ok (.lcmp, 1) := by decide +kernel
theorem dX11_ruled_88 : decode cX11_ruled 88 = .ok (.ifCond .ge 11, 3) := by decide +kernel
theorem dX11_ruled_91 : decode cX11_ruled 91 = .ok (.lload 6, 2) := by decide +kernel
theorem dX11_ruled_93 : decode cX11_ruled 93 = .ok (.iload_n 2, 1) := by decide +kernel
theorem dX11_ruled_94 : decode cX11_ruled 94 = .ok (.i2l, 1) := by decide +kernel
theorem dX11_ruled_95 : decode cX11_ruled 95 = .ok (.ladd, 1) := by decide +kernel
theorem dX11_ruled_96 : decode cX11_ruled 96 = .ok (.goto 5, 3) := by decide +kernel
theorem dX11_ruled_99 : decode cX11_ruled 99 = .ok (.lload 6, 2) := by decide +kernel
theorem dX11_ruled_101 : decode cX11_ruled 101 = .ok (.l2i, 1) := by decide +kernel
theorem dX11_ruled_102 : decode cX11_ruled 102 = .ok (.ireturn, 1) := by decide +kernel
theorem dX11_ruled_103 : decode cX11_ruled 103 = .ok (.iinc 5 1, 3) := by decide +kernel
theorem dX11_ruled_106 : decode cX11_ruled 106 = .ok (.goto (-89), 3) := by decide +kernel
theorem dX11_ruled_109 : decode cX11_ruled 109 = .ok (.iload_n 3, 1) := by decide +kernel
theorem dX11_ruled_110 : decode cX11_ruled 110 = .ok (.ireturn, 1) := by decide +kernel
theorem dX11_numberAt_0 : decode cX11_numberAt 0 = .ok (.iconst 0, 1) := by decide +kernel
theorem dX11_numberAt_1 : decode cX11_numberAt 1 = .ok (.istore_n 2, 1) := by decide +kernel
theorem dX11_numberAt_2 : decode cX11_numberAt 2 = .ok (.iconst 0, 1) := by decide +kernel
theorem dX11_numberAt_3 : decode cX11_numberAt 3 = .ok (.istore_n 3, 1) := by decide +kernel
theorem dX11_numberAt_4 : decode cX11_numberAt 4 = .ok (.iload_n 3, 1) := by decide +kernel
theorem dX11_numberAt_5 : decode cX11_numberAt 5 = .ok (.aload_n 0, 1) := by decide +kernel
theorem dX11_numberAt_6 : decode cX11_numberAt 6 = .ok (.getfield 54, 3) := by decide +kernel
theorem dX11_numberAt_9 : decode cX11_numberAt 9 = .ok (.aload_n 0, 1) := by decide +kernel
theorem dX11_numberAt_10 : decode cX11_numberAt 10 = .ok (.getfield 48, 3) := by decide +kernel
theorem dX11_numberAt_13 : decode cX11_numberAt 13 = .ok (.iaload, 1) := by decide +kernel
theorem dX11_numberAt_14 : decode cX11_numberAt 14 = .ok (.if_icmp .ge 32, 3) := by decide +kernel
theorem dX11_numberAt_17 : decode cX11_numberAt 17 = .ok (.iload_n 2, 1) := by decide +kernel
theorem dX11_numberAt_18 : decode cX11_numberAt 18 = .ok (.aload_n 0, 1) := by decide +kernel
theorem dX11_numberAt_19 : decode cX11_numberAt 19 = .ok (.getfield 51, 3) := by decide +kernel
theorem dX11_numberAt_22 : decode cX11_numberAt 22 = .ok (.aload_n 0, 1) := by decide +kernel
theorem dX11_numberAt_23 : decode cX11_numberAt 23 = .ok (.getfield 48, 3) := by decide +kernel
theorem dX11_numberAt_26 : decode cX11_numberAt 26 = .ok (.iaload, 1) := by decide +kernel
theorem dX11_numberAt_27 : decode cX11_numberAt 27 = .ok (.imul, 1) := by decide +kernel
theorem dX11_numberAt_28 : decode cX11_numberAt 28 = .ok (.aload_n 0, 1) := by decide +kernel
theorem dX11_numberAt_29 : decode cX11_numberAt 29 = .ok (.getfield 174, 3) := by decide +kernel
theorem dX11_numberAt_32 : decode cX11_numberAt 32 = .ok (.iconst 5, 1) := by decide +kernel
theorem dX11_numberAt_33 : decode cX11_numberAt 33 = .ok (.iload_n 1, 1) := by decide +kernel
theorem dX11_numberAt_34 : decode cX11_numberAt 34 = .ok (.imul, 1) := by decide +kernel
theorem dX11_numberAt_35 : decode cX11_numberAt 35 = .ok (.iload_n 3, 1) := by decide +kernel
theorem dX11_numberAt_36 : decode cX11_numberAt 36 = .ok (.iadd, 1) := by decide +kernel
theorem dX11_numberAt_37 : decode cX11_numberAt 37 = .ok (.iaload, 1) := by decide +kernel
theorem dX11_numberAt_38 : decode cX11_numberAt 38 = .ok (.iadd, 1) := by decide +kernel
theorem dX11_numberAt_39 : decode cX11_numberAt 39 = .ok (.istore_n 2, 1) := by decide +kernel
theorem dX11_numberAt_40 : decode cX11_numberAt 40 = .ok (.iinc 3 1, 3) := by decide +kernel
theorem dX11_numberAt_43 : decode cX11_numberAt 43 = .ok (.goto (-39), 3) := by decide +kernel
theorem dX11_numberAt_46 : decode cX11_numberAt 46 = .ok (.iload_n 2, 1) := by decide +kernel
theorem dX11_numberAt_47 : decode cX11_numberAt 47 = .ok (.ireturn, 1) := by decide +kernel
theorem dX11_lays_0 : decode cX11_lays 0 = .ok (.iconst 0, 1) := by decide +kernel
theorem dX11_lays_1 : decode cX11_lays 1 = .ok (.istore_n 2, 1) := by decide +kernel
theorem dX11_lays_2 : decode cX11_lays 2 = .ok (.iconst 0, 1) := by decide +kernel
theorem dX11_lays_3 : decode cX11_lays 3 = .ok (.istore_n 3, 1) := by decide +kernel
theorem dX11_lays_4 : decode cX11_lays 4 = .ok (.iload_n 3, 1) := by decide +kernel
theorem dX11_lays_5 : decode cX11_lays 5 = .ok (.aload_n 0, 1) := by decide +kernel
theorem dX11_lays_6 : decode cX11_lays 6 = .ok (.getfield 54, 3) := by decide +kernel
theorem dX11_lays_9 : decode cX11_lays 9 = .ok (.aload_n 0, 1) := by decide +kernel
theorem dX11_lays_10 : decode cX11_lays 10 = .ok (.getfield 48, 3) := by decide +kernel
theorem dX11_lays_13 : decode cX11_lays 13 = .ok (.iaload, 1) := by decide +kernel
theorem dX11_lays_14 : decode cX11_lays 14 = .ok (.if_icmp .ge 44, 3) := by decide +kernel
theorem dX11_lays_17 : decode cX11_lays 17 = .ok (.aload_n 0, 1) := by decide +kernel
theorem dX11_lays_18 : decode cX11_lays 18 = .ok (.getfield 174, 3) := by decide +kernel
theorem dX11_lays_21 : decode cX11_lays 21 = .ok (.iconst 5, 1) := by decide +kernel
theorem dX11_lays_22 : decode cX11_lays 22 = .ok (.iload_n 1, 1) := by decide +kernel
theorem dX11_lays_23 : decode cX11_lays 23 = .ok (.iconst 1, 1) := by decide +kernel
theorem dX11_lays_24 : decode cX11_lays 24 = .ok (.iadd, 1) := by decide +kernel
theorem dX11_lays_25 : decode cX11_lays 25 = .ok (.imul, 1) := by decide +kernel
theorem dX11_lays_26 : decode cX11_lays 26 = .ok (.iload_n 3, 1) := by decide +kernel
theorem dX11_lays_27 : decode cX11_lays 27 = .ok (.iadd, 1) := by decide +kernel
theorem dX11_lays_28 : decode cX11_lays 28 = .ok (.aload_n 0, 1) := by decide +kernel
theorem dX11_lays_29 : decode cX11_lays 29 = .ok (.getfield 174, 3) := by decide +kernel
theorem dX11_lays_32 : decode cX11_lays 32 = .ok (.iconst 5, 1) := by decide +kernel
theorem dX11_lays_33 : decode cX11_lays 33 = .ok (.iload_n 1, 1) := by decide +kernel
theorem dX11_lays_34 : decode cX11_lays 34 = .ok (.imul, 1) := by decide +kernel
theorem dX11_lays_35 : decode cX11_lays 35 = .ok (.iload_n 3, 1) := by decide +kernel
theorem dX11_lays_36 : decode cX11_lays 36 = .ok (.iadd, 1) := by decide +kernel
theorem dX11_lays_37 : decode cX11_lays 37 = .ok (.iaload, 1) := by decide +kernel
theorem dX11_lays_38 : decode cX11_lays 38 = .ok (.iastore, 1) := by decide +kernel
theorem dX11_lays_39 : decode cX11_lays 39 = .ok (.iload_n 2, 1) := by decide +kernel
theorem dX11_lays_40 : decode cX11_lays 40 = .ok (.aload_n 0, 1) := by decide +kernel
theorem dX11_lays_41 : decode cX11_lays 41 = .ok (.getfield 174, 3) := by decide +kernel
theorem dX11_lays_44 : decode cX11_lays 44 = .ok (.iconst 5, 1) := by decide +kernel
theorem dX11_lays_45 : decode cX11_lays 45 = .ok (.iload_n 1, 1) := by decide +kernel
theorem dX11_lays_46 : decode cX11_lays 46 = .ok (.imul, 1) := by decide +kernel
theorem dX11_lays_47 : decode cX11_lays 47 = .ok (.iload_n 3, 1) := by decide +kernel
theorem dX11_lays_48 : decode cX11_lays 48 = .ok (.iadd, 1) := by decide +kernel
theorem dX11_lays_49 : decode cX11_lays 49 = .ok (.iaload, 1) := by decide +kernel
theorem dX11_lays_50 : decode cX11_lays 50 = .ok (.iadd, 1) := by decide +kernel
theorem dX11_lays_51 : decode cX11_lays 51 = .ok (.istore_n 2, 1) := by decide +kernel
theorem dX11_lays_52 : decode cX11_lays 52 = .ok (.iinc 3 1, 3) := by decide +kernel
theorem dX11_lays_55 : decode cX11_lays 55 = .ok (.goto (-51), 3) := by decide +kernel
theorem dX11_lays_58 : decode cX11_lays 58 = .ok (.aload_n 0, 1) := by decide +kernel
theorem dX11_lays_59 : decode cX11_lays 59 = .ok (.getfield 171, 3) := by decide +kernel
theorem dX11_lays_62 : decode cX11_lays 62 = .ok (.iconst 1, 1) := by decide +kernel
theorem dX11_lays_63 : decode cX11_lays 63 = .ok (.iload_n 2, 1) := by decide +kernel
theorem dX11_lays_64 : decode cX11_lays 64 = .ok (.iastore, 1) := by decide +kernel
theorem dX11_lays_65 : decode cX11_lays 65 = .ok (.aload_n 0, 1) := by decide +kernel
theorem dX11_lays_66 : decode cX11_lays 66 = .ok (.getfield 171, 3) := by decide +kernel
theorem dX11_lays_69 : decode cX11_lays 69 = .ok (.iconst 2, 1) := by decide +kernel
theorem dX11_lays_70 : decode cX11_lays 70 = .ok (.aload_n 0, 1) := by decide +kernel
theorem dX11_lays_71 : decode cX11_lays 71 = .ok (.getfield 174, 3) := by decide +kernel
theorem dX11_lays_74 : decode cX11_lays 74 = .ok (.iconst 5, 1) := by decide +kernel
theorem dX11_lays_75 : decode cX11_lays 75 = .ok (.iload_n 1, 1) := by decide +kernel
theorem dX11_lays_76 : decode cX11_lays 76 = .ok (.imul, 1) := by decide +kernel
theorem dX11_lays_77 : decode cX11_lays 77 = .ok (.iaload, 1) := by decide +kernel
theorem dX11_lays_78 : decode cX11_lays 78 = .ok (.iastore, 1) := by decide +kernel
theorem dX11_lays_79 : decode cX11_lays 79 = .ok (.aload_n 0, 1) := by decide +kernel
theorem dX11_lays_80 : decode cX11_lays 80 = .ok (.getfield 171, 3) := by decide +kernel
theorem dX11_lays_83 : decode cX11_lays 83 = .ok (.iconst 3, 1) := by decide +kernel
theorem dX11_lays_84 : decode cX11_lays 84 = .ok (.aload_n 0, 1) := by decide +kernel
theorem dX11_lays_85 : decode cX11_lays 85 = .ok (.getfield 174, 3) := by decide +kernel
theorem dX11_lays_88 : decode cX11_lays 88 = .ok (.iconst 5, 1) := by decide +kernel
theorem dX11_lays_89 : decode cX11_lays 89 = .ok (.iload_n 1, 1) := by decide +kernel
theorem dX11_lays_90 : decode cX11_lays 90 = .ok (.imul, 1) := by decide +kernel
theorem dX11_lays_91 : decode cX11_lays 91 = .ok (.aload_n 0, 1) := by decide +kernel
theorem dX11_lays_92 : decode cX11_lays 92 = .ok (.getfield 54, 3) := by decide +kernel
theorem dX11_lays_95 : decode cX11_lays 95 = .ok (.aload_n 0, 1) := by decide +kernel
theorem dX11_lays_96 : decode cX11_lays 96 = .ok (.getfield 48, 3) := by decide +kernel
theorem dX11_lays_99 : decode cX11_lays 99 = .ok (.iaload, 1) := by decide +kernel
theorem dX11_lays_100 : decode cX11_lays 100 = .ok (.iadd, 1) := by decide +kernel
theorem dX11_lays_101 : decode cX11_lays 101 = .ok (.iconst 1, 1) := by decide +kernel
theorem dX11_lays_102 : decode cX11_lays 102 = .ok (.isub, 1) := by decide +kernel
theorem dX11_lays_103 : decode cX11_lays 103 = .ok (.iaload, 1) := by decide +kernel
theorem dX11_lays_104 : decode cX11_lays 104 = .ok (.iastore, 1) := by decide +kernel
theorem dX11_lays_105 : decode cX11_lays 105 = .ok (.aload_n 0, 1) := by decide +kernel
theorem dX11_lays_106 : decode cX11_lays 106 = .ok (.getfield 171, 3) := by decide +kernel
theorem dX11_lays_109 : decode cX11_lays 109 = .ok (.iconst 4, 1) := by decide +kernel
theorem dX11_lays_110 : decode cX11_lays 110 = .ok (.iconst 0, 1) := by decide +kernel
theorem dX11_lays_111 : decode cX11_lays 111 = .ok (.iastore, 1) := by decide +kernel
theorem dX11_lays_112 : decode cX11_lays 112 = .ok (.aload_n 0, 1) := by decide +kernel
theorem dX11_lays_113 : decode cX11_lays 113 = .ok (.getfield 171, 3) := by decide +kernel
theorem dX11_lays_116 : decode cX11_lays 116 = .ok (.iconst 5, 1) := by decide +kernel
theorem dX11_lays_117 : decode cX11_lays 117 = .ok (.iconst 0, 1) := by decide +kernel
theorem dX11_lays_118 : decode cX11_lays 118 = .ok (.iastore, 1) := by decide +kernel
theorem dX11_lays_119 : decode cX11_lays 119 = .ok (.aload_n 0, 1) := by decide +kernel
theorem dX11_lays_120 : decode cX11_lays 120 = .ok (.getfield 171, 3) := by decide +kernel
theorem dX11_lays_123 : decode cX11_lays 123 = .ok (.bipush 6, 2) := by decide +kernel
theorem dX11_lays_125 : decode cX11_lays 125 = .ok (.aload_n 0, 1) := by decide +kernel
theorem dX11_lays_126 : decode cX11_lays 126 = .ok (.getfield 177, 3) := by decide +kernel
theorem dX11_lays_129 : decode cX11_lays 129 = .ok (.iload_n 1, 1) := by decide +kernel
theorem dX11_lays_130 : decode cX11_lays 130 = .ok (.iaload, 1) := by decide +kernel
theorem dX11_lays_131 : decode cX11_lays 131 = .ok (.iastore, 1) := by decide +kernel
theorem dX11_lays_132 : decode cX11_lays 132 = .ok (.aload_n 0, 1) := by decide +kernel
theorem dX11_lays_133 : decode cX11_lays 133 = .ok (.iconst 0, 1) := by decide +kernel
theorem dX11_lays_134 : decode cX11_lays 134 = .ok (.aload_n 0, 1) := by decide +kernel
theorem dX11_lays_135 : decode cX11_lays 135 = .ok (.getfield 54, 3) := by decide +kernel
theorem dX11_lays_138 : decode cX11_lays 138 = .ok (.aload_n 0, 1) := by decide +kernel
theorem dX11_lays_139 : decode cX11_lays 139 = .ok (.getfield 48, 3) := by decide +kernel
theorem dX11_lays_142 : decode cX11_lays 142 = .ok (.iaload, 1) := by decide +kernel
theorem dX11_lays_143 : decode cX11_lays 143 = .ok (.iconst 0, 1) := by decide +kernel
theorem dX11_lays_144 : decode cX11_lays 144 = .ok (.invokevirtual 438, 3) := by decide +kernel
theorem dX11_lays_147 : decode cX11_lays 147 = .ok (.istore_n 3, 1) := by decide +kernel
theorem dX11_lays_148 : decode cX11_lays 148 = .ok (.aload_n 0, 1) := by decide +kernel
theorem dX11_lays_149 : decode cX11_lays 149 = .ok (.getfield 177, 3) := by decide +kernel
theorem dX11_lays_152 : decode cX11_lays 152 = .ok (.iload_n 1, 1) := by decide +kernel
theorem dX11_lays_153 : decode cX11_lays 153 = .ok (.iconst 1, 1) := by decide +kernel
theorem dX11_lays_154 : decode cX11_lays 154 = .ok (.iadd, 1) := by decide +kernel
theorem dX11_lays_155 : decode cX11_lays 155 = .ok (.aload_n 0, 1) := by decide +kernel
theorem dX11_lays_156 : decode cX11_lays 156 = .ok (.iconst 2, 1) := by decide +kernel
theorem dX11_lays_157 : decode cX11_lays 157 = .ok (.bipush 100, 2) := by decide +kernel
theorem dX11_lays_159 : decode cX11_lays 159 = .ok (.aload_n 0, 1) := by decide +kernel
theorem dX11_lays_160 : decode cX11_lays 160 = .ok (.getfield 177, 3) := by decide +kernel
theorem dX11_lays_163 : decode cX11_lays 163 = .ok (.iload_n 1, 1) := by decide +kernel
theorem dX11_lays_164 : decode cX11_lays 164 = .ok (.iaload, 1) := by decide +kernel
theorem dX11_lays_165 : decode cX11_lays 165 = .ok (.invokevirtual 438, 3) := by decide +kernel
theorem dX11_lays_168 : decode cX11_lays 168 = .ok (.iastore, 1) := by decide +kernel
theorem dX11_lays_169 : decode cX11_lays 169 = .ok (.aload_n 0, 1) := by decide +kernel
theorem dX11_lays_170 : decode cX11_lays 170 = .ok (.getfield 174, 3) := by decide +kernel
theorem dX11_lays_173 : decode cX11_lays 173 = .ok (.iconst 5, 1) := by decide +kernel
theorem dX11_lays_174 : decode cX11_lays 174 = .ok (.iload_n 1, 1) := by decide +kernel
theorem dX11_lays_175 : decode cX11_lays 175 = .ok (.imul, 1) := by decide +kernel
theorem dX11_lays_176 : decode cX11_lays 176 = .ok (.iload_n 3, 1) := by decide +kernel
theorem dX11_lays_177 : decode cX11_lays 177 = .ok (.iadd, 1) := by decide +kernel
theorem dX11_lays_178 : decode cX11_lays 178 = .ok (.iaload, 1) := by decide +kernel
theorem dX11_lays_179 : decode cX11_lays 179 = .ok (.istore 4, 2) := by decide +kernel
theorem dX11_lays_181 : decode cX11_lays 181 = .ok (.aload_n 0, 1) := by decide +kernel
theorem dX11_lays_182 : decode cX11_lays 182 = .ok (.getfield 171, 3) := by decide +kernel
theorem dX11_lays_185 : decode cX11_lays 185 = .ok (.iconst 4, 1) := by decide +kernel
theorem dX11_lays_186 : decode cX11_lays 186 = .ok (.iload 4, 2) := by decide +kernel
theorem dX11_lays_188 : decode cX11_lays 188 = .ok (.iastore, 1) := by decide +kernel
theorem dX11_lays_189 : decode cX11_lays 189 = .ok (.aload_n 0, 1) := by decide +kernel
theorem dX11_lays_190 : decode cX11_lays 190 = .ok (.getfield 171, 3) := by decide +kernel
theorem dX11_lays_193 : decode cX11_lays 193 = .ok (.iconst 5, 1) := by decide +kernel
theorem dX11_lays_194 : decode cX11_lays 194 = .ok (.iload_n 3, 1) := by decide +kernel
theorem dX11_lays_195 : decode cX11_lays 195 = .ok (.iastore, 1) := by decide +kernel
theorem dX11_lays_196 : decode cX11_lays 196 = .ok (.aload_n 0, 1) := by decide +kernel
theorem dX11_lays_197 : decode cX11_lays 197 = .ok (.getfield 174, 3) := by decide +kernel
theorem dX11_lays_200 : decode cX11_lays 200 = .ok (.iconst 5, 1) := by decide +kernel
theorem dX11_lays_201 : decode cX11_lays 201 = .ok (.iload_n 1, 1) := by decide +kernel
theorem dX11_lays_202 : decode cX11_lays 202 = .ok (.iconst 1, 1) := by decide +kernel
theorem dX11_lays_203 : decode cX11_lays 203 = .ok (.iadd, 1) := by decide +kernel
theorem dX11_lays_204 : decode cX11_lays 204 = .ok (.imul, 1) := by decide +kernel
theorem dX11_lays_205 : decode cX11_lays 205 = .ok (.iload_n 3, 1) := by decide +kernel
theorem dX11_lays_206 : decode cX11_lays 206 = .ok (.iadd, 1) := by decide +kernel
theorem dX11_lays_207 : decode cX11_lays 207 = .ok (.aload_n 0, 1) := by decide +kernel
theorem dX11_lays_208 : decode cX11_lays 208 = .ok (.iconst 1, 1) := by decide +kernel
theorem dX11_lays_209 : decode cX11_lays 209 = .ok (.aload_n 0, 1) := by decide +kernel
theorem dX11_lays_210 : decode cX11_lays 210 = .ok (.getfield 51, 3) := by decide +kernel
theorem dX11_lays_213 : decode cX11_lays 213 = .ok (.aload_n 0, 1) := by decide +kernel
theorem dX11_lays_214 : decode cX11_lays 214 = .ok (.getfield 48, 3) := by decide +kernel
theorem dX11_lays_217 : decode cX11_lays 217 = .ok (.iaload, 1) := by decide +kernel
theorem dX11_lays_218 : decode cX11_lays 218 = .ok (.iload 4, 2) := by decide +kernel
theorem dX11_lays_220 : decode cX11_lays 220 = .ok (.iconst 1, 1) := by decide +kernel
theorem dX11_lays_221 : decode cX11_lays 221 = .ok (.iadd, 1) := by decide +kernel
theorem dX11_lays_222 : decode cX11_lays 222 = .ok (.aload_n 0, 1) := by decide +kernel
theorem dX11_lays_223 : decode cX11_lays 223 = .ok (.getfield 51, 3) := by decide +kernel
theorem dX11_lays_226 : decode cX11_lays 226 = .ok (.aload_n 0, 1) := by decide +kernel
theorem dX11_lays_227 : decode cX11_lays 227 = .ok (.getfield 48, 3) := by decide +kernel
theorem dX11_lays_230 : decode cX11_lays 230 = .ok (.iaload, 1) := by decide +kernel
theorem dX11_lays_231 : decode cX11_lays 231 = .ok (.irem, 1) := by decide +kernel
theorem dX11_lays_232 : decode cX11_lays 232 = .ok (.invokevirtual 438, 3) := by decide +kernel
theorem dX11_lays_235 : decode cX11_lays 235 = .ok (.iastore, 1) := by decide +kernel
theorem dX11_lays_236 : decode cX11_lays 236 = .ok (.return_, 1) := by decide +kernel
theorem dX11_begins_0 : decode cX11_begins 0 = .ok (.iconst 0, 1) := by decide +kernel
theorem dX11_begins_1 : decode cX11_begins 1 = .ok (.istore_n 1, 1) := by decide +kernel
theorem dX11_begins_2 : decode cX11_begins 2 = .ok (.iload_n 1, 1) := by decide +kernel
theorem dX11_begins_3 : decode cX11_begins 3 = .ok (.aload_n 0, 1) := by decide +kernel
theorem dX11_begins_4 : decode cX11_begins 4 = .ok (.getfield 57, 3) := by decide +kernel
theorem dX11_begins_7 : decode cX11_begins 7 = .ok (.aload_n 0, 1) := by decide +kernel
theorem dX11_begins_8 : decode cX11_begins 8 = .ok (.getfield 48, 3) := by decide +kernel
theorem dX11_begins_11 : decode cX11_begins 11 = .ok (.iaload, 1) := by decide +kernel
theorem dX11_begins_12 : decode cX11_begins 12 = .ok (.if_icmp .ge 134, 3) := by decide +kernel
theorem dX11_begins_15 : decode cX11_begins 15 = .ok (.sipush 1000, 3) := by decide +kernel
theorem dX11_begins_18 : decode cX11_begins 18 = .ok (.iload_n 1, 1) := by decide +kernel
theorem dX11_begins_19 : decode cX11_begins 19 = .ok (.imul, 1) := by decide +kernel
theorem dX11_begins_20 : decode cX11_begins 20 = .ok (.istore_n 2, 1) := by decide +kernel
theorem dX11_begins_21 : decode cX11_begins 21 = .ok (.iconst 0, 1) := by decide +kernel
theorem dX11_begins_22 : decode cX11_begins 22 = .ok (.istore_n 3, 1) := by decide +kernel
theorem dX11_begins_23 : decode cX11_begins 23 = .ok (.iload_n 3, 1) := by decide +kernel
theorem dX11_begins_24 : decode cX11_begins 24 = .ok (.aload_n 0, 1) := by decide +kernel
theorem dX11_begins_25 : decode cX11_begins 25 = .ok (.getfield 54, 3) := by decide +kernel
theorem dX11_begins_28 : decode cX11_begins 28 = .ok (.aload_n 0, 1) := by decide +kernel
theorem dX11_begins_29 : decode cX11_begins 29 = .ok (.getfield 48, 3) := by decide +kernel
theorem dX11_begins_32 : decode cX11_begins 32 = .ok (.iaload, 1) := by decide +kernel
theorem dX11_begins_33 : decode cX11_begins 33 = .ok (.if_icmp .ge 36, 3) := by decide +kernel
theorem dX11_begins_36 : decode cX11_begins 36 = .ok (.aload_n 0, 1) := by decide +kernel
theorem dX11_begins_37 : decode cX11_begins 37 = .ok (.getfield 174, 3) := by decide +kernel
theorem dX11_begins_40 : decode cX11_begins 40 = .ok (.iconst 5, 1) := by decide +kernel
theorem dX11_begins_41 : decode cX11_begins 41 = .ok (.iload_n 2, 1) := by decide +kernel
theorem dX11_begins_42 : decode cX11_begins 42 = .ok (.imul, 1) := by decide +kernel
theorem dX11_begins_43 : decode cX11_begins 43 = .ok (.iload_n 3, 1) := by decide +kernel
theorem dX11_begins_44 : decode cX11_begins 44 = .ok (.iadd, 1) := by decide +kernel
theorem dX11_begins_45 : decode cX11_begins 45 = .ok (.aload_n 0, 1) := by decide +kernel
theorem dX11_begins_46 : decode cX11_begins 46 = .ok (.getfield 64, 3) := by decide +kernel
theorem dX11_begins_49 : decode cX11_begins 49 = .ok (.iconst 5, 1) := by decide +kernel
theorem dX11_begins_50 : decode cX11_begins 50 = .ok (.iconst 3, 1) := by decide +kernel
theorem dX11_begins_51 : decode cX11_begins 51 = .ok (.aload_n 0, 1) := by decide +kernel
theorem dX11_begins_52 : decode cX11_begins 52 = .ok (.getfield 48, 3) := by decide +kernel
theorem dX11_begins_55 : decode cX11_begins 55 = .ok (.imul, 1) := by decide +kernel
theorem dX11_begins_56 : decode cX11_begins 56 = .ok (.iload_n 1, 1) := by decide +kernel
theorem dX11_begins_57 : decode cX11_begins 57 = .ok (.iadd, 1) := by decide +kernel
theorem dX11_begins_58 : decode cX11_begins 58 = .ok (.imul, 1) := by decide +kernel
theorem dX11_begins_59 : decode cX11_begins 59 = .ok (.iload_n 3, 1) := by decide +kernel
theorem dX11_begins_60 : decode cX11_begins 60 = .ok (.iadd, 1) := by decide +kernel
theorem dX11_begins_61 : decode cX11_begins 61 = .ok (.iaload, 1) := by decide +kernel
theorem dX11_begins_62 : decode cX11_begins 62 = .ok (.iastore, 1) := by decide +kernel
theorem dX11_begins_63 : decode cX11_begins 63 = .ok (.iinc 3 1, 3) := by decide +kernel
theorem dX11_begins_66 : decode cX11_begins 66 = .ok (.goto (-43), 3) := by decide +kernel
theorem dX11_begins_69 : decode cX11_begins 69 = .ok (.aload_n 0, 1) := by decide +kernel
theorem dX11_begins_70 : decode cX11_begins 70 = .ok (.getfield 177, 3) := by decide +kernel
theorem dX11_begins_73 : decode cX11_begins 73 = .ok (.iload_n 2, 1) := by decide +kernel
theorem dX11_begins_74 : decode cX11_begins 74 = .ok (.aload_n 0, 1) := by decide +kernel
theorem dX11_begins_75 : decode cX11_begins 75 = .ok (.getfield 67, 3) := by decide +kernel
theorem dX11_begins_78 : decode cX11_begins 78 = .ok (.iconst 3, 1) := by decide +kernel
theorem dX11_begins_79 : decode cX11_begins 79 = .ok (.aload_n 0, 1) := by decide +kernel
theorem dX11_begins_80 : decode cX11_begins 80 = .ok (.getfield 48, 3) := by decide +kernel
theorem dX11_begins_83 : decode cX11_begins 83 = .ok (.imul, 1) := by decide +kernel
theorem dX11_begins_84 : decode cX11_begins 84 = .ok (.iload_n 1, 1) := by decide +kernel
theorem dX11_begins_85 : decode cX11_begins 85 = .ok (.iadd, 1) := by decide +kernel
theorem dX11_begins_86 : decode cX11_begins 86 = .ok (.iaload, 1) := by decide +kernel
theorem dX11_begins_87 : decode cX11_begins 87 = .ok (.iastore, 1) := by decide +kernel
theorem dX11_begins_88 : decode cX11_begins 88 = .ok (.iload_n 2, 1) := by decide +kernel
theorem dX11_begins_89 : decode cX11_begins 89 = .ok (.istore_n 3, 1) := by decide +kernel
theorem dX11_begins_90 : decode cX11_begins 90 = .ok (.iload_n 3, 1) := by decide +kernel
theorem dX11_begins_91 : decode cX11_begins 91 = .ok (.iload_n 2, 1) := by decide +kernel
theorem dX11_begins_92 : decode cX11_begins 92 = .ok (.sipush 1000, 3) := by decide +kernel
theorem dX11_begins_95 : decode cX11_begins 95 = .ok (.iadd, 1) := by decide +kernel
theorem dX11_begins_96 : decode cX11_begins 96 = .ok (.iconst 1, 1) := by decide +kernel
theorem dX11_begins_97 : decode cX11_begins 97 = .ok (.isub, 1) := by decide +kernel
theorem dX11_begins_98 : decode cX11_begins 98 = .ok (.if_icmp .ge 14, 3) := by decide +kernel
theorem dX11_begins_101 : decode cX11_begins 101 = .ok (.aload_n 0, 1) := by decide +kernel
theorem dX11_begins_102 : decode cX11_begins 102 = .ok (.iload_n 3, 1) := by decide +kernel
theorem dX11_begins_103 : decode cX11_begins 103 = .ok (.invokevirtual 442, 3) := by decide +kernel
theorem dX11_begins_106 : decode cX11_begins 106 = .ok (.iinc 3 1, 3) := by decide +kernel
theorem dX11_begins_109 : decode cX11_begins 109 = .ok (.goto (-19), 3) := by decide +kernel
theorem dX11_begins_112 : decode cX11_begins 112 = .ok (.iload_n 2, 1) := by decide +kernel
theorem dX11_begins_113 : decode cX11_begins 113 = .ok (.istore_n 3, 1) := by decide +kernel
theorem dX11_begins_114 : decode cX11_begins 114 = .ok (.iload_n 3, 1) := by decide +kernel
theorem dX11_begins_115 : decode cX11_begins 115 = .ok (.iload_n 2, 1) := by decide +kernel
theorem dX11_begins_116 : decode cX11_begins 116 = .ok (.sipush 1000, 3) := by decide +kernel
theorem dX11_begins_119 : decode cX11_begins 119 = .ok (.iadd, 1) := by decide +kernel
theorem dX11_begins_120 : decode cX11_begins 120 = .ok (.if_icmp .ge 20, 3) := by decide +kernel
theorem dX11_begins_123 : decode cX11_begins 123 = .ok (.aload_n 0, 1) := by decide +kernel
theorem dX11_begins_124 : decode cX11_begins 124 = .ok (.getfield 180, 3) := by decide +kernel
theorem dX11_begins_127 : decode cX11_begins 127 = .ok (.iload_n 3, 1) := by decide +kernel
theorem dX11_begins_128 : decode cX11_begins 128 = .ok (.aload_n 0, 1) := by decide +kernel
theorem dX11_begins_129 : decode cX11_begins 129 = .ok (.iload_n 3, 1) := by decide +kernel
theorem dX11_begins_130 : decode cX11_begins 130 = .ok (.invokevirtual 445, 3) := by decide +kernel
theorem dX11_begins_133 : decode cX11_begins 133 = .ok (.iastore, 1) := by decide +kernel
theorem dX11_begins_134 : decode cX11_begins 134 = .ok (.iinc 3 1, 3) := by decide +kernel
theorem dX11_begins_137 : decode cX11_begins 137 = .ok (.goto (-23), 3) := by decide +kernel
theorem dX11_begins_140 : decode cX11_begins 140 = .ok (.iinc 1 1, 3) := by decide +kernel
theorem dX11_begins_143 : decode cX11_begins 143 = .ok (.goto (-141), 3) := by decide +kernel
theorem dX11_begins_146 : decode cX11_begins 146 = .ok (.iconst 0, 1) := by decide +kernel
theorem dX11_begins_147 : decode cX11_begins 147 = .ok (.istore_n 1, 1) := by decide +kernel
theorem dX11_begins_148 : decode cX11_begins 148 = .ok (.iload_n 1, 1) := by decide +kernel
theorem dX11_begins_149 : decode cX11_begins 149 = .ok (.iconst 4, 1) := by decide +kernel
theorem dX11_begins_150 : decode cX11_begins 150 = .ok (.if_icmp .ge 30, 3) := by decide +kernel
theorem dX11_begins_153 : decode cX11_begins 153 = .ok (.aload_n 0, 1) := by decide +kernel
theorem dX11_begins_154 : decode cX11_begins 154 = .ok (.getfield 183, 3) := by decide +kernel
theorem dX11_begins_157 : decode cX11_begins 157 = .ok (.iload_n 1, 1) := by decide +kernel
theorem dX11_begins_158 : decode cX11_begins 158 = .ok (.iconst 0, 1) := by decide +kernel
theorem dX11_begins_159 : decode cX11_begins 159 = .ok (.iastore, 1) := by decide +kernel
theorem dX11_begins_160 : decode cX11_begins 160 = .ok (.aload_n 0, 1) := by decide +kernel
theorem dX11_begins_161 : decode cX11_begins 161 = .ok (.getfield 186, 3) := by decide +kernel
theorem dX11_begins_164 : decode cX11_begins 164 = .ok (.iload_n 1, 1) := by decide +kernel
theorem dX11_begins_165 : decode cX11_begins 165 = .ok (.iconst 0, 1) := by decide +kernel
theorem dX11_begins_166 : decode cX11_begins 166 = .ok (.iastore, 1) := by decide +kernel
theorem dX11_begins_167 : decode cX11_begins 167 = .ok (.aload_n 0, 1) := by decide +kernel
theorem dX11_begins_168 : decode cX11_begins 168 = .ok (.getfield 189, 3) := by decide +kernel
theorem dX11_begins_171 : decode cX11_begins 171 = .ok (.iload_n 1, 1) := by decide +kernel
theorem dX11_begins_172 : decode cX11_begins 172 = .ok (.iconst 0, 1) := by decide +kernel
theorem dX11_begins_173 : decode cX11_begins 173 = .ok (.iastore, 1) := by decide +kernel
theorem dX11_begins_174 : decode cX11_begins 174 = .ok (.iinc 1 1, 3) := by decide +kernel
theorem dX11_begins_177 : decode cX11_begins 177 = .ok (.goto (-29), 3) := by decide +kernel
theorem dX11_begins_180 : decode cX11_begins 180 = .ok (.iconst 0, 1) := by decide +kernel
theorem dX11_begins_181 : decode cX11_begins 181 = .ok (.istore_n 1, 1) := by decide +kernel
theorem dX11_begins_182 : decode cX11_begins 182 = .ok (.iload_n 1, 1) := by decide +kernel
theorem dX11_begins_183 : decode cX11_begins 183 = .ok (.bipush 12, 2) := by decide +kernel
theorem dX11_begins_185 : decode cX11_begins 185 = .ok (.if_icmp .ge 30, 3) := by decide +kernel
theorem dX11_begins_188 : decode cX11_begins 188 = .ok (.aload_n 0, 1) := by decide +kernel
theorem dX11_begins_189 : decode cX11_begins 189 = .ok (.getfield 192, 3) := by decide +kernel
theorem dX11_begins_192 : decode cX11_begins 192 = .ok (.iload_n 1, 1) := by decide +kernel
theorem dX11_begins_193 : decode cX11_begins 193 = .ok (.iconst 0, 1) := by decide +kernel
theorem dX11_begins_194 : decode cX11_begins 194 = .ok (.iastore, 1) := by decide +kernel
theorem dX11_begins_195 : decode cX11_begins 195 = .ok (.aload_n 0, 1) := by decide +kernel
theorem dX11_begins_196 : decode cX11_begins 196 = .ok (.getfield 195, 3) := by decide +kernel
theorem dX11_begins_199 : decode cX11_begins 199 = .ok (.iload_n 1, 1) := by decide +kernel
theorem dX11_begins_200 : decode cX11_begins 200 = .ok (.iconst (-1), 1) := by decide +kernel
theorem dX11_begins_201 : decode cX11_begins 201 = .ok (.iastore, 1) := by decide +kernel
theorem dX11_begins_202 : decode cX11_begins 202 = .ok (.aload_n 0, 1) := by decide +kernel
theorem dX11_begins_203 : decode cX11_begins 203 = .ok (.getfield 198, 3) := by decide +kernel
theorem dX11_begins_206 : decode cX11_begins 206 = .ok (.iload_n 1, 1) := by decide +kernel
theorem dX11_begins_207 : decode cX11_begins 207 = .ok (.iconst 0, 1) := by decide +kernel
theorem dX11_begins_208 : decode cX11_begins 208 = .ok (.iastore, 1) := by decide +kernel
theorem dX11_begins_209 : decode cX11_begins 209 = .ok (.iinc 1 1, 3) := by decide +kernel
theorem dX11_begins_212 : decode cX11_begins 212 = .ok (.goto (-30), 3) := by decide +kernel
theorem dX11_begins_215 : decode cX11_begins 215 = .ok (.iconst 0, 1) := by decide +kernel
theorem dX11_begins_216 : decode cX11_begins 216 = .ok (.istore_n 1, 1) := by decide +kernel
theorem dX11_begins_217 : decode cX11_begins 217 = .ok (.iload_n 1, 1) := by decide +kernel
theorem dX11_begins_218 : decode cX11_begins 218 = .ok (.iconst 4, 1) := by decide +kernel
theorem dX11_begins_219 : decode cX11_begins 219 = .ok (.if_icmp .ge 30, 3) := by decide +kernel
theorem dX11_begins_222 : decode cX11_begins 222 = .ok (.aload_n 0, 1) := by decide +kernel
theorem dX11_begins_223 : decode cX11_begins 223 = .ok (.getfield 201, 3) := by decide +kernel
theorem dX11_begins_226 : decode cX11_begins 226 = .ok (.iload_n 1, 1) := by decide +kernel
theorem dX11_begins_227 : decode cX11_begins 227 = .ok (.iconst (-1), 1) := by decide +kernel
theorem dX11_begins_228 : decode cX11_begins 228 = .ok (.iastore, 1) := by decide +kernel
theorem dX11_begins_229 : decode cX11_begins 229 = .ok (.aload_n 0, 1) := by decide +kernel
theorem dX11_begins_230 : decode cX11_begins 230 = .ok (.getfield 204, 3) := by decide +kernel
theorem dX11_begins_233 : decode cX11_begins 233 = .ok (.iload_n 1, 1) := by decide +kernel
theorem dX11_begins_234 : decode cX11_begins 234 = .ok (.iconst 0, 1) := by decide +kernel
theorem dX11_begins_235 : decode cX11_begins 235 = .ok (.iastore, 1) := by decide +kernel
theorem dX11_begins_236 : decode cX11_begins 236 = .ok (.aload_n 0, 1) := by decide +kernel
theorem dX11_begins_237 : decode cX11_begins 237 = .ok (.getfield 207, 3) := by decide +kernel
theorem dX11_begins_240 : decode cX11_begins 240 = .ok (.iload_n 1, 1) := by decide +kernel
theorem dX11_begins_241 : decode cX11_begins 241 = .ok (.iconst 0, 1) := by decide +kernel
theorem dX11_begins_242 : decode cX11_begins 242 = .ok (.iastore, 1) := by decide +kernel
theorem dX11_begins_243 : decode cX11_begins 243 = .ok (.iinc 1 1, 3) := by decide +kernel
theorem dX11_begins_246 : decode cX11_begins 246 = .ok (.goto (-29), 3) := by decide +kernel
theorem dX11_begins_249 : decode cX11_begins 249 = .ok (.return_, 1) := by decide +kernel
theorem dX11_hasNotes_0 : decode cX11_hasNotes 0 = .ok (.aload_n 0, 1) := by decide +kernel
theorem dX11_hasNotes_1 : decode cX11_hasNotes 1 = .ok (.getfield 51, 3) := by decide +kernel
theorem dX11_hasNotes_4 : decode cX11_hasNotes 4 = .ok (.aload_n 0, 1) := by decide +kernel
theorem dX11_hasNotes_5 : decode cX11_hasNotes 5 = .ok (.getfield 48, 3) := by decide +kernel
theorem dX11_hasNotes_8 : decode cX11_hasNotes 8 = .ok (.iaload, 1) := by decide +kernel
theorem dX11_hasNotes_9 : decode cX11_hasNotes 9 = .ok (.ifCond .le 7, 3) := by decide +kernel
theorem dX11_hasNotes_12 : decode cX11_hasNotes 12 = .ok (.iconst 1, 1) := by decide +kernel
theorem dX11_hasNotes_13 : decode cX11_hasNotes 13 = .ok (.goto 4, 3) := by decide +kernel
theorem dX11_hasNotes_16 : decode cX11_hasNotes 16 = .ok (.iconst 0, 1) := by decide +kernel
theorem dX11_hasNotes_17 : decode cX11_hasNotes 17 = .ok (.ireturn, 1) := by decide +kernel
theorem dX11_isTune_0 : decode cX11_isTune 0 = .ok (.iload_n 1, 1) := by decide +kernel
theorem dX11_isTune_1 : decode cX11_isTune 1 = .ok (.iconst 0, 1) := by decide +kernel
theorem dX11_isTune_2 : decode cX11_isTune 2 = .ok (.aload_n 0, 1) := by decide +kernel
theorem dX11_isTune_3 : decode cX11_isTune 3 = .ok (.getfield 57, 3) := by decide +kernel
theorem dX11_isTune_6 : decode cX11_isTune 6 = .ok (.aload_n 0, 1) := by decide +kernel
theorem dX11_isTune_7 : decode cX11_isTune 7 = .ok (.getfield 48, 3) := by decide +kernel
theorem dX11_isTune_10 : decode cX11_isTune 10 = .ok (.iaload, 1) := by decide +kernel
theorem dX11_isTune_11 : decode cX11_isTune 11 = .ok (.iconst 1, 1) := by decide +kernel
theorem dX11_isTune_12 : decode cX11_isTune 12 = .ok (.isub, 1) := by decide +kernel
theorem dX11_isTune_13 : decode cX11_isTune 13 = .ok (.invokestatic 324, 3) := by decide +kernel
theorem dX11_isTune_16 : decode cX11_isTune 16 = .ok (.ireturn, 1) := by decide +kernel
theorem dX11_isDoor_0 : decode cX11_isDoor 0 = .ok (.iload_n 1, 1) := by decide +kernel
theorem dX11_isDoor_1 : decode cX11_isDoor 1 = .ok (.iconst 0, 1) := by decide +kernel
theorem dX11_isDoor_2 : decode cX11_isDoor 2 = .ok (.aload_n 0, 1) := by decide +kernel
theorem dX11_isDoor_3 : decode cX11_isDoor 3 = .ok (.getfield 82, 3) := by decide +kernel
theorem dX11_isDoor_6 : decode cX11_isDoor 6 = .ok (.aload_n 0, 1) := by decide +kernel
theorem dX11_isDoor_7 : decode cX11_isDoor 7 = .ok (.getfield 48, 3) := by decide +kernel
theorem dX11_isDoor_10 : decode cX11_isDoor 10 = .ok (.iaload, 1) := by decide +kernel
theorem dX11_isDoor_11 : decode cX11_isDoor 11 = .ok (.iconst 1, 1) := by decide +kernel
theorem dX11_isDoor_12 : decode cX11_isDoor 12 = .ok (.isub, 1) := by decide +kernel
theorem dX11_isDoor_13 : decode cX11_isDoor 13 = .ok (.invokestatic 324, 3) := by decide +kernel
theorem dX11_isDoor_16 : decode cX11_isDoor 16 = .ok (.ireturn, 1) := by decide +kernel
theorem dX11_isPerson_0 : decode cX11_isPerson 0 = .ok (.iload_n 1, 1) := by decide +kernel
theorem dX11_isPerson_1 : decode cX11_isPerson 1 = .ok (.iconst 0, 1) := by decide +kernel
theorem dX11_isPerson_2 : decode cX11_isPerson 2 = .ok (.aload_n 0, 1) := by decide +kernel
theorem dX11_isPerson_3 : decode cX11_isPerson 3 = .ok (.getfield 97, 3) := by decide +kernel
theorem dX11_isPerson_6 : decode cX11_isPerson 6 = .ok (.aload_n 0, 1) := by decide +kernel
theorem dX11_isPerson_7 : decode cX11_isPerson 7 = .ok (.getfield 48, 3) := by decide +kernel
theorem dX11_isPerson_10 : decode cX11_isPerson 10 = .ok (.iaload, 1) := by decide +kernel
theorem dX11_isPerson_11 : decode cX11_isPerson 11 = .ok (.iconst 1, 1) := by decide +kernel
theorem dX11_isPerson_12 : decode cX11_isPerson 12 = .ok (.isub, 1) := by decide +kernel
theorem dX11_isPerson_13 : decode cX11_isPerson 13 = .ok (.invokestatic 324, 3) := by decide +kernel
theorem dX11_isPerson_16 : decode cX11_isPerson 16 = .ok (.ireturn, 1) := by decide +kernel
theorem dX11_isWhistle_0 : decode cX11_isWhistle 0 = .ok (.iload_n 0, 1) := by decide +kernel
theorem dX11_isWhistle_1 : decode cX11_isWhistle 1 = .ok (.iconst 0, 1) := by decide +kernel
theorem dX11_isWhistle_2 : decode cX11_isWhistle 2 = .ok (.sipush 999, 3) := by decide +kernel
theorem dX11_isWhistle_5 : decode cX11_isWhistle 5 = .ok (.invokestatic 324, 3) := by decide +kernel
theorem dX11_isWhistle_8 : decode cX11_isWhistle 8 = .ok (.ireturn, 1) := by decide +kernel
theorem dX11_door4_0 : decode cX11_door4 0 = .ok (.iconst 4, 1) := by decide +kernel
theorem dX11_door4_1 : decode cX11_door4 1 = .ok (.aload_n 0, 1) := by decide +kernel
theorem dX11_door4_2 : decode cX11_door4 2 = .ok (.getfield 48, 3) := by decide +kernel
theorem dX11_door4_5 : decode cX11_door4 5 = .ok (.imul, 1) := by decide +kernel
theorem dX11_door4_6 : decode cX11_door4 6 = .ok (.iload_n 1, 1) := by decide +kernel
theorem dX11_door4_7 : decode cX11_door4 7 = .ok (.iadd, 1) := by decide +kernel
theorem dX11_door4_8 : decode cX11_door4 8 = .ok (.ireturn, 1) := by decide +kernel
theorem dX11_person4_0 : decode cX11_person4 0 = .ok (.iconst 4, 1) := by decide +kernel
theorem dX11_person4_1 : decode cX11_person4 1 = .ok (.aload_n 0, 1) := by decide +kernel
theorem dX11_person4_2 : decode cX11_person4 2 = .ok (.getfield 48, 3) := by decide +kernel
theorem dX11_person4_5 : decode cX11_person4 5 = .ok (.imul, 1) := by decide +kernel
theorem dX11_person4_6 : decode cX11_person4 6 = .ok (.iload_n 1, 1) := by decide +kernel
theorem dX11_person4_7 : decode cX11_person4 7 = .ok (.iadd, 1) := by decide +kernel
theorem dX11_person4_8 : decode cX11_person4 8 = .ok (.ireturn, 1) := by decide +kernel
theorem dX11_has_0 : decode cX11_has 0 = .ok (.iload_n 1, 1) := by decide +kernel
theorem dX11_has_1 : decode cX11_has 1 = .ok (.tableswitch 165 0 9 #[55, 65, 75, 85, 95, 105, 117, 131, 145, 155], 55) := by decide +kernel
theorem dX11_has_56 : decode cX11_has 56 = .ok (.aload_n 0, 1) := by decide +kernel
theorem dX11_has_57 : decode cX11_has 57 = .ok (.getfield 51, 3) := by decide +kernel
theorem dX11_has_60 : decode cX11_has 60 = .ok (.aload_n 0, 1) := by decide +kernel
theorem dX11_has_61 : decode cX11_has 61 = .ok (.getfield 48, 3) := by decide +kernel
theorem dX11_has_64 : decode cX11_has 64 = .ok (.iaload, 1) := by decide +kernel
theorem dX11_has_65 : decode cX11_has 65 = .ok (.ireturn, 1) := by decide +kernel
theorem dX11_has_66 : decode cX11_has 66 = .ok (.aload_n 0, 1) := by decide +kernel
theorem dX11_has_67 : decode cX11_has 67 = .ok (.getfield 54, 3) := by decide +kernel
theorem dX11_has_70 : decode cX11_has 70 = .ok (.aload_n 0, 1) := by decide +kernel
theorem dX11_has_71 : decode cX11_has 71 = .ok (.getfield 48, 3) := by decide +kernel
theorem dX11_has_74 : decode cX11_has 74 = .ok (.iaload, 1) := by decide +kernel
theorem dX11_has_75 : decode cX11_has 75 = .ok (.ireturn, 1) := by decide +kernel
theorem dX11_has_76 : decode cX11_has 76 = .ok (.aload_n 0, 1) := by decide +kernel
theorem dX11_has_77 : decode cX11_has 77 = .ok (.getfield 57, 3) := by decide +kernel
theorem dX11_has_80 : decode cX11_has 80 = .ok (.aload_n 0, 1) := by decide +kernel
theorem dX11_has_81 : decode cX11_has 81 = .ok (.getfield 48, 3) := by decide +kernel
theorem dX11_has_84 : decode cX11_has 84 = .ok (.iaload, 1) := by decide +kernel
theorem dX11_has_85 : decode cX11_has 85 = .ok (.ireturn, 1) := by decide +kernel
theorem dX11_has_86 : decode cX11_has 86 = .ok (.aload_n 0, 1) := by decide +kernel
theorem dX11_has_87 : decode cX11_has 87 = .ok (.getfield 82, 3) := by decide +kernel
theorem dX11_has_90 : decode cX11_has 90 = .ok (.aload_n 0, 1) := by decide +kernel
theorem dX11_has_91 : decode cX11_has 91 = .ok (.getfield 48, 3) := by decide +kernel
theorem dX11_has_94 : decode cX11_has 94 = .ok (.iaload, 1) := by decide +kernel
theorem dX11_has_95 : decode cX11_has 95 = .ok (.ireturn, 1) := by decide +kernel
theorem dX11_has_96 : decode cX11_has 96 = .ok (.aload_n 0, 1) := by decide +kernel
theorem dX11_has_97 : decode cX11_has 97 = .ok (.getfield 97, 3) := by decide +kernel
theorem dX11_has_100 : decode cX11_has 100 = .ok (.aload_n 0, 1) := by decide +kernel
theorem dX11_has_101 : decode cX11_has 101 = .ok (.getfield 48, 3) := by decide +kernel
theorem dX11_has_104 : decode cX11_has 104 = .ok (.iaload, 1) := by decide +kernel
theorem dX11_has_105 : decode cX11_has 105 = .ok (.ireturn, 1) := by decide +kernel
theorem dX11_has_106 : decode cX11_has 106 = .ok (.aload_n 0, 1) := by decide +kernel
theorem dX11_has_107 : decode cX11_has 107 = .ok (.getfield 70, 3) := by decide +kernel
theorem dX11_has_110 : decode cX11_has 110 = .ok (.iconst 3, 1) := by decide +kernel
theorem dX11_has_111 : decode cX11_has 111 = .ok (.aload_n 0, 1) := by decide +kernel
theorem dX11_has_112 : decode cX11_has 112 = .ok (.getfield 48, 3) := by decide +kernel
theorem dX11_has_115 : decode cX11_has 115 = .ok (.imul, 1) := by decide +kernel
theorem dX11_has_116 : decode cX11_has 116 = .ok (.iaload, 1) := by decide +kernel
theorem dX11_has_117 : decode cX11_has 117 = .ok (.ireturn, 1) := by decide +kernel
theorem dX11_has_118 : decode cX11_has 118 = .ok (.aload_n 0, 1) := by decide +kernel
theorem dX11_has_119 : decode cX11_has 119 = .ok (.getfield 70, 3) := by decide +kernel
theorem dX11_has_122 : decode cX11_has 122 = .ok (.iconst 3, 1) := by decide +kernel
theorem dX11_has_123 : decode cX11_has 123 = .ok (.aload_n 0, 1) := by decide +kernel
theorem dX11_has_124 : decode cX11_has 124 = .ok (.getfield 48, 3) := by decide +kernel
theorem dX11_has_127 : decode cX11_has 127 = .ok (.imul, 1) := by decide +kernel
theorem dX11_has_128 : decode cX11_has 128 = .ok (.iconst 1, 1) := by decide +kernel
theorem dX11_has_129 : decode cX11_has 129 = .ok (.iadd, 1) := by decide +kernel
theorem dX11_has_130 : decode cX11_has 130 = .ok (.iaload, 1) := by decide +kernel
theorem dX11_has_131 : decode cX11_has 131 = .ok (.ireturn, 1) := by decide +kernel
theorem dX11_has_132 : decode cX11_has 132 = .ok (.aload_n 0, 1) := by decide +kernel
theorem dX11_has_133 : decode cX11_has 133 = .ok (.getfield 70, 3) := by decide +kernel
theorem dX11_has_136 : decode cX11_has 136 = .ok (.iconst 3, 1) := by decide +kernel
theorem dX11_has_137 : decode cX11_has 137 = .ok (.aload_n 0, 1) := by decide +kernel
theorem dX11_has_138 : decode cX11_has 138 = .ok (.getfield 48, 3) := by decide +kernel
theorem dX11_has_141 : decode cX11_has 141 = .ok (.imul, 1) := by decide +kernel
theorem dX11_has_142 : decode cX11_has 142 = .ok (.iconst 2, 1) := by decide +kernel
theorem dX11_has_143 : decode cX11_has 143 = .ok (.iadd, 1) := by decide +kernel
theorem dX11_has_144 : decode cX11_has 144 = .ok (.iaload, 1) := by decide +kernel
theorem dX11_has_145 : decode cX11_has 145 = .ok (.ireturn, 1) := by decide +kernel
theorem dX11_has_146 : decode cX11_has 146 = .ok (.aload_n 0, 1) := by decide +kernel
theorem dX11_has_147 : decode cX11_has 147 = .ok (.getfield 115, 3) := by decide +kernel
theorem dX11_has_150 : decode cX11_has 150 = .ok (.aload_n 0, 1) := by decide +kernel
theorem dX11_has_151 : decode cX11_has 151 = .ok (.getfield 48, 3) := by decide +kernel
theorem dX11_has_154 : decode cX11_has 154 = .ok (.iaload, 1) := by decide +kernel
theorem dX11_has_155 : decode cX11_has 155 = .ok (.ireturn, 1) := by decide +kernel
theorem dX11_has_156 : decode cX11_has 156 = .ok (.aload_n 0, 1) := by decide +kernel
theorem dX11_has_157 : decode cX11_has 157 = .ok (.getfield 118, 3) := by decide +kernel
theorem dX11_has_160 : decode cX11_has 160 = .ok (.aload_n 0, 1) := by decide +kernel
theorem dX11_has_161 : decode cX11_has 161 = .ok (.getfield 48, 3) := by decide +kernel
theorem dX11_has_164 : decode cX11_has 164 = .ok (.iaload, 1) := by decide +kernel
theorem dX11_has_165 : decode cX11_has 165 = .ok (.ireturn, 1) := by decide +kernel
theorem dX11_has_166 : decode cX11_has 166 = .ok (.iconst (-1), 1) := by decide +kernel
theorem dX11_has_167 : decode cX11_has 167 = .ok (.ireturn, 1) := by decide +kernel
theorem dX11_manyOf_0 : decode cX11_manyOf 0 = .ok (.iload_n 1, 1) := by decide +kernel
theorem dX11_manyOf_1 : decode cX11_manyOf 1 = .ok (.ifCond .ne 15, 3) := by decide +kernel
theorem dX11_manyOf_4 : decode cX11_manyOf 4 = .ok (.aload_n 0, 1) := by decide +kernel
theorem dX11_manyOf_5 : decode cX11_manyOf 5 = .ok (.getfield 57, 3) := by decide +kernel
theorem dX11_manyOf_8 : decode cX11_manyOf 8 = .ok (.aload_n 0, 1) := by decide +kernel
theorem dX11_manyOf_9 : decode cX11_manyOf 9 = .ok (.getfield 48, 3) := by decide +kernel
theorem dX11_manyOf_12 : decode cX11_manyOf 12 = .ok (.iaload, 1) := by decide +kernel
theorem dX11_manyOf_13 : decode cX11_manyOf 13 = .ok (.goto 29, 3) := by decide +kernel
theorem dX11_manyOf_16 : decode cX11_manyOf 16 = .ok (.iload_n 1, 1) := by decide +kernel
theorem dX11_manyOf_17 : decode cX11_manyOf 17 = .ok (.iconst 1, 1) := by decide +kernel
theorem dX11_manyOf_18 : decode cX11_manyOf 18 = .ok (.if_icmp .ne 15, 3) := by decide +kernel
theorem dX11_manyOf_21 : decode cX11_manyOf 21 = .ok (.aload_n 0, 1) := by decide +kernel
theorem dX11_manyOf_22 : decode cX11_manyOf 22 = .ok (.getfield 82, 3) := by decide +kernel
theorem dX11_manyOf_25 : decode cX11_manyOf 25 = .ok (.aload_n 0, 1) := by decide +kernel
theorem dX11_manyOf_26 : decode cX11_manyOf 26 = .ok (.getfield 48, 3) := by decide +kernel
theorem dX11_manyOf_29 : decode cX11_manyOf 29 = .ok (.iaload, 1) := by decide +kernel
theorem dX11_manyOf_30 : decode cX11_manyOf 30 = .ok (.goto 12, 3) := by decide +kernel
theorem dX11_manyOf_33 : decode cX11_manyOf 33 = .ok (.aload_n 0, 1) := by decide +kernel
theorem dX11_manyOf_34 : decode cX11_manyOf 34 = .ok (.getfield 97, 3) := by decide +kernel
theorem dX11_manyOf_37 : decode cX11_manyOf 37 = .ok (.aload_n 0, 1) := by decide +kernel
theorem dX11_manyOf_38 : decode cX11_manyOf 38 = .ok (.getfield 48, 3) := by decide +kernel
theorem dX11_manyOf_41 : decode cX11_manyOf 41 = .ok (.iaload, 1) := by decide +kernel
theorem dX11_manyOf_42 : decode cX11_manyOf 42 = .ok (.ireturn, 1) := by decide +kernel
theorem dX11_letter_0 : decode cX11_letter 0 = .ok (.iload_n 1, 1) := by decide +kernel
theorem dX11_letter_1 : decode cX11_letter 1 = .ok (.iconst 0, 1) := by decide +kernel
theorem dX11_letter_2 : decode cX11_letter 2 = .ok (.iconst 2, 1) := by decide +kernel
theorem dX11_letter_3 : decode cX11_letter 3 = .ok (.invokestatic 324, 3) := by decide +kernel
theorem dX11_letter_6 : decode cX11_letter 6 = .ok (.ifCond .eq 18, 3) := by decide +kernel
theorem dX11_letter_9 : decode cX11_letter 9 = .ok (.iload_n 2, 1) := by decide +kernel
theorem dX11_letter_10 : decode cX11_letter 10 = .ok (.iconst 0, 1) := by decide +kernel
theorem dX11_letter_11 : decode cX11_letter 11 = .ok (.aload_n 0, 1) := by decide +kernel
theorem dX11_letter_12 : decode cX11_letter 12 = .ok (.iload_n 1, 1) := by decide +kernel
theorem dX11_letter_13 : decode cX11_letter 13 = .ok (.invokevirtual 448, 3) := by decide +kernel
theorem dX11_letter_16 : decode cX11_letter 16 = .ok (.iconst 1, 1) := by decide +kernel
theorem dX11_letter_17 : decode cX11_letter 17 = .ok (.isub, 1) := by decide +kernel
theorem dX11_letter_18 : decode cX11_letter 18 = .ok (.invokestatic 324, 3) := by decide +kernel
theorem dX11_letter_21 : decode cX11_letter 21 = .ok (.ifCond .ne 5, 3) := by decide +kernel
theorem dX11_letter_24 : decode cX11_letter 24 = .ok (.iconst (-1), 1) := by decide +kernel
theorem dX11_letter_25 : decode cX11_letter 25 = .ok (.ireturn, 1) := by decide +kernel
theorem dX11_letter_26 : decode cX11_letter 26 = .ok (.aload_n 0, 1) := by decide +kernel
theorem dX11_letter_27 : decode cX11_letter 27 = .ok (.aload_n 0, 1) := by decide +kernel
theorem dX11_letter_28 : decode cX11_letter 28 = .ok (.getfield 48, 3) := by decide +kernel
theorem dX11_letter_31 : decode cX11_letter 31 = .ok (.iload_n 1, 1) := by decide +kernel
theorem dX11_letter_32 : decode cX11_letter 32 = .ok (.iload_n 2, 1) := by decide +kernel
theorem dX11_letter_33 : decode cX11_letter 33 = .ok (.invokevirtual 320, 3) := by decide +kernel
theorem dX11_letter_36 : decode cX11_letter 36 = .ok (.lstore 4, 2) := by decide +kernel
theorem dX11_letter_38 : decode cX11_letter 38 = .ok (.iconst 0, 1) := by decide +kernel
theorem dX11_letter_39 : decode cX11_letter 39 = .ok (.istore 6, 2) := by decide +kernel
theorem dX11_letter_41 : decode cX11_letter 41 = .ok (.lload 4, 2) := by decide +kernel
theorem dX11_letter_43 : decode cX11_letter 43 = .ok (.lstore 7, 2) := by decide +kernel
theorem dX11_letter_45 : decode cX11_letter 45 = .ok (.lload 7, 2) := by decide +kernel
theorem dX11_letter_47 : decode cX11_letter 47 = .ok (.lconst 0, 1) := by decide +kernel
theorem dX11_letter_48 : decode cX11_letter 48 = .ok (.lcmp, 1) := by decide +kernel
theorem dX11_letter_49 : decode cX11_letter 49 = .ok (.ifCond .eq 16, 3) := by decide +kernel
theorem dX11_letter_52 : decode cX11_letter 52 = .ok (.iinc 6 1, 3) := by decide +kernel
theorem dX11_letter_55 : decode cX11_letter 55 = .ok (.lload 7, 2) := by decide +kernel
theorem dX11_letter_57 : decode cX11_letter 57 = .ok (.bipush 8, 2) := by decide +kernel
theorem dX11_letter_59 : decode cX11_letter 59 = .ok (.lushr, 1) := by decide +kernel
theorem dX11_letter_60 : decode cX11_letter 60 = .ok (.lstore 7, 2) := by decide +kernel
theorem dX11_letter_62 : decode cX11_letter 62 = .ok (.goto (-17), 3) := by decide +kernel
theorem dX11_letter_65 : decode cX11_letter 65 = .ok (.iload_n 3, 1) := by decide +kernel
theorem dX11_letter_66 : decode cX11_letter 66 = .ok (.ifCond .lt 9, 3) := by decide +kernel
theorem dX11_letter_69 : decode cX11_letter 69 = .ok (.iload_n 3, 1) := by decide +kernel
theorem dX11_letter_70 : decode cX11_letter 70 = .ok (.iload 6, 2) := by decide +kernel
theorem dX11_letter_72 : decode cX11_letter 72 = .ok (.if_icmp .lt 7, 3) := by decide +kernel
theorem dX11_letter_75 : decode cX11_letter 75 = .ok (.iconst (-1), 1) := by decide +kernel
theorem dX11_letter_76 : decode cX11_letter 76 = .ok (.goto 20, 3) := by decide +kernel
theorem dX11_letter_79 : decode cX11_letter 79 = .ok (.lload 4, 2) := by decide +kernel
theorem dX11_letter_81 : decode cX11_letter 81 = .ok (.bipush 8, 2) := by decide +kernel
theorem dX11_letter_83 : decode cX11_letter 83 = .ok (.iload 6, 2) := by decide +kernel
theorem dX11_letter_85 : decode cX11_letter 85 = .ok (.iconst 1, 1) := by decide +kernel
theorem dX11_letter_86 : decode cX11_letter 86 = .ok (.isub, 1) := by decide +kernel
theorem dX11_letter_87 : decode cX11_letter 87 = .ok (.iload_n 3, 1) := by decide +kernel
theorem dX11_letter_88 : decode cX11_letter 88 = .ok (.isub, 1) := by decide +kernel
theorem dX11_letter_89 : decode cX11_letter 89 = .ok (.imul, 1) := by decide +kernel
theorem dX11_letter_90 : decode cX11_letter 90 = .ok (.lushr, 1) := by decide +kernel
theorem dX11_letter_91 : decode cX11_letter 91 = .ok (.ldc2_w 451, 3) := by decide +kernel
theorem dX11_letter_94 : decode cX11_letter 94 = .ok (.land, 1) := by decide +kernel
theorem dX11_letter_95 : decode cX11_letter 95 = .ok (.l2i, 1) := by decide +kernel
theorem dX11_letter_96 : decode cX11_letter 96 = .ok (.ireturn, 1) := by decide +kernel
theorem dX11_isEar_0 : decode cX11_isEar 0 = .ok (.iconst 0, 1) := by decide +kernel
theorem dX11_isEar_1 : decode cX11_isEar 1 = .ok (.istore_n 3, 1) := by decide +kernel
theorem dX11_isEar_2 : decode cX11_isEar 2 = .ok (.iload_n 3, 1) := by decide +kernel
theorem dX11_isEar_3 : decode cX11_isEar 3 = .ok (.aload_n 0, 1) := by decide +kernel
theorem dX11_isEar_4 : decode cX11_isEar 4 = .ok (.getfield 97, 3) := by decide +kernel
theorem dX11_isEar_7 : decode cX11_isEar 7 = .ok (.aload_n 0, 1) := by decide +kernel
theorem dX11_isEar_8 : decode cX11_isEar 8 = .ok (.getfield 48, 3) := by decide +kernel
theorem dX11_isEar_11 : decode cX11_isEar 11 = .ok (.iaload, 1) := by decide +kernel
theorem dX11_isEar_12 : decode cX11_isEar 12 = .ok (.if_icmp .ge 39, 3) := by decide +kernel
theorem dX11_isEar_15 : decode cX11_isEar 15 = .ok (.aload_n 0, 1) := by decide +kernel
theorem dX11_isEar_16 : decode cX11_isEar 16 = .ok (.getfield 103, 3) := by decide +kernel
theorem dX11_isEar_19 : decode cX11_isEar 19 = .ok (.aload_n 0, 1) := by decide +kernel
theorem dX11_isEar_20 : decode cX11_isEar 20 = .ok (.iload_n 3, 1) := by decide +kernel
theorem dX11_isEar_21 : decode cX11_isEar 21 = .ok (.invokevirtual 453, 3) := by decide +kernel
theorem dX11_isEar_24 : decode cX11_isEar 24 = .ok (.iaload, 1) := by decide +kernel
theorem dX11_isEar_25 : decode cX11_isEar 25 = .ok (.iload_n 1, 1) := by decide +kernel
theorem dX11_isEar_26 : decode cX11_isEar 26 = .ok (.if_icmp .ne 19, 3) := by decide +kernel
theorem dX11_isEar_29 : decode cX11_isEar 29 = .ok (.aload_n 0, 1) := by decide +kernel
theorem dX11_isEar_30 : decode cX11_isEar 30 = .ok (.getfield 106, 3) := by decide +kernel
theorem dX11_isEar_33 : decode cX11_isEar 33 = .ok (.aload_n 0, 1) := by decide +kernel
theorem dX11_isEar_34 : decode cX11_isEar 34 = .ok (.iload_n 3, 1) := by decide +kernel
theorem dX11_isEar_35 : decode cX11_isEar 35 = .ok (.invokevirtual 453, 3) := by decide +kernel
theorem dX11_isEar_38 : decode cX11_isEar 38 = .ok (.iaload, 1) := by decide +kernel
theorem dX11_isEar_39 : decode cX11_isEar 39 = .ok (.iload_n 2, 1) := by decide +kernel
theorem dX11_isEar_40 : decode cX11_isEar 40 = .ok (.if_icmp .ne 5, 3) := by decide +kernel
theorem dX11_isEar_43 : decode cX11_isEar 43 = .ok (.iconst 1, 1) := by decide +kernel
theorem dX11_isEar_44 : decode cX11_isEar 44 = .ok (.ireturn, 1) := by decide +kernel
theorem dX11_isEar_45 : decode cX11_isEar 45 = .ok (.iinc 3 1, 3) := by decide +kernel
theorem dX11_isEar_48 : decode cX11_isEar 48 = .ok (.goto (-46), 3) := by decide +kernel
theorem dX11_isEar_51 : decode cX11_isEar 51 = .ok (.iconst 0, 1) := by decide +kernel
theorem dX11_isEar_52 : decode cX11_isEar 52 = .ok (.ireturn, 1) := by decide +kernel
theorem dX11_door__0 : decode cX11_door_ 0 = .ok (.aload_n 0, 1) := by decide +kernel
theorem dX11_door__1 : decode cX11_door_ 1 = .ok (.iload_n 1, 1) := by decide +kernel
theorem dX11_door__2 : decode cX11_door_ 2 = .ok (.invokevirtual 456, 3) := by decide +kernel
theorem dX11_door__5 : decode cX11_door_ 5 = .ok (.ifCond .ne 5, 3) := by decide +kernel
theorem dX11_door__8 : decode cX11_door_ 8 = .ok (.iconst (-1), 1) := by decide +kernel
theorem dX11_door__9 : decode cX11_door_ 9 = .ok (.ireturn, 1) := by decide +kernel
theorem dX11_door__10 : decode cX11_door_ 10 = .ok (.iconst 0, 1) := by decide +kernel
theorem dX11_door__11 : decode cX11_door_ 11 = .ok (.istore_n 3, 1) := by decide +kernel
theorem dX11_door__12 : decode cX11_door_ 12 = .ok (.iconst 0, 1) := by decide +kernel
theorem dX11_door__13 : decode cX11_door_ 13 = .ok (.istore 4, 2) := by decide +kernel
theorem dX11_door__15 : decode cX11_door_ 15 = .ok (.iload 4, 2) := by decide +kernel
theorem dX11_door__17 : decode cX11_door_ 17 = .ok (.aload_n 0, 1) := by decide +kernel
theorem dX11_door__18 : decode cX11_door_ 18 = .ok (.getfield 57, 3) := by decide +kernel
theorem dX11_door__21 : decode cX11_door_ 21 = .ok (.aload_n 0, 1) := by decide +kernel
theorem dX11_door__22 : decode cX11_door_ 22 = .ok (.getfield 48, 3) := by decide +kernel
theorem dX11_door__25 : decode cX11_door_ 25 = .ok (.iaload, 1) := by decide +kernel
theorem dX11_door__26 : decode cX11_door_ 26 = .ok (.if_icmp .ge 30, 3) := by decide +kernel
theorem dX11_door__29 : decode cX11_door_ 29 = .ok (.iload_n 3, 1) := by decide +kernel
theorem dX11_door__30 : decode cX11_door_ 30 = .ok (.aload_n 0, 1) := by decide +kernel
theorem dX11_door__31 : decode cX11_door_ 31 = .ok (.iload_n 1, 1) := by decide +kernel
theorem dX11_door__32 : decode cX11_door_ 32 = .ok (.iload 4, 2) := by decide +kernel
theorem dX11_door__34 : decode cX11_door_ 34 = .ok (.invokevirtual 459, 3) := by decide +kernel
theorem dX11_door__37 : decode cX11_door_ 37 = .ok (.ifCond .eq 10, 3) := by decide +kernel
theorem dX11_door__40 : decode cX11_door_ 40 = .ok (.iconst 1, 1) := by decide +kernel
theorem dX11_door__41 : decode cX11_door_ 41 = .ok (.iload 4, 2) := by decide +kernel
theorem dX11_door__43 : decode cX11_door_ 43 = .ok (.ishl, 1) := by decide +kernel
theorem dX11_door__44 : decode cX11_door_ 44 = .ok (.goto 4, 3) := by decide +kernel
theorem dX11_door__47 : decode cX11_door_ 47 = .ok (.iconst 0, 1) := by decide +kernel
theorem dX11_door__48 : decode cX11_door_ 48 = .ok (.ior, 1) := by decide +kernel
theorem dX11_door__49 : decode cX11_door_ 49 = .ok (.istore_n 3, 1) := by decide +kernel
theorem dX11_door__50 : decode cX11_door_ 50 = .ok (.iinc 4 1, 3) := by decide +kernel
theorem dX11_door__53 : decode cX11_door_ 53 = .ok (.goto (-38), 3) := by decide +kernel
theorem dX11_door__56 : decode cX11_door_ 56 = .ok (.iload_n 2, 1) := by decide +kernel
theorem dX11_door__57 : decode cX11_door_ 57 = .ok (.ifCond .ne 16, 3) := by decide +kernel
theorem dX11_door__60 : decode cX11_door_ 60 = .ok (.aload_n 0, 1) := by decide +kernel
theorem dX11_door__61 : decode cX11_door_ 61 = .ok (.getfield 88, 3) := by decide +kernel
theorem dX11_door__64 : decode cX11_door_ 64 = .ok (.aload_n 0, 1) := by decide +kernel
theorem dX11_door__65 : decode cX11_door_ 65 = .ok (.iload_n 1, 1) := by decide +kernel
theorem dX11_door__66 : decode cX11_door_ 66 = .ok (.invokevirtual 463, 3) := by decide +kernel
theorem dX11_door__69 : decode cX11_door_ 69 = .ok (.iaload, 1) := by decide +kernel
theorem dX11_door__70 : decode cX11_door_ 70 = .ok (.goto 49, 3) := by decide +kernel
theorem dX11_door__73 : decode cX11_door_ 73 = .ok (.iload_n 2, 1) := by decide +kernel
theorem dX11_door__74 : decode cX11_door_ 74 = .ok (.iconst 1, 1) := by decide +kernel
theorem dX11_door__75 : decode cX11_door_ 75 = .ok (.if_icmp .ne 16, 3) := by decide +kernel
theorem dX11_door__78 : decode cX11_door_ 78 = .ok (.aload_n 0, 1) := by decide +kernel
theorem dX11_door__79 : decode cX11_door_ 79 = .ok (.getfield 91, 3) := by decide +kernel
theorem dX11_door__82 : decode cX11_door_ 82 = .ok (.aload_n 0, 1) := by decide +kernel
theorem dX11_door__83 : decode cX11_door_ 83 = .ok (.iload_n 1, 1) := by decide +kernel
theorem dX11_door__84 : decode cX11_door_ 84 = .ok (.invokevirtual 463, 3) := by decide +kernel
theorem dX11_door__87 : decode cX11_door_ 87 = .ok (.iaload, 1) := by decide +kernel
theorem dX11_door__88 : decode cX11_door_ 88 = .ok (.goto 31, 3) := by decide +kernel
theorem dX11_door__91 : decode cX11_door_ 91 = .ok (.iload_n 2, 1) := by decide +kernel
theorem dX11_door__92 : decode cX11_door_ 92 = .ok (.iconst 2, 1) := by decide +kernel
theorem dX11_door__93 : decode cX11_door_ 93 = .ok (.if_icmp .ne 16, 3) := by decide +kernel
theorem dX11_door__96 : decode cX11_door_ 96 = .ok (.aload_n 0, 1) := by decide +kernel
theorem dX11_door__97 : decode cX11_door_ 97 = .ok (.getfield 94, 3) := by decide +kernel
theorem dX11_door__100 : decode cX11_door_ 100 = .ok (.aload_n 0, 1) := by decide +kernel
theorem dX11_door__101 : decode cX11_door_ 101 = .ok (.iload_n 1, 1) := by decide +kernel
theorem dX11_door__102 : decode cX11_door_ 102 = .ok (.invokevirtual 463, 3) := by decide +kernel
theorem dX11_door__105 : decode cX11_door_ 105 = .ok (.iaload, 1) := by decide +kernel
theorem dX11_door__106 : decode cX11_door_ 106 = .ok (.goto 13, 3) := by decide +kernel
theorem dX11_door__109 : decode cX11_door_ 109 = .ok (.iload_n 2, 1) := by decide +kernel
theorem dX11_door__110 : decode cX11_door_ 110 = .ok (.iconst 3, 1) := by decide +kernel
theorem dX11_door__111 : decode cX11_door_ 111 = .ok (.if_icmp .ne 7, 3) := by decide +kernel
theorem dX11_door__114 : decode cX11_door_ 114 = .ok (.iload_n 3, 1) := by decide +kernel
theorem dX11_door__115 : decode cX11_door_ 115 = .ok (.goto 4, 3) := by decide +kernel
theorem dX11_door__118 : decode cX11_door_ 118 = .ok (.iconst (-1), 1) := by decide +kernel
theorem dX11_door__119 : decode cX11_door_ 119 = .ok (.ireturn, 1) := by decide +kernel
theorem dX11_person__0 : decode cX11_person_ 0 = .ok (.aload_n 0, 1) := by decide +kernel
theorem dX11_person__1 : decode cX11_person_ 1 = .ok (.iload_n 1, 1) := by decide +kernel
theorem dX11_person__2 : decode cX11_person_ 2 = .ok (.invokevirtual 466, 3) := by decide +kernel
theorem dX11_person__5 : decode cX11_person_ 5 = .ok (.ifCond .ne 5, 3) := by decide +kernel
theorem dX11_person__8 : decode cX11_person_ 8 = .ok (.iconst (-1), 1) := by decide +kernel
theorem dX11_person__9 : decode cX11_person_ 9 = .ok (.ireturn, 1) := by decide +kernel
theorem dX11_person__10 : decode cX11_person_ 10 = .ok (.iload_n 2, 1) := by decide +kernel
theorem dX11_person__11 : decode cX11_person_ 11 = .ok (.tableswitch 106 0 6 #[41, 52, 63, 70, 81, 92, 99], 41) := by decide +kernel
theorem dX11_person__52 : decode cX11_person_ 52 = .ok (.aload_n 0, 1) := by decide +kernel
theorem dX11_person__53 : decode cX11_person_ 53 = .ok (.getfield 103, 3) := by decide +kernel
theorem dX11_person__56 : decode cX11_person_ 56 = .ok (.aload_n 0, 1) := by decide +kernel
theorem dX11_person__57 : decode cX11_person_ 57 = .ok (.iload_n 1, 1) := by decide +kernel
theorem dX11_person__58 : decode cX11_person_ 58 = .ok (.invokevirtual 453, 3) := by decide +kernel
theorem dX11_person__61 : decode cX11_person_ 61 = .ok (.iaload, 1) := by decide +kernel
theorem dX11_person__62 : decode cX11_person_ 62 = .ok (.ireturn, 1) := by decide +kernel
theorem dX11_person__63 : decode cX11_person_ 63 = .ok (.aload_n 0, 1) := by decide +kernel
theorem dX11_person__64 : decode cX11_person_ 64 = .ok (.getfield 106, 3) := by decide +kernel
theorem dX11_person__67 : decode cX11_person_ 67 = .ok (.aload_n 0, 1) := by decide +kernel
theorem dX11_person__68 : decode cX11_person_ 68 = .ok (.iload_n 1, 1) := by decide +kernel
theorem dX11_person__69 : decode cX11_person_ 69 = .ok (.invokevirtual 453, 3) := by decide +kernel
theorem dX11_person__72 : decode cX11_person_ 72 = .ok (.iaload, 1) := by decide +kernel
theorem dX11_person__73 : decode cX11_person_ 73 = .ok (.ireturn, 1) := by decide +kernel
theorem dX11_person__74 : decode cX11_person_ 74 = .ok (.aload_n 0, 1) := by decide +kernel
theorem dX11_person__75 : decode cX11_person_ 75 = .ok (.getfield 183, 3) := by decide +kernel
theorem dX11_person__78 : decode cX11_person_ 78 = .ok (.iload_n 1, 1) := by decide +kernel
theorem dX11_person__79 : decode cX11_person_ 79 = .ok (.iaload, 1) := by decide +kernel
theorem dX11_person__80 : decode cX11_person_ 80 = .ok (.ireturn, 1) := by decide +kernel
theorem dX11_person__81 : decode cX11_person_ 81 = .ok (.aload_n 0, 1) := by decide +kernel
theorem dX11_person__82 : decode cX11_person_ 82 = .ok (.getfield 109, 3) := by decide +kernel
theorem dX11_person__85 : decode cX11_person_ 85 = .ok (.aload_n 0, 1) := by decide +kernel
theorem dX11_person__86 : decode cX11_person_ 86 = .ok (.iload_n 1, 1) := by decide +kernel
theorem dX11_person__87 : decode cX11_person_ 87 = .ok (.invokevirtual 453, 3) := by decide +kernel
theorem dX11_person__90 : decode cX11_person_ 90 = .ok (.iaload, 1) := by decide +kernel
theorem dX11_person__91 : decode cX11_person_ 91 = .ok (.ireturn, 1) := by decide +kernel
theorem dX11_person__92 : decode cX11_person_ 92 = .ok (.aload_n 0, 1) := by decide +kernel
theorem dX11_person__93 : decode cX11_person_ 93 = .ok (.getfield 112, 3) := by decide +kernel
theorem dX11_person__96 : decode cX11_person_ 96 = .ok (.aload_n 0, 1) := by decide +kernel
theorem dX11_person__97 : decode cX11_person_ 97 = .ok (.iload_n 1, 1) := by decide +kernel
theorem dX11_person__98 : decode cX11_person_ 98 = .ok (.invokevirtual 453, 3) := by decide +kernel
theorem dX11_person__101 : decode cX11_person_ 101 = .ok (.iaload, 1) := by decide +kernel
theorem dX11_person__102 : decode cX11_person_ 102 = .ok (.ireturn, 1) := by decide +kernel
theorem dX11_person__103 : decode cX11_person_ 103 = .ok (.aload_n 0, 1) := by decide +kernel
theorem dX11_person__104 : decode cX11_person_ 104 = .ok (.getfield 186, 3) := by decide +kernel
theorem dX11_person__107 : decode cX11_person_ 107 = .ok (.iload_n 1, 1) := by decide +kernel
theorem dX11_person__108 : decode cX11_person_ 108 = .ok (.iaload, 1) := by decide +kernel
theorem dX11_person__109 : decode cX11_person_ 109 = .ok (.ireturn, 1) := by decide +kernel
theorem dX11_person__110 : decode cX11_person_ 110 = .ok (.aload_n 0, 1) := by decide +kernel
theorem dX11_person__111 : decode cX11_person_ 111 = .ok (.getfield 189, 3) := by decide +kernel
theorem dX11_person__114 : decode cX11_person_ 114 = .ok (.iload_n 1, 1) := by decide +kernel
theorem dX11_person__115 : decode cX11_person_ 115 = .ok (.iaload, 1) := by decide +kernel
theorem dX11_person__116 : decode cX11_person_ 116 = .ok (.ireturn, 1) := by decide +kernel
theorem dX11_person__117 : decode cX11_person_ 117 = .ok (.iconst (-1), 1) := by decide +kernel
theorem dX11_person__118 : decode cX11_person_ 118 = .ok (.ireturn, 1) := by decide +kernel
theorem dX11_note_0 : decode cX11_note 0 = .ok (.aload_n 0, 1) := by decide +kernel
theorem dX11_note_1 : decode cX11_note 1 = .ok (.iload_n 1, 1) := by decide +kernel
theorem dX11_note_2 : decode cX11_note 2 = .ok (.invokevirtual 469, 3) := by decide +kernel
theorem dX11_note_5 : decode cX11_note 5 = .ok (.ifCond .eq 10, 3) := by decide +kernel
theorem dX11_note_8 : decode cX11_note 8 = .ok (.iload_n 2, 1) := by decide +kernel
theorem dX11_note_9 : decode cX11_note 9 = .ok (.invokestatic 472, 3) := by decide +kernel
theorem dX11_note_12 : decode cX11_note 12 = .ok (.ifCond .ne 5, 3) := by decide +kernel
theorem dX11_note_15 : decode cX11_note 15 = .ok (.iconst (-1), 1) := by decide +kernel
theorem dX11_note_16 : decode cX11_note 16 = .ok (.ireturn, 1) := by decide +kernel
theorem dX11_note_17 : decode cX11_note 17 = .ok (.sipush 1000, 3) := by decide +kernel
theorem dX11_note_20 : decode cX11_note 20 = .ok (.iload_n 1, 1) := by decide +kernel
theorem dX11_note_21 : decode cX11_note 21 = .ok (.imul, 1) := by decide +kernel
theorem dX11_note_22 : decode cX11_note 22 = .ok (.iload_n 2, 1) := by decide +kernel
theorem dX11_note_23 : decode cX11_note 23 = .ok (.iadd, 1) := by decide +kernel
theorem dX11_note_24 : decode cX11_note 24 = .ok (.istore 4, 2) := by decide +kernel
theorem dX11_note_26 : decode cX11_note 26 = .ok (.iload_n 3, 1) := by decide +kernel
theorem dX11_note_27 : decode cX11_note 27 = .ok (.iconst (-1), 1) := by decide +kernel
theorem dX11_note_28 : decode cX11_note 28 = .ok (.if_icmp .ne 13, 3) := by decide +kernel
theorem dX11_note_31 : decode cX11_note 31 = .ok (.aload_n 0, 1) := by decide +kernel
theorem dX11_note_32 : decode cX11_note 32 = .ok (.getfield 180, 3) := by decide +kernel
theorem dX11_note_35 : decode cX11_note 35 = .ok (.iload 4, 2) := by decide +kernel
theorem dX11_note_37 : decode cX11_note 37 = .ok (.iaload, 1) := by decide +kernel
theorem dX11_note_38 : decode cX11_note 38 = .ok (.goto 53, 3) := by decide +kernel
theorem dX11_note_41 : decode cX11_note 41 = .ok (.iload_n 3, 1) := by decide +kernel
theorem dX11_note_42 : decode cX11_note 42 = .ok (.bipush (-2), 2) := by decide +kernel
theorem dX11_note_44 : decode cX11_note 44 = .ok (.if_icmp .ne 13, 3) := by decide +kernel
theorem dX11_note_47 : decode cX11_note 47 = .ok (.aload_n 0, 1) := by decide +kernel
theorem dX11_note_48 : decode cX11_note 48 = .ok (.getfield 177, 3) := by decide +kernel
theorem dX11_note_51 : decode cX11_note 51 = .ok (.iload 4, 2) := by decide +kernel
theorem dX11_note_53 : decode cX11_note 53 = .ok (.iaload, 1) := by decide +kernel
theorem dX11_note_54 : decode cX11_note 54 = .ok (.goto 37, 3) := by decide +kernel
theorem dX11_note_57 : decode cX11_note 57 = .ok (.iload_n 3, 1) := by decide +kernel
theorem dX11_note_58 : decode cX11_note 58 = .ok (.iconst 0, 1) := by decide +kernel
theorem dX11_note_59 : decode cX11_note 59 = .ok (.aload_n 0, 1) := by decide +kernel
theorem dX11_note_60 : decode cX11_note 60 = .ok (.getfield 54, 3) := by decide +kernel
theorem dX11_note_63 : decode cX11_note 63 = .ok (.aload_n 0, 1) := by decide +kernel
theorem dX11_note_64 : decode cX11_note 64 = .ok (.getfield 48, 3) := by decide +kernel
theorem dX11_note_67 : decode cX11_note 67 = .ok (.iaload, 1) := by decide +kernel
theorem dX11_note_68 : decode cX11_note 68 = .ok (.iconst 1, 1) := by decide +kernel
theorem dX11_note_69 : decode cX11_note 69 = .ok (.isub, 1) := by decide +kernel
theorem dX11_note_70 : decode cX11_note 70 = .ok (.invokestatic 324, 3) := by decide +kernel
theorem dX11_note_73 : decode cX11_note 73 = .ok (.ifCond .eq 17, 3) := by decide +kernel
theorem dX11_note_76 : decode cX11_note 76 = .ok (.aload_n 0, 1) := by decide +kernel
theorem dX11_note_77 : decode cX11_note 77 = .ok (.getfield 174, 3) := by decide +kernel
theorem dX11_note_80 : decode cX11_note 80 = .ok (.iconst 5, 1) := by decide +kernel
theorem dX11_note_81 : decode cX11_note 81 = .ok (.iload 4, 2) := by decide +kernel
theorem dX11_note_83 : decode cX11_note 83 = .ok (.imul, 1) := by decide +kernel
theorem dX11_note_84 : decode cX11_note 84 = .ok (.iload_n 3, 1) := by decide +kernel
theorem dX11_note_85 : decode cX11_note 85 = .ok (.iadd, 1) := by decide +kernel
theorem dX11_note_86 : decode cX11_note 86 = .ok (.iaload, 1) := by decide +kernel
theorem dX11_note_87 : decode cX11_note 87 = .ok (.goto 4, 3) := by decide +kernel
theorem dX11_note_90 : decode cX11_note 90 = .ok (.iconst (-1), 1) := by decide +kernel
theorem dX11_note_91 : decode cX11_note 91 = .ok (.ireturn, 1) := by decide +kernel
theorem dX11_round_0 : decode cX11_round 0 = .ok (.aload_n 0, 1) := by decide +kernel
theorem dX11_round_1 : decode cX11_round 1 = .ok (.iload_n 1, 1) := by decide +kernel
theorem dX11_round_2 : decode cX11_round 2 = .ok (.invokevirtual 469, 3) := by decide +kernel
theorem dX11_round_5 : decode cX11_round 5 = .ok (.ifCond .eq 12, 3) := by decide +kernel
theorem dX11_round_8 : decode cX11_round 8 = .ok (.iload_n 2, 1) := by decide +kernel
theorem dX11_round_9 : decode cX11_round 9 = .ok (.ifCond .eq 10, 3) := by decide +kernel
theorem dX11_round_12 : decode cX11_round 12 = .ok (.iload_n 2, 1) := by decide +kernel
theorem dX11_round_13 : decode cX11_round 13 = .ok (.iconst 1, 1) := by decide +kernel
theorem dX11_round_14 : decode cX11_round 14 = .ok (.if_icmp .eq 5, 3) := by decide +kernel
theorem dX11_round_17 : decode cX11_round 17 = .ok (.iconst (-1), 1) := by decide +kernel
theorem dX11_round_18 : decode cX11_round 18 = .ok (.ireturn, 1) := by decide +kernel
theorem dX11_round_19 : decode cX11_round 19 = .ok (.sipush 1000, 3) := by decide +kernel
theorem dX11_round_22 : decode cX11_round 22 = .ok (.iload_n 1, 1) := by decide +kernel
theorem dX11_round_23 : decode cX11_round 23 = .ok (.imul, 1) := by decide +kernel
theorem dX11_round_24 : decode cX11_round 24 = .ok (.istore_n 3, 1) := by decide +kernel
theorem dX11_round_25 : decode cX11_round 25 = .ok (.iconst 1, 1) := by decide +kernel
theorem dX11_round_26 : decode cX11_round 26 = .ok (.istore 4, 2) := by decide +kernel
theorem dX11_round_28 : decode cX11_round 28 = .ok (.iload 4, 2) := by decide +kernel
theorem dX11_round_30 : decode cX11_round 30 = .ok (.sipush 1000, 3) := by decide +kernel
theorem dX11_round_33 : decode cX11_round 33 = .ok (.if_icmp .ge 82, 3) := by decide +kernel
theorem dX11_round_36 : decode cX11_round 36 = .ok (.iconst 0, 1) := by decide +kernel
theorem dX11_round_37 : decode cX11_round 37 = .ok (.istore 5, 2) := by decide +kernel
theorem dX11_round_39 : decode cX11_round 39 = .ok (.iload 5, 2) := by decide +kernel
theorem dX11_round_41 : decode cX11_round 41 = .ok (.iload 4, 2) := by decide +kernel
theorem dX11_round_43 : decode cX11_round 43 = .ok (.if_icmp .ge 66, 3) := by decide +kernel
theorem dX11_round_46 : decode cX11_round 46 = .ok (.aload_n 0, 1) := by decide +kernel
theorem dX11_round_47 : decode cX11_round 47 = .ok (.getfield 180, 3) := by decide +kernel
theorem dX11_round_50 : decode cX11_round 50 = .ok (.iload_n 3, 1) := by decide +kernel
theorem dX11_round_51 : decode cX11_round 51 = .ok (.iload 5, 2) := by decide +kernel
theorem dX11_round_53 : decode cX11_round 53 = .ok (.iadd, 1) := by decide +kernel
theorem dX11_round_54 : decode cX11_round 54 = .ok (.iaload, 1) := by decide +kernel
theorem dX11_round_55 : decode cX11_round 55 = .ok (.aload_n 0, 1) := by decide +kernel
theorem dX11_round_56 : decode cX11_round 56 = .ok (.getfield 180, 3) := by decide +kernel
theorem dX11_round_59 : decode cX11_round 59 = .ok (.iload_n 3, 1) := by decide +kernel
theorem dX11_round_60 : decode cX11_round 60 = .ok (.iload 4, 2) := by decide +kernel
theorem dX11_round_62 : decode cX11_round 62 = .ok (.iadd, 1) := by decide +kernel
theorem dX11_round_63 : decode cX11_round 63 = .ok (.iaload, 1) := by decide +kernel
theorem dX11_round_64 : decode cX11_round 64 = .ok (.if_icmp .ne 39, 3) := by decide +kernel
theorem dX11_round_67 : decode cX11_round 67 = .ok (.aload_n 0, 1) := by decide +kernel
theorem dX11_round_68 : decode cX11_round 68 = .ok (.getfield 177, 3) := by decide +kernel
theorem dX11_round_71 : decode cX11_round 71 = .ok (.iload_n 3, 1) := by decide +kernel
theorem dX11_round_72 : decode cX11_round 72 = .ok (.iload 5, 2) := by decide +kernel
theorem dX11_round_74 : decode cX11_round 74 = .ok (.iadd, 1) := by decide +kernel
theorem dX11_round_75 : decode cX11_round 75 = .ok (.iaload, 1) := by decide +kernel
theorem dX11_round_76 : decode cX11_round 76 = .ok (.aload_n 0, 1) := by decide +kernel
theorem dX11_round_77 : decode cX11_round 77 = .ok (.getfield 177, 3) := by decide +kernel
theorem dX11_round_80 : decode cX11_round 80 = .ok (.iload_n 3, 1) := by decide +kernel
theorem dX11_round_81 : decode cX11_round 81 = .ok (.iload 4, 2) := by decide +kernel
theorem dX11_round_83 : decode cX11_round 83 = .ok (.iadd, 1) := by decide +kernel
theorem dX11_round_84 : decode cX11_round 84 = .ok (.iaload, 1) := by decide +kernel
theorem dX11_round_85 : decode cX11_round 85 = .ok (.if_icmp .ne 18, 3) := by decide +kernel
theorem dX11_round_88 : decode cX11_round 88 = .ok (.iload_n 2, 1) := by decide +kernel
theorem dX11_round_89 : decode cX11_round 89 = .ok (.ifCond .ne 8, 3) := by decide +kernel
theorem dX11_round_92 : decode cX11_round 92 = .ok (.iload 5, 2) := by decide +kernel
theorem dX11_round_94 : decode cX11_round 94 = .ok (.goto 8, 3) := by decide +kernel
theorem dX11_round_97 : decode cX11_round 97 = .ok (.iload 4, 2) := by decide +kernel
theorem dX11_round_99 : decode cX11_round 99 = .ok (.iload 5, 2) := by decide +kernel
theorem dX11_round_101 : decode cX11_round 101 = .ok (.isub, 1) := by decide +kernel
theorem dX11_round_102 : decode cX11_round 102 = .ok (.ireturn, 1) := by decide +kernel
theorem dX11_round_103 : decode cX11_round 103 = .ok (.iinc 5 1, 3) := by decide +kernel
theorem dX11_round_106 : decode cX11_round 106 = .ok (.goto (-67), 3) := by decide +kernel
theorem dX11_round_109 : decode cX11_round 109 = .ok (.iinc 4 1, 3) := by decide +kernel
theorem dX11_round_112 : decode cX11_round 112 = .ok (.goto (-84), 3) := by decide +kernel
theorem dX11_round_115 : decode cX11_round 115 = .ok (.iconst (-1), 1) := by decide +kernel
theorem dX11_round_116 : decode cX11_round 116 = .ok (.ireturn, 1) := by decide +kernel
theorem dX11_find_0 : decode cX11_find 0 = .ok (.aload_n 0, 1) := by decide +kernel
theorem dX11_find_1 : decode cX11_find 1 = .ok (.iload_n 1, 1) := by decide +kernel
theorem dX11_find_2 : decode cX11_find 2 = .ok (.invokevirtual 469, 3) := by decide +kernel
theorem dX11_find_5 : decode cX11_find 5 = .ok (.ifCond .eq 10, 3) := by decide +kernel
theorem dX11_find_8 : decode cX11_find 8 = .ok (.iload_n 2, 1) := by decide +kernel
theorem dX11_find_9 : decode cX11_find 9 = .ok (.invokestatic 472, 3) := by decide +kernel
theorem dX11_find_12 : decode cX11_find 12 = .ok (.ifCond .ne 5, 3) := by decide +kernel
theorem dX11_find_15 : decode cX11_find 15 = .ok (.iconst (-1), 1) := by decide +kernel
theorem dX11_find_16 : decode cX11_find 16 = .ok (.ireturn, 1) := by decide +kernel
theorem dX11_find_17 : decode cX11_find 17 = .ok (.iload_n 2, 1) := by decide +kernel
theorem dX11_find_18 : decode cX11_find 18 = .ok (.istore 4, 2) := by decide +kernel
theorem dX11_find_20 : decode cX11_find 20 = .ok (.iload 4, 2) := by decide +kernel
theorem dX11_find_22 : decode cX11_find 22 = .ok (.sipush 1000, 3) := by decide +kernel
theorem dX11_find_25 : decode cX11_find 25 = .ok (.if_icmp .ge 29, 3) := by decide +kernel
theorem dX11_find_28 : decode cX11_find 28 = .ok (.aload_n 0, 1) := by decide +kernel
theorem dX11_find_29 : decode cX11_find 29 = .ok (.getfield 180, 3) := by decide +kernel
theorem dX11_find_32 : decode cX11_find 32 = .ok (.sipush 1000, 3) := by decide +kernel
theorem dX11_find_35 : decode cX11_find 35 = .ok (.iload_n 1, 1) := by decide +kernel
theorem dX11_find_36 : decode cX11_find 36 = .ok (.imul, 1) := by decide +kernel
theorem dX11_find_37 : decode cX11_find 37 = .ok (.iload 4, 2) := by decide +kernel
theorem dX11_find_39 : decode cX11_find 39 = .ok (.iadd, 1) := by decide +kernel
theorem dX11_find_40 : decode cX11_find 40 = .ok (.iaload, 1) := by decide +kernel
theorem dX11_find_41 : decode cX11_find 41 = .ok (.iload_n 3, 1) := by decide +kernel
theorem dX11_find_42 : decode cX11_find 42 = .ok (.if_icmp .ne 6, 3) := by decide +kernel
theorem dX11_find_45 : decode cX11_find 45 = .ok (.iload 4, 2) := by decide +kernel
theorem dX11_find_47 : decode cX11_find 47 = .ok (.ireturn, 1) := by decide +kernel
theorem dX11_find_48 : decode cX11_find 48 = .ok (.iinc 4 1, 3) := by decide +kernel
theorem dX11_find_51 : decode cX11_find 51 = .ok (.goto (-31), 3) := by decide +kernel
theorem dX11_find_54 : decode cX11_find 54 = .ok (.iconst (-1), 1) := by decide +kernel
theorem dX11_find_55 : decode cX11_find 55 = .ok (.ireturn, 1) := by decide +kernel
theorem dX11_whistles_0 : decode cX11_whistles 0 = .ok (.iconst 0, 1) := by decide +kernel
theorem dX11_whistles_1 : decode cX11_whistles 1 = .ok (.istore_n 3, 1) := by decide +kernel
theorem dX11_whistles_2 : decode cX11_whistles 2 = .ok (.iload_n 3, 1) := by decide +kernel
theorem dX11_whistles_3 : decode cX11_whistles 3 = .ok (.aload_n 0, 1) := by decide +kernel
theorem dX11_whistles_4 : decode cX11_whistles 4 = .ok (.getfield 54, 3) := by decide +kernel
theorem dX11_whistles_7 : decode cX11_whistles 7 = .ok (.aload_n 0, 1) := by decide +kernel
theorem dX11_whistles_8 : decode cX11_whistles 8 = .ok (.getfield 48, 3) := by decide +kernel
theorem dX11_whistles_11 : decode cX11_whistles 11 = .ok (.iaload, 1) := by decide +kernel
theorem dX11_whistles_12 : decode cX11_whistles 12 = .ok (.if_icmp .ge 31, 3) := by decide +kernel
theorem dX11_whistles_15 : decode cX11_whistles 15 = .ok (.aload_n 0, 1) := by decide +kernel
theorem dX11_whistles_16 : decode cX11_whistles 16 = .ok (.getfield 210, 3) := by decide +kernel
theorem dX11_whistles_19 : decode cX11_whistles 19 = .ok (.iload_n 3, 1) := by decide +kernel
theorem dX11_whistles_20 : decode cX11_whistles 20 = .ok (.aload_n 0, 1) := by decide +kernel
theorem dX11_whistles_21 : decode cX11_whistles 21 = .ok (.getfield 174, 3) := by decide +kernel
theorem dX11_whistles_24 : decode cX11_whistles 24 = .ok (.iconst 5, 1) := by decide +kernel
theorem dX11_whistles_25 : decode cX11_whistles 25 = .ok (.sipush 1000, 3) := by decide +kernel
theorem dX11_whistles_28 : decode cX11_whistles 28 = .ok (.iload_n 1, 1) := by decide +kernel
theorem dX11_whistles_29 : decode cX11_whistles 29 = .ok (.imul, 1) := by decide +kernel
theorem dX11_whistles_30 : decode cX11_whistles 30 = .ok (.iload_n 2, 1) := by decide +kernel
theorem dX11_whistles_31 : decode cX11_whistles 31 = .ok (.iadd, 1) := by decide +kernel
theorem dX11_whistles_32 : decode cX11_whistles 32 = .ok (.imul, 1) := by decide +kernel
theorem dX11_whistles_33 : decode cX11_whistles 33 = .ok (.iload_n 3, 1) := by decide +kernel
theorem dX11_whistles_34 : decode cX11_whistles 34 = .ok (.iadd, 1) := by decide +kernel
theorem dX11_whistles_35 : decode cX11_whistles 35 = .ok (.iaload, 1) := by decide +kernel
theorem dX11_whistles_36 : decode cX11_whistles 36 = .ok (.iastore, 1) := by decide +kernel
theorem dX11_whistles_37 : decode cX11_whistles 37 = .ok (.iinc 3 1, 3) := by decide +kernel
theorem dX11_whistles_40 : decode cX11_whistles 40 = .ok (.goto (-38), 3) := by decide +kernel
theorem dX11_whistles_43 : decode cX11_whistles 43 = .ok (.aload_n 0, 1) := by decide +kernel
theorem dX11_whistles_44 : decode cX11_whistles 44 = .ok (.aload_n 0, 1) := by decide +kernel
theorem dX11_whistles_45 : decode cX11_whistles 45 = .ok (.getfield 180, 3) := by decide +kernel
theorem dX11_whistles_48 : decode cX11_whistles 48 = .ok (.sipush 1000, 3) := by decide +kernel
theorem dX11_whistles_51 : decode cX11_whistles 51 = .ok (.iload_n 1, 1) := by decide +kernel
theorem dX11_whistles_52 : decode cX11_whistles 52 = .ok (.imul, 1) := by decide +kernel
theorem dX11_whistles_53 : decode cX11_whistles 53 = .ok (.iload_n 2, 1) := by decide +kernel
theorem dX11_whistles_54 : decode cX11_whistles 54 = .ok (.iadd, 1) := by decide +kernel
theorem dX11_whistles_55 : decode cX11_whistles 55 = .ok (.iaload, 1) := by decide +kernel
theorem dX11_whistles_56 : decode cX11_whistles 56 = .ok (.putfield 213, 3) := by decide +kernel
theorem dX11_whistles_59 : decode cX11_whistles 59 = .ok (.return_, 1) := by decide +kernel
theorem dX11_numbers_0 : decode cX11_numbers 0 = .ok (.aload_n 0, 1) := by decide +kernel
theorem dX11_numbers_1 : decode cX11_numbers 1 = .ok (.iconst 0, 1) := by decide +kernel
theorem dX11_numbers_2 : decode cX11_numbers 2 = .ok (.putfield 213, 3) := by decide +kernel
theorem dX11_numbers_5 : decode cX11_numbers 5 = .ok (.iconst 0, 1) := by decide +kernel
theorem dX11_numbers_6 : decode cX11_numbers 6 = .ok (.istore_n 1, 1) := by decide +kernel
theorem dX11_numbers_7 : decode cX11_numbers 7 = .ok (.iload_n 1, 1) := by decide +kernel
theorem dX11_numbers_8 : decode cX11_numbers 8 = .ok (.aload_n 0, 1) := by decide +kernel
theorem dX11_numbers_9 : decode cX11_numbers 9 = .ok (.getfield 54, 3) := by decide +kernel
theorem dX11_numbers_12 : decode cX11_numbers 12 = .ok (.aload_n 0, 1) := by decide +kernel
theorem dX11_numbers_13 : decode cX11_numbers 13 = .ok (.getfield 48, 3) := by decide +kernel
theorem dX11_numbers_16 : decode cX11_numbers 16 = .ok (.iaload, 1) := by decide +kernel
theorem dX11_numbers_17 : decode cX11_numbers 17 = .ok (.if_icmp .ge 34, 3) := by decide +kernel
theorem dX11_numbers_20 : decode cX11_numbers 20 = .ok (.aload_n 0, 1) := by decide +kernel
theorem dX11_numbers_21 : decode cX11_numbers 21 = .ok (.aload_n 0, 1) := by decide +kernel
theorem dX11_numbers_22 : decode cX11_numbers 22 = .ok (.getfield 213, 3) := by decide +kernel
theorem dX11_numbers_25 : decode cX11_numbers 25 = .ok (.aload_n 0, 1) := by decide +kernel
theorem dX11_numbers_26 : decode cX11_numbers 26 = .ok (.getfield 51, 3) := by decide +kernel
theorem dX11_numbers_29 : decode cX11_numbers 29 = .ok (.aload_n 0, 1) := by decide +kernel
theorem dX11_numbers_30 : decode cX11_numbers 30 = .ok (.getfield 48, 3) := by decide +kernel
theorem dX11_numbers_33 : decode cX11_numbers 33 = .ok (.iaload, 1) := by decide +kernel
theorem dX11_numbers_34 : decode cX11_numbers 34 = .ok (.imul, 1) := by decide +kernel
theorem dX11_numbers_35 : decode cX11_numbers 35 = .ok (.aload_n 0, 1) := by decide +kernel
theorem dX11_numbers_36 : decode cX11_numbers 36 = .ok (.getfield 210, 3) := by decide +kernel
theorem dX11_numbers_39 : decode cX11_numbers 39 = .ok (.iload_n 1, 1) := by decide +kernel
theorem dX11_numbers_40 : decode cX11_numbers 40 = .ok (.iaload, 1) := by decide +kernel
theorem dX11_numbers_41 : decode cX11_numbers 41 = .ok (.iadd, 1) := by decide +kernel
theorem dX11_numbers_42 : decode cX11_numbers 42 = .ok (.putfield 213, 3) := by decide +kernel
theorem dX11_numbers_45 : decode cX11_numbers 45 = .ok (.iinc 1 1, 3) := by decide +kernel
theorem dX11_numbers_48 : decode cX11_numbers 48 = .ok (.goto (-41), 3) := by decide +kernel
theorem dX11_numbers_51 : decode cX11_numbers 51 = .ok (.return_, 1) := by decide +kernel
theorem dX11_unlike_0 : decode cX11_unlike 0 = .ok (.iconst 0, 1) := by decide +kernel
theorem dX11_unlike_1 : decode cX11_unlike 1 = .ok (.istore_n 3, 1) := by decide +kernel
theorem dX11_unlike_2 : decode cX11_unlike 2 = .ok (.iconst 0, 1) := by decide +kernel
theorem dX11_unlike_3 : decode cX11_unlike 3 = .ok (.istore 4, 2) := by decide +kernel
theorem dX11_unlike_5 : decode cX11_unlike 5 = .ok (.iload 4, 2) := by decide +kernel
theorem dX11_unlike_7 : decode cX11_unlike 7 = .ok (.aload_n 0, 1) := by decide +kernel
theorem dX11_unlike_8 : decode cX11_unlike 8 = .ok (.getfield 54, 3) := by decide +kernel
theorem dX11_unlike_11 : decode cX11_unlike 11 = .ok (.aload_n 0, 1) := by decide +kernel
theorem dX11_unlike_12 : decode cX11_unlike 12 = .ok (.getfield 48, 3) := by decide +kernel
theorem dX11_unlike_15 : decode cX11_unlike 15 = .ok (.iaload, 1) := by decide +kernel
theorem dX11_unlike_16 : decode cX11_unlike 16 = .ok (.if_icmp .ge 44, 3) := by decide +kernel
theorem dX11_unlike_19 : decode cX11_unlike 19 = .ok (.iload_n 3, 1) := by decide +kernel
theorem dX11_unlike_20 : decode cX11_unlike 20 = .ok (.aload_n 0, 1) := by decide +kernel
theorem dX11_unlike_21 : decode cX11_unlike 21 = .ok (.getfield 210, 3) := by decide +kernel
theorem dX11_unlike_24 : decode cX11_unlike 24 = .ok (.iload 4, 2) := by decide +kernel
theorem dX11_unlike_26 : decode cX11_unlike 26 = .ok (.iaload, 1) := by decide +kernel
theorem dX11_unlike_27 : decode cX11_unlike 27 = .ok (.aload_n 0, 1) := by decide +kernel
theorem dX11_unlike_28 : decode cX11_unlike 28 = .ok (.getfield 174, 3) := by decide +kernel
theorem dX11_unlike_31 : decode cX11_unlike 31 = .ok (.iconst 5, 1) := by decide +kernel
theorem dX11_unlike_32 : decode cX11_unlike 32 = .ok (.sipush 1000, 3) := by decide +kernel
theorem dX11_unlike_35 : decode cX11_unlike 35 = .ok (.iload_n 1, 1) := by decide +kernel
theorem dX11_unlike_36 : decode cX11_unlike 36 = .ok (.imul, 1) := by decide +kernel
theorem dX11_unlike_37 : decode cX11_unlike 37 = .ok (.iload_n 2, 1) := by decide +kernel
theorem dX11_unlike_38 : decode cX11_unlike 38 = .ok (.iadd, 1) := by decide +kernel
theorem dX11_unlike_39 : decode cX11_unlike 39 = .ok (.imul, 1) := by decide +kernel
theorem dX11_unlike_40 : decode cX11_unlike 40 = .ok (.iload 4, 2) := by decide +kernel
theorem dX11_unlike_42 : decode cX11_unlike 42 = .ok (.iadd, 1) := by decide +kernel
theorem dX11_unlike_43 : decode cX11_unlike 43 = .ok (.iaload, 1) := by decide +kernel
theorem dX11_unlike_44 : decode cX11_unlike 44 = .ok (.if_icmp .eq 7, 3) := by decide +kernel
theorem dX11_unlike_47 : decode cX11_unlike 47 = .ok (.iconst 1, 1) := by decide +kernel
theorem dX11_unlike_48 : decode cX11_unlike 48 = .ok (.goto 4, 3) := by decide +kernel
theorem dX11_unlike_51 : decode cX11_unlike 51 = .ok (.iconst 0, 1) := by decide +kernel
theorem dX11_unlike_52 : decode cX11_unlike 52 = .ok (.iadd, 1) := by decide +kernel
theorem dX11_unlike_53 : decode cX11_unlike 53 = .ok (.istore_n 3, 1) := by decide +kernel
theorem dX11_unlike_54 : decode cX11_unlike 54 = .ok (.iinc 4 1, 3) := by decide +kernel
theorem dX11_unlike_57 : decode cX11_unlike 57 = .ok (.goto (-52), 3) := by decide +kernel
theorem dX11_unlike_60 : decode cX11_unlike 60 = .ok (.iload_n 3, 1) := by decide +kernel
theorem dX11_unlike_61 : decode cX11_unlike 61 = .ok (.ireturn, 1) := by decide +kernel
theorem dX11_isHeard_0 : decode cX11_isHeard 0 = .ok (.iload_n 2, 1) := by decide +kernel
theorem dX11_isHeard_1 : decode cX11_isHeard 1 = .ok (.invokestatic 472, 3) := by decide +kernel
theorem dX11_isHeard_4 : decode cX11_isHeard 4 = .ok (.ifCond .eq 26, 3) := by decide +kernel
theorem dX11_isHeard_7 : decode cX11_isHeard 7 = .ok (.aload_n 0, 1) := by decide +kernel
theorem dX11_isHeard_8 : decode cX11_isHeard 8 = .ok (.getfield 180, 3) := by decide +kernel
theorem dX11_isHeard_11 : decode cX11_isHeard 11 = .ok (.sipush 1000, 3) := by decide +kernel
theorem dX11_isHeard_14 : decode cX11_isHeard 14 = .ok (.iload_n 1, 1) := by decide +kernel
theorem dX11_isHeard_15 : decode cX11_isHeard 15 = .ok (.imul, 1) := by decide +kernel
theorem dX11_isHeard_16 : decode cX11_isHeard 16 = .ok (.iload_n 2, 1) := by decide +kernel
theorem dX11_isHeard_17 : decode cX11_isHeard 17 = .ok (.iadd, 1) := by decide +kernel
theorem dX11_isHeard_18 : decode cX11_isHeard 18 = .ok (.iaload, 1) := by decide +kernel
theorem dX11_isHeard_19 : decode cX11_isHeard 19 = .ok (.aload_n 0, 1) := by decide +kernel
theorem dX11_isHeard_20 : decode cX11_isHeard 20 = .ok (.getfield 213, 3) := by decide +kernel
theorem dX11_isHeard_23 : decode cX11_isHeard 23 = .ok (.if_icmp .ne 7, 3) := by decide +kernel
theorem dX11_isHeard_26 : decode cX11_isHeard 26 = .ok (.iconst 1, 1) := by decide +kernel
theorem dX11_isHeard_27 : decode cX11_isHeard 27 = .ok (.goto 4, 3) := by decide +kernel
theorem dX11_isHeard_30 : decode cX11_isHeard 30 = .ok (.iconst 0, 1) := by decide +kernel
theorem dX11_isHeard_31 : decode cX11_isHeard 31 = .ok (.ireturn, 1) := by decide +kernel
theorem dX11_opensTo_0 : decode cX11_opensTo 0 = .ok (.iconst 3, 1) := by decide +kernel
theorem dX11_opensTo_1 : decode cX11_opensTo 1 = .ok (.iload_n 1, 1) := by decide +kernel
theorem dX11_opensTo_2 : decode cX11_opensTo 2 = .ok (.imul, 1) := by decide +kernel
theorem dX11_opensTo_3 : decode cX11_opensTo 3 = .ok (.iload_n 2, 1) := by decide +kernel
theorem dX11_opensTo_4 : decode cX11_opensTo 4 = .ok (.iadd, 1) := by decide +kernel
theorem dX11_opensTo_5 : decode cX11_opensTo 5 = .ok (.istore_n 3, 1) := by decide +kernel
theorem dX11_opensTo_6 : decode cX11_opensTo 6 = .ok (.aload_n 0, 1) := by decide +kernel
theorem dX11_opensTo_7 : decode cX11_opensTo 7 = .ok (.getfield 88, 3) := by decide +kernel
theorem dX11_opensTo_10 : decode cX11_opensTo 10 = .ok (.aload_n 0, 1) := by decide +kernel
theorem dX11_opensTo_11 : decode cX11_opensTo 11 = .ok (.iload_n 1, 1) := by decide +kernel
theorem dX11_opensTo_12 : decode cX11_opensTo 12 = .ok (.invokevirtual 463, 3) := by decide +kernel
theorem dX11_opensTo_15 : decode cX11_opensTo 15 = .ok (.iaload, 1) := by decide +kernel
theorem dX11_opensTo_16 : decode cX11_opensTo 16 = .ok (.istore 4, 2) := by decide +kernel
theorem dX11_opensTo_18 : decode cX11_opensTo 18 = .ok (.aload_n 0, 1) := by decide +kernel
theorem dX11_opensTo_19 : decode cX11_opensTo 19 = .ok (.getfield 91, 3) := by decide +kernel
theorem dX11_opensTo_22 : decode cX11_opensTo 22 = .ok (.aload_n 0, 1) := by decide +kernel
theorem dX11_opensTo_23 : decode cX11_opensTo 23 = .ok (.iload_n 1, 1) := by decide +kernel
theorem dX11_opensTo_24 : decode cX11_opensTo 24 = .ok (.invokevirtual 463, 3) := by decide +kernel
theorem dX11_opensTo_27 : decode cX11_opensTo 27 = .ok (.iaload, 1) := by decide +kernel
theorem dX11_opensTo_28 : decode cX11_opensTo 28 = .ok (.istore 5, 2) := by decide +kernel
theorem dX11_opensTo_30 : decode cX11_opensTo 30 = .ok (.aload_n 0, 1) := by decide +kernel
theorem dX11_opensTo_31 : decode cX11_opensTo 31 = .ok (.getfield 94, 3) := by decide +kernel
theorem dX11_opensTo_34 : decode cX11_opensTo 34 = .ok (.aload_n 0, 1) := by decide +kernel
theorem dX11_opensTo_35 : decode cX11_opensTo 35 = .ok (.iload_n 1, 1) := by decide +kernel
theorem dX11_opensTo_36 : decode cX11_opensTo 36 = .ok (.invokevirtual 463, 3) := by decide +kernel
theorem dX11_opensTo_39 : decode cX11_opensTo 39 = .ok (.iaload, 1) := by decide +kernel
theorem dX11_opensTo_40 : decode cX11_opensTo 40 = .ok (.istore 6, 2) := by decide +kernel
theorem dX11_opensTo_42 : decode cX11_opensTo 42 = .ok (.aload_n 0, 1) := by decide +kernel
theorem dX11_opensTo_43 : decode cX11_opensTo 43 = .ok (.getfield 192, 3) := by decide +kernel
theorem dX11_opensTo_46 : decode cX11_opensTo 46 = .ok (.iload_n 3, 1) := by decide +kernel
theorem dX11_opensTo_47 : decode cX11_opensTo 47 = .ok (.iaload, 1) := by decide +kernel
theorem dX11_opensTo_48 : decode cX11_opensTo 48 = .ok (.istore 7, 2) := by decide +kernel
theorem dX11_opensTo_50 : decode cX11_opensTo 50 = .ok (.iload 4, 2) := by decide +kernel
theorem dX11_opensTo_52 : decode cX11_opensTo 52 = .ok (.ifCond .eq 9, 3) := by decide +kernel
theorem dX11_opensTo_55 : decode cX11_opensTo 55 = .ok (.iload 4, 2) := by decide +kernel
theorem dX11_opensTo_57 : decode cX11_opensTo 57 = .ok (.iconst 2, 1) := by decide +kernel
theorem dX11_opensTo_58 : decode cX11_opensTo 58 = .ok (.if_icmp .ne 7, 3) := by decide +kernel
theorem dX11_opensTo_61 : decode cX11_opensTo 61 = .ok (.iconst 0, 1) := by decide +kernel
theorem dX11_opensTo_62 : decode cX11_opensTo 62 = .ok (.goto 27, 3) := by decide +kernel
theorem dX11_opensTo_65 : decode cX11_opensTo 65 = .ok (.iload 4, 2) := by decide +kernel
theorem dX11_opensTo_67 : decode cX11_opensTo 67 = .ok (.iconst 4, 1) := by decide +kernel
theorem dX11_opensTo_68 : decode cX11_opensTo 68 = .ok (.if_icmp .ne 19, 3) := by decide +kernel
theorem dX11_opensTo_71 : decode cX11_opensTo 71 = .ok (.aload_n 0, 1) := by decide +kernel
theorem dX11_opensTo_72 : decode cX11_opensTo 72 = .ok (.getfield 198, 3) := by decide +kernel
theorem dX11_opensTo_75 : decode cX11_opensTo 75 = .ok (.iload_n 3, 1) := by decide +kernel
theorem dX11_opensTo_76 : decode cX11_opensTo 76 = .ok (.iaload, 1) := by decide +kernel
theorem dX11_opensTo_77 : decode cX11_opensTo 77 = .ok (.iload 6, 2) := by decide +kernel
theorem dX11_opensTo_79 : decode cX11_opensTo 79 = .ok (.if_icmp .lt 8, 3) := by decide +kernel
theorem dX11_opensTo_82 : decode cX11_opensTo 82 = .ok (.bipush 40, 2) := by decide +kernel
theorem dX11_opensTo_84 : decode cX11_opensTo 84 = .ok (.goto 5, 3) := by decide +kernel
theorem dX11_opensTo_87 : decode cX11_opensTo 87 = .ok (.iload 5, 2) := by decide +kernel
theorem dX11_opensTo_89 : decode cX11_opensTo 89 = .ok (.istore 8, 2) := by decide +kernel
theorem dX11_opensTo_91 : decode cX11_opensTo 91 = .ok (.iload 7, 2) := by decide +kernel
theorem dX11_opensTo_93 : decode cX11_opensTo 93 = .ok (.istore 9, 2) := by decide +kernel
theorem dX11_opensTo_95 : decode cX11_opensTo 95 = .ok (.iload 9, 2) := by decide +kernel
theorem dX11_opensTo_97 : decode cX11_opensTo 97 = .ok (.iload 7, 2) := by decide +kernel
theorem dX11_opensTo_99 : decode cX11_opensTo 99 = .ok (.iload 8, 2) := by decide +kernel
theorem dX11_opensTo_101 : decode cX11_opensTo 101 = .ok (.iadd, 1) := by decide +kernel
theorem dX11_opensTo_102 : decode cX11_opensTo 102 = .ok (.if_icmp .gt 53, 3) := by decide +kernel
theorem dX11_opensTo_105 : decode cX11_opensTo 105 = .ok (.iload 9, 2) := by decide +kernel
theorem dX11_opensTo_107 : decode cX11_opensTo 107 = .ok (.sipush 1000, 3) := by decide +kernel
theorem dX11_opensTo_110 : decode cX11_opensTo 110 = .ok (.if_icmp .ge 45, 3) := by decide +kernel
theorem dX11_opensTo_113 : decode cX11_opensTo 113 = .ok (.iload 4, 2) := by decide +kernel
theorem dX11_opensTo_115 : decode cX11_opensTo 115 = .ok (.iconst 3, 1) := by decide +kernel
theorem dX11_opensTo_116 : decode cX11_opensTo 116 = .ok (.if_icmp .ne 18, 3) := by decide +kernel
theorem dX11_opensTo_119 : decode cX11_opensTo 119 = .ok (.aload_n 0, 1) := by decide +kernel
theorem dX11_opensTo_120 : decode cX11_opensTo 120 = .ok (.iload_n 2, 1) := by decide +kernel
theorem dX11_opensTo_121 : decode cX11_opensTo 121 = .ok (.iload 9, 2) := by decide +kernel
theorem dX11_opensTo_123 : decode cX11_opensTo 123 = .ok (.invokevirtual 475, 3) := by decide +kernel
theorem dX11_opensTo_126 : decode cX11_opensTo 126 = .ok (.iload 6, 2) := by decide +kernel
theorem dX11_opensTo_128 : decode cX11_opensTo 128 = .ok (.if_icmp .gt 21, 3) := by decide +kernel
theorem dX11_opensTo_131 : decode cX11_opensTo 131 = .ok (.goto 13, 3) := by decide +kernel
theorem dX11_opensTo_134 : decode cX11_opensTo 134 = .ok (.aload_n 0, 1) := by decide +kernel
theorem dX11_opensTo_135 : decode cX11_opensTo 135 = .ok (.iload_n 2, 1) := by decide +kernel
theorem dX11_opensTo_136 : decode cX11_opensTo 136 = .ok (.iload 9, 2) := by decide +kernel
theorem dX11_opensTo_138 : decode cX11_opensTo 138 = .ok (.invokevirtual 478, 3) := by decide +kernel
theorem dX11_opensTo_141 : decode cX11_opensTo 141 = .ok (.ifCond .eq 8, 3) := by decide +kernel
theorem dX11_opensTo_144 : decode cX11_opensTo 144 = .ok (.iload 9, 2) := by decide +kernel
theorem dX11_opensTo_146 : decode cX11_opensTo 146 = .ok (.iconst 1, 1) := by decide +kernel
theorem dX11_opensTo_147 : decode cX11_opensTo 147 = .ok (.iadd, 1) := by decide +kernel
theorem dX11_opensTo_148 : decode cX11_opensTo 148 = .ok (.ireturn, 1) := by decide +kernel
theorem dX11_opensTo_149 : decode cX11_opensTo 149 = .ok (.iinc 9 1, 3) := by decide +kernel
theorem dX11_opensTo_152 : decode cX11_opensTo 152 = .ok (.goto (-57), 3) := by decide +kernel
theorem dX11_opensTo_155 : decode cX11_opensTo 155 = .ok (.iload 4, 2) := by decide +kernel
theorem dX11_opensTo_157 : decode cX11_opensTo 157 = .ok (.iconst 1, 1) := by decide +kernel
theorem dX11_opensTo_158 : decode cX11_opensTo 158 = .ok (.if_icmp .ne 38, 3) := by decide +kernel
theorem dX11_opensTo_161 : decode cX11_opensTo 161 = .ok (.iload 7, 2) := by decide +kernel
theorem dX11_opensTo_163 : decode cX11_opensTo 163 = .ok (.iconst 1, 1) := by decide +kernel
theorem dX11_opensTo_164 : decode cX11_opensTo 164 = .ok (.isub, 1) := by decide +kernel
theorem dX11_opensTo_165 : decode cX11_opensTo 165 = .ok (.istore 9, 2) := by decide +kernel
theorem dX11_opensTo_167 : decode cX11_opensTo 167 = .ok (.iload 9, 2) := by decide +kernel
theorem dX11_opensTo_169 : decode cX11_opensTo 169 = .ok (.iload 7, 2) := by decide +kernel
