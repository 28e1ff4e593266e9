theorem dX7_countByLip_42 : decode cX7_countByLip 42 = .ok (.iadd, 1) := by decide +kernel
theorem dX7_countByLip_43 : decode cX7_countByLip 43 = .ok (.sipush 999, 3) := by decide +kernel
theorem dX7_countByLip_46 : decode cX7_countByLip 46 = .ok (.invokestatic 56, 3) := by decide +kernel
theorem dX7_countByLip_49 : decode cX7_countByLip 49 = .ok (.istore 4, 2) := by decide +kernel
theorem dX7_countByLip_51 : decode cX7_countByLip 51 = .ok (.aload_n 1, 1) := by decide +kernel
theorem dX7_countByLip_52 : decode cX7_countByLip 52 = .ok (.getfield 42, 3) := by decide +kernel
theorem dX7_countByLip_55 : decode cX7_countByLip 55 = .ok (.iload_n 3, 1) := by decide +kernel
theorem dX7_countByLip_56 : decode cX7_countByLip 56 = .ok (.iaload, 1) := by decide +kernel
theorem dX7_countByLip_57 : decode cX7_countByLip 57 = .ok (.istore 5, 2) := by decide +kernel
theorem dX7_countByLip_59 : decode cX7_countByLip 59 = .ok (.iload 5, 2) := by decide +kernel
theorem dX7_countByLip_61 : decode cX7_countByLip 61 = .ok (.iload 4, 2) := by decide +kernel
theorem dX7_countByLip_63 : decode cX7_countByLip 63 = .ok (.if_icmp .gt 46, 3) := by decide +kernel
theorem dX7_countByLip_66 : decode cX7_countByLip 66 = .ok (.aload_n 1, 1) := by decide +kernel
theorem dX7_countByLip_67 : decode cX7_countByLip 67 = .ok (.iload_n 3, 1) := by decide +kernel
theorem dX7_countByLip_68 : decode cX7_countByLip 68 = .ok (.invokevirtual 35, 3) := by decide +kernel
theorem dX7_countByLip_71 : decode cX7_countByLip 71 = .ok (.ifCond .eq 38, 3) := by decide +kernel
theorem dX7_countByLip_74 : decode cX7_countByLip 74 = .ok (.aload_n 0, 1) := by decide +kernel
theorem dX7_countByLip_75 : decode cX7_countByLip 75 = .ok (.getfield 22, 3) := by decide +kernel
theorem dX7_countByLip_78 : decode cX7_countByLip 78 = .ok (.iload_n 3, 1) := by decide +kernel
theorem dX7_countByLip_79 : decode cX7_countByLip 79 = .ok (.iload 5, 2) := by decide +kernel
theorem dX7_countByLip_81 : decode cX7_countByLip 81 = .ok (.invokevirtual 65, 3) := by decide +kernel
theorem dX7_countByLip_84 : decode cX7_countByLip 84 = .ok (.istore 6, 2) := by decide +kernel
theorem dX7_countByLip_86 : decode cX7_countByLip 86 = .ok (.aload_n 0, 1) := by decide +kernel
theorem dX7_countByLip_87 : decode cX7_countByLip 87 = .ok (.iload 6, 2) := by decide +kernel
theorem dX7_countByLip_89 : decode cX7_countByLip 89 = .ok (.invokevirtual 70, 3) := by decide +kernel
theorem dX7_countByLip_92 : decode cX7_countByLip 92 = .ok (.ifCond .eq 11, 3) := by decide +kernel
theorem dX7_countByLip_95 : decode cX7_countByLip 95 = .ok (.aload_n 0, 1) := by decide +kernel
theorem dX7_countByLip_96 : decode cX7_countByLip 96 = .ok (.getfield 9, 3) := by decide +kernel
theorem dX7_countByLip_99 : decode cX7_countByLip 99 = .ok (.iload 6, 2) := by decide +kernel
theorem dX7_countByLip_101 : decode cX7_countByLip 101 = .ok (.iconst 0, 1) := by decide +kernel
theorem dX7_countByLip_102 : decode cX7_countByLip 102 = .ok (.iastore, 1) := by decide +kernel
theorem dX7_countByLip_103 : decode cX7_countByLip 103 = .ok (.iinc 5 1, 3) := by decide +kernel
theorem dX7_countByLip_106 : decode cX7_countByLip 106 = .ok (.goto (-47), 3) := by decide +kernel
theorem dX7_countByLip_109 : decode cX7_countByLip 109 = .ok (.iinc 3 1, 3) := by decide +kernel
theorem dX7_countByLip_112 : decode cX7_countByLip 112 = .ok (.goto (-85), 3) := by decide +kernel
theorem dX7_countByLip_115 : decode cX7_countByLip 115 = .ok (.iconst 1, 1) := by decide +kernel
theorem dX7_countByLip_116 : decode cX7_countByLip 116 = .ok (.istore_n 3, 1) := by decide +kernel
theorem dX7_countByLip_117 : decode cX7_countByLip 117 = .ok (.iconst 0, 1) := by decide +kernel
theorem dX7_countByLip_118 : decode cX7_countByLip 118 = .ok (.istore 4, 2) := by decide +kernel
theorem dX7_countByLip_120 : decode cX7_countByLip 120 = .ok (.iload 4, 2) := by decide +kernel
theorem dX7_countByLip_122 : decode cX7_countByLip 122 = .ok (.aload_n 0, 1) := by decide +kernel
theorem dX7_countByLip_123 : decode cX7_countByLip 123 = .ok (.getfield 22, 3) := by decide +kernel
theorem dX7_countByLip_126 : decode cX7_countByLip 126 = .ok (.getfield 85, 3) := by decide +kernel
theorem dX7_countByLip_129 : decode cX7_countByLip 129 = .ok (.if_icmp .ge 25, 3) := by decide +kernel
theorem dX7_countByLip_132 : decode cX7_countByLip 132 = .ok (.aload_n 0, 1) := by decide +kernel
theorem dX7_countByLip_133 : decode cX7_countByLip 133 = .ok (.iload_n 3, 1) := by decide +kernel
theorem dX7_countByLip_134 : decode cX7_countByLip 134 = .ok (.iload_n 2, 1) := by decide +kernel
theorem dX7_countByLip_135 : decode cX7_countByLip 135 = .ok (.invokevirtual 88, 3) := by decide +kernel
theorem dX7_countByLip_138 : decode cX7_countByLip 138 = .ok (.iload_n 3, 1) := by decide +kernel
theorem dX7_countByLip_139 : decode cX7_countByLip 139 = .ok (.aload_n 0, 1) := by decide +kernel
theorem dX7_countByLip_140 : decode cX7_countByLip 140 = .ok (.getfield 22, 3) := by decide +kernel
theorem dX7_countByLip_143 : decode cX7_countByLip 143 = .ok (.getfield 92, 3) := by decide +kernel
theorem dX7_countByLip_146 : decode cX7_countByLip 146 = .ok (.imul, 1) := by decide +kernel
theorem dX7_countByLip_147 : decode cX7_countByLip 147 = .ok (.istore_n 3, 1) := by decide +kernel
theorem dX7_countByLip_148 : decode cX7_countByLip 148 = .ok (.iinc 4 1, 3) := by decide +kernel
theorem dX7_countByLip_151 : decode cX7_countByLip 151 = .ok (.goto (-31), 3) := by decide +kernel
theorem dX7_countByLip_154 : decode cX7_countByLip 154 = .ok (.iconst 0, 1) := by decide +kernel
theorem dX7_countByLip_155 : decode cX7_countByLip 155 = .ok (.istore 4, 2) := by decide +kernel
theorem dX7_countByLip_157 : decode cX7_countByLip 157 = .ok (.iconst 0, 1) := by decide +kernel
theorem dX7_countByLip_158 : decode cX7_countByLip 158 = .ok (.istore 5, 2) := by decide +kernel
theorem dX7_countByLip_160 : decode cX7_countByLip 160 = .ok (.iload 5, 2) := by decide +kernel
theorem dX7_countByLip_162 : decode cX7_countByLip 162 = .ok (.iload_n 2, 1) := by decide +kernel
theorem dX7_countByLip_163 : decode cX7_countByLip 163 = .ok (.if_icmp .ge 26, 3) := by decide +kernel
theorem dX7_countByLip_166 : decode cX7_countByLip 166 = .ok (.aload_n 0, 1) := by decide +kernel
theorem dX7_countByLip_167 : decode cX7_countByLip 167 = .ok (.getfield 9, 3) := by decide +kernel
theorem dX7_countByLip_170 : decode cX7_countByLip 170 = .ok (.iload 5, 2) := by decide +kernel
theorem dX7_countByLip_172 : decode cX7_countByLip 172 = .ok (.iaload, 1) := by decide +kernel
theorem dX7_countByLip_173 : decode cX7_countByLip 173 = .ok (.aload_n 1, 1) := by decide +kernel
theorem dX7_countByLip_174 : decode cX7_countByLip 174 = .ok (.getfield 39, 3) := by decide +kernel
theorem dX7_countByLip_177 : decode cX7_countByLip 177 = .ok (.if_icmp .gt 6, 3) := by decide +kernel
theorem dX7_countByLip_180 : decode cX7_countByLip 180 = .ok (.iinc 4 1, 3) := by decide +kernel
theorem dX7_countByLip_183 : decode cX7_countByLip 183 = .ok (.iinc 5 1, 3) := by decide +kernel
theorem dX7_countByLip_186 : decode cX7_countByLip 186 = .ok (.goto (-26), 3) := by decide +kernel
theorem dX7_countByLip_189 : decode cX7_countByLip 189 = .ok (.iload 4, 2) := by decide +kernel
theorem dX7_countByLip_191 : decode cX7_countByLip 191 = .ok (.ireturn, 1) := by decide +kernel
theorem dX7_spread_0 : decode cX7_spread 0 = .ok (.iload_n 1, 1) := by decide +kernel
theorem dX7_spread_1 : decode cX7_spread 1 = .ok (.aload_n 0, 1) := by decide +kernel
theorem dX7_spread_2 : decode cX7_spread 2 = .ok (.getfield 22, 3) := by decide +kernel
theorem dX7_spread_5 : decode cX7_spread 5 = .ok (.getfield 92, 3) := by decide +kernel
theorem dX7_spread_8 : decode cX7_spread 8 = .ok (.imul, 1) := by decide +kernel
theorem dX7_spread_9 : decode cX7_spread 9 = .ok (.istore_n 3, 1) := by decide +kernel
theorem dX7_spread_10 : decode cX7_spread 10 = .ok (.iconst 0, 1) := by decide +kernel
theorem dX7_spread_11 : decode cX7_spread 11 = .ok (.istore 4, 2) := by decide +kernel
theorem dX7_spread_13 : decode cX7_spread 13 = .ok (.iload 4, 2) := by decide +kernel
theorem dX7_spread_15 : decode cX7_spread 15 = .ok (.iload_n 2, 1) := by decide +kernel
theorem dX7_spread_16 : decode cX7_spread 16 = .ok (.if_icmp .ge 42, 3) := by decide +kernel
theorem dX7_spread_19 : decode cX7_spread 19 = .ok (.iload_n 3, 1) := by decide +kernel
theorem dX7_spread_20 : decode cX7_spread 20 = .ok (.ifCond .le 38, 3) := by decide +kernel
theorem dX7_spread_23 : decode cX7_spread 23 = .ok (.iload 4, 2) := by decide +kernel
theorem dX7_spread_25 : decode cX7_spread 25 = .ok (.istore 5, 2) := by decide +kernel
theorem dX7_spread_27 : decode cX7_spread 27 = .ok (.iload 5, 2) := by decide +kernel
theorem dX7_spread_29 : decode cX7_spread 29 = .ok (.iload 4, 2) := by decide +kernel
theorem dX7_spread_31 : decode cX7_spread 31 = .ok (.iload_n 1, 1) := by decide +kernel
theorem dX7_spread_32 : decode cX7_spread 32 = .ok (.iadd, 1) := by decide +kernel
theorem dX7_spread_33 : decode cX7_spread 33 = .ok (.if_icmp .ge 16, 3) := by decide +kernel
theorem dX7_spread_36 : decode cX7_spread 36 = .ok (.aload_n 0, 1) := by decide +kernel
theorem dX7_spread_37 : decode cX7_spread 37 = .ok (.iload 5, 2) := by decide +kernel
theorem dX7_spread_39 : decode cX7_spread 39 = .ok (.iload_n 1, 1) := by decide +kernel
theorem dX7_spread_40 : decode cX7_spread 40 = .ok (.invokevirtual 95, 3) := by decide +kernel
theorem dX7_spread_43 : decode cX7_spread 43 = .ok (.iinc 5 1, 3) := by decide +kernel
theorem dX7_spread_46 : decode cX7_spread 46 = .ok (.goto (-19), 3) := by decide +kernel
theorem dX7_spread_49 : decode cX7_spread 49 = .ok (.iload 4, 2) := by decide +kernel
theorem dX7_spread_51 : decode cX7_spread 51 = .ok (.iload_n 3, 1) := by decide +kernel
theorem dX7_spread_52 : decode cX7_spread 52 = .ok (.iadd, 1) := by decide +kernel
theorem dX7_spread_53 : decode cX7_spread 53 = .ok (.istore 4, 2) := by decide +kernel
theorem dX7_spread_55 : decode cX7_spread 55 = .ok (.goto (-42), 3) := by decide +kernel
theorem dX7_spread_58 : decode cX7_spread 58 = .ok (.return_, 1) := by decide +kernel
theorem dX7_spreadLine_0 : decode cX7_spreadLine 0 = .ok (.bipush 6, 2) := by decide +kernel
theorem dX7_spreadLine_2 : decode cX7_spreadLine 2 = .ok (.istore_n 3, 1) := by decide +kernel
theorem dX7_spreadLine_3 : decode cX7_spreadLine 3 = .ok (.iconst 0, 1) := by decide +kernel
theorem dX7_spreadLine_4 : decode cX7_spreadLine 4 = .ok (.istore 4, 2) := by decide +kernel
theorem dX7_spreadLine_6 : decode cX7_spreadLine 6 = .ok (.iload_n 1, 1) := by decide +kernel
theorem dX7_spreadLine_7 : decode cX7_spreadLine 7 = .ok (.istore 5, 2) := by decide +kernel
theorem dX7_spreadLine_9 : decode cX7_spreadLine 9 = .ok (.iload 4, 2) := by decide +kernel
theorem dX7_spreadLine_11 : decode cX7_spreadLine 11 = .ok (.aload_n 0, 1) := by decide +kernel
theorem dX7_spreadLine_12 : decode cX7_spreadLine 12 = .ok (.getfield 22, 3) := by decide +kernel
theorem dX7_spreadLine_15 : decode cX7_spreadLine 15 = .ok (.getfield 92, 3) := by decide +kernel
theorem dX7_spreadLine_18 : decode cX7_spreadLine 18 = .ok (.if_icmp .ge 35, 3) := by decide +kernel
theorem dX7_spreadLine_21 : decode cX7_spreadLine 21 = .ok (.iload 5, 2) := by decide +kernel
theorem dX7_spreadLine_23 : decode cX7_spreadLine 23 = .ok (.sipush 7776, 3) := by decide +kernel
theorem dX7_spreadLine_26 : decode cX7_spreadLine 26 = .ok (.if_icmp .ge 27, 3) := by decide +kernel
theorem dX7_spreadLine_29 : decode cX7_spreadLine 29 = .ok (.iload_n 3, 1) := by decide +kernel
theorem dX7_spreadLine_30 : decode cX7_spreadLine 30 = .ok (.aload_n 0, 1) := by decide +kernel
theorem dX7_spreadLine_31 : decode cX7_spreadLine 31 = .ok (.getfield 9, 3) := by decide +kernel
theorem dX7_spreadLine_34 : decode cX7_spreadLine 34 = .ok (.iload 5, 2) := by decide +kernel
theorem dX7_spreadLine_36 : decode cX7_spreadLine 36 = .ok (.iaload, 1) := by decide +kernel
theorem dX7_spreadLine_37 : decode cX7_spreadLine 37 = .ok (.invokestatic 56, 3) := by decide +kernel
theorem dX7_spreadLine_40 : decode cX7_spreadLine 40 = .ok (.istore_n 3, 1) := by decide +kernel
theorem dX7_spreadLine_41 : decode cX7_spreadLine 41 = .ok (.iinc 4 1, 3) := by decide +kernel
theorem dX7_spreadLine_44 : decode cX7_spreadLine 44 = .ok (.iload 5, 2) := by decide +kernel
theorem dX7_spreadLine_46 : decode cX7_spreadLine 46 = .ok (.iload_n 2, 1) := by decide +kernel
theorem dX7_spreadLine_47 : decode cX7_spreadLine 47 = .ok (.iadd, 1) := by decide +kernel
theorem dX7_spreadLine_48 : decode cX7_spreadLine 48 = .ok (.istore 5, 2) := by decide +kernel
theorem dX7_spreadLine_50 : decode cX7_spreadLine 50 = .ok (.goto (-41), 3) := by decide +kernel
theorem dX7_spreadLine_53 : decode cX7_spreadLine 53 = .ok (.iconst 0, 1) := by decide +kernel
theorem dX7_spreadLine_54 : decode cX7_spreadLine 54 = .ok (.istore 4, 2) := by decide +kernel
theorem dX7_spreadLine_56 : decode cX7_spreadLine 56 = .ok (.iload_n 1, 1) := by decide +kernel
theorem dX7_spreadLine_57 : decode cX7_spreadLine 57 = .ok (.istore 5, 2) := by decide +kernel
theorem dX7_spreadLine_59 : decode cX7_spreadLine 59 = .ok (.iload 4, 2) := by decide +kernel
theorem dX7_spreadLine_61 : decode cX7_spreadLine 61 = .ok (.aload_n 0, 1) := by decide +kernel
theorem dX7_spreadLine_62 : decode cX7_spreadLine 62 = .ok (.getfield 22, 3) := by decide +kernel
theorem dX7_spreadLine_65 : decode cX7_spreadLine 65 = .ok (.getfield 92, 3) := by decide +kernel
theorem dX7_spreadLine_68 : decode cX7_spreadLine 68 = .ok (.if_icmp .ge 43, 3) := by decide +kernel
theorem dX7_spreadLine_71 : decode cX7_spreadLine 71 = .ok (.iload 5, 2) := by decide +kernel
theorem dX7_spreadLine_73 : decode cX7_spreadLine 73 = .ok (.sipush 7776, 3) := by decide +kernel
theorem dX7_spreadLine_76 : decode cX7_spreadLine 76 = .ok (.if_icmp .ge 35, 3) := by decide +kernel
theorem dX7_spreadLine_79 : decode cX7_spreadLine 79 = .ok (.aload_n 0, 1) := by decide +kernel
theorem dX7_spreadLine_80 : decode cX7_spreadLine 80 = .ok (.getfield 9, 3) := by decide +kernel
theorem dX7_spreadLine_83 : decode cX7_spreadLine 83 = .ok (.iload 5, 2) := by decide +kernel
theorem dX7_spreadLine_85 : decode cX7_spreadLine 85 = .ok (.aload_n 0, 1) := by decide +kernel
theorem dX7_spreadLine_86 : decode cX7_spreadLine 86 = .ok (.getfield 9, 3) := by decide +kernel
theorem dX7_spreadLine_89 : decode cX7_spreadLine 89 = .ok (.iload 5, 2) := by decide +kernel
theorem dX7_spreadLine_91 : decode cX7_spreadLine 91 = .ok (.iaload, 1) := by decide +kernel
theorem dX7_spreadLine_92 : decode cX7_spreadLine 92 = .ok (.iload_n 3, 1) := by decide +kernel
theorem dX7_spreadLine_93 : decode cX7_spreadLine 93 = .ok (.iconst 1, 1) := by decide +kernel
theorem dX7_spreadLine_94 : decode cX7_spreadLine 94 = .ok (.iadd, 1) := by decide +kernel
theorem dX7_spreadLine_95 : decode cX7_spreadLine 95 = .ok (.invokestatic 56, 3) := by decide +kernel
theorem dX7_spreadLine_98 : decode cX7_spreadLine 98 = .ok (.iastore, 1) := by decide +kernel
theorem dX7_spreadLine_99 : decode cX7_spreadLine 99 = .ok (.iinc 4 1, 3) := by decide +kernel
theorem dX7_spreadLine_102 : decode cX7_spreadLine 102 = .ok (.iload 5, 2) := by decide +kernel
theorem dX7_spreadLine_104 : decode cX7_spreadLine 104 = .ok (.iload_n 2, 1) := by decide +kernel
theorem dX7_spreadLine_105 : decode cX7_spreadLine 105 = .ok (.iadd, 1) := by decide +kernel
theorem dX7_spreadLine_106 : decode cX7_spreadLine 106 = .ok (.istore 5, 2) := by decide +kernel
theorem dX7_spreadLine_108 : decode cX7_spreadLine 108 = .ok (.goto (-49), 3) := by decide +kernel
theorem dX7_spreadLine_111 : decode cX7_spreadLine 111 = .ok (.return_, 1) := by decide +kernel
theorem dX7_leastApart_0 : decode cX7_leastApart 0 = .ok (.iconst 0, 1) := by decide +kernel
theorem dX7_leastApart_1 : decode cX7_leastApart 1 = .ok (.istore_n 2, 1) := by decide +kernel
theorem dX7_leastApart_2 : decode cX7_leastApart 2 = .ok (.iconst 0, 1) := by decide +kernel
theorem dX7_leastApart_3 : decode cX7_leastApart 3 = .ok (.istore_n 3, 1) := by decide +kernel
theorem dX7_leastApart_4 : decode cX7_leastApart 4 = .ok (.iload_n 3, 1) := by decide +kernel
theorem dX7_leastApart_5 : decode cX7_leastApart 5 = .ok (.iconst 3, 1) := by decide +kernel
theorem dX7_leastApart_6 : decode cX7_leastApart 6 = .ok (.if_icmp .ge 85, 3) := by decide +kernel
theorem dX7_leastApart_9 : decode cX7_leastApart 9 = .ok (.aload_n 1, 1) := by decide +kernel
theorem dX7_leastApart_10 : decode cX7_leastApart 10 = .ok (.getfield 42, 3) := by decide +kernel
theorem dX7_leastApart_13 : decode cX7_leastApart 13 = .ok (.iload_n 3, 1) := by decide +kernel
theorem dX7_leastApart_14 : decode cX7_leastApart 14 = .ok (.iaload, 1) := by decide +kernel
theorem dX7_leastApart_15 : decode cX7_leastApart 15 = .ok (.aload_n 1, 1) := by decide +kernel
theorem dX7_leastApart_16 : decode cX7_leastApart 16 = .ok (.getfield 82, 3) := by decide +kernel
theorem dX7_leastApart_19 : decode cX7_leastApart 19 = .ok (.iadd, 1) := by decide +kernel
theorem dX7_leastApart_20 : decode cX7_leastApart 20 = .ok (.sipush 999, 3) := by decide +kernel
theorem dX7_leastApart_23 : decode cX7_leastApart 23 = .ok (.invokestatic 56, 3) := by decide +kernel
theorem dX7_leastApart_26 : decode cX7_leastApart 26 = .ok (.istore 4, 2) := by decide +kernel
theorem dX7_leastApart_28 : decode cX7_leastApart 28 = .ok (.aload_n 1, 1) := by decide +kernel
theorem dX7_leastApart_29 : decode cX7_leastApart 29 = .ok (.getfield 42, 3) := by decide +kernel
theorem dX7_leastApart_32 : decode cX7_leastApart 32 = .ok (.iload_n 3, 1) := by decide +kernel
theorem dX7_leastApart_33 : decode cX7_leastApart 33 = .ok (.iaload, 1) := by decide +kernel
theorem dX7_leastApart_34 : decode cX7_leastApart 34 = .ok (.istore 5, 2) := by decide +kernel
theorem dX7_leastApart_36 : decode cX7_leastApart 36 = .ok (.iload 5, 2) := by decide +kernel
theorem dX7_leastApart_38 : decode cX7_leastApart 38 = .ok (.iload 4, 2) := by decide +kernel
theorem dX7_leastApart_40 : decode cX7_leastApart 40 = .ok (.if_icmp .gt 45, 3) := by decide +kernel
theorem dX7_leastApart_43 : decode cX7_leastApart 43 = .ok (.aload_n 1, 1) := by decide +kernel
theorem dX7_leastApart_44 : decode cX7_leastApart 44 = .ok (.iload_n 3, 1) := by decide +kernel
theorem dX7_leastApart_45 : decode cX7_leastApart 45 = .ok (.invokevirtual 35, 3) := by decide +kernel
theorem dX7_leastApart_48 : decode cX7_leastApart 48 = .ok (.ifCond .eq 37, 3) := by decide +kernel
theorem dX7_leastApart_51 : decode cX7_leastApart 51 = .ok (.iload_n 2, 1) := by decide +kernel
theorem dX7_leastApart_52 : decode cX7_leastApart 52 = .ok (.aload_n 0, 1) := by decide +kernel
theorem dX7_leastApart_53 : decode cX7_leastApart 53 = .ok (.getfield 19, 3) := by decide +kernel
theorem dX7_leastApart_56 : decode cX7_leastApart 56 = .ok (.arraylength, 1) := by decide +kernel
theorem dX7_leastApart_57 : decode cX7_leastApart 57 = .ok (.if_icmp .ge 28, 3) := by decide +kernel
theorem dX7_leastApart_60 : decode cX7_leastApart 60 = .ok (.aload_n 0, 1) := by decide +kernel
theorem dX7_leastApart_61 : decode cX7_leastApart 61 = .ok (.getfield 19, 3) := by decide +kernel
theorem dX7_leastApart_64 : decode cX7_leastApart 64 = .ok (.iload_n 2, 1) := by decide +kernel
theorem dX7_leastApart_65 : decode cX7_leastApart 65 = .ok (.aload_n 0, 1) := by decide +kernel
theorem dX7_leastApart_66 : decode cX7_leastApart 66 = .ok (.getfield 22, 3) := by decide +kernel
theorem dX7_leastApart_69 : decode cX7_leastApart 69 = .ok (.iload_n 3, 1) := by decide +kernel
theorem dX7_leastApart_70 : decode cX7_leastApart 70 = .ok (.iload 5, 2) := by decide +kernel
theorem dX7_leastApart_72 : decode cX7_leastApart 72 = .ok (.invokevirtual 98, 3) := by decide +kernel
theorem dX7_leastApart_75 : decode cX7_leastApart 75 = .ok (.iastore, 1) := by decide +kernel
theorem dX7_leastApart_76 : decode cX7_leastApart 76 = .ok (.iinc 2 1, 3) := by decide +kernel
theorem dX7_leastApart_79 : decode cX7_leastApart 79 = .ok (.iinc 5 1, 3) := by decide +kernel
theorem dX7_leastApart_82 : decode cX7_leastApart 82 = .ok (.goto (-46), 3) := by decide +kernel
theorem dX7_leastApart_85 : decode cX7_leastApart 85 = .ok (.iinc 3 1, 3) := by decide +kernel
theorem dX7_leastApart_88 : decode cX7_leastApart 88 = .ok (.goto (-84), 3) := by decide +kernel
theorem dX7_leastApart_91 : decode cX7_leastApart 91 = .ok (.bipush 6, 2) := by decide +kernel
theorem dX7_leastApart_93 : decode cX7_leastApart 93 = .ok (.istore_n 3, 1) := by decide +kernel
theorem dX7_leastApart_94 : decode cX7_leastApart 94 = .ok (.iconst 1, 1) := by decide +kernel
theorem dX7_leastApart_95 : decode cX7_leastApart 95 = .ok (.istore 4, 2) := by decide +kernel
theorem dX7_leastApart_97 : decode cX7_leastApart 97 = .ok (.iload 4, 2) := by decide +kernel
theorem dX7_leastApart_99 : decode cX7_leastApart 99 = .ok (.iload_n 2, 1) := by decide +kernel
theorem dX7_leastApart_100 : decode cX7_leastApart 100 = .ok (.if_icmp .ge 65, 3) := by decide +kernel
theorem dX7_leastApart_103 : decode cX7_leastApart 103 = .ok (.iload_n 3, 1) := by decide +kernel
theorem dX7_leastApart_104 : decode cX7_leastApart 104 = .ok (.iconst 1, 1) := by decide +kernel
theorem dX7_leastApart_105 : decode cX7_leastApart 105 = .ok (.if_icmp .le 60, 3) := by decide +kernel
theorem dX7_leastApart_108 : decode cX7_leastApart 108 = .ok (.iconst 0, 1) := by decide +kernel
theorem dX7_leastApart_109 : decode cX7_leastApart 109 = .ok (.istore 5, 2) := by decide +kernel
theorem dX7_leastApart_111 : decode cX7_leastApart 111 = .ok (.iload 5, 2) := by decide +kernel
theorem dX7_leastApart_113 : decode cX7_leastApart 113 = .ok (.iload 4, 2) := by decide +kernel
theorem dX7_leastApart_115 : decode cX7_leastApart 115 = .ok (.if_icmp .ge 44, 3) := by decide +kernel
theorem dX7_leastApart_118 : decode cX7_leastApart 118 = .ok (.aload_n 0, 1) := by decide +kernel
theorem dX7_leastApart_119 : decode cX7_leastApart 119 = .ok (.getfield 19, 3) := by decide +kernel
theorem dX7_leastApart_122 : decode cX7_leastApart 122 = .ok (.iload 4, 2) := by decide +kernel
theorem dX7_leastApart_124 : decode cX7_leastApart 124 = .ok (.iaload, 1) := by decide +kernel
theorem dX7_leastApart_125 : decode cX7_leastApart 125 = .ok (.aload_n 0, 1) := by decide +kernel
theorem dX7_leastApart_126 : decode cX7_leastApart 126 = .ok (.getfield 19, 3) := by decide +kernel
theorem dX7_leastApart_129 : decode cX7_leastApart 129 = .ok (.iload 5, 2) := by decide +kernel
theorem dX7_leastApart_131 : decode cX7_leastApart 131 = .ok (.iaload, 1) := by decide +kernel
theorem dX7_leastApart_132 : decode cX7_leastApart 132 = .ok (.invokestatic 101, 3) := by decide +kernel
theorem dX7_leastApart_135 : decode cX7_leastApart 135 = .ok (.istore 6, 2) := by decide +kernel
theorem dX7_leastApart_137 : decode cX7_leastApart 137 = .ok (.iload 6, 2) := by decide +kernel
theorem dX7_leastApart_139 : decode cX7_leastApart 139 = .ok (.ifCond .le 12, 3) := by decide +kernel
theorem dX7_leastApart_142 : decode cX7_leastApart 142 = .ok (.iload_n 3, 1) := by decide +kernel
theorem dX7_leastApart_143 : decode cX7_leastApart 143 = .ok (.iload 6, 2) := by decide +kernel
theorem dX7_leastApart_145 : decode cX7_leastApart 145 = .ok (.invokestatic 56, 3) := by decide +kernel
theorem dX7_leastApart_148 : decode cX7_leastApart 148 = .ok (.goto 4, 3) := by decide +kernel
theorem dX7_leastApart_151 : decode cX7_leastApart 151 = .ok (.iload_n 3, 1) := by decide +kernel
theorem dX7_leastApart_152 : decode cX7_leastApart 152 = .ok (.istore_n 3, 1) := by decide +kernel
theorem dX7_leastApart_153 : decode cX7_leastApart 153 = .ok (.iinc 5 1, 3) := by decide +kernel
theorem dX7_leastApart_156 : decode cX7_leastApart 156 = .ok (.goto (-45), 3) := by decide +kernel
theorem dX7_leastApart_159 : decode cX7_leastApart 159 = .ok (.iinc 4 1, 3) := by decide +kernel
theorem dX7_leastApart_162 : decode cX7_leastApart 162 = .ok (.goto (-65), 3) := by decide +kernel
theorem dX7_leastApart_165 : decode cX7_leastApart 165 = .ok (.iload_n 3, 1) := by decide +kernel
theorem dX7_leastApart_166 : decode cX7_leastApart 166 = .ok (.bipush 6, 2) := by decide +kernel
theorem dX7_leastApart_168 : decode cX7_leastApart 168 = .ok (.if_icmp .ne 7, 3) := by decide +kernel
theorem dX7_leastApart_171 : decode cX7_leastApart 171 = .ok (.iconst (-1), 1) := by decide +kernel
theorem dX7_leastApart_172 : decode cX7_leastApart 172 = .ok (.goto 4, 3) := by decide +kernel
theorem dX7_leastApart_175 : decode cX7_leastApart 175 = .ok (.iload_n 3, 1) := by decide +kernel
theorem dX7_leastApart_176 : decode cX7_leastApart 176 = .ok (.ireturn, 1) := by decide +kernel
theorem dX7_noteFirsts_0 : decode cX7_noteFirsts 0 = .ok (.aload_n 0, 1) := by decide +kernel
theorem dX7_noteFirsts_1 : decode cX7_noteFirsts 1 = .ok (.getfield 9, 3) := by decide +kernel
theorem dX7_noteFirsts_4 : decode cX7_noteFirsts 4 = .ok (.iconst (-1), 1) := by decide +kernel
theorem dX7_noteFirsts_5 : decode cX7_noteFirsts 5 = .ok (.invokestatic 104, 3) := by decide +kernel
theorem dX7_noteFirsts_8 : decode cX7_noteFirsts 8 = .ok (.iload_n 2, 1) := by decide +kernel
theorem dX7_noteFirsts_9 : decode cX7_noteFirsts 9 = .ok (.iconst 1, 1) := by decide +kernel
theorem dX7_noteFirsts_10 : decode cX7_noteFirsts 10 = .ok (.isub, 1) := by decide +kernel
theorem dX7_noteFirsts_11 : decode cX7_noteFirsts 11 = .ok (.istore_n 3, 1) := by decide +kernel
theorem dX7_noteFirsts_12 : decode cX7_noteFirsts 12 = .ok (.iload_n 3, 1) := by decide +kernel
theorem dX7_noteFirsts_13 : decode cX7_noteFirsts 13 = .ok (.ifCond .lt 37, 3) := by decide +kernel
theorem dX7_noteFirsts_16 : decode cX7_noteFirsts 16 = .ok (.aload_n 0, 1) := by decide +kernel
theorem dX7_noteFirsts_17 : decode cX7_noteFirsts 17 = .ok (.getfield 22, 3) := by decide +kernel
theorem dX7_noteFirsts_20 : decode cX7_noteFirsts 20 = .ok (.iload_n 1, 1) := by decide +kernel
theorem dX7_noteFirsts_21 : decode cX7_noteFirsts 21 = .ok (.iload_n 3, 1) := by decide +kernel
theorem dX7_noteFirsts_22 : decode cX7_noteFirsts 22 = .ok (.invokevirtual 65, 3) := by decide +kernel
theorem dX7_noteFirsts_25 : decode cX7_noteFirsts 25 = .ok (.istore 4, 2) := by decide +kernel
theorem dX7_noteFirsts_27 : decode cX7_noteFirsts 27 = .ok (.aload_n 0, 1) := by decide +kernel
theorem dX7_noteFirsts_28 : decode cX7_noteFirsts 28 = .ok (.iload 4, 2) := by decide +kernel
theorem dX7_noteFirsts_30 : decode cX7_noteFirsts 30 = .ok (.invokevirtual 70, 3) := by decide +kernel
theorem dX7_noteFirsts_33 : decode cX7_noteFirsts 33 = .ok (.ifCond .eq 11, 3) := by decide +kernel
theorem dX7_noteFirsts_36 : decode cX7_noteFirsts 36 = .ok (.aload_n 0, 1) := by decide +kernel
theorem dX7_noteFirsts_37 : decode cX7_noteFirsts 37 = .ok (.getfield 9, 3) := by decide +kernel
theorem dX7_noteFirsts_40 : decode cX7_noteFirsts 40 = .ok (.iload 4, 2) := by decide +kernel
theorem dX7_noteFirsts_42 : decode cX7_noteFirsts 42 = .ok (.iload_n 3, 1) := by decide +kernel
theorem dX7_noteFirsts_43 : decode cX7_noteFirsts 43 = .ok (.iastore, 1) := by decide +kernel
theorem dX7_noteFirsts_44 : decode cX7_noteFirsts 44 = .ok (.iinc 3 (-1), 3) := by decide +kernel
theorem dX7_noteFirsts_47 : decode cX7_noteFirsts 47 = .ok (.goto (-35), 3) := by decide +kernel
theorem dX7_noteFirsts_50 : decode cX7_noteFirsts 50 = .ok (.return_, 1) := by decide +kernel
theorem dX7_firstOf_0 : decode cX7_firstOf 0 = .ok (.aload_n 0, 1) := by decide +kernel
theorem dX7_firstOf_1 : decode cX7_firstOf 1 = .ok (.iload_n 1, 1) := by decide +kernel
theorem dX7_firstOf_2 : decode cX7_firstOf 2 = .ok (.invokevirtual 70, 3) := by decide +kernel
theorem dX7_firstOf_5 : decode cX7_firstOf 5 = .ok (.ifCond .eq 12, 3) := by decide +kernel
theorem dX7_firstOf_8 : decode cX7_firstOf 8 = .ok (.aload_n 0, 1) := by decide +kernel
theorem dX7_firstOf_9 : decode cX7_firstOf 9 = .ok (.getfield 9, 3) := by decide +kernel
theorem dX7_firstOf_12 : decode cX7_firstOf 12 = .ok (.iload_n 1, 1) := by decide +kernel
theorem dX7_firstOf_13 : decode cX7_firstOf 13 = .ok (.iaload, 1) := by decide +kernel
theorem dX7_firstOf_14 : decode cX7_firstOf 14 = .ok (.goto 4, 3) := by decide +kernel
theorem dX7_firstOf_17 : decode cX7_firstOf 17 = .ok (.iconst (-1), 1) := by decide +kernel
theorem dX7_firstOf_18 : decode cX7_firstOf 18 = .ok (.ireturn, 1) := by decide +kernel
theorem dX8_init_0 : decode cX8_init 0 = .ok (.aload_n 0, 1) := by decide +kernel
theorem dX8_init_1 : decode cX8_init 1 = .ok (.invokespecial 3, 3) := by decide +kernel
theorem dX8_init_4 : decode cX8_init 4 = .ok (.aload_n 0, 1) := by decide +kernel
theorem dX8_init_5 : decode cX8_init 5 = .ok (.bipush 9, 2) := by decide +kernel
theorem dX8_init_7 : decode cX8_init 7 = .ok (.anewarray 9, 3) := by decide +kernel
theorem dX8_init_10 : decode cX8_init 10 = .ok (.putfield 11, 3) := by decide +kernel
theorem dX8_init_13 : decode cX8_init 13 = .ok (.aload_n 0, 1) := by decide +kernel
theorem dX8_init_14 : decode cX8_init 14 = .ok (.aload_n 1, 1) := by decide +kernel
theorem dX8_init_15 : decode cX8_init 15 = .ok (.putfield 17, 3) := by decide +kernel
theorem dX8_init_18 : decode cX8_init 18 = .ok (.iconst 0, 1) := by decide +kernel
theorem dX8_init_19 : decode cX8_init 19 = .ok (.istore_n 2, 1) := by decide +kernel
theorem dX8_init_20 : decode cX8_init 20 = .ok (.iload_n 2, 1) := by decide +kernel
theorem dX8_init_21 : decode cX8_init 21 = .ok (.bipush 8, 2) := by decide +kernel
theorem dX8_init_23 : decode cX8_init 23 = .ok (.if_icmp .gt 22, 3) := by decide +kernel
theorem dX8_init_26 : decode cX8_init 26 = .ok (.aload_n 0, 1) := by decide +kernel
theorem dX8_init_27 : decode cX8_init 27 = .ok (.getfield 11, 3) := by decide +kernel
theorem dX8_init_30 : decode cX8_init 30 = .ok (.iload_n 2, 1) := by decide +kernel
theorem dX8_init_31 : decode cX8_init 31 = .ok (.new 9, 3) := by decide +kernel
theorem dX8_init_34 : decode cX8_init 34 = .ok (.dup, 1) := by decide +kernel
theorem dX8_init_35 : decode cX8_init 35 = .ok (.invokespecial 21, 3) := by decide +kernel
theorem dX8_init_38 : decode cX8_init 38 = .ok (.aastore, 1) := by decide +kernel
theorem dX8_init_39 : decode cX8_init 39 = .ok (.iinc 2 1, 3) := by decide +kernel
theorem dX8_init_42 : decode cX8_init 42 = .ok (.goto (-22), 3) := by decide +kernel
theorem dX8_init_45 : decode cX8_init 45 = .ok (.return_, 1) := by decide +kernel
theorem dX8_weigh_0 : decode cX8_weigh 0 = .ok (.aload_n 0, 1) := by decide +kernel
theorem dX8_weigh_1 : decode cX8_weigh 1 = .ok (.aload_n 1, 1) := by decide +kernel
theorem dX8_weigh_2 : decode cX8_weigh 2 = .ok (.putfield 22, 3) := by decide +kernel
theorem dX8_weigh_5 : decode cX8_weigh 5 = .ok (.aload_n 0, 1) := by decide +kernel
theorem dX8_weigh_6 : decode cX8_weigh 6 = .ok (.iload_n 3, 1) := by decide +kernel
theorem dX8_weigh_7 : decode cX8_weigh 7 = .ok (.bipush 8, 2) := by decide +kernel
theorem dX8_weigh_9 : decode cX8_weigh 9 = .ok (.invokestatic 26, 3) := by decide +kernel
theorem dX8_weigh_12 : decode cX8_weigh 12 = .ok (.putfield 32, 3) := by decide +kernel
theorem dX8_weigh_15 : decode cX8_weigh 15 = .ok (.aload_n 0, 1) := by decide +kernel
theorem dX8_weigh_16 : decode cX8_weigh 16 = .ok (.iload 4, 2) := by decide +kernel
theorem dX8_weigh_18 : decode cX8_weigh 18 = .ok (.putfield 36, 3) := by decide +kernel
theorem dX8_weigh_21 : decode cX8_weigh 21 = .ok (.aload_n 0, 1) := by decide +kernel
theorem dX8_weigh_22 : decode cX8_weigh 22 = .ok (.getfield 11, 3) := by decide +kernel
theorem dX8_weigh_25 : decode cX8_weigh 25 = .ok (.iconst 0, 1) := by decide +kernel
theorem dX8_weigh_26 : decode cX8_weigh 26 = .ok (.aaload, 1) := by decide +kernel
theorem dX8_weigh_27 : decode cX8_weigh 27 = .ok (.aload_n 2, 1) := by decide +kernel
theorem dX8_weigh_28 : decode cX8_weigh 28 = .ok (.invokevirtual 40, 3) := by decide +kernel
theorem dX8_weigh_31 : decode cX8_weigh 31 = .ok (.aload_n 0, 1) := by decide +kernel
theorem dX8_weigh_32 : decode cX8_weigh 32 = .ok (.iconst 0, 1) := by decide +kernel
theorem dX8_weigh_33 : decode cX8_weigh 33 = .ok (.aload_n 1, 1) := by decide +kernel
theorem dX8_weigh_34 : decode cX8_weigh 34 = .ok (.getfield 44, 3) := by decide +kernel
theorem dX8_weigh_37 : decode cX8_weigh 37 = .ok (.ldc2_w 49, 3) := by decide +kernel
theorem dX8_weigh_40 : decode cX8_weigh 40 = .ok (.iconst 0, 1) := by decide +kernel
theorem dX8_weigh_41 : decode cX8_weigh 41 = .ok (.invokevirtual 51, 3) := by decide +kernel
theorem dX8_weigh_44 : decode cX8_weigh 44 = .ok (.lreturn, 1) := by decide +kernel
theorem dX8_walk_0 : decode cX8_walk 0 = .ok (.iload_n 1, 1) := by decide +kernel
theorem dX8_walk_1 : decode cX8_walk 1 = .ok (.aload_n 0, 1) := by decide +kernel
theorem dX8_walk_2 : decode cX8_walk 2 = .ok (.getfield 32, 3) := by decide +kernel
theorem dX8_walk_5 : decode cX8_walk 5 = .ok (.if_icmp .ge 9, 3) := by decide +kernel
theorem dX8_walk_8 : decode cX8_walk 8 = .ok (.iload_n 1, 1) := by decide +kernel
theorem dX8_walk_9 : decode cX8_walk 9 = .ok (.bipush 8, 2) := by decide +kernel
theorem dX8_walk_11 : decode cX8_walk 11 = .ok (.if_icmp .lt 18, 3) := by decide +kernel
theorem dX8_walk_14 : decode cX8_walk 14 = .ok (.iload 5, 2) := by decide +kernel
theorem dX8_walk_16 : decode cX8_walk 16 = .ok (.aload_n 0, 1) := by decide +kernel
theorem dX8_walk_17 : decode cX8_walk 17 = .ok (.getfield 36, 3) := by decide +kernel
theorem dX8_walk_20 : decode cX8_walk 20 = .ok (.if_icmp .ne 7, 3) := by decide +kernel
theorem dX8_walk_23 : decode cX8_walk 23 = .ok (.lload_n 3, 1) := by decide +kernel
theorem dX8_walk_24 : decode cX8_walk 24 = .ok (.goto 4, 3) := by decide +kernel
theorem dX8_walk_27 : decode cX8_walk 27 = .ok (.lconst 0, 1) := by decide +kernel
theorem dX8_walk_28 : decode cX8_walk 28 = .ok (.lreturn, 1) := by decide +kernel
theorem dX8_walk_29 : decode cX8_walk 29 = .ok (.lconst 0, 1) := by decide +kernel
theorem dX8_walk_30 : decode cX8_walk 30 = .ok (.lstore 6, 2) := by decide +kernel
theorem dX8_walk_32 : decode cX8_walk 32 = .ok (.iconst 0, 1) := by decide +kernel
theorem dX8_walk_33 : decode cX8_walk 33 = .ok (.istore 8, 2) := by decide +kernel
theorem dX8_walk_35 : decode cX8_walk 35 = .ok (.iload 8, 2) := by decide +kernel
theorem dX8_walk_37 : decode cX8_walk 37 = .ok (.iconst 2, 1) := by decide +kernel
theorem dX8_walk_38 : decode cX8_walk 38 = .ok (.if_icmp .ge 168, 3) := by decide +kernel
theorem dX8_walk_41 : decode cX8_walk 41 = .ok (.lload_n 3, 1) := by decide +kernel
theorem dX8_walk_42 : decode cX8_walk 42 = .ok (.iload 8, 2) := by decide +kernel
theorem dX8_walk_44 : decode cX8_walk 44 = .ok (.iconst 1, 1) := by decide +kernel
theorem dX8_walk_45 : decode cX8_walk 45 = .ok (.if_icmp .ne 13, 3) := by decide +kernel
theorem dX8_walk_48 : decode cX8_walk 48 = .ok (.aload_n 0, 1) := by decide +kernel
theorem dX8_walk_49 : decode cX8_walk 49 = .ok (.getfield 22, 3) := by decide +kernel
theorem dX8_walk_52 : decode cX8_walk 52 = .ok (.getfield 55, 3) := by decide +kernel
theorem dX8_walk_55 : decode cX8_walk 55 = .ok (.goto 13, 3) := by decide +kernel
theorem dX8_walk_58 : decode cX8_walk 58 = .ok (.bipush 100, 2) := by decide +kernel
theorem dX8_walk_60 : decode cX8_walk 60 = .ok (.aload_n 0, 1) := by decide +kernel
theorem dX8_walk_61 : decode cX8_walk 61 = .ok (.getfield 22, 3) := by decide +kernel
theorem dX8_walk_64 : decode cX8_walk 64 = .ok (.getfield 55, 3) := by decide +kernel
theorem dX8_walk_67 : decode cX8_walk 67 = .ok (.isub, 1) := by decide +kernel
theorem dX8_walk_68 : decode cX8_walk 68 = .ok (.i2l, 1) := by decide +kernel
theorem dX8_walk_69 : decode cX8_walk 69 = .ok (.lmul, 1) := by decide +kernel
theorem dX8_walk_70 : decode cX8_walk 70 = .ok (.ldc2_w 58, 3) := by decide +kernel
theorem dX8_walk_73 : decode cX8_walk 73 = .ok (.ldiv, 1) := by decide +kernel
theorem dX8_walk_74 : decode cX8_walk 74 = .ok (.lstore 9, 2) := by decide +kernel
theorem dX8_walk_76 : decode cX8_walk 76 = .ok (.lload 9, 2) := by decide +kernel
theorem dX8_walk_78 : decode cX8_walk 78 = .ok (.lconst 0, 1) := by decide +kernel
theorem dX8_walk_79 : decode cX8_walk 79 = .ok (.lcmp, 1) := by decide +kernel
theorem dX8_walk_80 : decode cX8_walk 80 = .ok (.ifCond .le 120, 3) := by decide +kernel
theorem dX8_walk_83 : decode cX8_walk 83 = .ok (.iload_n 2, 1) := by decide +kernel
theorem dX8_walk_84 : decode cX8_walk 84 = .ok (.iload 8, 2) := by decide +kernel
theorem dX8_walk_86 : decode cX8_walk 86 = .ok (.iadd, 1) := by decide +kernel
theorem dX8_walk_87 : decode cX8_walk 87 = .ok (.istore 11, 2) := by decide +kernel
theorem dX8_walk_89 : decode cX8_walk 89 = .ok (.aload_n 0, 1) := by decide +kernel
theorem dX8_walk_90 : decode cX8_walk 90 = .ok (.getfield 11, 3) := by decide +kernel
theorem dX8_walk_93 : decode cX8_walk 93 = .ok (.iload_n 1, 1) := by decide +kernel
theorem dX8_walk_94 : decode cX8_walk 94 = .ok (.iconst 1, 1) := by decide +kernel
theorem dX8_walk_95 : decode cX8_walk 95 = .ok (.iadd, 1) := by decide +kernel
theorem dX8_walk_96 : decode cX8_walk 96 = .ok (.aaload, 1) := by decide +kernel
theorem dX8_walk_97 : decode cX8_walk 97 = .ok (.astore 12, 2) := by decide +kernel
theorem dX8_walk_99 : decode cX8_walk 99 = .ok (.aload 12, 2) := by decide +kernel
theorem dX8_walk_101 : decode cX8_walk 101 = .ok (.aload_n 0, 1) := by decide +kernel
theorem dX8_walk_102 : decode cX8_walk 102 = .ok (.getfield 11, 3) := by decide +kernel
theorem dX8_walk_105 : decode cX8_walk 105 = .ok (.iload_n 1, 1) := by decide +kernel
theorem dX8_walk_106 : decode cX8_walk 106 = .ok (.aaload, 1) := by decide +kernel
theorem dX8_walk_107 : decode cX8_walk 107 = .ok (.invokevirtual 40, 3) := by decide +kernel
theorem dX8_walk_110 : decode cX8_walk 110 = .ok (.iload 11, 2) := by decide +kernel
theorem dX8_walk_112 : decode cX8_walk 112 = .ok (.sipush 1000, 3) := by decide +kernel
theorem dX8_walk_115 : decode cX8_walk 115 = .ok (.if_icmp .ge 36, 3) := by decide +kernel
theorem dX8_walk_118 : decode cX8_walk 118 = .ok (.aload 12, 2) := by decide +kernel
theorem dX8_walk_120 : decode cX8_walk 120 = .ok (.aload_n 0, 1) := by decide +kernel
theorem dX8_walk_121 : decode cX8_walk 121 = .ok (.getfield 17, 3) := by decide +kernel
theorem dX8_walk_124 : decode cX8_walk 124 = .ok (.aload_n 0, 1) := by decide +kernel
theorem dX8_walk_125 : decode cX8_walk 125 = .ok (.getfield 17, 3) := by decide +kernel
theorem dX8_walk_128 : decode cX8_walk 128 = .ok (.aload_n 0, 1) := by decide +kernel
theorem dX8_walk_129 : decode cX8_walk 129 = .ok (.getfield 22, 3) := by decide +kernel
theorem dX8_walk_132 : decode cX8_walk 132 = .ok (.getfield 60, 3) := by decide +kernel
theorem dX8_walk_135 : decode cX8_walk 135 = .ok (.iload 11, 2) := by decide +kernel
theorem dX8_walk_137 : decode cX8_walk 137 = .ok (.invokevirtual 63, 3) := by decide +kernel
theorem dX8_walk_140 : decode cX8_walk 140 = .ok (.invokevirtual 68, 3) := by decide +kernel
theorem dX8_walk_143 : decode cX8_walk 143 = .ok (.iconst (-1), 1) := by decide +kernel
theorem dX8_walk_144 : decode cX8_walk 144 = .ok (.if_icmp .eq 7, 3) := by decide +kernel
theorem dX8_walk_147 : decode cX8_walk 147 = .ok (.iconst 1, 1) := by decide +kernel
theorem dX8_walk_148 : decode cX8_walk 148 = .ok (.goto 4, 3) := by decide +kernel
theorem dX8_walk_151 : decode cX8_walk 151 = .ok (.iconst 0, 1) := by decide +kernel
theorem dX8_walk_152 : decode cX8_walk 152 = .ok (.istore 13, 2) := by decide +kernel
theorem dX8_walk_154 : decode cX8_walk 154 = .ok (.lload 6, 2) := by decide +kernel
theorem dX8_walk_156 : decode cX8_walk 156 = .ok (.aload_n 0, 1) := by decide +kernel
theorem dX8_walk_157 : decode cX8_walk 157 = .ok (.iload_n 1, 1) := by decide +kernel
theorem dX8_walk_158 : decode cX8_walk 158 = .ok (.iconst 1, 1) := by decide +kernel
theorem dX8_walk_159 : decode cX8_walk 159 = .ok (.iadd, 1) := by decide +kernel
theorem dX8_walk_160 : decode cX8_walk 160 = .ok (.iload 11, 2) := by decide +kernel
theorem dX8_walk_162 : decode cX8_walk 162 = .ok (.iconst 1, 1) := by decide +kernel
theorem dX8_walk_163 : decode cX8_walk 163 = .ok (.iadd, 1) := by decide +kernel
theorem dX8_walk_164 : decode cX8_walk 164 = .ok (.sipush 1000, 3) := by decide +kernel
theorem dX8_walk_167 : decode cX8_walk 167 = .ok (.invokestatic 26, 3) := by decide +kernel
theorem dX8_walk_170 : decode cX8_walk 170 = .ok (.lload 9, 2) := by decide +kernel
theorem dX8_walk_172 : decode cX8_walk 172 = .ok (.iload 13, 2) := by decide +kernel
theorem dX8_walk_174 : decode cX8_walk 174 = .ok (.ifCond .eq 15, 3) := by decide +kernel
theorem dX8_walk_177 : decode cX8_walk 177 = .ok (.aload_n 0, 1) := by decide +kernel
theorem dX8_walk_178 : decode cX8_walk 178 = .ok (.getfield 36, 3) := by decide +kernel
theorem dX8_walk_181 : decode cX8_walk 181 = .ok (.ifCond .eq 12, 3) := by decide +kernel
theorem dX8_walk_184 : decode cX8_walk 184 = .ok (.iload 5, 2) := by decide +kernel
theorem dX8_walk_186 : decode cX8_walk 186 = .ok (.ifCond .eq 7, 3) := by decide +kernel
theorem dX8_walk_189 : decode cX8_walk 189 = .ok (.iconst 1, 1) := by decide +kernel
theorem dX8_walk_190 : decode cX8_walk 190 = .ok (.goto 4, 3) := by decide +kernel
theorem dX8_walk_193 : decode cX8_walk 193 = .ok (.iconst 0, 1) := by decide +kernel
theorem dX8_walk_194 : decode cX8_walk 194 = .ok (.invokevirtual 51, 3) := by decide +kernel
theorem dX8_walk_197 : decode cX8_walk 197 = .ok (.ladd, 1) := by decide +kernel
theorem dX8_walk_198 : decode cX8_walk 198 = .ok (.lstore 6, 2) := by decide +kernel
theorem dX8_walk_200 : decode cX8_walk 200 = .ok (.iinc 8 1, 3) := by decide +kernel
theorem dX8_walk_203 : decode cX8_walk 203 = .ok (.goto (-168), 3) := by decide +kernel
theorem dX8_walk_206 : decode cX8_walk 206 = .ok (.lload 6, 2) := by decide +kernel
theorem dX8_walk_208 : decode cX8_walk 208 = .ok (.lreturn, 1) := by decide +kernel
theorem dX9_init_0 : decode cX9_init 0 = .ok (.aload_n 0, 1) := by decide +kernel
theorem dX9_init_1 : decode cX9_init 1 = .ok (.invokespecial 3, 3) := by decide +kernel
theorem dX9_init_4 : decode cX9_init 4 = .ok (.aload_n 0, 1) := by decide +kernel
theorem dX9_init_5 : decode cX9_init 5 = .ok (.iconst 3, 1) := by decide +kernel
theorem dX9_init_6 : decode cX9_init 6 = .ok (.sipush 1000, 3) := by decide +kernel
theorem dX9_init_9 : decode cX9_init 9 = .ok (.multianewarray 9 2, 4) := by decide +kernel
theorem dX9_init_13 : decode cX9_init 13 = .ok (.putfield 11, 3) := by decide +kernel
theorem dX9_init_16 : decode cX9_init 16 = .ok (.aload_n 0, 1) := by decide +kernel
theorem dX9_init_17 : decode cX9_init 17 = .ok (.iconst 3, 1) := by decide +kernel
theorem dX9_init_18 : decode cX9_init 18 = .ok (.sipush 1000, 3) := by decide +kernel
theorem dX9_init_21 : decode cX9_init 21 = .ok (.multianewarray 9 2, 4) := by decide +kernel
theorem dX9_init_25 : decode cX9_init 25 = .ok (.putfield 16, 3) := by decide +kernel
theorem dX9_init_28 : decode cX9_init 28 = .ok (.aload_n 0, 1) := by decide +kernel
theorem dX9_init_29 : decode cX9_init 29 = .ok (.iconst 3, 1) := by decide +kernel
theorem dX9_init_30 : decode cX9_init 30 = .ok (.sipush 1000, 3) := by decide +kernel
theorem dX9_init_33 : decode cX9_init 33 = .ok (.multianewarray 9 2, 4) := by decide +kernel
theorem dX9_init_37 : decode cX9_init 37 = .ok (.putfield 19, 3) := by decide +kernel
theorem dX9_init_40 : decode cX9_init 40 = .ok (.return_, 1) := by decide +kernel
theorem dX9_noteIn_0 : decode cX9_noteIn 0 = .ok (.iload_n 0, 1) := by decide +kernel
theorem dX9_noteIn_1 : decode cX9_noteIn 1 = .ok (.iconst 3, 1) := by decide +kernel
theorem dX9_noteIn_2 : decode cX9_noteIn 2 = .ok (.iload_n 1, 1) := by decide +kernel
theorem dX9_noteIn_3 : decode cX9_noteIn 3 = .ok (.imul, 1) := by decide +kernel
theorem dX9_noteIn_4 : decode cX9_noteIn 4 = .ok (.ishr, 1) := by decide +kernel
theorem dX9_noteIn_5 : decode cX9_noteIn 5 = .ok (.bipush 7, 2) := by decide +kernel
theorem dX9_noteIn_7 : decode cX9_noteIn 7 = .ok (.iand, 1) := by decide +kernel
theorem dX9_noteIn_8 : decode cX9_noteIn 8 = .ok (.ireturn, 1) := by decide +kernel
theorem dX9_withNote_0 : decode cX9_withNote 0 = .ok (.iload_n 0, 1) := by decide +kernel
theorem dX9_withNote_1 : decode cX9_withNote 1 = .ok (.bipush 7, 2) := by decide +kernel
theorem dX9_withNote_3 : decode cX9_withNote 3 = .ok (.iconst 3, 1) := by decide +kernel
theorem dX9_withNote_4 : decode cX9_withNote 4 = .ok (.iload_n 1, 1) := by decide +kernel
theorem dX9_withNote_5 : decode cX9_withNote 5 = .ok (.imul, 1) := by decide +kernel
theorem dX9_withNote_6 : decode cX9_withNote 6 = .ok (.ishl, 1) := by decide +kernel
theorem dX9_withNote_7 : decode cX9_withNote 7 = .ok (.iconst (-1), 1) := by decide +kernel
theorem dX9_withNote_8 : decode cX9_withNote 8 = .ok (.ixor, 1) := by decide +kernel
theorem dX9_withNote_9 : decode cX9_withNote 9 = .ok (.iand, 1) := by decide +kernel
theorem dX9_withNote_10 : decode cX9_withNote 10 = .ok (.iload_n 2, 1) := by decide +kernel
theorem dX9_withNote_11 : decode cX9_withNote 11 = .ok (.iconst 3, 1) := by decide +kernel
theorem dX9_withNote_12 : decode cX9_withNote 12 = .ok (.iload_n 1, 1) := by decide +kernel
theorem dX9_withNote_13 : decode cX9_withNote 13 = .ok (.imul, 1) := by decide +kernel
theorem dX9_withNote_14 : decode cX9_withNote 14 = .ok (.ishl, 1) := by decide +kernel
theorem dX9_withNote_15 : decode cX9_withNote 15 = .ok (.ior, 1) := by decide +kernel
theorem dX9_withNote_16 : decode cX9_withNote 16 = .ok (.ireturn, 1) := by decide +kernel
theorem dX9_unlikeNotes_0 : decode cX9_unlikeNotes 0 = .ok (.iload_n 0, 1) := by decide +kernel
theorem dX9_unlikeNotes_1 : decode cX9_unlikeNotes 1 = .ok (.iload_n 1, 1) := by decide +kernel
theorem dX9_unlikeNotes_2 : decode cX9_unlikeNotes 2 = .ok (.ixor, 1) := by decide +kernel
theorem dX9_unlikeNotes_3 : decode cX9_unlikeNotes 3 = .ok (.istore_n 2, 1) := by decide +kernel
theorem dX9_unlikeNotes_4 : decode cX9_unlikeNotes 4 = .ok (.iload_n 2, 1) := by decide +kernel
theorem dX9_unlikeNotes_5 : decode cX9_unlikeNotes 5 = .ok (.iload_n 2, 1) := by decide +kernel
theorem dX9_unlikeNotes_6 : decode cX9_unlikeNotes 6 = .ok (.iconst 1, 1) := by decide +kernel
theorem dX9_unlikeNotes_7 : decode cX9_unlikeNotes 7 = .ok (.ishr, 1) := by decide +kernel
theorem dX9_unlikeNotes_8 : decode cX9_unlikeNotes 8 = .ok (.ior, 1) := by decide +kernel
theorem dX9_unlikeNotes_9 : decode cX9_unlikeNotes 9 = .ok (.iload_n 2, 1) := by decide +kernel
theorem dX9_unlikeNotes_10 : decode cX9_unlikeNotes 10 = .ok (.iconst 2, 1) := by decide +kernel
theorem dX9_unlikeNotes_11 : decode cX9_unlikeNotes 11 = .ok (.ishr, 1) := by decide +kernel
theorem dX9_unlikeNotes_12 : decode cX9_unlikeNotes 12 = .ok (.ior, 1) := by decide +kernel
theorem dX9_unlikeNotes_13 : decode cX9_unlikeNotes 13 = .ok (.sipush 4681, 3) := by decide +kernel
theorem dX9_unlikeNotes_16 : decode cX9_unlikeNotes 16 = .ok (.iand, 1) := by decide +kernel
theorem dX9_unlikeNotes_17 : decode cX9_unlikeNotes 17 = .ok (.invokestatic 22, 3) := by decide +kernel
theorem dX9_unlikeNotes_20 : decode cX9_unlikeNotes 20 = .ok (.ireturn, 1) := by decide +kernel
theorem dX9_isThere_0 : decode cX9_isThere 0 = .ok (.iload_n 0, 1) := by decide +kernel
theorem dX9_isThere_1 : decode cX9_isThere 1 = .ok (.ifCond .lt 23, 3) := by decide +kernel
theorem dX9_isThere_4 : decode cX9_isThere 4 = .ok (.iload_n 0, 1) := by decide +kernel
theorem dX9_isThere_5 : decode cX9_isThere 5 = .ok (.iconst 3, 1) := by decide +kernel
theorem dX9_isThere_6 : decode cX9_isThere 6 = .ok (.if_icmp .ge 18, 3) := by decide +kernel
theorem dX9_isThere_9 : decode cX9_isThere 9 = .ok (.iload_n 1, 1) := by decide +kernel
theorem dX9_isThere_10 : decode cX9_isThere 10 = .ok (.ifCond .lt 14, 3) := by decide +kernel
theorem dX9_isThere_13 : decode cX9_isThere 13 = .ok (.iload_n 1, 1) := by decide +kernel
theorem dX9_isThere_14 : decode cX9_isThere 14 = .ok (.sipush 1000, 3) := by decide +kernel
theorem dX9_isThere_17 : decode cX9_isThere 17 = .ok (.if_icmp .ge 7, 3) := by decide +kernel
theorem dX9_isThere_20 : decode cX9_isThere 20 = .ok (.iconst 1, 1) := by decide +kernel
theorem dX9_isThere_21 : decode cX9_isThere 21 = .ok (.goto 4, 3) := by decide +kernel
theorem dX9_isThere_24 : decode cX9_isThere 24 = .ok (.iconst 0, 1) := by decide +kernel
theorem dX9_isThere_25 : decode cX9_isThere 25 = .ok (.ireturn, 1) := by decide +kernel
theorem dX9_tuneAt_0 : decode cX9_tuneAt 0 = .ok (.iload_n 1, 1) := by decide +kernel
theorem dX9_tuneAt_1 : decode cX9_tuneAt 1 = .ok (.iload_n 2, 1) := by decide +kernel
theorem dX9_tuneAt_2 : decode cX9_tuneAt 2 = .ok (.invokestatic 28, 3) := by decide +kernel
theorem dX9_tuneAt_5 : decode cX9_tuneAt 5 = .ok (.ifCond .eq 14, 3) := by decide +kernel
theorem dX9_tuneAt_8 : decode cX9_tuneAt 8 = .ok (.aload_n 0, 1) := by decide +kernel
theorem dX9_tuneAt_9 : decode cX9_tuneAt 9 = .ok (.getfield 11, 3) := by decide +kernel
theorem dX9_tuneAt_12 : decode cX9_tuneAt 12 = .ok (.iload_n 1, 1) := by decide +kernel
theorem dX9_tuneAt_13 : decode cX9_tuneAt 13 = .ok (.aaload, 1) := by decide +kernel
theorem dX9_tuneAt_14 : decode cX9_tuneAt 14 = .ok (.iload_n 2, 1) := by decide +kernel
theorem dX9_tuneAt_15 : decode cX9_tuneAt 15 = .ok (.iaload, 1) := by decide +kernel
theorem dX9_tuneAt_16 : decode cX9_tuneAt 16 = .ok (.goto 4, 3) := by decide +kernel
theorem dX9_tuneAt_19 : decode cX9_tuneAt 19 = .ok (.iconst (-1), 1) := by decide +kernel
theorem dX9_tuneAt_20 : decode cX9_tuneAt 20 = .ok (.ireturn, 1) := by decide +kernel
theorem dX9_numberAt_0 : decode cX9_numberAt 0 = .ok (.iload_n 1, 1) := by decide +kernel
theorem dX9_numberAt_1 : decode cX9_numberAt 1 = .ok (.iload_n 2, 1) := by decide +kernel
theorem dX9_numberAt_2 : decode cX9_numberAt 2 = .ok (.invokestatic 28, 3) := by decide +kernel
theorem dX9_numberAt_5 : decode cX9_numberAt 5 = .ok (.ifCond .eq 14, 3) := by decide +kernel
theorem dX9_numberAt_8 : decode cX9_numberAt 8 = .ok (.aload_n 0, 1) := by decide +kernel
theorem dX9_numberAt_9 : decode cX9_numberAt 9 = .ok (.getfield 16, 3) := by decide +kernel
theorem dX9_numberAt_12 : decode cX9_numberAt 12 = .ok (.iload_n 1, 1) := by decide +kernel
theorem dX9_numberAt_13 : decode cX9_numberAt 13 = .ok (.aaload, 1) := by decide +kernel
theorem dX9_numberAt_14 : decode cX9_numberAt 14 = .ok (.iload_n 2, 1) := by decide +kernel
theorem dX9_numberAt_15 : decode cX9_numberAt 15 = .ok (.iaload, 1) := by decide +kernel
theorem dX9_numberAt_16 : decode cX9_numberAt 16 = .ok (.goto 4, 3) := by decide +kernel
theorem dX9_numberAt_19 : decode cX9_numberAt 19 = .ok (.iconst (-1), 1) := by decide +kernel
theorem dX9_numberAt_20 : decode cX9_numberAt 20 = .ok (.ireturn, 1) := by decide +kernel
theorem dX9_keptAt_0 : decode cX9_keptAt 0 = .ok (.iload_n 1, 1) := by decide +kernel
theorem dX9_keptAt_1 : decode cX9_keptAt 1 = .ok (.iload_n 2, 1) := by decide +kernel
theorem dX9_keptAt_2 : decode cX9_keptAt 2 = .ok (.invokestatic 28, 3) := by decide +kernel
theorem dX9_keptAt_5 : decode cX9_keptAt 5 = .ok (.ifCond .eq 14, 3) := by decide +kernel
theorem dX9_keptAt_8 : decode cX9_keptAt 8 = .ok (.aload_n 0, 1) := by decide +kernel
theorem dX9_keptAt_9 : decode cX9_keptAt 9 = .ok (.getfield 19, 3) := by decide +kernel
theorem dX9_keptAt_12 : decode cX9_keptAt 12 = .ok (.iload_n 1, 1) := by decide +kernel
theorem dX9_keptAt_13 : decode cX9_keptAt 13 = .ok (.aaload, 1) := by decide +kernel
theorem dX9_keptAt_14 : decode cX9_keptAt 14 = .ok (.iload_n 2, 1) := by decide +kernel
theorem dX9_keptAt_15 : decode cX9_keptAt 15 = .ok (.iaload, 1) := by decide +kernel
theorem dX9_keptAt_16 : decode cX9_keptAt 16 = .ok (.goto 4, 3) := by decide +kernel
theorem dX9_keptAt_19 : decode cX9_keptAt 19 = .ok (.iconst (-1), 1) := by decide +kernel
theorem dX9_keptAt_20 : decode cX9_keptAt 20 = .ok (.ireturn, 1) := by decide +kernel
theorem dX9_make_0 : decode cX9_make 0 = .ok (.aload_n 0, 1) := by decide +kernel
theorem dX9_make_1 : decode cX9_make 1 = .ok (.aload_n 1, 1) := by decide +kernel
theorem dX9_make_2 : decode cX9_make 2 = .ok (.getfield 32, 3) := by decide +kernel
theorem dX9_make_5 : decode cX9_make 5 = .ok (.putfield 38, 3) := by decide +kernel
theorem dX9_make_8 : decode cX9_make 8 = .ok (.aload_n 0, 1) := by decide +kernel
theorem dX9_make_9 : decode cX9_make 9 = .ok (.aload_n 1, 1) := by decide +kernel
theorem dX9_make_10 : decode cX9_make 10 = .ok (.getfield 39, 3) := by decide +kernel
theorem dX9_make_13 : decode cX9_make 13 = .ok (.putfield 42, 3) := by decide +kernel
theorem dX9_make_16 : decode cX9_make 16 = .ok (.aload_n 0, 1) := by decide +kernel
theorem dX9_make_17 : decode cX9_make 17 = .ok (.iconst 1, 1) := by decide +kernel
theorem dX9_make_18 : decode cX9_make 18 = .ok (.putfield 43, 3) := by decide +kernel
theorem dX9_make_21 : decode cX9_make 21 = .ok (.iconst 0, 1) := by decide +kernel
theorem dX9_make_22 : decode cX9_make 22 = .ok (.istore_n 2, 1) := by decide +kernel
theorem dX9_make_23 : decode cX9_make 23 = .ok (.iload_n 2, 1) := by decide +kernel
theorem dX9_make_24 : decode cX9_make 24 = .ok (.aload_n 0, 1) := by decide +kernel
theorem dX9_make_25 : decode cX9_make 25 = .ok (.getfield 42, 3) := by decide +kernel
theorem dX9_make_28 : decode cX9_make 28 = .ok (.if_icmp .ge 22, 3) := by decide +kernel
theorem dX9_make_31 : decode cX9_make 31 = .ok (.aload_n 0, 1) := by decide +kernel
theorem dX9_make_32 : decode cX9_make 32 = .ok (.dup, 1) := by decide +kernel
theorem dX9_make_33 : decode cX9_make 33 = .ok (.getfield 43, 3) := by decide +kernel
theorem dX9_make_36 : decode cX9_make 36 = .ok (.aload_n 0, 1) := by decide +kernel
theorem dX9_make_37 : decode cX9_make 37 = .ok (.getfield 38, 3) := by decide +kernel
theorem dX9_make_40 : decode cX9_make 40 = .ok (.imul, 1) := by decide +kernel
theorem dX9_make_41 : decode cX9_make 41 = .ok (.putfield 43, 3) := by decide +kernel
theorem dX9_make_44 : decode cX9_make 44 = .ok (.iinc 2 1, 3) := by decide +kernel
theorem dX9_make_47 : decode cX9_make 47 = .ok (.goto (-24), 3) := by decide +kernel
theorem dX9_make_50 : decode cX9_make 50 = .ok (.iconst 0, 1) := by decide +kernel
theorem dX9_make_51 : decode cX9_make 51 = .ok (.istore_n 2, 1) := by decide +kernel
theorem dX9_make_52 : decode cX9_make 52 = .ok (.iload_n 2, 1) := by decide +kernel
theorem dX9_make_53 : decode cX9_make 53 = .ok (.aload_n 1, 1) := by decide +kernel
theorem dX9_make_54 : decode cX9_make 54 = .ok (.getfield 46, 3) := by decide +kernel
theorem dX9_make_57 : decode cX9_make 57 = .ok (.if_icmp .ge 41, 3) := by decide +kernel
theorem dX9_make_60 : decode cX9_make 60 = .ok (.iload_n 2, 1) := by decide +kernel
theorem dX9_make_61 : decode cX9_make 61 = .ok (.iconst 3, 1) := by decide +kernel
theorem dX9_make_62 : decode cX9_make 62 = .ok (.if_icmp .ge 36, 3) := by decide +kernel
theorem dX9_make_65 : decode cX9_make 65 = .ok (.aload_n 0, 1) := by decide +kernel
theorem dX9_make_66 : decode cX9_make 66 = .ok (.iload_n 2, 1) := by decide +kernel
theorem dX9_make_67 : decode cX9_make 67 = .ok (.iconst 0, 1) := by decide +kernel
theorem dX9_make_68 : decode cX9_make 68 = .ok (.aload_n 1, 1) := by decide +kernel
theorem dX9_make_69 : decode cX9_make 69 = .ok (.getfield 48, 3) := by decide +kernel
theorem dX9_make_72 : decode cX9_make 72 = .ok (.iload_n 2, 1) := by decide +kernel
theorem dX9_make_73 : decode cX9_make 73 = .ok (.iaload, 1) := by decide +kernel
theorem dX9_make_74 : decode cX9_make 74 = .ok (.aload_n 1, 1) := by decide +kernel
theorem dX9_make_75 : decode cX9_make 75 = .ok (.getfield 52, 3) := by decide +kernel
theorem dX9_make_78 : decode cX9_make 78 = .ok (.iload_n 2, 1) := by decide +kernel
theorem dX9_make_79 : decode cX9_make 79 = .ok (.iaload, 1) := by decide +kernel
theorem dX9_make_80 : decode cX9_make 80 = .ok (.invokevirtual 55, 3) := by decide +kernel
theorem dX9_make_83 : decode cX9_make 83 = .ok (.aload_n 0, 1) := by decide +kernel
theorem dX9_make_84 : decode cX9_make 84 = .ok (.aload_n 1, 1) := by decide +kernel
theorem dX9_make_85 : decode cX9_make 85 = .ok (.getfield 59, 3) := by decide +kernel
theorem dX9_make_88 : decode cX9_make 88 = .ok (.iload_n 2, 1) := by decide +kernel
theorem dX9_make_89 : decode cX9_make 89 = .ok (.invokevirtual 63, 3) := by decide +kernel
theorem dX9_make_92 : decode cX9_make 92 = .ok (.iinc 2 1, 3) := by decide +kernel
theorem dX9_make_95 : decode cX9_make 95 = .ok (.goto (-43), 3) := by decide +kernel
theorem dX9_make_98 : decode cX9_make 98 = .ok (.return_, 1) := by decide +kernel
theorem dX9_put_0 : decode cX9_put 0 = .ok (.iconst 0, 1) := by decide +kernel
theorem dX9_put_1 : decode cX9_put 1 = .ok (.istore 5, 2) := by decide +kernel
theorem dX9_put_3 : decode cX9_put 3 = .ok (.iconst 0, 1) := by decide +kernel
theorem dX9_put_4 : decode cX9_put 4 = .ok (.istore 6, 2) := by decide +kernel
theorem dX9_put_6 : decode cX9_put 6 = .ok (.iload 6, 2) := by decide +kernel
theorem dX9_put_8 : decode cX9_put 8 = .ok (.aload_n 0, 1) := by decide +kernel
theorem dX9_put_9 : decode cX9_put 9 = .ok (.getfield 42, 3) := by decide +kernel
theorem dX9_put_12 : decode cX9_put 12 = .ok (.if_icmp .ge 25, 3) := by decide +kernel
theorem dX9_put_15 : decode cX9_put 15 = .ok (.iload 5, 2) := by decide +kernel
theorem dX9_put_17 : decode cX9_put 17 = .ok (.aload_n 0, 1) := by decide +kernel
theorem dX9_put_18 : decode cX9_put 18 = .ok (.getfield 38, 3) := by decide +kernel
theorem dX9_put_21 : decode cX9_put 21 = .ok (.imul, 1) := by decide +kernel
theorem dX9_put_22 : decode cX9_put 22 = .ok (.iload_n 3, 1) := by decide +kernel
theorem dX9_put_23 : decode cX9_put 23 = .ok (.iload 6, 2) := by decide +kernel
theorem dX9_put_25 : decode cX9_put 25 = .ok (.invokestatic 67, 3) := by decide +kernel
theorem dX9_put_28 : decode cX9_put 28 = .ok (.iadd, 1) := by decide +kernel
theorem dX9_put_29 : decode cX9_put 29 = .ok (.istore 5, 2) := by decide +kernel
theorem dX9_put_31 : decode cX9_put 31 = .ok (.iinc 6 1, 3) := by decide +kernel
theorem dX9_put_34 : decode cX9_put 34 = .ok (.goto (-28), 3) := by decide +kernel
theorem dX9_put_37 : decode cX9_put 37 = .ok (.aload_n 0, 1) := by decide +kernel
theorem dX9_put_38 : decode cX9_put 38 = .ok (.getfield 11, 3) := by decide +kernel
theorem dX9_put_41 : decode cX9_put 41 = .ok (.iload_n 1, 1) := by decide +kernel
theorem dX9_put_42 : decode cX9_put 42 = .ok (.aaload, 1) := by decide +kernel
theorem dX9_put_43 : decode cX9_put 43 = .ok (.iload_n 2, 1) := by decide +kernel
theorem dX9_put_44 : decode cX9_put 44 = .ok (.iload_n 3, 1) := by decide +kernel
theorem dX9_put_45 : decode cX9_put 45 = .ok (.iastore, 1) := by decide +kernel
theorem dX9_put_46 : decode cX9_put 46 = .ok (.aload_n 0, 1) := by decide +kernel
theorem dX9_put_47 : decode cX9_put 47 = .ok (.getfield 16, 3) := by decide +kernel
theorem dX9_put_50 : decode cX9_put 50 = .ok (.iload_n 1, 1) := by decide +kernel
theorem dX9_put_51 : decode cX9_put 51 = .ok (.aaload, 1) := by decide +kernel
theorem dX9_put_52 : decode cX9_put 52 = .ok (.iload_n 2, 1) := by decide +kernel
theorem dX9_put_53 : decode cX9_put 53 = .ok (.iload 5, 2) := by decide +kernel
theorem dX9_put_55 : decode cX9_put 55 = .ok (.iastore, 1) := by decide +kernel
theorem dX9_put_56 : decode cX9_put 56 = .ok (.aload_n 0, 1) := by decide +kernel
theorem dX9_put_57 : decode cX9_put 57 = .ok (.getfield 19, 3) := by decide +kernel
theorem dX9_put_60 : decode cX9_put 60 = .ok (.iload_n 1, 1) := by decide +kernel
theorem dX9_put_61 : decode cX9_put 61 = .ok (.aaload, 1) := by decide +kernel
theorem dX9_put_62 : decode cX9_put 62 = .ok (.iload_n 2, 1) := by decide +kernel
theorem dX9_put_63 : decode cX9_put 63 = .ok (.iload 4, 2) := by decide +kernel
theorem dX9_put_65 : decode cX9_put 65 = .ok (.iastore, 1) := by decide +kernel
theorem dX9_put_66 : decode cX9_put 66 = .ok (.return_, 1) := by decide +kernel
theorem dX9_makeRow_0 : decode cX9_makeRow 0 = .ok (.iconst 0, 1) := by decide +kernel
theorem dX9_makeRow_1 : decode cX9_makeRow 1 = .ok (.istore_n 3, 1) := by decide +kernel
theorem dX9_makeRow_2 : decode cX9_makeRow 2 = .ok (.iconst 1, 1) := by decide +kernel
theorem dX9_makeRow_3 : decode cX9_makeRow 3 = .ok (.istore 4, 2) := by decide +kernel
theorem dX9_makeRow_5 : decode cX9_makeRow 5 = .ok (.iload 4, 2) := by decide +kernel
theorem dX9_makeRow_7 : decode cX9_makeRow 7 = .ok (.sipush 1000, 3) := by decide +kernel
theorem dX9_makeRow_10 : decode cX9_makeRow 10 = .ok (.if_icmp .ge 53, 3) := by decide +kernel
theorem dX9_makeRow_13 : decode cX9_makeRow 13 = .ok (.aload_n 0, 1) := by decide +kernel
theorem dX9_makeRow_14 : decode cX9_makeRow 14 = .ok (.aload_n 1, 1) := by decide +kernel
theorem dX9_makeRow_15 : decode cX9_makeRow 15 = .ok (.iload_n 2, 1) := by decide +kernel
theorem dX9_makeRow_16 : decode cX9_makeRow 16 = .ok (.iload 4, 2) := by decide +kernel
theorem dX9_makeRow_18 : decode cX9_makeRow 18 = .ok (.invokevirtual 71, 3) := by decide +kernel
theorem dX9_makeRow_21 : decode cX9_makeRow 21 = .ok (.aload_n 0, 1) := by decide +kernel
theorem dX9_makeRow_22 : decode cX9_makeRow 22 = .ok (.iload_n 2, 1) := by decide +kernel
theorem dX9_makeRow_23 : decode cX9_makeRow 23 = .ok (.iload_n 3, 1) := by decide +kernel
theorem dX9_makeRow_24 : decode cX9_makeRow 24 = .ok (.iload 4, 2) := by decide +kernel
theorem dX9_makeRow_26 : decode cX9_makeRow 26 = .ok (.invokevirtual 75, 3) := by decide +kernel
theorem dX9_makeRow_29 : decode cX9_makeRow 29 = .ok (.ifCond .eq 15, 3) := by decide +kernel
theorem dX9_makeRow_32 : decode cX9_makeRow 32 = .ok (.aload_n 0, 1) := by decide +kernel
theorem dX9_makeRow_33 : decode cX9_makeRow 33 = .ok (.iload_n 2, 1) := by decide +kernel
theorem dX9_makeRow_34 : decode cX9_makeRow 34 = .ok (.iload 4, 2) := by decide +kernel
theorem dX9_makeRow_36 : decode cX9_makeRow 36 = .ok (.iload 4, 2) := by decide +kernel
theorem dX9_makeRow_38 : decode cX9_makeRow 38 = .ok (.iload_n 3, 1) := by decide +kernel
theorem dX9_makeRow_39 : decode cX9_makeRow 39 = .ok (.isub, 1) := by decide +kernel
theorem dX9_makeRow_40 : decode cX9_makeRow 40 = .ok (.invokevirtual 79, 3) := by decide +kernel
theorem dX9_makeRow_43 : decode cX9_makeRow 43 = .ok (.return_, 1) := by decide +kernel
theorem dX9_makeRow_44 : decode cX9_makeRow 44 = .ok (.iload 4, 2) := by decide +kernel
theorem dX9_makeRow_46 : decode cX9_makeRow 46 = .ok (.iconst 2, 1) := by decide +kernel
theorem dX9_makeRow_47 : decode cX9_makeRow 47 = .ok (.iload_n 3, 1) := by decide +kernel
theorem dX9_makeRow_48 : decode cX9_makeRow 48 = .ok (.imul, 1) := by decide +kernel
theorem dX9_makeRow_49 : decode cX9_makeRow 49 = .ok (.iconst 1, 1) := by decide +kernel
theorem dX9_makeRow_50 : decode cX9_makeRow 50 = .ok (.iadd, 1) := by decide +kernel
theorem dX9_makeRow_51 : decode cX9_makeRow 51 = .ok (.if_icmp .ne 6, 3) := by decide +kernel
theorem dX9_makeRow_54 : decode cX9_makeRow 54 = .ok (.iload 4, 2) := by decide +kernel
theorem dX9_makeRow_56 : decode cX9_makeRow 56 = .ok (.istore_n 3, 1) := by decide +kernel
theorem dX9_makeRow_57 : decode cX9_makeRow 57 = .ok (.iinc 4 1, 3) := by decide +kernel
theorem dX9_makeRow_60 : decode cX9_makeRow 60 = .ok (.goto (-55), 3) := by decide +kernel
theorem dX9_makeRow_63 : decode cX9_makeRow 63 = .ok (.return_, 1) := by decide +kernel
theorem dX9_repeatRow_0 : decode cX9_repeatRow 0 = .ok (.iload_n 2, 1) := by decide +kernel
theorem dX9_repeatRow_1 : decode cX9_repeatRow 1 = .ok (.iload_n 3, 1) := by decide +kernel
theorem dX9_repeatRow_2 : decode cX9_repeatRow 2 = .ok (.invokestatic 83, 3) := by decide +kernel
theorem dX9_repeatRow_5 : decode cX9_repeatRow 5 = .ok (.istore 4, 2) := by decide +kernel
theorem dX9_repeatRow_7 : decode cX9_repeatRow 7 = .ok (.iload 4, 2) := by decide +kernel
theorem dX9_repeatRow_9 : decode cX9_repeatRow 9 = .ok (.sipush 1000, 3) := by decide +kernel
theorem dX9_repeatRow_12 : decode cX9_repeatRow 12 = .ok (.if_icmp .ge 69, 3) := by decide +kernel
theorem dX9_repeatRow_15 : decode cX9_repeatRow 15 = .ok (.aload_n 0, 1) := by decide +kernel
theorem dX9_repeatRow_16 : decode cX9_repeatRow 16 = .ok (.getfield 11, 3) := by decide +kernel
theorem dX9_repeatRow_19 : decode cX9_repeatRow 19 = .ok (.iload_n 1, 1) := by decide +kernel
theorem dX9_repeatRow_20 : decode cX9_repeatRow 20 = .ok (.aaload, 1) := by decide +kernel
theorem dX9_repeatRow_21 : decode cX9_repeatRow 21 = .ok (.iload 4, 2) := by decide +kernel
theorem dX9_repeatRow_23 : decode cX9_repeatRow 23 = .ok (.aload_n 0, 1) := by decide +kernel
theorem dX9_repeatRow_24 : decode cX9_repeatRow 24 = .ok (.getfield 11, 3) := by decide +kernel
theorem dX9_repeatRow_27 : decode cX9_repeatRow 27 = .ok (.iload_n 1, 1) := by decide +kernel
theorem dX9_repeatRow_28 : decode cX9_repeatRow 28 = .ok (.aaload, 1) := by decide +kernel
theorem dX9_repeatRow_29 : decode cX9_repeatRow 29 = .ok (.iload 4, 2) := by decide +kernel
theorem dX9_repeatRow_31 : decode cX9_repeatRow 31 = .ok (.iload_n 3, 1) := by decide +kernel
theorem dX9_repeatRow_32 : decode cX9_repeatRow 32 = .ok (.isub, 1) := by decide +kernel
theorem dX9_repeatRow_33 : decode cX9_repeatRow 33 = .ok (.iaload, 1) := by decide +kernel
theorem dX9_repeatRow_34 : decode cX9_repeatRow 34 = .ok (.iastore, 1) := by decide +kernel
theorem dX9_repeatRow_35 : decode cX9_repeatRow 35 = .ok (.aload_n 0, 1) := by decide +kernel
theorem dX9_repeatRow_36 : decode cX9_repeatRow 36 = .ok (.getfield 16, 3) := by decide +kernel
theorem dX9_repeatRow_39 : decode cX9_repeatRow 39 = .ok (.iload_n 1, 1) := by decide +kernel
theorem dX9_repeatRow_40 : decode cX9_repeatRow 40 = .ok (.aaload, 1) := by decide +kernel
theorem dX9_repeatRow_41 : decode cX9_repeatRow 41 = .ok (.iload 4, 2) := by decide +kernel
theorem dX9_repeatRow_43 : decode cX9_repeatRow 43 = .ok (.aload_n 0, 1) := by decide +kernel
theorem dX9_repeatRow_44 : decode cX9_repeatRow 44 = .ok (.getfield 16, 3) := by decide +kernel
theorem dX9_repeatRow_47 : decode cX9_repeatRow 47 = .ok (.iload_n 1, 1) := by decide +kernel
theorem dX9_repeatRow_48 : decode cX9_repeatRow 48 = .ok (.aaload, 1) := by decide +kernel
theorem dX9_repeatRow_49 : decode cX9_repeatRow 49 = .ok (.iload 4, 2) := by decide +kernel
theorem dX9_repeatRow_51 : decode cX9_repeatRow 51 = .ok (.iload_n 3, 1) := by decide +kernel
theorem dX9_repeatRow_52 : decode cX9_repeatRow 52 = .ok (.isub, 1) := by decide +kernel
theorem dX9_repeatRow_53 : decode cX9_repeatRow 53 = .ok (.iaload, 1) := by decide +kernel
theorem dX9_repeatRow_54 : decode cX9_repeatRow 54 = .ok (.iastore, 1) := by decide +kernel
theorem dX9_repeatRow_55 : decode cX9_repeatRow 55 = .ok (.aload_n 0, 1) := by decide +kernel
theorem dX9_repeatRow_56 : decode cX9_repeatRow 56 = .ok (.getfield 19, 3) := by decide +kernel
theorem dX9_repeatRow_59 : decode cX9_repeatRow 59 = .ok (.iload_n 1, 1) := by decide +kernel
theorem dX9_repeatRow_60 : decode cX9_repeatRow 60 = .ok (.aaload, 1) := by decide +kernel
theorem dX9_repeatRow_61 : decode cX9_repeatRow 61 = .ok (.iload 4, 2) := by decide +kernel
theorem dX9_repeatRow_63 : decode cX9_repeatRow 63 = .ok (.aload_n 0, 1) := by decide +kernel
theorem dX9_repeatRow_64 : decode cX9_repeatRow 64 = .ok (.getfield 19, 3) := by decide +kernel
theorem dX9_repeatRow_67 : decode cX9_repeatRow 67 = .ok (.iload_n 1, 1) := by decide +kernel
theorem dX9_repeatRow_68 : decode cX9_repeatRow 68 = .ok (.aaload, 1) := by decide +kernel
theorem dX9_repeatRow_69 : decode cX9_repeatRow 69 = .ok (.iload 4, 2) := by decide +kernel
theorem dX9_repeatRow_71 : decode cX9_repeatRow 71 = .ok (.iload_n 3, 1) := by decide +kernel
theorem dX9_repeatRow_72 : decode cX9_repeatRow 72 = .ok (.isub, 1) := by decide +kernel
theorem dX9_repeatRow_73 : decode cX9_repeatRow 73 = .ok (.iaload, 1) := by decide +kernel
theorem dX9_repeatRow_74 : decode cX9_repeatRow 74 = .ok (.iastore, 1) := by decide +kernel
theorem dX9_repeatRow_75 : decode cX9_repeatRow 75 = .ok (.iinc 4 1, 3) := by decide +kernel
theorem dX9_repeatRow_78 : decode cX9_repeatRow 78 = .ok (.goto (-71), 3) := by decide +kernel
theorem dX9_repeatRow_81 : decode cX9_repeatRow 81 = .ok (.return_, 1) := by decide +kernel
theorem dX9_makeNext_0 : decode cX9_makeNext 0 = .ok (.aload_n 0, 1) := by decide +kernel
theorem dX9_makeNext_1 : decode cX9_makeNext 1 = .ok (.getfield 11, 3) := by decide +kernel
theorem dX9_makeNext_4 : decode cX9_makeNext 4 = .ok (.iload_n 2, 1) := by decide +kernel
theorem dX9_makeNext_5 : decode cX9_makeNext 5 = .ok (.aaload, 1) := by decide +kernel
theorem dX9_makeNext_6 : decode cX9_makeNext 6 = .ok (.iload_n 3, 1) := by decide +kernel
theorem dX9_makeNext_7 : decode cX9_makeNext 7 = .ok (.iconst 1, 1) := by decide +kernel
theorem dX9_makeNext_8 : decode cX9_makeNext 8 = .ok (.isub, 1) := by decide +kernel
theorem dX9_makeNext_9 : decode cX9_makeNext 9 = .ok (.iaload, 1) := by decide +kernel
theorem dX9_makeNext_10 : decode cX9_makeNext 10 = .ok (.istore 4, 2) := by decide +kernel
theorem dX9_makeNext_12 : decode cX9_makeNext 12 = .ok (.aload_n 0, 1) := by decide +kernel
theorem dX9_makeNext_13 : decode cX9_makeNext 13 = .ok (.getfield 19, 3) := by decide +kernel
theorem dX9_makeNext_16 : decode cX9_makeNext 16 = .ok (.iload_n 2, 1) := by decide +kernel
theorem dX9_makeNext_17 : decode cX9_makeNext 17 = .ok (.aaload, 1) := by decide +kernel
theorem dX9_makeNext_18 : decode cX9_makeNext 18 = .ok (.iload_n 3, 1) := by decide +kernel
theorem dX9_makeNext_19 : decode cX9_makeNext 19 = .ok (.iconst 1, 1) := by decide +kernel
theorem dX9_makeNext_20 : decode cX9_makeNext 20 = .ok (.isub, 1) := by decide +kernel
theorem dX9_makeNext_21 : decode cX9_makeNext 21 = .ok (.iaload, 1) := by decide +kernel
theorem dX9_makeNext_22 : decode cX9_makeNext 22 = .ok (.istore 5, 2) := by decide +kernel
theorem dX9_makeNext_24 : decode cX9_makeNext 24 = .ok (.aload_n 1, 1) := by decide +kernel
theorem dX9_makeNext_25 : decode cX9_makeNext 25 = .ok (.iload 4, 2) := by decide +kernel
theorem dX9_makeNext_27 : decode cX9_makeNext 27 = .ok (.aload_n 0, 1) := by decide +kernel
theorem dX9_makeNext_28 : decode cX9_makeNext 28 = .ok (.getfield 42, 3) := by decide +kernel
theorem dX9_makeNext_31 : decode cX9_makeNext 31 = .ok (.invokestatic 88, 3) := by decide +kernel
theorem dX9_makeNext_34 : decode cX9_makeNext 34 = .ok (.iload 4, 2) := by decide +kernel
theorem dX9_makeNext_36 : decode cX9_makeNext 36 = .ok (.iconst 0, 1) := by decide +kernel
theorem dX9_makeNext_37 : decode cX9_makeNext 37 = .ok (.invokestatic 67, 3) := by decide +kernel
theorem dX9_makeNext_40 : decode cX9_makeNext 40 = .ok (.iload 4, 2) := by decide +kernel
theorem dX9_makeNext_42 : decode cX9_makeNext 42 = .ok (.aload_n 0, 1) := by decide +kernel
theorem dX9_makeNext_43 : decode cX9_makeNext 43 = .ok (.getfield 42, 3) := by decide +kernel
theorem dX9_makeNext_46 : decode cX9_makeNext 46 = .ok (.iconst 1, 1) := by decide +kernel
theorem dX9_makeNext_47 : decode cX9_makeNext 47 = .ok (.isub, 1) := by decide +kernel
theorem dX9_makeNext_48 : decode cX9_makeNext 48 = .ok (.invokestatic 67, 3) := by decide +kernel
theorem dX9_makeNext_51 : decode cX9_makeNext 51 = .ok (.iload 5, 2) := by decide +kernel
theorem dX9_makeNext_53 : decode cX9_makeNext 53 = .ok (.invokevirtual 91, 3) := by decide +kernel
theorem dX9_makeNext_56 : decode cX9_makeNext 56 = .ok (.aload_n 1, 1) := by decide +kernel
theorem dX9_makeNext_57 : decode cX9_makeNext 57 = .ok (.iconst 0, 1) := by decide +kernel
theorem dX9_makeNext_58 : decode cX9_makeNext 58 = .ok (.iconst 0, 1) := by decide +kernel
theorem dX9_makeNext_59 : decode cX9_makeNext 59 = .ok (.invokevirtual 96, 3) := by decide +kernel
theorem dX9_makeNext_62 : decode cX9_makeNext 62 = .ok (.aload_n 1, 1) := by decide +kernel
theorem dX9_makeNext_63 : decode cX9_makeNext 63 = .ok (.iconst 0, 1) := by decide +kernel
theorem dX9_makeNext_64 : decode cX9_makeNext 64 = .ok (.iconst 0, 1) := by decide +kernel
theorem dX9_makeNext_65 : decode cX9_makeNext 65 = .ok (.invokevirtual 100, 3) := by decide +kernel
theorem dX9_makeNext_68 : decode cX9_makeNext 68 = .ok (.aload_n 0, 1) := by decide +kernel
theorem dX9_makeNext_69 : decode cX9_makeNext 69 = .ok (.getfield 42, 3) := by decide +kernel
theorem dX9_makeNext_72 : decode cX9_makeNext 72 = .ok (.invokestatic 103, 3) := by decide +kernel
theorem dX9_makeNext_75 : decode cX9_makeNext 75 = .ok (.istore 6, 2) := by decide +kernel
theorem dX9_makeNext_77 : decode cX9_makeNext 77 = .ok (.iload 4, 2) := by decide +kernel
theorem dX9_makeNext_79 : decode cX9_makeNext 79 = .ok (.iload 6, 2) := by decide +kernel
theorem dX9_makeNext_81 : decode cX9_makeNext 81 = .ok (.invokestatic 67, 3) := by decide +kernel
theorem dX9_makeNext_84 : decode cX9_makeNext 84 = .ok (.istore 7, 2) := by decide +kernel
theorem dX9_makeNext_86 : decode cX9_makeNext 86 = .ok (.aload_n 1, 1) := by decide +kernel
theorem dX9_makeNext_87 : decode cX9_makeNext 87 = .ok (.iload 7, 2) := by decide +kernel
theorem dX9_makeNext_89 : decode cX9_makeNext 89 = .ok (.iload 6, 2) := by decide +kernel
theorem dX9_makeNext_91 : decode cX9_makeNext 91 = .ok (.invokevirtual 96, 3) := by decide +kernel
theorem dX9_makeNext_94 : decode cX9_makeNext 94 = .ok (.aload_n 1, 1) := by decide +kernel
theorem dX9_makeNext_95 : decode cX9_makeNext 95 = .ok (.iconst 1, 1) := by decide +kernel
theorem dX9_makeNext_96 : decode cX9_makeNext 96 = .ok (.iload 7, 2) := by decide +kernel
theorem dX9_makeNext_98 : decode cX9_makeNext 98 = .ok (.iconst 1, 1) := by decide +kernel
theorem dX9_makeNext_99 : decode cX9_makeNext 99 = .ok (.iadd, 1) := by decide +kernel
theorem dX9_makeNext_100 : decode cX9_makeNext 100 = .ok (.invokevirtual 100, 3) := by decide +kernel
theorem dX9_makeNext_103 : decode cX9_makeNext 103 = .ok (.aload_n 0, 1) := by decide +kernel
theorem dX9_makeNext_104 : decode cX9_makeNext 104 = .ok (.getfield 38, 3) := by decide +kernel
theorem dX9_makeNext_107 : decode cX9_makeNext 107 = .ok (.invokestatic 103, 3) := by decide +kernel
theorem dX9_makeNext_110 : decode cX9_makeNext 110 = .ok (.istore 8, 2) := by decide +kernel
theorem dX9_makeNext_112 : decode cX9_makeNext 112 = .ok (.aload_n 1, 1) := by decide +kernel
theorem dX9_makeNext_113 : decode cX9_makeNext 113 = .ok (.iconst 0, 1) := by decide +kernel
theorem dX9_makeNext_114 : decode cX9_makeNext 114 = .ok (.iconst 0, 1) := by decide +kernel
theorem dX9_makeNext_115 : decode cX9_makeNext 115 = .ok (.invokevirtual 96, 3) := by decide +kernel
theorem dX9_makeNext_118 : decode cX9_makeNext 118 = .ok (.aload_n 0, 1) := by decide +kernel
theorem dX9_makeNext_119 : decode cX9_makeNext 119 = .ok (.iload_n 2, 1) := by decide +kernel
theorem dX9_makeNext_120 : decode cX9_makeNext 120 = .ok (.iload_n 3, 1) := by decide +kernel
theorem dX9_makeNext_121 : decode cX9_makeNext 121 = .ok (.iload 4, 2) := by decide +kernel
theorem dX9_makeNext_123 : decode cX9_makeNext 123 = .ok (.iload 6, 2) := by decide +kernel
theorem dX9_makeNext_125 : decode cX9_makeNext 125 = .ok (.iload 8, 2) := by decide +kernel
theorem dX9_makeNext_127 : decode cX9_makeNext 127 = .ok (.invokestatic 106, 3) := by decide +kernel
theorem dX9_makeNext_130 : decode cX9_makeNext 130 = .ok (.aload_n 1, 1) := by decide +kernel
theorem dX9_makeNext_131 : decode cX9_makeNext 131 = .ok (.iconst 2, 1) := by decide +kernel
theorem dX9_makeNext_132 : decode cX9_makeNext 132 = .ok (.iload 5, 2) := by decide +kernel
theorem dX9_makeNext_134 : decode cX9_makeNext 134 = .ok (.invokevirtual 100, 3) := by decide +kernel
theorem dX9_makeNext_137 : decode cX9_makeNext 137 = .ok (.bipush 100, 2) := by decide +kernel
theorem dX9_makeNext_139 : decode cX9_makeNext 139 = .ok (.invokestatic 103, 3) := by decide +kernel
theorem dX9_makeNext_142 : decode cX9_makeNext 142 = .ok (.invokevirtual 55, 3) := by decide +kernel
theorem dX9_makeNext_145 : decode cX9_makeNext 145 = .ok (.return_, 1) := by decide +kernel
theorem dX9_sumOf_0 : decode cX9_sumOf 0 = .ok (.iconst 0, 1) := by decide +kernel
theorem dX9_sumOf_1 : decode cX9_sumOf 1 = .ok (.istore_n 2, 1) := by decide +kernel
theorem dX9_sumOf_2 : decode cX9_sumOf 2 = .ok (.iconst 0, 1) := by decide +kernel
theorem dX9_sumOf_3 : decode cX9_sumOf 3 = .ok (.istore_n 3, 1) := by decide +kernel
theorem dX9_sumOf_4 : decode cX9_sumOf 4 = .ok (.iload_n 3, 1) := by decide +kernel
theorem dX9_sumOf_5 : decode cX9_sumOf 5 = .ok (.iload_n 1, 1) := by decide +kernel
theorem dX9_sumOf_6 : decode cX9_sumOf 6 = .ok (.if_icmp .ge 17, 3) := by decide +kernel
theorem dX9_sumOf_9 : decode cX9_sumOf 9 = .ok (.iload_n 2, 1) := by decide +kernel
theorem dX9_sumOf_10 : decode cX9_sumOf 10 = .ok (.iload_n 0, 1) := by decide +kernel
theorem dX9_sumOf_11 : decode cX9_sumOf 11 = .ok (.iload_n 3, 1) := by decide +kernel
theorem dX9_sumOf_12 : decode cX9_sumOf 12 = .ok (.invokestatic 67, 3) := by decide +kernel
theorem dX9_sumOf_15 : decode cX9_sumOf 15 = .ok (.iadd, 1) := by decide +kernel
theorem dX9_sumOf_16 : decode cX9_sumOf 16 = .ok (.istore_n 2, 1) := by decide +kernel
theorem dX9_sumOf_17 : decode cX9_sumOf 17 = .ok (.iinc 3 1, 3) := by decide +kernel
theorem dX9_sumOf_20 : decode cX9_sumOf 20 = .ok (.goto (-16), 3) := by decide +kernel
theorem dX9_sumOf_23 : decode cX9_sumOf 23 = .ok (.iload_n 2, 1) := by decide +kernel
theorem dX9_sumOf_24 : decode cX9_sumOf 24 = .ok (.ireturn, 1) := by decide +kernel
theorem dX9_isAlike_0 : decode cX9_isAlike 0 = .ok (.aload_n 0, 1) := by decide +kernel
theorem dX9_isAlike_1 : decode cX9_isAlike 1 = .ok (.getfield 11, 3) := by decide +kernel
theorem dX9_isAlike_4 : decode cX9_isAlike 4 = .ok (.iload_n 1, 1) := by decide +kernel
theorem dX9_isAlike_5 : decode cX9_isAlike 5 = .ok (.aaload, 1) := by decide +kernel
theorem dX9_isAlike_6 : decode cX9_isAlike 6 = .ok (.iload_n 2, 1) := by decide +kernel
theorem dX9_isAlike_7 : decode cX9_isAlike 7 = .ok (.iaload, 1) := by decide +kernel
theorem dX9_isAlike_8 : decode cX9_isAlike 8 = .ok (.aload_n 0, 1) := by decide +kernel
theorem dX9_isAlike_9 : decode cX9_isAlike 9 = .ok (.getfield 11, 3) := by decide +kernel
theorem dX9_isAlike_12 : decode cX9_isAlike 12 = .ok (.iload_n 1, 1) := by decide +kernel
theorem dX9_isAlike_13 : decode cX9_isAlike 13 = .ok (.aaload, 1) := by decide +kernel
theorem dX9_isAlike_14 : decode cX9_isAlike 14 = .ok (.iload_n 3, 1) := by decide +kernel
theorem dX9_isAlike_15 : decode cX9_isAlike 15 = .ok (.iaload, 1) := by decide +kernel
theorem dX9_isAlike_16 : decode cX9_isAlike 16 = .ok (.if_icmp .ne 26, 3) := by decide +kernel
theorem dX9_isAlike_19 : decode cX9_isAlike 19 = .ok (.aload_n 0, 1) := by decide +kernel
theorem dX9_isAlike_20 : decode cX9_isAlike 20 = .ok (.getfield 19, 3) := by decide +kernel
theorem dX9_isAlike_23 : decode cX9_isAlike 23 = .ok (.iload_n 1, 1) := by decide +kernel
theorem dX9_isAlike_24 : decode cX9_isAlike 24 = .ok (.aaload, 1) := by decide +kernel
theorem dX9_isAlike_25 : decode cX9_isAlike 25 = .ok (.iload_n 2, 1) := by decide +kernel
theorem dX9_isAlike_26 : decode cX9_isAlike 26 = .ok (.iaload, 1) := by decide +kernel
theorem dX9_isAlike_27 : decode cX9_isAlike 27 = .ok (.aload_n 0, 1) := by decide +kernel
theorem dX9_isAlike_28 : decode cX9_isAlike 28 = .ok (.getfield 19, 3) := by decide +kernel
theorem dX9_isAlike_31 : decode cX9_isAlike 31 = .ok (.iload_n 1, 1) := by decide +kernel
theorem dX9_isAlike_32 : decode cX9_isAlike 32 = .ok (.aaload, 1) := by decide +kernel
theorem dX9_isAlike_33 : decode cX9_isAlike 33 = .ok (.iload_n 3, 1) := by decide +kernel
theorem dX9_isAlike_34 : decode cX9_isAlike 34 = .ok (.iaload, 1) := by decide +kernel
theorem dX9_isAlike_35 : decode cX9_isAlike 35 = .ok (.if_icmp .ne 7, 3) := by decide +kernel
theorem dX9_isAlike_38 : decode cX9_isAlike 38 = .ok (.iconst 1, 1) := by decide +kernel
theorem dX9_isAlike_39 : decode cX9_isAlike 39 = .ok (.goto 4, 3) := by decide +kernel
theorem dX9_isAlike_42 : decode cX9_isAlike 42 = .ok (.iconst 0, 1) := by decide +kernel
theorem dX9_isAlike_43 : decode cX9_isAlike 43 = .ok (.ireturn, 1) := by decide +kernel
theorem dX9_roundLength_0 : decode cX9_roundLength 0 = .ok (.iload_n 1, 1) := by decide +kernel
theorem dX9_roundLength_1 : decode cX9_roundLength 1 = .ok (.iconst 0, 1) := by decide +kernel
theorem dX9_roundLength_2 : decode cX9_roundLength 2 = .ok (.invokestatic 28, 3) := by decide +kernel
theorem dX9_roundLength_5 : decode cX9_roundLength 5 = .ok (.ifCond .ne 5, 3) := by decide +kernel
theorem dX9_roundLength_8 : decode cX9_roundLength 8 = .ok (.iconst (-1), 1) := by decide +kernel
theorem dX9_roundLength_9 : decode cX9_roundLength 9 = .ok (.ireturn, 1) := by decide +kernel
theorem dX9_roundLength_10 : decode cX9_roundLength 10 = .ok (.iconst 1, 1) := by decide +kernel
theorem dX9_roundLength_11 : decode cX9_roundLength 11 = .ok (.istore_n 2, 1) := by decide +kernel
theorem dX9_roundLength_12 : decode cX9_roundLength 12 = .ok (.iload_n 2, 1) := by decide +kernel
theorem dX9_roundLength_13 : decode cX9_roundLength 13 = .ok (.sipush 1000, 3) := by decide +kernel
theorem dX9_roundLength_16 : decode cX9_roundLength 16 = .ok (.if_icmp .ge 27, 3) := by decide +kernel
theorem dX9_roundLength_19 : decode cX9_roundLength 19 = .ok (.aload_n 0, 1) := by decide +kernel
theorem dX9_roundLength_20 : decode cX9_roundLength 20 = .ok (.iload_n 1, 1) := by decide +kernel
theorem dX9_roundLength_21 : decode cX9_roundLength 21 = .ok (.sipush 999, 3) := by decide +kernel
theorem dX9_roundLength_24 : decode cX9_roundLength 24 = .ok (.iload_n 2, 1) := by decide +kernel
theorem dX9_roundLength_25 : decode cX9_roundLength 25 = .ok (.isub, 1) := by decide +kernel
theorem dX9_roundLength_26 : decode cX9_roundLength 26 = .ok (.sipush 999, 3) := by decide +kernel
theorem dX9_roundLength_29 : decode cX9_roundLength 29 = .ok (.invokevirtual 75, 3) := by decide +kernel
theorem dX9_roundLength_32 : decode cX9_roundLength 32 = .ok (.ifCond .eq 5, 3) := by decide +kernel
theorem dX9_roundLength_35 : decode cX9_roundLength 35 = .ok (.iload_n 2, 1) := by decide +kernel
theorem dX9_roundLength_36 : decode cX9_roundLength 36 = .ok (.ireturn, 1) := by decide +kernel
theorem dX9_roundLength_37 : decode cX9_roundLength 37 = .ok (.iinc 2 1, 3) := by decide +kernel
theorem dX9_roundLength_40 : decode cX9_roundLength 40 = .ok (.goto (-28), 3) := by decide +kernel
theorem dX9_roundLength_43 : decode cX9_roundLength 43 = .ok (.iconst (-1), 1) := by decide +kernel
theorem dX9_roundLength_44 : decode cX9_roundLength 44 = .ok (.ireturn, 1) := by decide +kernel
theorem dX9_roundStart_0 : decode cX9_roundStart 0 = .ok (.iload_n 1, 1) := by decide +kernel
theorem dX9_roundStart_1 : decode cX9_roundStart 1 = .ok (.iload_n 2, 1) := by decide +kernel
theorem dX9_roundStart_2 : decode cX9_roundStart 2 = .ok (.invokestatic 28, 3) := by decide +kernel
theorem dX9_roundStart_5 : decode cX9_roundStart 5 = .ok (.ifCond .ne 5, 3) := by decide +kernel
theorem dX9_roundStart_8 : decode cX9_roundStart 8 = .ok (.iconst (-1), 1) := by decide +kernel
theorem dX9_roundStart_9 : decode cX9_roundStart 9 = .ok (.ireturn, 1) := by decide +kernel
theorem dX9_roundStart_10 : decode cX9_roundStart 10 = .ok (.iconst 0, 1) := by decide +kernel
theorem dX9_roundStart_11 : decode cX9_roundStart 11 = .ok (.istore_n 3, 1) := by decide +kernel
theorem dX9_roundStart_12 : decode cX9_roundStart 12 = .ok (.iload_n 3, 1) := by decide +kernel
theorem dX9_roundStart_13 : decode cX9_roundStart 13 = .ok (.iload_n 2, 1) := by decide +kernel
theorem dX9_roundStart_14 : decode cX9_roundStart 14 = .ok (.iadd, 1) := by decide +kernel
theorem dX9_roundStart_15 : decode cX9_roundStart 15 = .ok (.sipush 1000, 3) := by decide +kernel
theorem dX9_roundStart_18 : decode cX9_roundStart 18 = .ok (.if_icmp .ge 23, 3) := by decide +kernel
theorem dX9_roundStart_21 : decode cX9_roundStart 21 = .ok (.aload_n 0, 1) := by decide +kernel
theorem dX9_roundStart_22 : decode cX9_roundStart 22 = .ok (.iload_n 1, 1) := by decide +kernel
theorem dX9_roundStart_23 : decode cX9_roundStart 23 = .ok (.iload_n 3, 1) := by decide +kernel
theorem dX9_roundStart_24 : decode cX9_roundStart 24 = .ok (.iload_n 3, 1) := by decide +kernel
theorem dX9_roundStart_25 : decode cX9_roundStart 25 = .ok (.iload_n 2, 1) := by decide +kernel
theorem dX9_roundStart_26 : decode cX9_roundStart 26 = .ok (.iadd, 1) := by decide +kernel
theorem dX9_roundStart_27 : decode cX9_roundStart 27 = .ok (.invokevirtual 75, 3) := by decide +kernel
theorem dX9_roundStart_30 : decode cX9_roundStart 30 = .ok (.ifCond .eq 5, 3) := by decide +kernel
theorem dX9_roundStart_33 : decode cX9_roundStart 33 = .ok (.iload_n 3, 1) := by decide +kernel
theorem dX9_roundStart_34 : decode cX9_roundStart 34 = .ok (.ireturn, 1) := by decide +kernel
theorem dX9_roundStart_35 : decode cX9_roundStart 35 = .ok (.iinc 3 1, 3) := by decide +kernel
theorem dX9_roundStart_38 : decode cX9_roundStart 38 = .ok (.goto (-26), 3) := by decide +kernel
theorem dX9_roundStart_41 : decode cX9_roundStart 41 = .ok (.iconst (-1), 1) := by decide +kernel
theorem dX9_roundStart_42 : decode cX9_roundStart 42 = .ok (.ireturn, 1) := by decide +kernel
theorem dX9_seek_0 : decode cX9_seek 0 = .ok (.iload_n 1, 1) := by decide +kernel
theorem dX9_seek_1 : decode cX9_seek 1 = .ok (.iconst 0, 1) := by decide +kernel
theorem dX9_seek_2 : decode cX9_seek 2 = .ok (.invokestatic 28, 3) := by decide +kernel
theorem dX9_seek_5 : decode cX9_seek 5 = .ok (.ifCond .ne 5, 3) := by decide +kernel
theorem dX9_seek_8 : decode cX9_seek 8 = .ok (.iconst (-1), 1) := by decide +kernel
theorem dX9_seek_9 : decode cX9_seek 9 = .ok (.ireturn, 1) := by decide +kernel
theorem dX9_seek_10 : decode cX9_seek 10 = .ok (.iload_n 3, 1) := by decide +kernel
theorem dX9_seek_11 : decode cX9_seek 11 = .ok (.sipush 999, 3) := by decide +kernel
theorem dX9_seek_14 : decode cX9_seek 14 = .ok (.invokestatic 110, 3) := by decide +kernel
theorem dX9_seek_17 : decode cX9_seek 17 = .ok (.istore 6, 2) := by decide +kernel
theorem dX9_seek_19 : decode cX9_seek 19 = .ok (.iload_n 2, 1) := by decide +kernel
theorem dX9_seek_20 : decode cX9_seek 20 = .ok (.iconst 0, 1) := by decide +kernel
theorem dX9_seek_21 : decode cX9_seek 21 = .ok (.invokestatic 83, 3) := by decide +kernel
theorem dX9_seek_24 : decode cX9_seek 24 = .ok (.istore 7, 2) := by decide +kernel
theorem dX9_seek_26 : decode cX9_seek 26 = .ok (.iload 7, 2) := by decide +kernel
theorem dX9_seek_28 : decode cX9_seek 28 = .ok (.iload 6, 2) := by decide +kernel
theorem dX9_seek_30 : decode cX9_seek 30 = .ok (.if_icmp .gt 31, 3) := by decide +kernel
theorem dX9_seek_33 : decode cX9_seek 33 = .ok (.aload_n 0, 1) := by decide +kernel
theorem dX9_seek_34 : decode cX9_seek 34 = .ok (.getfield 11, 3) := by decide +kernel
theorem dX9_seek_37 : decode cX9_seek 37 = .ok (.iload_n 1, 1) := by decide +kernel
theorem dX9_seek_38 : decode cX9_seek 38 = .ok (.aaload, 1) := by decide +kernel
theorem dX9_seek_39 : decode cX9_seek 39 = .ok (.iload 7, 2) := by decide +kernel
theorem dX9_seek_41 : decode cX9_seek 41 = .ok (.iaload, 1) := by decide +kernel
theorem dX9_seek_42 : decode cX9_seek 42 = .ok (.iload 4, 2) := by decide +kernel
theorem dX9_seek_44 : decode cX9_seek 44 = .ok (.invokestatic 113, 3) := by decide +kernel
theorem dX9_seek_47 : decode cX9_seek 47 = .ok (.iload 5, 2) := by decide +kernel
theorem dX9_seek_49 : decode cX9_seek 49 = .ok (.if_icmp .gt 6, 3) := by decide +kernel
theorem dX9_seek_52 : decode cX9_seek 52 = .ok (.iload 7, 2) := by decide +kernel
theorem dX9_seek_54 : decode cX9_seek 54 = .ok (.ireturn, 1) := by decide +kernel
theorem dX9_seek_55 : decode cX9_seek 55 = .ok (.iinc 7 1, 3) := by decide +kernel
theorem dX9_seek_58 : decode cX9_seek 58 = .ok (.goto (-32), 3) := by decide +kernel
theorem dX9_seek_61 : decode cX9_seek 61 = .ok (.iconst (-1), 1) := by decide +kernel
theorem dX9_seek_62 : decode cX9_seek 62 = .ok (.ireturn, 1) := by decide +kernel
theorem dX10_init_0 : decode cX10_init 0 = .ok (.aload_n 0, 1) := by decide +kernel
theorem dX10_init_1 : decode cX10_init 1 = .ok (.invokespecial 3, 3) := by decide +kernel
theorem dX10_init_4 : decode cX10_init 4 = .ok (.aload_n 0, 1) := by decide +kernel
theorem dX10_init_5 : decode cX10_init 5 = .ok (.sipush 1600, 3) := by decide +kernel
theorem dX10_init_8 : decode cX10_init 8 = .ok (.newarray .int, 2) := by decide +kernel
theorem dX10_init_10 : decode cX10_init 10 = .ok (.putfield 9, 3) := by decide +kernel
theorem dX10_init_13 : decode cX10_init 13 = .ok (.aload_n 0, 1) := by decide +kernel
theorem dX10_init_14 : decode cX10_init 14 = .ok (.new 13, 3) := by decide +kernel
theorem dX10_init_17 : decode cX10_init 17 = .ok (.dup, 1) := by decide +kernel
theorem dX10_init_18 : decode cX10_init 18 = .ok (.invokespecial 15, 3) := by decide +kernel
theorem dX10_init_21 : decode cX10_init 21 = .ok (.putfield 16, 3) := by decide +kernel
theorem dX10_init_24 : decode cX10_init 24 = .ok (.aload_n 0, 1) := by decide +kernel
theorem dX10_init_25 : decode cX10_init 25 = .ok (.new 13, 3) := by decide +kernel
theorem dX10_init_28 : decode cX10_init 28 = .ok (.dup, 1) := by decide +kernel
theorem dX10_init_29 : decode cX10_init 29 = .ok (.invokespecial 15, 3) := by decide +kernel
theorem dX10_init_32 : decode cX10_init 32 = .ok (.putfield 20, 3) := by decide +kernel
theorem dX10_init_35 : decode cX10_init 35 = .ok (.aload_n 0, 1) := by decide +kernel
theorem dX10_init_36 : decode cX10_init 36 = .ok (.new 23, 3) := by decide +kernel
theorem dX10_init_39 : decode cX10_init 39 = .ok (.dup, 1) := by decide +kernel
theorem dX10_init_40 : decode cX10_init 40 = .ok (.invokespecial 25, 3) := by decide +kernel
theorem dX10_init_43 : decode cX10_init 43 = .ok (.putfield 26, 3) := by decide +kernel
theorem dX10_init_46 : decode cX10_init 46 = .ok (.aload_n 0, 1) := by decide +kernel
theorem dX10_init_47 : decode cX10_init 47 = .ok (.new 30, 3) := by decide +kernel
theorem dX10_init_50 : decode cX10_init 50 = .ok (.dup, 1) := by decide +kernel
theorem dX10_init_51 : decode cX10_init 51 = .ok (.aload_n 0, 1) := by decide +kernel
theorem dX10_init_52 : decode cX10_init 52 = .ok (.getfield 26, 3) := by decide +kernel
theorem dX10_init_55 : decode cX10_init 55 = .ok (.invokespecial 32, 3) := by decide +kernel
theorem dX10_init_58 : decode cX10_init 58 = .ok (.putfield 35, 3) := by decide +kernel
theorem dX10_init_61 : decode cX10_init 61 = .ok (.aload_n 0, 1) := by decide +kernel
theorem dX10_init_62 : decode cX10_init 62 = .ok (.new 39, 3) := by decide +kernel
theorem dX10_init_65 : decode cX10_init 65 = .ok (.dup, 1) := by decide +kernel
theorem dX10_init_66 : decode cX10_init 66 = .ok (.invokespecial 41, 3) := by decide +kernel
theorem dX10_init_69 : decode cX10_init 69 = .ok (.putfield 42, 3) := by decide +kernel
theorem dX10_init_72 : decode cX10_init 72 = .ok (.aload_n 0, 1) := by decide +kernel
theorem dX10_init_73 : decode cX10_init 73 = .ok (.new 46, 3) := by decide +kernel
theorem dX10_init_76 : decode cX10_init 76 = .ok (.dup, 1) := by decide +kernel
theorem dX10_init_77 : decode cX10_init 77 = .ok (.invokespecial 48, 3) := by decide +kernel
theorem dX10_init_80 : decode cX10_init 80 = .ok (.putfield 49, 3) := by decide +kernel
theorem dX10_init_83 : decode cX10_init 83 = .ok (.aload_n 0, 1) := by decide +kernel
theorem dX10_init_84 : decode cX10_init 84 = .ok (.new 53, 3) := by decide +kernel
theorem dX10_init_87 : decode cX10_init 87 = .ok (.dup, 1) := by decide +kernel
theorem dX10_init_88 : decode cX10_init 88 = .ok (.aload_n 0, 1) := by decide +kernel
theorem dX10_init_89 : decode cX10_init 89 = .ok (.getfield 42, 3) := by decide +kernel
theorem dX10_init_92 : decode cX10_init 92 = .ok (.invokespecial 55, 3) := by decide +kernel
theorem dX10_init_95 : decode cX10_init 95 = .ok (.putfield 58, 3) := by decide +kernel
theorem dX10_init_98 : decode cX10_init 98 = .ok (.aload_n 0, 1) := by decide +kernel
theorem dX10_init_99 : decode cX10_init 99 = .ok (.new 62, 3) := by decide +kernel
theorem dX10_init_102 : decode cX10_init 102 = .ok (.dup, 1) := by decide +kernel
theorem dX10_init_103 : decode cX10_init 103 = .ok (.aload_n 0, 1) := by decide +kernel
theorem dX10_init_104 : decode cX10_init 104 = .ok (.getfield 42, 3) := by decide +kernel
theorem dX10_init_107 : decode cX10_init 107 = .ok (.invokespecial 64, 3) := by decide +kernel
theorem dX10_init_110 : decode cX10_init 110 = .ok (.putfield 65, 3) := by decide +kernel
theorem dX10_init_113 : decode cX10_init 113 = .ok (.aload_n 0, 1) := by decide +kernel
theorem dX10_init_114 : decode cX10_init 114 = .ok (.new 69, 3) := by decide +kernel
theorem dX10_init_117 : decode cX10_init 117 = .ok (.dup, 1) := by decide +kernel
theorem dX10_init_118 : decode cX10_init 118 = .ok (.invokespecial 71, 3) := by decide +kernel
theorem dX10_init_121 : decode cX10_init 121 = .ok (.putfield 72, 3) := by decide +kernel
theorem dX10_init_124 : decode cX10_init 124 = .ok (.aload_n 0, 1) := by decide +kernel
theorem dX10_init_125 : decode cX10_init 125 = .ok (.bipush 69, 2) := by decide +kernel
theorem dX10_init_127 : decode cX10_init 127 = .ok (.newarray .int, 2) := by decide +kernel
theorem dX10_init_129 : decode cX10_init 129 = .ok (.putfield 76, 3) := by decide +kernel
theorem dX10_init_132 : decode cX10_init 132 = .ok (.aload_n 0, 1) := by decide +kernel
theorem dX10_init_133 : decode cX10_init 133 = .ok (.bipush 6, 2) := by decide +kernel
theorem dX10_init_135 : decode cX10_init 135 = .ok (.newarray .int, 2) := by decide +kernel
theorem dX10_init_137 : decode cX10_init 137 = .ok (.putfield 79, 3) := by decide +kernel
theorem dX10_init_140 : decode cX10_init 140 = .ok (.aload_n 0, 1) := by decide +kernel
theorem dX10_init_141 : decode cX10_init 141 = .ok (.lconst 1, 1) := by decide +kernel
theorem dX10_init_142 : decode cX10_init 142 = .ok (.putfield 82, 3) := by decide +kernel
theorem dX10_init_145 : decode cX10_init 145 = .ok (.return_, 1) := by decide +kernel
theorem dX10_feed_0 : decode cX10_feed 0 = .ok (.aload_n 0, 1) := by decide +kernel
theorem dX10_feed_1 : decode cX10_feed 1 = .ok (.getfield 86, 3) := by decide +kernel
theorem dX10_feed_4 : decode cX10_feed 4 = .ok (.bipush 20, 2) := by decide +kernel
theorem dX10_feed_6 : decode cX10_feed 6 = .ok (.iadd, 1) := by decide +kernel
theorem dX10_feed_7 : decode cX10_feed 7 = .ok (.sipush 1600, 3) := by decide +kernel
theorem dX10_feed_10 : decode cX10_feed 10 = .ok (.if_icmp .le 15, 3) := by decide +kernel
theorem dX10_feed_13 : decode cX10_feed 13 = .ok (.aload_n 0, 1) := by decide +kernel
theorem dX10_feed_14 : decode cX10_feed 14 = .ok (.getfield 79, 3) := by decide +kernel
theorem dX10_feed_17 : decode cX10_feed 17 = .ok (.iconst 0, 1) := by decide +kernel
theorem dX10_feed_18 : decode cX10_feed 18 = .ok (.dup2, 1) := by decide +kernel
theorem dX10_feed_19 : decode cX10_feed 19 = .ok (.iaload, 1) := by decide +kernel
theorem dX10_feed_20 : decode cX10_feed 20 = .ok (.iconst 1, 1) := by decide +kernel
theorem dX10_feed_21 : decode cX10_feed 21 = .ok (.iadd, 1) := by decide +kernel
theorem dX10_feed_22 : decode cX10_feed 22 = .ok (.iastore, 1) := by decide +kernel
theorem dX10_feed_23 : decode cX10_feed 23 = .ok (.iconst (-1), 1) := by decide +kernel
theorem dX10_feed_24 : decode cX10_feed 24 = .ok (.ireturn, 1) := by decide +kernel
theorem dX10_feed_25 : decode cX10_feed 25 = .ok (.aload_n 0, 1) := by decide +kernel
theorem dX10_feed_26 : decode cX10_feed 26 = .ok (.iload_n 1, 1) := by decide +kernel
theorem dX10_feed_27 : decode cX10_feed 27 = .ok (.invokevirtual 90, 3) := by decide +kernel
theorem dX10_feed_30 : decode cX10_feed 30 = .ok (.aload_n 0, 1) := by decide +kernel
theorem dX10_feed_31 : decode cX10_feed 31 = .ok (.iload_n 2, 1) := by decide +kernel
theorem dX10_feed_32 : decode cX10_feed 32 = .ok (.invokevirtual 90, 3) := by decide +kernel
theorem dX10_feed_35 : decode cX10_feed 35 = .ok (.aload_n 0, 1) := by decide +kernel
theorem dX10_feed_36 : decode cX10_feed 36 = .ok (.iload_n 3, 1) := by decide +kernel
theorem dX10_feed_37 : decode cX10_feed 37 = .ok (.invokevirtual 90, 3) := by decide +kernel
theorem dX10_feed_40 : decode cX10_feed 40 = .ok (.aload_n 0, 1) := by decide +kernel
theorem dX10_feed_41 : decode cX10_feed 41 = .ok (.iload 4, 2) := by decide +kernel
theorem dX10_feed_43 : decode cX10_feed 43 = .ok (.invokevirtual 90, 3) := by decide +kernel
theorem dX10_feed_46 : decode cX10_feed 46 = .ok (.aload_n 0, 1) := by decide +kernel
theorem dX10_feed_47 : decode cX10_feed 47 = .ok (.iload 5, 2) := by decide +kernel
theorem dX10_feed_49 : decode cX10_feed 49 = .ok (.invokevirtual 90, 3) := by decide +kernel
theorem dX10_feed_52 : decode cX10_feed 52 = .ok (.aload_n 0, 1) := by decide +kernel
theorem dX10_feed_53 : decode cX10_feed 53 = .ok (.getfield 86, 3) := by decide +kernel
theorem dX10_feed_56 : decode cX10_feed 56 = .ok (.ireturn, 1) := by decide +kernel
theorem dX10_putNumber_0 : decode cX10_putNumber 0 = .ok (.bipush 24, 2) := by decide +kernel
theorem dX10_putNumber_2 : decode cX10_putNumber 2 = .ok (.istore_n 2, 1) := by decide +kernel
theorem dX10_putNumber_3 : decode cX10_putNumber 3 = .ok (.iload_n 2, 1) := by decide +kernel
theorem dX10_putNumber_4 : decode cX10_putNumber 4 = .ok (.ifCond .lt 47, 3) := by decide +kernel
theorem dX10_putNumber_7 : decode cX10_putNumber 7 = .ok (.aload_n 0, 1) := by decide +kernel
theorem dX10_putNumber_8 : decode cX10_putNumber 8 = .ok (.getfield 86, 3) := by decide +kernel
theorem dX10_putNumber_11 : decode cX10_putNumber 11 = .ok (.aload_n 0, 1) := by decide +kernel
theorem dX10_putNumber_12 : decode cX10_putNumber 12 = .ok (.getfield 9, 3) := by decide +kernel
theorem dX10_putNumber_15 : decode cX10_putNumber 15 = .ok (.arraylength, 1) := by decide +kernel
theorem dX10_putNumber_16 : decode cX10_putNumber 16 = .ok (.if_icmp .ge 35, 3) := by decide +kernel
theorem dX10_putNumber_19 : decode cX10_putNumber 19 = .ok (.aload_n 0, 1) := by decide +kernel
theorem dX10_putNumber_20 : decode cX10_putNumber 20 = .ok (.getfield 9, 3) := by decide +kernel
theorem dX10_putNumber_23 : decode cX10_putNumber 23 = .ok (.aload_n 0, 1) := by decide +kernel
theorem dX10_putNumber_24 : decode cX10_putNumber 24 = .ok (.getfield 86, 3) := by decide +kernel
theorem dX10_putNumber_27 : decode cX10_putNumber 27 = .ok (.iload_n 1, 1) := by decide +kernel
theorem dX10_putNumber_28 : decode cX10_putNumber 28 = .ok (.iload_n 2, 1) := by decide +kernel
theorem dX10_putNumber_29 : decode cX10_putNumber 29 = .ok (.ishr, 1) := by decide +kernel
theorem dX10_putNumber_30 : decode cX10_putNumber 30 = .ok (.sipush 255, 3) := by decide +kernel
theorem dX10_putNumber_33 : decode cX10_putNumber 33 = .ok (.iand, 1) := by decide +kernel
theorem dX10_putNumber_34 : decode cX10_putNumber 34 = .ok (.iastore, 1) := by decide +kernel
theorem dX10_putNumber_35 : decode cX10_putNumber 35 = .ok (.aload_n 0, 1) := by decide +kernel
theorem dX10_putNumber_36 : decode cX10_putNumber 36 = .ok (.dup, 1) := by decide +kernel
theorem dX10_putNumber_37 : decode cX10_putNumber 37 = .ok (.getfield 86, 3) := by decide +kernel
theorem dX10_putNumber_40 : decode cX10_putNumber 40 = .ok (.iconst 1, 1) := by decide +kernel
theorem dX10_putNumber_41 : decode cX10_putNumber 41 = .ok (.iadd, 1) := by decide +kernel
theorem dX10_putNumber_42 : decode cX10_putNumber 42 = .ok (.putfield 86, 3) := by decide +kernel
theorem dX10_putNumber_45 : decode cX10_putNumber 45 = .ok (.iinc 2 (-8), 3) := by decide +kernel
theorem dX10_putNumber_48 : decode cX10_putNumber 48 = .ok (.goto (-45), 3) := by decide +kernel
theorem dX10_putNumber_51 : decode cX10_putNumber 51 = .ok (.return_, 1) := by decide +kernel
theorem dX10_end_0 : decode cX10_end 0 = .ok (.iload_n 1, 1) := by decide +kernel
theorem dX10_end_1 : decode cX10_end 1 = .ok (.ifCond .lt 11, 3) := by decide +kernel
theorem dX10_end_4 : decode cX10_end 4 = .ok (.iload_n 1, 1) := by decide +kernel
theorem dX10_end_5 : decode cX10_end 5 = .ok (.aload_n 0, 1) := by decide +kernel
theorem dX10_end_6 : decode cX10_end 6 = .ok (.getfield 86, 3) := by decide +kernel
theorem dX10_end_9 : decode cX10_end 9 = .ok (.if_icmp .le 15, 3) := by decide +kernel
theorem dX10_end_12 : decode cX10_end 12 = .ok (.aload_n 0, 1) := by decide +kernel
theorem dX10_end_13 : decode cX10_end 13 = .ok (.getfield 79, 3) := by decide +kernel
theorem dX10_end_16 : decode cX10_end 16 = .ok (.iconst 0, 1) := by decide +kernel
theorem dX10_end_17 : decode cX10_end 17 = .ok (.dup2, 1) := by decide +kernel
theorem dX10_end_18 : decode cX10_end 18 = .ok (.iaload, 1) := by decide +kernel
theorem dX10_end_19 : decode cX10_end 19 = .ok (.iconst 1, 1) := by decide +kernel
theorem dX10_end_20 : decode cX10_end 20 = .ok (.iadd, 1) := by decide +kernel
theorem dX10_end_21 : decode cX10_end 21 = .ok (.iastore, 1) := by decide +kernel
theorem dX10_end_22 : decode cX10_end 22 = .ok (.iconst 0, 1) := by decide +kernel
theorem dX10_end_23 : decode cX10_end 23 = .ok (.ireturn, 1) := by decide +kernel
theorem dX10_end_24 : decode cX10_end 24 = .ok (.aload_n 0, 1) := by decide +kernel
theorem dX10_end_25 : decode cX10_end 25 = .ok (.iload_n 1, 1) := by decide +kernel
theorem dX10_end_26 : decode cX10_end 26 = .ok (.putfield 86, 3) := by decide +kernel
theorem dX10_end_29 : decode cX10_end 29 = .ok (.iconst 1, 1) := by decide +kernel
theorem dX10_end_30 : decode cX10_end 30 = .ok (.ireturn, 1) := by decide +kernel
theorem dX10_takeTape_0 : decode cX10_takeTape 0 = .ok (.aload_n 0, 1) := by decide +kernel
theorem dX10_takeTape_1 : decode cX10_takeTape 1 = .ok (.getfield 86, 3) := by decide +kernel
theorem dX10_takeTape_4 : decode cX10_takeTape 4 = .ok (.istore_n 1, 1) := by decide +kernel
theorem dX10_takeTape_5 : decode cX10_takeTape 5 = .ok (.aload_n 0, 1) := by decide +kernel
theorem dX10_takeTape_6 : decode cX10_takeTape 6 = .ok (.iconst 0, 1) := by decide +kernel
theorem dX10_takeTape_7 : decode cX10_takeTape 7 = .ok (.putfield 86, 3) := by decide +kernel
theorem dX10_takeTape_10 : decode cX10_takeTape 10 = .ok (.iload_n 1, 1) := by decide +kernel
theorem dX10_takeTape_11 : decode cX10_takeTape 11 = .ok (.ireturn, 1) := by decide +kernel
theorem dX10_house_0 : decode cX10_house 0 = .ok (.aload_n 0, 1) := by decide +kernel
theorem dX10_house_1 : decode cX10_house 1 = .ok (.getfield 26, 3) := by decide +kernel
theorem dX10_house_4 : decode cX10_house 4 = .ok (.aload_n 0, 1) := by decide +kernel
theorem dX10_house_5 : decode cX10_house 5 = .ok (.getfield 9, 3) := by decide +kernel
theorem dX10_house_8 : decode cX10_house 8 = .ok (.aload_n 0, 1) := by decide +kernel
theorem dX10_house_9 : decode cX10_house 9 = .ok (.invokevirtual 94, 3) := by decide +kernel
theorem dX10_house_12 : decode cX10_house 12 = .ok (.invokevirtual 98, 3) := by decide +kernel
theorem dX10_house_15 : decode cX10_house 15 = .ok (.aload_n 0, 1) := by decide +kernel
theorem dX10_house_16 : decode cX10_house 16 = .ok (.getfield 35, 3) := by decide +kernel
theorem dX10_house_19 : decode cX10_house 19 = .ok (.aload_n 0, 1) := by decide +kernel
theorem dX10_house_20 : decode cX10_house 20 = .ok (.getfield 20, 3) := by decide +kernel
theorem dX10_house_23 : decode cX10_house 23 = .ok (.invokevirtual 102, 3) := by decide +kernel
theorem dX10_house_26 : decode cX10_house 26 = .ok (.istore_n 1, 1) := by decide +kernel
theorem dX10_house_27 : decode cX10_house 27 = .ok (.iload_n 1, 1) := by decide +kernel
theorem dX10_house_28 : decode cX10_house 28 = .ok (.iconst (-1), 1) := by decide +kernel
theorem dX10_house_29 : decode cX10_house 29 = .ok (.if_icmp .ne 15, 3) := by decide +kernel
theorem dX10_house_32 : decode cX10_house 32 = .ok (.aload_n 0, 1) := by decide +kernel
theorem dX10_house_33 : decode cX10_house 33 = .ok (.getfield 79, 3) := by decide +kernel
theorem dX10_house_36 : decode cX10_house 36 = .ok (.iconst 1, 1) := by decide +kernel
theorem dX10_house_37 : decode cX10_house 37 = .ok (.dup2, 1) := by decide +kernel
theorem dX10_house_38 : decode cX10_house 38 = .ok (.iaload, 1) := by decide +kernel
theorem dX10_house_39 : decode cX10_house 39 = .ok (.iconst 1, 1) := by decide +kernel
theorem dX10_house_40 : decode cX10_house 40 = .ok (.iadd, 1) := by decide +kernel
theorem dX10_house_41 : decode cX10_house 41 = .ok (.iastore, 1) := by decide +kernel
theorem dX10_house_42 : decode cX10_house 42 = .ok (.iconst (-1), 1) := by decide +kernel
theorem dX10_house_43 : decode cX10_house 43 = .ok (.ireturn, 1) := by decide +kernel
theorem dX10_house_44 : decode cX10_house 44 = .ok (.aload_n 0, 1) := by decide +kernel
theorem dX10_house_45 : decode cX10_house 45 = .ok (.getfield 20, 3) := by decide +kernel
theorem dX10_house_48 : decode cX10_house 48 = .ok (.astore_n 2, 1) := by decide +kernel
theorem dX10_house_49 : decode cX10_house 49 = .ok (.aload_n 0, 1) := by decide +kernel
theorem dX10_house_50 : decode cX10_house 50 = .ok (.aload_n 0, 1) := by decide +kernel
theorem dX10_house_51 : decode cX10_house 51 = .ok (.getfield 16, 3) := by decide +kernel
theorem dX10_house_54 : decode cX10_house 54 = .ok (.putfield 20, 3) := by decide +kernel
theorem dX10_house_57 : decode cX10_house 57 = .ok (.aload_n 0, 1) := by decide +kernel
theorem dX10_house_58 : decode cX10_house 58 = .ok (.aload_n 2, 1) := by decide +kernel
theorem dX10_house_59 : decode cX10_house 59 = .ok (.putfield 16, 3) := by decide +kernel
theorem dX10_house_62 : decode cX10_house 62 = .ok (.aload_n 0, 1) := by decide +kernel
theorem dX10_house_63 : decode cX10_house 63 = .ok (.getfield 42, 3) := by decide +kernel
theorem dX10_house_66 : decode cX10_house 66 = .ok (.aload_n 0, 1) := by decide +kernel
theorem dX10_house_67 : decode cX10_house 67 = .ok (.getfield 16, 3) := by decide +kernel
theorem dX10_house_70 : decode cX10_house 70 = .ok (.invokevirtual 106, 3) := by decide +kernel
theorem dX10_house_73 : decode cX10_house 73 = .ok (.iload_n 1, 1) := by decide +kernel
theorem dX10_house_74 : decode cX10_house 74 = .ok (.ireturn, 1) := by decide +kernel
theorem dX10_fault_0 : decode cX10_fault 0 = .ok (.iload_n 1, 1) := by decide +kernel
theorem dX10_fault_1 : decode cX10_fault 1 = .ok (.lookupswitch 43 #[(0, 27), (1, 35)], 27) := by decide +kernel
theorem dX10_fault_28 : decode cX10_fault 28 = .ok (.aload_n 0, 1) := by decide +kernel
theorem dX10_fault_29 : decode cX10_fault 29 = .ok (.getfield 35, 3) := by decide +kernel
theorem dX10_fault_32 : decode cX10_fault 32 = .ok (.getfield 110, 3) := by decide +kernel
theorem dX10_fault_35 : decode cX10_fault 35 = .ok (.ireturn, 1) := by decide +kernel
theorem dX10_fault_36 : decode cX10_fault 36 = .ok (.aload_n 0, 1) := by decide +kernel
theorem dX10_fault_37 : decode cX10_fault 37 = .ok (.getfield 35, 3) := by decide +kernel
theorem dX10_fault_40 : decode cX10_fault 40 = .ok (.getfield 113, 3) := by decide +kernel
theorem dX10_fault_43 : decode cX10_fault 43 = .ok (.ireturn, 1) := by decide +kernel
theorem dX10_fault_44 : decode cX10_fault 44 = .ok (.iconst (-1), 1) := by decide +kernel
theorem dX10_fault_45 : decode cX10_fault 45 = .ok (.ireturn, 1) := by decide +kernel
theorem dX10_has_0 : decode cX10_has 0 = .ok (.iload_n 1, 1) := by decide +kernel
theorem dX10_has_1 : decode cX10_has 1 = .ok (.tableswitch 147 0 9 #[55, 63, 71, 79, 87, 95, 107, 119, 131, 139], 55) := by decide +kernel
theorem dX10_has_56 : decode cX10_has 56 = .ok (.aload_n 0, 1) := by decide +kernel
theorem dX10_has_57 : decode cX10_has 57 = .ok (.getfield 16, 3) := by decide +kernel
theorem dX10_has_60 : decode cX10_has 60 = .ok (.getfield 116, 3) := by decide +kernel
theorem dX10_has_63 : decode cX10_has 63 = .ok (.ireturn, 1) := by decide +kernel
theorem dX10_has_64 : decode cX10_has 64 = .ok (.aload_n 0, 1) := by decide +kernel
theorem dX10_has_65 : decode cX10_has 65 = .ok (.getfield 16, 3) := by decide +kernel
theorem dX10_has_68 : decode cX10_has 68 = .ok (.getfield 119, 3) := by decide +kernel
theorem dX10_has_71 : decode cX10_has 71 = .ok (.ireturn, 1) := by decide +kernel
theorem dX10_has_72 : decode cX10_has 72 = .ok (.aload_n 0, 1) := by decide +kernel
theorem dX10_has_73 : decode cX10_has 73 = .ok (.getfield 16, 3) := by decide +kernel
theorem dX10_has_76 : decode cX10_has 76 = .ok (.getfield 122, 3) := by decide +kernel
theorem dX10_has_79 : decode cX10_has 79 = .ok (.ireturn, 1) := by decide +kernel
theorem dX10_has_80 : decode cX10_has 80 = .ok (.aload_n 0, 1) := by decide +kernel
theorem dX10_has_81 : decode cX10_has 81 = .ok (.getfield 16, 3) := by decide +kernel
theorem dX10_has_84 : decode cX10_has 84 = .ok (.getfield 125, 3) := by decide +kernel
theorem dX10_has_87 : decode cX10_has 87 = .ok (.ireturn, 1) := by decide +kernel
theorem dX10_has_88 : decode cX10_has 88 = .ok (.aload_n 0, 1) := by decide +kernel
theorem dX10_has_89 : decode cX10_has 89 = .ok (.getfield 16, 3) := by decide +kernel
theorem dX10_has_92 : decode cX10_has 92 = .ok (.getfield 128, 3) := by decide +kernel
theorem dX10_has_95 : decode cX10_has 95 = .ok (.ireturn, 1) := by decide +kernel
theorem dX10_has_96 : decode cX10_has 96 = .ok (.aload_n 0, 1) := by decide +kernel
theorem dX10_has_97 : decode cX10_has 97 = .ok (.getfield 16, 3) := by decide +kernel
theorem dX10_has_100 : decode cX10_has 100 = .ok (.getfield 131, 3) := by decide +kernel
theorem dX10_has_103 : decode cX10_has 103 = .ok (.iconst 0, 1) := by decide +kernel
theorem dX10_has_104 : decode cX10_has 104 = .ok (.invokevirtual 137, 3) := by decide +kernel
theorem dX10_has_107 : decode cX10_has 107 = .ok (.ireturn, 1) := by decide +kernel
theorem dX10_has_108 : decode cX10_has 108 = .ok (.aload_n 0, 1) := by decide +kernel
theorem dX10_has_109 : decode cX10_has 109 = .ok (.getfield 16, 3) := by decide +kernel
theorem dX10_has_112 : decode cX10_has 112 = .ok (.getfield 131, 3) := by decide +kernel
theorem dX10_has_115 : decode cX10_has 115 = .ok (.iconst 1, 1) := by decide +kernel
theorem dX10_has_116 : decode cX10_has 116 = .ok (.invokevirtual 137, 3) := by decide +kernel
theorem dX10_has_119 : decode cX10_has 119 = .ok (.ireturn, 1) := by decide +kernel
theorem dX10_has_120 : decode cX10_has 120 = .ok (.aload_n 0, 1) := by decide +kernel
theorem dX10_has_121 : decode cX10_has 121 = .ok (.getfield 16, 3) := by decide +kernel
theorem dX10_has_124 : decode cX10_has 124 = .ok (.getfield 131, 3) := by decide +kernel
theorem dX10_has_127 : decode cX10_has 127 = .ok (.iconst 2, 1) := by decide +kernel
theorem dX10_has_128 : decode cX10_has 128 = .ok (.invokevirtual 137, 3) := by decide +kernel
theorem dX10_has_131 : decode cX10_has 131 = .ok (.ireturn, 1) := by decide +kernel
theorem dX10_has_132 : decode cX10_has 132 = .ok (.aload_n 0, 1) := by decide +kernel
theorem dX10_has_133 : decode cX10_has 133 = .ok (.getfield 16, 3) := by decide +kernel
theorem dX10_has_136 : decode cX10_has 136 = .ok (.getfield 141, 3) := by decide +kernel
theorem dX10_has_139 : decode cX10_has 139 = .ok (.ireturn, 1) := by decide +kernel
theorem dX10_has_140 : decode cX10_has 140 = .ok (.aload_n 0, 1) := by decide +kernel
theorem dX10_has_141 : decode cX10_has 141 = .ok (.getfield 16, 3) := by decide +kernel
theorem dX10_has_144 : decode cX10_has 144 = .ok (.getfield 144, 3) := by decide +kernel
theorem dX10_has_147 : decode cX10_has 147 = .ok (.ireturn, 1) := by decide +kernel
theorem dX10_has_148 : decode cX10_has 148 = .ok (.iconst (-1), 1) := by decide +kernel
theorem dX10_has_149 : decode cX10_has 149 = .ok (.ireturn, 1) := by decide +kernel
theorem dX10_letter_0 : decode cX10_letter 0 = .ok (.aload_n 0, 1) := by decide +kernel
theorem dX10_letter_1 : decode cX10_letter 1 = .ok (.iload_n 1, 1) := by decide +kernel
theorem dX10_letter_2 : decode cX10_letter 2 = .ok (.iload_n 2, 1) := by decide +kernel
theorem dX10_letter_3 : decode cX10_letter 3 = .ok (.invokevirtual 147, 3) := by decide +kernel
theorem dX10_letter_6 : decode cX10_letter 6 = .ok (.istore 4, 2) := by decide +kernel
theorem dX10_letter_8 : decode cX10_letter 8 = .ok (.iconst 0, 1) := by decide +kernel
theorem dX10_letter_9 : decode cX10_letter 9 = .ok (.istore 5, 2) := by decide +kernel
theorem dX10_letter_11 : decode cX10_letter 11 = .ok (.iload 5, 2) := by decide +kernel
theorem dX10_letter_13 : decode cX10_letter 13 = .ok (.bipush 6, 2) := by decide +kernel
theorem dX10_letter_15 : decode cX10_letter 15 = .ok (.if_icmp .ge 19, 3) := by decide +kernel
theorem dX10_letter_18 : decode cX10_letter 18 = .ok (.iload 4, 2) := by decide +kernel
theorem dX10_letter_20 : decode cX10_letter 20 = .ok (.iconst 5, 1) := by decide +kernel
theorem dX10_letter_21 : decode cX10_letter 21 = .ok (.iload 5, 2) := by decide +kernel
theorem dX10_letter_23 : decode cX10_letter 23 = .ok (.imul, 1) := by decide +kernel
theorem dX10_letter_24 : decode cX10_letter 24 = .ok (.ishr, 1) := by decide +kernel
theorem dX10_letter_25 : decode cX10_letter 25 = .ok (.ifCond .le 9, 3) := by decide +kernel
theorem dX10_letter_28 : decode cX10_letter 28 = .ok (.iinc 5 1, 3) := by decide +kernel
theorem dX10_letter_31 : decode cX10_letter 31 = .ok (.goto (-20), 3) := by decide +kernel
theorem dX10_letter_34 : decode cX10_letter 34 = .ok (.iload_n 3, 1) := by decide +kernel
theorem dX10_letter_35 : decode cX10_letter 35 = .ok (.ifCond .lt 9, 3) := by decide +kernel
theorem dX10_letter_38 : decode cX10_letter 38 = .ok (.iload_n 3, 1) := by decide +kernel
theorem dX10_letter_39 : decode cX10_letter 39 = .ok (.iload 5, 2) := by decide +kernel
theorem dX10_letter_41 : decode cX10_letter 41 = .ok (.if_icmp .lt 5, 3) := by decide +kernel
theorem dX10_letter_44 : decode cX10_letter 44 = .ok (.iconst (-1), 1) := by decide +kernel
theorem dX10_letter_45 : decode cX10_letter 45 = .ok (.ireturn, 1) := by decide +kernel
theorem dX10_letter_46 : decode cX10_letter 46 = .ok (.bipush 96, 2) := by decide +kernel
theorem dX10_letter_48 : decode cX10_letter 48 = .ok (.iload 4, 2) := by decide +kernel
theorem dX10_letter_50 : decode cX10_letter 50 = .ok (.iconst 5, 1) := by decide +kernel
theorem dX10_letter_51 : decode cX10_letter 51 = .ok (.iload 5, 2) := by decide +kernel
theorem dX10_letter_53 : decode cX10_letter 53 = .ok (.iconst 1, 1) := by decide +kernel
theorem dX10_letter_54 : decode cX10_letter 54 = .ok (.isub, 1) := by decide +kernel
theorem dX10_letter_55 : decode cX10_letter 55 = .ok (.iload_n 3, 1) := by decide +kernel
theorem dX10_letter_56 : decode cX10_letter 56 = .ok (.isub, 1) := by decide +kernel
theorem dX10_letter_57 : decode cX10_letter 57 = .ok (.imul, 1) := by decide +kernel
theorem dX10_letter_58 : decode cX10_letter 58 = .ok (.ishr, 1) := by decide +kernel
theorem dX10_letter_59 : decode cX10_letter 59 = .ok (.bipush 31, 2) := by decide +kernel
theorem dX10_letter_61 : decode cX10_letter 61 = .ok (.iand, 1) := by decide +kernel
theorem dX10_letter_62 : decode cX10_letter 62 = .ok (.iadd, 1) := by decide +kernel
theorem dX10_letter_63 : decode cX10_letter 63 = .ok (.ireturn, 1) := by decide +kernel
theorem dX10_nameOf_0 : decode cX10_nameOf 0 = .ok (.aload_n 0, 1) := by decide +kernel
theorem dX10_nameOf_1 : decode cX10_nameOf 1 = .ok (.iload_n 2, 1) := by decide +kernel
theorem dX10_nameOf_2 : decode cX10_nameOf 2 = .ok (.invokevirtual 151, 3) := by decide +kernel
theorem dX10_nameOf_5 : decode cX10_nameOf 5 = .ok (.astore_n 3, 1) := by decide +kernel
theorem dX10_nameOf_6 : decode cX10_nameOf 6 = .ok (.aload_n 0, 1) := by decide +kernel
theorem dX10_nameOf_7 : decode cX10_nameOf 7 = .ok (.iload_n 2, 1) := by decide +kernel
theorem dX10_nameOf_8 : decode cX10_nameOf 8 = .ok (.invokevirtual 155, 3) := by decide +kernel
theorem dX10_nameOf_11 : decode cX10_nameOf 11 = .ok (.astore 4, 2) := by decide +kernel
theorem dX10_nameOf_13 : decode cX10_nameOf 13 = .ok (.iload_n 1, 1) := by decide +kernel
theorem dX10_nameOf_14 : decode cX10_nameOf 14 = .ok (.ifCond .ne 21, 3) := by decide +kernel
theorem dX10_nameOf_17 : decode cX10_nameOf 17 = .ok (.aload_n 0, 1) := by decide +kernel
theorem dX10_nameOf_18 : decode cX10_nameOf 18 = .ok (.iload_n 2, 1) := by decide +kernel
theorem dX10_nameOf_19 : decode cX10_nameOf 19 = .ok (.invokevirtual 159, 3) := by decide +kernel
theorem dX10_nameOf_22 : decode cX10_nameOf 22 = .ok (.ifCond .eq 13, 3) := by decide +kernel
theorem dX10_nameOf_25 : decode cX10_nameOf 25 = .ok (.aload_n 0, 1) := by decide +kernel
theorem dX10_nameOf_26 : decode cX10_nameOf 26 = .ok (.getfield 16, 3) := by decide +kernel
theorem dX10_nameOf_29 : decode cX10_nameOf 29 = .ok (.getfield 163, 3) := by decide +kernel
theorem dX10_nameOf_32 : decode cX10_nameOf 32 = .ok (.iload_n 2, 1) := by decide +kernel
theorem dX10_nameOf_33 : decode cX10_nameOf 33 = .ok (.iaload, 1) := by decide +kernel
theorem dX10_nameOf_34 : decode cX10_nameOf 34 = .ok (.ireturn, 1) := by decide +kernel
theorem dX10_nameOf_35 : decode cX10_nameOf 35 = .ok (.iload_n 1, 1) := by decide +kernel
theorem dX10_nameOf_36 : decode cX10_nameOf 36 = .ok (.iconst 1, 1) := by decide +kernel
theorem dX10_nameOf_37 : decode cX10_nameOf 37 = .ok (.if_icmp .ne 12, 3) := by decide +kernel
theorem dX10_nameOf_40 : decode cX10_nameOf 40 = .ok (.aload_n 3, 1) := by decide +kernel
theorem dX10_nameOf_41 : decode cX10_nameOf 41 = .ok (.ifnull 8, 3) := by decide +kernel
theorem dX10_nameOf_44 : decode cX10_nameOf 44 = .ok (.aload_n 3, 1) := by decide +kernel
theorem dX10_nameOf_45 : decode cX10_nameOf 45 = .ok (.getfield 166, 3) := by decide +kernel
theorem dX10_nameOf_48 : decode cX10_nameOf 48 = .ok (.ireturn, 1) := by decide +kernel
theorem dX10_nameOf_49 : decode cX10_nameOf 49 = .ok (.iload_n 1, 1) := by decide +kernel
theorem dX10_nameOf_50 : decode cX10_nameOf 50 = .ok (.iconst 2, 1) := by decide +kernel
theorem dX10_nameOf_51 : decode cX10_nameOf 51 = .ok (.if_icmp .ne 16, 3) := by decide +kernel
theorem dX10_nameOf_54 : decode cX10_nameOf 54 = .ok (.aload 4, 2) := by decide +kernel
theorem dX10_nameOf_56 : decode cX10_nameOf 56 = .ok (.ifnull 11, 3) := by decide +kernel
theorem dX10_nameOf_59 : decode cX10_nameOf 59 = .ok (.aload 4, 2) := by decide +kernel
theorem dX10_nameOf_61 : decode cX10_nameOf 61 = .ok (.getfield 169, 3) := by decide +kernel
theorem dX10_nameOf_64 : decode cX10_nameOf 64 = .ok (.goto 4, 3) := by decide +kernel
theorem dX10_nameOf_67 : decode cX10_nameOf 67 = .ok (.iconst 0, 1) := by decide +kernel
theorem dX10_nameOf_68 : decode cX10_nameOf 68 = .ok (.ireturn, 1) := by decide +kernel
theorem dX10_isTune_0 : decode cX10_isTune 0 = .ok (.iload_n 1, 1) := by decide +kernel
theorem dX10_isTune_1 : decode cX10_isTune 1 = .ok (.ifCond .lt 23, 3) := by decide +kernel
theorem dX10_isTune_4 : decode cX10_isTune 4 = .ok (.iload_n 1, 1) := by decide +kernel
theorem dX10_isTune_5 : decode cX10_isTune 5 = .ok (.aload_n 0, 1) := by decide +kernel
theorem dX10_isTune_6 : decode cX10_isTune 6 = .ok (.getfield 16, 3) := by decide +kernel
theorem dX10_isTune_9 : decode cX10_isTune 9 = .ok (.getfield 122, 3) := by decide +kernel
theorem dX10_isTune_12 : decode cX10_isTune 12 = .ok (.if_icmp .ge 12, 3) := by decide +kernel
theorem dX10_isTune_15 : decode cX10_isTune 15 = .ok (.iload_n 1, 1) := by decide +kernel
theorem dX10_isTune_16 : decode cX10_isTune 16 = .ok (.iconst 3, 1) := by decide +kernel
theorem dX10_isTune_17 : decode cX10_isTune 17 = .ok (.if_icmp .ge 7, 3) := by decide +kernel
theorem dX10_isTune_20 : decode cX10_isTune 20 = .ok (.iconst 1, 1) := by decide +kernel
theorem dX10_isTune_21 : decode cX10_isTune 21 = .ok (.goto 4, 3) := by decide +kernel
theorem dX10_isTune_24 : decode cX10_isTune 24 = .ok (.iconst 0, 1) := by decide +kernel
theorem dX10_isTune_25 : decode cX10_isTune 25 = .ok (.ireturn, 1) := by decide +kernel
theorem dX10_isWhistle_0 : decode cX10_isWhistle 0 = .ok (.iload_n 0, 1) := by decide +kernel
theorem dX10_isWhistle_1 : decode cX10_isWhistle 1 = .ok (.ifCond .lt 14, 3) := by decide +kernel
theorem dX10_isWhistle_4 : decode cX10_isWhistle 4 = .ok (.iload_n 0, 1) := by decide +kernel
theorem dX10_isWhistle_5 : decode cX10_isWhistle 5 = .ok (.sipush 1000, 3) := by decide +kernel
theorem dX10_isWhistle_8 : decode cX10_isWhistle 8 = .ok (.if_icmp .ge 7, 3) := by decide +kernel
theorem dX10_isWhistle_11 : decode cX10_isWhistle 11 = .ok (.iconst 1, 1) := by decide +kernel
theorem dX10_isWhistle_12 : decode cX10_isWhistle 12 = .ok (.goto 4, 3) := by decide +kernel
theorem dX10_isWhistle_15 : decode cX10_isWhistle 15 = .ok (.iconst 0, 1) := by decide +kernel
theorem dX10_isWhistle_16 : decode cX10_isWhistle 16 = .ok (.ireturn, 1) := by decide +kernel
theorem dX10_doorAt_0 : decode cX10_doorAt 0 = .ok (.iload_n 1, 1) := by decide +kernel
theorem dX10_doorAt_1 : decode cX10_doorAt 1 = .ok (.ifCond .lt 31, 3) := by decide +kernel
theorem dX10_doorAt_4 : decode cX10_doorAt 4 = .ok (.iload_n 1, 1) := by decide +kernel
theorem dX10_doorAt_5 : decode cX10_doorAt 5 = .ok (.aload_n 0, 1) := by decide +kernel
theorem dX10_doorAt_6 : decode cX10_doorAt 6 = .ok (.getfield 16, 3) := by decide +kernel
theorem dX10_doorAt_9 : decode cX10_doorAt 9 = .ok (.getfield 125, 3) := by decide +kernel
theorem dX10_doorAt_12 : decode cX10_doorAt 12 = .ok (.if_icmp .ge 20, 3) := by decide +kernel
theorem dX10_doorAt_15 : decode cX10_doorAt 15 = .ok (.iload_n 1, 1) := by decide +kernel
theorem dX10_doorAt_16 : decode cX10_doorAt 16 = .ok (.iconst 4, 1) := by decide +kernel
theorem dX10_doorAt_17 : decode cX10_doorAt 17 = .ok (.if_icmp .ge 15, 3) := by decide +kernel
theorem dX10_doorAt_20 : decode cX10_doorAt 20 = .ok (.aload_n 0, 1) := by decide +kernel
theorem dX10_doorAt_21 : decode cX10_doorAt 21 = .ok (.getfield 16, 3) := by decide +kernel
theorem dX10_doorAt_24 : decode cX10_doorAt 24 = .ok (.getfield 172, 3) := by decide +kernel
theorem dX10_doorAt_27 : decode cX10_doorAt 27 = .ok (.iload_n 1, 1) := by decide +kernel
theorem dX10_doorAt_28 : decode cX10_doorAt 28 = .ok (.aaload, 1) := by decide +kernel
theorem dX10_doorAt_29 : decode cX10_doorAt 29 = .ok (.goto 4, 3) := by decide +kernel
theorem dX10_doorAt_32 : decode cX10_doorAt 32 = .ok (.aconst_null, 1) := by decide +kernel
theorem dX10_doorAt_33 : decode cX10_doorAt 33 = .ok (.areturn, 1) := by decide +kernel
theorem dX10_personAt_0 : decode cX10_personAt 0 = .ok (.iload_n 1, 1) := by decide +kernel
theorem dX10_personAt_1 : decode cX10_personAt 1 = .ok (.ifCond .lt 31, 3) := by decide +kernel
theorem dX10_personAt_4 : decode cX10_personAt 4 = .ok (.iload_n 1, 1) := by decide +kernel
theorem dX10_personAt_5 : decode cX10_personAt 5 = .ok (.aload_n 0, 1) := by decide +kernel
theorem dX10_personAt_6 : decode cX10_personAt 6 = .ok (.getfield 16, 3) := by decide +kernel
theorem dX10_personAt_9 : decode cX10_personAt 9 = .ok (.getfield 128, 3) := by decide +kernel
theorem dX10_personAt_12 : decode cX10_personAt 12 = .ok (.if_icmp .ge 20, 3) := by decide +kernel
theorem dX10_personAt_15 : decode cX10_personAt 15 = .ok (.iload_n 1, 1) := by decide +kernel
theorem dX10_personAt_16 : decode cX10_personAt 16 = .ok (.iconst 4, 1) := by decide +kernel
theorem dX10_personAt_17 : decode cX10_personAt 17 = .ok (.if_icmp .ge 15, 3) := by decide +kernel
theorem dX10_personAt_20 : decode cX10_personAt 20 = .ok (.aload_n 0, 1) := by decide +kernel
theorem dX10_personAt_21 : decode cX10_personAt 21 = .ok (.getfield 16, 3) := by decide +kernel
theorem dX10_personAt_24 : decode cX10_personAt 24 = .ok (.getfield 176, 3) := by decide +kernel
theorem dX10_personAt_27 : decode cX10_personAt 27 = .ok (.iload_n 1, 1) := by decide +kernel
theorem dX10_personAt_28 : decode cX10_personAt 28 = .ok (.aaload, 1) := by decide +kernel
theorem dX10_personAt_29 : decode cX10_personAt 29 = .ok (.goto 4, 3) := by decide +kernel
theorem dX10_personAt_32 : decode cX10_personAt 32 = .ok (.aconst_null, 1) := by decide +kernel
theorem dX10_personAt_33 : decode cX10_personAt 33 = .ok (.areturn, 1) := by decide +kernel
theorem dX10_door_0 : decode cX10_door 0 = .ok (.aload_n 0, 1) := by decide +kernel
theorem dX10_door_1 : decode cX10_door 1 = .ok (.iload_n 1, 1) := by decide +kernel
theorem dX10_door_2 : decode cX10_door 2 = .ok (.invokevirtual 151, 3) := by decide +kernel
theorem dX10_door_5 : decode cX10_door 5 = .ok (.astore_n 3, 1) := by decide +kernel
theorem dX10_door_6 : decode cX10_door 6 = .ok (.aload_n 3, 1) := by decide +kernel
theorem dX10_door_7 : decode cX10_door 7 = .ok (.ifnonnull 5, 3) := by decide +kernel
theorem dX10_door_10 : decode cX10_door 10 = .ok (.iconst (-1), 1) := by decide +kernel
theorem dX10_door_11 : decode cX10_door 11 = .ok (.ireturn, 1) := by decide +kernel
theorem dX10_door_12 : decode cX10_door 12 = .ok (.iload_n 2, 1) := by decide +kernel
theorem dX10_door_13 : decode cX10_door 13 = .ok (.tableswitch 51 0 3 #[31, 36, 41, 46], 31) := by decide +kernel
theorem dX10_door_44 : decode cX10_door 44 = .ok (.aload_n 3, 1) := by decide +kernel
theorem dX10_door_45 : decode cX10_door 45 = .ok (.getfield 180, 3) := by decide +kernel
theorem dX10_door_48 : decode cX10_door 48 = .ok (.ireturn, 1) := by decide +kernel
theorem dX10_door_49 : decode cX10_door 49 = .ok (.aload_n 3, 1) := by decide +kernel
theorem dX10_door_50 : decode cX10_door 50 = .ok (.getfield 183, 3) := by decide +kernel
theorem dX10_door_53 : decode cX10_door 53 = .ok (.ireturn, 1) := by decide +kernel
theorem dX10_door_54 : decode cX10_door 54 = .ok (.aload_n 3, 1) := by decide +kernel
theorem dX10_door_55 : decode cX10_door 55 = .ok (.getfield 186, 3) := by decide +kernel
theorem dX10_door_58 : decode cX10_door 58 = .ok (.ireturn, 1) := by decide +kernel
theorem dX10_door_59 : decode cX10_door 59 = .ok (.aload_n 3, 1) := by decide +kernel
theorem dX10_door_60 : decode cX10_door 60 = .ok (.getfield 189, 3) := by decide +kernel
theorem dX10_door_63 : decode cX10_door 63 = .ok (.ireturn, 1) := by decide +kernel
theorem dX10_door_64 : decode cX10_door 64 = .ok (.iconst (-1), 1) := by decide +kernel
theorem dX10_door_65 : decode cX10_door 65 = .ok (.ireturn, 1) := by decide +kernel
theorem dX10_person_0 : decode cX10_person 0 = .ok (.aload_n 0, 1) := by decide +kernel
theorem dX10_person_1 : decode cX10_person 1 = .ok (.iload_n 1, 1) := by decide +kernel
theorem dX10_person_2 : decode cX10_person 2 = .ok (.invokevirtual 155, 3) := by decide +kernel
theorem dX10_person_5 : decode cX10_person 5 = .ok (.astore_n 3, 1) := by decide +kernel
theorem dX10_person_6 : decode cX10_person 6 = .ok (.aload_n 3, 1) := by decide +kernel
theorem dX10_person_7 : decode cX10_person 7 = .ok (.ifnonnull 5, 3) := by decide +kernel
theorem dX10_person_10 : decode cX10_person 10 = .ok (.iconst (-1), 1) := by decide +kernel
