theorem dX11_cost_69 : decode cX11_cost 69 = .ok (.istore 6, 2) := by decide +kernel
theorem dX11_cost_71 : decode cX11_cost 71 = .ok (.iconst 1, 1) := by decide +kernel
theorem dX11_cost_72 : decode cX11_cost 72 = .ok (.istore 7, 2) := by decide +kernel
theorem dX11_cost_74 : decode cX11_cost 74 = .ok (.iload 7, 2) := by decide +kernel
theorem dX11_cost_76 : decode cX11_cost 76 = .ok (.bipush 20, 2) := by decide +kernel
theorem dX11_cost_78 : decode cX11_cost 78 = .ok (.if_icmp .gt 37, 3) := by decide +kernel
theorem dX11_cost_81 : decode cX11_cost 81 = .ok (.aload_n 0, 1) := by decide +kernel
theorem dX11_cost_82 : decode cX11_cost 82 = .ok (.iload_n 1, 1) := by decide +kernel
theorem dX11_cost_83 : decode cX11_cost 83 = .ok (.iload_n 2, 1) := by decide +kernel
theorem dX11_cost_84 : decode cX11_cost 84 = .ok (.iload 7, 2) := by decide +kernel
theorem dX11_cost_86 : decode cX11_cost 86 = .ok (.invokevirtual 542, 3) := by decide +kernel
theorem dX11_cost_89 : decode cX11_cost 89 = .ok (.istore 8, 2) := by decide +kernel
theorem dX11_cost_91 : decode cX11_cost 91 = .ok (.iload 8, 2) := by decide +kernel
theorem dX11_cost_93 : decode cX11_cost 93 = .ok (.iload 6, 2) := by decide +kernel
theorem dX11_cost_95 : decode cX11_cost 95 = .ok (.if_icmp .lt 6, 3) := by decide +kernel
theorem dX11_cost_98 : decode cX11_cost 98 = .ok (.goto 11, 3) := by decide +kernel
theorem dX11_cost_101 : decode cX11_cost 101 = .ok (.iload 7, 2) := by decide +kernel
theorem dX11_cost_103 : decode cX11_cost 103 = .ok (.istore 5, 2) := by decide +kernel
theorem dX11_cost_105 : decode cX11_cost 105 = .ok (.iload 8, 2) := by decide +kernel
theorem dX11_cost_107 : decode cX11_cost 107 = .ok (.istore 6, 2) := by decide +kernel
theorem dX11_cost_109 : decode cX11_cost 109 = .ok (.iinc 7 1, 3) := by decide +kernel
theorem dX11_cost_112 : decode cX11_cost 112 = .ok (.goto (-38), 3) := by decide +kernel
theorem dX11_cost_115 : decode cX11_cost 115 = .ok (.iload 5, 2) := by decide +kernel
theorem dX11_cost_117 : decode cX11_cost 117 = .ok (.ireturn, 1) := by decide +kernel
theorem dX11_formed_0 : decode cX11_formed 0 = .ok (.iconst 0, 1) := by decide +kernel
theorem dX11_formed_1 : decode cX11_formed 1 = .ok (.istore 5, 2) := by decide +kernel
theorem dX11_formed_3 : decode cX11_formed 3 = .ok (.iconst 0, 1) := by decide +kernel
theorem dX11_formed_4 : decode cX11_formed 4 = .ok (.istore 6, 2) := by decide +kernel
theorem dX11_formed_6 : decode cX11_formed 6 = .ok (.iload 6, 2) := by decide +kernel
theorem dX11_formed_8 : decode cX11_formed 8 = .ok (.aload_n 0, 1) := by decide +kernel
theorem dX11_formed_9 : decode cX11_formed 9 = .ok (.getfield 54, 3) := by decide +kernel
theorem dX11_formed_12 : decode cX11_formed 12 = .ok (.aload_n 0, 1) := by decide +kernel
theorem dX11_formed_13 : decode cX11_formed 13 = .ok (.getfield 48, 3) := by decide +kernel
theorem dX11_formed_16 : decode cX11_formed 16 = .ok (.iaload, 1) := by decide +kernel
theorem dX11_formed_17 : decode cX11_formed 17 = .ok (.if_icmp .ge 25, 3) := by decide +kernel
theorem dX11_formed_20 : decode cX11_formed 20 = .ok (.iload 5, 2) := by decide +kernel
theorem dX11_formed_22 : decode cX11_formed 22 = .ok (.aload_n 0, 1) := by decide +kernel
theorem dX11_formed_23 : decode cX11_formed 23 = .ok (.getfield 174, 3) := by decide +kernel
theorem dX11_formed_26 : decode cX11_formed 26 = .ok (.iconst 5, 1) := by decide +kernel
theorem dX11_formed_27 : decode cX11_formed 27 = .ok (.iload_n 1, 1) := by decide +kernel
theorem dX11_formed_28 : decode cX11_formed 28 = .ok (.imul, 1) := by decide +kernel
theorem dX11_formed_29 : decode cX11_formed 29 = .ok (.iload 6, 2) := by decide +kernel
theorem dX11_formed_31 : decode cX11_formed 31 = .ok (.iadd, 1) := by decide +kernel
theorem dX11_formed_32 : decode cX11_formed 32 = .ok (.iaload, 1) := by decide +kernel
theorem dX11_formed_33 : decode cX11_formed 33 = .ok (.iadd, 1) := by decide +kernel
theorem dX11_formed_34 : decode cX11_formed 34 = .ok (.istore 5, 2) := by decide +kernel
theorem dX11_formed_36 : decode cX11_formed 36 = .ok (.iinc 6 1, 3) := by decide +kernel
theorem dX11_formed_39 : decode cX11_formed 39 = .ok (.goto (-33), 3) := by decide +kernel
theorem dX11_formed_42 : decode cX11_formed 42 = .ok (.iload_n 2, 1) := by decide +kernel
theorem dX11_formed_43 : decode cX11_formed 43 = .ok (.iload 5, 2) := by decide +kernel
theorem dX11_formed_45 : decode cX11_formed 45 = .ok (.imul, 1) := by decide +kernel
theorem dX11_formed_46 : decode cX11_formed 46 = .ok (.iload_n 3, 1) := by decide +kernel
theorem dX11_formed_47 : decode cX11_formed 47 = .ok (.iadd, 1) := by decide +kernel
theorem dX11_formed_48 : decode cX11_formed 48 = .ok (.aload_n 0, 1) := by decide +kernel
theorem dX11_formed_49 : decode cX11_formed 49 = .ok (.getfield 54, 3) := by decide +kernel
theorem dX11_formed_52 : decode cX11_formed 52 = .ok (.aload_n 0, 1) := by decide +kernel
theorem dX11_formed_53 : decode cX11_formed 53 = .ok (.getfield 48, 3) := by decide +kernel
theorem dX11_formed_56 : decode cX11_formed 56 = .ok (.iaload, 1) := by decide +kernel
theorem dX11_formed_57 : decode cX11_formed 57 = .ok (.irem, 1) := by decide +kernel
theorem dX11_formed_58 : decode cX11_formed 58 = .ok (.istore 6, 2) := by decide +kernel
theorem dX11_formed_60 : decode cX11_formed 60 = .ok (.iconst 0, 1) := by decide +kernel
theorem dX11_formed_61 : decode cX11_formed 61 = .ok (.istore 7, 2) := by decide +kernel
theorem dX11_formed_63 : decode cX11_formed 63 = .ok (.iconst 0, 1) := by decide +kernel
theorem dX11_formed_64 : decode cX11_formed 64 = .ok (.istore 8, 2) := by decide +kernel
theorem dX11_formed_66 : decode cX11_formed 66 = .ok (.iload 8, 2) := by decide +kernel
theorem dX11_formed_68 : decode cX11_formed 68 = .ok (.aload_n 0, 1) := by decide +kernel
theorem dX11_formed_69 : decode cX11_formed 69 = .ok (.getfield 54, 3) := by decide +kernel
theorem dX11_formed_72 : decode cX11_formed 72 = .ok (.aload_n 0, 1) := by decide +kernel
theorem dX11_formed_73 : decode cX11_formed 73 = .ok (.getfield 48, 3) := by decide +kernel
theorem dX11_formed_76 : decode cX11_formed 76 = .ok (.iaload, 1) := by decide +kernel
theorem dX11_formed_77 : decode cX11_formed 77 = .ok (.if_icmp .ge 69, 3) := by decide +kernel
theorem dX11_formed_80 : decode cX11_formed 80 = .ok (.iload 7, 2) := by decide +kernel
theorem dX11_formed_82 : decode cX11_formed 82 = .ok (.aload_n 0, 1) := by decide +kernel
theorem dX11_formed_83 : decode cX11_formed 83 = .ok (.getfield 51, 3) := by decide +kernel
theorem dX11_formed_86 : decode cX11_formed 86 = .ok (.aload_n 0, 1) := by decide +kernel
theorem dX11_formed_87 : decode cX11_formed 87 = .ok (.getfield 48, 3) := by decide +kernel
theorem dX11_formed_90 : decode cX11_formed 90 = .ok (.iaload, 1) := by decide +kernel
theorem dX11_formed_91 : decode cX11_formed 91 = .ok (.imul, 1) := by decide +kernel
theorem dX11_formed_92 : decode cX11_formed 92 = .ok (.iload 8, 2) := by decide +kernel
theorem dX11_formed_94 : decode cX11_formed 94 = .ok (.iload 6, 2) := by decide +kernel
theorem dX11_formed_96 : decode cX11_formed 96 = .ok (.if_icmp .ne 30, 3) := by decide +kernel
theorem dX11_formed_99 : decode cX11_formed 99 = .ok (.aload_n 0, 1) := by decide +kernel
theorem dX11_formed_100 : decode cX11_formed 100 = .ok (.getfield 174, 3) := by decide +kernel
theorem dX11_formed_103 : decode cX11_formed 103 = .ok (.iconst 5, 1) := by decide +kernel
theorem dX11_formed_104 : decode cX11_formed 104 = .ok (.iload_n 1, 1) := by decide +kernel
theorem dX11_formed_105 : decode cX11_formed 105 = .ok (.imul, 1) := by decide +kernel
theorem dX11_formed_106 : decode cX11_formed 106 = .ok (.iload 8, 2) := by decide +kernel
theorem dX11_formed_108 : decode cX11_formed 108 = .ok (.iadd, 1) := by decide +kernel
theorem dX11_formed_109 : decode cX11_formed 109 = .ok (.iaload, 1) := by decide +kernel
theorem dX11_formed_110 : decode cX11_formed 110 = .ok (.iload 4, 2) := by decide +kernel
theorem dX11_formed_112 : decode cX11_formed 112 = .ok (.iadd, 1) := by decide +kernel
theorem dX11_formed_113 : decode cX11_formed 113 = .ok (.aload_n 0, 1) := by decide +kernel
theorem dX11_formed_114 : decode cX11_formed 114 = .ok (.getfield 51, 3) := by decide +kernel
theorem dX11_formed_117 : decode cX11_formed 117 = .ok (.aload_n 0, 1) := by decide +kernel
theorem dX11_formed_118 : decode cX11_formed 118 = .ok (.getfield 48, 3) := by decide +kernel
theorem dX11_formed_121 : decode cX11_formed 121 = .ok (.iaload, 1) := by decide +kernel
theorem dX11_formed_122 : decode cX11_formed 122 = .ok (.irem, 1) := by decide +kernel
theorem dX11_formed_123 : decode cX11_formed 123 = .ok (.goto 14, 3) := by decide +kernel
theorem dX11_formed_126 : decode cX11_formed 126 = .ok (.aload_n 0, 1) := by decide +kernel
theorem dX11_formed_127 : decode cX11_formed 127 = .ok (.getfield 174, 3) := by decide +kernel
theorem dX11_formed_130 : decode cX11_formed 130 = .ok (.iconst 5, 1) := by decide +kernel
theorem dX11_formed_131 : decode cX11_formed 131 = .ok (.iload_n 1, 1) := by decide +kernel
theorem dX11_formed_132 : decode cX11_formed 132 = .ok (.imul, 1) := by decide +kernel
theorem dX11_formed_133 : decode cX11_formed 133 = .ok (.iload 8, 2) := by decide +kernel
theorem dX11_formed_135 : decode cX11_formed 135 = .ok (.iadd, 1) := by decide +kernel
theorem dX11_formed_136 : decode cX11_formed 136 = .ok (.iaload, 1) := by decide +kernel
theorem dX11_formed_137 : decode cX11_formed 137 = .ok (.iadd, 1) := by decide +kernel
theorem dX11_formed_138 : decode cX11_formed 138 = .ok (.istore 7, 2) := by decide +kernel
theorem dX11_formed_140 : decode cX11_formed 140 = .ok (.iinc 8 1, 3) := by decide +kernel
theorem dX11_formed_143 : decode cX11_formed 143 = .ok (.goto (-77), 3) := by decide +kernel
theorem dX11_formed_146 : decode cX11_formed 146 = .ok (.iload 7, 2) := by decide +kernel
theorem dX11_formed_148 : decode cX11_formed 148 = .ok (.ireturn, 1) := by decide +kernel
theorem dX11_fits_0 : decode cX11_fits 0 = .ok (.iconst 0, 1) := by decide +kernel
theorem dX11_fits_1 : decode cX11_fits 1 = .ok (.istore 6, 2) := by decide +kernel
theorem dX11_fits_3 : decode cX11_fits 3 = .ok (.iload 6, 2) := by decide +kernel
theorem dX11_fits_5 : decode cX11_fits 5 = .ok (.iload_n 2, 1) := by decide +kernel
theorem dX11_fits_6 : decode cX11_fits 6 = .ok (.iconst 1, 1) := by decide +kernel
theorem dX11_fits_7 : decode cX11_fits 7 = .ok (.isub, 1) := by decide +kernel
theorem dX11_fits_8 : decode cX11_fits 8 = .ok (.if_icmp .ge 38, 3) := by decide +kernel
theorem dX11_fits_11 : decode cX11_fits 11 = .ok (.aload_n 0, 1) := by decide +kernel
theorem dX11_fits_12 : decode cX11_fits 12 = .ok (.iload_n 1, 1) := by decide +kernel
theorem dX11_fits_13 : decode cX11_fits 13 = .ok (.iload 6, 2) := by decide +kernel
theorem dX11_fits_15 : decode cX11_fits 15 = .ok (.iadd, 1) := by decide +kernel
theorem dX11_fits_16 : decode cX11_fits 16 = .ok (.iload_n 3, 1) := by decide +kernel
theorem dX11_fits_17 : decode cX11_fits 17 = .ok (.iload 4, 2) := by decide +kernel
theorem dX11_fits_19 : decode cX11_fits 19 = .ok (.iload 5, 2) := by decide +kernel
theorem dX11_fits_21 : decode cX11_fits 21 = .ok (.invokevirtual 545, 3) := by decide +kernel
theorem dX11_fits_24 : decode cX11_fits 24 = .ok (.aload_n 0, 1) := by decide +kernel
theorem dX11_fits_25 : decode cX11_fits 25 = .ok (.getfield 180, 3) := by decide +kernel
theorem dX11_fits_28 : decode cX11_fits 28 = .ok (.iload_n 1, 1) := by decide +kernel
theorem dX11_fits_29 : decode cX11_fits 29 = .ok (.iload 6, 2) := by decide +kernel
theorem dX11_fits_31 : decode cX11_fits 31 = .ok (.iadd, 1) := by decide +kernel
theorem dX11_fits_32 : decode cX11_fits 32 = .ok (.iconst 1, 1) := by decide +kernel
theorem dX11_fits_33 : decode cX11_fits 33 = .ok (.iadd, 1) := by decide +kernel
theorem dX11_fits_34 : decode cX11_fits 34 = .ok (.iaload, 1) := by decide +kernel
theorem dX11_fits_35 : decode cX11_fits 35 = .ok (.if_icmp .eq 5, 3) := by decide +kernel
theorem dX11_fits_38 : decode cX11_fits 38 = .ok (.iconst 0, 1) := by decide +kernel
theorem dX11_fits_39 : decode cX11_fits 39 = .ok (.ireturn, 1) := by decide +kernel
theorem dX11_fits_40 : decode cX11_fits 40 = .ok (.iinc 6 1, 3) := by decide +kernel
theorem dX11_fits_43 : decode cX11_fits 43 = .ok (.goto (-40), 3) := by decide +kernel
theorem dX11_fits_46 : decode cX11_fits 46 = .ok (.iconst 1, 1) := by decide +kernel
theorem dX11_fits_47 : decode cX11_fits 47 = .ok (.ireturn, 1) := by decide +kernel
theorem dX11_formsAll_0 : decode cX11_formsAll 0 = .ok (.aload_n 0, 1) := by decide +kernel
theorem dX11_formsAll_1 : decode cX11_formsAll 1 = .ok (.getfield 54, 3) := by decide +kernel
theorem dX11_formsAll_4 : decode cX11_formsAll 4 = .ok (.aload_n 0, 1) := by decide +kernel
theorem dX11_formsAll_5 : decode cX11_formsAll 5 = .ok (.getfield 48, 3) := by decide +kernel
theorem dX11_formsAll_8 : decode cX11_formsAll 8 = .ok (.iaload, 1) := by decide +kernel
theorem dX11_formsAll_9 : decode cX11_formsAll 9 = .ok (.aload_n 0, 1) := by decide +kernel
theorem dX11_formsAll_10 : decode cX11_formsAll 10 = .ok (.getfield 54, 3) := by decide +kernel
theorem dX11_formsAll_13 : decode cX11_formsAll 13 = .ok (.aload_n 0, 1) := by decide +kernel
theorem dX11_formsAll_14 : decode cX11_formsAll 14 = .ok (.getfield 48, 3) := by decide +kernel
theorem dX11_formsAll_17 : decode cX11_formsAll 17 = .ok (.iaload, 1) := by decide +kernel
theorem dX11_formsAll_18 : decode cX11_formsAll 18 = .ok (.imul, 1) := by decide +kernel
theorem dX11_formsAll_19 : decode cX11_formsAll 19 = .ok (.aload_n 0, 1) := by decide +kernel
theorem dX11_formsAll_20 : decode cX11_formsAll 20 = .ok (.getfield 51, 3) := by decide +kernel
theorem dX11_formsAll_23 : decode cX11_formsAll 23 = .ok (.aload_n 0, 1) := by decide +kernel
theorem dX11_formsAll_24 : decode cX11_formsAll 24 = .ok (.getfield 48, 3) := by decide +kernel
theorem dX11_formsAll_27 : decode cX11_formsAll 27 = .ok (.iaload, 1) := by decide +kernel
theorem dX11_formsAll_28 : decode cX11_formsAll 28 = .ok (.iconst 1, 1) := by decide +kernel
theorem dX11_formsAll_29 : decode cX11_formsAll 29 = .ok (.isub, 1) := by decide +kernel
theorem dX11_formsAll_30 : decode cX11_formsAll 30 = .ok (.imul, 1) := by decide +kernel
theorem dX11_formsAll_31 : decode cX11_formsAll 31 = .ok (.ireturn, 1) := by decide +kernel
theorem dX11_formA_0 : decode cX11_formA 0 = .ok (.iload_n 1, 1) := by decide +kernel
theorem dX11_formA_1 : decode cX11_formA 1 = .ok (.aload_n 0, 1) := by decide +kernel
theorem dX11_formA_2 : decode cX11_formA 2 = .ok (.getfield 54, 3) := by decide +kernel
theorem dX11_formA_5 : decode cX11_formA 5 = .ok (.aload_n 0, 1) := by decide +kernel
theorem dX11_formA_6 : decode cX11_formA 6 = .ok (.getfield 48, 3) := by decide +kernel
theorem dX11_formA_9 : decode cX11_formA 9 = .ok (.iaload, 1) := by decide +kernel
theorem dX11_formA_10 : decode cX11_formA 10 = .ok (.aload_n 0, 1) := by decide +kernel
theorem dX11_formA_11 : decode cX11_formA 11 = .ok (.getfield 51, 3) := by decide +kernel
theorem dX11_formA_14 : decode cX11_formA 14 = .ok (.aload_n 0, 1) := by decide +kernel
theorem dX11_formA_15 : decode cX11_formA 15 = .ok (.getfield 48, 3) := by decide +kernel
theorem dX11_formA_18 : decode cX11_formA 18 = .ok (.iaload, 1) := by decide +kernel
theorem dX11_formA_19 : decode cX11_formA 19 = .ok (.iconst 1, 1) := by decide +kernel
theorem dX11_formA_20 : decode cX11_formA 20 = .ok (.isub, 1) := by decide +kernel
theorem dX11_formA_21 : decode cX11_formA 21 = .ok (.imul, 1) := by decide +kernel
theorem dX11_formA_22 : decode cX11_formA 22 = .ok (.idiv, 1) := by decide +kernel
theorem dX11_formA_23 : decode cX11_formA 23 = .ok (.ireturn, 1) := by decide +kernel
theorem dX11_formB_0 : decode cX11_formB 0 = .ok (.iload_n 1, 1) := by decide +kernel
theorem dX11_formB_1 : decode cX11_formB 1 = .ok (.aload_n 0, 1) := by decide +kernel
theorem dX11_formB_2 : decode cX11_formB 2 = .ok (.getfield 51, 3) := by decide +kernel
theorem dX11_formB_5 : decode cX11_formB 5 = .ok (.aload_n 0, 1) := by decide +kernel
theorem dX11_formB_6 : decode cX11_formB 6 = .ok (.getfield 48, 3) := by decide +kernel
theorem dX11_formB_9 : decode cX11_formB 9 = .ok (.iaload, 1) := by decide +kernel
theorem dX11_formB_10 : decode cX11_formB 10 = .ok (.iconst 1, 1) := by decide +kernel
theorem dX11_formB_11 : decode cX11_formB 11 = .ok (.isub, 1) := by decide +kernel
theorem dX11_formB_12 : decode cX11_formB 12 = .ok (.idiv, 1) := by decide +kernel
theorem dX11_formB_13 : decode cX11_formB 13 = .ok (.aload_n 0, 1) := by decide +kernel
theorem dX11_formB_14 : decode cX11_formB 14 = .ok (.getfield 54, 3) := by decide +kernel
theorem dX11_formB_17 : decode cX11_formB 17 = .ok (.aload_n 0, 1) := by decide +kernel
theorem dX11_formB_18 : decode cX11_formB 18 = .ok (.getfield 48, 3) := by decide +kernel
theorem dX11_formB_21 : decode cX11_formB 21 = .ok (.iaload, 1) := by decide +kernel
theorem dX11_formB_22 : decode cX11_formB 22 = .ok (.irem, 1) := by decide +kernel
theorem dX11_formB_23 : decode cX11_formB 23 = .ok (.ireturn, 1) := by decide +kernel
theorem dX11_formC_0 : decode cX11_formC 0 = .ok (.iload_n 1, 1) := by decide +kernel
theorem dX11_formC_1 : decode cX11_formC 1 = .ok (.aload_n 0, 1) := by decide +kernel
theorem dX11_formC_2 : decode cX11_formC 2 = .ok (.getfield 51, 3) := by decide +kernel
theorem dX11_formC_5 : decode cX11_formC 5 = .ok (.aload_n 0, 1) := by decide +kernel
theorem dX11_formC_6 : decode cX11_formC 6 = .ok (.getfield 48, 3) := by decide +kernel
theorem dX11_formC_9 : decode cX11_formC 9 = .ok (.iaload, 1) := by decide +kernel
theorem dX11_formC_10 : decode cX11_formC 10 = .ok (.iconst 1, 1) := by decide +kernel
theorem dX11_formC_11 : decode cX11_formC 11 = .ok (.isub, 1) := by decide +kernel
theorem dX11_formC_12 : decode cX11_formC 12 = .ok (.irem, 1) := by decide +kernel
theorem dX11_formC_13 : decode cX11_formC 13 = .ok (.iconst 1, 1) := by decide +kernel
theorem dX11_formC_14 : decode cX11_formC 14 = .ok (.iadd, 1) := by decide +kernel
theorem dX11_formC_15 : decode cX11_formC 15 = .ok (.ireturn, 1) := by decide +kernel
theorem dX11_fitsForm_0 : decode cX11_fitsForm 0 = .ok (.aload_n 0, 1) := by decide +kernel
theorem dX11_fitsForm_1 : decode cX11_fitsForm 1 = .ok (.iload_n 1, 1) := by decide +kernel
theorem dX11_fitsForm_2 : decode cX11_fitsForm 2 = .ok (.iload_n 2, 1) := by decide +kernel
theorem dX11_fitsForm_3 : decode cX11_fitsForm 3 = .ok (.aload_n 0, 1) := by decide +kernel
theorem dX11_fitsForm_4 : decode cX11_fitsForm 4 = .ok (.iload_n 3, 1) := by decide +kernel
theorem dX11_fitsForm_5 : decode cX11_fitsForm 5 = .ok (.invokevirtual 549, 3) := by decide +kernel
theorem dX11_fitsForm_8 : decode cX11_fitsForm 8 = .ok (.aload_n 0, 1) := by decide +kernel
theorem dX11_fitsForm_9 : decode cX11_fitsForm 9 = .ok (.iload_n 3, 1) := by decide +kernel
theorem dX11_fitsForm_10 : decode cX11_fitsForm 10 = .ok (.invokevirtual 552, 3) := by decide +kernel
theorem dX11_fitsForm_13 : decode cX11_fitsForm 13 = .ok (.aload_n 0, 1) := by decide +kernel
theorem dX11_fitsForm_14 : decode cX11_fitsForm 14 = .ok (.iload_n 3, 1) := by decide +kernel
theorem dX11_fitsForm_15 : decode cX11_fitsForm 15 = .ok (.invokevirtual 555, 3) := by decide +kernel
theorem dX11_fitsForm_18 : decode cX11_fitsForm 18 = .ok (.invokevirtual 558, 3) := by decide +kernel
theorem dX11_fitsForm_21 : decode cX11_fitsForm 21 = .ok (.ireturn, 1) := by decide +kernel
theorem dX11_canHear_0 : decode cX11_canHear 0 = .ok (.aload_n 0, 1) := by decide +kernel
theorem dX11_canHear_1 : decode cX11_canHear 1 = .ok (.iload_n 1, 1) := by decide +kernel
theorem dX11_canHear_2 : decode cX11_canHear 2 = .ok (.invokevirtual 469, 3) := by decide +kernel
theorem dX11_canHear_5 : decode cX11_canHear 5 = .ok (.ifCond .eq 35, 3) := by decide +kernel
theorem dX11_canHear_8 : decode cX11_canHear 8 = .ok (.iload_n 2, 1) := by decide +kernel
theorem dX11_canHear_9 : decode cX11_canHear 9 = .ok (.invokestatic 472, 3) := by decide +kernel
theorem dX11_canHear_12 : decode cX11_canHear 12 = .ok (.ifCond .eq 28, 3) := by decide +kernel
theorem dX11_canHear_15 : decode cX11_canHear 15 = .ok (.iload_n 3, 1) := by decide +kernel
theorem dX11_canHear_16 : decode cX11_canHear 16 = .ok (.iconst 1, 1) := by decide +kernel
theorem dX11_canHear_17 : decode cX11_canHear 17 = .ok (.bipush 30, 2) := by decide +kernel
theorem dX11_canHear_19 : decode cX11_canHear 19 = .ok (.invokestatic 324, 3) := by decide +kernel
theorem dX11_canHear_22 : decode cX11_canHear 22 = .ok (.ifCond .eq 18, 3) := by decide +kernel
theorem dX11_canHear_25 : decode cX11_canHear 25 = .ok (.iload_n 2, 1) := by decide +kernel
theorem dX11_canHear_26 : decode cX11_canHear 26 = .ok (.iload_n 3, 1) := by decide +kernel
theorem dX11_canHear_27 : decode cX11_canHear 27 = .ok (.iadd, 1) := by decide +kernel
theorem dX11_canHear_28 : decode cX11_canHear 28 = .ok (.iconst 1, 1) := by decide +kernel
theorem dX11_canHear_29 : decode cX11_canHear 29 = .ok (.isub, 1) := by decide +kernel
theorem dX11_canHear_30 : decode cX11_canHear 30 = .ok (.sipush 1000, 3) := by decide +kernel
theorem dX11_canHear_33 : decode cX11_canHear 33 = .ok (.if_icmp .ge 7, 3) := by decide +kernel
theorem dX11_canHear_36 : decode cX11_canHear 36 = .ok (.iconst 1, 1) := by decide +kernel
theorem dX11_canHear_37 : decode cX11_canHear 37 = .ok (.goto 4, 3) := by decide +kernel
theorem dX11_canHear_40 : decode cX11_canHear 40 = .ok (.iconst 0, 1) := by decide +kernel
theorem dX11_canHear_41 : decode cX11_canHear 41 = .ok (.ireturn, 1) := by decide +kernel
theorem dX11_knows_0 : decode cX11_knows 0 = .ok (.aload_n 0, 1) := by decide +kernel
theorem dX11_knows_1 : decode cX11_knows 1 = .ok (.iload_n 1, 1) := by decide +kernel
theorem dX11_knows_2 : decode cX11_knows 2 = .ok (.iload_n 2, 1) := by decide +kernel
theorem dX11_knows_3 : decode cX11_knows 3 = .ok (.iload_n 3, 1) := by decide +kernel
theorem dX11_knows_4 : decode cX11_knows 4 = .ok (.invokevirtual 562, 3) := by decide +kernel
theorem dX11_knows_7 : decode cX11_knows 7 = .ok (.ifCond .ne 5, 3) := by decide +kernel
theorem dX11_knows_10 : decode cX11_knows 10 = .ok (.iconst (-1), 1) := by decide +kernel
theorem dX11_knows_11 : decode cX11_knows 11 = .ok (.ireturn, 1) := by decide +kernel
theorem dX11_knows_12 : decode cX11_knows 12 = .ok (.iconst 0, 1) := by decide +kernel
theorem dX11_knows_13 : decode cX11_knows 13 = .ok (.istore 4, 2) := by decide +kernel
theorem dX11_knows_15 : decode cX11_knows 15 = .ok (.iconst 0, 1) := by decide +kernel
theorem dX11_knows_16 : decode cX11_knows 16 = .ok (.istore 5, 2) := by decide +kernel
theorem dX11_knows_18 : decode cX11_knows 18 = .ok (.iload 5, 2) := by decide +kernel
theorem dX11_knows_20 : decode cX11_knows 20 = .ok (.aload_n 0, 1) := by decide +kernel
theorem dX11_knows_21 : decode cX11_knows 21 = .ok (.invokevirtual 565, 3) := by decide +kernel
theorem dX11_knows_24 : decode cX11_knows 24 = .ok (.if_icmp .ge 36, 3) := by decide +kernel
theorem dX11_knows_27 : decode cX11_knows 27 = .ok (.iload 4, 2) := by decide +kernel
theorem dX11_knows_29 : decode cX11_knows 29 = .ok (.aload_n 0, 1) := by decide +kernel
theorem dX11_knows_30 : decode cX11_knows 30 = .ok (.sipush 1000, 3) := by decide +kernel
theorem dX11_knows_33 : decode cX11_knows 33 = .ok (.iload_n 1, 1) := by decide +kernel
theorem dX11_knows_34 : decode cX11_knows 34 = .ok (.imul, 1) := by decide +kernel
theorem dX11_knows_35 : decode cX11_knows 35 = .ok (.iload_n 2, 1) := by decide +kernel
theorem dX11_knows_36 : decode cX11_knows 36 = .ok (.iadd, 1) := by decide +kernel
theorem dX11_knows_37 : decode cX11_knows 37 = .ok (.iload_n 3, 1) := by decide +kernel
theorem dX11_knows_38 : decode cX11_knows 38 = .ok (.iload 5, 2) := by decide +kernel
theorem dX11_knows_40 : decode cX11_knows 40 = .ok (.invokevirtual 568, 3) := by decide +kernel
theorem dX11_knows_43 : decode cX11_knows 43 = .ok (.ifCond .eq 7, 3) := by decide +kernel
theorem dX11_knows_46 : decode cX11_knows 46 = .ok (.iconst 1, 1) := by decide +kernel
theorem dX11_knows_47 : decode cX11_knows 47 = .ok (.goto 4, 3) := by decide +kernel
theorem dX11_knows_50 : decode cX11_knows 50 = .ok (.iconst 0, 1) := by decide +kernel
theorem dX11_knows_51 : decode cX11_knows 51 = .ok (.iadd, 1) := by decide +kernel
theorem dX11_knows_52 : decode cX11_knows 52 = .ok (.istore 4, 2) := by decide +kernel
theorem dX11_knows_54 : decode cX11_knows 54 = .ok (.iinc 5 1, 3) := by decide +kernel
theorem dX11_knows_57 : decode cX11_knows 57 = .ok (.goto (-39), 3) := by decide +kernel
theorem dX11_knows_60 : decode cX11_knows 60 = .ok (.iload 4, 2) := by decide +kernel
theorem dX11_knows_62 : decode cX11_knows 62 = .ok (.ireturn, 1) := by decide +kernel
theorem dX11_isSure_0 : decode cX11_isSure 0 = .ok (.iconst (-1), 1) := by decide +kernel
theorem dX11_isSure_1 : decode cX11_isSure 1 = .ok (.istore_n 3, 1) := by decide +kernel
theorem dX11_isSure_2 : decode cX11_isSure 2 = .ok (.iconst 0, 1) := by decide +kernel
theorem dX11_isSure_3 : decode cX11_isSure 3 = .ok (.istore 4, 2) := by decide +kernel
theorem dX11_isSure_5 : decode cX11_isSure 5 = .ok (.iload 4, 2) := by decide +kernel
theorem dX11_isSure_7 : decode cX11_isSure 7 = .ok (.aload_n 0, 1) := by decide +kernel
theorem dX11_isSure_8 : decode cX11_isSure 8 = .ok (.invokevirtual 565, 3) := by decide +kernel
theorem dX11_isSure_11 : decode cX11_isSure 11 = .ok (.if_icmp .ge 68, 3) := by decide +kernel
theorem dX11_isSure_14 : decode cX11_isSure 14 = .ok (.aload_n 0, 1) := by decide +kernel
theorem dX11_isSure_15 : decode cX11_isSure 15 = .ok (.iload_n 1, 1) := by decide +kernel
theorem dX11_isSure_16 : decode cX11_isSure 16 = .ok (.iload_n 2, 1) := by decide +kernel
theorem dX11_isSure_17 : decode cX11_isSure 17 = .ok (.iload 4, 2) := by decide +kernel
theorem dX11_isSure_19 : decode cX11_isSure 19 = .ok (.invokevirtual 568, 3) := by decide +kernel
theorem dX11_isSure_22 : decode cX11_isSure 22 = .ok (.ifCond .ne 6, 3) := by decide +kernel
theorem dX11_isSure_25 : decode cX11_isSure 25 = .ok (.goto 48, 3) := by decide +kernel
theorem dX11_isSure_28 : decode cX11_isSure 28 = .ok (.aload_n 0, 1) := by decide +kernel
theorem dX11_isSure_29 : decode cX11_isSure 29 = .ok (.iload_n 1, 1) := by decide +kernel
theorem dX11_isSure_30 : decode cX11_isSure 30 = .ok (.iload_n 2, 1) := by decide +kernel
theorem dX11_isSure_31 : decode cX11_isSure 31 = .ok (.iadd, 1) := by decide +kernel
theorem dX11_isSure_32 : decode cX11_isSure 32 = .ok (.iconst 1, 1) := by decide +kernel
theorem dX11_isSure_33 : decode cX11_isSure 33 = .ok (.isub, 1) := by decide +kernel
theorem dX11_isSure_34 : decode cX11_isSure 34 = .ok (.aload_n 0, 1) := by decide +kernel
theorem dX11_isSure_35 : decode cX11_isSure 35 = .ok (.iload 4, 2) := by decide +kernel
theorem dX11_isSure_37 : decode cX11_isSure 37 = .ok (.invokevirtual 549, 3) := by decide +kernel
theorem dX11_isSure_40 : decode cX11_isSure 40 = .ok (.aload_n 0, 1) := by decide +kernel
theorem dX11_isSure_41 : decode cX11_isSure 41 = .ok (.iload 4, 2) := by decide +kernel
theorem dX11_isSure_43 : decode cX11_isSure 43 = .ok (.invokevirtual 552, 3) := by decide +kernel
theorem dX11_isSure_46 : decode cX11_isSure 46 = .ok (.aload_n 0, 1) := by decide +kernel
theorem dX11_isSure_47 : decode cX11_isSure 47 = .ok (.iload 4, 2) := by decide +kernel
theorem dX11_isSure_49 : decode cX11_isSure 49 = .ok (.invokevirtual 555, 3) := by decide +kernel
theorem dX11_isSure_52 : decode cX11_isSure 52 = .ok (.invokevirtual 545, 3) := by decide +kernel
theorem dX11_isSure_55 : decode cX11_isSure 55 = .ok (.istore 5, 2) := by decide +kernel
theorem dX11_isSure_57 : decode cX11_isSure 57 = .ok (.iload_n 3, 1) := by decide +kernel
theorem dX11_isSure_58 : decode cX11_isSure 58 = .ok (.iconst (-1), 1) := by decide +kernel
theorem dX11_isSure_59 : decode cX11_isSure 59 = .ok (.if_icmp .eq 11, 3) := by decide +kernel
theorem dX11_isSure_62 : decode cX11_isSure 62 = .ok (.iload 5, 2) := by decide +kernel
theorem dX11_isSure_64 : decode cX11_isSure 64 = .ok (.iload_n 3, 1) := by decide +kernel
theorem dX11_isSure_65 : decode cX11_isSure 65 = .ok (.if_icmp .eq 5, 3) := by decide +kernel
theorem dX11_isSure_68 : decode cX11_isSure 68 = .ok (.iconst 0, 1) := by decide +kernel
theorem dX11_isSure_69 : decode cX11_isSure 69 = .ok (.ireturn, 1) := by decide +kernel
theorem dX11_isSure_70 : decode cX11_isSure 70 = .ok (.iload 5, 2) := by decide +kernel
theorem dX11_isSure_72 : decode cX11_isSure 72 = .ok (.istore_n 3, 1) := by decide +kernel
theorem dX11_isSure_73 : decode cX11_isSure 73 = .ok (.iinc 4 1, 3) := by decide +kernel
theorem dX11_isSure_76 : decode cX11_isSure 76 = .ok (.goto (-71), 3) := by decide +kernel
theorem dX11_isSure_79 : decode cX11_isSure 79 = .ok (.iload_n 3, 1) := by decide +kernel
theorem dX11_isSure_80 : decode cX11_isSure 80 = .ok (.iconst (-1), 1) := by decide +kernel
theorem dX11_isSure_81 : decode cX11_isSure 81 = .ok (.if_icmp .eq 7, 3) := by decide +kernel
theorem dX11_isSure_84 : decode cX11_isSure 84 = .ok (.iconst 1, 1) := by decide +kernel
theorem dX11_isSure_85 : decode cX11_isSure 85 = .ok (.goto 4, 3) := by decide +kernel
theorem dX11_isSure_88 : decode cX11_isSure 88 = .ok (.iconst 0, 1) := by decide +kernel
theorem dX11_isSure_89 : decode cX11_isSure 89 = .ok (.ireturn, 1) := by decide +kernel
theorem dX11_sure_0 : decode cX11_sure 0 = .ok (.iconst 2, 1) := by decide +kernel
theorem dX11_sure_1 : decode cX11_sure 1 = .ok (.istore_n 3, 1) := by decide +kernel
theorem dX11_sure_2 : decode cX11_sure 2 = .ok (.iload_n 3, 1) := by decide +kernel
theorem dX11_sure_3 : decode cX11_sure 3 = .ok (.bipush 30, 2) := by decide +kernel
theorem dX11_sure_5 : decode cX11_sure 5 = .ok (.if_icmp .gt 36, 3) := by decide +kernel
theorem dX11_sure_8 : decode cX11_sure 8 = .ok (.aload_n 0, 1) := by decide +kernel
theorem dX11_sure_9 : decode cX11_sure 9 = .ok (.iload_n 1, 1) := by decide +kernel
theorem dX11_sure_10 : decode cX11_sure 10 = .ok (.iload_n 2, 1) := by decide +kernel
theorem dX11_sure_11 : decode cX11_sure 11 = .ok (.iload_n 3, 1) := by decide +kernel
theorem dX11_sure_12 : decode cX11_sure 12 = .ok (.invokevirtual 562, 3) := by decide +kernel
theorem dX11_sure_15 : decode cX11_sure 15 = .ok (.ifCond .eq 20, 3) := by decide +kernel
theorem dX11_sure_18 : decode cX11_sure 18 = .ok (.aload_n 0, 1) := by decide +kernel
theorem dX11_sure_19 : decode cX11_sure 19 = .ok (.sipush 1000, 3) := by decide +kernel
theorem dX11_sure_22 : decode cX11_sure 22 = .ok (.iload_n 1, 1) := by decide +kernel
theorem dX11_sure_23 : decode cX11_sure 23 = .ok (.imul, 1) := by decide +kernel
theorem dX11_sure_24 : decode cX11_sure 24 = .ok (.iload_n 2, 1) := by decide +kernel
theorem dX11_sure_25 : decode cX11_sure 25 = .ok (.iadd, 1) := by decide +kernel
theorem dX11_sure_26 : decode cX11_sure 26 = .ok (.iload_n 3, 1) := by decide +kernel
theorem dX11_sure_27 : decode cX11_sure 27 = .ok (.invokevirtual 571, 3) := by decide +kernel
theorem dX11_sure_30 : decode cX11_sure 30 = .ok (.ifCond .eq 5, 3) := by decide +kernel
theorem dX11_sure_33 : decode cX11_sure 33 = .ok (.iload_n 3, 1) := by decide +kernel
theorem dX11_sure_34 : decode cX11_sure 34 = .ok (.ireturn, 1) := by decide +kernel
theorem dX11_sure_35 : decode cX11_sure 35 = .ok (.iinc 3 1, 3) := by decide +kernel
theorem dX11_sure_38 : decode cX11_sure 38 = .ok (.goto (-36), 3) := by decide +kernel
theorem dX11_sure_41 : decode cX11_sure 41 = .ok (.iconst (-1), 1) := by decide +kernel
theorem dX11_sure_42 : decode cX11_sure 42 = .ok (.ireturn, 1) := by decide +kernel
theorem dX11_right_0 : decode cX11_right 0 = .ok (.aload_n 0, 1) := by decide +kernel
theorem dX11_right_1 : decode cX11_right 1 = .ok (.iload_n 1, 1) := by decide +kernel
theorem dX11_right_2 : decode cX11_right 2 = .ok (.iload_n 2, 1) := by decide +kernel
theorem dX11_right_3 : decode cX11_right 3 = .ok (.iload_n 3, 1) := by decide +kernel
theorem dX11_right_4 : decode cX11_right 4 = .ok (.invokevirtual 562, 3) := by decide +kernel
theorem dX11_right_7 : decode cX11_right 7 = .ok (.ifCond .eq 12, 3) := by decide +kernel
theorem dX11_right_10 : decode cX11_right 10 = .ok (.iload_n 2, 1) := by decide +kernel
theorem dX11_right_11 : decode cX11_right 11 = .ok (.iload_n 3, 1) := by decide +kernel
theorem dX11_right_12 : decode cX11_right 12 = .ok (.iadd, 1) := by decide +kernel
theorem dX11_right_13 : decode cX11_right 13 = .ok (.sipush 1000, 3) := by decide +kernel
theorem dX11_right_16 : decode cX11_right 16 = .ok (.if_icmp .lt 5, 3) := by decide +kernel
theorem dX11_right_19 : decode cX11_right 19 = .ok (.iconst (-1), 1) := by decide +kernel
theorem dX11_right_20 : decode cX11_right 20 = .ok (.ireturn, 1) := by decide +kernel
theorem dX11_right_21 : decode cX11_right 21 = .ok (.sipush 1000, 3) := by decide +kernel
theorem dX11_right_24 : decode cX11_right 24 = .ok (.iload_n 1, 1) := by decide +kernel
theorem dX11_right_25 : decode cX11_right 25 = .ok (.imul, 1) := by decide +kernel
theorem dX11_right_26 : decode cX11_right 26 = .ok (.iload_n 2, 1) := by decide +kernel
theorem dX11_right_27 : decode cX11_right 27 = .ok (.iadd, 1) := by decide +kernel
theorem dX11_right_28 : decode cX11_right 28 = .ok (.istore 4, 2) := by decide +kernel
theorem dX11_right_30 : decode cX11_right 30 = .ok (.iconst 0, 1) := by decide +kernel
theorem dX11_right_31 : decode cX11_right 31 = .ok (.istore 5, 2) := by decide +kernel
theorem dX11_right_33 : decode cX11_right 33 = .ok (.iload 5, 2) := by decide +kernel
theorem dX11_right_35 : decode cX11_right 35 = .ok (.aload_n 0, 1) := by decide +kernel
theorem dX11_right_36 : decode cX11_right 36 = .ok (.invokevirtual 565, 3) := by decide +kernel
theorem dX11_right_39 : decode cX11_right 39 = .ok (.if_icmp .ge 67, 3) := by decide +kernel
theorem dX11_right_42 : decode cX11_right 42 = .ok (.aload_n 0, 1) := by decide +kernel
theorem dX11_right_43 : decode cX11_right 43 = .ok (.iload 4, 2) := by decide +kernel
theorem dX11_right_45 : decode cX11_right 45 = .ok (.iload_n 3, 1) := by decide +kernel
theorem dX11_right_46 : decode cX11_right 46 = .ok (.iload 5, 2) := by decide +kernel
theorem dX11_right_48 : decode cX11_right 48 = .ok (.invokevirtual 568, 3) := by decide +kernel
theorem dX11_right_51 : decode cX11_right 51 = .ok (.ifCond .eq 49, 3) := by decide +kernel
theorem dX11_right_54 : decode cX11_right 54 = .ok (.aload_n 0, 1) := by decide +kernel
theorem dX11_right_55 : decode cX11_right 55 = .ok (.iload 4, 2) := by decide +kernel
theorem dX11_right_57 : decode cX11_right 57 = .ok (.iload_n 3, 1) := by decide +kernel
theorem dX11_right_58 : decode cX11_right 58 = .ok (.iadd, 1) := by decide +kernel
theorem dX11_right_59 : decode cX11_right 59 = .ok (.iconst 1, 1) := by decide +kernel
theorem dX11_right_60 : decode cX11_right 60 = .ok (.isub, 1) := by decide +kernel
theorem dX11_right_61 : decode cX11_right 61 = .ok (.aload_n 0, 1) := by decide +kernel
theorem dX11_right_62 : decode cX11_right 62 = .ok (.iload 5, 2) := by decide +kernel
theorem dX11_right_64 : decode cX11_right 64 = .ok (.invokevirtual 549, 3) := by decide +kernel
theorem dX11_right_67 : decode cX11_right 67 = .ok (.aload_n 0, 1) := by decide +kernel
theorem dX11_right_68 : decode cX11_right 68 = .ok (.iload 5, 2) := by decide +kernel
theorem dX11_right_70 : decode cX11_right 70 = .ok (.invokevirtual 552, 3) := by decide +kernel
theorem dX11_right_73 : decode cX11_right 73 = .ok (.aload_n 0, 1) := by decide +kernel
theorem dX11_right_74 : decode cX11_right 74 = .ok (.iload 5, 2) := by decide +kernel
theorem dX11_right_76 : decode cX11_right 76 = .ok (.invokevirtual 555, 3) := by decide +kernel
theorem dX11_right_79 : decode cX11_right 79 = .ok (.invokevirtual 545, 3) := by decide +kernel
theorem dX11_right_82 : decode cX11_right 82 = .ok (.aload_n 0, 1) := by decide +kernel
theorem dX11_right_83 : decode cX11_right 83 = .ok (.getfield 180, 3) := by decide +kernel
theorem dX11_right_86 : decode cX11_right 86 = .ok (.iload 4, 2) := by decide +kernel
theorem dX11_right_88 : decode cX11_right 88 = .ok (.iload_n 3, 1) := by decide +kernel
theorem dX11_right_89 : decode cX11_right 89 = .ok (.iadd, 1) := by decide +kernel
theorem dX11_right_90 : decode cX11_right 90 = .ok (.iaload, 1) := by decide +kernel
theorem dX11_right_91 : decode cX11_right 91 = .ok (.if_icmp .ne 7, 3) := by decide +kernel
theorem dX11_right_94 : decode cX11_right 94 = .ok (.iconst 1, 1) := by decide +kernel
theorem dX11_right_95 : decode cX11_right 95 = .ok (.goto 4, 3) := by decide +kernel
theorem dX11_right_98 : decode cX11_right 98 = .ok (.iconst 0, 1) := by decide +kernel
theorem dX11_right_99 : decode cX11_right 99 = .ok (.ireturn, 1) := by decide +kernel
theorem dX11_right_100 : decode cX11_right 100 = .ok (.iinc 5 1, 3) := by decide +kernel
theorem dX11_right_103 : decode cX11_right 103 = .ok (.goto (-70), 3) := by decide +kernel
theorem dX11_right_106 : decode cX11_right 106 = .ok (.iconst (-1), 1) := by decide +kernel
theorem dX11_right_107 : decode cX11_right 107 = .ok (.ireturn, 1) := by decide +kernel
theorem dX11_same_0 : decode cX11_same 0 = .ok (.aload_n 0, 1) := by decide +kernel
theorem dX11_same_1 : decode cX11_same 1 = .ok (.iload_n 1, 1) := by decide +kernel
theorem dX11_same_2 : decode cX11_same 2 = .ok (.invokevirtual 469, 3) := by decide +kernel
theorem dX11_same_5 : decode cX11_same 5 = .ok (.ifCond .eq 25, 3) := by decide +kernel
theorem dX11_same_8 : decode cX11_same 8 = .ok (.aload_n 0, 1) := by decide +kernel
theorem dX11_same_9 : decode cX11_same 9 = .ok (.iload_n 2, 1) := by decide +kernel
theorem dX11_same_10 : decode cX11_same 10 = .ok (.invokevirtual 469, 3) := by decide +kernel
theorem dX11_same_13 : decode cX11_same 13 = .ok (.ifCond .eq 17, 3) := by decide +kernel
theorem dX11_same_16 : decode cX11_same 16 = .ok (.iload_n 1, 1) := by decide +kernel
theorem dX11_same_17 : decode cX11_same 17 = .ok (.iload_n 2, 1) := by decide +kernel
theorem dX11_same_18 : decode cX11_same 18 = .ok (.if_icmp .eq 12, 3) := by decide +kernel
theorem dX11_same_21 : decode cX11_same 21 = .ok (.iload_n 3, 1) := by decide +kernel
theorem dX11_same_22 : decode cX11_same 22 = .ok (.ifCond .eq 10, 3) := by decide +kernel
theorem dX11_same_25 : decode cX11_same 25 = .ok (.iload_n 3, 1) := by decide +kernel
theorem dX11_same_26 : decode cX11_same 26 = .ok (.iconst 1, 1) := by decide +kernel
theorem dX11_same_27 : decode cX11_same 27 = .ok (.if_icmp .eq 5, 3) := by decide +kernel
theorem dX11_same_30 : decode cX11_same 30 = .ok (.iconst (-1), 1) := by decide +kernel
theorem dX11_same_31 : decode cX11_same 31 = .ok (.ireturn, 1) := by decide +kernel
theorem dX11_same_32 : decode cX11_same 32 = .ok (.iconst 0, 1) := by decide +kernel
theorem dX11_same_33 : decode cX11_same 33 = .ok (.istore 4, 2) := by decide +kernel
theorem dX11_same_35 : decode cX11_same 35 = .ok (.iload 4, 2) := by decide +kernel
theorem dX11_same_37 : decode cX11_same 37 = .ok (.sipush 999, 3) := by decide +kernel
theorem dX11_same_40 : decode cX11_same 40 = .ok (.if_icmp .ge 67, 3) := by decide +kernel
theorem dX11_same_43 : decode cX11_same 43 = .ok (.iconst 0, 1) := by decide +kernel
theorem dX11_same_44 : decode cX11_same 44 = .ok (.istore 5, 2) := by decide +kernel
theorem dX11_same_46 : decode cX11_same 46 = .ok (.iload 5, 2) := by decide +kernel
theorem dX11_same_48 : decode cX11_same 48 = .ok (.sipush 999, 3) := by decide +kernel
theorem dX11_same_51 : decode cX11_same 51 = .ok (.if_icmp .ge 50, 3) := by decide +kernel
theorem dX11_same_54 : decode cX11_same 54 = .ok (.aload_n 0, 1) := by decide +kernel
theorem dX11_same_55 : decode cX11_same 55 = .ok (.getfield 180, 3) := by decide +kernel
theorem dX11_same_58 : decode cX11_same 58 = .ok (.sipush 1000, 3) := by decide +kernel
theorem dX11_same_61 : decode cX11_same 61 = .ok (.iload_n 1, 1) := by decide +kernel
theorem dX11_same_62 : decode cX11_same 62 = .ok (.imul, 1) := by decide +kernel
theorem dX11_same_63 : decode cX11_same 63 = .ok (.iload 4, 2) := by decide +kernel
theorem dX11_same_65 : decode cX11_same 65 = .ok (.iadd, 1) := by decide +kernel
theorem dX11_same_66 : decode cX11_same 66 = .ok (.iaload, 1) := by decide +kernel
theorem dX11_same_67 : decode cX11_same 67 = .ok (.aload_n 0, 1) := by decide +kernel
theorem dX11_same_68 : decode cX11_same 68 = .ok (.getfield 180, 3) := by decide +kernel
theorem dX11_same_71 : decode cX11_same 71 = .ok (.sipush 1000, 3) := by decide +kernel
theorem dX11_same_74 : decode cX11_same 74 = .ok (.iload_n 2, 1) := by decide +kernel
theorem dX11_same_75 : decode cX11_same 75 = .ok (.imul, 1) := by decide +kernel
theorem dX11_same_76 : decode cX11_same 76 = .ok (.iload 5, 2) := by decide +kernel
theorem dX11_same_78 : decode cX11_same 78 = .ok (.iadd, 1) := by decide +kernel
theorem dX11_same_79 : decode cX11_same 79 = .ok (.iaload, 1) := by decide +kernel
theorem dX11_same_80 : decode cX11_same 80 = .ok (.if_icmp .ne 15, 3) := by decide +kernel
theorem dX11_same_83 : decode cX11_same 83 = .ok (.iload_n 3, 1) := by decide +kernel
theorem dX11_same_84 : decode cX11_same 84 = .ok (.ifCond .ne 8, 3) := by decide +kernel
theorem dX11_same_87 : decode cX11_same 87 = .ok (.iload 4, 2) := by decide +kernel
theorem dX11_same_89 : decode cX11_same 89 = .ok (.goto 5, 3) := by decide +kernel
theorem dX11_same_92 : decode cX11_same 92 = .ok (.iload 5, 2) := by decide +kernel
theorem dX11_same_94 : decode cX11_same 94 = .ok (.ireturn, 1) := by decide +kernel
theorem dX11_same_95 : decode cX11_same 95 = .ok (.iinc 5 1, 3) := by decide +kernel
theorem dX11_same_98 : decode cX11_same 98 = .ok (.goto (-52), 3) := by decide +kernel
theorem dX11_same_101 : decode cX11_same 101 = .ok (.iinc 4 1, 3) := by decide +kernel
theorem dX11_same_104 : decode cX11_same 104 = .ok (.goto (-69), 3) := by decide +kernel
theorem dX11_same_107 : decode cX11_same 107 = .ok (.iconst (-1), 1) := by decide +kernel
theorem dX11_same_108 : decode cX11_same 108 = .ok (.ireturn, 1) := by decide +kernel
theorem dX11_tells_0 : decode cX11_tells 0 = .ok (.aload_n 0, 1) := by decide +kernel
theorem dX11_tells_1 : decode cX11_tells 1 = .ok (.iload_n 1, 1) := by decide +kernel
theorem dX11_tells_2 : decode cX11_tells 2 = .ok (.invokevirtual 469, 3) := by decide +kernel
theorem dX11_tells_5 : decode cX11_tells 5 = .ok (.ifCond .eq 23, 3) := by decide +kernel
theorem dX11_tells_8 : decode cX11_tells 8 = .ok (.aload_n 0, 1) := by decide +kernel
theorem dX11_tells_9 : decode cX11_tells 9 = .ok (.iload_n 2, 1) := by decide +kernel
theorem dX11_tells_10 : decode cX11_tells 10 = .ok (.invokevirtual 469, 3) := by decide +kernel
theorem dX11_tells_13 : decode cX11_tells 13 = .ok (.ifCond .eq 15, 3) := by decide +kernel
theorem dX11_tells_16 : decode cX11_tells 16 = .ok (.iload_n 1, 1) := by decide +kernel
theorem dX11_tells_17 : decode cX11_tells 17 = .ok (.iload_n 2, 1) := by decide +kernel
theorem dX11_tells_18 : decode cX11_tells 18 = .ok (.if_icmp .eq 10, 3) := by decide +kernel
theorem dX11_tells_21 : decode cX11_tells 21 = .ok (.iload_n 3, 1) := by decide +kernel
theorem dX11_tells_22 : decode cX11_tells 22 = .ok (.invokestatic 472, 3) := by decide +kernel
theorem dX11_tells_25 : decode cX11_tells 25 = .ok (.ifCond .ne 5, 3) := by decide +kernel
theorem dX11_tells_28 : decode cX11_tells 28 = .ok (.iconst (-1), 1) := by decide +kernel
theorem dX11_tells_29 : decode cX11_tells 29 = .ok (.ireturn, 1) := by decide +kernel
theorem dX11_tells_30 : decode cX11_tells 30 = .ok (.iload_n 3, 1) := by decide +kernel
theorem dX11_tells_31 : decode cX11_tells 31 = .ok (.istore 4, 2) := by decide +kernel
theorem dX11_tells_33 : decode cX11_tells 33 = .ok (.iload 4, 2) := by decide +kernel
theorem dX11_tells_35 : decode cX11_tells 35 = .ok (.sipush 1000, 3) := by decide +kernel
theorem dX11_tells_38 : decode cX11_tells 38 = .ok (.if_icmp .ge 45, 3) := by decide +kernel
theorem dX11_tells_41 : decode cX11_tells 41 = .ok (.aload_n 0, 1) := by decide +kernel
theorem dX11_tells_42 : decode cX11_tells 42 = .ok (.getfield 180, 3) := by decide +kernel
theorem dX11_tells_45 : decode cX11_tells 45 = .ok (.sipush 1000, 3) := by decide +kernel
theorem dX11_tells_48 : decode cX11_tells 48 = .ok (.iload_n 1, 1) := by decide +kernel
theorem dX11_tells_49 : decode cX11_tells 49 = .ok (.imul, 1) := by decide +kernel
theorem dX11_tells_50 : decode cX11_tells 50 = .ok (.iload 4, 2) := by decide +kernel
theorem dX11_tells_52 : decode cX11_tells 52 = .ok (.iadd, 1) := by decide +kernel
theorem dX11_tells_53 : decode cX11_tells 53 = .ok (.iaload, 1) := by decide +kernel
theorem dX11_tells_54 : decode cX11_tells 54 = .ok (.aload_n 0, 1) := by decide +kernel
theorem dX11_tells_55 : decode cX11_tells 55 = .ok (.getfield 180, 3) := by decide +kernel
theorem dX11_tells_58 : decode cX11_tells 58 = .ok (.sipush 1000, 3) := by decide +kernel
theorem dX11_tells_61 : decode cX11_tells 61 = .ok (.iload_n 2, 1) := by decide +kernel
theorem dX11_tells_62 : decode cX11_tells 62 = .ok (.imul, 1) := by decide +kernel
theorem dX11_tells_63 : decode cX11_tells 63 = .ok (.iload 4, 2) := by decide +kernel
theorem dX11_tells_65 : decode cX11_tells 65 = .ok (.iadd, 1) := by decide +kernel
theorem dX11_tells_66 : decode cX11_tells 66 = .ok (.iaload, 1) := by decide +kernel
theorem dX11_tells_67 : decode cX11_tells 67 = .ok (.if_icmp .eq 10, 3) := by decide +kernel
theorem dX11_tells_70 : decode cX11_tells 70 = .ok (.iload 4, 2) := by decide +kernel
theorem dX11_tells_72 : decode cX11_tells 72 = .ok (.iload_n 3, 1) := by decide +kernel
theorem dX11_tells_73 : decode cX11_tells 73 = .ok (.isub, 1) := by decide +kernel
theorem dX11_tells_74 : decode cX11_tells 74 = .ok (.iconst 1, 1) := by decide +kernel
theorem dX11_tells_75 : decode cX11_tells 75 = .ok (.iadd, 1) := by decide +kernel
theorem dX11_tells_76 : decode cX11_tells 76 = .ok (.ireturn, 1) := by decide +kernel
theorem dX11_tells_77 : decode cX11_tells 77 = .ok (.iinc 4 1, 3) := by decide +kernel
theorem dX11_tells_80 : decode cX11_tells 80 = .ok (.goto (-47), 3) := by decide +kernel
theorem dX11_tells_83 : decode cX11_tells 83 = .ok (.iconst (-1), 1) := by decide +kernel
theorem dX11_tells_84 : decode cX11_tells 84 = .ok (.ireturn, 1) := by decide +kernel
theorem dX11_bird_0 : decode cX11_bird 0 = .ok (.aload_n 0, 1) := by decide +kernel
theorem dX11_bird_1 : decode cX11_bird 1 = .ok (.iload_n 1, 1) := by decide +kernel
theorem dX11_bird_2 : decode cX11_bird 2 = .ok (.invokevirtual 456, 3) := by decide +kernel
theorem dX11_bird_5 : decode cX11_bird 5 = .ok (.ifCond .eq 29, 3) := by decide +kernel
theorem dX11_bird_8 : decode cX11_bird 8 = .ok (.aload_n 0, 1) := by decide +kernel
theorem dX11_bird_9 : decode cX11_bird 9 = .ok (.iload_n 2, 1) := by decide +kernel
theorem dX11_bird_10 : decode cX11_bird 10 = .ok (.invokevirtual 469, 3) := by decide +kernel
theorem dX11_bird_13 : decode cX11_bird 13 = .ok (.ifCond .eq 21, 3) := by decide +kernel
theorem dX11_bird_16 : decode cX11_bird 16 = .ok (.iload_n 3, 1) := by decide +kernel
theorem dX11_bird_17 : decode cX11_bird 17 = .ok (.invokestatic 472, 3) := by decide +kernel
theorem dX11_bird_20 : decode cX11_bird 20 = .ok (.ifCond .eq 14, 3) := by decide +kernel
theorem dX11_bird_23 : decode cX11_bird 23 = .ok (.iload 4, 2) := by decide +kernel
theorem dX11_bird_25 : decode cX11_bird 25 = .ok (.iconst 1, 1) := by decide +kernel
theorem dX11_bird_26 : decode cX11_bird 26 = .ok (.bipush 100, 2) := by decide +kernel
theorem dX11_bird_28 : decode cX11_bird 28 = .ok (.invokestatic 324, 3) := by decide +kernel
theorem dX11_bird_31 : decode cX11_bird 31 = .ok (.ifCond .ne 5, 3) := by decide +kernel
theorem dX11_bird_34 : decode cX11_bird 34 = .ok (.iconst (-1), 1) := by decide +kernel
theorem dX11_bird_35 : decode cX11_bird 35 = .ok (.ireturn, 1) := by decide +kernel
theorem dX11_bird_36 : decode cX11_bird 36 = .ok (.aload_n 0, 1) := by decide +kernel
theorem dX11_bird_37 : decode cX11_bird 37 = .ok (.invokevirtual 508, 3) := by decide +kernel
theorem dX11_bird_40 : decode cX11_bird 40 = .ok (.iconst 0, 1) := by decide +kernel
theorem dX11_bird_41 : decode cX11_bird 41 = .ok (.istore 5, 2) := by decide +kernel
theorem dX11_bird_43 : decode cX11_bird 43 = .ok (.iconst 0, 1) := by decide +kernel
theorem dX11_bird_44 : decode cX11_bird 44 = .ok (.istore 6, 2) := by decide +kernel
theorem dX11_bird_46 : decode cX11_bird 46 = .ok (.iload 6, 2) := by decide +kernel
theorem dX11_bird_48 : decode cX11_bird 48 = .ok (.iload 4, 2) := by decide +kernel
theorem dX11_bird_50 : decode cX11_bird 50 = .ok (.if_icmp .ge 34, 3) := by decide +kernel
theorem dX11_bird_53 : decode cX11_bird 53 = .ok (.aload_n 0, 1) := by decide +kernel
theorem dX11_bird_54 : decode cX11_bird 54 = .ok (.iload_n 2, 1) := by decide +kernel
theorem dX11_bird_55 : decode cX11_bird 55 = .ok (.iload_n 3, 1) := by decide +kernel
theorem dX11_bird_56 : decode cX11_bird 56 = .ok (.invokevirtual 499, 3) := by decide +kernel
theorem dX11_bird_59 : decode cX11_bird 59 = .ok (.iload 5, 2) := by decide +kernel
theorem dX11_bird_61 : decode cX11_bird 61 = .ok (.aload_n 0, 1) := by decide +kernel
theorem dX11_bird_62 : decode cX11_bird 62 = .ok (.iload_n 1, 1) := by decide +kernel
theorem dX11_bird_63 : decode cX11_bird 63 = .ok (.invokevirtual 487, 3) := by decide +kernel
theorem dX11_bird_66 : decode cX11_bird 66 = .ok (.iconst (-1), 1) := by decide +kernel
theorem dX11_bird_67 : decode cX11_bird 67 = .ok (.if_icmp .eq 7, 3) := by decide +kernel
theorem dX11_bird_70 : decode cX11_bird 70 = .ok (.iconst 1, 1) := by decide +kernel
theorem dX11_bird_71 : decode cX11_bird 71 = .ok (.goto 4, 3) := by decide +kernel
theorem dX11_bird_74 : decode cX11_bird 74 = .ok (.iconst 0, 1) := by decide +kernel
theorem dX11_bird_75 : decode cX11_bird 75 = .ok (.iadd, 1) := by decide +kernel
theorem dX11_bird_76 : decode cX11_bird 76 = .ok (.istore 5, 2) := by decide +kernel
theorem dX11_bird_78 : decode cX11_bird 78 = .ok (.iinc 6 1, 3) := by decide +kernel
theorem dX11_bird_81 : decode cX11_bird 81 = .ok (.goto (-35), 3) := by decide +kernel
theorem dX11_bird_84 : decode cX11_bird 84 = .ok (.aload_n 0, 1) := by decide +kernel
theorem dX11_bird_85 : decode cX11_bird 85 = .ok (.invokevirtual 514, 3) := by decide +kernel
theorem dX11_bird_88 : decode cX11_bird 88 = .ok (.iload 5, 2) := by decide +kernel
theorem dX11_bird_90 : decode cX11_bird 90 = .ok (.ireturn, 1) := by decide +kernel
theorem dX11_drawn_0 : decode cX11_drawn 0 = .ok (.aload_n 0, 1) := by decide +kernel
theorem dX11_drawn_1 : decode cX11_drawn 1 = .ok (.ldc2_w 574, 3) := by decide +kernel
theorem dX11_drawn_4 : decode cX11_drawn 4 = .ok (.aload_n 0, 1) := by decide +kernel
theorem dX11_drawn_5 : decode cX11_drawn 5 = .ok (.getfield 228, 3) := by decide +kernel
theorem dX11_drawn_8 : decode cX11_drawn 8 = .ok (.lmul, 1) := by decide +kernel
theorem dX11_drawn_9 : decode cX11_drawn 9 = .ok (.ldc2_w 576, 3) := by decide +kernel
theorem dX11_drawn_12 : decode cX11_drawn 12 = .ok (.ladd, 1) := by decide +kernel
theorem dX11_drawn_13 : decode cX11_drawn 13 = .ok (.ldc2_w 578, 3) := by decide +kernel
theorem dX11_drawn_16 : decode cX11_drawn 16 = .ok (.lrem, 1) := by decide +kernel
theorem dX11_drawn_17 : decode cX11_drawn 17 = .ok (.putfield 228, 3) := by decide +kernel
theorem dX11_drawn_20 : decode cX11_drawn 20 = .ok (.aload_n 0, 1) := by decide +kernel
theorem dX11_drawn_21 : decode cX11_drawn 21 = .ok (.getfield 228, 3) := by decide +kernel
theorem dX11_drawn_24 : decode cX11_drawn 24 = .ok (.ldc2_w 580, 3) := by decide +kernel
theorem dX11_drawn_27 : decode cX11_drawn 27 = .ok (.ldiv, 1) := by decide +kernel
theorem dX11_drawn_28 : decode cX11_drawn 28 = .ok (.iload_n 1, 1) := by decide +kernel
theorem dX11_drawn_29 : decode cX11_drawn 29 = .ok (.i2l, 1) := by decide +kernel
theorem dX11_drawn_30 : decode cX11_drawn 30 = .ok (.lrem, 1) := by decide +kernel
theorem dX11_drawn_31 : decode cX11_drawn 31 = .ok (.l2i, 1) := by decide +kernel
theorem dX11_drawn_32 : decode cX11_drawn 32 = .ok (.ireturn, 1) := by decide +kernel
theorem dX11_night_0 : decode cX11_night 0 = .ok (.aload_n 0, 1) := by decide +kernel
theorem dX11_night_1 : decode cX11_night 1 = .ok (.aload_n 0, 1) := by decide +kernel
theorem dX11_night_2 : decode cX11_night 2 = .ok (.getfield 97, 3) := by decide +kernel
theorem dX11_night_5 : decode cX11_night 5 = .ok (.aload_n 0, 1) := by decide +kernel
theorem dX11_night_6 : decode cX11_night 6 = .ok (.getfield 48, 3) := by decide +kernel
theorem dX11_night_9 : decode cX11_night 9 = .ok (.iaload, 1) := by decide +kernel
theorem dX11_night_10 : decode cX11_night 10 = .ok (.invokevirtual 582, 3) := by decide +kernel
theorem dX11_night_13 : decode cX11_night 13 = .ok (.istore_n 1, 1) := by decide +kernel
theorem dX11_night_14 : decode cX11_night 14 = .ok (.aload_n 0, 1) := by decide +kernel
theorem dX11_night_15 : decode cX11_night 15 = .ok (.bipush 100, 2) := by decide +kernel
theorem dX11_night_17 : decode cX11_night 17 = .ok (.invokevirtual 582, 3) := by decide +kernel
theorem dX11_night_20 : decode cX11_night 20 = .ok (.aload_n 0, 1) := by decide +kernel
theorem dX11_night_21 : decode cX11_night 21 = .ok (.getfield 109, 3) := by decide +kernel
theorem dX11_night_24 : decode cX11_night 24 = .ok (.aload_n 0, 1) := by decide +kernel
theorem dX11_night_25 : decode cX11_night 25 = .ok (.iload_n 1, 1) := by decide +kernel
theorem dX11_night_26 : decode cX11_night 26 = .ok (.invokevirtual 453, 3) := by decide +kernel
theorem dX11_night_29 : decode cX11_night 29 = .ok (.iaload, 1) := by decide +kernel
theorem dX11_night_30 : decode cX11_night 30 = .ok (.if_icmp .ge 25, 3) := by decide +kernel
theorem dX11_night_33 : decode cX11_night 33 = .ok (.aload_n 0, 1) := by decide +kernel
theorem dX11_night_34 : decode cX11_night 34 = .ok (.getfield 183, 3) := by decide +kernel
theorem dX11_night_37 : decode cX11_night 37 = .ok (.iload_n 1, 1) := by decide +kernel
theorem dX11_night_38 : decode cX11_night 38 = .ok (.iaload, 1) := by decide +kernel
theorem dX11_night_39 : decode cX11_night 39 = .ok (.sipush 1000, 3) := by decide +kernel
theorem dX11_night_42 : decode cX11_night 42 = .ok (.if_icmp .ge 13, 3) := by decide +kernel
theorem dX11_night_45 : decode cX11_night 45 = .ok (.aload_n 0, 1) := by decide +kernel
theorem dX11_night_46 : decode cX11_night 46 = .ok (.getfield 183, 3) := by decide +kernel
theorem dX11_night_49 : decode cX11_night 49 = .ok (.iload_n 1, 1) := by decide +kernel
theorem dX11_night_50 : decode cX11_night 50 = .ok (.dup2, 1) := by decide +kernel
theorem dX11_night_51 : decode cX11_night 51 = .ok (.iaload, 1) := by decide +kernel
theorem dX11_night_52 : decode cX11_night 52 = .ok (.iconst 1, 1) := by decide +kernel
theorem dX11_night_53 : decode cX11_night 53 = .ok (.iadd, 1) := by decide +kernel
theorem dX11_night_54 : decode cX11_night 54 = .ok (.iastore, 1) := by decide +kernel
theorem dX11_night_55 : decode cX11_night 55 = .ok (.aload_n 0, 1) := by decide +kernel
theorem dX11_night_56 : decode cX11_night 56 = .ok (.iload_n 1, 1) := by decide +kernel
theorem dX11_night_57 : decode cX11_night 57 = .ok (.invokevirtual 493, 3) := by decide +kernel
theorem dX11_night_60 : decode cX11_night 60 = .ok (.istore_n 2, 1) := by decide +kernel
theorem dX11_night_61 : decode cX11_night 61 = .ok (.iload_n 2, 1) := by decide +kernel
theorem dX11_night_62 : decode cX11_night 62 = .ok (.ifCond .eq 23, 3) := by decide +kernel
theorem dX11_night_65 : decode cX11_night 65 = .ok (.aload_n 0, 1) := by decide +kernel
theorem dX11_night_66 : decode cX11_night 66 = .ok (.aload_n 0, 1) := by decide +kernel
theorem dX11_night_67 : decode cX11_night 67 = .ok (.getfield 106, 3) := by decide +kernel
theorem dX11_night_70 : decode cX11_night 70 = .ok (.aload_n 0, 1) := by decide +kernel
theorem dX11_night_71 : decode cX11_night 71 = .ok (.iload_n 1, 1) := by decide +kernel
theorem dX11_night_72 : decode cX11_night 72 = .ok (.invokevirtual 453, 3) := by decide +kernel
theorem dX11_night_75 : decode cX11_night 75 = .ok (.iaload, 1) := by decide +kernel
theorem dX11_night_76 : decode cX11_night 76 = .ok (.aload_n 0, 1) := by decide +kernel
theorem dX11_night_77 : decode cX11_night 77 = .ok (.getfield 183, 3) := by decide +kernel
theorem dX11_night_80 : decode cX11_night 80 = .ok (.iload_n 1, 1) := by decide +kernel
theorem dX11_night_81 : decode cX11_night 81 = .ok (.iaload, 1) := by decide +kernel
theorem dX11_night_82 : decode cX11_night 82 = .ok (.invokevirtual 499, 3) := by decide +kernel
theorem dX11_night_85 : decode cX11_night 85 = .ok (.aload_n 0, 1) := by decide +kernel
theorem dX11_night_86 : decode cX11_night 86 = .ok (.bipush 100, 2) := by decide +kernel
theorem dX11_night_88 : decode cX11_night 88 = .ok (.invokevirtual 582, 3) := by decide +kernel
theorem dX11_night_91 : decode cX11_night 91 = .ok (.aload_n 0, 1) := by decide +kernel
theorem dX11_night_92 : decode cX11_night 92 = .ok (.getfield 112, 3) := by decide +kernel
theorem dX11_night_95 : decode cX11_night 95 = .ok (.aload_n 0, 1) := by decide +kernel
theorem dX11_night_96 : decode cX11_night 96 = .ok (.iload_n 1, 1) := by decide +kernel
theorem dX11_night_97 : decode cX11_night 97 = .ok (.invokevirtual 453, 3) := by decide +kernel
theorem dX11_night_100 : decode cX11_night 100 = .ok (.iaload, 1) := by decide +kernel
theorem dX11_night_101 : decode cX11_night 101 = .ok (.if_icmp .ge 73, 3) := by decide +kernel
theorem dX11_night_104 : decode cX11_night 104 = .ok (.aload_n 0, 1) := by decide +kernel
theorem dX11_night_105 : decode cX11_night 105 = .ok (.aload_n 0, 1) := by decide +kernel
theorem dX11_night_106 : decode cX11_night 106 = .ok (.getfield 54, 3) := by decide +kernel
theorem dX11_night_109 : decode cX11_night 109 = .ok (.aload_n 0, 1) := by decide +kernel
theorem dX11_night_110 : decode cX11_night 110 = .ok (.getfield 48, 3) := by decide +kernel
theorem dX11_night_113 : decode cX11_night 113 = .ok (.iaload, 1) := by decide +kernel
theorem dX11_night_114 : decode cX11_night 114 = .ok (.invokevirtual 582, 3) := by decide +kernel
theorem dX11_night_117 : decode cX11_night 117 = .ok (.istore_n 3, 1) := by decide +kernel
theorem dX11_night_118 : decode cX11_night 118 = .ok (.aload_n 0, 1) := by decide +kernel
theorem dX11_night_119 : decode cX11_night 119 = .ok (.aload_n 0, 1) := by decide +kernel
theorem dX11_night_120 : decode cX11_night 120 = .ok (.getfield 51, 3) := by decide +kernel
theorem dX11_night_123 : decode cX11_night 123 = .ok (.aload_n 0, 1) := by decide +kernel
theorem dX11_night_124 : decode cX11_night 124 = .ok (.getfield 48, 3) := by decide +kernel
theorem dX11_night_127 : decode cX11_night 127 = .ok (.iaload, 1) := by decide +kernel
theorem dX11_night_128 : decode cX11_night 128 = .ok (.iconst 1, 1) := by decide +kernel
theorem dX11_night_129 : decode cX11_night 129 = .ok (.isub, 1) := by decide +kernel
theorem dX11_night_130 : decode cX11_night 130 = .ok (.invokevirtual 582, 3) := by decide +kernel
theorem dX11_night_133 : decode cX11_night 133 = .ok (.iconst 1, 1) := by decide +kernel
theorem dX11_night_134 : decode cX11_night 134 = .ok (.iadd, 1) := by decide +kernel
theorem dX11_night_135 : decode cX11_night 135 = .ok (.istore 4, 2) := by decide +kernel
theorem dX11_night_137 : decode cX11_night 137 = .ok (.iload_n 2, 1) := by decide +kernel
theorem dX11_night_138 : decode cX11_night 138 = .ok (.ifCond .eq 28, 3) := by decide +kernel
theorem dX11_night_141 : decode cX11_night 141 = .ok (.aload_n 0, 1) := by decide +kernel
theorem dX11_night_142 : decode cX11_night 142 = .ok (.getfield 210, 3) := by decide +kernel
theorem dX11_night_145 : decode cX11_night 145 = .ok (.iload_n 3, 1) := by decide +kernel
theorem dX11_night_146 : decode cX11_night 146 = .ok (.aload_n 0, 1) := by decide +kernel
theorem dX11_night_147 : decode cX11_night 147 = .ok (.getfield 210, 3) := by decide +kernel
theorem dX11_night_150 : decode cX11_night 150 = .ok (.iload_n 3, 1) := by decide +kernel
theorem dX11_night_151 : decode cX11_night 151 = .ok (.iaload, 1) := by decide +kernel
theorem dX11_night_152 : decode cX11_night 152 = .ok (.iload 4, 2) := by decide +kernel
theorem dX11_night_154 : decode cX11_night 154 = .ok (.iadd, 1) := by decide +kernel
theorem dX11_night_155 : decode cX11_night 155 = .ok (.aload_n 0, 1) := by decide +kernel
theorem dX11_night_156 : decode cX11_night 156 = .ok (.getfield 51, 3) := by decide +kernel
theorem dX11_night_159 : decode cX11_night 159 = .ok (.aload_n 0, 1) := by decide +kernel
theorem dX11_night_160 : decode cX11_night 160 = .ok (.getfield 48, 3) := by decide +kernel
theorem dX11_night_163 : decode cX11_night 163 = .ok (.iaload, 1) := by decide +kernel
theorem dX11_night_164 : decode cX11_night 164 = .ok (.irem, 1) := by decide +kernel
theorem dX11_night_165 : decode cX11_night 165 = .ok (.iastore, 1) := by decide +kernel
theorem dX11_night_166 : decode cX11_night 166 = .ok (.iload_n 2, 1) := by decide +kernel
theorem dX11_night_167 : decode cX11_night 167 = .ok (.ifCond .eq 7, 3) := by decide +kernel
theorem dX11_night_170 : decode cX11_night 170 = .ok (.aload_n 0, 1) := by decide +kernel
theorem dX11_night_171 : decode cX11_night 171 = .ok (.invokevirtual 505, 3) := by decide +kernel
theorem dX11_night_174 : decode cX11_night 174 = .ok (.iload_n 2, 1) := by decide +kernel
theorem dX11_night_175 : decode cX11_night 175 = .ok (.ifCond .eq 16, 3) := by decide +kernel
theorem dX11_night_178 : decode cX11_night 178 = .ok (.aload_n 0, 1) := by decide +kernel
theorem dX11_night_179 : decode cX11_night 179 = .ok (.iload_n 1, 1) := by decide +kernel
theorem dX11_night_180 : decode cX11_night 180 = .ok (.invokevirtual 502, 3) := by decide +kernel
theorem dX11_night_183 : decode cX11_night 183 = .ok (.iconst (-1), 1) := by decide +kernel
theorem dX11_night_184 : decode cX11_night 184 = .ok (.if_icmp .eq 7, 3) := by decide +kernel
theorem dX11_night_187 : decode cX11_night 187 = .ok (.iconst 1, 1) := by decide +kernel
theorem dX11_night_188 : decode cX11_night 188 = .ok (.goto 4, 3) := by decide +kernel
theorem dX11_night_191 : decode cX11_night 191 = .ok (.iconst 0, 1) := by decide +kernel
theorem dX11_night_192 : decode cX11_night 192 = .ok (.ireturn, 1) := by decide +kernel
theorem dX11_nights_0 : decode cX11_nights 0 = .ok (.iload_n 1, 1) := by decide +kernel
theorem dX11_nights_1 : decode cX11_nights 1 = .ok (.iconst 1, 1) := by decide +kernel
theorem dX11_nights_2 : decode cX11_nights 2 = .ok (.bipush 60, 2) := by decide +kernel
theorem dX11_nights_4 : decode cX11_nights 4 = .ok (.invokestatic 324, 3) := by decide +kernel
theorem dX11_nights_7 : decode cX11_nights 7 = .ok (.ifCond .eq 15, 3) := by decide +kernel
theorem dX11_nights_10 : decode cX11_nights 10 = .ok (.aload_n 0, 1) := by decide +kernel
theorem dX11_nights_11 : decode cX11_nights 11 = .ok (.getfield 97, 3) := by decide +kernel
theorem dX11_nights_14 : decode cX11_nights 14 = .ok (.aload_n 0, 1) := by decide +kernel
theorem dX11_nights_15 : decode cX11_nights 15 = .ok (.getfield 48, 3) := by decide +kernel
theorem dX11_nights_18 : decode cX11_nights 18 = .ok (.iaload, 1) := by decide +kernel
theorem dX11_nights_19 : decode cX11_nights 19 = .ok (.ifCond .ne 9, 3) := by decide +kernel
theorem dX11_nights_22 : decode cX11_nights 22 = .ok (.aload_n 0, 1) := by decide +kernel
theorem dX11_nights_23 : decode cX11_nights 23 = .ok (.iconst 3, 1) := by decide +kernel
theorem dX11_nights_24 : decode cX11_nights 24 = .ok (.invokevirtual 237, 3) := by decide +kernel
theorem dX11_nights_27 : decode cX11_nights 27 = .ok (.ireturn, 1) := by decide +kernel
theorem dX11_nights_28 : decode cX11_nights 28 = .ok (.iconst 0, 1) := by decide +kernel
theorem dX11_nights_29 : decode cX11_nights 29 = .ok (.istore_n 2, 1) := by decide +kernel
theorem dX11_nights_30 : decode cX11_nights 30 = .ok (.iconst 0, 1) := by decide +kernel
theorem dX11_nights_31 : decode cX11_nights 31 = .ok (.istore_n 3, 1) := by decide +kernel
theorem dX11_nights_32 : decode cX11_nights 32 = .ok (.iload_n 3, 1) := by decide +kernel
theorem dX11_nights_33 : decode cX11_nights 33 = .ok (.iload_n 1, 1) := by decide +kernel
theorem dX11_nights_34 : decode cX11_nights 34 = .ok (.if_icmp .ge 16, 3) := by decide +kernel
theorem dX11_nights_37 : decode cX11_nights 37 = .ok (.iload_n 2, 1) := by decide +kernel
theorem dX11_nights_38 : decode cX11_nights 38 = .ok (.aload_n 0, 1) := by decide +kernel
theorem dX11_nights_39 : decode cX11_nights 39 = .ok (.invokevirtual 585, 3) := by decide +kernel
theorem dX11_nights_42 : decode cX11_nights 42 = .ok (.iadd, 1) := by decide +kernel
theorem dX11_nights_43 : decode cX11_nights 43 = .ok (.istore_n 2, 1) := by decide +kernel
theorem dX11_nights_44 : decode cX11_nights 44 = .ok (.iinc 3 1, 3) := by decide +kernel
theorem dX11_nights_47 : decode cX11_nights 47 = .ok (.goto (-15), 3) := by decide +kernel
theorem dX11_nights_50 : decode cX11_nights 50 = .ok (.iload_n 2, 1) := by decide +kernel
theorem dX11_nights_51 : decode cX11_nights 51 = .ok (.ireturn, 1) := by decide +kernel
theorem dX11_seed_0 : decode cX11_seed 0 = .ok (.iload_n 1, 1) := by decide +kernel
theorem dX11_seed_1 : decode cX11_seed 1 = .ok (.ifCond .ge 17, 3) := by decide +kernel
theorem dX11_seed_4 : decode cX11_seed 4 = .ok (.aload_n 0, 1) := by decide +kernel
theorem dX11_seed_5 : decode cX11_seed 5 = .ok (.iconst 4, 1) := by decide +kernel
theorem dX11_seed_6 : decode cX11_seed 6 = .ok (.invokevirtual 237, 3) := by decide +kernel
theorem dX11_seed_9 : decode cX11_seed 9 = .ok (.ifCond .lt 7, 3) := by decide +kernel
theorem dX11_seed_12 : decode cX11_seed 12 = .ok (.iconst 1, 1) := by decide +kernel
theorem dX11_seed_13 : decode cX11_seed 13 = .ok (.goto 4, 3) := by decide +kernel
theorem dX11_seed_16 : decode cX11_seed 16 = .ok (.iconst 0, 1) := by decide +kernel
theorem dX11_seed_17 : decode cX11_seed 17 = .ok (.ireturn, 1) := by decide +kernel
theorem dX11_seed_18 : decode cX11_seed 18 = .ok (.aload_n 0, 1) := by decide +kernel
theorem dX11_seed_19 : decode cX11_seed 19 = .ok (.iload_n 1, 1) := by decide +kernel
theorem dX11_seed_20 : decode cX11_seed 20 = .ok (.i2l, 1) := by decide +kernel
theorem dX11_seed_21 : decode cX11_seed 21 = .ok (.putfield 228, 3) := by decide +kernel
theorem dX11_seed_24 : decode cX11_seed 24 = .ok (.iconst 1, 1) := by decide +kernel
theorem dX11_seed_25 : decode cX11_seed 25 = .ok (.ireturn, 1) := by decide +kernel
theorem dX11_writes_0 : decode cX11_writes 0 = .ok (.aload_n 0, 1) := by decide +kernel
theorem dX11_writes_1 : decode cX11_writes 1 = .ok (.getfield 231, 3) := by decide +kernel
theorem dX11_writes_4 : decode cX11_writes 4 = .ok (.aload_n 0, 1) := by decide +kernel
theorem dX11_writes_5 : decode cX11_writes 5 = .ok (.getfield 234, 3) := by decide +kernel
theorem dX11_writes_8 : decode cX11_writes 8 = .ok (.iload_n 1, 1) := by decide +kernel
theorem dX11_writes_9 : decode cX11_writes 9 = .ok (.sipush 255, 3) := by decide +kernel
theorem dX11_writes_12 : decode cX11_writes 12 = .ok (.iand, 1) := by decide +kernel
theorem dX11_writes_13 : decode cX11_writes 13 = .ok (.iastore, 1) := by decide +kernel
theorem dX11_writes_14 : decode cX11_writes 14 = .ok (.aload_n 0, 1) := by decide +kernel
theorem dX11_writes_15 : decode cX11_writes 15 = .ok (.dup, 1) := by decide +kernel
theorem dX11_writes_16 : decode cX11_writes 16 = .ok (.getfield 234, 3) := by decide +kernel
theorem dX11_writes_19 : decode cX11_writes 19 = .ok (.iconst 1, 1) := by decide +kernel
theorem dX11_writes_20 : decode cX11_writes 20 = .ok (.iadd, 1) := by decide +kernel
theorem dX11_writes_21 : decode cX11_writes 21 = .ok (.putfield 234, 3) := by decide +kernel
theorem dX11_writes_24 : decode cX11_writes 24 = .ok (.return_, 1) := by decide +kernel
theorem dX11_writes2_0 : decode cX11_writes2 0 = .ok (.aload_n 0, 1) := by decide +kernel
theorem dX11_writes2_1 : decode cX11_writes2 1 = .ok (.iload_n 1, 1) := by decide +kernel
theorem dX11_writes2_2 : decode cX11_writes2 2 = .ok (.bipush 8, 2) := by decide +kernel
theorem dX11_writes2_4 : decode cX11_writes2 4 = .ok (.ishr, 1) := by decide +kernel
theorem dX11_writes2_5 : decode cX11_writes2 5 = .ok (.invokevirtual 588, 3) := by decide +kernel
theorem dX11_writes2_8 : decode cX11_writes2 8 = .ok (.aload_n 0, 1) := by decide +kernel
theorem dX11_writes2_9 : decode cX11_writes2 9 = .ok (.iload_n 1, 1) := by decide +kernel
theorem dX11_writes2_10 : decode cX11_writes2 10 = .ok (.invokevirtual 588, 3) := by decide +kernel
theorem dX11_writes2_13 : decode cX11_writes2 13 = .ok (.return_, 1) := by decide +kernel
theorem dX11_image_0 : decode cX11_image 0 = .ok (.aload_n 0, 1) := by decide +kernel
theorem dX11_image_1 : decode cX11_image 1 = .ok (.iconst 0, 1) := by decide +kernel
theorem dX11_image_2 : decode cX11_image 2 = .ok (.putfield 234, 3) := by decide +kernel
theorem dX11_image_5 : decode cX11_image 5 = .ok (.iconst 0, 1) := by decide +kernel
theorem dX11_image_6 : decode cX11_image 6 = .ok (.istore_n 1, 1) := by decide +kernel
theorem dX11_image_7 : decode cX11_image 7 = .ok (.iload_n 1, 1) := by decide +kernel
theorem dX11_image_8 : decode cX11_image 8 = .ok (.aload_n 0, 1) := by decide +kernel
theorem dX11_image_9 : decode cX11_image 9 = .ok (.getfield 97, 3) := by decide +kernel
theorem dX11_image_12 : decode cX11_image 12 = .ok (.aload_n 0, 1) := by decide +kernel
theorem dX11_image_13 : decode cX11_image 13 = .ok (.getfield 48, 3) := by decide +kernel
theorem dX11_image_16 : decode cX11_image 16 = .ok (.iaload, 1) := by decide +kernel
theorem dX11_image_17 : decode cX11_image 17 = .ok (.if_icmp .ge 19, 3) := by decide +kernel
theorem dX11_image_20 : decode cX11_image 20 = .ok (.aload_n 0, 1) := by decide +kernel
theorem dX11_image_21 : decode cX11_image 21 = .ok (.aload_n 0, 1) := by decide +kernel
theorem dX11_image_22 : decode cX11_image 22 = .ok (.getfield 183, 3) := by decide +kernel
theorem dX11_image_25 : decode cX11_image 25 = .ok (.iload_n 1, 1) := by decide +kernel
theorem dX11_image_26 : decode cX11_image 26 = .ok (.iaload, 1) := by decide +kernel
theorem dX11_image_27 : decode cX11_image 27 = .ok (.invokevirtual 591, 3) := by decide +kernel
theorem dX11_image_30 : decode cX11_image 30 = .ok (.iinc 1 1, 3) := by decide +kernel
theorem dX11_image_33 : decode cX11_image 33 = .ok (.goto (-26), 3) := by decide +kernel
theorem dX11_image_36 : decode cX11_image 36 = .ok (.iconst 0, 1) := by decide +kernel
theorem dX11_image_37 : decode cX11_image 37 = .ok (.istore_n 1, 1) := by decide +kernel
theorem dX11_image_38 : decode cX11_image 38 = .ok (.iload_n 1, 1) := by decide +kernel
theorem dX11_image_39 : decode cX11_image 39 = .ok (.aload_n 0, 1) := by decide +kernel
theorem dX11_image_40 : decode cX11_image 40 = .ok (.getfield 82, 3) := by decide +kernel
theorem dX11_image_43 : decode cX11_image 43 = .ok (.aload_n 0, 1) := by decide +kernel
theorem dX11_image_44 : decode cX11_image 44 = .ok (.getfield 48, 3) := by decide +kernel
theorem dX11_image_47 : decode cX11_image 47 = .ok (.iaload, 1) := by decide +kernel
theorem dX11_image_48 : decode cX11_image 48 = .ok (.if_icmp .ge 103, 3) := by decide +kernel
theorem dX11_image_51 : decode cX11_image 51 = .ok (.iconst 0, 1) := by decide +kernel
theorem dX11_image_52 : decode cX11_image 52 = .ok (.istore_n 2, 1) := by decide +kernel
theorem dX11_image_53 : decode cX11_image 53 = .ok (.iload_n 2, 1) := by decide +kernel
theorem dX11_image_54 : decode cX11_image 54 = .ok (.aload_n 0, 1) := by decide +kernel
theorem dX11_image_55 : decode cX11_image 55 = .ok (.getfield 57, 3) := by decide +kernel
theorem dX11_image_58 : decode cX11_image 58 = .ok (.aload_n 0, 1) := by decide +kernel
theorem dX11_image_59 : decode cX11_image 59 = .ok (.getfield 48, 3) := by decide +kernel
theorem dX11_image_62 : decode cX11_image 62 = .ok (.iaload, 1) := by decide +kernel
theorem dX11_image_63 : decode cX11_image 63 = .ok (.if_icmp .ge 82, 3) := by decide +kernel
theorem dX11_image_66 : decode cX11_image 66 = .ok (.iconst 3, 1) := by decide +kernel
theorem dX11_image_67 : decode cX11_image 67 = .ok (.iload_n 1, 1) := by decide +kernel
theorem dX11_image_68 : decode cX11_image 68 = .ok (.imul, 1) := by decide +kernel
theorem dX11_image_69 : decode cX11_image 69 = .ok (.iload_n 2, 1) := by decide +kernel
theorem dX11_image_70 : decode cX11_image 70 = .ok (.iadd, 1) := by decide +kernel
theorem dX11_image_71 : decode cX11_image 71 = .ok (.istore_n 3, 1) := by decide +kernel
theorem dX11_image_72 : decode cX11_image 72 = .ok (.aload_n 0, 1) := by decide +kernel
theorem dX11_image_73 : decode cX11_image 73 = .ok (.iload_n 1, 1) := by decide +kernel
theorem dX11_image_74 : decode cX11_image 74 = .ok (.iload_n 2, 1) := by decide +kernel
theorem dX11_image_75 : decode cX11_image 75 = .ok (.invokevirtual 459, 3) := by decide +kernel
theorem dX11_image_78 : decode cX11_image 78 = .ok (.istore 4, 2) := by decide +kernel
theorem dX11_image_80 : decode cX11_image 80 = .ok (.aload_n 0, 1) := by decide +kernel
theorem dX11_image_81 : decode cX11_image 81 = .ok (.iload 4, 2) := by decide +kernel
theorem dX11_image_83 : decode cX11_image 83 = .ok (.ifCond .eq 12, 3) := by decide +kernel
theorem dX11_image_86 : decode cX11_image 86 = .ok (.aload_n 0, 1) := by decide +kernel
theorem dX11_image_87 : decode cX11_image 87 = .ok (.getfield 192, 3) := by decide +kernel
theorem dX11_image_90 : decode cX11_image 90 = .ok (.iload_n 3, 1) := by decide +kernel
theorem dX11_image_91 : decode cX11_image 91 = .ok (.iaload, 1) := by decide +kernel
theorem dX11_image_92 : decode cX11_image 92 = .ok (.goto 4, 3) := by decide +kernel
theorem dX11_image_95 : decode cX11_image 95 = .ok (.iconst 0, 1) := by decide +kernel
theorem dX11_image_96 : decode cX11_image 96 = .ok (.invokevirtual 591, 3) := by decide +kernel
theorem dX11_image_99 : decode cX11_image 99 = .ok (.aload_n 0, 1) := by decide +kernel
theorem dX11_image_100 : decode cX11_image 100 = .ok (.iload 4, 2) := by decide +kernel
theorem dX11_image_102 : decode cX11_image 102 = .ok (.ifCond .eq 14, 3) := by decide +kernel
theorem dX11_image_105 : decode cX11_image 105 = .ok (.aload_n 0, 1) := by decide +kernel
theorem dX11_image_106 : decode cX11_image 106 = .ok (.getfield 195, 3) := by decide +kernel
theorem dX11_image_109 : decode cX11_image 109 = .ok (.iload_n 3, 1) := by decide +kernel
theorem dX11_image_110 : decode cX11_image 110 = .ok (.iaload, 1) := by decide +kernel
theorem dX11_image_111 : decode cX11_image 111 = .ok (.iconst 1, 1) := by decide +kernel
theorem dX11_image_112 : decode cX11_image 112 = .ok (.iadd, 1) := by decide +kernel
theorem dX11_image_113 : decode cX11_image 113 = .ok (.goto 4, 3) := by decide +kernel
theorem dX11_image_116 : decode cX11_image 116 = .ok (.iconst 0, 1) := by decide +kernel
theorem dX11_image_117 : decode cX11_image 117 = .ok (.invokevirtual 591, 3) := by decide +kernel
theorem dX11_image_120 : decode cX11_image 120 = .ok (.aload_n 0, 1) := by decide +kernel
theorem dX11_image_121 : decode cX11_image 121 = .ok (.iload 4, 2) := by decide +kernel
theorem dX11_image_123 : decode cX11_image 123 = .ok (.ifCond .eq 12, 3) := by decide +kernel
theorem dX11_image_126 : decode cX11_image 126 = .ok (.aload_n 0, 1) := by decide +kernel
theorem dX11_image_127 : decode cX11_image 127 = .ok (.getfield 198, 3) := by decide +kernel
theorem dX11_image_130 : decode cX11_image 130 = .ok (.iload_n 3, 1) := by decide +kernel
theorem dX11_image_131 : decode cX11_image 131 = .ok (.iaload, 1) := by decide +kernel
theorem dX11_image_132 : decode cX11_image 132 = .ok (.goto 4, 3) := by decide +kernel
theorem dX11_image_135 : decode cX11_image 135 = .ok (.iconst 0, 1) := by decide +kernel
theorem dX11_image_136 : decode cX11_image 136 = .ok (.invokevirtual 588, 3) := by decide +kernel
theorem dX11_image_139 : decode cX11_image 139 = .ok (.iinc 2 1, 3) := by decide +kernel
theorem dX11_image_142 : decode cX11_image 142 = .ok (.goto (-89), 3) := by decide +kernel
theorem dX11_image_145 : decode cX11_image 145 = .ok (.iinc 1 1, 3) := by decide +kernel
theorem dX11_image_148 : decode cX11_image 148 = .ok (.goto (-110), 3) := by decide +kernel
theorem dX11_image_151 : decode cX11_image 151 = .ok (.bipush 33, 2) := by decide +kernel
theorem dX11_image_153 : decode cX11_image 153 = .ok (.istore_n 1, 1) := by decide +kernel
theorem dX11_image_154 : decode cX11_image 154 = .ok (.iconst 0, 1) := by decide +kernel
theorem dX11_image_155 : decode cX11_image 155 = .ok (.istore_n 2, 1) := by decide +kernel
theorem dX11_image_156 : decode cX11_image 156 = .ok (.iload_n 2, 1) := by decide +kernel
theorem dX11_image_157 : decode cX11_image 157 = .ok (.aload_n 0, 1) := by decide +kernel
theorem dX11_image_158 : decode cX11_image 158 = .ok (.getfield 234, 3) := by decide +kernel
theorem dX11_image_161 : decode cX11_image 161 = .ok (.if_icmp .ge 25, 3) := by decide +kernel
theorem dX11_image_164 : decode cX11_image 164 = .ok (.bipush 7, 2) := by decide +kernel
theorem dX11_image_166 : decode cX11_image 166 = .ok (.iload_n 1, 1) := by decide +kernel
theorem dX11_image_167 : decode cX11_image 167 = .ok (.imul, 1) := by decide +kernel
theorem dX11_image_168 : decode cX11_image 168 = .ok (.aload_n 0, 1) := by decide +kernel
theorem dX11_image_169 : decode cX11_image 169 = .ok (.getfield 231, 3) := by decide +kernel
theorem dX11_image_172 : decode cX11_image 172 = .ok (.iload_n 2, 1) := by decide +kernel
theorem dX11_image_173 : decode cX11_image 173 = .ok (.iaload, 1) := by decide +kernel
theorem dX11_image_174 : decode cX11_image 174 = .ok (.iadd, 1) := by decide +kernel
theorem dX11_image_175 : decode cX11_image 175 = .ok (.sipush 241, 3) := by decide +kernel
theorem dX11_image_178 : decode cX11_image 178 = .ok (.irem, 1) := by decide +kernel
theorem dX11_image_179 : decode cX11_image 179 = .ok (.istore_n 1, 1) := by decide +kernel
theorem dX11_image_180 : decode cX11_image 180 = .ok (.iinc 2 1, 3) := by decide +kernel
theorem dX11_image_183 : decode cX11_image 183 = .ok (.goto (-27), 3) := by decide +kernel
theorem dX11_image_186 : decode cX11_image 186 = .ok (.aload_n 0, 1) := by decide +kernel
theorem dX11_image_187 : decode cX11_image 187 = .ok (.iload_n 1, 1) := by decide +kernel
theorem dX11_image_188 : decode cX11_image 188 = .ok (.invokevirtual 588, 3) := by decide +kernel
theorem dX11_image_191 : decode cX11_image 191 = .ok (.aload_n 0, 1) := by decide +kernel
theorem dX11_image_192 : decode cX11_image 192 = .ok (.getfield 234, 3) := by decide +kernel
theorem dX11_image_195 : decode cX11_image 195 = .ok (.ireturn, 1) := by decide +kernel
theorem dX11_octet_0 : decode cX11_octet 0 = .ok (.iload_n 1, 1) := by decide +kernel
theorem dX11_octet_1 : decode cX11_octet 1 = .ok (.ifCond .lt 20, 3) := by decide +kernel
theorem dX11_octet_4 : decode cX11_octet 4 = .ok (.iload_n 1, 1) := by decide +kernel
theorem dX11_octet_5 : decode cX11_octet 5 = .ok (.aload_n 0, 1) := by decide +kernel
theorem dX11_octet_6 : decode cX11_octet 6 = .ok (.getfield 234, 3) := by decide +kernel
theorem dX11_octet_9 : decode cX11_octet 9 = .ok (.if_icmp .ge 12, 3) := by decide +kernel
theorem dX11_octet_12 : decode cX11_octet 12 = .ok (.aload_n 0, 1) := by decide +kernel
theorem dX11_octet_13 : decode cX11_octet 13 = .ok (.getfield 231, 3) := by decide +kernel
theorem dX11_octet_16 : decode cX11_octet 16 = .ok (.iload_n 1, 1) := by decide +kernel
theorem dX11_octet_17 : decode cX11_octet 17 = .ok (.iaload, 1) := by decide +kernel
theorem dX11_octet_18 : decode cX11_octet 18 = .ok (.goto 4, 3) := by decide +kernel
theorem dX11_octet_21 : decode cX11_octet 21 = .ok (.iconst (-1), 1) := by decide +kernel
theorem dX11_octet_22 : decode cX11_octet 22 = .ok (.ireturn, 1) := by decide +kernel
theorem dX11_two_0 : decode cX11_two 0 = .ok (.sipush 256, 3) := by decide +kernel
theorem dX11_two_3 : decode cX11_two 3 = .ok (.aload_n 0, 1) := by decide +kernel
theorem dX11_two_4 : decode cX11_two 4 = .ok (.getfield 7, 3) := by decide +kernel
theorem dX11_two_7 : decode cX11_two 7 = .ok (.iload_n 1, 1) := by decide +kernel
theorem dX11_two_8 : decode cX11_two 8 = .ok (.iaload, 1) := by decide +kernel
theorem dX11_two_9 : decode cX11_two 9 = .ok (.imul, 1) := by decide +kernel
theorem dX11_two_10 : decode cX11_two 10 = .ok (.aload_n 0, 1) := by decide +kernel
theorem dX11_two_11 : decode cX11_two 11 = .ok (.getfield 7, 3) := by decide +kernel
theorem dX11_two_14 : decode cX11_two 14 = .ok (.iload_n 1, 1) := by decide +kernel
theorem dX11_two_15 : decode cX11_two 15 = .ok (.iconst 1, 1) := by decide +kernel
theorem dX11_two_16 : decode cX11_two 16 = .ok (.iadd, 1) := by decide +kernel
theorem dX11_two_17 : decode cX11_two 17 = .ok (.iaload, 1) := by decide +kernel
theorem dX11_two_18 : decode cX11_two 18 = .ok (.iadd, 1) := by decide +kernel
theorem dX11_two_19 : decode cX11_two 19 = .ok (.ireturn, 1) := by decide +kernel
theorem dX11_isEarAt_0 : decode cX11_isEarAt 0 = .ok (.aload_n 0, 1) := by decide +kernel
theorem dX11_isEarAt_1 : decode cX11_isEarAt 1 = .ok (.iload_n 2, 1) := by decide +kernel
theorem dX11_isEarAt_2 : decode cX11_isEarAt 2 = .ok (.iload_n 3, 1) := by decide +kernel
theorem dX11_isEarAt_3 : decode cX11_isEarAt 3 = .ok (.invokevirtual 459, 3) := by decide +kernel
theorem dX11_isEarAt_6 : decode cX11_isEarAt 6 = .ok (.ifCond .ne 38, 3) := by decide +kernel
theorem dX11_isEarAt_9 : decode cX11_isEarAt 9 = .ok (.aload_n 0, 1) := by decide +kernel
theorem dX11_isEarAt_10 : decode cX11_isEarAt 10 = .ok (.iload_n 1, 1) := by decide +kernel
theorem dX11_isEarAt_11 : decode cX11_isEarAt 11 = .ok (.invokevirtual 594, 3) := by decide +kernel
theorem dX11_isEarAt_14 : decode cX11_isEarAt 14 = .ok (.ifCond .ne 28, 3) := by decide +kernel
theorem dX11_isEarAt_17 : decode cX11_isEarAt 17 = .ok (.aload_n 0, 1) := by decide +kernel
theorem dX11_isEarAt_18 : decode cX11_isEarAt 18 = .ok (.iload_n 1, 1) := by decide +kernel
theorem dX11_isEarAt_19 : decode cX11_isEarAt 19 = .ok (.iconst 2, 1) := by decide +kernel
theorem dX11_isEarAt_20 : decode cX11_isEarAt 20 = .ok (.iadd, 1) := by decide +kernel
theorem dX11_isEarAt_21 : decode cX11_isEarAt 21 = .ok (.invokevirtual 594, 3) := by decide +kernel
theorem dX11_isEarAt_24 : decode cX11_isEarAt 24 = .ok (.ifCond .ne 18, 3) := by decide +kernel
theorem dX11_isEarAt_27 : decode cX11_isEarAt 27 = .ok (.aload_n 0, 1) := by decide +kernel
theorem dX11_isEarAt_28 : decode cX11_isEarAt 28 = .ok (.getfield 7, 3) := by decide +kernel
theorem dX11_isEarAt_31 : decode cX11_isEarAt 31 = .ok (.iload_n 1, 1) := by decide +kernel
theorem dX11_isEarAt_32 : decode cX11_isEarAt 32 = .ok (.iconst 4, 1) := by decide +kernel
theorem dX11_isEarAt_33 : decode cX11_isEarAt 33 = .ok (.iadd, 1) := by decide +kernel
theorem dX11_isEarAt_34 : decode cX11_isEarAt 34 = .ok (.iaload, 1) := by decide +kernel
theorem dX11_isEarAt_35 : decode cX11_isEarAt 35 = .ok (.ifCond .ne 7, 3) := by decide +kernel
theorem dX11_isEarAt_38 : decode cX11_isEarAt 38 = .ok (.iconst 1, 1) := by decide +kernel
theorem dX11_isEarAt_39 : decode cX11_isEarAt 39 = .ok (.goto 4, 3) := by decide +kernel
theorem dX11_isEarAt_42 : decode cX11_isEarAt 42 = .ok (.iconst 0, 1) := by decide +kernel
theorem dX11_isEarAt_43 : decode cX11_isEarAt 43 = .ok (.ireturn, 1) := by decide +kernel
theorem dX11_isEarAt_44 : decode cX11_isEarAt 44 = .ok (.aload_n 0, 1) := by decide +kernel
theorem dX11_isEarAt_45 : decode cX11_isEarAt 45 = .ok (.iload_n 1, 1) := by decide +kernel
theorem dX11_isEarAt_46 : decode cX11_isEarAt 46 = .ok (.invokevirtual 594, 3) := by decide +kernel
theorem dX11_isEarAt_49 : decode cX11_isEarAt 49 = .ok (.sipush 1000, 3) := by decide +kernel
theorem dX11_isEarAt_52 : decode cX11_isEarAt 52 = .ok (.if_icmp .gt 47, 3) := by decide +kernel
theorem dX11_isEarAt_55 : decode cX11_isEarAt 55 = .ok (.aload_n 0, 1) := by decide +kernel
theorem dX11_isEarAt_56 : decode cX11_isEarAt 56 = .ok (.getfield 88, 3) := by decide +kernel
theorem dX11_isEarAt_59 : decode cX11_isEarAt 59 = .ok (.aload_n 0, 1) := by decide +kernel
theorem dX11_isEarAt_60 : decode cX11_isEarAt 60 = .ok (.iload_n 2, 1) := by decide +kernel
theorem dX11_isEarAt_61 : decode cX11_isEarAt 61 = .ok (.invokevirtual 463, 3) := by decide +kernel
theorem dX11_isEarAt_64 : decode cX11_isEarAt 64 = .ok (.iaload, 1) := by decide +kernel
theorem dX11_isEarAt_65 : decode cX11_isEarAt 65 = .ok (.iconst 2, 1) := by decide +kernel
theorem dX11_isEarAt_66 : decode cX11_isEarAt 66 = .ok (.if_icmp .ne 19, 3) := by decide +kernel
theorem dX11_isEarAt_69 : decode cX11_isEarAt 69 = .ok (.aload_n 0, 1) := by decide +kernel
theorem dX11_isEarAt_70 : decode cX11_isEarAt 70 = .ok (.iload_n 1, 1) := by decide +kernel
theorem dX11_isEarAt_71 : decode cX11_isEarAt 71 = .ok (.iconst 2, 1) := by decide +kernel
theorem dX11_isEarAt_72 : decode cX11_isEarAt 72 = .ok (.iadd, 1) := by decide +kernel
theorem dX11_isEarAt_73 : decode cX11_isEarAt 73 = .ok (.invokevirtual 594, 3) := by decide +kernel
theorem dX11_isEarAt_76 : decode cX11_isEarAt 76 = .ok (.sipush 1000, 3) := by decide +kernel
theorem dX11_isEarAt_79 : decode cX11_isEarAt 79 = .ok (.if_icmp .gt 20, 3) := by decide +kernel
theorem dX11_isEarAt_82 : decode cX11_isEarAt 82 = .ok (.goto 13, 3) := by decide +kernel
theorem dX11_isEarAt_85 : decode cX11_isEarAt 85 = .ok (.aload_n 0, 1) := by decide +kernel
theorem dX11_isEarAt_86 : decode cX11_isEarAt 86 = .ok (.iload_n 1, 1) := by decide +kernel
theorem dX11_isEarAt_87 : decode cX11_isEarAt 87 = .ok (.iconst 2, 1) := by decide +kernel
theorem dX11_isEarAt_88 : decode cX11_isEarAt 88 = .ok (.iadd, 1) := by decide +kernel
theorem dX11_isEarAt_89 : decode cX11_isEarAt 89 = .ok (.invokevirtual 594, 3) := by decide +kernel
theorem dX11_isEarAt_92 : decode cX11_isEarAt 92 = .ok (.ifCond .ne 7, 3) := by decide +kernel
theorem dX11_isEarAt_95 : decode cX11_isEarAt 95 = .ok (.iconst 1, 1) := by decide +kernel
theorem dX11_isEarAt_96 : decode cX11_isEarAt 96 = .ok (.goto 4, 3) := by decide +kernel
theorem dX11_isEarAt_99 : decode cX11_isEarAt 99 = .ok (.iconst 0, 1) := by decide +kernel
theorem dX11_isEarAt_100 : decode cX11_isEarAt 100 = .ok (.ireturn, 1) := by decide +kernel
theorem dX11_isWhole_0 : decode cX11_isWhole 0 = .ok (.iconst 2, 1) := by decide +kernel
theorem dX11_isWhole_1 : decode cX11_isWhole 1 = .ok (.aload_n 0, 1) := by decide +kernel
theorem dX11_isWhole_2 : decode cX11_isWhole 2 = .ok (.getfield 97, 3) := by decide +kernel
theorem dX11_isWhole_5 : decode cX11_isWhole 5 = .ok (.aload_n 0, 1) := by decide +kernel
theorem dX11_isWhole_6 : decode cX11_isWhole 6 = .ok (.getfield 48, 3) := by decide +kernel
theorem dX11_isWhole_9 : decode cX11_isWhole 9 = .ok (.iaload, 1) := by decide +kernel
theorem dX11_isWhole_10 : decode cX11_isWhole 10 = .ok (.imul, 1) := by decide +kernel
theorem dX11_isWhole_11 : decode cX11_isWhole 11 = .ok (.istore_n 2, 1) := by decide +kernel
theorem dX11_isWhole_12 : decode cX11_isWhole 12 = .ok (.aload_n 0, 1) := by decide +kernel
theorem dX11_isWhole_13 : decode cX11_isWhole 13 = .ok (.invokevirtual 597, 3) := by decide +kernel
theorem dX11_isWhole_16 : decode cX11_isWhole 16 = .ok (.ifCond .eq 32, 3) := by decide +kernel
theorem dX11_isWhole_19 : decode cX11_isWhole 19 = .ok (.iload_n 1, 1) := by decide +kernel
theorem dX11_isWhole_20 : decode cX11_isWhole 20 = .ok (.iload_n 2, 1) := by decide +kernel
theorem dX11_isWhole_21 : decode cX11_isWhole 21 = .ok (.iconst 5, 1) := by decide +kernel
theorem dX11_isWhole_22 : decode cX11_isWhole 22 = .ok (.aload_n 0, 1) := by decide +kernel
theorem dX11_isWhole_23 : decode cX11_isWhole 23 = .ok (.getfield 82, 3) := by decide +kernel
theorem dX11_isWhole_26 : decode cX11_isWhole 26 = .ok (.aload_n 0, 1) := by decide +kernel
theorem dX11_isWhole_27 : decode cX11_isWhole 27 = .ok (.getfield 48, 3) := by decide +kernel
theorem dX11_isWhole_30 : decode cX11_isWhole 30 = .ok (.iaload, 1) := by decide +kernel
theorem dX11_isWhole_31 : decode cX11_isWhole 31 = .ok (.imul, 1) := by decide +kernel
theorem dX11_isWhole_32 : decode cX11_isWhole 32 = .ok (.aload_n 0, 1) := by decide +kernel
theorem dX11_isWhole_33 : decode cX11_isWhole 33 = .ok (.getfield 57, 3) := by decide +kernel
theorem dX11_isWhole_36 : decode cX11_isWhole 36 = .ok (.aload_n 0, 1) := by decide +kernel
theorem dX11_isWhole_37 : decode cX11_isWhole 37 = .ok (.getfield 48, 3) := by decide +kernel
theorem dX11_isWhole_40 : decode cX11_isWhole 40 = .ok (.iaload, 1) := by decide +kernel
theorem dX11_isWhole_41 : decode cX11_isWhole 41 = .ok (.imul, 1) := by decide +kernel
theorem dX11_isWhole_42 : decode cX11_isWhole 42 = .ok (.iadd, 1) := by decide +kernel
theorem dX11_isWhole_43 : decode cX11_isWhole 43 = .ok (.iconst 1, 1) := by decide +kernel
theorem dX11_isWhole_44 : decode cX11_isWhole 44 = .ok (.iadd, 1) := by decide +kernel
theorem dX11_isWhole_45 : decode cX11_isWhole 45 = .ok (.if_icmp .eq 5, 3) := by decide +kernel
theorem dX11_isWhole_48 : decode cX11_isWhole 48 = .ok (.iconst 0, 1) := by decide +kernel
theorem dX11_isWhole_49 : decode cX11_isWhole 49 = .ok (.ireturn, 1) := by decide +kernel
theorem dX11_isWhole_50 : decode cX11_isWhole 50 = .ok (.bipush 33, 2) := by decide +kernel
theorem dX11_isWhole_52 : decode cX11_isWhole 52 = .ok (.istore_n 3, 1) := by decide +kernel
theorem dX11_isWhole_53 : decode cX11_isWhole 53 = .ok (.iconst 0, 1) := by decide +kernel
theorem dX11_isWhole_54 : decode cX11_isWhole 54 = .ok (.istore 4, 2) := by decide +kernel
theorem dX11_isWhole_56 : decode cX11_isWhole 56 = .ok (.iload 4, 2) := by decide +kernel
theorem dX11_isWhole_58 : decode cX11_isWhole 58 = .ok (.iload_n 1, 1) := by decide +kernel
theorem dX11_isWhole_59 : decode cX11_isWhole 59 = .ok (.iconst 1, 1) := by decide +kernel
theorem dX11_isWhole_60 : decode cX11_isWhole 60 = .ok (.isub, 1) := by decide +kernel
theorem dX11_isWhole_61 : decode cX11_isWhole 61 = .ok (.if_icmp .ge 26, 3) := by decide +kernel
theorem dX11_isWhole_64 : decode cX11_isWhole 64 = .ok (.bipush 7, 2) := by decide +kernel
theorem dX11_isWhole_66 : decode cX11_isWhole 66 = .ok (.iload_n 3, 1) := by decide +kernel
theorem dX11_isWhole_67 : decode cX11_isWhole 67 = .ok (.imul, 1) := by decide +kernel
theorem dX11_isWhole_68 : decode cX11_isWhole 68 = .ok (.aload_n 0, 1) := by decide +kernel
theorem dX11_isWhole_69 : decode cX11_isWhole 69 = .ok (.getfield 7, 3) := by decide +kernel
theorem dX11_isWhole_72 : decode cX11_isWhole 72 = .ok (.iload 4, 2) := by decide +kernel
theorem dX11_isWhole_74 : decode cX11_isWhole 74 = .ok (.iaload, 1) := by decide +kernel
theorem dX11_isWhole_75 : decode cX11_isWhole 75 = .ok (.iadd, 1) := by decide +kernel
theorem dX11_isWhole_76 : decode cX11_isWhole 76 = .ok (.sipush 241, 3) := by decide +kernel
theorem dX11_isWhole_79 : decode cX11_isWhole 79 = .ok (.irem, 1) := by decide +kernel
theorem dX11_isWhole_80 : decode cX11_isWhole 80 = .ok (.istore_n 3, 1) := by decide +kernel
theorem dX11_isWhole_81 : decode cX11_isWhole 81 = .ok (.iinc 4 1, 3) := by decide +kernel
theorem dX11_isWhole_84 : decode cX11_isWhole 84 = .ok (.goto (-28), 3) := by decide +kernel
theorem dX11_isWhole_87 : decode cX11_isWhole 87 = .ok (.aload_n 0, 1) := by decide +kernel
theorem dX11_isWhole_88 : decode cX11_isWhole 88 = .ok (.getfield 7, 3) := by decide +kernel
theorem dX11_isWhole_91 : decode cX11_isWhole 91 = .ok (.iload_n 1, 1) := by decide +kernel
theorem dX11_isWhole_92 : decode cX11_isWhole 92 = .ok (.iconst 1, 1) := by decide +kernel
theorem dX11_isWhole_93 : decode cX11_isWhole 93 = .ok (.isub, 1) := by decide +kernel
theorem dX11_isWhole_94 : decode cX11_isWhole 94 = .ok (.iaload, 1) := by decide +kernel
theorem dX11_isWhole_95 : decode cX11_isWhole 95 = .ok (.iload_n 3, 1) := by decide +kernel
theorem dX11_isWhole_96 : decode cX11_isWhole 96 = .ok (.if_icmp .eq 5, 3) := by decide +kernel
theorem dX11_isWhole_99 : decode cX11_isWhole 99 = .ok (.iconst 0, 1) := by decide +kernel
theorem dX11_isWhole_100 : decode cX11_isWhole 100 = .ok (.ireturn, 1) := by decide +kernel
theorem dX11_isWhole_101 : decode cX11_isWhole 101 = .ok (.iconst 0, 1) := by decide +kernel
theorem dX11_isWhole_102 : decode cX11_isWhole 102 = .ok (.istore 4, 2) := by decide +kernel
theorem dX11_isWhole_104 : decode cX11_isWhole 104 = .ok (.iload 4, 2) := by decide +kernel
theorem dX11_isWhole_106 : decode cX11_isWhole 106 = .ok (.aload_n 0, 1) := by decide +kernel
theorem dX11_isWhole_107 : decode cX11_isWhole 107 = .ok (.getfield 97, 3) := by decide +kernel
theorem dX11_isWhole_110 : decode cX11_isWhole 110 = .ok (.aload_n 0, 1) := by decide +kernel
theorem dX11_isWhole_111 : decode cX11_isWhole 111 = .ok (.getfield 48, 3) := by decide +kernel
theorem dX11_isWhole_114 : decode cX11_isWhole 114 = .ok (.iaload, 1) := by decide +kernel
theorem dX11_isWhole_115 : decode cX11_isWhole 115 = .ok (.if_icmp .ge 25, 3) := by decide +kernel
theorem dX11_isWhole_118 : decode cX11_isWhole 118 = .ok (.aload_n 0, 1) := by decide +kernel
theorem dX11_isWhole_119 : decode cX11_isWhole 119 = .ok (.iconst 2, 1) := by decide +kernel
theorem dX11_isWhole_120 : decode cX11_isWhole 120 = .ok (.iload 4, 2) := by decide +kernel
theorem dX11_isWhole_122 : decode cX11_isWhole 122 = .ok (.imul, 1) := by decide +kernel
theorem dX11_isWhole_123 : decode cX11_isWhole 123 = .ok (.invokevirtual 594, 3) := by decide +kernel
theorem dX11_isWhole_126 : decode cX11_isWhole 126 = .ok (.sipush 1000, 3) := by decide +kernel
theorem dX11_isWhole_129 : decode cX11_isWhole 129 = .ok (.if_icmp .le 5, 3) := by decide +kernel
theorem dX11_isWhole_132 : decode cX11_isWhole 132 = .ok (.iconst 0, 1) := by decide +kernel
theorem dX11_isWhole_133 : decode cX11_isWhole 133 = .ok (.ireturn, 1) := by decide +kernel
theorem dX11_isWhole_134 : decode cX11_isWhole 134 = .ok (.iinc 4 1, 3) := by decide +kernel
theorem dX11_isWhole_137 : decode cX11_isWhole 137 = .ok (.goto (-33), 3) := by decide +kernel
theorem dX11_isWhole_140 : decode cX11_isWhole 140 = .ok (.iconst 0, 1) := by decide +kernel
theorem dX11_isWhole_141 : decode cX11_isWhole 141 = .ok (.istore 4, 2) := by decide +kernel
theorem dX11_isWhole_143 : decode cX11_isWhole 143 = .ok (.iload 4, 2) := by decide +kernel
theorem dX11_isWhole_145 : decode cX11_isWhole 145 = .ok (.aload_n 0, 1) := by decide +kernel
theorem dX11_isWhole_146 : decode cX11_isWhole 146 = .ok (.getfield 82, 3) := by decide +kernel
theorem dX11_isWhole_149 : decode cX11_isWhole 149 = .ok (.aload_n 0, 1) := by decide +kernel
theorem dX11_isWhole_150 : decode cX11_isWhole 150 = .ok (.getfield 48, 3) := by decide +kernel
theorem dX11_isWhole_153 : decode cX11_isWhole 153 = .ok (.iaload, 1) := by decide +kernel
theorem dX11_isWhole_154 : decode cX11_isWhole 154 = .ok (.if_icmp .ge 64, 3) := by decide +kernel
theorem dX11_isWhole_157 : decode cX11_isWhole 157 = .ok (.iconst 0, 1) := by decide +kernel
theorem dX11_isWhole_158 : decode cX11_isWhole 158 = .ok (.istore 5, 2) := by decide +kernel
theorem dX11_isWhole_160 : decode cX11_isWhole 160 = .ok (.iload 5, 2) := by decide +kernel
theorem dX11_isWhole_162 : decode cX11_isWhole 162 = .ok (.aload_n 0, 1) := by decide +kernel
theorem dX11_isWhole_163 : decode cX11_isWhole 163 = .ok (.getfield 57, 3) := by decide +kernel
theorem dX11_isWhole_166 : decode cX11_isWhole 166 = .ok (.aload_n 0, 1) := by decide +kernel
theorem dX11_isWhole_167 : decode cX11_isWhole 167 = .ok (.getfield 48, 3) := by decide +kernel
theorem dX11_isWhole_170 : decode cX11_isWhole 170 = .ok (.iaload, 1) := by decide +kernel
theorem dX11_isWhole_171 : decode cX11_isWhole 171 = .ok (.if_icmp .ge 41, 3) := by decide +kernel
theorem dX11_isWhole_174 : decode cX11_isWhole 174 = .ok (.aload_n 0, 1) := by decide +kernel
theorem dX11_isWhole_175 : decode cX11_isWhole 175 = .ok (.iload_n 2, 1) := by decide +kernel
theorem dX11_isWhole_176 : decode cX11_isWhole 176 = .ok (.iconst 5, 1) := by decide +kernel
theorem dX11_isWhole_177 : decode cX11_isWhole 177 = .ok (.iload 4, 2) := by decide +kernel
theorem dX11_isWhole_179 : decode cX11_isWhole 179 = .ok (.aload_n 0, 1) := by decide +kernel
theorem dX11_isWhole_180 : decode cX11_isWhole 180 = .ok (.getfield 57, 3) := by decide +kernel
theorem dX11_isWhole_183 : decode cX11_isWhole 183 = .ok (.aload_n 0, 1) := by decide +kernel
theorem dX11_isWhole_184 : decode cX11_isWhole 184 = .ok (.getfield 48, 3) := by decide +kernel
theorem dX11_isWhole_187 : decode cX11_isWhole 187 = .ok (.iaload, 1) := by decide +kernel
theorem dX11_isWhole_188 : decode cX11_isWhole 188 = .ok (.imul, 1) := by decide +kernel
theorem dX11_isWhole_189 : decode cX11_isWhole 189 = .ok (.iload 5, 2) := by decide +kernel
theorem dX11_isWhole_191 : decode cX11_isWhole 191 = .ok (.iadd, 1) := by decide +kernel
theorem dX11_isWhole_192 : decode cX11_isWhole 192 = .ok (.imul, 1) := by decide +kernel
theorem dX11_isWhole_193 : decode cX11_isWhole 193 = .ok (.iadd, 1) := by decide +kernel
theorem dX11_isWhole_194 : decode cX11_isWhole 194 = .ok (.iload 4, 2) := by decide +kernel
theorem dX11_isWhole_196 : decode cX11_isWhole 196 = .ok (.iload 5, 2) := by decide +kernel
theorem dX11_isWhole_198 : decode cX11_isWhole 198 = .ok (.invokevirtual 600, 3) := by decide +kernel
theorem dX11_isWhole_201 : decode cX11_isWhole 201 = .ok (.ifCond .ne 5, 3) := by decide +kernel
theorem dX11_isWhole_204 : decode cX11_isWhole 204 = .ok (.iconst 0, 1) := by decide +kernel
theorem dX11_isWhole_205 : decode cX11_isWhole 205 = .ok (.ireturn, 1) := by decide +kernel
theorem dX11_isWhole_206 : decode cX11_isWhole 206 = .ok (.iinc 5 1, 3) := by decide +kernel
theorem dX11_isWhole_209 : decode cX11_isWhole 209 = .ok (.goto (-49), 3) := by decide +kernel
theorem dX11_isWhole_212 : decode cX11_isWhole 212 = .ok (.iinc 4 1, 3) := by decide +kernel
theorem dX11_isWhole_215 : decode cX11_isWhole 215 = .ok (.goto (-72), 3) := by decide +kernel
theorem dX11_isWhole_218 : decode cX11_isWhole 218 = .ok (.iconst 1, 1) := by decide +kernel
theorem dX11_isWhole_219 : decode cX11_isWhole 219 = .ok (.ireturn, 1) := by decide +kernel
theorem dX11_on_0 : decode cX11_on 0 = .ok (.aload_n 0, 1) := by decide +kernel
theorem dX11_on_1 : decode cX11_on 1 = .ok (.getfield 13, 3) := by decide +kernel
theorem dX11_on_4 : decode cX11_on 4 = .ok (.istore_n 1, 1) := by decide +kernel
theorem dX11_on_5 : decode cX11_on 5 = .ok (.aload_n 0, 1) := by decide +kernel
theorem dX11_on_6 : decode cX11_on 6 = .ok (.iconst 0, 1) := by decide +kernel
theorem dX11_on_7 : decode cX11_on 7 = .ok (.putfield 13, 3) := by decide +kernel
theorem dX11_on_10 : decode cX11_on 10 = .ok (.aload_n 0, 1) := by decide +kernel
theorem dX11_on_11 : decode cX11_on 11 = .ok (.iload_n 1, 1) := by decide +kernel
theorem dX11_on_12 : decode cX11_on 12 = .ok (.invokevirtual 603, 3) := by decide +kernel
theorem dX11_on_15 : decode cX11_on 15 = .ok (.ifCond .ne 17, 3) := by decide +kernel
theorem dX11_on_18 : decode cX11_on 18 = .ok (.aload_n 0, 1) := by decide +kernel
theorem dX11_on_19 : decode cX11_on 19 = .ok (.iconst 5, 1) := by decide +kernel
theorem dX11_on_20 : decode cX11_on 20 = .ok (.invokevirtual 237, 3) := by decide +kernel
theorem dX11_on_23 : decode cX11_on 23 = .ok (.ifCond .lt 7, 3) := by decide +kernel
theorem dX11_on_26 : decode cX11_on 26 = .ok (.iconst 1, 1) := by decide +kernel
theorem dX11_on_27 : decode cX11_on 27 = .ok (.goto 4, 3) := by decide +kernel
theorem dX11_on_30 : decode cX11_on 30 = .ok (.iconst 0, 1) := by decide +kernel
theorem dX11_on_31 : decode cX11_on 31 = .ok (.ireturn, 1) := by decide +kernel
theorem dX11_on_32 : decode cX11_on 32 = .ok (.iconst 2, 1) := by decide +kernel
theorem dX11_on_33 : decode cX11_on 33 = .ok (.aload_n 0, 1) := by decide +kernel
theorem dX11_on_34 : decode cX11_on 34 = .ok (.getfield 97, 3) := by decide +kernel
theorem dX11_on_37 : decode cX11_on 37 = .ok (.aload_n 0, 1) := by decide +kernel
theorem dX11_on_38 : decode cX11_on 38 = .ok (.getfield 48, 3) := by decide +kernel
theorem dX11_on_41 : decode cX11_on 41 = .ok (.iaload, 1) := by decide +kernel
theorem dX11_on_42 : decode cX11_on 42 = .ok (.imul, 1) := by decide +kernel
theorem dX11_on_43 : decode cX11_on 43 = .ok (.istore_n 2, 1) := by decide +kernel
theorem dX11_on_44 : decode cX11_on 44 = .ok (.iconst 0, 1) := by decide +kernel
theorem dX11_on_45 : decode cX11_on 45 = .ok (.istore_n 3, 1) := by decide +kernel
theorem dX11_on_46 : decode cX11_on 46 = .ok (.iload_n 3, 1) := by decide +kernel
theorem dX11_on_47 : decode cX11_on 47 = .ok (.aload_n 0, 1) := by decide +kernel
theorem dX11_on_48 : decode cX11_on 48 = .ok (.getfield 97, 3) := by decide +kernel
theorem dX11_on_51 : decode cX11_on 51 = .ok (.aload_n 0, 1) := by decide +kernel
theorem dX11_on_52 : decode cX11_on 52 = .ok (.getfield 48, 3) := by decide +kernel
theorem dX11_on_55 : decode cX11_on 55 = .ok (.iaload, 1) := by decide +kernel
theorem dX11_on_56 : decode cX11_on 56 = .ok (.if_icmp .ge 22, 3) := by decide +kernel
theorem dX11_on_59 : decode cX11_on 59 = .ok (.aload_n 0, 1) := by decide +kernel
theorem dX11_on_60 : decode cX11_on 60 = .ok (.getfield 183, 3) := by decide +kernel
theorem dX11_on_63 : decode cX11_on 63 = .ok (.iload_n 3, 1) := by decide +kernel
theorem dX11_on_64 : decode cX11_on 64 = .ok (.aload_n 0, 1) := by decide +kernel
theorem dX11_on_65 : decode cX11_on 65 = .ok (.iconst 2, 1) := by decide +kernel
theorem dX11_on_66 : decode cX11_on 66 = .ok (.iload_n 3, 1) := by decide +kernel
theorem dX11_on_67 : decode cX11_on 67 = .ok (.imul, 1) := by decide +kernel
theorem dX11_on_68 : decode cX11_on 68 = .ok (.invokevirtual 594, 3) := by decide +kernel
theorem dX11_on_71 : decode cX11_on 71 = .ok (.iastore, 1) := by decide +kernel
theorem dX11_on_72 : decode cX11_on 72 = .ok (.iinc 3 1, 3) := by decide +kernel
theorem dX11_on_75 : decode cX11_on 75 = .ok (.goto (-29), 3) := by decide +kernel
theorem dX11_on_78 : decode cX11_on 78 = .ok (.iconst 0, 1) := by decide +kernel
theorem dX11_on_79 : decode cX11_on 79 = .ok (.istore_n 3, 1) := by decide +kernel
theorem dX11_on_80 : decode cX11_on 80 = .ok (.iload_n 3, 1) := by decide +kernel
theorem dX11_on_81 : decode cX11_on 81 = .ok (.aload_n 0, 1) := by decide +kernel
theorem dX11_on_82 : decode cX11_on 82 = .ok (.getfield 82, 3) := by decide +kernel
theorem dX11_on_85 : decode cX11_on 85 = .ok (.aload_n 0, 1) := by decide +kernel
theorem dX11_on_86 : decode cX11_on 86 = .ok (.getfield 48, 3) := by decide +kernel
theorem dX11_on_89 : decode cX11_on 89 = .ok (.iaload, 1) := by decide +kernel
theorem dX11_on_90 : decode cX11_on 90 = .ok (.if_icmp .ge 110, 3) := by decide +kernel
theorem dX11_on_93 : decode cX11_on 93 = .ok (.iconst 0, 1) := by decide +kernel
theorem dX11_on_94 : decode cX11_on 94 = .ok (.istore 4, 2) := by decide +kernel
theorem dX11_on_96 : decode cX11_on 96 = .ok (.iload 4, 2) := by decide +kernel
theorem dX11_on_98 : decode cX11_on 98 = .ok (.aload_n 0, 1) := by decide +kernel
theorem dX11_on_99 : decode cX11_on 99 = .ok (.getfield 57, 3) := by decide +kernel
theorem dX11_on_102 : decode cX11_on 102 = .ok (.aload_n 0, 1) := by decide +kernel
theorem dX11_on_103 : decode cX11_on 103 = .ok (.getfield 48, 3) := by decide +kernel
theorem dX11_on_106 : decode cX11_on 106 = .ok (.iaload, 1) := by decide +kernel
theorem dX11_on_107 : decode cX11_on 107 = .ok (.if_icmp .ge 87, 3) := by decide +kernel
theorem dX11_on_110 : decode cX11_on 110 = .ok (.iload_n 2, 1) := by decide +kernel
theorem dX11_on_111 : decode cX11_on 111 = .ok (.iconst 5, 1) := by decide +kernel
theorem dX11_on_112 : decode cX11_on 112 = .ok (.iload_n 3, 1) := by decide +kernel
theorem dX11_on_113 : decode cX11_on 113 = .ok (.aload_n 0, 1) := by decide +kernel
theorem dX11_on_114 : decode cX11_on 114 = .ok (.getfield 57, 3) := by decide +kernel
theorem dX11_on_117 : decode cX11_on 117 = .ok (.aload_n 0, 1) := by decide +kernel
theorem dX11_on_118 : decode cX11_on 118 = .ok (.getfield 48, 3) := by decide +kernel
theorem dX11_on_121 : decode cX11_on 121 = .ok (.iaload, 1) := by decide +kernel
theorem dX11_on_122 : decode cX11_on 122 = .ok (.imul, 1) := by decide +kernel
theorem dX11_on_123 : decode cX11_on 123 = .ok (.iload 4, 2) := by decide +kernel
theorem dX11_on_125 : decode cX11_on 125 = .ok (.iadd, 1) := by decide +kernel
theorem dX11_on_126 : decode cX11_on 126 = .ok (.imul, 1) := by decide +kernel
theorem dX11_on_127 : decode cX11_on 127 = .ok (.iadd, 1) := by decide +kernel
theorem dX11_on_128 : decode cX11_on 128 = .ok (.istore 5, 2) := by decide +kernel
theorem dX11_on_130 : decode cX11_on 130 = .ok (.aload_n 0, 1) := by decide +kernel
theorem dX11_on_131 : decode cX11_on 131 = .ok (.getfield 192, 3) := by decide +kernel
theorem dX11_on_134 : decode cX11_on 134 = .ok (.iconst 3, 1) := by decide +kernel
theorem dX11_on_135 : decode cX11_on 135 = .ok (.iload_n 3, 1) := by decide +kernel
theorem dX11_on_136 : decode cX11_on 136 = .ok (.imul, 1) := by decide +kernel
theorem dX11_on_137 : decode cX11_on 137 = .ok (.iload 4, 2) := by decide +kernel
theorem dX11_on_139 : decode cX11_on 139 = .ok (.iadd, 1) := by decide +kernel
theorem dX11_on_140 : decode cX11_on 140 = .ok (.aload_n 0, 1) := by decide +kernel
theorem dX11_on_141 : decode cX11_on 141 = .ok (.iload 5, 2) := by decide +kernel
theorem dX11_on_143 : decode cX11_on 143 = .ok (.invokevirtual 594, 3) := by decide +kernel
theorem dX11_on_146 : decode cX11_on 146 = .ok (.iastore, 1) := by decide +kernel
theorem dX11_on_147 : decode cX11_on 147 = .ok (.aload_n 0, 1) := by decide +kernel
theorem dX11_on_148 : decode cX11_on 148 = .ok (.getfield 195, 3) := by decide +kernel
theorem dX11_on_151 : decode cX11_on 151 = .ok (.iconst 3, 1) := by decide +kernel
theorem dX11_on_152 : decode cX11_on 152 = .ok (.iload_n 3, 1) := by decide +kernel
theorem dX11_on_153 : decode cX11_on 153 = .ok (.imul, 1) := by decide +kernel
theorem dX11_on_154 : decode cX11_on 154 = .ok (.iload 4, 2) := by decide +kernel
theorem dX11_on_156 : decode cX11_on 156 = .ok (.iadd, 1) := by decide +kernel
theorem dX11_on_157 : decode cX11_on 157 = .ok (.aload_n 0, 1) := by decide +kernel
theorem dX11_on_158 : decode cX11_on 158 = .ok (.iload 5, 2) := by decide +kernel
theorem dX11_on_160 : decode cX11_on 160 = .ok (.iconst 2, 1) := by decide +kernel
theorem dX11_on_161 : decode cX11_on 161 = .ok (.iadd, 1) := by decide +kernel
theorem dX11_on_162 : decode cX11_on 162 = .ok (.invokevirtual 594, 3) := by decide +kernel
theorem dX11_on_165 : decode cX11_on 165 = .ok (.iconst 1, 1) := by decide +kernel
theorem dX11_on_166 : decode cX11_on 166 = .ok (.isub, 1) := by decide +kernel
theorem dX11_on_167 : decode cX11_on 167 = .ok (.iastore, 1) := by decide +kernel
theorem dX11_on_168 : decode cX11_on 168 = .ok (.aload_n 0, 1) := by decide +kernel
theorem dX11_on_169 : decode cX11_on 169 = .ok (.getfield 198, 3) := by decide +kernel
theorem dX11_on_172 : decode cX11_on 172 = .ok (.iconst 3, 1) := by decide +kernel
theorem dX11_on_173 : decode cX11_on 173 = .ok (.iload_n 3, 1) := by decide +kernel
theorem dX11_on_174 : decode cX11_on 174 = .ok (.imul, 1) := by decide +kernel
theorem dX11_on_175 : decode cX11_on 175 = .ok (.iload 4, 2) := by decide +kernel
theorem dX11_on_177 : decode cX11_on 177 = .ok (.iadd, 1) := by decide +kernel
theorem dX11_on_178 : decode cX11_on 178 = .ok (.aload_n 0, 1) := by decide +kernel
theorem dX11_on_179 : decode cX11_on 179 = .ok (.getfield 7, 3) := by decide +kernel
theorem dX11_on_182 : decode cX11_on 182 = .ok (.iload 5, 2) := by decide +kernel
theorem dX11_on_184 : decode cX11_on 184 = .ok (.iconst 4, 1) := by decide +kernel
theorem dX11_on_185 : decode cX11_on 185 = .ok (.iadd, 1) := by decide +kernel
theorem dX11_on_186 : decode cX11_on 186 = .ok (.iaload, 1) := by decide +kernel
theorem dX11_on_187 : decode cX11_on 187 = .ok (.iastore, 1) := by decide +kernel
theorem dX11_on_188 : decode cX11_on 188 = .ok (.iinc 4 1, 3) := by decide +kernel
theorem dX11_on_191 : decode cX11_on 191 = .ok (.goto (-95), 3) := by decide +kernel
theorem dX11_on_194 : decode cX11_on 194 = .ok (.iinc 3 1, 3) := by decide +kernel
theorem dX11_on_197 : decode cX11_on 197 = .ok (.goto (-117), 3) := by decide +kernel
theorem dX11_on_200 : decode cX11_on 200 = .ok (.iconst 1, 1) := by decide +kernel
theorem dX11_on_201 : decode cX11_on 201 = .ok (.ireturn, 1) := by decide +kernel
theorem dJ6_bitCount_0f7a4_0 : decode cJ6_bitCount_0f7a4 0 = .ok (.iload_n 0, 1) := by decide +kernel
theorem dJ6_bitCount_0f7a4_1 : decode cJ6_bitCount_0f7a4 1 = .ok (.iload_n 0, 1) := by decide +kernel
theorem dJ6_bitCount_0f7a4_2 : decode cJ6_bitCount_0f7a4 2 = .ok (.iconst 1, 1) := by decide +kernel
theorem dJ6_bitCount_0f7a4_3 : decode cJ6_bitCount_0f7a4 3 = .ok (.iushr, 1) := by decide +kernel
theorem dJ6_bitCount_0f7a4_4 : decode cJ6_bitCount_0f7a4 4 = .ok (.ldc_w 265, 3) := by decide +kernel
theorem dJ6_bitCount_0f7a4_7 : decode cJ6_bitCount_0f7a4 7 = .ok (.iand, 1) := by decide +kernel
theorem dJ6_bitCount_0f7a4_8 : decode cJ6_bitCount_0f7a4 8 = .ok (.isub, 1) := by decide +kernel
theorem dJ6_bitCount_0f7a4_9 : decode cJ6_bitCount_0f7a4 9 = .ok (.istore_n 0, 1) := by decide +kernel
theorem dJ6_bitCount_0f7a4_10 : decode cJ6_bitCount_0f7a4 10 = .ok (.iload_n 0, 1) := by decide +kernel
theorem dJ6_bitCount_0f7a4_11 : decode cJ6_bitCount_0f7a4 11 = .ok (.ldc_w 266, 3) := by decide +kernel
theorem dJ6_bitCount_0f7a4_14 : decode cJ6_bitCount_0f7a4 14 = .ok (.iand, 1) := by decide +kernel
theorem dJ6_bitCount_0f7a4_15 : decode cJ6_bitCount_0f7a4 15 = .ok (.iload_n 0, 1) := by decide +kernel
theorem dJ6_bitCount_0f7a4_16 : decode cJ6_bitCount_0f7a4 16 = .ok (.iconst 2, 1) := by decide +kernel
theorem dJ6_bitCount_0f7a4_17 : decode cJ6_bitCount_0f7a4 17 = .ok (.iushr, 1) := by decide +kernel
theorem dJ6_bitCount_0f7a4_18 : decode cJ6_bitCount_0f7a4 18 = .ok (.ldc_w 266, 3) := by decide +kernel
theorem dJ6_bitCount_0f7a4_21 : decode cJ6_bitCount_0f7a4 21 = .ok (.iand, 1) := by decide +kernel
theorem dJ6_bitCount_0f7a4_22 : decode cJ6_bitCount_0f7a4 22 = .ok (.iadd, 1) := by decide +kernel
theorem dJ6_bitCount_0f7a4_23 : decode cJ6_bitCount_0f7a4 23 = .ok (.istore_n 0, 1) := by decide +kernel
theorem dJ6_bitCount_0f7a4_24 : decode cJ6_bitCount_0f7a4 24 = .ok (.iload_n 0, 1) := by decide +kernel
theorem dJ6_bitCount_0f7a4_25 : decode cJ6_bitCount_0f7a4 25 = .ok (.iload_n 0, 1) := by decide +kernel
theorem dJ6_bitCount_0f7a4_26 : decode cJ6_bitCount_0f7a4 26 = .ok (.iconst 4, 1) := by decide +kernel
theorem dJ6_bitCount_0f7a4_27 : decode cJ6_bitCount_0f7a4 27 = .ok (.iushr, 1) := by decide +kernel
theorem dJ6_bitCount_0f7a4_28 : decode cJ6_bitCount_0f7a4 28 = .ok (.iadd, 1) := by decide +kernel
theorem dJ6_bitCount_0f7a4_29 : decode cJ6_bitCount_0f7a4 29 = .ok (.ldc_w 267, 3) := by decide +kernel
theorem dJ6_bitCount_0f7a4_32 : decode cJ6_bitCount_0f7a4 32 = .ok (.iand, 1) := by decide +kernel
theorem dJ6_bitCount_0f7a4_33 : decode cJ6_bitCount_0f7a4 33 = .ok (.istore_n 0, 1) := by decide +kernel
theorem dJ6_bitCount_0f7a4_34 : decode cJ6_bitCount_0f7a4 34 = .ok (.iload_n 0, 1) := by decide +kernel
theorem dJ6_bitCount_0f7a4_35 : decode cJ6_bitCount_0f7a4 35 = .ok (.iload_n 0, 1) := by decide +kernel
theorem dJ6_bitCount_0f7a4_36 : decode cJ6_bitCount_0f7a4 36 = .ok (.bipush 8, 2) := by decide +kernel
theorem dJ6_bitCount_0f7a4_38 : decode cJ6_bitCount_0f7a4 38 = .ok (.iushr, 1) := by decide +kernel
theorem dJ6_bitCount_0f7a4_39 : decode cJ6_bitCount_0f7a4 39 = .ok (.iadd, 1) := by decide +kernel
theorem dJ6_bitCount_0f7a4_40 : decode cJ6_bitCount_0f7a4 40 = .ok (.istore_n 0, 1) := by decide +kernel
theorem dJ6_bitCount_0f7a4_41 : decode cJ6_bitCount_0f7a4 41 = .ok (.iload_n 0, 1) := by decide +kernel
theorem dJ6_bitCount_0f7a4_42 : decode cJ6_bitCount_0f7a4 42 = .ok (.iload_n 0, 1) := by decide +kernel
theorem dJ6_bitCount_0f7a4_43 : decode cJ6_bitCount_0f7a4 43 = .ok (.bipush 16, 2) := by decide +kernel
theorem dJ6_bitCount_0f7a4_45 : decode cJ6_bitCount_0f7a4 45 = .ok (.iushr, 1) := by decide +kernel
theorem dJ6_bitCount_0f7a4_46 : decode cJ6_bitCount_0f7a4 46 = .ok (.iadd, 1) := by decide +kernel
theorem dJ6_bitCount_0f7a4_47 : decode cJ6_bitCount_0f7a4 47 = .ok (.istore_n 0, 1) := by decide +kernel
theorem dJ6_bitCount_0f7a4_48 : decode cJ6_bitCount_0f7a4 48 = .ok (.iload_n 0, 1) := by decide +kernel
theorem dJ6_bitCount_0f7a4_49 : decode cJ6_bitCount_0f7a4 49 = .ok (.bipush 63, 2) := by decide +kernel
theorem dJ6_bitCount_0f7a4_51 : decode cJ6_bitCount_0f7a4 51 = .ok (.iand, 1) := by decide +kernel
theorem dJ6_bitCount_0f7a4_52 : decode cJ6_bitCount_0f7a4 52 = .ok (.ireturn, 1) := by decide +kernel
theorem dJ9_floorDiv_f86c9_0 : decode cJ9_floorDiv_f86c9 0 = .ok (.lload_n 0, 1) := by decide +kernel
theorem dJ9_floorDiv_f86c9_1 : decode cJ9_floorDiv_f86c9 1 = .ok (.lload_n 2, 1) := by decide +kernel
theorem dJ9_floorDiv_f86c9_2 : decode cJ9_floorDiv_f86c9 2 = .ok (.ldiv, 1) := by decide +kernel
theorem dJ9_floorDiv_f86c9_3 : decode cJ9_floorDiv_f86c9 3 = .ok (.lstore 4, 2) := by decide +kernel
theorem dJ9_floorDiv_f86c9_5 : decode cJ9_floorDiv_f86c9 5 = .ok (.lload_n 0, 1) := by decide +kernel
theorem dJ9_floorDiv_f86c9_6 : decode cJ9_floorDiv_f86c9 6 = .ok (.lload_n 2, 1) := by decide +kernel
theorem dJ9_floorDiv_f86c9_7 : decode cJ9_floorDiv_f86c9 7 = .ok (.lxor, 1) := by decide +kernel
theorem dJ9_floorDiv_f86c9_8 : decode cJ9_floorDiv_f86c9 8 = .ok (.lconst 0, 1) := by decide +kernel
theorem dJ9_floorDiv_f86c9_9 : decode cJ9_floorDiv_f86c9 9 = .ok (.lcmp, 1) := by decide +kernel
theorem dJ9_floorDiv_f86c9_10 : decode cJ9_floorDiv_f86c9 10 = .ok (.ifCond .ge 17, 3) := by decide +kernel
theorem dJ9_floorDiv_f86c9_13 : decode cJ9_floorDiv_f86c9 13 = .ok (.lload 4, 2) := by decide +kernel
theorem dJ9_floorDiv_f86c9_15 : decode cJ9_floorDiv_f86c9 15 = .ok (.lload_n 2, 1) := by decide +kernel
theorem dJ9_floorDiv_f86c9_16 : decode cJ9_floorDiv_f86c9 16 = .ok (.lmul, 1) := by decide +kernel
theorem dJ9_floorDiv_f86c9_17 : decode cJ9_floorDiv_f86c9 17 = .ok (.lload_n 0, 1) := by decide +kernel
theorem dJ9_floorDiv_f86c9_18 : decode cJ9_floorDiv_f86c9 18 = .ok (.lcmp, 1) := by decide +kernel
theorem dJ9_floorDiv_f86c9_19 : decode cJ9_floorDiv_f86c9 19 = .ok (.ifCond .eq 8, 3) := by decide +kernel
theorem dJ9_floorDiv_f86c9_22 : decode cJ9_floorDiv_f86c9 22 = .ok (.lload 4, 2) := by decide +kernel
theorem dJ9_floorDiv_f86c9_24 : decode cJ9_floorDiv_f86c9 24 = .ok (.lconst 1, 1) := by decide +kernel
theorem dJ9_floorDiv_f86c9_25 : decode cJ9_floorDiv_f86c9 25 = .ok (.lsub, 1) := by decide +kernel
theorem dJ9_floorDiv_f86c9_26 : decode cJ9_floorDiv_f86c9 26 = .ok (.lreturn, 1) := by decide +kernel
theorem dJ9_floorDiv_f86c9_27 : decode cJ9_floorDiv_f86c9 27 = .ok (.lload 4, 2) := by decide +kernel
theorem dJ9_floorDiv_f86c9_29 : decode cJ9_floorDiv_f86c9 29 = .ok (.lreturn, 1) := by decide +kernel
theorem dJ9_floorMod_7cf53_0 : decode cJ9_floorMod_7cf53 0 = .ok (.iload_n 0, 1) := by decide +kernel
theorem dJ9_floorMod_7cf53_1 : decode cJ9_floorMod_7cf53 1 = .ok (.iload_n 1, 1) := by decide +kernel
theorem dJ9_floorMod_7cf53_2 : decode cJ9_floorMod_7cf53 2 = .ok (.irem, 1) := by decide +kernel
theorem dJ9_floorMod_7cf53_3 : decode cJ9_floorMod_7cf53 3 = .ok (.istore_n 2, 1) := by decide +kernel
theorem dJ9_floorMod_7cf53_4 : decode cJ9_floorMod_7cf53 4 = .ok (.iload_n 0, 1) := by decide +kernel
theorem dJ9_floorMod_7cf53_5 : decode cJ9_floorMod_7cf53 5 = .ok (.iload_n 1, 1) := by decide +kernel
theorem dJ9_floorMod_7cf53_6 : decode cJ9_floorMod_7cf53 6 = .ok (.ixor, 1) := by decide +kernel
theorem dJ9_floorMod_7cf53_7 : decode cJ9_floorMod_7cf53 7 = .ok (.ifCond .ge 11, 3) := by decide +kernel
theorem dJ9_floorMod_7cf53_10 : decode cJ9_floorMod_7cf53 10 = .ok (.iload_n 2, 1) := by decide +kernel
theorem dJ9_floorMod_7cf53_11 : decode cJ9_floorMod_7cf53 11 = .ok (.ifCond .eq 7, 3) := by decide +kernel
theorem dJ9_floorMod_7cf53_14 : decode cJ9_floorMod_7cf53 14 = .ok (.iload_n 2, 1) := by decide +kernel
theorem dJ9_floorMod_7cf53_15 : decode cJ9_floorMod_7cf53 15 = .ok (.iload_n 1, 1) := by decide +kernel
theorem dJ9_floorMod_7cf53_16 : decode cJ9_floorMod_7cf53 16 = .ok (.iadd, 1) := by decide +kernel
theorem dJ9_floorMod_7cf53_17 : decode cJ9_floorMod_7cf53 17 = .ok (.ireturn, 1) := by decide +kernel
theorem dJ9_floorMod_7cf53_18 : decode cJ9_floorMod_7cf53 18 = .ok (.iload_n 2, 1) := by decide +kernel
theorem dJ9_floorMod_7cf53_19 : decode cJ9_floorMod_7cf53 19 = .ok (.ireturn, 1) := by decide +kernel
theorem dJ9_floorMod_f86c9_0 : decode cJ9_floorMod_f86c9 0 = .ok (.lload_n 0, 1) := by decide +kernel
theorem dJ9_floorMod_f86c9_1 : decode cJ9_floorMod_f86c9 1 = .ok (.lload_n 2, 1) := by decide +kernel
theorem dJ9_floorMod_f86c9_2 : decode cJ9_floorMod_f86c9 2 = .ok (.lrem, 1) := by decide +kernel
theorem dJ9_floorMod_f86c9_3 : decode cJ9_floorMod_f86c9 3 = .ok (.lstore 4, 2) := by decide +kernel
theorem dJ9_floorMod_f86c9_5 : decode cJ9_floorMod_f86c9 5 = .ok (.lload_n 0, 1) := by decide +kernel
theorem dJ9_floorMod_f86c9_6 : decode cJ9_floorMod_f86c9 6 = .ok (.lload_n 2, 1) := by decide +kernel
theorem dJ9_floorMod_f86c9_7 : decode cJ9_floorMod_f86c9 7 = .ok (.lxor, 1) := by decide +kernel
theorem dJ9_floorMod_f86c9_8 : decode cJ9_floorMod_f86c9 8 = .ok (.lconst 0, 1) := by decide +kernel
theorem dJ9_floorMod_f86c9_9 : decode cJ9_floorMod_f86c9 9 = .ok (.lcmp, 1) := by decide +kernel
theorem dJ9_floorMod_f86c9_10 : decode cJ9_floorMod_f86c9 10 = .ok (.ifCond .ge 15, 3) := by decide +kernel
theorem dJ9_floorMod_f86c9_13 : decode cJ9_floorMod_f86c9 13 = .ok (.lload 4, 2) := by decide +kernel
theorem dJ9_floorMod_f86c9_15 : decode cJ9_floorMod_f86c9 15 = .ok (.lconst 0, 1) := by decide +kernel
theorem dJ9_floorMod_f86c9_16 : decode cJ9_floorMod_f86c9 16 = .ok (.lcmp, 1) := by decide +kernel
theorem dJ9_floorMod_f86c9_17 : decode cJ9_floorMod_f86c9 17 = .ok (.ifCond .eq 8, 3) := by decide +kernel
theorem dJ9_floorMod_f86c9_20 : decode cJ9_floorMod_f86c9 20 = .ok (.lload 4, 2) := by decide +kernel
theorem dJ9_floorMod_f86c9_22 : decode cJ9_floorMod_f86c9 22 = .ok (.lload_n 2, 1) := by decide +kernel
theorem dJ9_floorMod_f86c9_23 : decode cJ9_floorMod_f86c9 23 = .ok (.ladd, 1) := by decide +kernel
theorem dJ9_floorMod_f86c9_24 : decode cJ9_floorMod_f86c9 24 = .ok (.lreturn, 1) := by decide +kernel
theorem dJ9_floorMod_f86c9_25 : decode cJ9_floorMod_f86c9 25 = .ok (.lload 4, 2) := by decide +kernel
theorem dJ9_floorMod_f86c9_27 : decode cJ9_floorMod_f86c9 27 = .ok (.lreturn, 1) := by decide +kernel
theorem dJ9_max_7cf53_0 : decode cJ9_max_7cf53 0 = .ok (.iload_n 0, 1) := by decide +kernel
theorem dJ9_max_7cf53_1 : decode cJ9_max_7cf53 1 = .ok (.iload_n 1, 1) := by decide +kernel
theorem dJ9_max_7cf53_2 : decode cJ9_max_7cf53 2 = .ok (.if_icmp .lt 7, 3) := by decide +kernel
theorem dJ9_max_7cf53_5 : decode cJ9_max_7cf53 5 = .ok (.iload_n 0, 1) := by decide +kernel
theorem dJ9_max_7cf53_6 : decode cJ9_max_7cf53 6 = .ok (.goto 4, 3) := by decide +kernel
theorem dJ9_max_7cf53_9 : decode cJ9_max_7cf53 9 = .ok (.iload_n 1, 1) := by decide +kernel
theorem dJ9_max_7cf53_10 : decode cJ9_max_7cf53 10 = .ok (.ireturn, 1) := by decide +kernel
theorem dJ9_max_f86c9_0 : decode cJ9_max_f86c9 0 = .ok (.lload_n 0, 1) := by decide +kernel
theorem dJ9_max_f86c9_1 : decode cJ9_max_f86c9 1 = .ok (.lload_n 2, 1) := by decide +kernel
theorem dJ9_max_f86c9_2 : decode cJ9_max_f86c9 2 = .ok (.lcmp, 1) := by decide +kernel
theorem dJ9_max_f86c9_3 : decode cJ9_max_f86c9 3 = .ok (.ifCond .lt 7, 3) := by decide +kernel
theorem dJ9_max_f86c9_6 : decode cJ9_max_f86c9 6 = .ok (.lload_n 0, 1) := by decide +kernel
theorem dJ9_max_f86c9_7 : decode cJ9_max_f86c9 7 = .ok (.goto 4, 3) := by decide +kernel
theorem dJ9_max_f86c9_10 : decode cJ9_max_f86c9 10 = .ok (.lload_n 2, 1) := by decide +kernel
theorem dJ9_max_f86c9_11 : decode cJ9_max_f86c9 11 = .ok (.lreturn, 1) := by decide +kernel
theorem dJ9_min_7cf53_0 : decode cJ9_min_7cf53 0 = .ok (.iload_n 0, 1) := by decide +kernel
theorem dJ9_min_7cf53_1 : decode cJ9_min_7cf53 1 = .ok (.iload_n 1, 1) := by decide +kernel
theorem dJ9_min_7cf53_2 : decode cJ9_min_7cf53 2 = .ok (.if_icmp .gt 7, 3) := by decide +kernel
theorem dJ9_min_7cf53_5 : decode cJ9_min_7cf53 5 = .ok (.iload_n 0, 1) := by decide +kernel
theorem dJ9_min_7cf53_6 : decode cJ9_min_7cf53 6 = .ok (.goto 4, 3) := by decide +kernel
theorem dJ9_min_7cf53_9 : decode cJ9_min_7cf53 9 = .ok (.iload_n 1, 1) := by decide +kernel
theorem dJ9_min_7cf53_10 : decode cJ9_min_7cf53 10 = .ok (.ireturn, 1) := by decide +kernel
theorem dJ9_min_f86c9_0 : decode cJ9_min_f86c9 0 = .ok (.lload_n 0, 1) := by decide +kernel
theorem dJ9_min_f86c9_1 : decode cJ9_min_f86c9 1 = .ok (.lload_n 2, 1) := by decide +kernel
theorem dJ9_min_f86c9_2 : decode cJ9_min_f86c9 2 = .ok (.lcmp, 1) := by decide +kernel
theorem dJ9_min_f86c9_3 : decode cJ9_min_f86c9 3 = .ok (.ifCond .gt 7, 3) := by decide +kernel
theorem dJ9_min_f86c9_6 : decode cJ9_min_f86c9 6 = .ok (.lload_n 0, 1) := by decide +kernel
theorem dJ9_min_f86c9_7 : decode cJ9_min_f86c9 7 = .ok (.goto 4, 3) := by decide +kernel
theorem dJ9_min_f86c9_10 : decode cJ9_min_f86c9 10 = .ok (.lload_n 2, 1) := by decide +kernel
theorem dJ9_min_f86c9_11 : decode cJ9_min_f86c9 11 = .ok (.lreturn, 1) := by decide +kernel
theorem dJ0_length_8abf5_0 : decode cJ0_length_8abf5 0 = .ok (.aload_n 0, 1) := by decide +kernel
theorem dJ0_length_8abf5_1 : decode cJ0_length_8abf5 1 = .ok (.getfield 9, 3) := by decide +kernel
theorem dJ0_length_8abf5_4 : decode cJ0_length_8abf5 4 = .ok (.arraylength, 1) := by decide +kernel
theorem dJ0_length_8abf5_5 : decode cJ0_length_8abf5 5 = .ok (.aload_n 0, 1) := by decide +kernel
theorem dJ0_length_8abf5_6 : decode cJ0_length_8abf5 6 = .ok (.invokevirtual 335, 3) := by decide +kernel
theorem dJ0_length_8abf5_9 : decode cJ0_length_8abf5 9 = .ok (.ishr, 1) := by decide +kernel
theorem dJ0_length_8abf5_10 : decode cJ0_length_8abf5 10 = .ok (.ireturn, 1) := by decide +kernel
theorem dJ0_charAt_5068e_0 : decode cJ0_charAt_5068e 0 = .ok (.aload_n 0, 1) := by decide +kernel
theorem dJ0_charAt_5068e_1 : decode cJ0_charAt_5068e 1 = .ok (.invokevirtual 492, 3) := by decide +kernel
theorem dJ0_charAt_5068e_4 : decode cJ0_charAt_5068e 4 = .ok (.ifCond .eq 12, 3) := by decide +kernel
theorem dJ0_charAt_5068e_7 : decode cJ0_charAt_5068e 7 = .ok (.aload_n 0, 1) := by decide +kernel
theorem dJ0_charAt_5068e_8 : decode cJ0_charAt_5068e 8 = .ok (.getfield 9, 3) := by decide +kernel
theorem dJ0_charAt_5068e_11 : decode cJ0_charAt_5068e 11 = .ok (.iload_n 1, 1) := by decide +kernel
theorem dJ0_charAt_5068e_12 : decode cJ0_charAt_5068e 12 = .ok (.invokestatic 495, 3) := by decide +kernel
theorem dJ0_charAt_5068e_15 : decode cJ0_charAt_5068e 15 = .ok (.ireturn, 1) := by decide +kernel
theorem dJ0_charAt_5068e_16 : decode cJ0_charAt_5068e 16 = .ok (.aload_n 0, 1) := by decide +kernel
theorem dJ0_charAt_5068e_17 : decode cJ0_charAt_5068e 17 = .ok (.getfield 9, 3) := by decide +kernel
theorem dJ0_charAt_5068e_20 : decode cJ0_charAt_5068e 20 = .ok (.iload_n 1, 1) := by decide +kernel
theorem dJ0_charAt_5068e_21 : decode cJ0_charAt_5068e 21 = .ok (.invokestatic 498, 3) := by decide +kernel
theorem dJ0_charAt_5068e_24 : decode cJ0_charAt_5068e 24 = .ok (.ireturn, 1) := by decide +kernel
theorem dJ0_coder_7d493_0 : decode cJ0_coder_7d493 0 = .ok (.getstatic 38, 3) := by decide +kernel
theorem dJ0_coder_7d493_3 : decode cJ0_coder_7d493 3 = .ok (.ifCond .eq 10, 3) := by decide +kernel
theorem dJ0_coder_7d493_6 : decode cJ0_coder_7d493 6 = .ok (.aload_n 0, 1) := by decide +kernel
theorem dJ0_coder_7d493_7 : decode cJ0_coder_7d493 7 = .ok (.getfield 15, 3) := by decide +kernel
theorem dJ0_coder_7d493_10 : decode cJ0_coder_7d493 10 = .ok (.goto 4, 3) := by decide +kernel
theorem dJ0_coder_7d493_13 : decode cJ0_coder_7d493 13 = .ok (.iconst 1, 1) := by decide +kernel
theorem dJ0_coder_7d493_14 : decode cJ0_coder_7d493 14 = .ok (.ireturn, 1) := by decide +kernel
theorem dJ0_isLatin1_aae02_0 : decode cJ0_isLatin1_aae02 0 = .ok (.getstatic 38, 3) := by decide +kernel
theorem dJ0_isLatin1_aae02_3 : decode cJ0_isLatin1_aae02 3 = .ok (.ifCond .eq 14, 3) := by decide +kernel
theorem dJ0_isLatin1_aae02_6 : decode cJ0_isLatin1_aae02 6 = .ok (.aload_n 0, 1) := by decide +kernel
theorem dJ0_isLatin1_aae02_7 : decode cJ0_isLatin1_aae02 7 = .ok (.getfield 15, 3) := by decide +kernel
theorem dJ0_isLatin1_aae02_10 : decode cJ0_isLatin1_aae02 10 = .ok (.ifCond .ne 7, 3) := by decide +kernel
theorem dJ0_isLatin1_aae02_13 : decode cJ0_isLatin1_aae02 13 = .ok (.iconst 1, 1) := by decide +kernel
theorem dJ0_isLatin1_aae02_14 : decode cJ0_isLatin1_aae02 14 = .ok (.goto 4, 3) := by decide +kernel
theorem dJ0_isLatin1_aae02_17 : decode cJ0_isLatin1_aae02 17 = .ok (.iconst 0, 1) := by decide +kernel
theorem dJ0_isLatin1_aae02_18 : decode cJ0_isLatin1_aae02 18 = .ok (.ireturn, 1) := by decide +kernel
theorem dJ0_checkIndex_df160_0 : decode cJ0_checkIndex_df160 0 = .ok (.iload_n 0, 1) := by decide +kernel
theorem dJ0_checkIndex_df160_1 : decode cJ0_checkIndex_df160 1 = .ok (.iload_n 1, 1) := by decide +kernel
theorem dJ0_checkIndex_df160_2 : decode cJ0_checkIndex_df160 2 = .ok (.getstatic 1053, 3) := by decide +kernel
theorem dJ0_checkIndex_df160_5 : decode cJ0_checkIndex_df160 5 = .ok (.invokestatic 1059, 3) := by decide +kernel
theorem dJ0_checkIndex_df160_8 : decode cJ0_checkIndex_df160 8 = .ok (.pop, 1) := by decide +kernel
theorem dJ0_checkIndex_df160_9 : decode cJ0_checkIndex_df160 9 = .ok (.return_, 1) := by decide +kernel
theorem dJ1_charAt_3b067_0 : decode cJ1_charAt_3b067 0 = .ok (.iload_n 1, 1) := by decide +kernel
theorem dJ1_charAt_3b067_1 : decode cJ1_charAt_3b067 1 = .ok (.aload_n 0, 1) := by decide +kernel
theorem dJ1_charAt_3b067_2 : decode cJ1_charAt_3b067 2 = .ok (.arraylength, 1) := by decide +kernel
theorem dJ1_charAt_3b067_3 : decode cJ1_charAt_3b067 3 = .ok (.invokestatic 9, 3) := by decide +kernel
theorem dJ1_charAt_3b067_6 : decode cJ1_charAt_3b067 6 = .ok (.aload_n 0, 1) := by decide +kernel
theorem dJ1_charAt_3b067_7 : decode cJ1_charAt_3b067 7 = .ok (.iload_n 1, 1) := by decide +kernel
