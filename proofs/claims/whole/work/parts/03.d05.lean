theorem dX10_image_126 : decode cX10_image 126 = .ok (.aload_n 0, 1) := by decide +kernel
theorem dX10_image_127 : decode cX10_image 127 = .ok (.aload_n 0, 1) := by decide +kernel
theorem dX10_image_128 : decode cX10_image 128 = .ok (.getfield 76, 3) := by decide +kernel
theorem dX10_image_131 : decode cX10_image 131 = .ok (.aload_n 0, 1) := by decide +kernel
theorem dX10_image_132 : decode cX10_image 132 = .ok (.getfield 359, 3) := by decide +kernel
theorem dX10_image_135 : decode cX10_image 135 = .ok (.invokestatic 368, 3) := by decide +kernel
theorem dX10_image_138 : decode cX10_image 138 = .ok (.invokevirtual 365, 3) := by decide +kernel
theorem dX10_image_141 : decode cX10_image 141 = .ok (.aload_n 0, 1) := by decide +kernel
theorem dX10_image_142 : decode cX10_image 142 = .ok (.getfield 359, 3) := by decide +kernel
theorem dX10_image_145 : decode cX10_image 145 = .ok (.ireturn, 1) := by decide +kernel
theorem dX10_putTwo_0 : decode cX10_putTwo 0 = .ok (.aload_n 0, 1) := by decide +kernel
theorem dX10_putTwo_1 : decode cX10_putTwo 1 = .ok (.iload_n 1, 1) := by decide +kernel
theorem dX10_putTwo_2 : decode cX10_putTwo 2 = .ok (.bipush 8, 2) := by decide +kernel
theorem dX10_putTwo_4 : decode cX10_putTwo 4 = .ok (.ishr, 1) := by decide +kernel
theorem dX10_putTwo_5 : decode cX10_putTwo 5 = .ok (.invokevirtual 365, 3) := by decide +kernel
theorem dX10_putTwo_8 : decode cX10_putTwo 8 = .ok (.aload_n 0, 1) := by decide +kernel
theorem dX10_putTwo_9 : decode cX10_putTwo 9 = .ok (.iload_n 1, 1) := by decide +kernel
theorem dX10_putTwo_10 : decode cX10_putTwo 10 = .ok (.sipush 255, 3) := by decide +kernel
theorem dX10_putTwo_13 : decode cX10_putTwo 13 = .ok (.iand, 1) := by decide +kernel
theorem dX10_putTwo_14 : decode cX10_putTwo 14 = .ok (.invokevirtual 365, 3) := by decide +kernel
theorem dX10_putTwo_17 : decode cX10_putTwo 17 = .ok (.return_, 1) := by decide +kernel
theorem dX10_putOctet_0 : decode cX10_putOctet 0 = .ok (.aload_n 0, 1) := by decide +kernel
theorem dX10_putOctet_1 : decode cX10_putOctet 1 = .ok (.getfield 359, 3) := by decide +kernel
theorem dX10_putOctet_4 : decode cX10_putOctet 4 = .ok (.aload_n 0, 1) := by decide +kernel
theorem dX10_putOctet_5 : decode cX10_putOctet 5 = .ok (.getfield 76, 3) := by decide +kernel
theorem dX10_putOctet_8 : decode cX10_putOctet 8 = .ok (.arraylength, 1) := by decide +kernel
theorem dX10_putOctet_9 : decode cX10_putOctet 9 = .ok (.if_icmp .ge 23, 3) := by decide +kernel
theorem dX10_putOctet_12 : decode cX10_putOctet 12 = .ok (.aload_n 0, 1) := by decide +kernel
theorem dX10_putOctet_13 : decode cX10_putOctet 13 = .ok (.getfield 76, 3) := by decide +kernel
theorem dX10_putOctet_16 : decode cX10_putOctet 16 = .ok (.aload_n 0, 1) := by decide +kernel
theorem dX10_putOctet_17 : decode cX10_putOctet 17 = .ok (.getfield 359, 3) := by decide +kernel
theorem dX10_putOctet_20 : decode cX10_putOctet 20 = .ok (.iload_n 1, 1) := by decide +kernel
theorem dX10_putOctet_21 : decode cX10_putOctet 21 = .ok (.iastore, 1) := by decide +kernel
theorem dX10_putOctet_22 : decode cX10_putOctet 22 = .ok (.aload_n 0, 1) := by decide +kernel
theorem dX10_putOctet_23 : decode cX10_putOctet 23 = .ok (.dup, 1) := by decide +kernel
theorem dX10_putOctet_24 : decode cX10_putOctet 24 = .ok (.getfield 359, 3) := by decide +kernel
theorem dX10_putOctet_27 : decode cX10_putOctet 27 = .ok (.iconst 1, 1) := by decide +kernel
theorem dX10_putOctet_28 : decode cX10_putOctet 28 = .ok (.iadd, 1) := by decide +kernel
theorem dX10_putOctet_29 : decode cX10_putOctet 29 = .ok (.putfield 359, 3) := by decide +kernel
theorem dX10_putOctet_32 : decode cX10_putOctet 32 = .ok (.return_, 1) := by decide +kernel
theorem dX10_checkOf_0 : decode cX10_checkOf 0 = .ok (.bipush 33, 2) := by decide +kernel
theorem dX10_checkOf_2 : decode cX10_checkOf 2 = .ok (.istore_n 2, 1) := by decide +kernel
theorem dX10_checkOf_3 : decode cX10_checkOf 3 = .ok (.iconst 0, 1) := by decide +kernel
theorem dX10_checkOf_4 : decode cX10_checkOf 4 = .ok (.istore_n 3, 1) := by decide +kernel
theorem dX10_checkOf_5 : decode cX10_checkOf 5 = .ok (.iload_n 3, 1) := by decide +kernel
theorem dX10_checkOf_6 : decode cX10_checkOf 6 = .ok (.iload_n 1, 1) := by decide +kernel
theorem dX10_checkOf_7 : decode cX10_checkOf 7 = .ok (.if_icmp .ge 28, 3) := by decide +kernel
theorem dX10_checkOf_10 : decode cX10_checkOf 10 = .ok (.iload_n 3, 1) := by decide +kernel
theorem dX10_checkOf_11 : decode cX10_checkOf 11 = .ok (.aload_n 0, 1) := by decide +kernel
theorem dX10_checkOf_12 : decode cX10_checkOf 12 = .ok (.arraylength, 1) := by decide +kernel
theorem dX10_checkOf_13 : decode cX10_checkOf 13 = .ok (.if_icmp .ge 22, 3) := by decide +kernel
theorem dX10_checkOf_16 : decode cX10_checkOf 16 = .ok (.bipush 7, 2) := by decide +kernel
theorem dX10_checkOf_18 : decode cX10_checkOf 18 = .ok (.iload_n 2, 1) := by decide +kernel
theorem dX10_checkOf_19 : decode cX10_checkOf 19 = .ok (.imul, 1) := by decide +kernel
theorem dX10_checkOf_20 : decode cX10_checkOf 20 = .ok (.aload_n 0, 1) := by decide +kernel
theorem dX10_checkOf_21 : decode cX10_checkOf 21 = .ok (.iload_n 3, 1) := by decide +kernel
theorem dX10_checkOf_22 : decode cX10_checkOf 22 = .ok (.iaload, 1) := by decide +kernel
theorem dX10_checkOf_23 : decode cX10_checkOf 23 = .ok (.iadd, 1) := by decide +kernel
theorem dX10_checkOf_24 : decode cX10_checkOf 24 = .ok (.sipush 241, 3) := by decide +kernel
theorem dX10_checkOf_27 : decode cX10_checkOf 27 = .ok (.irem, 1) := by decide +kernel
theorem dX10_checkOf_28 : decode cX10_checkOf 28 = .ok (.istore_n 2, 1) := by decide +kernel
theorem dX10_checkOf_29 : decode cX10_checkOf 29 = .ok (.iinc 3 1, 3) := by decide +kernel
theorem dX10_checkOf_32 : decode cX10_checkOf 32 = .ok (.goto (-27), 3) := by decide +kernel
theorem dX10_checkOf_35 : decode cX10_checkOf 35 = .ok (.iload_n 2, 1) := by decide +kernel
theorem dX10_checkOf_36 : decode cX10_checkOf 36 = .ok (.ireturn, 1) := by decide +kernel
theorem dX10_octet_0 : decode cX10_octet 0 = .ok (.iload_n 1, 1) := by decide +kernel
theorem dX10_octet_1 : decode cX10_octet 1 = .ok (.ifCond .lt 20, 3) := by decide +kernel
theorem dX10_octet_4 : decode cX10_octet 4 = .ok (.iload_n 1, 1) := by decide +kernel
theorem dX10_octet_5 : decode cX10_octet 5 = .ok (.aload_n 0, 1) := by decide +kernel
theorem dX10_octet_6 : decode cX10_octet 6 = .ok (.getfield 359, 3) := by decide +kernel
theorem dX10_octet_9 : decode cX10_octet 9 = .ok (.if_icmp .ge 12, 3) := by decide +kernel
theorem dX10_octet_12 : decode cX10_octet 12 = .ok (.iload_n 1, 1) := by decide +kernel
theorem dX10_octet_13 : decode cX10_octet 13 = .ok (.aload_n 0, 1) := by decide +kernel
theorem dX10_octet_14 : decode cX10_octet 14 = .ok (.getfield 76, 3) := by decide +kernel
theorem dX10_octet_17 : decode cX10_octet 17 = .ok (.arraylength, 1) := by decide +kernel
theorem dX10_octet_18 : decode cX10_octet 18 = .ok (.if_icmp .lt 7, 3) := by decide +kernel
theorem dX10_octet_21 : decode cX10_octet 21 = .ok (.iconst (-1), 1) := by decide +kernel
theorem dX10_octet_22 : decode cX10_octet 22 = .ok (.goto 9, 3) := by decide +kernel
theorem dX10_octet_25 : decode cX10_octet 25 = .ok (.aload_n 0, 1) := by decide +kernel
theorem dX10_octet_26 : decode cX10_octet 26 = .ok (.getfield 76, 3) := by decide +kernel
theorem dX10_octet_29 : decode cX10_octet 29 = .ok (.iload_n 1, 1) := by decide +kernel
theorem dX10_octet_30 : decode cX10_octet 30 = .ok (.iaload, 1) := by decide +kernel
theorem dX10_octet_31 : decode cX10_octet 31 = .ok (.ireturn, 1) := by decide +kernel
theorem dX10_on_0 : decode cX10_on 0 = .ok (.aload_n 0, 1) := by decide +kernel
theorem dX10_on_1 : decode cX10_on 1 = .ok (.invokevirtual 94, 3) := by decide +kernel
theorem dX10_on_4 : decode cX10_on 4 = .ok (.istore_n 1, 1) := by decide +kernel
theorem dX10_on_5 : decode cX10_on 5 = .ok (.iconst 2, 1) := by decide +kernel
theorem dX10_on_6 : decode cX10_on 6 = .ok (.aload_n 0, 1) := by decide +kernel
theorem dX10_on_7 : decode cX10_on 7 = .ok (.getfield 16, 3) := by decide +kernel
theorem dX10_on_10 : decode cX10_on 10 = .ok (.getfield 128, 3) := by decide +kernel
theorem dX10_on_13 : decode cX10_on 13 = .ok (.imul, 1) := by decide +kernel
theorem dX10_on_14 : decode cX10_on 14 = .ok (.iconst 5, 1) := by decide +kernel
theorem dX10_on_15 : decode cX10_on 15 = .ok (.aload_n 0, 1) := by decide +kernel
theorem dX10_on_16 : decode cX10_on 16 = .ok (.getfield 16, 3) := by decide +kernel
theorem dX10_on_19 : decode cX10_on 19 = .ok (.getfield 125, 3) := by decide +kernel
theorem dX10_on_22 : decode cX10_on 22 = .ok (.imul, 1) := by decide +kernel
theorem dX10_on_23 : decode cX10_on 23 = .ok (.aload_n 0, 1) := by decide +kernel
theorem dX10_on_24 : decode cX10_on 24 = .ok (.getfield 16, 3) := by decide +kernel
theorem dX10_on_27 : decode cX10_on 27 = .ok (.getfield 122, 3) := by decide +kernel
theorem dX10_on_30 : decode cX10_on 30 = .ok (.imul, 1) := by decide +kernel
theorem dX10_on_31 : decode cX10_on 31 = .ok (.iadd, 1) := by decide +kernel
theorem dX10_on_32 : decode cX10_on 32 = .ok (.iconst 1, 1) := by decide +kernel
theorem dX10_on_33 : decode cX10_on 33 = .ok (.iadd, 1) := by decide +kernel
theorem dX10_on_34 : decode cX10_on 34 = .ok (.istore_n 2, 1) := by decide +kernel
theorem dX10_on_35 : decode cX10_on 35 = .ok (.aload_n 0, 1) := by decide +kernel
theorem dX10_on_36 : decode cX10_on 36 = .ok (.getfield 16, 3) := by decide +kernel
theorem dX10_on_39 : decode cX10_on 39 = .ok (.getfield 116, 3) := by decide +kernel
theorem dX10_on_42 : decode cX10_on 42 = .ok (.ifCond .le 56, 3) := by decide +kernel
theorem dX10_on_45 : decode cX10_on 45 = .ok (.iload_n 1, 1) := by decide +kernel
theorem dX10_on_46 : decode cX10_on 46 = .ok (.iload_n 2, 1) := by decide +kernel
theorem dX10_on_47 : decode cX10_on 47 = .ok (.if_icmp .ne 51, 3) := by decide +kernel
theorem dX10_on_50 : decode cX10_on 50 = .ok (.iload_n 1, 1) := by decide +kernel
theorem dX10_on_51 : decode cX10_on 51 = .ok (.aload_n 0, 1) := by decide +kernel
theorem dX10_on_52 : decode cX10_on 52 = .ok (.getfield 9, 3) := by decide +kernel
theorem dX10_on_55 : decode cX10_on 55 = .ok (.arraylength, 1) := by decide +kernel
theorem dX10_on_56 : decode cX10_on 56 = .ok (.if_icmp .gt 42, 3) := by decide +kernel
theorem dX10_on_59 : decode cX10_on 59 = .ok (.aload_n 0, 1) := by decide +kernel
theorem dX10_on_60 : decode cX10_on 60 = .ok (.getfield 9, 3) := by decide +kernel
theorem dX10_on_63 : decode cX10_on 63 = .ok (.iload_n 1, 1) := by decide +kernel
theorem dX10_on_64 : decode cX10_on 64 = .ok (.iconst 1, 1) := by decide +kernel
theorem dX10_on_65 : decode cX10_on 65 = .ok (.isub, 1) := by decide +kernel
theorem dX10_on_66 : decode cX10_on 66 = .ok (.invokestatic 368, 3) := by decide +kernel
theorem dX10_on_69 : decode cX10_on 69 = .ok (.aload_n 0, 1) := by decide +kernel
theorem dX10_on_70 : decode cX10_on 70 = .ok (.getfield 9, 3) := by decide +kernel
theorem dX10_on_73 : decode cX10_on 73 = .ok (.iload_n 1, 1) := by decide +kernel
theorem dX10_on_74 : decode cX10_on 74 = .ok (.iconst 1, 1) := by decide +kernel
theorem dX10_on_75 : decode cX10_on 75 = .ok (.isub, 1) := by decide +kernel
theorem dX10_on_76 : decode cX10_on 76 = .ok (.iaload, 1) := by decide +kernel
theorem dX10_on_77 : decode cX10_on 77 = .ok (.if_icmp .ne 21, 3) := by decide +kernel
theorem dX10_on_80 : decode cX10_on 80 = .ok (.aload_n 0, 1) := by decide +kernel
theorem dX10_on_81 : decode cX10_on 81 = .ok (.invokevirtual 372, 3) := by decide +kernel
theorem dX10_on_84 : decode cX10_on 84 = .ok (.ifCond .eq 14, 3) := by decide +kernel
theorem dX10_on_87 : decode cX10_on 87 = .ok (.aload_n 0, 1) := by decide +kernel
theorem dX10_on_88 : decode cX10_on 88 = .ok (.invokevirtual 375, 3) := by decide +kernel
theorem dX10_on_91 : decode cX10_on 91 = .ok (.ifCond .eq 7, 3) := by decide +kernel
theorem dX10_on_94 : decode cX10_on 94 = .ok (.iconst 1, 1) := by decide +kernel
theorem dX10_on_95 : decode cX10_on 95 = .ok (.goto 4, 3) := by decide +kernel
theorem dX10_on_98 : decode cX10_on 98 = .ok (.iconst 0, 1) := by decide +kernel
theorem dX10_on_99 : decode cX10_on 99 = .ok (.istore_n 3, 1) := by decide +kernel
theorem dX10_on_100 : decode cX10_on 100 = .ok (.iload_n 3, 1) := by decide +kernel
theorem dX10_on_101 : decode cX10_on 101 = .ok (.ifCond .ne 15, 3) := by decide +kernel
theorem dX10_on_104 : decode cX10_on 104 = .ok (.aload_n 0, 1) := by decide +kernel
theorem dX10_on_105 : decode cX10_on 105 = .ok (.getfield 79, 3) := by decide +kernel
theorem dX10_on_108 : decode cX10_on 108 = .ok (.iconst 5, 1) := by decide +kernel
theorem dX10_on_109 : decode cX10_on 109 = .ok (.dup2, 1) := by decide +kernel
theorem dX10_on_110 : decode cX10_on 110 = .ok (.iaload, 1) := by decide +kernel
theorem dX10_on_111 : decode cX10_on 111 = .ok (.iconst 1, 1) := by decide +kernel
theorem dX10_on_112 : decode cX10_on 112 = .ok (.iadd, 1) := by decide +kernel
theorem dX10_on_113 : decode cX10_on 113 = .ok (.iastore, 1) := by decide +kernel
theorem dX10_on_114 : decode cX10_on 114 = .ok (.iconst 0, 1) := by decide +kernel
theorem dX10_on_115 : decode cX10_on 115 = .ok (.ireturn, 1) := by decide +kernel
theorem dX10_on_116 : decode cX10_on 116 = .ok (.aload_n 0, 1) := by decide +kernel
theorem dX10_on_117 : decode cX10_on 117 = .ok (.invokevirtual 378, 3) := by decide +kernel
theorem dX10_on_120 : decode cX10_on 120 = .ok (.iconst 1, 1) := by decide +kernel
theorem dX10_on_121 : decode cX10_on 121 = .ok (.ireturn, 1) := by decide +kernel
theorem dX10_tapedTwo_0 : decode cX10_tapedTwo 0 = .ok (.iload_n 1, 1) := by decide +kernel
theorem dX10_tapedTwo_1 : decode cX10_tapedTwo 1 = .ok (.ifCond .lt 14, 3) := by decide +kernel
theorem dX10_tapedTwo_4 : decode cX10_tapedTwo 4 = .ok (.iload_n 1, 1) := by decide +kernel
theorem dX10_tapedTwo_5 : decode cX10_tapedTwo 5 = .ok (.iconst 1, 1) := by decide +kernel
theorem dX10_tapedTwo_6 : decode cX10_tapedTwo 6 = .ok (.iadd, 1) := by decide +kernel
theorem dX10_tapedTwo_7 : decode cX10_tapedTwo 7 = .ok (.aload_n 0, 1) := by decide +kernel
theorem dX10_tapedTwo_8 : decode cX10_tapedTwo 8 = .ok (.getfield 9, 3) := by decide +kernel
theorem dX10_tapedTwo_11 : decode cX10_tapedTwo 11 = .ok (.arraylength, 1) := by decide +kernel
theorem dX10_tapedTwo_12 : decode cX10_tapedTwo 12 = .ok (.if_icmp .lt 7, 3) := by decide +kernel
theorem dX10_tapedTwo_15 : decode cX10_tapedTwo 15 = .ok (.iconst 0, 1) := by decide +kernel
theorem dX10_tapedTwo_16 : decode cX10_tapedTwo 16 = .ok (.goto 22, 3) := by decide +kernel
theorem dX10_tapedTwo_19 : decode cX10_tapedTwo 19 = .ok (.aload_n 0, 1) := by decide +kernel
theorem dX10_tapedTwo_20 : decode cX10_tapedTwo 20 = .ok (.getfield 9, 3) := by decide +kernel
theorem dX10_tapedTwo_23 : decode cX10_tapedTwo 23 = .ok (.iload_n 1, 1) := by decide +kernel
theorem dX10_tapedTwo_24 : decode cX10_tapedTwo 24 = .ok (.iaload, 1) := by decide +kernel
theorem dX10_tapedTwo_25 : decode cX10_tapedTwo 25 = .ok (.sipush 256, 3) := by decide +kernel
theorem dX10_tapedTwo_28 : decode cX10_tapedTwo 28 = .ok (.imul, 1) := by decide +kernel
theorem dX10_tapedTwo_29 : decode cX10_tapedTwo 29 = .ok (.aload_n 0, 1) := by decide +kernel
theorem dX10_tapedTwo_30 : decode cX10_tapedTwo 30 = .ok (.getfield 9, 3) := by decide +kernel
theorem dX10_tapedTwo_33 : decode cX10_tapedTwo 33 = .ok (.iload_n 1, 1) := by decide +kernel
theorem dX10_tapedTwo_34 : decode cX10_tapedTwo 34 = .ok (.iconst 1, 1) := by decide +kernel
theorem dX10_tapedTwo_35 : decode cX10_tapedTwo 35 = .ok (.iadd, 1) := by decide +kernel
theorem dX10_tapedTwo_36 : decode cX10_tapedTwo 36 = .ok (.iaload, 1) := by decide +kernel
theorem dX10_tapedTwo_37 : decode cX10_tapedTwo 37 = .ok (.iadd, 1) := by decide +kernel
theorem dX10_tapedTwo_38 : decode cX10_tapedTwo 38 = .ok (.ireturn, 1) := by decide +kernel
theorem dX10_earPlace_0 : decode cX10_earPlace 0 = .ok (.iconst 2, 1) := by decide +kernel
theorem dX10_earPlace_1 : decode cX10_earPlace 1 = .ok (.aload_n 0, 1) := by decide +kernel
theorem dX10_earPlace_2 : decode cX10_earPlace 2 = .ok (.getfield 16, 3) := by decide +kernel
theorem dX10_earPlace_5 : decode cX10_earPlace 5 = .ok (.getfield 128, 3) := by decide +kernel
theorem dX10_earPlace_8 : decode cX10_earPlace 8 = .ok (.imul, 1) := by decide +kernel
theorem dX10_earPlace_9 : decode cX10_earPlace 9 = .ok (.iconst 5, 1) := by decide +kernel
theorem dX10_earPlace_10 : decode cX10_earPlace 10 = .ok (.iload_n 1, 1) := by decide +kernel
theorem dX10_earPlace_11 : decode cX10_earPlace 11 = .ok (.aload_n 0, 1) := by decide +kernel
theorem dX10_earPlace_12 : decode cX10_earPlace 12 = .ok (.getfield 16, 3) := by decide +kernel
theorem dX10_earPlace_15 : decode cX10_earPlace 15 = .ok (.getfield 122, 3) := by decide +kernel
theorem dX10_earPlace_18 : decode cX10_earPlace 18 = .ok (.imul, 1) := by decide +kernel
theorem dX10_earPlace_19 : decode cX10_earPlace 19 = .ok (.iload_n 2, 1) := by decide +kernel
theorem dX10_earPlace_20 : decode cX10_earPlace 20 = .ok (.iadd, 1) := by decide +kernel
theorem dX10_earPlace_21 : decode cX10_earPlace 21 = .ok (.imul, 1) := by decide +kernel
theorem dX10_earPlace_22 : decode cX10_earPlace 22 = .ok (.iadd, 1) := by decide +kernel
theorem dX10_earPlace_23 : decode cX10_earPlace 23 = .ok (.ireturn, 1) := by decide +kernel
theorem dX10_personsFit_0 : decode cX10_personsFit 0 = .ok (.iconst 0, 1) := by decide +kernel
theorem dX10_personsFit_1 : decode cX10_personsFit 1 = .ok (.istore_n 1, 1) := by decide +kernel
theorem dX10_personsFit_2 : decode cX10_personsFit 2 = .ok (.iload_n 1, 1) := by decide +kernel
theorem dX10_personsFit_3 : decode cX10_personsFit 3 = .ok (.aload_n 0, 1) := by decide +kernel
theorem dX10_personsFit_4 : decode cX10_personsFit 4 = .ok (.getfield 16, 3) := by decide +kernel
theorem dX10_personsFit_7 : decode cX10_personsFit 7 = .ok (.getfield 128, 3) := by decide +kernel
theorem dX10_personsFit_10 : decode cX10_personsFit 10 = .ok (.if_icmp .ge 24, 3) := by decide +kernel
theorem dX10_personsFit_13 : decode cX10_personsFit 13 = .ok (.aload_n 0, 1) := by decide +kernel
theorem dX10_personsFit_14 : decode cX10_personsFit 14 = .ok (.iconst 2, 1) := by decide +kernel
theorem dX10_personsFit_15 : decode cX10_personsFit 15 = .ok (.iload_n 1, 1) := by decide +kernel
theorem dX10_personsFit_16 : decode cX10_personsFit 16 = .ok (.imul, 1) := by decide +kernel
theorem dX10_personsFit_17 : decode cX10_personsFit 17 = .ok (.invokevirtual 381, 3) := by decide +kernel
theorem dX10_personsFit_20 : decode cX10_personsFit 20 = .ok (.sipush 1000, 3) := by decide +kernel
theorem dX10_personsFit_23 : decode cX10_personsFit 23 = .ok (.if_icmp .le 5, 3) := by decide +kernel
theorem dX10_personsFit_26 : decode cX10_personsFit 26 = .ok (.iconst 0, 1) := by decide +kernel
theorem dX10_personsFit_27 : decode cX10_personsFit 27 = .ok (.ireturn, 1) := by decide +kernel
theorem dX10_personsFit_28 : decode cX10_personsFit 28 = .ok (.iinc 1 1, 3) := by decide +kernel
theorem dX10_personsFit_31 : decode cX10_personsFit 31 = .ok (.goto (-29), 3) := by decide +kernel
theorem dX10_personsFit_34 : decode cX10_personsFit 34 = .ok (.iconst 1, 1) := by decide +kernel
theorem dX10_personsFit_35 : decode cX10_personsFit 35 = .ok (.ireturn, 1) := by decide +kernel
theorem dX10_earsFit_0 : decode cX10_earsFit 0 = .ok (.iconst 0, 1) := by decide +kernel
theorem dX10_earsFit_1 : decode cX10_earsFit 1 = .ok (.istore_n 1, 1) := by decide +kernel
theorem dX10_earsFit_2 : decode cX10_earsFit 2 = .ok (.iload_n 1, 1) := by decide +kernel
theorem dX10_earsFit_3 : decode cX10_earsFit 3 = .ok (.aload_n 0, 1) := by decide +kernel
theorem dX10_earsFit_4 : decode cX10_earsFit 4 = .ok (.getfield 16, 3) := by decide +kernel
theorem dX10_earsFit_7 : decode cX10_earsFit 7 = .ok (.getfield 125, 3) := by decide +kernel
theorem dX10_earsFit_10 : decode cX10_earsFit 10 = .ok (.if_icmp .ge 55, 3) := by decide +kernel
theorem dX10_earsFit_13 : decode cX10_earsFit 13 = .ok (.aload_n 0, 1) := by decide +kernel
theorem dX10_earsFit_14 : decode cX10_earsFit 14 = .ok (.iload_n 1, 1) := by decide +kernel
theorem dX10_earsFit_15 : decode cX10_earsFit 15 = .ok (.invokevirtual 151, 3) := by decide +kernel
theorem dX10_earsFit_18 : decode cX10_earsFit 18 = .ok (.astore_n 2, 1) := by decide +kernel
theorem dX10_earsFit_19 : decode cX10_earsFit 19 = .ok (.iconst 0, 1) := by decide +kernel
theorem dX10_earsFit_20 : decode cX10_earsFit 20 = .ok (.istore_n 3, 1) := by decide +kernel
theorem dX10_earsFit_21 : decode cX10_earsFit 21 = .ok (.iload_n 3, 1) := by decide +kernel
theorem dX10_earsFit_22 : decode cX10_earsFit 22 = .ok (.aload_n 0, 1) := by decide +kernel
theorem dX10_earsFit_23 : decode cX10_earsFit 23 = .ok (.getfield 16, 3) := by decide +kernel
theorem dX10_earsFit_26 : decode cX10_earsFit 26 = .ok (.getfield 122, 3) := by decide +kernel
theorem dX10_earsFit_29 : decode cX10_earsFit 29 = .ok (.if_icmp .ge 30, 3) := by decide +kernel
theorem dX10_earsFit_32 : decode cX10_earsFit 32 = .ok (.aload_n 2, 1) := by decide +kernel
theorem dX10_earsFit_33 : decode cX10_earsFit 33 = .ok (.ifnull 26, 3) := by decide +kernel
theorem dX10_earsFit_36 : decode cX10_earsFit 36 = .ok (.aload_n 0, 1) := by decide +kernel
theorem dX10_earsFit_37 : decode cX10_earsFit 37 = .ok (.aload_n 2, 1) := by decide +kernel
theorem dX10_earsFit_38 : decode cX10_earsFit 38 = .ok (.iload_n 3, 1) := by decide +kernel
theorem dX10_earsFit_39 : decode cX10_earsFit 39 = .ok (.aload_n 0, 1) := by decide +kernel
theorem dX10_earsFit_40 : decode cX10_earsFit 40 = .ok (.iload_n 1, 1) := by decide +kernel
theorem dX10_earsFit_41 : decode cX10_earsFit 41 = .ok (.iload_n 3, 1) := by decide +kernel
theorem dX10_earsFit_42 : decode cX10_earsFit 42 = .ok (.invokevirtual 384, 3) := by decide +kernel
theorem dX10_earsFit_45 : decode cX10_earsFit 45 = .ok (.invokevirtual 387, 3) := by decide +kernel
theorem dX10_earsFit_48 : decode cX10_earsFit 48 = .ok (.ifCond .ne 5, 3) := by decide +kernel
theorem dX10_earsFit_51 : decode cX10_earsFit 51 = .ok (.iconst 0, 1) := by decide +kernel
theorem dX10_earsFit_52 : decode cX10_earsFit 52 = .ok (.ireturn, 1) := by decide +kernel
theorem dX10_earsFit_53 : decode cX10_earsFit 53 = .ok (.iinc 3 1, 3) := by decide +kernel
theorem dX10_earsFit_56 : decode cX10_earsFit 56 = .ok (.goto (-35), 3) := by decide +kernel
theorem dX10_earsFit_59 : decode cX10_earsFit 59 = .ok (.iinc 1 1, 3) := by decide +kernel
theorem dX10_earsFit_62 : decode cX10_earsFit 62 = .ok (.goto (-60), 3) := by decide +kernel
theorem dX10_earsFit_65 : decode cX10_earsFit 65 = .ok (.iconst 1, 1) := by decide +kernel
theorem dX10_earsFit_66 : decode cX10_earsFit 66 = .ok (.ireturn, 1) := by decide +kernel
theorem dX10_earFits_0 : decode cX10_earFits 0 = .ok (.aload_n 0, 1) := by decide +kernel
theorem dX10_earFits_1 : decode cX10_earFits 1 = .ok (.iload_n 3, 1) := by decide +kernel
theorem dX10_earFits_2 : decode cX10_earFits 2 = .ok (.invokevirtual 381, 3) := by decide +kernel
theorem dX10_earFits_5 : decode cX10_earFits 5 = .ok (.istore 4, 2) := by decide +kernel
theorem dX10_earFits_7 : decode cX10_earFits 7 = .ok (.aload_n 0, 1) := by decide +kernel
theorem dX10_earFits_8 : decode cX10_earFits 8 = .ok (.iload_n 3, 1) := by decide +kernel
theorem dX10_earFits_9 : decode cX10_earFits 9 = .ok (.iconst 2, 1) := by decide +kernel
theorem dX10_earFits_10 : decode cX10_earFits 10 = .ok (.iadd, 1) := by decide +kernel
theorem dX10_earFits_11 : decode cX10_earFits 11 = .ok (.invokevirtual 381, 3) := by decide +kernel
theorem dX10_earFits_14 : decode cX10_earFits 14 = .ok (.istore 5, 2) := by decide +kernel
theorem dX10_earFits_16 : decode cX10_earFits 16 = .ok (.aload_n 1, 1) := by decide +kernel
theorem dX10_earFits_17 : decode cX10_earFits 17 = .ok (.iload_n 2, 1) := by decide +kernel
theorem dX10_earFits_18 : decode cX10_earFits 18 = .ok (.invokevirtual 232, 3) := by decide +kernel
theorem dX10_earFits_21 : decode cX10_earFits 21 = .ok (.ifCond .ne 29, 3) := by decide +kernel
theorem dX10_earFits_24 : decode cX10_earFits 24 = .ok (.iload 4, 2) := by decide +kernel
theorem dX10_earFits_26 : decode cX10_earFits 26 = .ok (.ifCond .ne 22, 3) := by decide +kernel
theorem dX10_earFits_29 : decode cX10_earFits 29 = .ok (.iload 5, 2) := by decide +kernel
theorem dX10_earFits_31 : decode cX10_earFits 31 = .ok (.ifCond .ne 17, 3) := by decide +kernel
theorem dX10_earFits_34 : decode cX10_earFits 34 = .ok (.aload_n 0, 1) := by decide +kernel
theorem dX10_earFits_35 : decode cX10_earFits 35 = .ok (.iload_n 3, 1) := by decide +kernel
theorem dX10_earFits_36 : decode cX10_earFits 36 = .ok (.iconst 3, 1) := by decide +kernel
theorem dX10_earFits_37 : decode cX10_earFits 37 = .ok (.iadd, 1) := by decide +kernel
theorem dX10_earFits_38 : decode cX10_earFits 38 = .ok (.invokevirtual 381, 3) := by decide +kernel
theorem dX10_earFits_41 : decode cX10_earFits 41 = .ok (.ifCond .ne 7, 3) := by decide +kernel
theorem dX10_earFits_44 : decode cX10_earFits 44 = .ok (.iconst 1, 1) := by decide +kernel
theorem dX10_earFits_45 : decode cX10_earFits 45 = .ok (.goto 4, 3) := by decide +kernel
theorem dX10_earFits_48 : decode cX10_earFits 48 = .ok (.iconst 0, 1) := by decide +kernel
theorem dX10_earFits_49 : decode cX10_earFits 49 = .ok (.ireturn, 1) := by decide +kernel
theorem dX10_earFits_50 : decode cX10_earFits 50 = .ok (.iload 4, 2) := by decide +kernel
theorem dX10_earFits_52 : decode cX10_earFits 52 = .ok (.sipush 1000, 3) := by decide +kernel
theorem dX10_earFits_55 : decode cX10_earFits 55 = .ok (.if_icmp .gt 27, 3) := by decide +kernel
theorem dX10_earFits_58 : decode cX10_earFits 58 = .ok (.iload 5, 2) := by decide +kernel
theorem dX10_earFits_60 : decode cX10_earFits 60 = .ok (.aload_n 1, 1) := by decide +kernel
theorem dX10_earFits_61 : decode cX10_earFits 61 = .ok (.getfield 180, 3) := by decide +kernel
theorem dX10_earFits_64 : decode cX10_earFits 64 = .ok (.iconst 2, 1) := by decide +kernel
theorem dX10_earFits_65 : decode cX10_earFits 65 = .ok (.if_icmp .ne 9, 3) := by decide +kernel
theorem dX10_earFits_68 : decode cX10_earFits 68 = .ok (.sipush 1000, 3) := by decide +kernel
theorem dX10_earFits_71 : decode cX10_earFits 71 = .ok (.goto 4, 3) := by decide +kernel
theorem dX10_earFits_74 : decode cX10_earFits 74 = .ok (.iconst 0, 1) := by decide +kernel
theorem dX10_earFits_75 : decode cX10_earFits 75 = .ok (.if_icmp .gt 7, 3) := by decide +kernel
theorem dX10_earFits_78 : decode cX10_earFits 78 = .ok (.iconst 1, 1) := by decide +kernel
theorem dX10_earFits_79 : decode cX10_earFits 79 = .ok (.goto 4, 3) := by decide +kernel
theorem dX10_earFits_82 : decode cX10_earFits 82 = .ok (.iconst 0, 1) := by decide +kernel
theorem dX10_earFits_83 : decode cX10_earFits 83 = .ok (.ireturn, 1) := by decide +kernel
theorem dX10_restore_0 : decode cX10_restore 0 = .ok (.iconst 0, 1) := by decide +kernel
theorem dX10_restore_1 : decode cX10_restore 1 = .ok (.istore_n 1, 1) := by decide +kernel
theorem dX10_restore_2 : decode cX10_restore 2 = .ok (.iload_n 1, 1) := by decide +kernel
theorem dX10_restore_3 : decode cX10_restore 3 = .ok (.aload_n 0, 1) := by decide +kernel
theorem dX10_restore_4 : decode cX10_restore 4 = .ok (.getfield 16, 3) := by decide +kernel
theorem dX10_restore_7 : decode cX10_restore 7 = .ok (.getfield 128, 3) := by decide +kernel
theorem dX10_restore_10 : decode cX10_restore 10 = .ok (.if_icmp .ge 30, 3) := by decide +kernel
theorem dX10_restore_13 : decode cX10_restore 13 = .ok (.aload_n 0, 1) := by decide +kernel
theorem dX10_restore_14 : decode cX10_restore 14 = .ok (.iload_n 1, 1) := by decide +kernel
theorem dX10_restore_15 : decode cX10_restore 15 = .ok (.invokevirtual 155, 3) := by decide +kernel
theorem dX10_restore_18 : decode cX10_restore 18 = .ok (.astore_n 2, 1) := by decide +kernel
theorem dX10_restore_19 : decode cX10_restore 19 = .ok (.aload_n 2, 1) := by decide +kernel
theorem dX10_restore_20 : decode cX10_restore 20 = .ok (.ifnull 14, 3) := by decide +kernel
theorem dX10_restore_23 : decode cX10_restore 23 = .ok (.aload_n 2, 1) := by decide +kernel
theorem dX10_restore_24 : decode cX10_restore 24 = .ok (.aload_n 0, 1) := by decide +kernel
theorem dX10_restore_25 : decode cX10_restore 25 = .ok (.iconst 2, 1) := by decide +kernel
theorem dX10_restore_26 : decode cX10_restore 26 = .ok (.iload_n 1, 1) := by decide +kernel
theorem dX10_restore_27 : decode cX10_restore 27 = .ok (.imul, 1) := by decide +kernel
theorem dX10_restore_28 : decode cX10_restore 28 = .ok (.invokevirtual 381, 3) := by decide +kernel
theorem dX10_restore_31 : decode cX10_restore 31 = .ok (.putfield 196, 3) := by decide +kernel
theorem dX10_restore_34 : decode cX10_restore 34 = .ok (.iinc 1 1, 3) := by decide +kernel
theorem dX10_restore_37 : decode cX10_restore 37 = .ok (.goto (-35), 3) := by decide +kernel
theorem dX10_restore_40 : decode cX10_restore 40 = .ok (.iconst 0, 1) := by decide +kernel
theorem dX10_restore_41 : decode cX10_restore 41 = .ok (.istore_n 1, 1) := by decide +kernel
theorem dX10_restore_42 : decode cX10_restore 42 = .ok (.iload_n 1, 1) := by decide +kernel
theorem dX10_restore_43 : decode cX10_restore 43 = .ok (.aload_n 0, 1) := by decide +kernel
theorem dX10_restore_44 : decode cX10_restore 44 = .ok (.getfield 16, 3) := by decide +kernel
theorem dX10_restore_47 : decode cX10_restore 47 = .ok (.getfield 125, 3) := by decide +kernel
theorem dX10_restore_50 : decode cX10_restore 50 = .ok (.if_icmp .ge 92, 3) := by decide +kernel
theorem dX10_restore_53 : decode cX10_restore 53 = .ok (.aload_n 0, 1) := by decide +kernel
theorem dX10_restore_54 : decode cX10_restore 54 = .ok (.iload_n 1, 1) := by decide +kernel
theorem dX10_restore_55 : decode cX10_restore 55 = .ok (.invokevirtual 151, 3) := by decide +kernel
theorem dX10_restore_58 : decode cX10_restore 58 = .ok (.astore_n 2, 1) := by decide +kernel
theorem dX10_restore_59 : decode cX10_restore 59 = .ok (.iconst 0, 1) := by decide +kernel
theorem dX10_restore_60 : decode cX10_restore 60 = .ok (.istore_n 3, 1) := by decide +kernel
theorem dX10_restore_61 : decode cX10_restore 61 = .ok (.iload_n 3, 1) := by decide +kernel
theorem dX10_restore_62 : decode cX10_restore 62 = .ok (.aload_n 0, 1) := by decide +kernel
theorem dX10_restore_63 : decode cX10_restore 63 = .ok (.getfield 16, 3) := by decide +kernel
theorem dX10_restore_66 : decode cX10_restore 66 = .ok (.getfield 122, 3) := by decide +kernel
theorem dX10_restore_69 : decode cX10_restore 69 = .ok (.if_icmp .ge 67, 3) := by decide +kernel
theorem dX10_restore_72 : decode cX10_restore 72 = .ok (.aload_n 2, 1) := by decide +kernel
theorem dX10_restore_73 : decode cX10_restore 73 = .ok (.ifnull 63, 3) := by decide +kernel
theorem dX10_restore_76 : decode cX10_restore 76 = .ok (.aload_n 0, 1) := by decide +kernel
theorem dX10_restore_77 : decode cX10_restore 77 = .ok (.iload_n 1, 1) := by decide +kernel
theorem dX10_restore_78 : decode cX10_restore 78 = .ok (.iload_n 3, 1) := by decide +kernel
theorem dX10_restore_79 : decode cX10_restore 79 = .ok (.invokevirtual 384, 3) := by decide +kernel
theorem dX10_restore_82 : decode cX10_restore 82 = .ok (.istore 4, 2) := by decide +kernel
theorem dX10_restore_84 : decode cX10_restore 84 = .ok (.aload_n 2, 1) := by decide +kernel
theorem dX10_restore_85 : decode cX10_restore 85 = .ok (.getfield 235, 3) := by decide +kernel
theorem dX10_restore_88 : decode cX10_restore 88 = .ok (.iload_n 3, 1) := by decide +kernel
theorem dX10_restore_89 : decode cX10_restore 89 = .ok (.aload_n 0, 1) := by decide +kernel
theorem dX10_restore_90 : decode cX10_restore 90 = .ok (.iload 4, 2) := by decide +kernel
theorem dX10_restore_92 : decode cX10_restore 92 = .ok (.invokevirtual 381, 3) := by decide +kernel
theorem dX10_restore_95 : decode cX10_restore 95 = .ok (.iastore, 1) := by decide +kernel
theorem dX10_restore_96 : decode cX10_restore 96 = .ok (.aload_n 2, 1) := by decide +kernel
theorem dX10_restore_97 : decode cX10_restore 97 = .ok (.getfield 237, 3) := by decide +kernel
theorem dX10_restore_100 : decode cX10_restore 100 = .ok (.iload_n 3, 1) := by decide +kernel
theorem dX10_restore_101 : decode cX10_restore 101 = .ok (.aload_n 0, 1) := by decide +kernel
theorem dX10_restore_102 : decode cX10_restore 102 = .ok (.iload 4, 2) := by decide +kernel
theorem dX10_restore_104 : decode cX10_restore 104 = .ok (.iconst 2, 1) := by decide +kernel
theorem dX10_restore_105 : decode cX10_restore 105 = .ok (.iadd, 1) := by decide +kernel
theorem dX10_restore_106 : decode cX10_restore 106 = .ok (.invokevirtual 381, 3) := by decide +kernel
theorem dX10_restore_109 : decode cX10_restore 109 = .ok (.iconst 1, 1) := by decide +kernel
theorem dX10_restore_110 : decode cX10_restore 110 = .ok (.isub, 1) := by decide +kernel
theorem dX10_restore_111 : decode cX10_restore 111 = .ok (.iastore, 1) := by decide +kernel
theorem dX10_restore_112 : decode cX10_restore 112 = .ok (.aload_n 2, 1) := by decide +kernel
theorem dX10_restore_113 : decode cX10_restore 113 = .ok (.getfield 240, 3) := by decide +kernel
theorem dX10_restore_116 : decode cX10_restore 116 = .ok (.iload_n 3, 1) := by decide +kernel
theorem dX10_restore_117 : decode cX10_restore 117 = .ok (.aload_n 0, 1) := by decide +kernel
theorem dX10_restore_118 : decode cX10_restore 118 = .ok (.iload 4, 2) := by decide +kernel
theorem dX10_restore_120 : decode cX10_restore 120 = .ok (.iconst 3, 1) := by decide +kernel
theorem dX10_restore_121 : decode cX10_restore 121 = .ok (.iadd, 1) := by decide +kernel
theorem dX10_restore_122 : decode cX10_restore 122 = .ok (.invokevirtual 381, 3) := by decide +kernel
theorem dX10_restore_125 : decode cX10_restore 125 = .ok (.sipush 255, 3) := by decide +kernel
theorem dX10_restore_128 : decode cX10_restore 128 = .ok (.iand, 1) := by decide +kernel
theorem dX10_restore_129 : decode cX10_restore 129 = .ok (.iastore, 1) := by decide +kernel
theorem dX10_restore_130 : decode cX10_restore 130 = .ok (.iinc 3 1, 3) := by decide +kernel
theorem dX10_restore_133 : decode cX10_restore 133 = .ok (.goto (-72), 3) := by decide +kernel
theorem dX10_restore_136 : decode cX10_restore 136 = .ok (.iinc 1 1, 3) := by decide +kernel
theorem dX10_restore_139 : decode cX10_restore 139 = .ok (.goto (-97), 3) := by decide +kernel
theorem dX10_restore_142 : decode cX10_restore 142 = .ok (.return_, 1) := by decide +kernel
theorem dX10_status_0 : decode cX10_status 0 = .ok (.iload_n 1, 1) := by decide +kernel
theorem dX10_status_1 : decode cX10_status 1 = .ok (.ifCond .lt 12, 3) := by decide +kernel
theorem dX10_status_4 : decode cX10_status 4 = .ok (.iload_n 1, 1) := by decide +kernel
theorem dX10_status_5 : decode cX10_status 5 = .ok (.aload_n 0, 1) := by decide +kernel
theorem dX10_status_6 : decode cX10_status 6 = .ok (.getfield 79, 3) := by decide +kernel
theorem dX10_status_9 : decode cX10_status 9 = .ok (.arraylength, 1) := by decide +kernel
theorem dX10_status_10 : decode cX10_status 10 = .ok (.if_icmp .lt 7, 3) := by decide +kernel
theorem dX10_status_13 : decode cX10_status 13 = .ok (.iconst (-1), 1) := by decide +kernel
theorem dX10_status_14 : decode cX10_status 14 = .ok (.goto 9, 3) := by decide +kernel
theorem dX10_status_17 : decode cX10_status 17 = .ok (.aload_n 0, 1) := by decide +kernel
theorem dX10_status_18 : decode cX10_status 18 = .ok (.getfield 79, 3) := by decide +kernel
theorem dX10_status_21 : decode cX10_status 21 = .ok (.iload_n 1, 1) := by decide +kernel
theorem dX10_status_22 : decode cX10_status 22 = .ok (.iaload, 1) := by decide +kernel
theorem dX10_status_23 : decode cX10_status 23 = .ok (.ireturn, 1) := by decide +kernel
theorem dX11_init_0 : decode cX11_init 0 = .ok (.aload_n 0, 1) := by decide +kernel
theorem dX11_init_1 : decode cX11_init 1 = .ok (.invokespecial 1, 3) := by decide +kernel
theorem dX11_init_4 : decode cX11_init 4 = .ok (.aload_n 0, 1) := by decide +kernel
theorem dX11_init_5 : decode cX11_init 5 = .ok (.sipush 1800, 3) := by decide +kernel
theorem dX11_init_8 : decode cX11_init 8 = .ok (.newarray .int, 2) := by decide +kernel
theorem dX11_init_10 : decode cX11_init 10 = .ok (.putfield 7, 3) := by decide +kernel
theorem dX11_init_13 : decode cX11_init 13 = .ok (.aload_n 0, 1) := by decide +kernel
theorem dX11_init_14 : decode cX11_init 14 = .ok (.iconst 0, 1) := by decide +kernel
theorem dX11_init_15 : decode cX11_init 15 = .ok (.putfield 13, 3) := by decide +kernel
theorem dX11_init_18 : decode cX11_init 18 = .ok (.aload_n 0, 1) := by decide +kernel
theorem dX11_init_19 : decode cX11_init 19 = .ok (.iconst 0, 1) := by decide +kernel
theorem dX11_init_20 : decode cX11_init 20 = .ok (.putfield 17, 3) := by decide +kernel
theorem dX11_init_23 : decode cX11_init 23 = .ok (.aload_n 0, 1) := by decide +kernel
theorem dX11_init_24 : decode cX11_init 24 = .ok (.iconst 0, 1) := by decide +kernel
theorem dX11_init_25 : decode cX11_init 25 = .ok (.putfield 20, 3) := by decide +kernel
theorem dX11_init_28 : decode cX11_init 28 = .ok (.aload_n 0, 1) := by decide +kernel
theorem dX11_init_29 : decode cX11_init 29 = .ok (.iconst 0, 1) := by decide +kernel
theorem dX11_init_30 : decode cX11_init 30 = .ok (.putfield 23, 3) := by decide +kernel
theorem dX11_init_33 : decode cX11_init 33 = .ok (.aload_n 0, 1) := by decide +kernel
theorem dX11_init_34 : decode cX11_init 34 = .ok (.iconst 0, 1) := by decide +kernel
theorem dX11_init_35 : decode cX11_init 35 = .ok (.putfield 26, 3) := by decide +kernel
theorem dX11_init_38 : decode cX11_init 38 = .ok (.aload_n 0, 1) := by decide +kernel
theorem dX11_init_39 : decode cX11_init 39 = .ok (.iconst 0, 1) := by decide +kernel
theorem dX11_init_40 : decode cX11_init 40 = .ok (.putfield 29, 3) := by decide +kernel
theorem dX11_init_43 : decode cX11_init 43 = .ok (.aload_n 0, 1) := by decide +kernel
theorem dX11_init_44 : decode cX11_init 44 = .ok (.lconst 0, 1) := by decide +kernel
theorem dX11_init_45 : decode cX11_init 45 = .ok (.putfield 32, 3) := by decide +kernel
theorem dX11_init_48 : decode cX11_init 48 = .ok (.aload_n 0, 1) := by decide +kernel
theorem dX11_init_49 : decode cX11_init 49 = .ok (.iconst 0, 1) := by decide +kernel
theorem dX11_init_50 : decode cX11_init 50 = .ok (.putfield 36, 3) := by decide +kernel
theorem dX11_init_53 : decode cX11_init 53 = .ok (.aload_n 0, 1) := by decide +kernel
theorem dX11_init_54 : decode cX11_init 54 = .ok (.iconst (-1), 1) := by decide +kernel
theorem dX11_init_55 : decode cX11_init 55 = .ok (.putfield 39, 3) := by decide +kernel
theorem dX11_init_58 : decode cX11_init 58 = .ok (.aload_n 0, 1) := by decide +kernel
theorem dX11_init_59 : decode cX11_init 59 = .ok (.iconst 0, 1) := by decide +kernel
theorem dX11_init_60 : decode cX11_init 60 = .ok (.putfield 42, 3) := by decide +kernel
theorem dX11_init_63 : decode cX11_init 63 = .ok (.aload_n 0, 1) := by decide +kernel
theorem dX11_init_64 : decode cX11_init 64 = .ok (.iconst (-1), 1) := by decide +kernel
theorem dX11_init_65 : decode cX11_init 65 = .ok (.putfield 45, 3) := by decide +kernel
theorem dX11_init_68 : decode cX11_init 68 = .ok (.aload_n 0, 1) := by decide +kernel
theorem dX11_init_69 : decode cX11_init 69 = .ok (.iconst 0, 1) := by decide +kernel
theorem dX11_init_70 : decode cX11_init 70 = .ok (.putfield 48, 3) := by decide +kernel
theorem dX11_init_73 : decode cX11_init 73 = .ok (.aload_n 0, 1) := by decide +kernel
theorem dX11_init_74 : decode cX11_init 74 = .ok (.iconst 2, 1) := by decide +kernel
theorem dX11_init_75 : decode cX11_init 75 = .ok (.newarray .int, 2) := by decide +kernel
theorem dX11_init_77 : decode cX11_init 77 = .ok (.putfield 51, 3) := by decide +kernel
theorem dX11_init_80 : decode cX11_init 80 = .ok (.aload_n 0, 1) := by decide +kernel
theorem dX11_init_81 : decode cX11_init 81 = .ok (.iconst 2, 1) := by decide +kernel
theorem dX11_init_82 : decode cX11_init 82 = .ok (.newarray .int, 2) := by decide +kernel
theorem dX11_init_84 : decode cX11_init 84 = .ok (.putfield 54, 3) := by decide +kernel
theorem dX11_init_87 : decode cX11_init 87 = .ok (.aload_n 0, 1) := by decide +kernel
theorem dX11_init_88 : decode cX11_init 88 = .ok (.iconst 2, 1) := by decide +kernel
theorem dX11_init_89 : decode cX11_init 89 = .ok (.newarray .int, 2) := by decide +kernel
theorem dX11_init_91 : decode cX11_init 91 = .ok (.putfield 57, 3) := by decide +kernel
theorem dX11_init_94 : decode cX11_init 94 = .ok (.aload_n 0, 1) := by decide +kernel
theorem dX11_init_95 : decode cX11_init 95 = .ok (.bipush 6, 2) := by decide +kernel
theorem dX11_init_97 : decode cX11_init 97 = .ok (.newarray .long, 2) := by decide +kernel
theorem dX11_init_99 : decode cX11_init 99 = .ok (.putfield 60, 3) := by decide +kernel
theorem dX11_init_102 : decode cX11_init 102 = .ok (.aload_n 0, 1) := by decide +kernel
theorem dX11_init_103 : decode cX11_init 103 = .ok (.bipush 30, 2) := by decide +kernel
theorem dX11_init_105 : decode cX11_init 105 = .ok (.newarray .int, 2) := by decide +kernel
theorem dX11_init_107 : decode cX11_init 107 = .ok (.putfield 64, 3) := by decide +kernel
theorem dX11_init_110 : decode cX11_init 110 = .ok (.aload_n 0, 1) := by decide +kernel
theorem dX11_init_111 : decode cX11_init 111 = .ok (.bipush 6, 2) := by decide +kernel
theorem dX11_init_113 : decode cX11_init 113 = .ok (.newarray .int, 2) := by decide +kernel
theorem dX11_init_115 : decode cX11_init 115 = .ok (.putfield 67, 3) := by decide +kernel
theorem dX11_init_118 : decode cX11_init 118 = .ok (.aload_n 0, 1) := by decide +kernel
theorem dX11_init_119 : decode cX11_init 119 = .ok (.bipush 6, 2) := by decide +kernel
theorem dX11_init_121 : decode cX11_init 121 = .ok (.newarray .int, 2) := by decide +kernel
theorem dX11_init_123 : decode cX11_init 123 = .ok (.putfield 70, 3) := by decide +kernel
theorem dX11_init_126 : decode cX11_init 126 = .ok (.aload_n 0, 1) := by decide +kernel
theorem dX11_init_127 : decode cX11_init 127 = .ok (.bipush 36, 2) := by decide +kernel
theorem dX11_init_129 : decode cX11_init 129 = .ok (.newarray .int, 2) := by decide +kernel
theorem dX11_init_131 : decode cX11_init 131 = .ok (.putfield 73, 3) := by decide +kernel
theorem dX11_init_134 : decode cX11_init 134 = .ok (.aload_n 0, 1) := by decide +kernel
theorem dX11_init_135 : decode cX11_init 135 = .ok (.bipush 36, 2) := by decide +kernel
theorem dX11_init_137 : decode cX11_init 137 = .ok (.newarray .int, 2) := by decide +kernel
theorem dX11_init_139 : decode cX11_init 139 = .ok (.putfield 76, 3) := by decide +kernel
theorem dX11_init_142 : decode cX11_init 142 = .ok (.aload_n 0, 1) := by decide +kernel
theorem dX11_init_143 : decode cX11_init 143 = .ok (.bipush 36, 2) := by decide +kernel
theorem dX11_init_145 : decode cX11_init 145 = .ok (.newarray .int, 2) := by decide +kernel
theorem dX11_init_147 : decode cX11_init 147 = .ok (.putfield 79, 3) := by decide +kernel
theorem dX11_init_150 : decode cX11_init 150 = .ok (.aload_n 0, 1) := by decide +kernel
theorem dX11_init_151 : decode cX11_init 151 = .ok (.iconst 2, 1) := by decide +kernel
theorem dX11_init_152 : decode cX11_init 152 = .ok (.newarray .int, 2) := by decide +kernel
theorem dX11_init_154 : decode cX11_init 154 = .ok (.putfield 82, 3) := by decide +kernel
theorem dX11_init_157 : decode cX11_init 157 = .ok (.aload_n 0, 1) := by decide +kernel
theorem dX11_init_158 : decode cX11_init 158 = .ok (.bipush 8, 2) := by decide +kernel
theorem dX11_init_160 : decode cX11_init 160 = .ok (.newarray .long, 2) := by decide +kernel
theorem dX11_init_162 : decode cX11_init 162 = .ok (.putfield 85, 3) := by decide +kernel
theorem dX11_init_165 : decode cX11_init 165 = .ok (.aload_n 0, 1) := by decide +kernel
theorem dX11_init_166 : decode cX11_init 166 = .ok (.bipush 8, 2) := by decide +kernel
theorem dX11_init_168 : decode cX11_init 168 = .ok (.newarray .int, 2) := by decide +kernel
theorem dX11_init_170 : decode cX11_init 170 = .ok (.putfield 88, 3) := by decide +kernel
theorem dX11_init_173 : decode cX11_init 173 = .ok (.aload_n 0, 1) := by decide +kernel
theorem dX11_init_174 : decode cX11_init 174 = .ok (.bipush 8, 2) := by decide +kernel
theorem dX11_init_176 : decode cX11_init 176 = .ok (.newarray .int, 2) := by decide +kernel
theorem dX11_init_178 : decode cX11_init 178 = .ok (.putfield 91, 3) := by decide +kernel
theorem dX11_init_181 : decode cX11_init 181 = .ok (.aload_n 0, 1) := by decide +kernel
theorem dX11_init_182 : decode cX11_init 182 = .ok (.bipush 8, 2) := by decide +kernel
theorem dX11_init_184 : decode cX11_init 184 = .ok (.newarray .int, 2) := by decide +kernel
theorem dX11_init_186 : decode cX11_init 186 = .ok (.putfield 94, 3) := by decide +kernel
theorem dX11_init_189 : decode cX11_init 189 = .ok (.aload_n 0, 1) := by decide +kernel
theorem dX11_init_190 : decode cX11_init 190 = .ok (.iconst 2, 1) := by decide +kernel
theorem dX11_init_191 : decode cX11_init 191 = .ok (.newarray .int, 2) := by decide +kernel
theorem dX11_init_193 : decode cX11_init 193 = .ok (.putfield 97, 3) := by decide +kernel
theorem dX11_init_196 : decode cX11_init 196 = .ok (.aload_n 0, 1) := by decide +kernel
theorem dX11_init_197 : decode cX11_init 197 = .ok (.bipush 8, 2) := by decide +kernel
theorem dX11_init_199 : decode cX11_init 199 = .ok (.newarray .long, 2) := by decide +kernel
theorem dX11_init_201 : decode cX11_init 201 = .ok (.putfield 100, 3) := by decide +kernel
theorem dX11_init_204 : decode cX11_init 204 = .ok (.aload_n 0, 1) := by decide +kernel
theorem dX11_init_205 : decode cX11_init 205 = .ok (.bipush 8, 2) := by decide +kernel
theorem dX11_init_207 : decode cX11_init 207 = .ok (.newarray .int, 2) := by decide +kernel
theorem dX11_init_209 : decode cX11_init 209 = .ok (.putfield 103, 3) := by decide +kernel
theorem dX11_init_212 : decode cX11_init 212 = .ok (.aload_n 0, 1) := by decide +kernel
theorem dX11_init_213 : decode cX11_init 213 = .ok (.bipush 8, 2) := by decide +kernel
theorem dX11_init_215 : decode cX11_init 215 = .ok (.newarray .int, 2) := by decide +kernel
theorem dX11_init_217 : decode cX11_init 217 = .ok (.putfield 106, 3) := by decide +kernel
theorem dX11_init_220 : decode cX11_init 220 = .ok (.aload_n 0, 1) := by decide +kernel
theorem dX11_init_221 : decode cX11_init 221 = .ok (.bipush 8, 2) := by decide +kernel
theorem dX11_init_223 : decode cX11_init 223 = .ok (.newarray .int, 2) := by decide +kernel
theorem dX11_init_225 : decode cX11_init 225 = .ok (.putfield 109, 3) := by decide +kernel
theorem dX11_init_228 : decode cX11_init 228 = .ok (.aload_n 0, 1) := by decide +kernel
theorem dX11_init_229 : decode cX11_init 229 = .ok (.bipush 8, 2) := by decide +kernel
theorem dX11_init_231 : decode cX11_init 231 = .ok (.newarray .int, 2) := by decide +kernel
theorem dX11_init_233 : decode cX11_init 233 = .ok (.putfield 112, 3) := by decide +kernel
theorem dX11_init_236 : decode cX11_init 236 = .ok (.aload_n 0, 1) := by decide +kernel
theorem dX11_init_237 : decode cX11_init 237 = .ok (.iconst 2, 1) := by decide +kernel
theorem dX11_init_238 : decode cX11_init 238 = .ok (.newarray .int, 2) := by decide +kernel
theorem dX11_init_240 : decode cX11_init 240 = .ok (.putfield 115, 3) := by decide +kernel
theorem dX11_init_243 : decode cX11_init 243 = .ok (.aload_n 0, 1) := by decide +kernel
theorem dX11_init_244 : decode cX11_init 244 = .ok (.iconst 2, 1) := by decide +kernel
theorem dX11_init_245 : decode cX11_init 245 = .ok (.newarray .int, 2) := by decide +kernel
theorem dX11_init_247 : decode cX11_init 247 = .ok (.putfield 118, 3) := by decide +kernel
theorem dX11_init_250 : decode cX11_init 250 = .ok (.aload_n 0, 1) := by decide +kernel
theorem dX11_init_251 : decode cX11_init 251 = .ok (.sipush 3200, 3) := by decide +kernel
theorem dX11_init_254 : decode cX11_init 254 = .ok (.newarray .int, 2) := by decide +kernel
theorem dX11_init_256 : decode cX11_init 256 = .ok (.putfield 121, 3) := by decide +kernel
theorem dX11_init_259 : decode cX11_init 259 = .ok (.aload_n 0, 1) := by decide +kernel
theorem dX11_init_260 : decode cX11_init 260 = .ok (.sipush 3200, 3) := by decide +kernel
theorem dX11_init_263 : decode cX11_init 263 = .ok (.newarray .int, 2) := by decide +kernel
theorem dX11_init_265 : decode cX11_init 265 = .ok (.putfield 124, 3) := by decide +kernel
theorem dX11_init_268 : decode cX11_init 268 = .ok (.aload_n 0, 1) := by decide +kernel
theorem dX11_init_269 : decode cX11_init 269 = .ok (.iconst 0, 1) := by decide +kernel
theorem dX11_init_270 : decode cX11_init 270 = .ok (.putfield 127, 3) := by decide +kernel
theorem dX11_init_273 : decode cX11_init 273 = .ok (.aload_n 0, 1) := by decide +kernel
theorem dX11_init_274 : decode cX11_init 274 = .ok (.iconst 1, 1) := by decide +kernel
theorem dX11_init_275 : decode cX11_init 275 = .ok (.putfield 130, 3) := by decide +kernel
theorem dX11_init_278 : decode cX11_init 278 = .ok (.aload_n 0, 1) := by decide +kernel
theorem dX11_init_279 : decode cX11_init 279 = .ok (.bipush 20, 2) := by decide +kernel
theorem dX11_init_281 : decode cX11_init 281 = .ok (.newarray .int, 2) := by decide +kernel
theorem dX11_init_283 : decode cX11_init 283 = .ok (.putfield 133, 3) := by decide +kernel
theorem dX11_init_286 : decode cX11_init 286 = .ok (.aload_n 0, 1) := by decide +kernel
theorem dX11_init_287 : decode cX11_init 287 = .ok (.bipush 20, 2) := by decide +kernel
theorem dX11_init_289 : decode cX11_init 289 = .ok (.newarray .int, 2) := by decide +kernel
theorem dX11_init_291 : decode cX11_init 291 = .ok (.putfield 136, 3) := by decide +kernel
theorem dX11_init_294 : decode cX11_init 294 = .ok (.aload_n 0, 1) := by decide +kernel
theorem dX11_init_295 : decode cX11_init 295 = .ok (.bipush 20, 2) := by decide +kernel
theorem dX11_init_297 : decode cX11_init 297 = .ok (.newarray .boolean, 2) := by decide +kernel
theorem dX11_init_299 : decode cX11_init 299 = .ok (.putfield 139, 3) := by decide +kernel
theorem dX11_init_302 : decode cX11_init 302 = .ok (.aload_n 0, 1) := by decide +kernel
theorem dX11_init_303 : decode cX11_init 303 = .ok (.bipush 20, 2) := by decide +kernel
theorem dX11_init_305 : decode cX11_init 305 = .ok (.newarray .int, 2) := by decide +kernel
theorem dX11_init_307 : decode cX11_init 307 = .ok (.putfield 143, 3) := by decide +kernel
theorem dX11_init_310 : decode cX11_init 310 = .ok (.aload_n 0, 1) := by decide +kernel
theorem dX11_init_311 : decode cX11_init 311 = .ok (.bipush 20, 2) := by decide +kernel
theorem dX11_init_313 : decode cX11_init 313 = .ok (.newarray .int, 2) := by decide +kernel
theorem dX11_init_315 : decode cX11_init 315 = .ok (.putfield 146, 3) := by decide +kernel
theorem dX11_init_318 : decode cX11_init 318 = .ok (.aload_n 0, 1) := by decide +kernel
theorem dX11_init_319 : decode cX11_init 319 = .ok (.iconst 0, 1) := by decide +kernel
theorem dX11_init_320 : decode cX11_init 320 = .ok (.putfield 149, 3) := by decide +kernel
theorem dX11_init_323 : decode cX11_init 323 = .ok (.aload_n 0, 1) := by decide +kernel
theorem dX11_init_324 : decode cX11_init 324 = .ok (.iconst 0, 1) := by decide +kernel
theorem dX11_init_325 : decode cX11_init 325 = .ok (.putfield 152, 3) := by decide +kernel
theorem dX11_init_328 : decode cX11_init 328 = .ok (.aload_n 0, 1) := by decide +kernel
theorem dX11_init_329 : decode cX11_init 329 = .ok (.sipush 500, 3) := by decide +kernel
theorem dX11_init_332 : decode cX11_init 332 = .ok (.newarray .int, 2) := by decide +kernel
theorem dX11_init_334 : decode cX11_init 334 = .ok (.putfield 155, 3) := by decide +kernel
theorem dX11_init_337 : decode cX11_init 337 = .ok (.aload_n 0, 1) := by decide +kernel
theorem dX11_init_338 : decode cX11_init 338 = .ok (.iconst 0, 1) := by decide +kernel
theorem dX11_init_339 : decode cX11_init 339 = .ok (.putfield 158, 3) := by decide +kernel
theorem dX11_init_342 : decode cX11_init 342 = .ok (.aload_n 0, 1) := by decide +kernel
theorem dX11_init_343 : decode cX11_init 343 = .ok (.iconst 0, 1) := by decide +kernel
theorem dX11_init_344 : decode cX11_init 344 = .ok (.putfield 161, 3) := by decide +kernel
theorem dX11_init_347 : decode cX11_init 347 = .ok (.aload_n 0, 1) := by decide +kernel
theorem dX11_init_348 : decode cX11_init 348 = .ok (.bipush 6, 2) := by decide +kernel
theorem dX11_init_350 : decode cX11_init 350 = .ok (.newarray .int, 2) := by decide +kernel
theorem dX11_init_352 : decode cX11_init 352 = .ok (.putfield 165, 3) := by decide +kernel
theorem dX11_init_355 : decode cX11_init 355 = .ok (.aload_n 0, 1) := by decide +kernel
theorem dX11_init_356 : decode cX11_init 356 = .ok (.sipush 1650, 3) := by decide +kernel
theorem dX11_init_359 : decode cX11_init 359 = .ok (.newarray .long, 2) := by decide +kernel
theorem dX11_init_361 : decode cX11_init 361 = .ok (.putfield 168, 3) := by decide +kernel
theorem dX11_init_364 : decode cX11_init 364 = .ok (.aload_n 0, 1) := by decide +kernel
theorem dX11_init_365 : decode cX11_init 365 = .ok (.bipush 10, 2) := by decide +kernel
theorem dX11_init_367 : decode cX11_init 367 = .ok (.newarray .int, 2) := by decide +kernel
theorem dX11_init_369 : decode cX11_init 369 = .ok (.putfield 171, 3) := by decide +kernel
theorem dX11_init_372 : decode cX11_init 372 = .ok (.aload_n 0, 1) := by decide +kernel
theorem dX11_init_373 : decode cX11_init 373 = .ok (.sipush 15000, 3) := by decide +kernel
theorem dX11_init_376 : decode cX11_init 376 = .ok (.newarray .int, 2) := by decide +kernel
theorem dX11_init_378 : decode cX11_init 378 = .ok (.putfield 174, 3) := by decide +kernel
theorem dX11_init_381 : decode cX11_init 381 = .ok (.aload_n 0, 1) := by decide +kernel
theorem dX11_init_382 : decode cX11_init 382 = .ok (.sipush 3000, 3) := by decide +kernel
theorem dX11_init_385 : decode cX11_init 385 = .ok (.newarray .int, 2) := by decide +kernel
theorem dX11_init_387 : decode cX11_init 387 = .ok (.putfield 177, 3) := by decide +kernel
theorem dX11_init_390 : decode cX11_init 390 = .ok (.aload_n 0, 1) := by decide +kernel
theorem dX11_init_391 : decode cX11_init 391 = .ok (.sipush 3000, 3) := by decide +kernel
theorem dX11_init_394 : decode cX11_init 394 = .ok (.newarray .int, 2) := by decide +kernel
theorem dX11_init_396 : decode cX11_init 396 = .ok (.putfield 180, 3) := by decide +kernel
theorem dX11_init_399 : decode cX11_init 399 = .ok (.aload_n 0, 1) := by decide +kernel
theorem dX11_init_400 : decode cX11_init 400 = .ok (.iconst 4, 1) := by decide +kernel
theorem dX11_init_401 : decode cX11_init 401 = .ok (.newarray .int, 2) := by decide +kernel
theorem dX11_init_403 : decode cX11_init 403 = .ok (.putfield 183, 3) := by decide +kernel
theorem dX11_init_406 : decode cX11_init 406 = .ok (.aload_n 0, 1) := by decide +kernel
theorem dX11_init_407 : decode cX11_init 407 = .ok (.iconst 4, 1) := by decide +kernel
theorem dX11_init_408 : decode cX11_init 408 = .ok (.newarray .int, 2) := by decide +kernel
theorem dX11_init_410 : decode cX11_init 410 = .ok (.putfield 186, 3) := by decide +kernel
theorem dX11_init_413 : decode cX11_init 413 = .ok (.aload_n 0, 1) := by decide +kernel
theorem dX11_init_414 : decode cX11_init 414 = .ok (.iconst 4, 1) := by decide +kernel
theorem dX11_init_415 : decode cX11_init 415 = .ok (.newarray .int, 2) := by decide +kernel
theorem dX11_init_417 : decode cX11_init 417 = .ok (.putfield 189, 3) := by decide +kernel
theorem dX11_init_420 : decode cX11_init 420 = .ok (.aload_n 0, 1) := by decide +kernel
theorem dX11_init_421 : decode cX11_init 421 = .ok (.bipush 12, 2) := by decide +kernel
theorem dX11_init_423 : decode cX11_init 423 = .ok (.newarray .int, 2) := by decide +kernel
theorem dX11_init_425 : decode cX11_init 425 = .ok (.putfield 192, 3) := by decide +kernel
theorem dX11_init_428 : decode cX11_init 428 = .ok (.aload_n 0, 1) := by decide +kernel
theorem dX11_init_429 : decode cX11_init 429 = .ok (.bipush 12, 2) := by decide +kernel
theorem dX11_init_431 : decode cX11_init 431 = .ok (.newarray .int, 2) := by decide +kernel
theorem dX11_init_433 : decode cX11_init 433 = .ok (.putfield 195, 3) := by decide +kernel
theorem dX11_init_436 : decode cX11_init 436 = .ok (.aload_n 0, 1) := by decide +kernel
theorem dX11_init_437 : decode cX11_init 437 = .ok (.bipush 12, 2) := by decide +kernel
theorem dX11_init_439 : decode cX11_init 439 = .ok (.newarray .int, 2) := by decide +kernel
theorem dX11_init_441 : decode cX11_init 441 = .ok (.putfield 198, 3) := by decide +kernel
theorem dX11_init_444 : decode cX11_init 444 = .ok (.aload_n 0, 1) := by decide +kernel
theorem dX11_init_445 : decode cX11_init 445 = .ok (.iconst 4, 1) := by decide +kernel
theorem dX11_init_446 : decode cX11_init 446 = .ok (.newarray .int, 2) := by decide +kernel
theorem dX11_init_448 : decode cX11_init 448 = .ok (.putfield 201, 3) := by decide +kernel
theorem dX11_init_451 : decode cX11_init 451 = .ok (.aload_n 0, 1) := by decide +kernel
theorem dX11_init_452 : decode cX11_init 452 = .ok (.iconst 4, 1) := by decide +kernel
theorem dX11_init_453 : decode cX11_init 453 = .ok (.newarray .int, 2) := by decide +kernel
theorem dX11_init_455 : decode cX11_init 455 = .ok (.putfield 204, 3) := by decide +kernel
theorem dX11_init_458 : decode cX11_init 458 = .ok (.aload_n 0, 1) := by decide +kernel
theorem dX11_init_459 : decode cX11_init 459 = .ok (.iconst 4, 1) := by decide +kernel
theorem dX11_init_460 : decode cX11_init 460 = .ok (.newarray .int, 2) := by decide +kernel
theorem dX11_init_462 : decode cX11_init 462 = .ok (.putfield 207, 3) := by decide +kernel
theorem dX11_init_465 : decode cX11_init 465 = .ok (.aload_n 0, 1) := by decide +kernel
theorem dX11_init_466 : decode cX11_init 466 = .ok (.iconst 5, 1) := by decide +kernel
theorem dX11_init_467 : decode cX11_init 467 = .ok (.newarray .int, 2) := by decide +kernel
theorem dX11_init_469 : decode cX11_init 469 = .ok (.putfield 210, 3) := by decide +kernel
theorem dX11_init_472 : decode cX11_init 472 = .ok (.aload_n 0, 1) := by decide +kernel
theorem dX11_init_473 : decode cX11_init 473 = .ok (.iconst 0, 1) := by decide +kernel
theorem dX11_init_474 : decode cX11_init 474 = .ok (.putfield 213, 3) := by decide +kernel
theorem dX11_init_477 : decode cX11_init 477 = .ok (.aload_n 0, 1) := by decide +kernel
theorem dX11_init_478 : decode cX11_init 478 = .ok (.iconst 4, 1) := by decide +kernel
theorem dX11_init_479 : decode cX11_init 479 = .ok (.newarray .int, 2) := by decide +kernel
theorem dX11_init_481 : decode cX11_init 481 = .ok (.putfield 216, 3) := by decide +kernel
theorem dX11_init_484 : decode cX11_init 484 = .ok (.aload_n 0, 1) := by decide +kernel
theorem dX11_init_485 : decode cX11_init 485 = .ok (.bipush 12, 2) := by decide +kernel
theorem dX11_init_487 : decode cX11_init 487 = .ok (.newarray .int, 2) := by decide +kernel
theorem dX11_init_489 : decode cX11_init 489 = .ok (.putfield 219, 3) := by decide +kernel
theorem dX11_init_492 : decode cX11_init 492 = .ok (.aload_n 0, 1) := by decide +kernel
theorem dX11_init_493 : decode cX11_init 493 = .ok (.bipush 12, 2) := by decide +kernel
theorem dX11_init_495 : decode cX11_init 495 = .ok (.newarray .int, 2) := by decide +kernel
theorem dX11_init_497 : decode cX11_init 497 = .ok (.putfield 222, 3) := by decide +kernel
theorem dX11_init_500 : decode cX11_init 500 = .ok (.aload_n 0, 1) := by decide +kernel
theorem dX11_init_501 : decode cX11_init 501 = .ok (.bipush 12, 2) := by decide +kernel
theorem dX11_init_503 : decode cX11_init 503 = .ok (.newarray .int, 2) := by decide +kernel
theorem dX11_init_505 : decode cX11_init 505 = .ok (.putfield 225, 3) := by decide +kernel
theorem dX11_init_508 : decode cX11_init 508 = .ok (.aload_n 0, 1) := by decide +kernel
theorem dX11_init_509 : decode cX11_init 509 = .ok (.lconst 1, 1) := by decide +kernel
theorem dX11_init_510 : decode cX11_init 510 = .ok (.putfield 228, 3) := by decide +kernel
theorem dX11_init_513 : decode cX11_init 513 = .ok (.aload_n 0, 1) := by decide +kernel
theorem dX11_init_514 : decode cX11_init 514 = .ok (.bipush 80, 2) := by decide +kernel
theorem dX11_init_516 : decode cX11_init 516 = .ok (.newarray .int, 2) := by decide +kernel
theorem dX11_init_518 : decode cX11_init 518 = .ok (.putfield 231, 3) := by decide +kernel
theorem dX11_init_521 : decode cX11_init 521 = .ok (.aload_n 0, 1) := by decide +kernel
theorem dX11_init_522 : decode cX11_init 522 = .ok (.iconst 0, 1) := by decide +kernel
theorem dX11_init_523 : decode cX11_init 523 = .ok (.putfield 234, 3) := by decide +kernel
theorem dX11_init_526 : decode cX11_init 526 = .ok (.aload_n 0, 1) := by decide +kernel
theorem dX11_init_527 : decode cX11_init 527 = .ok (.getfield 115, 3) := by decide +kernel
theorem dX11_init_530 : decode cX11_init 530 = .ok (.iconst 0, 1) := by decide +kernel
theorem dX11_init_531 : decode cX11_init 531 = .ok (.iconst 1, 1) := by decide +kernel
theorem dX11_init_532 : decode cX11_init 532 = .ok (.iastore, 1) := by decide +kernel
theorem dX11_init_533 : decode cX11_init 533 = .ok (.aload_n 0, 1) := by decide +kernel
theorem dX11_init_534 : decode cX11_init 534 = .ok (.getfield 118, 3) := by decide +kernel
theorem dX11_init_537 : decode cX11_init 537 = .ok (.iconst 0, 1) := by decide +kernel
theorem dX11_init_538 : decode cX11_init 538 = .ok (.iconst 1, 1) := by decide +kernel
theorem dX11_init_539 : decode cX11_init 539 = .ok (.iastore, 1) := by decide +kernel
theorem dX11_init_540 : decode cX11_init 540 = .ok (.return_, 1) := by decide +kernel
theorem dX11_is_0 : decode cX11_is 0 = .ok (.iload_n 0, 1) := by decide +kernel
theorem dX11_is_1 : decode cX11_is 1 = .ok (.iload_n 1, 1) := by decide +kernel
theorem dX11_is_2 : decode cX11_is 2 = .ok (.if_icmp .lt 12, 3) := by decide +kernel
theorem dX11_is_5 : decode cX11_is 5 = .ok (.iload_n 0, 1) := by decide +kernel
theorem dX11_is_6 : decode cX11_is 6 = .ok (.iload_n 2, 1) := by decide +kernel
theorem dX11_is_7 : decode cX11_is 7 = .ok (.if_icmp .gt 7, 3) := by decide +kernel
theorem dX11_is_10 : decode cX11_is 10 = .ok (.iconst 1, 1) := by decide +kernel
theorem dX11_is_11 : decode cX11_is 11 = .ok (.goto 4, 3) := by decide +kernel
theorem dX11_is_14 : decode cX11_is 14 = .ok (.iconst 0, 1) := by decide +kernel
theorem dX11_is_15 : decode cX11_is 15 = .ok (.ireturn, 1) := by decide +kernel
theorem dX11_put_0 : decode cX11_put 0 = .ok (.bipush 24, 2) := by decide +kernel
theorem dX11_put_2 : decode cX11_put 2 = .ok (.istore_n 2, 1) := by decide +kernel
theorem dX11_put_3 : decode cX11_put 3 = .ok (.iload_n 2, 1) := by decide +kernel
theorem dX11_put_4 : decode cX11_put 4 = .ok (.ifCond .lt 35, 3) := by decide +kernel
theorem dX11_put_7 : decode cX11_put 7 = .ok (.aload_n 0, 1) := by decide +kernel
theorem dX11_put_8 : decode cX11_put 8 = .ok (.getfield 7, 3) := by decide +kernel
theorem dX11_put_11 : decode cX11_put 11 = .ok (.aload_n 0, 1) := by decide +kernel
theorem dX11_put_12 : decode cX11_put 12 = .ok (.getfield 13, 3) := by decide +kernel
theorem dX11_put_15 : decode cX11_put 15 = .ok (.iload_n 1, 1) := by decide +kernel
theorem dX11_put_16 : decode cX11_put 16 = .ok (.iload_n 2, 1) := by decide +kernel
theorem dX11_put_17 : decode cX11_put 17 = .ok (.ishr, 1) := by decide +kernel
theorem dX11_put_18 : decode cX11_put 18 = .ok (.sipush 255, 3) := by decide +kernel
theorem dX11_put_21 : decode cX11_put 21 = .ok (.iand, 1) := by decide +kernel
theorem dX11_put_22 : decode cX11_put 22 = .ok (.iastore, 1) := by decide +kernel
theorem dX11_put_23 : decode cX11_put 23 = .ok (.aload_n 0, 1) := by decide +kernel
theorem dX11_put_24 : decode cX11_put 24 = .ok (.dup, 1) := by decide +kernel
theorem dX11_put_25 : decode cX11_put 25 = .ok (.getfield 13, 3) := by decide +kernel
theorem dX11_put_28 : decode cX11_put 28 = .ok (.iconst 1, 1) := by decide +kernel
theorem dX11_put_29 : decode cX11_put 29 = .ok (.iadd, 1) := by decide +kernel
theorem dX11_put_30 : decode cX11_put 30 = .ok (.putfield 13, 3) := by decide +kernel
theorem dX11_put_33 : decode cX11_put 33 = .ok (.iinc 2 (-8), 3) := by decide +kernel
theorem dX11_put_36 : decode cX11_put 36 = .ok (.goto (-33), 3) := by decide +kernel
theorem dX11_put_39 : decode cX11_put 39 = .ok (.return_, 1) := by decide +kernel
theorem dX11_feed_0 : decode cX11_feed 0 = .ok (.aload_n 0, 1) := by decide +kernel
theorem dX11_feed_1 : decode cX11_feed 1 = .ok (.getfield 13, 3) := by decide +kernel
theorem dX11_feed_4 : decode cX11_feed 4 = .ok (.bipush 20, 2) := by decide +kernel
theorem dX11_feed_6 : decode cX11_feed 6 = .ok (.iadd, 1) := by decide +kernel
theorem dX11_feed_7 : decode cX11_feed 7 = .ok (.sipush 1600, 3) := by decide +kernel
theorem dX11_feed_10 : decode cX11_feed 10 = .ok (.if_icmp .le 9, 3) := by decide +kernel
theorem dX11_feed_13 : decode cX11_feed 13 = .ok (.aload_n 0, 1) := by decide +kernel
theorem dX11_feed_14 : decode cX11_feed 14 = .ok (.iconst 0, 1) := by decide +kernel
theorem dX11_feed_15 : decode cX11_feed 15 = .ok (.invokevirtual 237, 3) := by decide +kernel
theorem dX11_feed_18 : decode cX11_feed 18 = .ok (.ireturn, 1) := by decide +kernel
theorem dX11_feed_19 : decode cX11_feed 19 = .ok (.aload_n 0, 1) := by decide +kernel
theorem dX11_feed_20 : decode cX11_feed 20 = .ok (.iload_n 1, 1) := by decide +kernel
theorem dX11_feed_21 : decode cX11_feed 21 = .ok (.invokevirtual 241, 3) := by decide +kernel
theorem dX11_feed_24 : decode cX11_feed 24 = .ok (.aload_n 0, 1) := by decide +kernel
theorem dX11_feed_25 : decode cX11_feed 25 = .ok (.iload_n 2, 1) := by decide +kernel
theorem dX11_feed_26 : decode cX11_feed 26 = .ok (.invokevirtual 241, 3) := by decide +kernel
theorem dX11_feed_29 : decode cX11_feed 29 = .ok (.aload_n 0, 1) := by decide +kernel
theorem dX11_feed_30 : decode cX11_feed 30 = .ok (.iload_n 3, 1) := by decide +kernel
theorem dX11_feed_31 : decode cX11_feed 31 = .ok (.invokevirtual 241, 3) := by decide +kernel
theorem dX11_feed_34 : decode cX11_feed 34 = .ok (.aload_n 0, 1) := by decide +kernel
theorem dX11_feed_35 : decode cX11_feed 35 = .ok (.iload 4, 2) := by decide +kernel
theorem dX11_feed_37 : decode cX11_feed 37 = .ok (.invokevirtual 241, 3) := by decide +kernel
theorem dX11_feed_40 : decode cX11_feed 40 = .ok (.aload_n 0, 1) := by decide +kernel
theorem dX11_feed_41 : decode cX11_feed 41 = .ok (.iload 5, 2) := by decide +kernel
theorem dX11_feed_43 : decode cX11_feed 43 = .ok (.invokevirtual 241, 3) := by decide +kernel
theorem dX11_feed_46 : decode cX11_feed 46 = .ok (.aload_n 0, 1) := by decide +kernel
theorem dX11_feed_47 : decode cX11_feed 47 = .ok (.getfield 13, 3) := by decide +kernel
theorem dX11_feed_50 : decode cX11_feed 50 = .ok (.ireturn, 1) := by decide +kernel
theorem dX11_end_0 : decode cX11_end 0 = .ok (.iload_n 1, 1) := by decide +kernel
theorem dX11_end_1 : decode cX11_end 1 = .ok (.ifCond .lt 11, 3) := by decide +kernel
theorem dX11_end_4 : decode cX11_end 4 = .ok (.iload_n 1, 1) := by decide +kernel
theorem dX11_end_5 : decode cX11_end 5 = .ok (.aload_n 0, 1) := by decide +kernel
theorem dX11_end_6 : decode cX11_end 6 = .ok (.getfield 13, 3) := by decide +kernel
theorem dX11_end_9 : decode cX11_end 9 = .ok (.if_icmp .le 17, 3) := by decide +kernel
theorem dX11_end_12 : decode cX11_end 12 = .ok (.aload_n 0, 1) := by decide +kernel
theorem dX11_end_13 : decode cX11_end 13 = .ok (.iconst 0, 1) := by decide +kernel
theorem dX11_end_14 : decode cX11_end 14 = .ok (.invokevirtual 237, 3) := by decide +kernel
theorem dX11_end_17 : decode cX11_end 17 = .ok (.ifCond .lt 7, 3) := by decide +kernel
theorem dX11_end_20 : decode cX11_end 20 = .ok (.iconst 1, 1) := by decide +kernel
theorem dX11_end_21 : decode cX11_end 21 = .ok (.goto 4, 3) := by decide +kernel
theorem dX11_end_24 : decode cX11_end 24 = .ok (.iconst 0, 1) := by decide +kernel
theorem dX11_end_25 : decode cX11_end 25 = .ok (.ireturn, 1) := by decide +kernel
theorem dX11_end_26 : decode cX11_end 26 = .ok (.aload_n 0, 1) := by decide +kernel
theorem dX11_end_27 : decode cX11_end 27 = .ok (.iload_n 1, 1) := by decide +kernel
theorem dX11_end_28 : decode cX11_end 28 = .ok (.putfield 13, 3) := by decide +kernel
theorem dX11_end_31 : decode cX11_end 31 = .ok (.iconst 1, 1) := by decide +kernel
theorem dX11_end_32 : decode cX11_end 32 = .ok (.ireturn, 1) := by decide +kernel
theorem dX11_blame_0 : decode cX11_blame 0 = .ok (.aload_n 0, 1) := by decide +kernel
theorem dX11_blame_1 : decode cX11_blame 1 = .ok (.getfield 36, 3) := by decide +kernel
theorem dX11_blame_4 : decode cX11_blame 4 = .ok (.ifCond .le 4, 3) := by decide +kernel
theorem dX11_blame_7 : decode cX11_blame 7 = .ok (.return_, 1) := by decide +kernel
theorem dX11_blame_8 : decode cX11_blame 8 = .ok (.aload_n 0, 1) := by decide +kernel
theorem dX11_blame_9 : decode cX11_blame 9 = .ok (.iload_n 1, 1) := by decide +kernel
theorem dX11_blame_10 : decode cX11_blame 10 = .ok (.putfield 36, 3) := by decide +kernel
theorem dX11_blame_13 : decode cX11_blame 13 = .ok (.aload_n 0, 1) := by decide +kernel
theorem dX11_blame_14 : decode cX11_blame 14 = .ok (.iload_n 2, 1) := by decide +kernel
theorem dX11_blame_15 : decode cX11_blame 15 = .ok (.putfield 39, 3) := by decide +kernel
theorem dX11_blame_18 : decode cX11_blame 18 = .ok (.return_, 1) := by decide +kernel
theorem dX11_isLetter_0 : decode cX11_isLetter 0 = .ok (.iload_n 0, 1) := by decide +kernel
theorem dX11_isLetter_1 : decode cX11_isLetter 1 = .ok (.bipush 97, 2) := by decide +kernel
theorem dX11_isLetter_3 : decode cX11_isLetter 3 = .ok (.if_icmp .lt 13, 3) := by decide +kernel
theorem dX11_isLetter_6 : decode cX11_isLetter 6 = .ok (.iload_n 0, 1) := by decide +kernel
theorem dX11_isLetter_7 : decode cX11_isLetter 7 = .ok (.bipush 122, 2) := by decide +kernel
theorem dX11_isLetter_9 : decode cX11_isLetter 9 = .ok (.if_icmp .gt 7, 3) := by decide +kernel
theorem dX11_isLetter_12 : decode cX11_isLetter 12 = .ok (.iconst 1, 1) := by decide +kernel
theorem dX11_isLetter_13 : decode cX11_isLetter 13 = .ok (.goto 4, 3) := by decide +kernel
theorem dX11_isLetter_16 : decode cX11_isLetter 16 = .ok (.iconst 0, 1) := by decide +kernel
theorem dX11_isLetter_17 : decode cX11_isLetter 17 = .ok (.ireturn, 1) := by decide +kernel
theorem dX11_isDigit_0 : decode cX11_isDigit 0 = .ok (.iload_n 0, 1) := by decide +kernel
theorem dX11_isDigit_1 : decode cX11_isDigit 1 = .ok (.bipush 48, 2) := by decide +kernel
theorem dX11_isDigit_3 : decode cX11_isDigit 3 = .ok (.if_icmp .lt 13, 3) := by decide +kernel
theorem dX11_isDigit_6 : decode cX11_isDigit 6 = .ok (.iload_n 0, 1) := by decide +kernel
theorem dX11_isDigit_7 : decode cX11_isDigit 7 = .ok (.bipush 57, 2) := by decide +kernel
theorem dX11_isDigit_9 : decode cX11_isDigit 9 = .ok (.if_icmp .gt 7, 3) := by decide +kernel
theorem dX11_isDigit_12 : decode cX11_isDigit 12 = .ok (.iconst 1, 1) := by decide +kernel
theorem dX11_isDigit_13 : decode cX11_isDigit 13 = .ok (.goto 4, 3) := by decide +kernel
theorem dX11_isDigit_16 : decode cX11_isDigit 16 = .ok (.iconst 0, 1) := by decide +kernel
theorem dX11_isDigit_17 : decode cX11_isDigit 17 = .ok (.ireturn, 1) := by decide +kernel
theorem dX11_ahead_0 : decode cX11_ahead 0 = .ok (.aload_n 0, 1) := by decide +kernel
theorem dX11_ahead_1 : decode cX11_ahead 1 = .ok (.getfield 26, 3) := by decide +kernel
theorem dX11_ahead_4 : decode cX11_ahead 4 = .ok (.istore_n 1, 1) := by decide +kernel
theorem dX11_ahead_5 : decode cX11_ahead 5 = .ok (.iload_n 1, 1) := by decide +kernel
theorem dX11_ahead_6 : decode cX11_ahead 6 = .ok (.aload_n 0, 1) := by decide +kernel
theorem dX11_ahead_7 : decode cX11_ahead 7 = .ok (.getfield 17, 3) := by decide +kernel
theorem dX11_ahead_10 : decode cX11_ahead 10 = .ok (.if_icmp .ge 31, 3) := by decide +kernel
theorem dX11_ahead_13 : decode cX11_ahead 13 = .ok (.aload_n 0, 1) := by decide +kernel
theorem dX11_ahead_14 : decode cX11_ahead 14 = .ok (.getfield 7, 3) := by decide +kernel
theorem dX11_ahead_17 : decode cX11_ahead 17 = .ok (.iload_n 1, 1) := by decide +kernel
theorem dX11_ahead_18 : decode cX11_ahead 18 = .ok (.iaload, 1) := by decide +kernel
theorem dX11_ahead_19 : decode cX11_ahead 19 = .ok (.bipush 32, 2) := by decide +kernel
theorem dX11_ahead_21 : decode cX11_ahead 21 = .ok (.if_icmp .eq 14, 3) := by decide +kernel
theorem dX11_ahead_24 : decode cX11_ahead 24 = .ok (.aload_n 0, 1) := by decide +kernel
theorem dX11_ahead_25 : decode cX11_ahead 25 = .ok (.getfield 7, 3) := by decide +kernel
theorem dX11_ahead_28 : decode cX11_ahead 28 = .ok (.iload_n 1, 1) := by decide +kernel
theorem dX11_ahead_29 : decode cX11_ahead 29 = .ok (.iaload, 1) := by decide +kernel
theorem dX11_ahead_30 : decode cX11_ahead 30 = .ok (.bipush 10, 2) := by decide +kernel
theorem dX11_ahead_32 : decode cX11_ahead 32 = .ok (.if_icmp .ne 9, 3) := by decide +kernel
theorem dX11_ahead_35 : decode cX11_ahead 35 = .ok (.iinc 1 1, 3) := by decide +kernel
theorem dX11_ahead_38 : decode cX11_ahead 38 = .ok (.goto (-33), 3) := by decide +kernel
theorem dX11_ahead_41 : decode cX11_ahead 41 = .ok (.aload_n 0, 1) := by decide +kernel
theorem dX11_ahead_42 : decode cX11_ahead 42 = .ok (.iload_n 1, 1) := by decide +kernel
theorem dX11_ahead_43 : decode cX11_ahead 43 = .ok (.putfield 23, 3) := by decide +kernel
theorem dX11_ahead_46 : decode cX11_ahead 46 = .ok (.aload_n 0, 1) := by decide +kernel
theorem dX11_ahead_47 : decode cX11_ahead 47 = .ok (.iload_n 1, 1) := by decide +kernel
theorem dX11_ahead_48 : decode cX11_ahead 48 = .ok (.putfield 26, 3) := by decide +kernel
theorem dX11_ahead_51 : decode cX11_ahead 51 = .ok (.aload_n 0, 1) := by decide +kernel
theorem dX11_ahead_52 : decode cX11_ahead 52 = .ok (.iconst 0, 1) := by decide +kernel
theorem dX11_ahead_53 : decode cX11_ahead 53 = .ok (.putfield 20, 3) := by decide +kernel
theorem dX11_ahead_56 : decode cX11_ahead 56 = .ok (.iload_n 1, 1) := by decide +kernel
theorem dX11_ahead_57 : decode cX11_ahead 57 = .ok (.aload_n 0, 1) := by decide +kernel
theorem dX11_ahead_58 : decode cX11_ahead 58 = .ok (.getfield 17, 3) := by decide +kernel
theorem dX11_ahead_61 : decode cX11_ahead 61 = .ok (.if_icmp .lt 4, 3) := by decide +kernel
theorem dX11_ahead_64 : decode cX11_ahead 64 = .ok (.return_, 1) := by decide +kernel
theorem dX11_ahead_65 : decode cX11_ahead 65 = .ok (.aload_n 0, 1) := by decide +kernel
theorem dX11_ahead_66 : decode cX11_ahead 66 = .ok (.getfield 7, 3) := by decide +kernel
theorem dX11_ahead_69 : decode cX11_ahead 69 = .ok (.iload_n 1, 1) := by decide +kernel
theorem dX11_ahead_70 : decode cX11_ahead 70 = .ok (.iaload, 1) := by decide +kernel
theorem dX11_ahead_71 : decode cX11_ahead 71 = .ok (.invokestatic 245, 3) := by decide +kernel
theorem dX11_ahead_74 : decode cX11_ahead 74 = .ok (.istore_n 2, 1) := by decide +kernel
theorem dX11_ahead_75 : decode cX11_ahead 75 = .ok (.aload_n 0, 1) := by decide +kernel
theorem dX11_ahead_76 : decode cX11_ahead 76 = .ok (.getfield 7, 3) := by decide +kernel
theorem dX11_ahead_79 : decode cX11_ahead 79 = .ok (.iload_n 1, 1) := by decide +kernel
theorem dX11_ahead_80 : decode cX11_ahead 80 = .ok (.iaload, 1) := by decide +kernel
theorem dX11_ahead_81 : decode cX11_ahead 81 = .ok (.invokestatic 249, 3) := by decide +kernel
theorem dX11_ahead_84 : decode cX11_ahead 84 = .ok (.istore_n 3, 1) := by decide +kernel
theorem dX11_ahead_85 : decode cX11_ahead 85 = .ok (.iload_n 2, 1) := by decide +kernel
theorem dX11_ahead_86 : decode cX11_ahead 86 = .ok (.ifCond .ne 7, 3) := by decide +kernel
theorem dX11_ahead_89 : decode cX11_ahead 89 = .ok (.iload_n 3, 1) := by decide +kernel
theorem dX11_ahead_90 : decode cX11_ahead 90 = .ok (.ifCond .eq 41, 3) := by decide +kernel
theorem dX11_ahead_93 : decode cX11_ahead 93 = .ok (.iload_n 1, 1) := by decide +kernel
theorem dX11_ahead_94 : decode cX11_ahead 94 = .ok (.ifCond .le 37, 3) := by decide +kernel
theorem dX11_ahead_97 : decode cX11_ahead 97 = .ok (.aload_n 0, 1) := by decide +kernel
theorem dX11_ahead_98 : decode cX11_ahead 98 = .ok (.getfield 7, 3) := by decide +kernel
theorem dX11_ahead_101 : decode cX11_ahead 101 = .ok (.iload_n 1, 1) := by decide +kernel
theorem dX11_ahead_102 : decode cX11_ahead 102 = .ok (.iconst 1, 1) := by decide +kernel
theorem dX11_ahead_103 : decode cX11_ahead 103 = .ok (.isub, 1) := by decide +kernel
theorem dX11_ahead_104 : decode cX11_ahead 104 = .ok (.iaload, 1) := by decide +kernel
theorem dX11_ahead_105 : decode cX11_ahead 105 = .ok (.invokestatic 245, 3) := by decide +kernel
theorem dX11_ahead_108 : decode cX11_ahead 108 = .ok (.ifCond .ne 17, 3) := by decide +kernel
theorem dX11_ahead_111 : decode cX11_ahead 111 = .ok (.aload_n 0, 1) := by decide +kernel
theorem dX11_ahead_112 : decode cX11_ahead 112 = .ok (.getfield 7, 3) := by decide +kernel
theorem dX11_ahead_115 : decode cX11_ahead 115 = .ok (.iload_n 1, 1) := by decide +kernel
theorem dX11_ahead_116 : decode cX11_ahead 116 = .ok (.iconst 1, 1) := by decide +kernel
theorem dX11_ahead_117 : decode cX11_ahead 117 = .ok (.isub, 1) := by decide +kernel
theorem dX11_ahead_118 : decode cX11_ahead 118 = .ok (.iaload, 1) := by decide +kernel
theorem dX11_ahead_119 : decode cX11_ahead 119 = .ok (.invokestatic 249, 3) := by decide +kernel
theorem dX11_ahead_122 : decode cX11_ahead 122 = .ok (.ifCond .eq 9, 3) := by decide +kernel
theorem dX11_ahead_125 : decode cX11_ahead 125 = .ok (.aload_n 0, 1) := by decide +kernel
theorem dX11_ahead_126 : decode cX11_ahead 126 = .ok (.iconst 1, 1) := by decide +kernel
theorem dX11_ahead_127 : decode cX11_ahead 127 = .ok (.iload_n 1, 1) := by decide +kernel
theorem dX11_ahead_128 : decode cX11_ahead 128 = .ok (.invokevirtual 252, 3) := by decide +kernel
theorem dX11_ahead_131 : decode cX11_ahead 131 = .ok (.aload_n 0, 1) := by decide +kernel
theorem dX11_ahead_132 : decode cX11_ahead 132 = .ok (.iconst 0, 1) := by decide +kernel
theorem dX11_ahead_133 : decode cX11_ahead 133 = .ok (.putfield 29, 3) := by decide +kernel
theorem dX11_ahead_136 : decode cX11_ahead 136 = .ok (.aload_n 0, 1) := by decide +kernel
theorem dX11_ahead_137 : decode cX11_ahead 137 = .ok (.lconst 0, 1) := by decide +kernel
theorem dX11_ahead_138 : decode cX11_ahead 138 = .ok (.putfield 32, 3) := by decide +kernel
theorem dX11_ahead_141 : decode cX11_ahead 141 = .ok (.aload_n 0, 1) := by decide +kernel
theorem dX11_ahead_142 : decode cX11_ahead 142 = .ok (.iconst 3, 1) := by decide +kernel
theorem dX11_ahead_143 : decode cX11_ahead 143 = .ok (.putfield 20, 3) := by decide +kernel
theorem dX11_ahead_146 : decode cX11_ahead 146 = .ok (.aload_n 0, 1) := by decide +kernel
theorem dX11_ahead_147 : decode cX11_ahead 147 = .ok (.iload_n 1, 1) := by decide +kernel
theorem dX11_ahead_148 : decode cX11_ahead 148 = .ok (.iconst 1, 1) := by decide +kernel
theorem dX11_ahead_149 : decode cX11_ahead 149 = .ok (.iadd, 1) := by decide +kernel
theorem dX11_ahead_150 : decode cX11_ahead 150 = .ok (.putfield 26, 3) := by decide +kernel
theorem dX11_ahead_153 : decode cX11_ahead 153 = .ok (.iload_n 2, 1) := by decide +kernel
theorem dX11_ahead_154 : decode cX11_ahead 154 = .ok (.ifCond .ne 18, 3) := by decide +kernel
theorem dX11_ahead_157 : decode cX11_ahead 157 = .ok (.iload_n 3, 1) := by decide +kernel
theorem dX11_ahead_158 : decode cX11_ahead 158 = .ok (.ifCond .ne 14, 3) := by decide +kernel
theorem dX11_ahead_161 : decode cX11_ahead 161 = .ok (.aload_n 0, 1) := by decide +kernel
theorem dX11_ahead_162 : decode cX11_ahead 162 = .ok (.aload_n 0, 1) := by decide +kernel
theorem dX11_ahead_163 : decode cX11_ahead 163 = .ok (.getfield 7, 3) := by decide +kernel
theorem dX11_ahead_166 : decode cX11_ahead 166 = .ok (.iload_n 1, 1) := by decide +kernel
theorem dX11_ahead_167 : decode cX11_ahead 167 = .ok (.iaload, 1) := by decide +kernel
theorem dX11_ahead_168 : decode cX11_ahead 168 = .ok (.putfield 29, 3) := by decide +kernel
theorem dX11_ahead_171 : decode cX11_ahead 171 = .ok (.return_, 1) := by decide +kernel
theorem dX11_ahead_172 : decode cX11_ahead 172 = .ok (.aload_n 0, 1) := by decide +kernel
theorem dX11_ahead_173 : decode cX11_ahead 173 = .ok (.iload_n 2, 1) := by decide +kernel
theorem dX11_ahead_174 : decode cX11_ahead 174 = .ok (.ifCond .eq 7, 3) := by decide +kernel
theorem dX11_ahead_177 : decode cX11_ahead 177 = .ok (.iconst 1, 1) := by decide +kernel
theorem dX11_ahead_178 : decode cX11_ahead 178 = .ok (.goto 4, 3) := by decide +kernel
theorem dX11_ahead_181 : decode cX11_ahead 181 = .ok (.iconst 2, 1) := by decide +kernel
theorem dX11_ahead_182 : decode cX11_ahead 182 = .ok (.putfield 20, 3) := by decide +kernel
theorem dX11_ahead_185 : decode cX11_ahead 185 = .ok (.iload_n 2, 1) := by decide +kernel
theorem dX11_ahead_186 : decode cX11_ahead 186 = .ok (.ifCond .eq 8, 3) := by decide +kernel
theorem dX11_ahead_189 : decode cX11_ahead 189 = .ok (.bipush 6, 2) := by decide +kernel
theorem dX11_ahead_191 : decode cX11_ahead 191 = .ok (.goto 4, 3) := by decide +kernel
theorem dX11_ahead_194 : decode cX11_ahead 194 = .ok (.iconst 4, 1) := by decide +kernel
theorem dX11_ahead_195 : decode cX11_ahead 195 = .ok (.istore 4, 2) := by decide +kernel
theorem dX11_ahead_197 : decode cX11_ahead 197 = .ok (.iconst 0, 1) := by decide +kernel
theorem dX11_ahead_198 : decode cX11_ahead 198 = .ok (.istore 5, 2) := by decide +kernel
theorem dX11_ahead_200 : decode cX11_ahead 200 = .ok (.iload_n 1, 1) := by decide +kernel
theorem dX11_ahead_201 : decode cX11_ahead 201 = .ok (.aload_n 0, 1) := by decide +kernel
theorem dX11_ahead_202 : decode cX11_ahead 202 = .ok (.getfield 17, 3) := by decide +kernel
theorem dX11_ahead_205 : decode cX11_ahead 205 = .ok (.if_icmp .ge 118, 3) := by decide +kernel
theorem dX11_ahead_208 : decode cX11_ahead 208 = .ok (.iload_n 2, 1) := by decide +kernel
theorem dX11_ahead_209 : decode cX11_ahead 209 = .ok (.ifCond .eq 18, 3) := by decide +kernel
theorem dX11_ahead_212 : decode cX11_ahead 212 = .ok (.aload_n 0, 1) := by decide +kernel
theorem dX11_ahead_213 : decode cX11_ahead 213 = .ok (.getfield 7, 3) := by decide +kernel
theorem dX11_ahead_216 : decode cX11_ahead 216 = .ok (.iload_n 1, 1) := by decide +kernel
theorem dX11_ahead_217 : decode cX11_ahead 217 = .ok (.iaload, 1) := by decide +kernel
theorem dX11_ahead_218 : decode cX11_ahead 218 = .ok (.invokestatic 245, 3) := by decide +kernel
theorem dX11_ahead_221 : decode cX11_ahead 221 = .ok (.ifCond .eq 102, 3) := by decide +kernel
theorem dX11_ahead_224 : decode cX11_ahead 224 = .ok (.goto 15, 3) := by decide +kernel
theorem dX11_ahead_227 : decode cX11_ahead 227 = .ok (.aload_n 0, 1) := by decide +kernel
theorem dX11_ahead_228 : decode cX11_ahead 228 = .ok (.getfield 7, 3) := by decide +kernel
theorem dX11_ahead_231 : decode cX11_ahead 231 = .ok (.iload_n 1, 1) := by decide +kernel
theorem dX11_ahead_232 : decode cX11_ahead 232 = .ok (.iaload, 1) := by decide +kernel
theorem dX11_ahead_233 : decode cX11_ahead 233 = .ok (.invokestatic 249, 3) := by decide +kernel
theorem dX11_ahead_236 : decode cX11_ahead 236 = .ok (.ifCond .eq 87, 3) := by decide +kernel
theorem dX11_ahead_239 : decode cX11_ahead 239 = .ok (.iload 5, 2) := by decide +kernel
theorem dX11_ahead_241 : decode cX11_ahead 241 = .ok (.iload 4, 2) := by decide +kernel
theorem dX11_ahead_243 : decode cX11_ahead 243 = .ok (.if_icmp .ne 9, 3) := by decide +kernel
theorem dX11_ahead_246 : decode cX11_ahead 246 = .ok (.aload_n 0, 1) := by decide +kernel
theorem dX11_ahead_247 : decode cX11_ahead 247 = .ok (.iconst 1, 1) := by decide +kernel
theorem dX11_ahead_248 : decode cX11_ahead 248 = .ok (.iload_n 1, 1) := by decide +kernel
theorem dX11_ahead_249 : decode cX11_ahead 249 = .ok (.invokevirtual 252, 3) := by decide +kernel
theorem dX11_ahead_252 : decode cX11_ahead 252 = .ok (.iload 5, 2) := by decide +kernel
theorem dX11_ahead_254 : decode cX11_ahead 254 = .ok (.iload 4, 2) := by decide +kernel
theorem dX11_ahead_256 : decode cX11_ahead 256 = .ok (.if_icmp .ge 26, 3) := by decide +kernel
theorem dX11_ahead_259 : decode cX11_ahead 259 = .ok (.iload_n 2, 1) := by decide +kernel
theorem dX11_ahead_260 : decode cX11_ahead 260 = .ok (.ifCond .eq 22, 3) := by decide +kernel
theorem dX11_ahead_263 : decode cX11_ahead 263 = .ok (.aload_n 0, 1) := by decide +kernel
theorem dX11_ahead_264 : decode cX11_ahead 264 = .ok (.aload_n 0, 1) := by decide +kernel
theorem dX11_ahead_265 : decode cX11_ahead 265 = .ok (.getfield 32, 3) := by decide +kernel
theorem dX11_ahead_268 : decode cX11_ahead 268 = .ok (.bipush 8, 2) := by decide +kernel
theorem dX11_ahead_270 : decode cX11_ahead 270 = .ok (.lshl, 1) := by decide +kernel
theorem dX11_ahead_271 : decode cX11_ahead 271 = .ok (.aload_n 0, 1) := by decide +kernel
theorem dX11_ahead_272 : decode cX11_ahead 272 = .ok (.getfield 7, 3) := by decide +kernel
theorem dX11_ahead_275 : decode cX11_ahead 275 = .ok (.iload_n 1, 1) := by decide +kernel
theorem dX11_ahead_276 : decode cX11_ahead 276 = .ok (.iaload, 1) := by decide +kernel
theorem dX11_ahead_277 : decode cX11_ahead 277 = .ok (.i2l, 1) := by decide +kernel
theorem dX11_ahead_278 : decode cX11_ahead 278 = .ok (.lor, 1) := by decide +kernel
theorem dX11_ahead_279 : decode cX11_ahead 279 = .ok (.putfield 32, 3) := by decide +kernel
theorem dX11_ahead_282 : decode cX11_ahead 282 = .ok (.iload 5, 2) := by decide +kernel
theorem dX11_ahead_284 : decode cX11_ahead 284 = .ok (.iload 4, 2) := by decide +kernel
theorem dX11_ahead_286 : decode cX11_ahead 286 = .ok (.if_icmp .ge 28, 3) := by decide +kernel
theorem dX11_ahead_289 : decode cX11_ahead 289 = .ok (.iload_n 3, 1) := by decide +kernel
theorem dX11_ahead_290 : decode cX11_ahead 290 = .ok (.ifCond .eq 24, 3) := by decide +kernel
theorem dX11_ahead_293 : decode cX11_ahead 293 = .ok (.aload_n 0, 1) := by decide +kernel
theorem dX11_ahead_294 : decode cX11_ahead 294 = .ok (.bipush 10, 2) := by decide +kernel
theorem dX11_ahead_296 : decode cX11_ahead 296 = .ok (.aload_n 0, 1) := by decide +kernel
theorem dX11_ahead_297 : decode cX11_ahead 297 = .ok (.getfield 29, 3) := by decide +kernel
theorem dX11_ahead_300 : decode cX11_ahead 300 = .ok (.imul, 1) := by decide +kernel
theorem dX11_ahead_301 : decode cX11_ahead 301 = .ok (.aload_n 0, 1) := by decide +kernel
theorem dX11_ahead_302 : decode cX11_ahead 302 = .ok (.getfield 7, 3) := by decide +kernel
theorem dX11_ahead_305 : decode cX11_ahead 305 = .ok (.iload_n 1, 1) := by decide +kernel
theorem dX11_ahead_306 : decode cX11_ahead 306 = .ok (.iaload, 1) := by decide +kernel
theorem dX11_ahead_307 : decode cX11_ahead 307 = .ok (.iadd, 1) := by decide +kernel
theorem dX11_ahead_308 : decode cX11_ahead 308 = .ok (.bipush 48, 2) := by decide +kernel
theorem dX11_ahead_310 : decode cX11_ahead 310 = .ok (.isub, 1) := by decide +kernel
theorem dX11_ahead_311 : decode cX11_ahead 311 = .ok (.putfield 29, 3) := by decide +kernel
theorem dX11_ahead_314 : decode cX11_ahead 314 = .ok (.iinc 5 1, 3) := by decide +kernel
theorem dX11_ahead_317 : decode cX11_ahead 317 = .ok (.iinc 1 1, 3) := by decide +kernel
theorem dX11_ahead_320 : decode cX11_ahead 320 = .ok (.goto (-120), 3) := by decide +kernel
theorem dX11_ahead_323 : decode cX11_ahead 323 = .ok (.aload_n 0, 1) := by decide +kernel
theorem dX11_ahead_324 : decode cX11_ahead 324 = .ok (.iload_n 1, 1) := by decide +kernel
theorem dX11_ahead_325 : decode cX11_ahead 325 = .ok (.putfield 26, 3) := by decide +kernel
theorem dX11_ahead_328 : decode cX11_ahead 328 = .ok (.return_, 1) := by decide +kernel
theorem dX11_isSign_0 : decode cX11_isSign 0 = .ok (.aload_n 0, 1) := by decide +kernel
theorem dX11_isSign_1 : decode cX11_isSign 1 = .ok (.getfield 20, 3) := by decide +kernel
theorem dX11_isSign_4 : decode cX11_isSign 4 = .ok (.iconst 3, 1) := by decide +kernel
theorem dX11_isSign_5 : decode cX11_isSign 5 = .ok (.if_icmp .ne 15, 3) := by decide +kernel
theorem dX11_isSign_8 : decode cX11_isSign 8 = .ok (.aload_n 0, 1) := by decide +kernel
theorem dX11_isSign_9 : decode cX11_isSign 9 = .ok (.getfield 29, 3) := by decide +kernel
theorem dX11_isSign_12 : decode cX11_isSign 12 = .ok (.iload_n 1, 1) := by decide +kernel
theorem dX11_isSign_13 : decode cX11_isSign 13 = .ok (.if_icmp .ne 7, 3) := by decide +kernel
theorem dX11_isSign_16 : decode cX11_isSign 16 = .ok (.iconst 1, 1) := by decide +kernel
theorem dX11_isSign_17 : decode cX11_isSign 17 = .ok (.goto 4, 3) := by decide +kernel
theorem dX11_isSign_20 : decode cX11_isSign 20 = .ok (.iconst 0, 1) := by decide +kernel
theorem dX11_isSign_21 : decode cX11_isSign 21 = .ok (.ireturn, 1) := by decide +kernel
theorem dX11_isWord_0 : decode cX11_isWord 0 = .ok (.aload_n 0, 1) := by decide +kernel
theorem dX11_isWord_1 : decode cX11_isWord 1 = .ok (.getfield 20, 3) := by decide +kernel
theorem dX11_isWord_4 : decode cX11_isWord 4 = .ok (.iconst 1, 1) := by decide +kernel
theorem dX11_isWord_5 : decode cX11_isWord 5 = .ok (.if_icmp .ne 16, 3) := by decide +kernel
theorem dX11_isWord_8 : decode cX11_isWord 8 = .ok (.aload_n 0, 1) := by decide +kernel
theorem dX11_isWord_9 : decode cX11_isWord 9 = .ok (.getfield 32, 3) := by decide +kernel
theorem dX11_isWord_12 : decode cX11_isWord 12 = .ok (.lload_n 1, 1) := by decide +kernel
theorem dX11_isWord_13 : decode cX11_isWord 13 = .ok (.lcmp, 1) := by decide +kernel
theorem dX11_isWord_14 : decode cX11_isWord 14 = .ok (.ifCond .ne 7, 3) := by decide +kernel
theorem dX11_isWord_17 : decode cX11_isWord 17 = .ok (.iconst 1, 1) := by decide +kernel
theorem dX11_isWord_18 : decode cX11_isWord 18 = .ok (.goto 4, 3) := by decide +kernel
theorem dX11_isWord_21 : decode cX11_isWord 21 = .ok (.iconst 0, 1) := by decide +kernel
theorem dX11_isWord_22 : decode cX11_isWord 22 = .ok (.ireturn, 1) := by decide +kernel
theorem dX11_must_0 : decode cX11_must 0 = .ok (.aload_n 0, 1) := by decide +kernel
theorem dX11_must_1 : decode cX11_must 1 = .ok (.iload_n 1, 1) := by decide +kernel
theorem dX11_must_2 : decode cX11_must 2 = .ok (.invokevirtual 256, 3) := by decide +kernel
theorem dX11_must_5 : decode cX11_must 5 = .ok (.ifCond .ne 12, 3) := by decide +kernel
theorem dX11_must_8 : decode cX11_must 8 = .ok (.aload_n 0, 1) := by decide +kernel
theorem dX11_must_9 : decode cX11_must 9 = .ok (.iconst 1, 1) := by decide +kernel
theorem dX11_must_10 : decode cX11_must 10 = .ok (.aload_n 0, 1) := by decide +kernel
theorem dX11_must_11 : decode cX11_must 11 = .ok (.getfield 23, 3) := by decide +kernel
theorem dX11_must_14 : decode cX11_must 14 = .ok (.invokevirtual 252, 3) := by decide +kernel
theorem dX11_must_17 : decode cX11_must 17 = .ok (.aload_n 0, 1) := by decide +kernel
theorem dX11_must_18 : decode cX11_must 18 = .ok (.getfield 36, 3) := by decide +kernel
theorem dX11_must_21 : decode cX11_must 21 = .ok (.ifCond .ne 7, 3) := by decide +kernel
theorem dX11_must_24 : decode cX11_must 24 = .ok (.aload_n 0, 1) := by decide +kernel
theorem dX11_must_25 : decode cX11_must 25 = .ok (.invokevirtual 259, 3) := by decide +kernel
theorem dX11_must_28 : decode cX11_must 28 = .ok (.return_, 1) := by decide +kernel
theorem dX11_isOwn_0 : decode cX11_isOwn 0 = .ok (.lload_n 1, 1) := by decide +kernel
theorem dX11_isOwn_1 : decode cX11_isOwn 1 = .ok (.ldc2_w 262, 3) := by decide +kernel
theorem dX11_isOwn_4 : decode cX11_isOwn 4 = .ok (.lcmp, 1) := by decide +kernel
theorem dX11_isOwn_5 : decode cX11_isOwn 5 = .ok (.ifCond .eq 35, 3) := by decide +kernel
theorem dX11_isOwn_8 : decode cX11_isOwn 8 = .ok (.lload_n 1, 1) := by decide +kernel
theorem dX11_isOwn_9 : decode cX11_isOwn 9 = .ok (.ldc2_w 264, 3) := by decide +kernel
theorem dX11_isOwn_12 : decode cX11_isOwn 12 = .ok (.lcmp, 1) := by decide +kernel
theorem dX11_isOwn_13 : decode cX11_isOwn 13 = .ok (.ifCond .eq 27, 3) := by decide +kernel
theorem dX11_isOwn_16 : decode cX11_isOwn 16 = .ok (.lload_n 1, 1) := by decide +kernel
theorem dX11_isOwn_17 : decode cX11_isOwn 17 = .ok (.ldc2_w 266, 3) := by decide +kernel
theorem dX11_isOwn_20 : decode cX11_isOwn 20 = .ok (.lcmp, 1) := by decide +kernel
theorem dX11_isOwn_21 : decode cX11_isOwn 21 = .ok (.ifCond .eq 19, 3) := by decide +kernel
theorem dX11_isOwn_24 : decode cX11_isOwn 24 = .ok (.lload_n 1, 1) := by decide +kernel
theorem dX11_isOwn_25 : decode cX11_isOwn 25 = .ok (.ldc2_w 268, 3) := by decide +kernel
theorem dX11_isOwn_28 : decode cX11_isOwn 28 = .ok (.lcmp, 1) := by decide +kernel
theorem dX11_isOwn_29 : decode cX11_isOwn 29 = .ok (.ifCond .eq 11, 3) := by decide +kernel
theorem dX11_isOwn_32 : decode cX11_isOwn 32 = .ok (.lload_n 1, 1) := by decide +kernel
theorem dX11_isOwn_33 : decode cX11_isOwn 33 = .ok (.ldc2_w 270, 3) := by decide +kernel
theorem dX11_isOwn_36 : decode cX11_isOwn 36 = .ok (.lcmp, 1) := by decide +kernel
theorem dX11_isOwn_37 : decode cX11_isOwn 37 = .ok (.ifCond .ne 5, 3) := by decide +kernel
theorem dX11_isOwn_40 : decode cX11_isOwn 40 = .ok (.iconst 1, 1) := by decide +kernel
theorem dX11_isOwn_41 : decode cX11_isOwn 41 = .ok (.ireturn, 1) := by decide +kernel
theorem dX11_isOwn_42 : decode cX11_isOwn 42 = .ok (.lload_n 1, 1) := by decide +kernel
theorem dX11_isOwn_43 : decode cX11_isOwn 43 = .ok (.ldc2_w 272, 3) := by decide +kernel
theorem dX11_isOwn_46 : decode cX11_isOwn 46 = .ok (.lcmp, 1) := by decide +kernel
theorem dX11_isOwn_47 : decode cX11_isOwn 47 = .ok (.ifCond .eq 35, 3) := by decide +kernel
theorem dX11_isOwn_50 : decode cX11_isOwn 50 = .ok (.lload_n 1, 1) := by decide +kernel
theorem dX11_isOwn_51 : decode cX11_isOwn 51 = .ok (.ldc2_w 274, 3) := by decide +kernel
theorem dX11_isOwn_54 : decode cX11_isOwn 54 = .ok (.lcmp, 1) := by decide +kernel
theorem dX11_isOwn_55 : decode cX11_isOwn 55 = .ok (.ifCond .eq 27, 3) := by decide +kernel
theorem dX11_isOwn_58 : decode cX11_isOwn 58 = .ok (.lload_n 1, 1) := by decide +kernel
theorem dX11_isOwn_59 : decode cX11_isOwn 59 = .ok (.ldc2_w 276, 3) := by decide +kernel
theorem dX11_isOwn_62 : decode cX11_isOwn 62 = .ok (.lcmp, 1) := by decide +kernel
theorem dX11_isOwn_63 : decode cX11_isOwn 63 = .ok (.ifCond .eq 19, 3) := by decide +kernel
theorem dX11_isOwn_66 : decode cX11_isOwn 66 = .ok (.lload_n 1, 1) := by decide +kernel
theorem dX11_isOwn_67 : decode cX11_isOwn 67 = .ok (.ldc2_w 278, 3) := by decide +kernel
theorem dX11_isOwn_70 : decode cX11_isOwn 70 = .ok (.lcmp, 1) := by decide +kernel
theorem dX11_isOwn_71 : decode cX11_isOwn 71 = .ok (.ifCond .eq 11, 3) := by decide +kernel
theorem dX11_isOwn_74 : decode cX11_isOwn 74 = .ok (.lload_n 1, 1) := by decide +kernel
theorem dX11_isOwn_75 : decode cX11_isOwn 75 = .ok (.ldc2_w 280, 3) := by decide +kernel
theorem dX11_isOwn_78 : decode cX11_isOwn 78 = .ok (.lcmp, 1) := by decide +kernel
theorem dX11_isOwn_79 : decode cX11_isOwn 79 = .ok (.ifCond .ne 5, 3) := by decide +kernel
theorem dX11_isOwn_82 : decode cX11_isOwn 82 = .ok (.iconst 1, 1) := by decide +kernel
theorem dX11_isOwn_83 : decode cX11_isOwn 83 = .ok (.ireturn, 1) := by decide +kernel
theorem dX11_isOwn_84 : decode cX11_isOwn 84 = .ok (.lload_n 1, 1) := by decide +kernel
theorem dX11_isOwn_85 : decode cX11_isOwn 85 = .ok (.ldc2_w 282, 3) := by decide +kernel
theorem dX11_isOwn_88 : decode cX11_isOwn 88 = .ok (.lcmp, 1) := by decide +kernel
theorem dX11_isOwn_89 : decode cX11_isOwn 89 = .ok (.ifCond .eq 35, 3) := by decide +kernel
theorem dX11_isOwn_92 : decode cX11_isOwn 92 = .ok (.lload_n 1, 1) := by decide +kernel
theorem dX11_isOwn_93 : decode cX11_isOwn 93 = .ok (.ldc2_w 284, 3) := by decide +kernel
theorem dX11_isOwn_96 : decode cX11_isOwn 96 = .ok (.lcmp, 1) := by decide +kernel
theorem dX11_isOwn_97 : decode cX11_isOwn 97 = .ok (.ifCond .eq 27, 3) := by decide +kernel
theorem dX11_isOwn_100 : decode cX11_isOwn 100 = .ok (.lload_n 1, 1) := by decide +kernel
theorem dX11_isOwn_101 : decode cX11_isOwn 101 = .ok (.ldc2_w 286, 3) := by decide +kernel
theorem dX11_isOwn_104 : decode cX11_isOwn 104 = .ok (.lcmp, 1) := by decide +kernel
theorem dX11_isOwn_105 : decode cX11_isOwn 105 = .ok (.ifCond .eq 19, 3) := by decide +kernel
theorem dX11_isOwn_108 : decode cX11_isOwn 108 = .ok (.lload_n 1, 1) := by decide +kernel
theorem dX11_isOwn_109 : decode cX11_isOwn 109 = .ok (.ldc2_w 288, 3) := by decide +kernel
theorem dX11_isOwn_112 : decode cX11_isOwn 112 = .ok (.lcmp, 1) := by decide +kernel
theorem dX11_isOwn_113 : decode cX11_isOwn 113 = .ok (.ifCond .eq 11, 3) := by decide +kernel
theorem dX11_isOwn_116 : decode cX11_isOwn 116 = .ok (.lload_n 1, 1) := by decide +kernel
theorem dX11_isOwn_117 : decode cX11_isOwn 117 = .ok (.ldc2_w 290, 3) := by decide +kernel
theorem dX11_isOwn_120 : decode cX11_isOwn 120 = .ok (.lcmp, 1) := by decide +kernel
theorem dX11_isOwn_121 : decode cX11_isOwn 121 = .ok (.ifCond .ne 5, 3) := by decide +kernel
theorem dX11_isOwn_124 : decode cX11_isOwn 124 = .ok (.iconst 1, 1) := by decide +kernel
theorem dX11_isOwn_125 : decode cX11_isOwn 125 = .ok (.ireturn, 1) := by decide +kernel
theorem dX11_isOwn_126 : decode cX11_isOwn 126 = .ok (.lload_n 1, 1) := by decide +kernel
theorem dX11_isOwn_127 : decode cX11_isOwn 127 = .ok (.ldc2_w 292, 3) := by decide +kernel
theorem dX11_isOwn_130 : decode cX11_isOwn 130 = .ok (.lcmp, 1) := by decide +kernel
theorem dX11_isOwn_131 : decode cX11_isOwn 131 = .ok (.ifCond .eq 35, 3) := by decide +kernel
theorem dX11_isOwn_134 : decode cX11_isOwn 134 = .ok (.lload_n 1, 1) := by decide +kernel
theorem dX11_isOwn_135 : decode cX11_isOwn 135 = .ok (.ldc2_w 294, 3) := by decide +kernel
theorem dX11_isOwn_138 : decode cX11_isOwn 138 = .ok (.lcmp, 1) := by decide +kernel
theorem dX11_isOwn_139 : decode cX11_isOwn 139 = .ok (.ifCond .eq 27, 3) := by decide +kernel
theorem dX11_isOwn_142 : decode cX11_isOwn 142 = .ok (.lload_n 1, 1) := by decide +kernel
theorem dX11_isOwn_143 : decode cX11_isOwn 143 = .ok (.ldc2_w 296, 3) := by decide +kernel
theorem dX11_isOwn_146 : decode cX11_isOwn 146 = .ok (.lcmp, 1) := by decide +kernel
theorem dX11_isOwn_147 : decode cX11_isOwn 147 = .ok (.ifCond .eq 19, 3) := by decide +kernel
theorem dX11_isOwn_150 : decode cX11_isOwn 150 = .ok (.lload_n 1, 1) := by decide +kernel
theorem dX11_isOwn_151 : decode cX11_isOwn 151 = .ok (.ldc2_w 298, 3) := by decide +kernel
theorem dX11_isOwn_154 : decode cX11_isOwn 154 = .ok (.lcmp, 1) := by decide +kernel
theorem dX11_isOwn_155 : decode cX11_isOwn 155 = .ok (.ifCond .eq 11, 3) := by decide +kernel
theorem dX11_isOwn_158 : decode cX11_isOwn 158 = .ok (.lload_n 1, 1) := by decide +kernel
theorem dX11_isOwn_159 : decode cX11_isOwn 159 = .ok (.ldc2_w 300, 3) := by decide +kernel
theorem dX11_isOwn_162 : decode cX11_isOwn 162 = .ok (.lcmp, 1) := by decide +kernel
theorem dX11_isOwn_163 : decode cX11_isOwn 163 = .ok (.ifCond .ne 5, 3) := by decide +kernel
theorem dX11_isOwn_166 : decode cX11_isOwn 166 = .ok (.iconst 1, 1) := by decide +kernel
theorem dX11_isOwn_167 : decode cX11_isOwn 167 = .ok (.ireturn, 1) := by decide +kernel
theorem dX11_isOwn_168 : decode cX11_isOwn 168 = .ok (.lload_n 1, 1) := by decide +kernel
theorem dX11_isOwn_169 : decode cX11_isOwn 169 = .ok (.ldc2_w 302, 3) := by decide +kernel
theorem dX11_isOwn_172 : decode cX11_isOwn 172 = .ok (.lcmp, 1) := by decide +kernel
theorem dX11_isOwn_173 : decode cX11_isOwn 173 = .ok (.ifCond .eq 35, 3) := by decide +kernel
theorem dX11_isOwn_176 : decode cX11_isOwn 176 = .ok (.lload_n 1, 1) := by decide +kernel
theorem dX11_isOwn_177 : decode cX11_isOwn 177 = .ok (.ldc2_w 304, 3) := by decide +kernel
theorem dX11_isOwn_180 : decode cX11_isOwn 180 = .ok (.lcmp, 1) := by decide +kernel
theorem dX11_isOwn_181 : decode cX11_isOwn 181 = .ok (.ifCond .eq 27, 3) := by decide +kernel
theorem dX11_isOwn_184 : decode cX11_isOwn 184 = .ok (.lload_n 1, 1) := by decide +kernel
theorem dX11_isOwn_185 : decode cX11_isOwn 185 = .ok (.ldc2_w 306, 3) := by decide +kernel
theorem dX11_isOwn_188 : decode cX11_isOwn 188 = .ok (.lcmp, 1) := by decide +kernel
theorem dX11_isOwn_189 : decode cX11_isOwn 189 = .ok (.ifCond .eq 19, 3) := by decide +kernel
theorem dX11_isOwn_192 : decode cX11_isOwn 192 = .ok (.lload_n 1, 1) := by decide +kernel
theorem dX11_isOwn_193 : decode cX11_isOwn 193 = .ok (.ldc2_w 308, 3) := by decide +kernel
theorem dX11_isOwn_196 : decode cX11_isOwn 196 = .ok (.lcmp, 1) := by decide +kernel
theorem dX11_isOwn_197 : decode cX11_isOwn 197 = .ok (.ifCond .eq 11, 3) := by decide +kernel
theorem dX11_isOwn_200 : decode cX11_isOwn 200 = .ok (.lload_n 1, 1) := by decide +kernel
theorem dX11_isOwn_201 : decode cX11_isOwn 201 = .ok (.ldc2_w 310, 3) := by decide +kernel
theorem dX11_isOwn_204 : decode cX11_isOwn 204 = .ok (.lcmp, 1) := by decide +kernel
theorem dX11_isOwn_205 : decode cX11_isOwn 205 = .ok (.ifCond .ne 5, 3) := by decide +kernel
theorem dX11_isOwn_208 : decode cX11_isOwn 208 = .ok (.iconst 1, 1) := by decide +kernel
theorem dX11_isOwn_209 : decode cX11_isOwn 209 = .ok (.ireturn, 1) := by decide +kernel
theorem dX11_isOwn_210 : decode cX11_isOwn 210 = .ok (.lload_n 1, 1) := by decide +kernel
theorem dX11_isOwn_211 : decode cX11_isOwn 211 = .ok (.ldc2_w 312, 3) := by decide +kernel
theorem dX11_isOwn_214 : decode cX11_isOwn 214 = .ok (.lcmp, 1) := by decide +kernel
theorem dX11_isOwn_215 : decode cX11_isOwn 215 = .ok (.ifCond .eq 27, 3) := by decide +kernel
theorem dX11_isOwn_218 : decode cX11_isOwn 218 = .ok (.lload_n 1, 1) := by decide +kernel
theorem dX11_isOwn_219 : decode cX11_isOwn 219 = .ok (.ldc2_w 314, 3) := by decide +kernel
theorem dX11_isOwn_222 : decode cX11_isOwn 222 = .ok (.lcmp, 1) := by decide +kernel
theorem dX11_isOwn_223 : decode cX11_isOwn 223 = .ok (.ifCond .eq 19, 3) := by decide +kernel
theorem dX11_isOwn_226 : decode cX11_isOwn 226 = .ok (.lload_n 1, 1) := by decide +kernel
theorem dX11_isOwn_227 : decode cX11_isOwn 227 = .ok (.ldc2_w 316, 3) := by decide +kernel
theorem dX11_isOwn_230 : decode cX11_isOwn 230 = .ok (.lcmp, 1) := by decide +kernel
theorem dX11_isOwn_231 : decode cX11_isOwn 231 = .ok (.ifCond .eq 11, 3) := by decide +kernel
theorem dX11_isOwn_234 : decode cX11_isOwn 234 = .ok (.lload_n 1, 1) := by decide +kernel
theorem dX11_isOwn_235 : decode cX11_isOwn 235 = .ok (.ldc2_w 318, 3) := by decide +kernel
theorem dX11_isOwn_238 : decode cX11_isOwn 238 = .ok (.lcmp, 1) := by decide +kernel
theorem dX11_isOwn_239 : decode cX11_isOwn 239 = .ok (.ifCond .ne 5, 3) := by decide +kernel
theorem dX11_isOwn_242 : decode cX11_isOwn 242 = .ok (.iconst 1, 1) := by decide +kernel
theorem dX11_isOwn_243 : decode cX11_isOwn 243 = .ok (.ireturn, 1) := by decide +kernel
theorem dX11_isOwn_244 : decode cX11_isOwn 244 = .ok (.iconst 0, 1) := by decide +kernel
theorem dX11_isOwn_245 : decode cX11_isOwn 245 = .ok (.ireturn, 1) := by decide +kernel
theorem dX11_nameOf_0 : decode cX11_nameOf 0 = .ok (.iload_n 2, 1) := by decide +kernel
theorem dX11_nameOf_1 : decode cX11_nameOf 1 = .ok (.ifCond .ne 16, 3) := by decide +kernel
theorem dX11_nameOf_4 : decode cX11_nameOf 4 = .ok (.aload_n 0, 1) := by decide +kernel
theorem dX11_nameOf_5 : decode cX11_nameOf 5 = .ok (.getfield 60, 3) := by decide +kernel
theorem dX11_nameOf_8 : decode cX11_nameOf 8 = .ok (.iconst 3, 1) := by decide +kernel
theorem dX11_nameOf_9 : decode cX11_nameOf 9 = .ok (.iload_n 1, 1) := by decide +kernel
theorem dX11_nameOf_10 : decode cX11_nameOf 10 = .ok (.imul, 1) := by decide +kernel
theorem dX11_nameOf_11 : decode cX11_nameOf 11 = .ok (.iload_n 3, 1) := by decide +kernel
theorem dX11_nameOf_12 : decode cX11_nameOf 12 = .ok (.iadd, 1) := by decide +kernel
theorem dX11_nameOf_13 : decode cX11_nameOf 13 = .ok (.laload, 1) := by decide +kernel
theorem dX11_nameOf_14 : decode cX11_nameOf 14 = .ok (.goto 31, 3) := by decide +kernel
theorem dX11_nameOf_17 : decode cX11_nameOf 17 = .ok (.iload_n 2, 1) := by decide +kernel
theorem dX11_nameOf_18 : decode cX11_nameOf 18 = .ok (.iconst 1, 1) := by decide +kernel
theorem dX11_nameOf_19 : decode cX11_nameOf 19 = .ok (.if_icmp .ne 16, 3) := by decide +kernel
theorem dX11_nameOf_22 : decode cX11_nameOf 22 = .ok (.aload_n 0, 1) := by decide +kernel
theorem dX11_nameOf_23 : decode cX11_nameOf 23 = .ok (.getfield 85, 3) := by decide +kernel
theorem dX11_nameOf_26 : decode cX11_nameOf 26 = .ok (.iconst 4, 1) := by decide +kernel
theorem dX11_nameOf_27 : decode cX11_nameOf 27 = .ok (.iload_n 1, 1) := by decide +kernel
theorem dX11_nameOf_28 : decode cX11_nameOf 28 = .ok (.imul, 1) := by decide +kernel
theorem dX11_nameOf_29 : decode cX11_nameOf 29 = .ok (.iload_n 3, 1) := by decide +kernel
theorem dX11_nameOf_30 : decode cX11_nameOf 30 = .ok (.iadd, 1) := by decide +kernel
theorem dX11_nameOf_31 : decode cX11_nameOf 31 = .ok (.laload, 1) := by decide +kernel
theorem dX11_nameOf_32 : decode cX11_nameOf 32 = .ok (.goto 13, 3) := by decide +kernel
theorem dX11_nameOf_35 : decode cX11_nameOf 35 = .ok (.aload_n 0, 1) := by decide +kernel
theorem dX11_nameOf_36 : decode cX11_nameOf 36 = .ok (.getfield 100, 3) := by decide +kernel
theorem dX11_nameOf_39 : decode cX11_nameOf 39 = .ok (.iconst 4, 1) := by decide +kernel
theorem dX11_nameOf_40 : decode cX11_nameOf 40 = .ok (.iload_n 1, 1) := by decide +kernel
theorem dX11_nameOf_41 : decode cX11_nameOf 41 = .ok (.imul, 1) := by decide +kernel
theorem dX11_nameOf_42 : decode cX11_nameOf 42 = .ok (.iload_n 3, 1) := by decide +kernel
theorem dX11_nameOf_43 : decode cX11_nameOf 43 = .ok (.iadd, 1) := by decide +kernel
theorem dX11_nameOf_44 : decode cX11_nameOf 44 = .ok (.laload, 1) := by decide +kernel
theorem dX11_nameOf_45 : decode cX11_nameOf 45 = .ok (.lreturn, 1) := by decide +kernel
theorem dX11_named_0 : decode cX11_named 0 = .ok (.iload_n 1, 1) := by decide +kernel
theorem dX11_named_1 : decode cX11_named 1 = .ok (.ifCond .ne 15, 3) := by decide +kernel
theorem dX11_named_4 : decode cX11_named 4 = .ok (.aload_n 0, 1) := by decide +kernel
theorem dX11_named_5 : decode cX11_named 5 = .ok (.getfield 57, 3) := by decide +kernel
theorem dX11_named_8 : decode cX11_named 8 = .ok (.aload_n 0, 1) := by decide +kernel
theorem dX11_named_9 : decode cX11_named 9 = .ok (.getfield 130, 3) := by decide +kernel
theorem dX11_named_12 : decode cX11_named 12 = .ok (.iaload, 1) := by decide +kernel
theorem dX11_named_13 : decode cX11_named 13 = .ok (.goto 29, 3) := by decide +kernel
theorem dX11_named_16 : decode cX11_named 16 = .ok (.iload_n 1, 1) := by decide +kernel
theorem dX11_named_17 : decode cX11_named 17 = .ok (.iconst 1, 1) := by decide +kernel
theorem dX11_named_18 : decode cX11_named 18 = .ok (.if_icmp .ne 15, 3) := by decide +kernel
theorem dX11_named_21 : decode cX11_named 21 = .ok (.aload_n 0, 1) := by decide +kernel
theorem dX11_named_22 : decode cX11_named 22 = .ok (.getfield 82, 3) := by decide +kernel
theorem dX11_named_25 : decode cX11_named 25 = .ok (.aload_n 0, 1) := by decide +kernel
theorem dX11_named_26 : decode cX11_named 26 = .ok (.getfield 130, 3) := by decide +kernel
theorem dX11_named_29 : decode cX11_named 29 = .ok (.iaload, 1) := by decide +kernel
theorem dX11_named_30 : decode cX11_named 30 = .ok (.goto 12, 3) := by decide +kernel
theorem dX11_named_33 : decode cX11_named 33 = .ok (.aload_n 0, 1) := by decide +kernel
theorem dX11_named_34 : decode cX11_named 34 = .ok (.getfield 97, 3) := by decide +kernel
theorem dX11_named_37 : decode cX11_named 37 = .ok (.aload_n 0, 1) := by decide +kernel
theorem dX11_named_38 : decode cX11_named 38 = .ok (.getfield 130, 3) := by decide +kernel
theorem dX11_named_41 : decode cX11_named 41 = .ok (.iaload, 1) := by decide +kernel
theorem dX11_named_42 : decode cX11_named 42 = .ok (.istore 4, 2) := by decide +kernel
theorem dX11_named_44 : decode cX11_named 44 = .ok (.iconst 0, 1) := by decide +kernel
theorem dX11_named_45 : decode cX11_named 45 = .ok (.istore 5, 2) := by decide +kernel
theorem dX11_named_47 : decode cX11_named 47 = .ok (.iload 5, 2) := by decide +kernel
theorem dX11_named_49 : decode cX11_named 49 = .ok (.iload 4, 2) := by decide +kernel
theorem dX11_named_51 : decode cX11_named 51 = .ok (.if_icmp .ge 28, 3) := by decide +kernel
theorem dX11_named_54 : decode cX11_named 54 = .ok (.aload_n 0, 1) := by decide +kernel
theorem dX11_named_55 : decode cX11_named 55 = .ok (.aload_n 0, 1) := by decide +kernel
theorem dX11_named_56 : decode cX11_named 56 = .ok (.getfield 130, 3) := by decide +kernel
theorem dX11_named_59 : decode cX11_named 59 = .ok (.iload_n 1, 1) := by decide +kernel
theorem dX11_named_60 : decode cX11_named 60 = .ok (.iload 5, 2) := by decide +kernel
theorem dX11_named_62 : decode cX11_named 62 = .ok (.invokevirtual 320, 3) := by decide +kernel
theorem dX11_named_65 : decode cX11_named 65 = .ok (.lload_n 2, 1) := by decide +kernel
theorem dX11_named_66 : decode cX11_named 66 = .ok (.lcmp, 1) := by decide +kernel
theorem dX11_named_67 : decode cX11_named 67 = .ok (.ifCond .ne 6, 3) := by decide +kernel
theorem dX11_named_70 : decode cX11_named 70 = .ok (.iload 5, 2) := by decide +kernel
theorem dX11_named_72 : decode cX11_named 72 = .ok (.ireturn, 1) := by decide +kernel
theorem dX11_named_73 : decode cX11_named 73 = .ok (.iinc 5 1, 3) := by decide +kernel
theorem dX11_named_76 : decode cX11_named 76 = .ok (.goto (-29), 3) := by decide +kernel
theorem dX11_named_79 : decode cX11_named 79 = .ok (.iconst (-1), 1) := by decide +kernel
theorem dX11_named_80 : decode cX11_named 80 = .ok (.ireturn, 1) := by decide +kernel
theorem dX11_number_0 : decode cX11_number 0 = .ok (.aload_n 0, 1) := by decide +kernel
theorem dX11_number_1 : decode cX11_number 1 = .ok (.getfield 36, 3) := by decide +kernel
theorem dX11_number_4 : decode cX11_number 4 = .ok (.ifCond .le 5, 3) := by decide +kernel
theorem dX11_number_7 : decode cX11_number 7 = .ok (.iconst 0, 1) := by decide +kernel
theorem dX11_number_8 : decode cX11_number 8 = .ok (.ireturn, 1) := by decide +kernel
theorem dX11_number_9 : decode cX11_number 9 = .ok (.aload_n 0, 1) := by decide +kernel
theorem dX11_number_10 : decode cX11_number 10 = .ok (.getfield 20, 3) := by decide +kernel
theorem dX11_number_13 : decode cX11_number 13 = .ok (.iconst 2, 1) := by decide +kernel
theorem dX11_number_14 : decode cX11_number 14 = .ok (.if_icmp .eq 12, 3) := by decide +kernel
theorem dX11_number_17 : decode cX11_number 17 = .ok (.aload_n 0, 1) := by decide +kernel
theorem dX11_number_18 : decode cX11_number 18 = .ok (.iconst 1, 1) := by decide +kernel
theorem dX11_number_19 : decode cX11_number 19 = .ok (.aload_n 0, 1) := by decide +kernel
theorem dX11_number_20 : decode cX11_number 20 = .ok (.getfield 23, 3) := by decide +kernel
theorem dX11_number_23 : decode cX11_number 23 = .ok (.invokevirtual 252, 3) := by decide +kernel
theorem dX11_number_26 : decode cX11_number 26 = .ok (.aload_n 0, 1) := by decide +kernel
theorem dX11_number_27 : decode cX11_number 27 = .ok (.getfield 36, 3) := by decide +kernel
theorem dX11_number_30 : decode cX11_number 30 = .ok (.ifCond .ne 24, 3) := by decide +kernel
theorem dX11_number_33 : decode cX11_number 33 = .ok (.aload_n 0, 1) := by decide +kernel
theorem dX11_number_34 : decode cX11_number 34 = .ok (.getfield 29, 3) := by decide +kernel
theorem dX11_number_37 : decode cX11_number 37 = .ok (.iload_n 1, 1) := by decide +kernel
theorem dX11_number_38 : decode cX11_number 38 = .ok (.iload_n 2, 1) := by decide +kernel
theorem dX11_number_39 : decode cX11_number 39 = .ok (.invokestatic 324, 3) := by decide +kernel
theorem dX11_number_42 : decode cX11_number 42 = .ok (.ifCond .ne 12, 3) := by decide +kernel
theorem dX11_number_45 : decode cX11_number 45 = .ok (.aload_n 0, 1) := by decide +kernel
theorem dX11_number_46 : decode cX11_number 46 = .ok (.iconst 4, 1) := by decide +kernel
theorem dX11_number_47 : decode cX11_number 47 = .ok (.aload_n 0, 1) := by decide +kernel
theorem dX11_number_48 : decode cX11_number 48 = .ok (.getfield 23, 3) := by decide +kernel
theorem dX11_number_51 : decode cX11_number 51 = .ok (.invokevirtual 252, 3) := by decide +kernel
theorem dX11_number_54 : decode cX11_number 54 = .ok (.aload_n 0, 1) := by decide +kernel
theorem dX11_number_55 : decode cX11_number 55 = .ok (.getfield 29, 3) := by decide +kernel
theorem dX11_number_58 : decode cX11_number 58 = .ok (.istore_n 3, 1) := by decide +kernel
theorem dX11_number_59 : decode cX11_number 59 = .ok (.aload_n 0, 1) := by decide +kernel
theorem dX11_number_60 : decode cX11_number 60 = .ok (.getfield 36, 3) := by decide +kernel
theorem dX11_number_63 : decode cX11_number 63 = .ok (.ifCond .ne 7, 3) := by decide +kernel
theorem dX11_number_66 : decode cX11_number 66 = .ok (.aload_n 0, 1) := by decide +kernel
theorem dX11_number_67 : decode cX11_number 67 = .ok (.invokevirtual 259, 3) := by decide +kernel
theorem dX11_number_70 : decode cX11_number 70 = .ok (.iload_n 3, 1) := by decide +kernel
theorem dX11_number_71 : decode cX11_number 71 = .ok (.ireturn, 1) := by decide +kernel
theorem dX11_add_0 : decode cX11_add 0 = .ok (.aload_n 0, 1) := by decide +kernel
theorem dX11_add_1 : decode cX11_add 1 = .ok (.getfield 121, 3) := by decide +kernel
theorem dX11_add_4 : decode cX11_add 4 = .ok (.sipush 1600, 3) := by decide +kernel
theorem dX11_add_7 : decode cX11_add 7 = .ok (.aload_n 0, 1) := by decide +kernel
theorem dX11_add_8 : decode cX11_add 8 = .ok (.getfield 130, 3) := by decide +kernel
theorem dX11_add_11 : decode cX11_add 11 = .ok (.imul, 1) := by decide +kernel
theorem dX11_add_12 : decode cX11_add 12 = .ok (.aload_n 0, 1) := by decide +kernel
theorem dX11_add_13 : decode cX11_add 13 = .ok (.getfield 127, 3) := by decide +kernel
theorem dX11_add_16 : decode cX11_add 16 = .ok (.iadd, 1) := by decide +kernel
theorem dX11_add_17 : decode cX11_add 17 = .ok (.iload_n 1, 1) := by decide +kernel
theorem dX11_add_18 : decode cX11_add 18 = .ok (.iastore, 1) := by decide +kernel
theorem dX11_add_19 : decode cX11_add 19 = .ok (.aload_n 0, 1) := by decide +kernel
theorem dX11_add_20 : decode cX11_add 20 = .ok (.getfield 124, 3) := by decide +kernel
theorem dX11_add_23 : decode cX11_add 23 = .ok (.sipush 1600, 3) := by decide +kernel
theorem dX11_add_26 : decode cX11_add 26 = .ok (.aload_n 0, 1) := by decide +kernel
theorem dX11_add_27 : decode cX11_add 27 = .ok (.getfield 130, 3) := by decide +kernel
theorem dX11_add_30 : decode cX11_add 30 = .ok (.imul, 1) := by decide +kernel
theorem dX11_add_31 : decode cX11_add 31 = .ok (.aload_n 0, 1) := by decide +kernel
theorem dX11_add_32 : decode cX11_add 32 = .ok (.getfield 127, 3) := by decide +kernel
theorem dX11_add_35 : decode cX11_add 35 = .ok (.iadd, 1) := by decide +kernel
theorem dX11_add_36 : decode cX11_add 36 = .ok (.iload_n 2, 1) := by decide +kernel
theorem dX11_add_37 : decode cX11_add 37 = .ok (.iastore, 1) := by decide +kernel
theorem dX11_add_38 : decode cX11_add 38 = .ok (.aload_n 0, 1) := by decide +kernel
theorem dX11_add_39 : decode cX11_add 39 = .ok (.dup, 1) := by decide +kernel
theorem dX11_add_40 : decode cX11_add 40 = .ok (.getfield 127, 3) := by decide +kernel
theorem dX11_add_43 : decode cX11_add 43 = .ok (.iconst 1, 1) := by decide +kernel
theorem dX11_add_44 : decode cX11_add 44 = .ok (.iadd, 1) := by decide +kernel
theorem dX11_add_45 : decode cX11_add 45 = .ok (.putfield 127, 3) := by decide +kernel
theorem dX11_add_48 : decode cX11_add 48 = .ok (.return_, 1) := by decide +kernel
theorem dX11_rank_0 : decode cX11_rank 0 = .ok (.iload_n 0, 1) := by decide +kernel
theorem dX11_rank_1 : decode cX11_rank 1 = .ok (.bipush 21, 2) := by decide +kernel
theorem dX11_rank_3 : decode cX11_rank 3 = .ok (.if_icmp .ne 7, 3) := by decide +kernel
theorem dX11_rank_6 : decode cX11_rank 6 = .ok (.iconst 1, 1) := by decide +kernel
theorem dX11_rank_7 : decode cX11_rank 7 = .ok (.goto 63, 3) := by decide +kernel
theorem dX11_rank_10 : decode cX11_rank 10 = .ok (.iload_n 0, 1) := by decide +kernel
theorem dX11_rank_11 : decode cX11_rank 11 = .ok (.bipush 20, 2) := by decide +kernel
theorem dX11_rank_13 : decode cX11_rank 13 = .ok (.if_icmp .ne 7, 3) := by decide +kernel
theorem dX11_rank_16 : decode cX11_rank 16 = .ok (.iconst 2, 1) := by decide +kernel
theorem dX11_rank_17 : decode cX11_rank 17 = .ok (.goto 53, 3) := by decide +kernel
theorem dX11_rank_20 : decode cX11_rank 20 = .ok (.iload_n 0, 1) := by decide +kernel
theorem dX11_rank_21 : decode cX11_rank 21 = .ok (.bipush 22, 2) := by decide +kernel
theorem dX11_rank_23 : decode cX11_rank 23 = .ok (.if_icmp .ne 7, 3) := by decide +kernel
theorem dX11_rank_26 : decode cX11_rank 26 = .ok (.iconst 3, 1) := by decide +kernel
theorem dX11_rank_27 : decode cX11_rank 27 = .ok (.goto 43, 3) := by decide +kernel
theorem dX11_rank_30 : decode cX11_rank 30 = .ok (.iload_n 0, 1) := by decide +kernel
theorem dX11_rank_31 : decode cX11_rank 31 = .ok (.bipush 17, 2) := by decide +kernel
theorem dX11_rank_33 : decode cX11_rank 33 = .ok (.if_icmp .eq 15, 3) := by decide +kernel
theorem dX11_rank_36 : decode cX11_rank 36 = .ok (.iload_n 0, 1) := by decide +kernel
theorem dX11_rank_37 : decode cX11_rank 37 = .ok (.bipush 18, 2) := by decide +kernel
theorem dX11_rank_39 : decode cX11_rank 39 = .ok (.if_icmp .eq 9, 3) := by decide +kernel
theorem dX11_rank_42 : decode cX11_rank 42 = .ok (.iload_n 0, 1) := by decide +kernel
theorem dX11_rank_43 : decode cX11_rank 43 = .ok (.bipush 19, 2) := by decide +kernel
theorem dX11_rank_45 : decode cX11_rank 45 = .ok (.if_icmp .ne 7, 3) := by decide +kernel
theorem dX11_rank_48 : decode cX11_rank 48 = .ok (.iconst 4, 1) := by decide +kernel
theorem dX11_rank_49 : decode cX11_rank 49 = .ok (.goto 21, 3) := by decide +kernel
theorem dX11_rank_52 : decode cX11_rank 52 = .ok (.iload_n 0, 1) := by decide +kernel
theorem dX11_rank_53 : decode cX11_rank 53 = .ok (.bipush 10, 2) := by decide +kernel
theorem dX11_rank_55 : decode cX11_rank 55 = .ok (.if_icmp .eq 9, 3) := by decide +kernel
theorem dX11_rank_58 : decode cX11_rank 58 = .ok (.iload_n 0, 1) := by decide +kernel
theorem dX11_rank_59 : decode cX11_rank 59 = .ok (.bipush 11, 2) := by decide +kernel
theorem dX11_rank_61 : decode cX11_rank 61 = .ok (.if_icmp .ne 7, 3) := by decide +kernel
theorem dX11_rank_64 : decode cX11_rank 64 = .ok (.iconst 5, 1) := by decide +kernel
theorem dX11_rank_65 : decode cX11_rank 65 = .ok (.goto 5, 3) := by decide +kernel
theorem dX11_rank_68 : decode cX11_rank 68 = .ok (.bipush 6, 2) := by decide +kernel
theorem dX11_rank_70 : decode cX11_rank 70 = .ok (.ireturn, 1) := by decide +kernel
theorem dX11_joins_0 : decode cX11_joins 0 = .ok (.aload_n 0, 1) := by decide +kernel
theorem dX11_joins_1 : decode cX11_joins 1 = .ok (.getfield 158, 3) := by decide +kernel
theorem dX11_joins_4 : decode cX11_joins 4 = .ok (.aload_n 0, 1) := by decide +kernel
theorem dX11_joins_5 : decode cX11_joins 5 = .ok (.getfield 146, 3) := by decide +kernel
theorem dX11_joins_8 : decode cX11_joins 8 = .ok (.aload_n 0, 1) := by decide +kernel
theorem dX11_joins_9 : decode cX11_joins 9 = .ok (.getfield 149, 3) := by decide +kernel
theorem dX11_joins_12 : decode cX11_joins 12 = .ok (.iconst 1, 1) := by decide +kernel
theorem dX11_joins_13 : decode cX11_joins 13 = .ok (.isub, 1) := by decide +kernel
theorem dX11_joins_14 : decode cX11_joins 14 = .ok (.iaload, 1) := by decide +kernel
theorem dX11_joins_15 : decode cX11_joins 15 = .ok (.if_icmp .le 48, 3) := by decide +kernel
theorem dX11_joins_18 : decode cX11_joins 18 = .ok (.aload_n 0, 1) := by decide +kernel
theorem dX11_joins_19 : decode cX11_joins 19 = .ok (.getfield 155, 3) := by decide +kernel
theorem dX11_joins_22 : decode cX11_joins 22 = .ok (.aload_n 0, 1) := by decide +kernel
theorem dX11_joins_23 : decode cX11_joins 23 = .ok (.getfield 158, 3) := by decide +kernel
theorem dX11_joins_26 : decode cX11_joins 26 = .ok (.iconst 1, 1) := by decide +kernel
theorem dX11_joins_27 : decode cX11_joins 27 = .ok (.isub, 1) := by decide +kernel
theorem dX11_joins_28 : decode cX11_joins 28 = .ok (.iaload, 1) := by decide +kernel
theorem dX11_joins_29 : decode cX11_joins 29 = .ok (.invokestatic 328, 3) := by decide +kernel
theorem dX11_joins_32 : decode cX11_joins 32 = .ok (.iload_n 1, 1) := by decide +kernel
theorem dX11_joins_33 : decode cX11_joins 33 = .ok (.if_icmp .lt 30, 3) := by decide +kernel
theorem dX11_joins_36 : decode cX11_joins 36 = .ok (.aload_n 0, 1) := by decide +kernel
theorem dX11_joins_37 : decode cX11_joins 37 = .ok (.dup, 1) := by decide +kernel
theorem dX11_joins_38 : decode cX11_joins 38 = .ok (.getfield 158, 3) := by decide +kernel
theorem dX11_joins_41 : decode cX11_joins 41 = .ok (.iconst 1, 1) := by decide +kernel
theorem dX11_joins_42 : decode cX11_joins 42 = .ok (.isub, 1) := by decide +kernel
theorem dX11_joins_43 : decode cX11_joins 43 = .ok (.putfield 158, 3) := by decide +kernel
theorem dX11_joins_46 : decode cX11_joins 46 = .ok (.aload_n 0, 1) := by decide +kernel
theorem dX11_joins_47 : decode cX11_joins 47 = .ok (.aload_n 0, 1) := by decide +kernel
theorem dX11_joins_48 : decode cX11_joins 48 = .ok (.getfield 155, 3) := by decide +kernel
theorem dX11_joins_51 : decode cX11_joins 51 = .ok (.aload_n 0, 1) := by decide +kernel
theorem dX11_joins_52 : decode cX11_joins 52 = .ok (.getfield 158, 3) := by decide +kernel
theorem dX11_joins_55 : decode cX11_joins 55 = .ok (.iaload, 1) := by decide +kernel
theorem dX11_joins_56 : decode cX11_joins 56 = .ok (.iconst 0, 1) := by decide +kernel
theorem dX11_joins_57 : decode cX11_joins 57 = .ok (.invokevirtual 331, 3) := by decide +kernel
theorem dX11_joins_60 : decode cX11_joins 60 = .ok (.goto (-60), 3) := by decide +kernel
theorem dX11_joins_63 : decode cX11_joins 63 = .ok (.return_, 1) := by decide +kernel
theorem dX11_holdsBack_0 : decode cX11_holdsBack 0 = .ok (.aload_n 0, 1) := by decide +kernel
theorem dX11_holdsBack_1 : decode cX11_holdsBack 1 = .ok (.getfield 155, 3) := by decide +kernel
theorem dX11_holdsBack_4 : decode cX11_holdsBack 4 = .ok (.aload_n 0, 1) := by decide +kernel
theorem dX11_holdsBack_5 : decode cX11_holdsBack 5 = .ok (.getfield 158, 3) := by decide +kernel
theorem dX11_holdsBack_8 : decode cX11_holdsBack 8 = .ok (.iload_n 1, 1) := by decide +kernel
theorem dX11_holdsBack_9 : decode cX11_holdsBack 9 = .ok (.iastore, 1) := by decide +kernel
theorem dX11_holdsBack_10 : decode cX11_holdsBack 10 = .ok (.aload_n 0, 1) := by decide +kernel
theorem dX11_holdsBack_11 : decode cX11_holdsBack 11 = .ok (.dup, 1) := by decide +kernel
theorem dX11_holdsBack_12 : decode cX11_holdsBack 12 = .ok (.getfield 158, 3) := by decide +kernel
theorem dX11_holdsBack_15 : decode cX11_holdsBack 15 = .ok (.iconst 1, 1) := by decide +kernel
theorem dX11_holdsBack_16 : decode cX11_holdsBack 16 = .ok (.iadd, 1) := by decide +kernel
theorem dX11_holdsBack_17 : decode cX11_holdsBack 17 = .ok (.putfield 158, 3) := by decide +kernel
theorem dX11_holdsBack_20 : decode cX11_holdsBack 20 = .ok (.return_, 1) := by decide +kernel
theorem dX11_pushes_0 : decode cX11_pushes 0 = .ok (.aload_n 0, 1) := by decide +kernel
theorem dX11_pushes_1 : decode cX11_pushes 1 = .ok (.getfield 133, 3) := by decide +kernel
theorem dX11_pushes_4 : decode cX11_pushes 4 = .ok (.aload_n 0, 1) := by decide +kernel
theorem dX11_pushes_5 : decode cX11_pushes 5 = .ok (.getfield 149, 3) := by decide +kernel
theorem dX11_pushes_8 : decode cX11_pushes 8 = .ok (.iload_n 1, 1) := by decide +kernel
theorem dX11_pushes_9 : decode cX11_pushes 9 = .ok (.iastore, 1) := by decide +kernel
theorem dX11_pushes_10 : decode cX11_pushes 10 = .ok (.aload_n 0, 1) := by decide +kernel
theorem dX11_pushes_11 : decode cX11_pushes 11 = .ok (.getfield 136, 3) := by decide +kernel
theorem dX11_pushes_14 : decode cX11_pushes 14 = .ok (.aload_n 0, 1) := by decide +kernel
theorem dX11_pushes_15 : decode cX11_pushes 15 = .ok (.getfield 149, 3) := by decide +kernel
theorem dX11_pushes_18 : decode cX11_pushes 18 = .ok (.iconst 0, 1) := by decide +kernel
theorem dX11_pushes_19 : decode cX11_pushes 19 = .ok (.iastore, 1) := by decide +kernel
theorem dX11_pushes_20 : decode cX11_pushes 20 = .ok (.aload_n 0, 1) := by decide +kernel
theorem dX11_pushes_21 : decode cX11_pushes 21 = .ok (.getfield 139, 3) := by decide +kernel
theorem dX11_pushes_24 : decode cX11_pushes 24 = .ok (.aload_n 0, 1) := by decide +kernel
theorem dX11_pushes_25 : decode cX11_pushes 25 = .ok (.getfield 149, 3) := by decide +kernel
theorem dX11_pushes_28 : decode cX11_pushes 28 = .ok (.iconst 1, 1) := by decide +kernel
theorem dX11_pushes_29 : decode cX11_pushes 29 = .ok (.bastore, 1) := by decide +kernel
theorem dX11_pushes_30 : decode cX11_pushes 30 = .ok (.aload_n 0, 1) := by decide +kernel
theorem dX11_pushes_31 : decode cX11_pushes 31 = .ok (.getfield 146, 3) := by decide +kernel
theorem dX11_pushes_34 : decode cX11_pushes 34 = .ok (.aload_n 0, 1) := by decide +kernel
theorem dX11_pushes_35 : decode cX11_pushes 35 = .ok (.getfield 149, 3) := by decide +kernel
theorem dX11_pushes_38 : decode cX11_pushes 38 = .ok (.aload_n 0, 1) := by decide +kernel
theorem dX11_pushes_39 : decode cX11_pushes 39 = .ok (.getfield 158, 3) := by decide +kernel
theorem dX11_pushes_42 : decode cX11_pushes 42 = .ok (.iastore, 1) := by decide +kernel
theorem dX11_pushes_43 : decode cX11_pushes 43 = .ok (.aload_n 0, 1) := by decide +kernel
theorem dX11_pushes_44 : decode cX11_pushes 44 = .ok (.dup, 1) := by decide +kernel
theorem dX11_pushes_45 : decode cX11_pushes 45 = .ok (.getfield 149, 3) := by decide +kernel
theorem dX11_pushes_48 : decode cX11_pushes 48 = .ok (.iconst 1, 1) := by decide +kernel
theorem dX11_pushes_49 : decode cX11_pushes 49 = .ok (.iadd, 1) := by decide +kernel
theorem dX11_pushes_50 : decode cX11_pushes 50 = .ok (.putfield 149, 3) := by decide +kernel
