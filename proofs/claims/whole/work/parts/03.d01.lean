theorem dX0_init_0 : decode cX0_init 0 = .ok (.aload_n 0, 1) := by decide +kernel
theorem dX0_init_1 : decode cX0_init 1 = .ok (.invokespecial 3, 3) := by decide +kernel
theorem dX0_init_4 : decode cX0_init 4 = .ok (.aload_n 0, 1) := by decide +kernel
theorem dX0_init_5 : decode cX0_init 5 = .ok (.iconst 3, 1) := by decide +kernel
theorem dX0_init_6 : decode cX0_init 6 = .ok (.newarray .int, 2) := by decide +kernel
theorem dX0_init_8 : decode cX0_init 8 = .ok (.putfield 9, 3) := by decide +kernel
theorem dX0_init_11 : decode cX0_init 11 = .ok (.aload_n 0, 1) := by decide +kernel
theorem dX0_init_12 : decode cX0_init 12 = .ok (.iconst 3, 1) := by decide +kernel
theorem dX0_init_13 : decode cX0_init 13 = .ok (.newarray .int, 2) := by decide +kernel
theorem dX0_init_15 : decode cX0_init 15 = .ok (.putfield 15, 3) := by decide +kernel
theorem dX0_init_18 : decode cX0_init 18 = .ok (.aload_n 0, 1) := by decide +kernel
theorem dX0_init_19 : decode cX0_init 19 = .ok (.iconst 3, 1) := by decide +kernel
theorem dX0_init_20 : decode cX0_init 20 = .ok (.newarray .int, 2) := by decide +kernel
theorem dX0_init_22 : decode cX0_init 22 = .ok (.putfield 18, 3) := by decide +kernel
theorem dX0_init_25 : decode cX0_init 25 = .ok (.return_, 1) := by decide +kernel
theorem dX0_begin_0 : decode cX0_begin 0 = .ok (.aload_n 0, 1) := by decide +kernel
theorem dX0_begin_1 : decode cX0_begin 1 = .ok (.iload_n 1, 1) := by decide +kernel
theorem dX0_begin_2 : decode cX0_begin 2 = .ok (.putfield 21, 3) := by decide +kernel
theorem dX0_begin_5 : decode cX0_begin 5 = .ok (.aload_n 0, 1) := by decide +kernel
theorem dX0_begin_6 : decode cX0_begin 6 = .ok (.iconst 0, 1) := by decide +kernel
theorem dX0_begin_7 : decode cX0_begin 7 = .ok (.putfield 25, 3) := by decide +kernel
theorem dX0_begin_10 : decode cX0_begin 10 = .ok (.aload_n 0, 1) := by decide +kernel
theorem dX0_begin_11 : decode cX0_begin 11 = .ok (.iconst 0, 1) := by decide +kernel
theorem dX0_begin_12 : decode cX0_begin 12 = .ok (.putfield 28, 3) := by decide +kernel
theorem dX0_begin_15 : decode cX0_begin 15 = .ok (.aload_n 0, 1) := by decide +kernel
theorem dX0_begin_16 : decode cX0_begin 16 = .ok (.iconst 0, 1) := by decide +kernel
theorem dX0_begin_17 : decode cX0_begin 17 = .ok (.putfield 31, 3) := by decide +kernel
theorem dX0_begin_20 : decode cX0_begin 20 = .ok (.aload_n 0, 1) := by decide +kernel
theorem dX0_begin_21 : decode cX0_begin 21 = .ok (.iconst 0, 1) := by decide +kernel
theorem dX0_begin_22 : decode cX0_begin 22 = .ok (.putfield 34, 3) := by decide +kernel
theorem dX0_begin_25 : decode cX0_begin 25 = .ok (.aload_n 0, 1) := by decide +kernel
theorem dX0_begin_26 : decode cX0_begin 26 = .ok (.iconst (-1), 1) := by decide +kernel
theorem dX0_begin_27 : decode cX0_begin 27 = .ok (.putfield 37, 3) := by decide +kernel
theorem dX0_begin_30 : decode cX0_begin 30 = .ok (.aload_n 0, 1) := by decide +kernel
theorem dX0_begin_31 : decode cX0_begin 31 = .ok (.iconst 0, 1) := by decide +kernel
theorem dX0_begin_32 : decode cX0_begin 32 = .ok (.putfield 40, 3) := by decide +kernel
theorem dX0_begin_35 : decode cX0_begin 35 = .ok (.aload_n 0, 1) := by decide +kernel
theorem dX0_begin_36 : decode cX0_begin 36 = .ok (.iconst 0, 1) := by decide +kernel
theorem dX0_begin_37 : decode cX0_begin 37 = .ok (.putfield 43, 3) := by decide +kernel
theorem dX0_begin_40 : decode cX0_begin 40 = .ok (.aload_n 0, 1) := by decide +kernel
theorem dX0_begin_41 : decode cX0_begin 41 = .ok (.getfield 9, 3) := by decide +kernel
theorem dX0_begin_44 : decode cX0_begin 44 = .ok (.iconst 0, 1) := by decide +kernel
theorem dX0_begin_45 : decode cX0_begin 45 = .ok (.invokestatic 46, 3) := by decide +kernel
theorem dX0_begin_48 : decode cX0_begin 48 = .ok (.aload_n 0, 1) := by decide +kernel
theorem dX0_begin_49 : decode cX0_begin 49 = .ok (.getfield 15, 3) := by decide +kernel
theorem dX0_begin_52 : decode cX0_begin 52 = .ok (.iconst (-1), 1) := by decide +kernel
theorem dX0_begin_53 : decode cX0_begin 53 = .ok (.invokestatic 46, 3) := by decide +kernel
theorem dX0_begin_56 : decode cX0_begin 56 = .ok (.aload_n 0, 1) := by decide +kernel
theorem dX0_begin_57 : decode cX0_begin 57 = .ok (.getfield 18, 3) := by decide +kernel
theorem dX0_begin_60 : decode cX0_begin 60 = .ok (.iconst 0, 1) := by decide +kernel
theorem dX0_begin_61 : decode cX0_begin 61 = .ok (.invokestatic 46, 3) := by decide +kernel
theorem dX0_begin_64 : decode cX0_begin 64 = .ok (.return_, 1) := by decide +kernel
theorem dX0_copyFrom_0 : decode cX0_copyFrom 0 = .ok (.aload_n 0, 1) := by decide +kernel
theorem dX0_copyFrom_1 : decode cX0_copyFrom 1 = .ok (.aload_n 1, 1) := by decide +kernel
theorem dX0_copyFrom_2 : decode cX0_copyFrom 2 = .ok (.getfield 25, 3) := by decide +kernel
theorem dX0_copyFrom_5 : decode cX0_copyFrom 5 = .ok (.putfield 25, 3) := by decide +kernel
theorem dX0_copyFrom_8 : decode cX0_copyFrom 8 = .ok (.aload_n 0, 1) := by decide +kernel
theorem dX0_copyFrom_9 : decode cX0_copyFrom 9 = .ok (.aload_n 1, 1) := by decide +kernel
theorem dX0_copyFrom_10 : decode cX0_copyFrom 10 = .ok (.getfield 28, 3) := by decide +kernel
theorem dX0_copyFrom_13 : decode cX0_copyFrom 13 = .ok (.putfield 28, 3) := by decide +kernel
theorem dX0_copyFrom_16 : decode cX0_copyFrom 16 = .ok (.aload_n 0, 1) := by decide +kernel
theorem dX0_copyFrom_17 : decode cX0_copyFrom 17 = .ok (.aload_n 1, 1) := by decide +kernel
theorem dX0_copyFrom_18 : decode cX0_copyFrom 18 = .ok (.getfield 31, 3) := by decide +kernel
theorem dX0_copyFrom_21 : decode cX0_copyFrom 21 = .ok (.putfield 31, 3) := by decide +kernel
theorem dX0_copyFrom_24 : decode cX0_copyFrom 24 = .ok (.aload_n 0, 1) := by decide +kernel
theorem dX0_copyFrom_25 : decode cX0_copyFrom 25 = .ok (.aload_n 1, 1) := by decide +kernel
theorem dX0_copyFrom_26 : decode cX0_copyFrom 26 = .ok (.getfield 34, 3) := by decide +kernel
theorem dX0_copyFrom_29 : decode cX0_copyFrom 29 = .ok (.putfield 34, 3) := by decide +kernel
theorem dX0_copyFrom_32 : decode cX0_copyFrom 32 = .ok (.iconst 0, 1) := by decide +kernel
theorem dX0_copyFrom_33 : decode cX0_copyFrom 33 = .ok (.istore_n 2, 1) := by decide +kernel
theorem dX0_copyFrom_34 : decode cX0_copyFrom 34 = .ok (.iload_n 2, 1) := by decide +kernel
theorem dX0_copyFrom_35 : decode cX0_copyFrom 35 = .ok (.iconst 3, 1) := by decide +kernel
theorem dX0_copyFrom_36 : decode cX0_copyFrom 36 = .ok (.if_icmp .ge 45, 3) := by decide +kernel
theorem dX0_copyFrom_39 : decode cX0_copyFrom 39 = .ok (.aload_n 0, 1) := by decide +kernel
theorem dX0_copyFrom_40 : decode cX0_copyFrom 40 = .ok (.getfield 9, 3) := by decide +kernel
theorem dX0_copyFrom_43 : decode cX0_copyFrom 43 = .ok (.iload_n 2, 1) := by decide +kernel
theorem dX0_copyFrom_44 : decode cX0_copyFrom 44 = .ok (.aload_n 1, 1) := by decide +kernel
theorem dX0_copyFrom_45 : decode cX0_copyFrom 45 = .ok (.getfield 9, 3) := by decide +kernel
theorem dX0_copyFrom_48 : decode cX0_copyFrom 48 = .ok (.iload_n 2, 1) := by decide +kernel
theorem dX0_copyFrom_49 : decode cX0_copyFrom 49 = .ok (.iaload, 1) := by decide +kernel
theorem dX0_copyFrom_50 : decode cX0_copyFrom 50 = .ok (.iastore, 1) := by decide +kernel
theorem dX0_copyFrom_51 : decode cX0_copyFrom 51 = .ok (.aload_n 0, 1) := by decide +kernel
theorem dX0_copyFrom_52 : decode cX0_copyFrom 52 = .ok (.getfield 15, 3) := by decide +kernel
theorem dX0_copyFrom_55 : decode cX0_copyFrom 55 = .ok (.iload_n 2, 1) := by decide +kernel
theorem dX0_copyFrom_56 : decode cX0_copyFrom 56 = .ok (.aload_n 1, 1) := by decide +kernel
theorem dX0_copyFrom_57 : decode cX0_copyFrom 57 = .ok (.getfield 15, 3) := by decide +kernel
theorem dX0_copyFrom_60 : decode cX0_copyFrom 60 = .ok (.iload_n 2, 1) := by decide +kernel
theorem dX0_copyFrom_61 : decode cX0_copyFrom 61 = .ok (.iaload, 1) := by decide +kernel
theorem dX0_copyFrom_62 : decode cX0_copyFrom 62 = .ok (.iastore, 1) := by decide +kernel
theorem dX0_copyFrom_63 : decode cX0_copyFrom 63 = .ok (.aload_n 0, 1) := by decide +kernel
theorem dX0_copyFrom_64 : decode cX0_copyFrom 64 = .ok (.getfield 18, 3) := by decide +kernel
theorem dX0_copyFrom_67 : decode cX0_copyFrom 67 = .ok (.iload_n 2, 1) := by decide +kernel
theorem dX0_copyFrom_68 : decode cX0_copyFrom 68 = .ok (.aload_n 1, 1) := by decide +kernel
theorem dX0_copyFrom_69 : decode cX0_copyFrom 69 = .ok (.getfield 18, 3) := by decide +kernel
theorem dX0_copyFrom_72 : decode cX0_copyFrom 72 = .ok (.iload_n 2, 1) := by decide +kernel
theorem dX0_copyFrom_73 : decode cX0_copyFrom 73 = .ok (.iaload, 1) := by decide +kernel
theorem dX0_copyFrom_74 : decode cX0_copyFrom 74 = .ok (.iastore, 1) := by decide +kernel
theorem dX0_copyFrom_75 : decode cX0_copyFrom 75 = .ok (.iinc 2 1, 3) := by decide +kernel
theorem dX0_copyFrom_78 : decode cX0_copyFrom 78 = .ok (.goto (-44), 3) := by decide +kernel
theorem dX0_copyFrom_81 : decode cX0_copyFrom 81 = .ok (.return_, 1) := by decide +kernel
theorem dX0_hasEar_0 : decode cX0_hasEar 0 = .ok (.iload_n 1, 1) := by decide +kernel
theorem dX0_hasEar_1 : decode cX0_hasEar 1 = .ok (.ifCond .lt 24, 3) := by decide +kernel
theorem dX0_hasEar_4 : decode cX0_hasEar 4 = .ok (.iload_n 1, 1) := by decide +kernel
theorem dX0_hasEar_5 : decode cX0_hasEar 5 = .ok (.iconst 3, 1) := by decide +kernel
theorem dX0_hasEar_6 : decode cX0_hasEar 6 = .ok (.if_icmp .ge 19, 3) := by decide +kernel
theorem dX0_hasEar_9 : decode cX0_hasEar 9 = .ok (.aload_n 0, 1) := by decide +kernel
theorem dX0_hasEar_10 : decode cX0_hasEar 10 = .ok (.getfield 34, 3) := by decide +kernel
theorem dX0_hasEar_13 : decode cX0_hasEar 13 = .ok (.iload_n 1, 1) := by decide +kernel
theorem dX0_hasEar_14 : decode cX0_hasEar 14 = .ok (.ishr, 1) := by decide +kernel
theorem dX0_hasEar_15 : decode cX0_hasEar 15 = .ok (.iconst 1, 1) := by decide +kernel
theorem dX0_hasEar_16 : decode cX0_hasEar 16 = .ok (.iand, 1) := by decide +kernel
theorem dX0_hasEar_17 : decode cX0_hasEar 17 = .ok (.iconst 1, 1) := by decide +kernel
theorem dX0_hasEar_18 : decode cX0_hasEar 18 = .ok (.if_icmp .ne 7, 3) := by decide +kernel
theorem dX0_hasEar_21 : decode cX0_hasEar 21 = .ok (.iconst 1, 1) := by decide +kernel
theorem dX0_hasEar_22 : decode cX0_hasEar 22 = .ok (.goto 4, 3) := by decide +kernel
theorem dX0_hasEar_25 : decode cX0_hasEar 25 = .ok (.iconst 0, 1) := by decide +kernel
theorem dX0_hasEar_26 : decode cX0_hasEar 26 = .ok (.ireturn, 1) := by decide +kernel
theorem dX0_reach_0 : decode cX0_reach 0 = .ok (.aload_n 0, 1) := by decide +kernel
theorem dX0_reach_1 : decode cX0_reach 1 = .ok (.getfield 25, 3) := by decide +kernel
theorem dX0_reach_4 : decode cX0_reach 4 = .ok (.tableswitch 60 1 4 #[32, 60, 32, 37], 32) := by decide +kernel
theorem dX0_reach_36 : decode cX0_reach 36 = .ok (.aload_n 0, 1) := by decide +kernel
theorem dX0_reach_37 : decode cX0_reach 37 = .ok (.getfield 28, 3) := by decide +kernel
theorem dX0_reach_40 : decode cX0_reach 40 = .ok (.ireturn, 1) := by decide +kernel
theorem dX0_reach_41 : decode cX0_reach 41 = .ok (.aload_n 0, 1) := by decide +kernel
theorem dX0_reach_42 : decode cX0_reach 42 = .ok (.getfield 18, 3) := by decide +kernel
theorem dX0_reach_45 : decode cX0_reach 45 = .ok (.iload_n 1, 1) := by decide +kernel
theorem dX0_reach_46 : decode cX0_reach 46 = .ok (.iaload, 1) := by decide +kernel
theorem dX0_reach_47 : decode cX0_reach 47 = .ok (.aload_n 0, 1) := by decide +kernel
theorem dX0_reach_48 : decode cX0_reach 48 = .ok (.getfield 31, 3) := by decide +kernel
theorem dX0_reach_51 : decode cX0_reach 51 = .ok (.if_icmp .ge 10, 3) := by decide +kernel
theorem dX0_reach_54 : decode cX0_reach 54 = .ok (.aload_n 0, 1) := by decide +kernel
theorem dX0_reach_55 : decode cX0_reach 55 = .ok (.getfield 28, 3) := by decide +kernel
theorem dX0_reach_58 : decode cX0_reach 58 = .ok (.goto 5, 3) := by decide +kernel
theorem dX0_reach_61 : decode cX0_reach 61 = .ok (.bipush 40, 2) := by decide +kernel
theorem dX0_reach_63 : decode cX0_reach 63 = .ok (.ireturn, 1) := by decide +kernel
theorem dX0_reach_64 : decode cX0_reach 64 = .ok (.iconst 0, 1) := by decide +kernel
theorem dX0_reach_65 : decode cX0_reach 65 = .ok (.ireturn, 1) := by decide +kernel
theorem dX0_hear_0 : decode cX0_hear 0 = .ok (.iconst 0, 1) := by decide +kernel
theorem dX0_hear_1 : decode cX0_hear 1 = .ok (.istore_n 3, 1) := by decide +kernel
theorem dX0_hear_2 : decode cX0_hear 2 = .ok (.iload_n 3, 1) := by decide +kernel
theorem dX0_hear_3 : decode cX0_hear 3 = .ok (.iconst 3, 1) := by decide +kernel
theorem dX0_hear_4 : decode cX0_hear 4 = .ok (.if_icmp .ge 75, 3) := by decide +kernel
theorem dX0_hear_7 : decode cX0_hear 7 = .ok (.aload_n 0, 1) := by decide +kernel
theorem dX0_hear_8 : decode cX0_hear 8 = .ok (.iload_n 3, 1) := by decide +kernel
theorem dX0_hear_9 : decode cX0_hear 9 = .ok (.invokevirtual 52, 3) := by decide +kernel
theorem dX0_hear_12 : decode cX0_hear 12 = .ok (.ifCond .eq 13, 3) := by decide +kernel
theorem dX0_hear_15 : decode cX0_hear 15 = .ok (.aload_n 0, 1) := by decide +kernel
theorem dX0_hear_16 : decode cX0_hear 16 = .ok (.aload_n 1, 1) := by decide +kernel
theorem dX0_hear_17 : decode cX0_hear 17 = .ok (.iload_n 3, 1) := by decide +kernel
theorem dX0_hear_18 : decode cX0_hear 18 = .ok (.iload_n 2, 1) := by decide +kernel
theorem dX0_hear_19 : decode cX0_hear 19 = .ok (.invokevirtual 56, 3) := by decide +kernel
theorem dX0_hear_22 : decode cX0_hear 22 = .ok (.goto 4, 3) := by decide +kernel
theorem dX0_hear_25 : decode cX0_hear 25 = .ok (.iconst (-1), 1) := by decide +kernel
theorem dX0_hear_26 : decode cX0_hear 26 = .ok (.istore 4, 2) := by decide +kernel
theorem dX0_hear_28 : decode cX0_hear 28 = .ok (.iload 4, 2) := by decide +kernel
theorem dX0_hear_30 : decode cX0_hear 30 = .ok (.iconst (-1), 1) := by decide +kernel
theorem dX0_hear_31 : decode cX0_hear 31 = .ok (.if_icmp .eq 42, 3) := by decide +kernel
theorem dX0_hear_34 : decode cX0_hear 34 = .ok (.aload_n 0, 1) := by decide +kernel
theorem dX0_hear_35 : decode cX0_hear 35 = .ok (.getfield 9, 3) := by decide +kernel
theorem dX0_hear_38 : decode cX0_hear 38 = .ok (.iload_n 3, 1) := by decide +kernel
theorem dX0_hear_39 : decode cX0_hear 39 = .ok (.iload 4, 2) := by decide +kernel
theorem dX0_hear_41 : decode cX0_hear 41 = .ok (.iastore, 1) := by decide +kernel
theorem dX0_hear_42 : decode cX0_hear 42 = .ok (.aload_n 0, 1) := by decide +kernel
theorem dX0_hear_43 : decode cX0_hear 43 = .ok (.getfield 15, 3) := by decide +kernel
theorem dX0_hear_46 : decode cX0_hear 46 = .ok (.iload_n 3, 1) := by decide +kernel
theorem dX0_hear_47 : decode cX0_hear 47 = .ok (.iconst (-1), 1) := by decide +kernel
theorem dX0_hear_48 : decode cX0_hear 48 = .ok (.iastore, 1) := by decide +kernel
theorem dX0_hear_49 : decode cX0_hear 49 = .ok (.aload_n 0, 1) := by decide +kernel
theorem dX0_hear_50 : decode cX0_hear 50 = .ok (.getfield 18, 3) := by decide +kernel
theorem dX0_hear_53 : decode cX0_hear 53 = .ok (.iload_n 3, 1) := by decide +kernel
theorem dX0_hear_54 : decode cX0_hear 54 = .ok (.iconst 0, 1) := by decide +kernel
theorem dX0_hear_55 : decode cX0_hear 55 = .ok (.iastore, 1) := by decide +kernel
theorem dX0_hear_56 : decode cX0_hear 56 = .ok (.aload_n 0, 1) := by decide +kernel
theorem dX0_hear_57 : decode cX0_hear 57 = .ok (.iload_n 3, 1) := by decide +kernel
theorem dX0_hear_58 : decode cX0_hear 58 = .ok (.putfield 37, 3) := by decide +kernel
theorem dX0_hear_61 : decode cX0_hear 61 = .ok (.aload_n 0, 1) := by decide +kernel
theorem dX0_hear_62 : decode cX0_hear 62 = .ok (.dup, 1) := by decide +kernel
theorem dX0_hear_63 : decode cX0_hear 63 = .ok (.getfield 40, 3) := by decide +kernel
theorem dX0_hear_66 : decode cX0_hear 66 = .ok (.iconst 1, 1) := by decide +kernel
theorem dX0_hear_67 : decode cX0_hear 67 = .ok (.iadd, 1) := by decide +kernel
theorem dX0_hear_68 : decode cX0_hear 68 = .ok (.putfield 40, 3) := by decide +kernel
theorem dX0_hear_71 : decode cX0_hear 71 = .ok (.iload_n 3, 1) := by decide +kernel
theorem dX0_hear_72 : decode cX0_hear 72 = .ok (.ireturn, 1) := by decide +kernel
theorem dX0_hear_73 : decode cX0_hear 73 = .ok (.iinc 3 1, 3) := by decide +kernel
theorem dX0_hear_76 : decode cX0_hear 76 = .ok (.goto (-74), 3) := by decide +kernel
theorem dX0_hear_79 : decode cX0_hear 79 = .ok (.aload_n 0, 1) := by decide +kernel
theorem dX0_hear_80 : decode cX0_hear 80 = .ok (.dup, 1) := by decide +kernel
theorem dX0_hear_81 : decode cX0_hear 81 = .ok (.getfield 43, 3) := by decide +kernel
theorem dX0_hear_84 : decode cX0_hear 84 = .ok (.iconst 1, 1) := by decide +kernel
theorem dX0_hear_85 : decode cX0_hear 85 = .ok (.iadd, 1) := by decide +kernel
theorem dX0_hear_86 : decode cX0_hear 86 = .ok (.putfield 43, 3) := by decide +kernel
theorem dX0_hear_89 : decode cX0_hear 89 = .ok (.iconst 0, 1) := by decide +kernel
theorem dX0_hear_90 : decode cX0_hear 90 = .ok (.istore_n 3, 1) := by decide +kernel
theorem dX0_hear_91 : decode cX0_hear 91 = .ok (.iload_n 3, 1) := by decide +kernel
theorem dX0_hear_92 : decode cX0_hear 92 = .ok (.iconst 3, 1) := by decide +kernel
theorem dX0_hear_93 : decode cX0_hear 93 = .ok (.if_icmp .ge 24, 3) := by decide +kernel
theorem dX0_hear_96 : decode cX0_hear 96 = .ok (.aload_n 0, 1) := by decide +kernel
theorem dX0_hear_97 : decode cX0_hear 97 = .ok (.iload_n 3, 1) := by decide +kernel
theorem dX0_hear_98 : decode cX0_hear 98 = .ok (.invokevirtual 52, 3) := by decide +kernel
theorem dX0_hear_101 : decode cX0_hear 101 = .ok (.ifCond .eq 10, 3) := by decide +kernel
theorem dX0_hear_104 : decode cX0_hear 104 = .ok (.aload_n 0, 1) := by decide +kernel
theorem dX0_hear_105 : decode cX0_hear 105 = .ok (.aload_n 1, 1) := by decide +kernel
theorem dX0_hear_106 : decode cX0_hear 106 = .ok (.iload_n 3, 1) := by decide +kernel
theorem dX0_hear_107 : decode cX0_hear 107 = .ok (.iload_n 2, 1) := by decide +kernel
theorem dX0_hear_108 : decode cX0_hear 108 = .ok (.invokevirtual 60, 3) := by decide +kernel
theorem dX0_hear_111 : decode cX0_hear 111 = .ok (.iinc 3 1, 3) := by decide +kernel
theorem dX0_hear_114 : decode cX0_hear 114 = .ok (.goto (-23), 3) := by decide +kernel
theorem dX0_hear_117 : decode cX0_hear 117 = .ok (.iconst (-1), 1) := by decide +kernel
theorem dX0_hear_118 : decode cX0_hear 118 = .ok (.ireturn, 1) := by decide +kernel
theorem dX0_hearInVain_0 : decode cX0_hearInVain 0 = .ok (.aload_n 0, 1) := by decide +kernel
theorem dX0_hearInVain_1 : decode cX0_hearInVain 1 = .ok (.getfield 18, 3) := by decide +kernel
theorem dX0_hearInVain_4 : decode cX0_hearInVain 4 = .ok (.iload_n 2, 1) := by decide +kernel
theorem dX0_hearInVain_5 : decode cX0_hearInVain 5 = .ok (.aload_n 0, 1) := by decide +kernel
theorem dX0_hearInVain_6 : decode cX0_hearInVain 6 = .ok (.getfield 18, 3) := by decide +kernel
theorem dX0_hearInVain_9 : decode cX0_hearInVain 9 = .ok (.iload_n 2, 1) := by decide +kernel
theorem dX0_hearInVain_10 : decode cX0_hearInVain 10 = .ok (.iaload, 1) := by decide +kernel
theorem dX0_hearInVain_11 : decode cX0_hearInVain 11 = .ok (.iconst 1, 1) := by decide +kernel
theorem dX0_hearInVain_12 : decode cX0_hearInVain 12 = .ok (.iadd, 1) := by decide +kernel
theorem dX0_hearInVain_13 : decode cX0_hearInVain 13 = .ok (.sipush 255, 3) := by decide +kernel
theorem dX0_hearInVain_16 : decode cX0_hearInVain 16 = .ok (.invokestatic 64, 3) := by decide +kernel
theorem dX0_hearInVain_19 : decode cX0_hearInVain 19 = .ok (.iastore, 1) := by decide +kernel
theorem dX0_hearInVain_20 : decode cX0_hearInVain 20 = .ok (.aload_n 0, 1) := by decide +kernel
theorem dX0_hearInVain_21 : decode cX0_hearInVain 21 = .ok (.getfield 25, 3) := by decide +kernel
theorem dX0_hearInVain_24 : decode cX0_hearInVain 24 = .ok (.iconst 2, 1) := by decide +kernel
theorem dX0_hearInVain_25 : decode cX0_hearInVain 25 = .ok (.if_icmp .ne 35, 3) := by decide +kernel
theorem dX0_hearInVain_28 : decode cX0_hearInVain 28 = .ok (.aload_n 0, 1) := by decide +kernel
theorem dX0_hearInVain_29 : decode cX0_hearInVain 29 = .ok (.getfield 15, 3) := by decide +kernel
theorem dX0_hearInVain_32 : decode cX0_hearInVain 32 = .ok (.iload_n 2, 1) := by decide +kernel
theorem dX0_hearInVain_33 : decode cX0_hearInVain 33 = .ok (.aload_n 1, 1) := by decide +kernel
theorem dX0_hearInVain_34 : decode cX0_hearInVain 34 = .ok (.iload_n 2, 1) := by decide +kernel
theorem dX0_hearInVain_35 : decode cX0_hearInVain 35 = .ok (.aload_n 0, 1) := by decide +kernel
theorem dX0_hearInVain_36 : decode cX0_hearInVain 36 = .ok (.getfield 9, 3) := by decide +kernel
theorem dX0_hearInVain_39 : decode cX0_hearInVain 39 = .ok (.iload_n 2, 1) := by decide +kernel
theorem dX0_hearInVain_40 : decode cX0_hearInVain 40 = .ok (.iaload, 1) := by decide +kernel
theorem dX0_hearInVain_41 : decode cX0_hearInVain 41 = .ok (.iconst 1, 1) := by decide +kernel
theorem dX0_hearInVain_42 : decode cX0_hearInVain 42 = .ok (.iadd, 1) := by decide +kernel
theorem dX0_hearInVain_43 : decode cX0_hearInVain 43 = .ok (.aload_n 0, 1) := by decide +kernel
theorem dX0_hearInVain_44 : decode cX0_hearInVain 44 = .ok (.getfield 9, 3) := by decide +kernel
theorem dX0_hearInVain_47 : decode cX0_hearInVain 47 = .ok (.iload_n 2, 1) := by decide +kernel
theorem dX0_hearInVain_48 : decode cX0_hearInVain 48 = .ok (.iaload, 1) := by decide +kernel
theorem dX0_hearInVain_49 : decode cX0_hearInVain 49 = .ok (.aload_n 0, 1) := by decide +kernel
theorem dX0_hearInVain_50 : decode cX0_hearInVain 50 = .ok (.getfield 28, 3) := by decide +kernel
theorem dX0_hearInVain_53 : decode cX0_hearInVain 53 = .ok (.iadd, 1) := by decide +kernel
theorem dX0_hearInVain_54 : decode cX0_hearInVain 54 = .ok (.iload_n 3, 1) := by decide +kernel
theorem dX0_hearInVain_55 : decode cX0_hearInVain 55 = .ok (.iconst 0, 1) := by decide +kernel
theorem dX0_hearInVain_56 : decode cX0_hearInVain 56 = .ok (.invokevirtual 70, 3) := by decide +kernel
theorem dX0_hearInVain_59 : decode cX0_hearInVain 59 = .ok (.iastore, 1) := by decide +kernel
theorem dX0_hearInVain_60 : decode cX0_hearInVain 60 = .ok (.return_, 1) := by decide +kernel
theorem dX0_countIfOpened_0 : decode cX0_countIfOpened 0 = .ok (.aload_n 0, 1) := by decide +kernel
theorem dX0_countIfOpened_1 : decode cX0_countIfOpened 1 = .ok (.getfield 9, 3) := by decide +kernel
theorem dX0_countIfOpened_4 : decode cX0_countIfOpened 4 = .ok (.iload_n 2, 1) := by decide +kernel
theorem dX0_countIfOpened_5 : decode cX0_countIfOpened 5 = .ok (.iaload, 1) := by decide +kernel
theorem dX0_countIfOpened_6 : decode cX0_countIfOpened 6 = .ok (.istore 4, 2) := by decide +kernel
theorem dX0_countIfOpened_8 : decode cX0_countIfOpened 8 = .ok (.aload_n 1, 1) := by decide +kernel
theorem dX0_countIfOpened_9 : decode cX0_countIfOpened 9 = .ok (.iload_n 2, 1) := by decide +kernel
theorem dX0_countIfOpened_10 : decode cX0_countIfOpened 10 = .ok (.iload 4, 2) := by decide +kernel
theorem dX0_countIfOpened_12 : decode cX0_countIfOpened 12 = .ok (.iload 4, 2) := by decide +kernel
theorem dX0_countIfOpened_14 : decode cX0_countIfOpened 14 = .ok (.aload_n 0, 1) := by decide +kernel
theorem dX0_countIfOpened_15 : decode cX0_countIfOpened 15 = .ok (.iload_n 2, 1) := by decide +kernel
theorem dX0_countIfOpened_16 : decode cX0_countIfOpened 16 = .ok (.invokevirtual 76, 3) := by decide +kernel
theorem dX0_countIfOpened_19 : decode cX0_countIfOpened 19 = .ok (.iadd, 1) := by decide +kernel
theorem dX0_countIfOpened_20 : decode cX0_countIfOpened 20 = .ok (.iload_n 3, 1) := by decide +kernel
theorem dX0_countIfOpened_21 : decode cX0_countIfOpened 21 = .ok (.aload_n 0, 1) := by decide +kernel
theorem dX0_countIfOpened_22 : decode cX0_countIfOpened 22 = .ok (.getfield 25, 3) := by decide +kernel
theorem dX0_countIfOpened_25 : decode cX0_countIfOpened 25 = .ok (.iconst 3, 1) := by decide +kernel
theorem dX0_countIfOpened_26 : decode cX0_countIfOpened 26 = .ok (.if_icmp .ne 10, 3) := by decide +kernel
theorem dX0_countIfOpened_29 : decode cX0_countIfOpened 29 = .ok (.aload_n 0, 1) := by decide +kernel
theorem dX0_countIfOpened_30 : decode cX0_countIfOpened 30 = .ok (.getfield 31, 3) := by decide +kernel
theorem dX0_countIfOpened_33 : decode cX0_countIfOpened 33 = .ok (.goto 4, 3) := by decide +kernel
theorem dX0_countIfOpened_36 : decode cX0_countIfOpened 36 = .ok (.iconst 0, 1) := by decide +kernel
theorem dX0_countIfOpened_37 : decode cX0_countIfOpened 37 = .ok (.invokevirtual 70, 3) := by decide +kernel
theorem dX0_countIfOpened_40 : decode cX0_countIfOpened 40 = .ok (.istore 5, 2) := by decide +kernel
theorem dX0_countIfOpened_42 : decode cX0_countIfOpened 42 = .ok (.iload 5, 2) := by decide +kernel
theorem dX0_countIfOpened_44 : decode cX0_countIfOpened 44 = .ok (.iconst (-1), 1) := by decide +kernel
theorem dX0_countIfOpened_45 : decode cX0_countIfOpened 45 = .ok (.if_icmp .ne 46, 3) := by decide +kernel
theorem dX0_countIfOpened_48 : decode cX0_countIfOpened 48 = .ok (.aload_n 0, 1) := by decide +kernel
theorem dX0_countIfOpened_49 : decode cX0_countIfOpened 49 = .ok (.getfield 25, 3) := by decide +kernel
theorem dX0_countIfOpened_52 : decode cX0_countIfOpened 52 = .ok (.iconst 2, 1) := by decide +kernel
theorem dX0_countIfOpened_53 : decode cX0_countIfOpened 53 = .ok (.if_icmp .ne 38, 3) := by decide +kernel
theorem dX0_countIfOpened_56 : decode cX0_countIfOpened 56 = .ok (.aload_n 0, 1) := by decide +kernel
theorem dX0_countIfOpened_57 : decode cX0_countIfOpened 57 = .ok (.getfield 15, 3) := by decide +kernel
theorem dX0_countIfOpened_60 : decode cX0_countIfOpened 60 = .ok (.iload_n 2, 1) := by decide +kernel
theorem dX0_countIfOpened_61 : decode cX0_countIfOpened 61 = .ok (.iaload, 1) := by decide +kernel
theorem dX0_countIfOpened_62 : decode cX0_countIfOpened 62 = .ok (.iconst (-1), 1) := by decide +kernel
theorem dX0_countIfOpened_63 : decode cX0_countIfOpened 63 = .ok (.if_icmp .eq 28, 3) := by decide +kernel
theorem dX0_countIfOpened_66 : decode cX0_countIfOpened 66 = .ok (.aload_n 1, 1) := by decide +kernel
theorem dX0_countIfOpened_67 : decode cX0_countIfOpened 67 = .ok (.iload_n 2, 1) := by decide +kernel
theorem dX0_countIfOpened_68 : decode cX0_countIfOpened 68 = .ok (.aload_n 0, 1) := by decide +kernel
theorem dX0_countIfOpened_69 : decode cX0_countIfOpened 69 = .ok (.getfield 15, 3) := by decide +kernel
theorem dX0_countIfOpened_72 : decode cX0_countIfOpened 72 = .ok (.iload_n 2, 1) := by decide +kernel
theorem dX0_countIfOpened_73 : decode cX0_countIfOpened 73 = .ok (.iaload, 1) := by decide +kernel
theorem dX0_countIfOpened_74 : decode cX0_countIfOpened 74 = .ok (.iconst 1, 1) := by decide +kernel
theorem dX0_countIfOpened_75 : decode cX0_countIfOpened 75 = .ok (.iadd, 1) := by decide +kernel
theorem dX0_countIfOpened_76 : decode cX0_countIfOpened 76 = .ok (.aload_n 0, 1) := by decide +kernel
theorem dX0_countIfOpened_77 : decode cX0_countIfOpened 77 = .ok (.getfield 15, 3) := by decide +kernel
theorem dX0_countIfOpened_80 : decode cX0_countIfOpened 80 = .ok (.iload_n 2, 1) := by decide +kernel
theorem dX0_countIfOpened_81 : decode cX0_countIfOpened 81 = .ok (.iaload, 1) := by decide +kernel
theorem dX0_countIfOpened_82 : decode cX0_countIfOpened 82 = .ok (.iconst 1, 1) := by decide +kernel
theorem dX0_countIfOpened_83 : decode cX0_countIfOpened 83 = .ok (.iadd, 1) := by decide +kernel
theorem dX0_countIfOpened_84 : decode cX0_countIfOpened 84 = .ok (.iload_n 3, 1) := by decide +kernel
theorem dX0_countIfOpened_85 : decode cX0_countIfOpened 85 = .ok (.iconst 0, 1) := by decide +kernel
theorem dX0_countIfOpened_86 : decode cX0_countIfOpened 86 = .ok (.invokevirtual 70, 3) := by decide +kernel
theorem dX0_countIfOpened_89 : decode cX0_countIfOpened 89 = .ok (.istore 5, 2) := by decide +kernel
theorem dX0_countIfOpened_91 : decode cX0_countIfOpened 91 = .ok (.iload 5, 2) := by decide +kernel
theorem dX0_countIfOpened_93 : decode cX0_countIfOpened 93 = .ok (.iconst (-1), 1) := by decide +kernel
theorem dX0_countIfOpened_94 : decode cX0_countIfOpened 94 = .ok (.if_icmp .eq 8, 3) := by decide +kernel
theorem dX0_countIfOpened_97 : decode cX0_countIfOpened 97 = .ok (.iload 5, 2) := by decide +kernel
theorem dX0_countIfOpened_99 : decode cX0_countIfOpened 99 = .ok (.iconst 1, 1) := by decide +kernel
theorem dX0_countIfOpened_100 : decode cX0_countIfOpened 100 = .ok (.iadd, 1) := by decide +kernel
theorem dX0_countIfOpened_101 : decode cX0_countIfOpened 101 = .ok (.ireturn, 1) := by decide +kernel
theorem dX0_countIfOpened_102 : decode cX0_countIfOpened 102 = .ok (.aload_n 0, 1) := by decide +kernel
theorem dX0_countIfOpened_103 : decode cX0_countIfOpened 103 = .ok (.getfield 25, 3) := by decide +kernel
theorem dX0_countIfOpened_106 : decode cX0_countIfOpened 106 = .ok (.iconst 1, 1) := by decide +kernel
theorem dX0_countIfOpened_107 : decode cX0_countIfOpened 107 = .ok (.if_icmp .ne 29, 3) := by decide +kernel
theorem dX0_countIfOpened_110 : decode cX0_countIfOpened 110 = .ok (.aload_n 1, 1) := by decide +kernel
theorem dX0_countIfOpened_111 : decode cX0_countIfOpened 111 = .ok (.iload_n 2, 1) := by decide +kernel
theorem dX0_countIfOpened_112 : decode cX0_countIfOpened 112 = .ok (.iload 4, 2) := by decide +kernel
theorem dX0_countIfOpened_114 : decode cX0_countIfOpened 114 = .ok (.aload_n 0, 1) := by decide +kernel
theorem dX0_countIfOpened_115 : decode cX0_countIfOpened 115 = .ok (.getfield 31, 3) := by decide +kernel
theorem dX0_countIfOpened_118 : decode cX0_countIfOpened 118 = .ok (.isub, 1) := by decide +kernel
theorem dX0_countIfOpened_119 : decode cX0_countIfOpened 119 = .ok (.iload 4, 2) := by decide +kernel
theorem dX0_countIfOpened_121 : decode cX0_countIfOpened 121 = .ok (.iconst 1, 1) := by decide +kernel
theorem dX0_countIfOpened_122 : decode cX0_countIfOpened 122 = .ok (.isub, 1) := by decide +kernel
theorem dX0_countIfOpened_123 : decode cX0_countIfOpened 123 = .ok (.iload_n 3, 1) := by decide +kernel
theorem dX0_countIfOpened_124 : decode cX0_countIfOpened 124 = .ok (.iconst 0, 1) := by decide +kernel
theorem dX0_countIfOpened_125 : decode cX0_countIfOpened 125 = .ok (.invokevirtual 70, 3) := by decide +kernel
theorem dX0_countIfOpened_128 : decode cX0_countIfOpened 128 = .ok (.iconst (-1), 1) := by decide +kernel
theorem dX0_countIfOpened_129 : decode cX0_countIfOpened 129 = .ok (.if_icmp .eq 7, 3) := by decide +kernel
theorem dX0_countIfOpened_132 : decode cX0_countIfOpened 132 = .ok (.iconst 1, 1) := by decide +kernel
theorem dX0_countIfOpened_133 : decode cX0_countIfOpened 133 = .ok (.goto 4, 3) := by decide +kernel
theorem dX0_countIfOpened_136 : decode cX0_countIfOpened 136 = .ok (.iconst 0, 1) := by decide +kernel
theorem dX0_countIfOpened_137 : decode cX0_countIfOpened 137 = .ok (.istore 6, 2) := by decide +kernel
theorem dX0_countIfOpened_139 : decode cX0_countIfOpened 139 = .ok (.iload 6, 2) := by decide +kernel
theorem dX0_countIfOpened_141 : decode cX0_countIfOpened 141 = .ok (.ifCond .eq 8, 3) := by decide +kernel
theorem dX0_countIfOpened_144 : decode cX0_countIfOpened 144 = .ok (.iload 4, 2) := by decide +kernel
theorem dX0_countIfOpened_146 : decode cX0_countIfOpened 146 = .ok (.goto 4, 3) := by decide +kernel
theorem dX0_countIfOpened_149 : decode cX0_countIfOpened 149 = .ok (.iconst (-1), 1) := by decide +kernel
theorem dX0_countIfOpened_150 : decode cX0_countIfOpened 150 = .ok (.ireturn, 1) := by decide +kernel
theorem dX1_init_0 : decode cX1_init 0 = .ok (.aload_n 0, 1) := by decide +kernel
theorem dX1_init_1 : decode cX1_init 1 = .ok (.invokespecial 3, 3) := by decide +kernel
theorem dX1_init_4 : decode cX1_init 4 = .ok (.aload_n 0, 1) := by decide +kernel
theorem dX1_init_5 : decode cX1_init 5 = .ok (.bipush 125, 2) := by decide +kernel
theorem dX1_init_7 : decode cX1_init 7 = .ok (.newarray .boolean, 2) := by decide +kernel
theorem dX1_init_9 : decode cX1_init 9 = .ok (.putfield 9, 3) := by decide +kernel
theorem dX1_init_12 : decode cX1_init 12 = .ok (.aload_n 0, 1) := by decide +kernel
theorem dX1_init_13 : decode cX1_init 13 = .ok (.iconst 2, 1) := by decide +kernel
theorem dX1_init_14 : decode cX1_init 14 = .ok (.putfield 15, 3) := by decide +kernel
theorem dX1_init_17 : decode cX1_init 17 = .ok (.aload_n 0, 1) := by decide +kernel
theorem dX1_init_18 : decode cX1_init 18 = .ok (.iconst 2, 1) := by decide +kernel
theorem dX1_init_19 : decode cX1_init 19 = .ok (.putfield 19, 3) := by decide +kernel
theorem dX1_init_22 : decode cX1_init 22 = .ok (.return_, 1) := by decide +kernel
theorem dX1_begin_0 : decode cX1_begin 0 = .ok (.aload_n 0, 1) := by decide +kernel
theorem dX1_begin_1 : decode cX1_begin 1 = .ok (.iconst 2, 1) := by decide +kernel
theorem dX1_begin_2 : decode cX1_begin 2 = .ok (.iload_n 1, 1) := by decide +kernel
theorem dX1_begin_3 : decode cX1_begin 3 = .ok (.iconst 5, 1) := by decide +kernel
theorem dX1_begin_4 : decode cX1_begin 4 = .ok (.invokestatic 22, 3) := by decide +kernel
theorem dX1_begin_7 : decode cX1_begin 7 = .ok (.invokestatic 28, 3) := by decide +kernel
theorem dX1_begin_10 : decode cX1_begin 10 = .ok (.putfield 15, 3) := by decide +kernel
theorem dX1_begin_13 : decode cX1_begin 13 = .ok (.aload_n 0, 1) := by decide +kernel
theorem dX1_begin_14 : decode cX1_begin 14 = .ok (.iconst 2, 1) := by decide +kernel
theorem dX1_begin_15 : decode cX1_begin 15 = .ok (.iload_n 2, 1) := by decide +kernel
theorem dX1_begin_16 : decode cX1_begin 16 = .ok (.bipush 6, 2) := by decide +kernel
theorem dX1_begin_18 : decode cX1_begin 18 = .ok (.invokestatic 22, 3) := by decide +kernel
theorem dX1_begin_21 : decode cX1_begin 21 = .ok (.invokestatic 28, 3) := by decide +kernel
theorem dX1_begin_24 : decode cX1_begin 24 = .ok (.putfield 19, 3) := by decide +kernel
theorem dX1_begin_27 : decode cX1_begin 27 = .ok (.aload_n 0, 1) := by decide +kernel
theorem dX1_begin_28 : decode cX1_begin 28 = .ok (.aload_n 0, 1) := by decide +kernel
theorem dX1_begin_29 : decode cX1_begin 29 = .ok (.getfield 15, 3) := by decide +kernel
theorem dX1_begin_32 : decode cX1_begin 32 = .ok (.aload_n 0, 1) := by decide +kernel
theorem dX1_begin_33 : decode cX1_begin 33 = .ok (.getfield 15, 3) := by decide +kernel
theorem dX1_begin_36 : decode cX1_begin 36 = .ok (.imul, 1) := by decide +kernel
theorem dX1_begin_37 : decode cX1_begin 37 = .ok (.aload_n 0, 1) := by decide +kernel
theorem dX1_begin_38 : decode cX1_begin 38 = .ok (.getfield 19, 3) := by decide +kernel
theorem dX1_begin_41 : decode cX1_begin 41 = .ok (.iconst 1, 1) := by decide +kernel
theorem dX1_begin_42 : decode cX1_begin 42 = .ok (.isub, 1) := by decide +kernel
theorem dX1_begin_43 : decode cX1_begin 43 = .ok (.imul, 1) := by decide +kernel
theorem dX1_begin_44 : decode cX1_begin 44 = .ok (.putfield 31, 3) := by decide +kernel
theorem dX1_begin_47 : decode cX1_begin 47 = .ok (.iconst 0, 1) := by decide +kernel
theorem dX1_begin_48 : decode cX1_begin 48 = .ok (.istore_n 3, 1) := by decide +kernel
theorem dX1_begin_49 : decode cX1_begin 49 = .ok (.iload_n 3, 1) := by decide +kernel
theorem dX1_begin_50 : decode cX1_begin 50 = .ok (.aload_n 0, 1) := by decide +kernel
theorem dX1_begin_51 : decode cX1_begin 51 = .ok (.getfield 31, 3) := by decide +kernel
theorem dX1_begin_54 : decode cX1_begin 54 = .ok (.if_icmp .ge 16, 3) := by decide +kernel
theorem dX1_begin_57 : decode cX1_begin 57 = .ok (.aload_n 0, 1) := by decide +kernel
theorem dX1_begin_58 : decode cX1_begin 58 = .ok (.getfield 9, 3) := by decide +kernel
theorem dX1_begin_61 : decode cX1_begin 61 = .ok (.iload_n 3, 1) := by decide +kernel
theorem dX1_begin_62 : decode cX1_begin 62 = .ok (.iconst 1, 1) := by decide +kernel
theorem dX1_begin_63 : decode cX1_begin 63 = .ok (.bastore, 1) := by decide +kernel
theorem dX1_begin_64 : decode cX1_begin 64 = .ok (.iinc 3 1, 3) := by decide +kernel
theorem dX1_begin_67 : decode cX1_begin 67 = .ok (.goto (-18), 3) := by decide +kernel
theorem dX1_begin_70 : decode cX1_begin 70 = .ok (.return_, 1) := by decide +kernel
theorem dX1_nextBy_0 : decode cX1_nextBy 0 = .ok (.aload_n 0, 1) := by decide +kernel
theorem dX1_nextBy_1 : decode cX1_nextBy 1 = .ok (.getfield 19, 3) := by decide +kernel
theorem dX1_nextBy_4 : decode cX1_nextBy 4 = .ok (.iconst 1, 1) := by decide +kernel
theorem dX1_nextBy_5 : decode cX1_nextBy 5 = .ok (.isub, 1) := by decide +kernel
theorem dX1_nextBy_6 : decode cX1_nextBy 6 = .ok (.istore_n 3, 1) := by decide +kernel
theorem dX1_nextBy_7 : decode cX1_nextBy 7 = .ok (.iload_n 1, 1) := by decide +kernel
theorem dX1_nextBy_8 : decode cX1_nextBy 8 = .ok (.iload_n 3, 1) := by decide +kernel
theorem dX1_nextBy_9 : decode cX1_nextBy 9 = .ok (.idiv, 1) := by decide +kernel
theorem dX1_nextBy_10 : decode cX1_nextBy 10 = .ok (.aload_n 0, 1) := by decide +kernel
theorem dX1_nextBy_11 : decode cX1_nextBy 11 = .ok (.getfield 15, 3) := by decide +kernel
theorem dX1_nextBy_14 : decode cX1_nextBy 14 = .ok (.idiv, 1) := by decide +kernel
theorem dX1_nextBy_15 : decode cX1_nextBy 15 = .ok (.istore 4, 2) := by decide +kernel
theorem dX1_nextBy_17 : decode cX1_nextBy 17 = .ok (.iload_n 1, 1) := by decide +kernel
theorem dX1_nextBy_18 : decode cX1_nextBy 18 = .ok (.iload_n 3, 1) := by decide +kernel
theorem dX1_nextBy_19 : decode cX1_nextBy 19 = .ok (.idiv, 1) := by decide +kernel
theorem dX1_nextBy_20 : decode cX1_nextBy 20 = .ok (.aload_n 0, 1) := by decide +kernel
theorem dX1_nextBy_21 : decode cX1_nextBy 21 = .ok (.getfield 15, 3) := by decide +kernel
theorem dX1_nextBy_24 : decode cX1_nextBy 24 = .ok (.irem, 1) := by decide +kernel
theorem dX1_nextBy_25 : decode cX1_nextBy 25 = .ok (.istore 5, 2) := by decide +kernel
theorem dX1_nextBy_27 : decode cX1_nextBy 27 = .ok (.iload_n 1, 1) := by decide +kernel
theorem dX1_nextBy_28 : decode cX1_nextBy 28 = .ok (.iload_n 3, 1) := by decide +kernel
theorem dX1_nextBy_29 : decode cX1_nextBy 29 = .ok (.irem, 1) := by decide +kernel
theorem dX1_nextBy_30 : decode cX1_nextBy 30 = .ok (.iconst 1, 1) := by decide +kernel
theorem dX1_nextBy_31 : decode cX1_nextBy 31 = .ok (.iadd, 1) := by decide +kernel
theorem dX1_nextBy_32 : decode cX1_nextBy 32 = .ok (.istore 6, 2) := by decide +kernel
theorem dX1_nextBy_34 : decode cX1_nextBy 34 = .ok (.iload 4, 2) := by decide +kernel
theorem dX1_nextBy_36 : decode cX1_nextBy 36 = .ok (.iload_n 2, 1) := by decide +kernel
theorem dX1_nextBy_37 : decode cX1_nextBy 37 = .ok (.aload_n 0, 1) := by decide +kernel
theorem dX1_nextBy_38 : decode cX1_nextBy 38 = .ok (.getfield 15, 3) := by decide +kernel
theorem dX1_nextBy_41 : decode cX1_nextBy 41 = .ok (.invokestatic 34, 3) := by decide +kernel
theorem dX1_nextBy_44 : decode cX1_nextBy 44 = .ok (.imul, 1) := by decide +kernel
theorem dX1_nextBy_45 : decode cX1_nextBy 45 = .ok (.iload 5, 2) := by decide +kernel
theorem dX1_nextBy_47 : decode cX1_nextBy 47 = .ok (.iadd, 1) := by decide +kernel
theorem dX1_nextBy_48 : decode cX1_nextBy 48 = .ok (.aload_n 0, 1) := by decide +kernel
theorem dX1_nextBy_49 : decode cX1_nextBy 49 = .ok (.getfield 15, 3) := by decide +kernel
theorem dX1_nextBy_52 : decode cX1_nextBy 52 = .ok (.irem, 1) := by decide +kernel
theorem dX1_nextBy_53 : decode cX1_nextBy 53 = .ok (.istore 7, 2) := by decide +kernel
theorem dX1_nextBy_55 : decode cX1_nextBy 55 = .ok (.iload_n 2, 1) := by decide +kernel
theorem dX1_nextBy_56 : decode cX1_nextBy 56 = .ok (.iload 7, 2) := by decide +kernel
theorem dX1_nextBy_58 : decode cX1_nextBy 58 = .ok (.iload_n 2, 1) := by decide +kernel
theorem dX1_nextBy_59 : decode cX1_nextBy 59 = .ok (.iload 7, 2) := by decide +kernel
theorem dX1_nextBy_61 : decode cX1_nextBy 61 = .ok (.invokestatic 39, 3) := by decide +kernel
theorem dX1_nextBy_64 : decode cX1_nextBy 64 = .ok (.iload 6, 2) := by decide +kernel
theorem dX1_nextBy_66 : decode cX1_nextBy 66 = .ok (.iadd, 1) := by decide +kernel
theorem dX1_nextBy_67 : decode cX1_nextBy 67 = .ok (.aload_n 0, 1) := by decide +kernel
theorem dX1_nextBy_68 : decode cX1_nextBy 68 = .ok (.getfield 19, 3) := by decide +kernel
theorem dX1_nextBy_71 : decode cX1_nextBy 71 = .ok (.irem, 1) := by decide +kernel
theorem dX1_nextBy_72 : decode cX1_nextBy 72 = .ok (.invokestatic 42, 3) := by decide +kernel
theorem dX1_nextBy_75 : decode cX1_nextBy 75 = .ok (.ireturn, 1) := by decide +kernel
theorem dX1_narrow_0 : decode cX1_narrow 0 = .ok (.iconst 0, 1) := by decide +kernel
theorem dX1_narrow_1 : decode cX1_narrow 1 = .ok (.istore_n 3, 1) := by decide +kernel
theorem dX1_narrow_2 : decode cX1_narrow 2 = .ok (.iload_n 3, 1) := by decide +kernel
theorem dX1_narrow_3 : decode cX1_narrow 3 = .ok (.aload_n 0, 1) := by decide +kernel
theorem dX1_narrow_4 : decode cX1_narrow 4 = .ok (.getfield 31, 3) := by decide +kernel
theorem dX1_narrow_7 : decode cX1_narrow 7 = .ok (.if_icmp .ge 39, 3) := by decide +kernel
theorem dX1_narrow_10 : decode cX1_narrow 10 = .ok (.aload_n 0, 1) := by decide +kernel
theorem dX1_narrow_11 : decode cX1_narrow 11 = .ok (.getfield 9, 3) := by decide +kernel
theorem dX1_narrow_14 : decode cX1_narrow 14 = .ok (.iload_n 3, 1) := by decide +kernel
theorem dX1_narrow_15 : decode cX1_narrow 15 = .ok (.aload_n 0, 1) := by decide +kernel
theorem dX1_narrow_16 : decode cX1_narrow 16 = .ok (.getfield 9, 3) := by decide +kernel
theorem dX1_narrow_19 : decode cX1_narrow 19 = .ok (.iload_n 3, 1) := by decide +kernel
theorem dX1_narrow_20 : decode cX1_narrow 20 = .ok (.baload, 1) := by decide +kernel
theorem dX1_narrow_21 : decode cX1_narrow 21 = .ok (.ifCond .eq 17, 3) := by decide +kernel
theorem dX1_narrow_24 : decode cX1_narrow 24 = .ok (.aload_n 0, 1) := by decide +kernel
theorem dX1_narrow_25 : decode cX1_narrow 25 = .ok (.iload_n 3, 1) := by decide +kernel
theorem dX1_narrow_26 : decode cX1_narrow 26 = .ok (.iload_n 1, 1) := by decide +kernel
theorem dX1_narrow_27 : decode cX1_narrow 27 = .ok (.invokevirtual 46, 3) := by decide +kernel
theorem dX1_narrow_30 : decode cX1_narrow 30 = .ok (.iload_n 2, 1) := by decide +kernel
theorem dX1_narrow_31 : decode cX1_narrow 31 = .ok (.if_icmp .ne 7, 3) := by decide +kernel
theorem dX1_narrow_34 : decode cX1_narrow 34 = .ok (.iconst 1, 1) := by decide +kernel
theorem dX1_narrow_35 : decode cX1_narrow 35 = .ok (.goto 4, 3) := by decide +kernel
theorem dX1_narrow_38 : decode cX1_narrow 38 = .ok (.iconst 0, 1) := by decide +kernel
theorem dX1_narrow_39 : decode cX1_narrow 39 = .ok (.bastore, 1) := by decide +kernel
theorem dX1_narrow_40 : decode cX1_narrow 40 = .ok (.iinc 3 1, 3) := by decide +kernel
theorem dX1_narrow_43 : decode cX1_narrow 43 = .ok (.goto (-41), 3) := by decide +kernel
theorem dX1_narrow_46 : decode cX1_narrow 46 = .ok (.return_, 1) := by decide +kernel
theorem dX1_howMany_0 : decode cX1_howMany 0 = .ok (.iconst 0, 1) := by decide +kernel
theorem dX1_howMany_1 : decode cX1_howMany 1 = .ok (.istore_n 1, 1) := by decide +kernel
theorem dX1_howMany_2 : decode cX1_howMany 2 = .ok (.iconst 0, 1) := by decide +kernel
theorem dX1_howMany_3 : decode cX1_howMany 3 = .ok (.istore_n 2, 1) := by decide +kernel
theorem dX1_howMany_4 : decode cX1_howMany 4 = .ok (.iload_n 2, 1) := by decide +kernel
theorem dX1_howMany_5 : decode cX1_howMany 5 = .ok (.aload_n 0, 1) := by decide +kernel
theorem dX1_howMany_6 : decode cX1_howMany 6 = .ok (.getfield 31, 3) := by decide +kernel
theorem dX1_howMany_9 : decode cX1_howMany 9 = .ok (.if_icmp .ge 26, 3) := by decide +kernel
theorem dX1_howMany_12 : decode cX1_howMany 12 = .ok (.iload_n 1, 1) := by decide +kernel
theorem dX1_howMany_13 : decode cX1_howMany 13 = .ok (.aload_n 0, 1) := by decide +kernel
theorem dX1_howMany_14 : decode cX1_howMany 14 = .ok (.getfield 9, 3) := by decide +kernel
theorem dX1_howMany_17 : decode cX1_howMany 17 = .ok (.iload_n 2, 1) := by decide +kernel
theorem dX1_howMany_18 : decode cX1_howMany 18 = .ok (.baload, 1) := by decide +kernel
theorem dX1_howMany_19 : decode cX1_howMany 19 = .ok (.ifCond .eq 7, 3) := by decide +kernel
theorem dX1_howMany_22 : decode cX1_howMany 22 = .ok (.iconst 1, 1) := by decide +kernel
theorem dX1_howMany_23 : decode cX1_howMany 23 = .ok (.goto 4, 3) := by decide +kernel
theorem dX1_howMany_26 : decode cX1_howMany 26 = .ok (.iconst 0, 1) := by decide +kernel
theorem dX1_howMany_27 : decode cX1_howMany 27 = .ok (.iadd, 1) := by decide +kernel
theorem dX1_howMany_28 : decode cX1_howMany 28 = .ok (.istore_n 1, 1) := by decide +kernel
theorem dX1_howMany_29 : decode cX1_howMany 29 = .ok (.iinc 2 1, 3) := by decide +kernel
theorem dX1_howMany_32 : decode cX1_howMany 32 = .ok (.goto (-28), 3) := by decide +kernel
theorem dX1_howMany_35 : decode cX1_howMany 35 = .ok (.iload_n 1, 1) := by decide +kernel
theorem dX1_howMany_36 : decode cX1_howMany 36 = .ok (.ireturn, 1) := by decide +kernel
theorem dX1_firstFrom_0 : decode cX1_firstFrom 0 = .ok (.iload_n 1, 1) := by decide +kernel
theorem dX1_firstFrom_1 : decode cX1_firstFrom 1 = .ok (.istore_n 2, 1) := by decide +kernel
theorem dX1_firstFrom_2 : decode cX1_firstFrom 2 = .ok (.iload_n 2, 1) := by decide +kernel
theorem dX1_firstFrom_3 : decode cX1_firstFrom 3 = .ok (.aload_n 0, 1) := by decide +kernel
theorem dX1_firstFrom_4 : decode cX1_firstFrom 4 = .ok (.getfield 31, 3) := by decide +kernel
theorem dX1_firstFrom_7 : decode cX1_firstFrom 7 = .ok (.if_icmp .ge 20, 3) := by decide +kernel
theorem dX1_firstFrom_10 : decode cX1_firstFrom 10 = .ok (.aload_n 0, 1) := by decide +kernel
theorem dX1_firstFrom_11 : decode cX1_firstFrom 11 = .ok (.getfield 9, 3) := by decide +kernel
theorem dX1_firstFrom_14 : decode cX1_firstFrom 14 = .ok (.iload_n 2, 1) := by decide +kernel
theorem dX1_firstFrom_15 : decode cX1_firstFrom 15 = .ok (.baload, 1) := by decide +kernel
theorem dX1_firstFrom_16 : decode cX1_firstFrom 16 = .ok (.ifCond .eq 5, 3) := by decide +kernel
theorem dX1_firstFrom_19 : decode cX1_firstFrom 19 = .ok (.iload_n 2, 1) := by decide +kernel
theorem dX1_firstFrom_20 : decode cX1_firstFrom 20 = .ok (.ireturn, 1) := by decide +kernel
theorem dX1_firstFrom_21 : decode cX1_firstFrom 21 = .ok (.iinc 2 1, 3) := by decide +kernel
theorem dX1_firstFrom_24 : decode cX1_firstFrom 24 = .ok (.goto (-22), 3) := by decide +kernel
theorem dX1_firstFrom_27 : decode cX1_firstFrom 27 = .ok (.iconst (-1), 1) := by decide +kernel
theorem dX1_firstFrom_28 : decode cX1_firstFrom 28 = .ok (.ireturn, 1) := by decide +kernel
theorem dX1_agree_0 : decode cX1_agree 0 = .ok (.aload_n 0, 1) := by decide +kernel
theorem dX1_agree_1 : decode cX1_agree 1 = .ok (.iconst 0, 1) := by decide +kernel
theorem dX1_agree_2 : decode cX1_agree 2 = .ok (.invokevirtual 49, 3) := by decide +kernel
theorem dX1_agree_5 : decode cX1_agree 5 = .ok (.istore_n 2, 1) := by decide +kernel
theorem dX1_agree_6 : decode cX1_agree 6 = .ok (.iload_n 2, 1) := by decide +kernel
theorem dX1_agree_7 : decode cX1_agree 7 = .ok (.iconst (-1), 1) := by decide +kernel
theorem dX1_agree_8 : decode cX1_agree 8 = .ok (.if_icmp .ne 5, 3) := by decide +kernel
theorem dX1_agree_11 : decode cX1_agree 11 = .ok (.iconst 0, 1) := by decide +kernel
theorem dX1_agree_12 : decode cX1_agree 12 = .ok (.ireturn, 1) := by decide +kernel
theorem dX1_agree_13 : decode cX1_agree 13 = .ok (.aload_n 0, 1) := by decide +kernel
theorem dX1_agree_14 : decode cX1_agree 14 = .ok (.iload_n 2, 1) := by decide +kernel
theorem dX1_agree_15 : decode cX1_agree 15 = .ok (.iload_n 1, 1) := by decide +kernel
theorem dX1_agree_16 : decode cX1_agree 16 = .ok (.invokevirtual 46, 3) := by decide +kernel
theorem dX1_agree_19 : decode cX1_agree 19 = .ok (.istore_n 3, 1) := by decide +kernel
theorem dX1_agree_20 : decode cX1_agree 20 = .ok (.iload_n 2, 1) := by decide +kernel
theorem dX1_agree_21 : decode cX1_agree 21 = .ok (.iconst 1, 1) := by decide +kernel
theorem dX1_agree_22 : decode cX1_agree 22 = .ok (.iadd, 1) := by decide +kernel
theorem dX1_agree_23 : decode cX1_agree 23 = .ok (.istore 4, 2) := by decide +kernel
theorem dX1_agree_25 : decode cX1_agree 25 = .ok (.iload 4, 2) := by decide +kernel
theorem dX1_agree_27 : decode cX1_agree 27 = .ok (.aload_n 0, 1) := by decide +kernel
theorem dX1_agree_28 : decode cX1_agree 28 = .ok (.getfield 31, 3) := by decide +kernel
theorem dX1_agree_31 : decode cX1_agree 31 = .ok (.if_icmp .ge 32, 3) := by decide +kernel
theorem dX1_agree_34 : decode cX1_agree 34 = .ok (.aload_n 0, 1) := by decide +kernel
theorem dX1_agree_35 : decode cX1_agree 35 = .ok (.getfield 9, 3) := by decide +kernel
theorem dX1_agree_38 : decode cX1_agree 38 = .ok (.iload 4, 2) := by decide +kernel
theorem dX1_agree_40 : decode cX1_agree 40 = .ok (.baload, 1) := by decide +kernel
theorem dX1_agree_41 : decode cX1_agree 41 = .ok (.ifCond .eq 16, 3) := by decide +kernel
theorem dX1_agree_44 : decode cX1_agree 44 = .ok (.aload_n 0, 1) := by decide +kernel
theorem dX1_agree_45 : decode cX1_agree 45 = .ok (.iload 4, 2) := by decide +kernel
theorem dX1_agree_47 : decode cX1_agree 47 = .ok (.iload_n 1, 1) := by decide +kernel
theorem dX1_agree_48 : decode cX1_agree 48 = .ok (.invokevirtual 46, 3) := by decide +kernel
theorem dX1_agree_51 : decode cX1_agree 51 = .ok (.iload_n 3, 1) := by decide +kernel
theorem dX1_agree_52 : decode cX1_agree 52 = .ok (.if_icmp .eq 5, 3) := by decide +kernel
theorem dX1_agree_55 : decode cX1_agree 55 = .ok (.iconst 0, 1) := by decide +kernel
theorem dX1_agree_56 : decode cX1_agree 56 = .ok (.ireturn, 1) := by decide +kernel
theorem dX1_agree_57 : decode cX1_agree 57 = .ok (.iinc 4 1, 3) := by decide +kernel
theorem dX1_agree_60 : decode cX1_agree 60 = .ok (.goto (-35), 3) := by decide +kernel
theorem dX1_agree_63 : decode cX1_agree 63 = .ok (.iconst 1, 1) := by decide +kernel
theorem dX1_agree_64 : decode cX1_agree 64 = .ok (.ireturn, 1) := by decide +kernel
theorem dX2_init_0 : decode cX2_init 0 = .ok (.aload_n 0, 1) := by decide +kernel
theorem dX2_init_1 : decode cX2_init 1 = .ok (.invokespecial 3, 3) := by decide +kernel
theorem dX2_init_4 : decode cX2_init 4 = .ok (.aload_n 0, 1) := by decide +kernel
theorem dX2_init_5 : decode cX2_init 5 = .ok (.iconst 1, 1) := by decide +kernel
theorem dX2_init_6 : decode cX2_init 6 = .ok (.putfield 9, 3) := by decide +kernel
theorem dX2_init_9 : decode cX2_init 9 = .ok (.aload_n 0, 1) := by decide +kernel
theorem dX2_init_10 : decode cX2_init 10 = .ok (.iconst 1, 1) := by decide +kernel
theorem dX2_init_11 : decode cX2_init 11 = .ok (.putfield 15, 3) := by decide +kernel
theorem dX2_init_14 : decode cX2_init 14 = .ok (.aload_n 0, 1) := by decide +kernel
theorem dX2_init_15 : decode cX2_init 15 = .ok (.iconst 3, 1) := by decide +kernel
theorem dX2_init_16 : decode cX2_init 16 = .ok (.newarray .int, 2) := by decide +kernel
theorem dX2_init_18 : decode cX2_init 18 = .ok (.putfield 18, 3) := by decide +kernel
theorem dX2_init_21 : decode cX2_init 21 = .ok (.aload_n 0, 1) := by decide +kernel
theorem dX2_init_22 : decode cX2_init 22 = .ok (.iconst 3, 1) := by decide +kernel
theorem dX2_init_23 : decode cX2_init 23 = .ok (.newarray .int, 2) := by decide +kernel
theorem dX2_init_25 : decode cX2_init 25 = .ok (.putfield 22, 3) := by decide +kernel
theorem dX2_init_28 : decode cX2_init 28 = .ok (.aload_n 0, 1) := by decide +kernel
theorem dX2_init_29 : decode cX2_init 29 = .ok (.iconst 3, 1) := by decide +kernel
theorem dX2_init_30 : decode cX2_init 30 = .ok (.newarray .int, 2) := by decide +kernel
theorem dX2_init_32 : decode cX2_init 32 = .ok (.putfield 25, 3) := by decide +kernel
theorem dX2_init_35 : decode cX2_init 35 = .ok (.aload_n 0, 1) := by decide +kernel
theorem dX2_init_36 : decode cX2_init 36 = .ok (.iconst 4, 1) := by decide +kernel
theorem dX2_init_37 : decode cX2_init 37 = .ok (.anewarray 28, 3) := by decide +kernel
theorem dX2_init_40 : decode cX2_init 40 = .ok (.putfield 30, 3) := by decide +kernel
theorem dX2_init_43 : decode cX2_init 43 = .ok (.aload_n 0, 1) := by decide +kernel
theorem dX2_init_44 : decode cX2_init 44 = .ok (.iconst 4, 1) := by decide +kernel
theorem dX2_init_45 : decode cX2_init 45 = .ok (.anewarray 34, 3) := by decide +kernel
theorem dX2_init_48 : decode cX2_init 48 = .ok (.putfield 36, 3) := by decide +kernel
theorem dX2_init_51 : decode cX2_init 51 = .ok (.aload_n 0, 1) := by decide +kernel
theorem dX2_init_52 : decode cX2_init 52 = .ok (.new 40, 3) := by decide +kernel
theorem dX2_init_55 : decode cX2_init 55 = .ok (.dup, 1) := by decide +kernel
theorem dX2_init_56 : decode cX2_init 56 = .ok (.invokespecial 42, 3) := by decide +kernel
theorem dX2_init_59 : decode cX2_init 59 = .ok (.putfield 43, 3) := by decide +kernel
theorem dX2_init_62 : decode cX2_init 62 = .ok (.iconst 0, 1) := by decide +kernel
theorem dX2_init_63 : decode cX2_init 63 = .ok (.istore_n 1, 1) := by decide +kernel
theorem dX2_init_64 : decode cX2_init 64 = .ok (.iload_n 1, 1) := by decide +kernel
theorem dX2_init_65 : decode cX2_init 65 = .ok (.iconst 4, 1) := by decide +kernel
theorem dX2_init_66 : decode cX2_init 66 = .ok (.if_icmp .ge 22, 3) := by decide +kernel
theorem dX2_init_69 : decode cX2_init 69 = .ok (.aload_n 0, 1) := by decide +kernel
theorem dX2_init_70 : decode cX2_init 70 = .ok (.getfield 30, 3) := by decide +kernel
theorem dX2_init_73 : decode cX2_init 73 = .ok (.iload_n 1, 1) := by decide +kernel
theorem dX2_init_74 : decode cX2_init 74 = .ok (.new 28, 3) := by decide +kernel
theorem dX2_init_77 : decode cX2_init 77 = .ok (.dup, 1) := by decide +kernel
theorem dX2_init_78 : decode cX2_init 78 = .ok (.invokespecial 47, 3) := by decide +kernel
theorem dX2_init_81 : decode cX2_init 81 = .ok (.aastore, 1) := by decide +kernel
theorem dX2_init_82 : decode cX2_init 82 = .ok (.iinc 1 1, 3) := by decide +kernel
theorem dX2_init_85 : decode cX2_init 85 = .ok (.goto (-21), 3) := by decide +kernel
theorem dX2_init_88 : decode cX2_init 88 = .ok (.iconst 0, 1) := by decide +kernel
theorem dX2_init_89 : decode cX2_init 89 = .ok (.istore_n 1, 1) := by decide +kernel
theorem dX2_init_90 : decode cX2_init 90 = .ok (.iload_n 1, 1) := by decide +kernel
theorem dX2_init_91 : decode cX2_init 91 = .ok (.iconst 4, 1) := by decide +kernel
theorem dX2_init_92 : decode cX2_init 92 = .ok (.if_icmp .ge 22, 3) := by decide +kernel
theorem dX2_init_95 : decode cX2_init 95 = .ok (.aload_n 0, 1) := by decide +kernel
theorem dX2_init_96 : decode cX2_init 96 = .ok (.getfield 36, 3) := by decide +kernel
theorem dX2_init_99 : decode cX2_init 99 = .ok (.iload_n 1, 1) := by decide +kernel
theorem dX2_init_100 : decode cX2_init 100 = .ok (.new 34, 3) := by decide +kernel
theorem dX2_init_103 : decode cX2_init 103 = .ok (.dup, 1) := by decide +kernel
theorem dX2_init_104 : decode cX2_init 104 = .ok (.invokespecial 48, 3) := by decide +kernel
theorem dX2_init_107 : decode cX2_init 107 = .ok (.aastore, 1) := by decide +kernel
theorem dX2_init_108 : decode cX2_init 108 = .ok (.iinc 1 1, 3) := by decide +kernel
theorem dX2_init_111 : decode cX2_init 111 = .ok (.goto (-21), 3) := by decide +kernel
theorem dX2_init_114 : decode cX2_init 114 = .ok (.return_, 1) := by decide +kernel
theorem dX2_clear_0 : decode cX2_clear 0 = .ok (.aload_n 0, 1) := by decide +kernel
theorem dX2_clear_1 : decode cX2_clear 1 = .ok (.iconst 0, 1) := by decide +kernel
theorem dX2_clear_2 : decode cX2_clear 2 = .ok (.putfield 49, 3) := by decide +kernel
theorem dX2_clear_5 : decode cX2_clear 5 = .ok (.aload_n 0, 1) := by decide +kernel
theorem dX2_clear_6 : decode cX2_clear 6 = .ok (.iconst 0, 1) := by decide +kernel
theorem dX2_clear_7 : decode cX2_clear 7 = .ok (.putfield 52, 3) := by decide +kernel
theorem dX2_clear_10 : decode cX2_clear 10 = .ok (.aload_n 0, 1) := by decide +kernel
theorem dX2_clear_11 : decode cX2_clear 11 = .ok (.iconst 0, 1) := by decide +kernel
theorem dX2_clear_12 : decode cX2_clear 12 = .ok (.putfield 55, 3) := by decide +kernel
theorem dX2_clear_15 : decode cX2_clear 15 = .ok (.aload_n 0, 1) := by decide +kernel
theorem dX2_clear_16 : decode cX2_clear 16 = .ok (.iconst 0, 1) := by decide +kernel
theorem dX2_clear_17 : decode cX2_clear 17 = .ok (.putfield 58, 3) := by decide +kernel
theorem dX2_clear_20 : decode cX2_clear 20 = .ok (.aload_n 0, 1) := by decide +kernel
theorem dX2_clear_21 : decode cX2_clear 21 = .ok (.iconst 0, 1) := by decide +kernel
theorem dX2_clear_22 : decode cX2_clear 22 = .ok (.putfield 61, 3) := by decide +kernel
theorem dX2_clear_25 : decode cX2_clear 25 = .ok (.aload_n 0, 1) := by decide +kernel
theorem dX2_clear_26 : decode cX2_clear 26 = .ok (.iconst 1, 1) := by decide +kernel
theorem dX2_clear_27 : decode cX2_clear 27 = .ok (.putfield 9, 3) := by decide +kernel
theorem dX2_clear_30 : decode cX2_clear 30 = .ok (.aload_n 0, 1) := by decide +kernel
theorem dX2_clear_31 : decode cX2_clear 31 = .ok (.iconst 1, 1) := by decide +kernel
theorem dX2_clear_32 : decode cX2_clear 32 = .ok (.putfield 15, 3) := by decide +kernel
theorem dX2_clear_35 : decode cX2_clear 35 = .ok (.aload_n 0, 1) := by decide +kernel
theorem dX2_clear_36 : decode cX2_clear 36 = .ok (.getfield 43, 3) := by decide +kernel
theorem dX2_clear_39 : decode cX2_clear 39 = .ok (.invokevirtual 64, 3) := by decide +kernel
theorem dX2_clear_42 : decode cX2_clear 42 = .ok (.return_, 1) := by decide +kernel
theorem dX2_tuneNamed_0 : decode cX2_tuneNamed 0 = .ok (.iconst 0, 1) := by decide +kernel
theorem dX2_tuneNamed_1 : decode cX2_tuneNamed 1 = .ok (.istore_n 2, 1) := by decide +kernel
theorem dX2_tuneNamed_2 : decode cX2_tuneNamed 2 = .ok (.iload_n 2, 1) := by decide +kernel
theorem dX2_tuneNamed_3 : decode cX2_tuneNamed 3 = .ok (.aload_n 0, 1) := by decide +kernel
theorem dX2_tuneNamed_4 : decode cX2_tuneNamed 4 = .ok (.getfield 55, 3) := by decide +kernel
theorem dX2_tuneNamed_7 : decode cX2_tuneNamed 7 = .ok (.if_icmp .ge 26, 3) := by decide +kernel
theorem dX2_tuneNamed_10 : decode cX2_tuneNamed 10 = .ok (.iload_n 2, 1) := by decide +kernel
theorem dX2_tuneNamed_11 : decode cX2_tuneNamed 11 = .ok (.iconst 3, 1) := by decide +kernel
theorem dX2_tuneNamed_12 : decode cX2_tuneNamed 12 = .ok (.if_icmp .ge 21, 3) := by decide +kernel
theorem dX2_tuneNamed_15 : decode cX2_tuneNamed 15 = .ok (.aload_n 0, 1) := by decide +kernel
theorem dX2_tuneNamed_16 : decode cX2_tuneNamed 16 = .ok (.getfield 18, 3) := by decide +kernel
theorem dX2_tuneNamed_19 : decode cX2_tuneNamed 19 = .ok (.iload_n 2, 1) := by decide +kernel
theorem dX2_tuneNamed_20 : decode cX2_tuneNamed 20 = .ok (.iaload, 1) := by decide +kernel
theorem dX2_tuneNamed_21 : decode cX2_tuneNamed 21 = .ok (.iload_n 1, 1) := by decide +kernel
theorem dX2_tuneNamed_22 : decode cX2_tuneNamed 22 = .ok (.if_icmp .ne 5, 3) := by decide +kernel
theorem dX2_tuneNamed_25 : decode cX2_tuneNamed 25 = .ok (.iload_n 2, 1) := by decide +kernel
theorem dX2_tuneNamed_26 : decode cX2_tuneNamed 26 = .ok (.ireturn, 1) := by decide +kernel
theorem dX2_tuneNamed_27 : decode cX2_tuneNamed 27 = .ok (.iinc 2 1, 3) := by decide +kernel
theorem dX2_tuneNamed_30 : decode cX2_tuneNamed 30 = .ok (.goto (-28), 3) := by decide +kernel
theorem dX2_tuneNamed_33 : decode cX2_tuneNamed 33 = .ok (.iconst (-1), 1) := by decide +kernel
theorem dX2_tuneNamed_34 : decode cX2_tuneNamed 34 = .ok (.ireturn, 1) := by decide +kernel
theorem dX2_doorNamed_0 : decode cX2_doorNamed 0 = .ok (.iconst 0, 1) := by decide +kernel
theorem dX2_doorNamed_1 : decode cX2_doorNamed 1 = .ok (.istore_n 2, 1) := by decide +kernel
theorem dX2_doorNamed_2 : decode cX2_doorNamed 2 = .ok (.iload_n 2, 1) := by decide +kernel
theorem dX2_doorNamed_3 : decode cX2_doorNamed 3 = .ok (.aload_n 0, 1) := by decide +kernel
theorem dX2_doorNamed_4 : decode cX2_doorNamed 4 = .ok (.getfield 58, 3) := by decide +kernel
theorem dX2_doorNamed_7 : decode cX2_doorNamed 7 = .ok (.if_icmp .ge 29, 3) := by decide +kernel
theorem dX2_doorNamed_10 : decode cX2_doorNamed 10 = .ok (.iload_n 2, 1) := by decide +kernel
theorem dX2_doorNamed_11 : decode cX2_doorNamed 11 = .ok (.iconst 4, 1) := by decide +kernel
theorem dX2_doorNamed_12 : decode cX2_doorNamed 12 = .ok (.if_icmp .ge 24, 3) := by decide +kernel
theorem dX2_doorNamed_15 : decode cX2_doorNamed 15 = .ok (.aload_n 0, 1) := by decide +kernel
theorem dX2_doorNamed_16 : decode cX2_doorNamed 16 = .ok (.getfield 30, 3) := by decide +kernel
theorem dX2_doorNamed_19 : decode cX2_doorNamed 19 = .ok (.iload_n 2, 1) := by decide +kernel
theorem dX2_doorNamed_20 : decode cX2_doorNamed 20 = .ok (.aaload, 1) := by decide +kernel
theorem dX2_doorNamed_21 : decode cX2_doorNamed 21 = .ok (.getfield 67, 3) := by decide +kernel
theorem dX2_doorNamed_24 : decode cX2_doorNamed 24 = .ok (.iload_n 1, 1) := by decide +kernel
theorem dX2_doorNamed_25 : decode cX2_doorNamed 25 = .ok (.if_icmp .ne 5, 3) := by decide +kernel
theorem dX2_doorNamed_28 : decode cX2_doorNamed 28 = .ok (.iload_n 2, 1) := by decide +kernel
theorem dX2_doorNamed_29 : decode cX2_doorNamed 29 = .ok (.ireturn, 1) := by decide +kernel
theorem dX2_doorNamed_30 : decode cX2_doorNamed 30 = .ok (.iinc 2 1, 3) := by decide +kernel
theorem dX2_doorNamed_33 : decode cX2_doorNamed 33 = .ok (.goto (-31), 3) := by decide +kernel
theorem dX2_doorNamed_36 : decode cX2_doorNamed 36 = .ok (.iconst (-1), 1) := by decide +kernel
theorem dX2_doorNamed_37 : decode cX2_doorNamed 37 = .ok (.ireturn, 1) := by decide +kernel
theorem dX2_personNamed_0 : decode cX2_personNamed 0 = .ok (.iconst 0, 1) := by decide +kernel
theorem dX2_personNamed_1 : decode cX2_personNamed 1 = .ok (.istore_n 2, 1) := by decide +kernel
theorem dX2_personNamed_2 : decode cX2_personNamed 2 = .ok (.iload_n 2, 1) := by decide +kernel
theorem dX2_personNamed_3 : decode cX2_personNamed 3 = .ok (.aload_n 0, 1) := by decide +kernel
theorem dX2_personNamed_4 : decode cX2_personNamed 4 = .ok (.getfield 61, 3) := by decide +kernel
theorem dX2_personNamed_7 : decode cX2_personNamed 7 = .ok (.if_icmp .ge 29, 3) := by decide +kernel
theorem dX2_personNamed_10 : decode cX2_personNamed 10 = .ok (.iload_n 2, 1) := by decide +kernel
theorem dX2_personNamed_11 : decode cX2_personNamed 11 = .ok (.iconst 4, 1) := by decide +kernel
theorem dX2_personNamed_12 : decode cX2_personNamed 12 = .ok (.if_icmp .ge 24, 3) := by decide +kernel
theorem dX2_personNamed_15 : decode cX2_personNamed 15 = .ok (.aload_n 0, 1) := by decide +kernel
theorem dX2_personNamed_16 : decode cX2_personNamed 16 = .ok (.getfield 36, 3) := by decide +kernel
theorem dX2_personNamed_19 : decode cX2_personNamed 19 = .ok (.iload_n 2, 1) := by decide +kernel
theorem dX2_personNamed_20 : decode cX2_personNamed 20 = .ok (.aaload, 1) := by decide +kernel
theorem dX2_personNamed_21 : decode cX2_personNamed 21 = .ok (.getfield 70, 3) := by decide +kernel
theorem dX2_personNamed_24 : decode cX2_personNamed 24 = .ok (.iload_n 1, 1) := by decide +kernel
theorem dX2_personNamed_25 : decode cX2_personNamed 25 = .ok (.if_icmp .ne 5, 3) := by decide +kernel
theorem dX2_personNamed_28 : decode cX2_personNamed 28 = .ok (.iload_n 2, 1) := by decide +kernel
theorem dX2_personNamed_29 : decode cX2_personNamed 29 = .ok (.ireturn, 1) := by decide +kernel
theorem dX2_personNamed_30 : decode cX2_personNamed 30 = .ok (.iinc 2 1, 3) := by decide +kernel
theorem dX2_personNamed_33 : decode cX2_personNamed 33 = .ok (.goto (-31), 3) := by decide +kernel
theorem dX2_personNamed_36 : decode cX2_personNamed 36 = .ok (.iconst (-1), 1) := by decide +kernel
theorem dX2_personNamed_37 : decode cX2_personNamed 37 = .ok (.ireturn, 1) := by decide +kernel
theorem dX2_isTaken_0 : decode cX2_isTaken 0 = .ok (.aload_n 0, 1) := by decide +kernel
theorem dX2_isTaken_1 : decode cX2_isTaken 1 = .ok (.iload_n 1, 1) := by decide +kernel
theorem dX2_isTaken_2 : decode cX2_isTaken 2 = .ok (.invokevirtual 71, 3) := by decide +kernel
theorem dX2_isTaken_5 : decode cX2_isTaken 5 = .ok (.iconst (-1), 1) := by decide +kernel
theorem dX2_isTaken_6 : decode cX2_isTaken 6 = .ok (.if_icmp .ne 21, 3) := by decide +kernel
theorem dX2_isTaken_9 : decode cX2_isTaken 9 = .ok (.aload_n 0, 1) := by decide +kernel
theorem dX2_isTaken_10 : decode cX2_isTaken 10 = .ok (.iload_n 1, 1) := by decide +kernel
theorem dX2_isTaken_11 : decode cX2_isTaken 11 = .ok (.invokevirtual 75, 3) := by decide +kernel
theorem dX2_isTaken_14 : decode cX2_isTaken 14 = .ok (.iconst (-1), 1) := by decide +kernel
theorem dX2_isTaken_15 : decode cX2_isTaken 15 = .ok (.if_icmp .ne 12, 3) := by decide +kernel
theorem dX2_isTaken_18 : decode cX2_isTaken 18 = .ok (.aload_n 0, 1) := by decide +kernel
theorem dX2_isTaken_19 : decode cX2_isTaken 19 = .ok (.iload_n 1, 1) := by decide +kernel
theorem dX2_isTaken_20 : decode cX2_isTaken 20 = .ok (.invokevirtual 78, 3) := by decide +kernel
theorem dX2_isTaken_23 : decode cX2_isTaken 23 = .ok (.iconst (-1), 1) := by decide +kernel
theorem dX2_isTaken_24 : decode cX2_isTaken 24 = .ok (.if_icmp .eq 7, 3) := by decide +kernel
theorem dX2_isTaken_27 : decode cX2_isTaken 27 = .ok (.iconst 1, 1) := by decide +kernel
theorem dX2_isTaken_28 : decode cX2_isTaken 28 = .ok (.goto 4, 3) := by decide +kernel
theorem dX2_isTaken_31 : decode cX2_isTaken 31 = .ok (.iconst 0, 1) := by decide +kernel
theorem dX2_isTaken_32 : decode cX2_isTaken 32 = .ok (.ireturn, 1) := by decide +kernel
theorem dX3_init_0 : decode cX3_init 0 = .ok (.aload_n 0, 1) := by decide +kernel
theorem dX3_init_1 : decode cX3_init 1 = .ok (.invokespecial 1, 3) := by decide +kernel
theorem dX3_init_4 : decode cX3_init 4 = .ok (.return_, 1) := by decide +kernel
theorem dX3_begin_0 : decode cX3_begin 0 = .ok (.aload_n 0, 1) := by decide +kernel
theorem dX3_begin_1 : decode cX3_begin 1 = .ok (.iload_n 1, 1) := by decide +kernel
theorem dX3_begin_2 : decode cX3_begin 2 = .ok (.putfield 7, 3) := by decide +kernel
theorem dX3_begin_5 : decode cX3_begin 5 = .ok (.aload_n 0, 1) := by decide +kernel
theorem dX3_begin_6 : decode cX3_begin 6 = .ok (.iconst 0, 1) := by decide +kernel
theorem dX3_begin_7 : decode cX3_begin 7 = .ok (.putfield 13, 3) := by decide +kernel
theorem dX3_begin_10 : decode cX3_begin 10 = .ok (.aload_n 0, 1) := by decide +kernel
theorem dX3_begin_11 : decode cX3_begin 11 = .ok (.iconst 0, 1) := by decide +kernel
theorem dX3_begin_12 : decode cX3_begin 12 = .ok (.putfield 16, 3) := by decide +kernel
theorem dX3_begin_15 : decode cX3_begin 15 = .ok (.aload_n 0, 1) := by decide +kernel
theorem dX3_begin_16 : decode cX3_begin 16 = .ok (.iconst 0, 1) := by decide +kernel
theorem dX3_begin_17 : decode cX3_begin 17 = .ok (.putfield 19, 3) := by decide +kernel
theorem dX3_begin_20 : decode cX3_begin 20 = .ok (.return_, 1) := by decide +kernel
theorem dX4_init_0 : decode cX4_init 0 = .ok (.aload_n 0, 1) := by decide +kernel
theorem dX4_init_1 : decode cX4_init 1 = .ok (.invokespecial 3, 3) := by decide +kernel
theorem dX4_init_4 : decode cX4_init 4 = .ok (.aload_n 0, 1) := by decide +kernel
theorem dX4_init_5 : decode cX4_init 5 = .ok (.iconst (-1), 1) := by decide +kernel
theorem dX4_init_6 : decode cX4_init 6 = .ok (.putfield 9, 3) := by decide +kernel
theorem dX4_init_9 : decode cX4_init 9 = .ok (.aload_n 0, 1) := by decide +kernel
theorem dX4_init_10 : decode cX4_init 10 = .ok (.aload_n 1, 1) := by decide +kernel
theorem dX4_init_11 : decode cX4_init 11 = .ok (.putfield 15, 3) := by decide +kernel
theorem dX4_init_14 : decode cX4_init 14 = .ok (.return_, 1) := by decide +kernel
theorem dX4_read_0 : decode cX4_read 0 = .ok (.aload_n 0, 1) := by decide +kernel
theorem dX4_read_1 : decode cX4_read 1 = .ok (.aload_n 1, 1) := by decide +kernel
theorem dX4_read_2 : decode cX4_read 2 = .ok (.putfield 19, 3) := by decide +kernel
theorem dX4_read_5 : decode cX4_read 5 = .ok (.aload_n 0, 1) := by decide +kernel
theorem dX4_read_6 : decode cX4_read 6 = .ok (.getfield 19, 3) := by decide +kernel
theorem dX4_read_9 : decode cX4_read 9 = .ok (.invokevirtual 23, 3) := by decide +kernel
theorem dX4_read_12 : decode cX4_read 12 = .ok (.aload_n 0, 1) := by decide +kernel
theorem dX4_read_13 : decode cX4_read 13 = .ok (.iconst (-1), 1) := by decide +kernel
theorem dX4_read_14 : decode cX4_read 14 = .ok (.putfield 28, 3) := by decide +kernel
theorem dX4_read_17 : decode cX4_read 17 = .ok (.aload_n 0, 1) := by decide +kernel
theorem dX4_read_18 : decode cX4_read 18 = .ok (.invokevirtual 31, 3) := by decide +kernel
theorem dX4_read_21 : decode cX4_read 21 = .ok (.aload_n 0, 1) := by decide +kernel
theorem dX4_read_22 : decode cX4_read 22 = .ok (.iconst 0, 1) := by decide +kernel
theorem dX4_read_23 : decode cX4_read 23 = .ok (.putfield 34, 3) := by decide +kernel
theorem dX4_read_26 : decode cX4_read 26 = .ok (.aload_n 0, 1) := by decide +kernel
theorem dX4_read_27 : decode cX4_read 27 = .ok (.iconst 0, 1) := by decide +kernel
theorem dX4_read_28 : decode cX4_read 28 = .ok (.putfield 37, 3) := by decide +kernel
theorem dX4_read_31 : decode cX4_read 31 = .ok (.aload_n 0, 1) := by decide +kernel
theorem dX4_read_32 : decode cX4_read 32 = .ok (.iconst (-1), 1) := by decide +kernel
theorem dX4_read_33 : decode cX4_read 33 = .ok (.putfield 9, 3) := by decide +kernel
theorem dX4_read_36 : decode cX4_read 36 = .ok (.aload_n 0, 1) := by decide +kernel
theorem dX4_read_37 : decode cX4_read 37 = .ok (.invokevirtual 40, 3) := by decide +kernel
theorem dX4_read_40 : decode cX4_read 40 = .ok (.istore_n 2, 1) := by decide +kernel
theorem dX4_read_41 : decode cX4_read 41 = .ok (.iconst 1, 1) := by decide +kernel
theorem dX4_read_42 : decode cX4_read 42 = .ok (.istore_n 3, 1) := by decide +kernel
theorem dX4_read_43 : decode cX4_read 43 = .ok (.iload_n 2, 1) := by decide +kernel
theorem dX4_read_44 : decode cX4_read 44 = .ok (.ifCond .eq 28, 3) := by decide +kernel
theorem dX4_read_47 : decode cX4_read 47 = .ok (.iload_n 3, 1) := by decide +kernel
theorem dX4_read_48 : decode cX4_read 48 = .ok (.sipush 1600, 3) := by decide +kernel
theorem dX4_read_51 : decode cX4_read 51 = .ok (.if_icmp .gt 21, 3) := by decide +kernel
theorem dX4_read_54 : decode cX4_read 54 = .ok (.aload_n 0, 1) := by decide +kernel
theorem dX4_read_55 : decode cX4_read 55 = .ok (.getfield 44, 3) := by decide +kernel
theorem dX4_read_58 : decode cX4_read 58 = .ok (.ifCond .eq 14, 3) := by decide +kernel
theorem dX4_read_61 : decode cX4_read 61 = .ok (.aload_n 0, 1) := by decide +kernel
theorem dX4_read_62 : decode cX4_read 62 = .ok (.invokevirtual 47, 3) := by decide +kernel
theorem dX4_read_65 : decode cX4_read 65 = .ok (.istore_n 2, 1) := by decide +kernel
theorem dX4_read_66 : decode cX4_read 66 = .ok (.iinc 3 1, 3) := by decide +kernel
theorem dX4_read_69 : decode cX4_read 69 = .ok (.goto (-26), 3) := by decide +kernel
theorem dX4_read_72 : decode cX4_read 72 = .ok (.iload_n 2, 1) := by decide +kernel
theorem dX4_read_73 : decode cX4_read 73 = .ok (.ifCond .eq 7, 3) := by decide +kernel
theorem dX4_read_76 : decode cX4_read 76 = .ok (.iload_n 3, 1) := by decide +kernel
theorem dX4_read_77 : decode cX4_read 77 = .ok (.goto 4, 3) := by decide +kernel
theorem dX4_read_80 : decode cX4_read 80 = .ok (.iconst (-1), 1) := by decide +kernel
theorem dX4_read_81 : decode cX4_read 81 = .ok (.ireturn, 1) := by decide +kernel
theorem dX4_advance_0 : decode cX4_advance 0 = .ok (.aload_n 0, 1) := by decide +kernel
theorem dX4_advance_1 : decode cX4_advance 1 = .ok (.dup, 1) := by decide +kernel
theorem dX4_advance_2 : decode cX4_advance 2 = .ok (.getfield 28, 3) := by decide +kernel
theorem dX4_advance_5 : decode cX4_advance 5 = .ok (.iconst 1, 1) := by decide +kernel
theorem dX4_advance_6 : decode cX4_advance 6 = .ok (.iadd, 1) := by decide +kernel
theorem dX4_advance_7 : decode cX4_advance 7 = .ok (.putfield 28, 3) := by decide +kernel
theorem dX4_advance_10 : decode cX4_advance 10 = .ok (.aload_n 0, 1) := by decide +kernel
theorem dX4_advance_11 : decode cX4_advance 11 = .ok (.getfield 28, 3) := by decide +kernel
theorem dX4_advance_14 : decode cX4_advance 14 = .ok (.aload_n 0, 1) := by decide +kernel
theorem dX4_advance_15 : decode cX4_advance 15 = .ok (.getfield 15, 3) := by decide +kernel
theorem dX4_advance_18 : decode cX4_advance 18 = .ok (.getfield 50, 3) := by decide +kernel
theorem dX4_advance_21 : decode cX4_advance 21 = .ok (.if_icmp .ge 22, 3) := by decide +kernel
theorem dX4_advance_24 : decode cX4_advance 24 = .ok (.aload_n 0, 1) := by decide +kernel
theorem dX4_advance_25 : decode cX4_advance 25 = .ok (.getfield 28, 3) := by decide +kernel
theorem dX4_advance_28 : decode cX4_advance 28 = .ok (.aload_n 0, 1) := by decide +kernel
theorem dX4_advance_29 : decode cX4_advance 29 = .ok (.getfield 15, 3) := by decide +kernel
theorem dX4_advance_32 : decode cX4_advance 32 = .ok (.getfield 55, 3) := by decide +kernel
theorem dX4_advance_35 : decode cX4_advance 35 = .ok (.arraylength, 1) := by decide +kernel
theorem dX4_advance_36 : decode cX4_advance 36 = .ok (.if_icmp .ge 7, 3) := by decide +kernel
theorem dX4_advance_39 : decode cX4_advance 39 = .ok (.iconst 1, 1) := by decide +kernel
theorem dX4_advance_40 : decode cX4_advance 40 = .ok (.goto 4, 3) := by decide +kernel
theorem dX4_advance_43 : decode cX4_advance 43 = .ok (.iconst 0, 1) := by decide +kernel
theorem dX4_advance_44 : decode cX4_advance 44 = .ok (.istore_n 1, 1) := by decide +kernel
theorem dX4_advance_45 : decode cX4_advance 45 = .ok (.aload_n 0, 1) := by decide +kernel
theorem dX4_advance_46 : decode cX4_advance 46 = .ok (.iload_n 1, 1) := by decide +kernel
theorem dX4_advance_47 : decode cX4_advance 47 = .ok (.ifCond .eq 18, 3) := by decide +kernel
theorem dX4_advance_50 : decode cX4_advance 50 = .ok (.aload_n 0, 1) := by decide +kernel
theorem dX4_advance_51 : decode cX4_advance 51 = .ok (.getfield 15, 3) := by decide +kernel
theorem dX4_advance_54 : decode cX4_advance 54 = .ok (.getfield 55, 3) := by decide +kernel
theorem dX4_advance_57 : decode cX4_advance 57 = .ok (.aload_n 0, 1) := by decide +kernel
theorem dX4_advance_58 : decode cX4_advance 58 = .ok (.getfield 28, 3) := by decide +kernel
theorem dX4_advance_61 : decode cX4_advance 61 = .ok (.iaload, 1) := by decide +kernel
theorem dX4_advance_62 : decode cX4_advance 62 = .ok (.goto 4, 3) := by decide +kernel
theorem dX4_advance_65 : decode cX4_advance 65 = .ok (.iconst 0, 1) := by decide +kernel
theorem dX4_advance_66 : decode cX4_advance 66 = .ok (.putfield 44, 3) := by decide +kernel
theorem dX4_advance_69 : decode cX4_advance 69 = .ok (.aload_n 0, 1) := by decide +kernel
theorem dX4_advance_70 : decode cX4_advance 70 = .ok (.iload_n 1, 1) := by decide +kernel
theorem dX4_advance_71 : decode cX4_advance 71 = .ok (.ifCond .eq 18, 3) := by decide +kernel
theorem dX4_advance_74 : decode cX4_advance 74 = .ok (.aload_n 0, 1) := by decide +kernel
theorem dX4_advance_75 : decode cX4_advance 75 = .ok (.getfield 15, 3) := by decide +kernel
theorem dX4_advance_78 : decode cX4_advance 78 = .ok (.getfield 59, 3) := by decide +kernel
theorem dX4_advance_81 : decode cX4_advance 81 = .ok (.aload_n 0, 1) := by decide +kernel
theorem dX4_advance_82 : decode cX4_advance 82 = .ok (.getfield 28, 3) := by decide +kernel
theorem dX4_advance_85 : decode cX4_advance 85 = .ok (.iaload, 1) := by decide +kernel
theorem dX4_advance_86 : decode cX4_advance 86 = .ok (.goto 4, 3) := by decide +kernel
theorem dX4_advance_89 : decode cX4_advance 89 = .ok (.iconst 0, 1) := by decide +kernel
theorem dX4_advance_90 : decode cX4_advance 90 = .ok (.putfield 62, 3) := by decide +kernel
theorem dX4_advance_93 : decode cX4_advance 93 = .ok (.return_, 1) := by decide +kernel
theorem dX4_fail_0 : decode cX4_fail 0 = .ok (.aload_n 0, 1) := by decide +kernel
theorem dX4_fail_1 : decode cX4_fail 1 = .ok (.iload_n 1, 1) := by decide +kernel
theorem dX4_fail_2 : decode cX4_fail 2 = .ok (.putfield 37, 3) := by decide +kernel
theorem dX4_fail_5 : decode cX4_fail 5 = .ok (.aload_n 0, 1) := by decide +kernel
theorem dX4_fail_6 : decode cX4_fail 6 = .ok (.aload_n 0, 1) := by decide +kernel
theorem dX4_fail_7 : decode cX4_fail 7 = .ok (.getfield 28, 3) := by decide +kernel
theorem dX4_fail_10 : decode cX4_fail 10 = .ok (.aload_n 0, 1) := by decide +kernel
theorem dX4_fail_11 : decode cX4_fail 11 = .ok (.getfield 15, 3) := by decide +kernel
theorem dX4_fail_14 : decode cX4_fail 14 = .ok (.getfield 50, 3) := by decide +kernel
theorem dX4_fail_17 : decode cX4_fail 17 = .ok (.if_icmp .ge 33, 3) := by decide +kernel
theorem dX4_fail_20 : decode cX4_fail 20 = .ok (.aload_n 0, 1) := by decide +kernel
theorem dX4_fail_21 : decode cX4_fail 21 = .ok (.getfield 28, 3) := by decide +kernel
theorem dX4_fail_24 : decode cX4_fail 24 = .ok (.aload_n 0, 1) := by decide +kernel
theorem dX4_fail_25 : decode cX4_fail 25 = .ok (.getfield 15, 3) := by decide +kernel
theorem dX4_fail_28 : decode cX4_fail 28 = .ok (.getfield 65, 3) := by decide +kernel
theorem dX4_fail_31 : decode cX4_fail 31 = .ok (.arraylength, 1) := by decide +kernel
theorem dX4_fail_32 : decode cX4_fail 32 = .ok (.if_icmp .ge 18, 3) := by decide +kernel
theorem dX4_fail_35 : decode cX4_fail 35 = .ok (.aload_n 0, 1) := by decide +kernel
theorem dX4_fail_36 : decode cX4_fail 36 = .ok (.getfield 15, 3) := by decide +kernel
theorem dX4_fail_39 : decode cX4_fail 39 = .ok (.getfield 65, 3) := by decide +kernel
theorem dX4_fail_42 : decode cX4_fail 42 = .ok (.aload_n 0, 1) := by decide +kernel
theorem dX4_fail_43 : decode cX4_fail 43 = .ok (.getfield 28, 3) := by decide +kernel
theorem dX4_fail_46 : decode cX4_fail 46 = .ok (.iaload, 1) := by decide +kernel
theorem dX4_fail_47 : decode cX4_fail 47 = .ok (.goto 4, 3) := by decide +kernel
theorem dX4_fail_50 : decode cX4_fail 50 = .ok (.iconst 0, 1) := by decide +kernel
theorem dX4_fail_51 : decode cX4_fail 51 = .ok (.putfield 9, 3) := by decide +kernel
theorem dX4_fail_54 : decode cX4_fail 54 = .ok (.iconst 0, 1) := by decide +kernel
theorem dX4_fail_55 : decode cX4_fail 55 = .ok (.ireturn, 1) := by decide +kernel
theorem dX4_seesSign_0 : decode cX4_seesSign 0 = .ok (.aload_n 0, 1) := by decide +kernel
theorem dX4_seesSign_1 : decode cX4_seesSign 1 = .ok (.getfield 44, 3) := by decide +kernel
theorem dX4_seesSign_4 : decode cX4_seesSign 4 = .ok (.iconst 2, 1) := by decide +kernel
theorem dX4_seesSign_5 : decode cX4_seesSign 5 = .ok (.if_icmp .ne 15, 3) := by decide +kernel
theorem dX4_seesSign_8 : decode cX4_seesSign 8 = .ok (.aload_n 0, 1) := by decide +kernel
theorem dX4_seesSign_9 : decode cX4_seesSign 9 = .ok (.getfield 62, 3) := by decide +kernel
theorem dX4_seesSign_12 : decode cX4_seesSign 12 = .ok (.iload_n 1, 1) := by decide +kernel
theorem dX4_seesSign_13 : decode cX4_seesSign 13 = .ok (.if_icmp .ne 7, 3) := by decide +kernel
theorem dX4_seesSign_16 : decode cX4_seesSign 16 = .ok (.iconst 1, 1) := by decide +kernel
theorem dX4_seesSign_17 : decode cX4_seesSign 17 = .ok (.goto 4, 3) := by decide +kernel
theorem dX4_seesSign_20 : decode cX4_seesSign 20 = .ok (.iconst 0, 1) := by decide +kernel
theorem dX4_seesSign_21 : decode cX4_seesSign 21 = .ok (.ireturn, 1) := by decide +kernel
theorem dX4_seesWord_0 : decode cX4_seesWord 0 = .ok (.aload_n 0, 1) := by decide +kernel
theorem dX4_seesWord_1 : decode cX4_seesWord 1 = .ok (.getfield 44, 3) := by decide +kernel
theorem dX4_seesWord_4 : decode cX4_seesWord 4 = .ok (.iconst 4, 1) := by decide +kernel
theorem dX4_seesWord_5 : decode cX4_seesWord 5 = .ok (.if_icmp .ne 15, 3) := by decide +kernel
theorem dX4_seesWord_8 : decode cX4_seesWord 8 = .ok (.aload_n 0, 1) := by decide +kernel
theorem dX4_seesWord_9 : decode cX4_seesWord 9 = .ok (.getfield 62, 3) := by decide +kernel
theorem dX4_seesWord_12 : decode cX4_seesWord 12 = .ok (.iload_n 1, 1) := by decide +kernel
theorem dX4_seesWord_13 : decode cX4_seesWord 13 = .ok (.if_icmp .ne 7, 3) := by decide +kernel
theorem dX4_seesWord_16 : decode cX4_seesWord 16 = .ok (.iconst 1, 1) := by decide +kernel
theorem dX4_seesWord_17 : decode cX4_seesWord 17 = .ok (.goto 4, 3) := by decide +kernel
theorem dX4_seesWord_20 : decode cX4_seesWord 20 = .ok (.iconst 0, 1) := by decide +kernel
theorem dX4_seesWord_21 : decode cX4_seesWord 21 = .ok (.ireturn, 1) := by decide +kernel
theorem dX4_readSign_0 : decode cX4_readSign 0 = .ok (.aload_n 0, 1) := by decide +kernel
theorem dX4_readSign_1 : decode cX4_readSign 1 = .ok (.iload_n 1, 1) := by decide +kernel
theorem dX4_readSign_2 : decode cX4_readSign 2 = .ok (.invokevirtual 68, 3) := by decide +kernel
theorem dX4_readSign_5 : decode cX4_readSign 5 = .ok (.ifCond .ne 9, 3) := by decide +kernel
theorem dX4_readSign_8 : decode cX4_readSign 8 = .ok (.aload_n 0, 1) := by decide +kernel
theorem dX4_readSign_9 : decode cX4_readSign 9 = .ok (.iconst 1, 1) := by decide +kernel
theorem dX4_readSign_10 : decode cX4_readSign 10 = .ok (.invokevirtual 72, 3) := by decide +kernel
theorem dX4_readSign_13 : decode cX4_readSign 13 = .ok (.ireturn, 1) := by decide +kernel
theorem dX4_readSign_14 : decode cX4_readSign 14 = .ok (.aload_n 0, 1) := by decide +kernel
theorem dX4_readSign_15 : decode cX4_readSign 15 = .ok (.invokevirtual 31, 3) := by decide +kernel
theorem dX4_readSign_18 : decode cX4_readSign 18 = .ok (.iconst 1, 1) := by decide +kernel
theorem dX4_readSign_19 : decode cX4_readSign 19 = .ok (.ireturn, 1) := by decide +kernel
theorem dX4_readWord_0 : decode cX4_readWord 0 = .ok (.aload_n 0, 1) := by decide +kernel
theorem dX4_readWord_1 : decode cX4_readWord 1 = .ok (.iload_n 1, 1) := by decide +kernel
theorem dX4_readWord_2 : decode cX4_readWord 2 = .ok (.invokevirtual 75, 3) := by decide +kernel
theorem dX4_readWord_5 : decode cX4_readWord 5 = .ok (.ifCond .ne 9, 3) := by decide +kernel
theorem dX4_readWord_8 : decode cX4_readWord 8 = .ok (.aload_n 0, 1) := by decide +kernel
theorem dX4_readWord_9 : decode cX4_readWord 9 = .ok (.iconst 1, 1) := by decide +kernel
theorem dX4_readWord_10 : decode cX4_readWord 10 = .ok (.invokevirtual 72, 3) := by decide +kernel
theorem dX4_readWord_13 : decode cX4_readWord 13 = .ok (.ireturn, 1) := by decide +kernel
theorem dX4_readWord_14 : decode cX4_readWord 14 = .ok (.aload_n 0, 1) := by decide +kernel
theorem dX4_readWord_15 : decode cX4_readWord 15 = .ok (.invokevirtual 31, 3) := by decide +kernel
theorem dX4_readWord_18 : decode cX4_readWord 18 = .ok (.iconst 1, 1) := by decide +kernel
theorem dX4_readWord_19 : decode cX4_readWord 19 = .ok (.ireturn, 1) := by decide +kernel
theorem dX4_readNumber_0 : decode cX4_readNumber 0 = .ok (.aload_n 0, 1) := by decide +kernel
theorem dX4_readNumber_1 : decode cX4_readNumber 1 = .ok (.getfield 44, 3) := by decide +kernel
theorem dX4_readNumber_4 : decode cX4_readNumber 4 = .ok (.iconst 3, 1) := by decide +kernel
theorem dX4_readNumber_5 : decode cX4_readNumber 5 = .ok (.if_icmp .eq 9, 3) := by decide +kernel
theorem dX4_readNumber_8 : decode cX4_readNumber 8 = .ok (.aload_n 0, 1) := by decide +kernel
theorem dX4_readNumber_9 : decode cX4_readNumber 9 = .ok (.iconst 1, 1) := by decide +kernel
theorem dX4_readNumber_10 : decode cX4_readNumber 10 = .ok (.invokevirtual 72, 3) := by decide +kernel
theorem dX4_readNumber_13 : decode cX4_readNumber 13 = .ok (.ireturn, 1) := by decide +kernel
theorem dX4_readNumber_14 : decode cX4_readNumber 14 = .ok (.aload_n 0, 1) := by decide +kernel
theorem dX4_readNumber_15 : decode cX4_readNumber 15 = .ok (.aload_n 0, 1) := by decide +kernel
theorem dX4_readNumber_16 : decode cX4_readNumber 16 = .ok (.getfield 62, 3) := by decide +kernel
theorem dX4_readNumber_19 : decode cX4_readNumber 19 = .ok (.putfield 78, 3) := by decide +kernel
theorem dX4_readNumber_22 : decode cX4_readNumber 22 = .ok (.aload_n 0, 1) := by decide +kernel
theorem dX4_readNumber_23 : decode cX4_readNumber 23 = .ok (.getfield 78, 3) := by decide +kernel
theorem dX4_readNumber_26 : decode cX4_readNumber 26 = .ok (.iload_n 1, 1) := by decide +kernel
theorem dX4_readNumber_27 : decode cX4_readNumber 27 = .ok (.if_icmp .lt 11, 3) := by decide +kernel
theorem dX4_readNumber_30 : decode cX4_readNumber 30 = .ok (.aload_n 0, 1) := by decide +kernel
theorem dX4_readNumber_31 : decode cX4_readNumber 31 = .ok (.getfield 78, 3) := by decide +kernel
theorem dX4_readNumber_34 : decode cX4_readNumber 34 = .ok (.iload_n 2, 1) := by decide +kernel
theorem dX4_readNumber_35 : decode cX4_readNumber 35 = .ok (.if_icmp .le 9, 3) := by decide +kernel
theorem dX4_readNumber_38 : decode cX4_readNumber 38 = .ok (.aload_n 0, 1) := by decide +kernel
theorem dX4_readNumber_39 : decode cX4_readNumber 39 = .ok (.iconst 4, 1) := by decide +kernel
theorem dX4_readNumber_40 : decode cX4_readNumber 40 = .ok (.invokevirtual 72, 3) := by decide +kernel
theorem dX4_readNumber_43 : decode cX4_readNumber 43 = .ok (.ireturn, 1) := by decide +kernel
theorem dX4_readNumber_44 : decode cX4_readNumber 44 = .ok (.aload_n 0, 1) := by decide +kernel
theorem dX4_readNumber_45 : decode cX4_readNumber 45 = .ok (.invokevirtual 31, 3) := by decide +kernel
theorem dX4_readNumber_48 : decode cX4_readNumber 48 = .ok (.iconst 1, 1) := by decide +kernel
theorem dX4_readNumber_49 : decode cX4_readNumber 49 = .ok (.ireturn, 1) := by decide +kernel
theorem dX4_readNewName_0 : decode cX4_readNewName 0 = .ok (.aload_n 0, 1) := by decide +kernel
theorem dX4_readNewName_1 : decode cX4_readNewName 1 = .ok (.getfield 44, 3) := by decide +kernel
theorem dX4_readNewName_4 : decode cX4_readNewName 4 = .ok (.iconst 5, 1) := by decide +kernel
theorem dX4_readNewName_5 : decode cX4_readNewName 5 = .ok (.if_icmp .eq 9, 3) := by decide +kernel
theorem dX4_readNewName_8 : decode cX4_readNewName 8 = .ok (.aload_n 0, 1) := by decide +kernel
theorem dX4_readNewName_9 : decode cX4_readNewName 9 = .ok (.iconst 1, 1) := by decide +kernel
theorem dX4_readNewName_10 : decode cX4_readNewName 10 = .ok (.invokevirtual 72, 3) := by decide +kernel
theorem dX4_readNewName_13 : decode cX4_readNewName 13 = .ok (.ireturn, 1) := by decide +kernel
theorem dX4_readNewName_14 : decode cX4_readNewName 14 = .ok (.aload_n 0, 1) := by decide +kernel
theorem dX4_readNewName_15 : decode cX4_readNewName 15 = .ok (.aload_n 0, 1) := by decide +kernel
theorem dX4_readNewName_16 : decode cX4_readNewName 16 = .ok (.getfield 62, 3) := by decide +kernel
theorem dX4_readNewName_19 : decode cX4_readNewName 19 = .ok (.putfield 78, 3) := by decide +kernel
theorem dX4_readNewName_22 : decode cX4_readNewName 22 = .ok (.aload_n 0, 1) := by decide +kernel
theorem dX4_readNewName_23 : decode cX4_readNewName 23 = .ok (.getfield 19, 3) := by decide +kernel
theorem dX4_readNewName_26 : decode cX4_readNewName 26 = .ok (.aload_n 0, 1) := by decide +kernel
theorem dX4_readNewName_27 : decode cX4_readNewName 27 = .ok (.getfield 78, 3) := by decide +kernel
theorem dX4_readNewName_30 : decode cX4_readNewName 30 = .ok (.invokevirtual 81, 3) := by decide +kernel
theorem dX4_readNewName_33 : decode cX4_readNewName 33 = .ok (.ifCond .eq 9, 3) := by decide +kernel
theorem dX4_readNewName_36 : decode cX4_readNewName 36 = .ok (.aload_n 0, 1) := by decide +kernel
theorem dX4_readNewName_37 : decode cX4_readNewName 37 = .ok (.iconst 2, 1) := by decide +kernel
theorem dX4_readNewName_38 : decode cX4_readNewName 38 = .ok (.invokevirtual 72, 3) := by decide +kernel
theorem dX4_readNewName_41 : decode cX4_readNewName 41 = .ok (.ireturn, 1) := by decide +kernel
theorem dX4_readNewName_42 : decode cX4_readNewName 42 = .ok (.aload_n 0, 1) := by decide +kernel
theorem dX4_readNewName_43 : decode cX4_readNewName 43 = .ok (.invokevirtual 31, 3) := by decide +kernel
theorem dX4_readNewName_46 : decode cX4_readNewName 46 = .ok (.iconst 1, 1) := by decide +kernel
theorem dX4_readNewName_47 : decode cX4_readNewName 47 = .ok (.ireturn, 1) := by decide +kernel
theorem dX4_readKnownName_0 : decode cX4_readKnownName 0 = .ok (.aload_n 0, 1) := by decide +kernel
theorem dX4_readKnownName_1 : decode cX4_readKnownName 1 = .ok (.getfield 44, 3) := by decide +kernel
theorem dX4_readKnownName_4 : decode cX4_readKnownName 4 = .ok (.iconst 5, 1) := by decide +kernel
theorem dX4_readKnownName_5 : decode cX4_readKnownName 5 = .ok (.if_icmp .eq 9, 3) := by decide +kernel
theorem dX4_readKnownName_8 : decode cX4_readKnownName 8 = .ok (.aload_n 0, 1) := by decide +kernel
theorem dX4_readKnownName_9 : decode cX4_readKnownName 9 = .ok (.iconst 1, 1) := by decide +kernel
theorem dX4_readKnownName_10 : decode cX4_readKnownName 10 = .ok (.invokevirtual 72, 3) := by decide +kernel
theorem dX4_readKnownName_13 : decode cX4_readKnownName 13 = .ok (.ireturn, 1) := by decide +kernel
theorem dX4_readKnownName_14 : decode cX4_readKnownName 14 = .ok (.aload_n 0, 1) := by decide +kernel
theorem dX4_readKnownName_15 : decode cX4_readKnownName 15 = .ok (.iload_n 1, 1) := by decide +kernel
theorem dX4_readKnownName_16 : decode cX4_readKnownName 16 = .ok (.ifCond .eq 17, 3) := by decide +kernel
theorem dX4_readKnownName_19 : decode cX4_readKnownName 19 = .ok (.aload_n 0, 1) := by decide +kernel
theorem dX4_readKnownName_20 : decode cX4_readKnownName 20 = .ok (.getfield 19, 3) := by decide +kernel
theorem dX4_readKnownName_23 : decode cX4_readKnownName 23 = .ok (.aload_n 0, 1) := by decide +kernel
theorem dX4_readKnownName_24 : decode cX4_readKnownName 24 = .ok (.getfield 62, 3) := by decide +kernel
theorem dX4_readKnownName_27 : decode cX4_readKnownName 27 = .ok (.invokevirtual 84, 3) := by decide +kernel
theorem dX4_readKnownName_30 : decode cX4_readKnownName 30 = .ok (.goto 14, 3) := by decide +kernel
theorem dX4_readKnownName_33 : decode cX4_readKnownName 33 = .ok (.aload_n 0, 1) := by decide +kernel
theorem dX4_readKnownName_34 : decode cX4_readKnownName 34 = .ok (.getfield 19, 3) := by decide +kernel
theorem dX4_readKnownName_37 : decode cX4_readKnownName 37 = .ok (.aload_n 0, 1) := by decide +kernel
theorem dX4_readKnownName_38 : decode cX4_readKnownName 38 = .ok (.getfield 62, 3) := by decide +kernel
theorem dX4_readKnownName_41 : decode cX4_readKnownName 41 = .ok (.invokevirtual 88, 3) := by decide +kernel
theorem dX4_readKnownName_44 : decode cX4_readKnownName 44 = .ok (.putfield 78, 3) := by decide +kernel
theorem dX4_readKnownName_47 : decode cX4_readKnownName 47 = .ok (.aload_n 0, 1) := by decide +kernel
theorem dX4_readKnownName_48 : decode cX4_readKnownName 48 = .ok (.getfield 78, 3) := by decide +kernel
theorem dX4_readKnownName_51 : decode cX4_readKnownName 51 = .ok (.iconst (-1), 1) := by decide +kernel
theorem dX4_readKnownName_52 : decode cX4_readKnownName 52 = .ok (.if_icmp .ne 9, 3) := by decide +kernel
theorem dX4_readKnownName_55 : decode cX4_readKnownName 55 = .ok (.aload_n 0, 1) := by decide +kernel
theorem dX4_readKnownName_56 : decode cX4_readKnownName 56 = .ok (.iconst 3, 1) := by decide +kernel
theorem dX4_readKnownName_57 : decode cX4_readKnownName 57 = .ok (.invokevirtual 72, 3) := by decide +kernel
theorem dX4_readKnownName_60 : decode cX4_readKnownName 60 = .ok (.ireturn, 1) := by decide +kernel
theorem dX4_readKnownName_61 : decode cX4_readKnownName 61 = .ok (.aload_n 0, 1) := by decide +kernel
theorem dX4_readKnownName_62 : decode cX4_readKnownName 62 = .ok (.invokevirtual 31, 3) := by decide +kernel
theorem dX4_readKnownName_65 : decode cX4_readKnownName 65 = .ok (.iconst 1, 1) := by decide +kernel
theorem dX4_readKnownName_66 : decode cX4_readKnownName 66 = .ok (.ireturn, 1) := by decide +kernel
theorem dX4_readHead_0 : decode cX4_readHead 0 = .ok (.aload_n 0, 1) := by decide +kernel
theorem dX4_readHead_1 : decode cX4_readHead 1 = .ok (.iconst 0, 1) := by decide +kernel
theorem dX4_readHead_2 : decode cX4_readHead 2 = .ok (.invokevirtual 91, 3) := by decide +kernel
theorem dX4_readHead_5 : decode cX4_readHead 5 = .ok (.ifCond .eq 13, 3) := by decide +kernel
theorem dX4_readHead_8 : decode cX4_readHead 8 = .ok (.aload_n 0, 1) := by decide +kernel
theorem dX4_readHead_9 : decode cX4_readHead 9 = .ok (.iconst 2, 1) := by decide +kernel
theorem dX4_readHead_10 : decode cX4_readHead 10 = .ok (.bipush 6, 2) := by decide +kernel
theorem dX4_readHead_12 : decode cX4_readHead 12 = .ok (.invokevirtual 94, 3) := by decide +kernel
theorem dX4_readHead_15 : decode cX4_readHead 15 = .ok (.ifCond .ne 5, 3) := by decide +kernel
theorem dX4_readHead_18 : decode cX4_readHead 18 = .ok (.iconst 0, 1) := by decide +kernel
theorem dX4_readHead_19 : decode cX4_readHead 19 = .ok (.ireturn, 1) := by decide +kernel
theorem dX4_readHead_20 : decode cX4_readHead 20 = .ok (.aload_n 0, 1) := by decide +kernel
theorem dX4_readHead_21 : decode cX4_readHead 21 = .ok (.getfield 19, 3) := by decide +kernel
theorem dX4_readHead_24 : decode cX4_readHead 24 = .ok (.aload_n 0, 1) := by decide +kernel
theorem dX4_readHead_25 : decode cX4_readHead 25 = .ok (.getfield 78, 3) := by decide +kernel
theorem dX4_readHead_28 : decode cX4_readHead 28 = .ok (.putfield 98, 3) := by decide +kernel
theorem dX4_readHead_31 : decode cX4_readHead 31 = .ok (.aload_n 0, 1) := by decide +kernel
theorem dX4_readHead_32 : decode cX4_readHead 32 = .ok (.iconst 1, 1) := by decide +kernel
theorem dX4_readHead_33 : decode cX4_readHead 33 = .ok (.invokevirtual 91, 3) := by decide +kernel
theorem dX4_readHead_36 : decode cX4_readHead 36 = .ok (.ifCond .eq 12, 3) := by decide +kernel
theorem dX4_readHead_39 : decode cX4_readHead 39 = .ok (.aload_n 0, 1) := by decide +kernel
theorem dX4_readHead_40 : decode cX4_readHead 40 = .ok (.iconst 2, 1) := by decide +kernel
theorem dX4_readHead_41 : decode cX4_readHead 41 = .ok (.iconst 5, 1) := by decide +kernel
theorem dX4_readHead_42 : decode cX4_readHead 42 = .ok (.invokevirtual 94, 3) := by decide +kernel
theorem dX4_readHead_45 : decode cX4_readHead 45 = .ok (.ifCond .ne 5, 3) := by decide +kernel
theorem dX4_readHead_48 : decode cX4_readHead 48 = .ok (.iconst 0, 1) := by decide +kernel
theorem dX4_readHead_49 : decode cX4_readHead 49 = .ok (.ireturn, 1) := by decide +kernel
theorem dX4_readHead_50 : decode cX4_readHead 50 = .ok (.aload_n 0, 1) := by decide +kernel
theorem dX4_readHead_51 : decode cX4_readHead 51 = .ok (.getfield 19, 3) := by decide +kernel
theorem dX4_readHead_54 : decode cX4_readHead 54 = .ok (.aload_n 0, 1) := by decide +kernel
theorem dX4_readHead_55 : decode cX4_readHead 55 = .ok (.getfield 78, 3) := by decide +kernel
theorem dX4_readHead_58 : decode cX4_readHead 58 = .ok (.putfield 101, 3) := by decide +kernel
theorem dX4_readHead_61 : decode cX4_readHead 61 = .ok (.aload_n 0, 1) := by decide +kernel
theorem dX4_readHead_62 : decode cX4_readHead 62 = .ok (.bipush 59, 2) := by decide +kernel
theorem dX4_readHead_64 : decode cX4_readHead 64 = .ok (.invokevirtual 104, 3) := by decide +kernel
theorem dX4_readHead_67 : decode cX4_readHead 67 = .ok (.ireturn, 1) := by decide +kernel
theorem dX4_readStatement_0 : decode cX4_readStatement 0 = .ok (.aload_n 0, 1) := by decide +kernel
theorem dX4_readStatement_1 : decode cX4_readStatement 1 = .ok (.getfield 44, 3) := by decide +kernel
theorem dX4_readStatement_4 : decode cX4_readStatement 4 = .ok (.iconst 4, 1) := by decide +kernel
theorem dX4_readStatement_5 : decode cX4_readStatement 5 = .ok (.if_icmp .eq 9, 3) := by decide +kernel
theorem dX4_readStatement_8 : decode cX4_readStatement 8 = .ok (.aload_n 0, 1) := by decide +kernel
theorem dX4_readStatement_9 : decode cX4_readStatement 9 = .ok (.iconst 1, 1) := by decide +kernel
theorem dX4_readStatement_10 : decode cX4_readStatement 10 = .ok (.invokevirtual 72, 3) := by decide +kernel
theorem dX4_readStatement_13 : decode cX4_readStatement 13 = .ok (.ireturn, 1) := by decide +kernel
theorem dX4_readStatement_14 : decode cX4_readStatement 14 = .ok (.aload_n 0, 1) := by decide +kernel
theorem dX4_readStatement_15 : decode cX4_readStatement 15 = .ok (.getfield 62, 3) := by decide +kernel
theorem dX4_readStatement_18 : decode cX4_readStatement 18 = .ok (.tableswitch 133 2 16 #[74, 133, 82, 91, 100, 109, 133, 133, 133, 133, 133, 117, 133, 133, 125], 74) := by decide +kernel
theorem dX4_readStatement_92 : decode cX4_readStatement 92 = .ok (.aload_n 0, 1) := by decide +kernel
theorem dX4_readStatement_93 : decode cX4_readStatement 93 = .ok (.invokevirtual 107, 3) := by decide +kernel
theorem dX4_readStatement_96 : decode cX4_readStatement 96 = .ok (.istore_n 1, 1) := by decide +kernel
theorem dX4_readStatement_97 : decode cX4_readStatement 97 = .ok (.goto 60, 3) := by decide +kernel
theorem dX4_readStatement_100 : decode cX4_readStatement 100 = .ok (.aload_n 0, 1) := by decide +kernel
theorem dX4_readStatement_101 : decode cX4_readStatement 101 = .ok (.iconst 0, 1) := by decide +kernel
theorem dX4_readStatement_102 : decode cX4_readStatement 102 = .ok (.invokevirtual 112, 3) := by decide +kernel
theorem dX4_readStatement_105 : decode cX4_readStatement 105 = .ok (.istore_n 1, 1) := by decide +kernel
theorem dX4_readStatement_106 : decode cX4_readStatement 106 = .ok (.goto 51, 3) := by decide +kernel
theorem dX4_readStatement_109 : decode cX4_readStatement 109 = .ok (.aload_n 0, 1) := by decide +kernel
theorem dX4_readStatement_110 : decode cX4_readStatement 110 = .ok (.iconst 1, 1) := by decide +kernel
theorem dX4_readStatement_111 : decode cX4_readStatement 111 = .ok (.invokevirtual 112, 3) := by decide +kernel
theorem dX4_readStatement_114 : decode cX4_readStatement 114 = .ok (.istore_n 1, 1) := by decide +kernel
theorem dX4_readStatement_115 : decode cX4_readStatement 115 = .ok (.goto 42, 3) := by decide +kernel
theorem dX4_readStatement_118 : decode cX4_readStatement 118 = .ok (.aload_n 0, 1) := by decide +kernel
theorem dX4_readStatement_119 : decode cX4_readStatement 119 = .ok (.iconst 2, 1) := by decide +kernel
theorem dX4_readStatement_120 : decode cX4_readStatement 120 = .ok (.invokevirtual 112, 3) := by decide +kernel
theorem dX4_readStatement_123 : decode cX4_readStatement 123 = .ok (.istore_n 1, 1) := by decide +kernel
theorem dX4_readStatement_124 : decode cX4_readStatement 124 = .ok (.goto 33, 3) := by decide +kernel
theorem dX4_readStatement_127 : decode cX4_readStatement 127 = .ok (.aload_n 0, 1) := by decide +kernel
theorem dX4_readStatement_128 : decode cX4_readStatement 128 = .ok (.invokevirtual 115, 3) := by decide +kernel
theorem dX4_readStatement_131 : decode cX4_readStatement 131 = .ok (.istore_n 1, 1) := by decide +kernel
theorem dX4_readStatement_132 : decode cX4_readStatement 132 = .ok (.goto 25, 3) := by decide +kernel
theorem dX4_readStatement_135 : decode cX4_readStatement 135 = .ok (.aload_n 0, 1) := by decide +kernel
theorem dX4_readStatement_136 : decode cX4_readStatement 136 = .ok (.invokevirtual 118, 3) := by decide +kernel
theorem dX4_readStatement_139 : decode cX4_readStatement 139 = .ok (.istore_n 1, 1) := by decide +kernel
theorem dX4_readStatement_140 : decode cX4_readStatement 140 = .ok (.goto 17, 3) := by decide +kernel
theorem dX4_readStatement_143 : decode cX4_readStatement 143 = .ok (.aload_n 0, 1) := by decide +kernel
theorem dX4_readStatement_144 : decode cX4_readStatement 144 = .ok (.invokevirtual 121, 3) := by decide +kernel
theorem dX4_readStatement_147 : decode cX4_readStatement 147 = .ok (.istore_n 1, 1) := by decide +kernel
theorem dX4_readStatement_148 : decode cX4_readStatement 148 = .ok (.goto 9, 3) := by decide +kernel
theorem dX4_readStatement_151 : decode cX4_readStatement 151 = .ok (.aload_n 0, 1) := by decide +kernel
theorem dX4_readStatement_152 : decode cX4_readStatement 152 = .ok (.iconst 1, 1) := by decide +kernel
theorem dX4_readStatement_153 : decode cX4_readStatement 153 = .ok (.invokevirtual 72, 3) := by decide +kernel
theorem dX4_readStatement_156 : decode cX4_readStatement 156 = .ok (.istore_n 1, 1) := by decide +kernel
theorem dX4_readStatement_157 : decode cX4_readStatement 157 = .ok (.iload_n 1, 1) := by decide +kernel
theorem dX4_readStatement_158 : decode cX4_readStatement 158 = .ok (.ifCond .eq 16, 3) := by decide +kernel
theorem dX4_readStatement_161 : decode cX4_readStatement 161 = .ok (.aload_n 0, 1) := by decide +kernel
theorem dX4_readStatement_162 : decode cX4_readStatement 162 = .ok (.bipush 59, 2) := by decide +kernel
theorem dX4_readStatement_164 : decode cX4_readStatement 164 = .ok (.invokevirtual 104, 3) := by decide +kernel
theorem dX4_readStatement_167 : decode cX4_readStatement 167 = .ok (.ifCond .eq 7, 3) := by decide +kernel
theorem dX4_readStatement_170 : decode cX4_readStatement 170 = .ok (.iconst 1, 1) := by decide +kernel
theorem dX4_readStatement_171 : decode cX4_readStatement 171 = .ok (.goto 4, 3) := by decide +kernel
theorem dX4_readStatement_174 : decode cX4_readStatement 174 = .ok (.iconst 0, 1) := by decide +kernel
theorem dX4_readStatement_175 : decode cX4_readStatement 175 = .ok (.ireturn, 1) := by decide +kernel
theorem dX4_readTune_0 : decode cX4_readTune 0 = .ok (.aload_n 0, 1) := by decide +kernel
theorem dX4_readTune_1 : decode cX4_readTune 1 = .ok (.getfield 19, 3) := by decide +kernel
theorem dX4_readTune_4 : decode cX4_readTune 4 = .ok (.getfield 124, 3) := by decide +kernel
theorem dX4_readTune_7 : decode cX4_readTune 7 = .ok (.istore_n 1, 1) := by decide +kernel
theorem dX4_readTune_8 : decode cX4_readTune 8 = .ok (.iload_n 1, 1) := by decide +kernel
theorem dX4_readTune_9 : decode cX4_readTune 9 = .ok (.iconst 3, 1) := by decide +kernel
theorem dX4_readTune_10 : decode cX4_readTune 10 = .ok (.if_icmp .lt 9, 3) := by decide +kernel
theorem dX4_readTune_13 : decode cX4_readTune 13 = .ok (.aload_n 0, 1) := by decide +kernel
theorem dX4_readTune_14 : decode cX4_readTune 14 = .ok (.iconst 5, 1) := by decide +kernel
theorem dX4_readTune_15 : decode cX4_readTune 15 = .ok (.invokevirtual 72, 3) := by decide +kernel
theorem dX4_readTune_18 : decode cX4_readTune 18 = .ok (.ireturn, 1) := by decide +kernel
theorem dX4_readTune_19 : decode cX4_readTune 19 = .ok (.aload_n 0, 1) := by decide +kernel
theorem dX4_readTune_20 : decode cX4_readTune 20 = .ok (.invokevirtual 31, 3) := by decide +kernel
theorem dX4_readTune_23 : decode cX4_readTune 23 = .ok (.aload_n 0, 1) := by decide +kernel
theorem dX4_readTune_24 : decode cX4_readTune 24 = .ok (.invokevirtual 127, 3) := by decide +kernel
theorem dX4_readTune_27 : decode cX4_readTune 27 = .ok (.ifCond .ne 5, 3) := by decide +kernel
theorem dX4_readTune_30 : decode cX4_readTune 30 = .ok (.iconst 0, 1) := by decide +kernel
theorem dX4_readTune_31 : decode cX4_readTune 31 = .ok (.ireturn, 1) := by decide +kernel
theorem dX4_readTune_32 : decode cX4_readTune 32 = .ok (.aload_n 0, 1) := by decide +kernel
theorem dX4_readTune_33 : decode cX4_readTune 33 = .ok (.getfield 19, 3) := by decide +kernel
theorem dX4_readTune_36 : decode cX4_readTune 36 = .ok (.getfield 130, 3) := by decide +kernel
theorem dX4_readTune_39 : decode cX4_readTune 39 = .ok (.iload_n 1, 1) := by decide +kernel
theorem dX4_readTune_40 : decode cX4_readTune 40 = .ok (.aload_n 0, 1) := by decide +kernel
theorem dX4_readTune_41 : decode cX4_readTune 41 = .ok (.getfield 78, 3) := by decide +kernel
theorem dX4_readTune_44 : decode cX4_readTune 44 = .ok (.iastore, 1) := by decide +kernel
theorem dX4_readTune_45 : decode cX4_readTune 45 = .ok (.iconst 0, 1) := by decide +kernel
theorem dX4_readTune_46 : decode cX4_readTune 46 = .ok (.istore_n 2, 1) := by decide +kernel
theorem dX4_readTune_47 : decode cX4_readTune 47 = .ok (.iconst 0, 1) := by decide +kernel
theorem dX4_readTune_48 : decode cX4_readTune 48 = .ok (.istore_n 3, 1) := by decide +kernel
theorem dX4_readTune_49 : decode cX4_readTune 49 = .ok (.iload_n 3, 1) := by decide +kernel
theorem dX4_readTune_50 : decode cX4_readTune 50 = .ok (.aload_n 0, 1) := by decide +kernel
theorem dX4_readTune_51 : decode cX4_readTune 51 = .ok (.getfield 19, 3) := by decide +kernel
theorem dX4_readTune_54 : decode cX4_readTune 54 = .ok (.getfield 101, 3) := by decide +kernel
theorem dX4_readTune_57 : decode cX4_readTune 57 = .ok (.if_icmp .ge 38, 3) := by decide +kernel
theorem dX4_readTune_60 : decode cX4_readTune 60 = .ok (.aload_n 0, 1) := by decide +kernel
theorem dX4_readTune_61 : decode cX4_readTune 61 = .ok (.iconst 0, 1) := by decide +kernel
theorem dX4_readTune_62 : decode cX4_readTune 62 = .ok (.aload_n 0, 1) := by decide +kernel
theorem dX4_readTune_63 : decode cX4_readTune 63 = .ok (.getfield 19, 3) := by decide +kernel
theorem dX4_readTune_66 : decode cX4_readTune 66 = .ok (.getfield 98, 3) := by decide +kernel
theorem dX4_readTune_69 : decode cX4_readTune 69 = .ok (.iconst 1, 1) := by decide +kernel
theorem dX4_readTune_70 : decode cX4_readTune 70 = .ok (.isub, 1) := by decide +kernel
theorem dX4_readTune_71 : decode cX4_readTune 71 = .ok (.invokevirtual 94, 3) := by decide +kernel
theorem dX4_readTune_74 : decode cX4_readTune 74 = .ok (.ifCond .ne 5, 3) := by decide +kernel
theorem dX4_readTune_77 : decode cX4_readTune 77 = .ok (.iconst 0, 1) := by decide +kernel
theorem dX4_readTune_78 : decode cX4_readTune 78 = .ok (.ireturn, 1) := by decide +kernel
theorem dX4_readTune_79 : decode cX4_readTune 79 = .ok (.iload_n 2, 1) := by decide +kernel
theorem dX4_readTune_80 : decode cX4_readTune 80 = .ok (.iload_n 3, 1) := by decide +kernel
theorem dX4_readTune_81 : decode cX4_readTune 81 = .ok (.aload_n 0, 1) := by decide +kernel
theorem dX4_readTune_82 : decode cX4_readTune 82 = .ok (.getfield 78, 3) := by decide +kernel
theorem dX4_readTune_85 : decode cX4_readTune 85 = .ok (.invokestatic 133, 3) := by decide +kernel
theorem dX4_readTune_88 : decode cX4_readTune 88 = .ok (.istore_n 2, 1) := by decide +kernel
theorem dX4_readTune_89 : decode cX4_readTune 89 = .ok (.iinc 3 1, 3) := by decide +kernel
theorem dX4_readTune_92 : decode cX4_readTune 92 = .ok (.goto (-43), 3) := by decide +kernel
theorem dX4_readTune_95 : decode cX4_readTune 95 = .ok (.aload_n 0, 1) := by decide +kernel
theorem dX4_readTune_96 : decode cX4_readTune 96 = .ok (.iconst 3, 1) := by decide +kernel
theorem dX4_readTune_97 : decode cX4_readTune 97 = .ok (.invokevirtual 91, 3) := by decide +kernel
theorem dX4_readTune_100 : decode cX4_readTune 100 = .ok (.ifCond .eq 13, 3) := by decide +kernel
theorem dX4_readTune_103 : decode cX4_readTune 103 = .ok (.aload_n 0, 1) := by decide +kernel
theorem dX4_readTune_104 : decode cX4_readTune 104 = .ok (.iconst 0, 1) := by decide +kernel
theorem dX4_readTune_105 : decode cX4_readTune 105 = .ok (.bipush 99, 2) := by decide +kernel
theorem dX4_readTune_107 : decode cX4_readTune 107 = .ok (.invokevirtual 94, 3) := by decide +kernel
theorem dX4_readTune_110 : decode cX4_readTune 110 = .ok (.ifCond .ne 5, 3) := by decide +kernel
theorem dX4_readTune_113 : decode cX4_readTune 113 = .ok (.iconst 0, 1) := by decide +kernel
theorem dX4_readTune_114 : decode cX4_readTune 114 = .ok (.ireturn, 1) := by decide +kernel
theorem dX4_readTune_115 : decode cX4_readTune 115 = .ok (.aload_n 0, 1) := by decide +kernel
theorem dX4_readTune_116 : decode cX4_readTune 116 = .ok (.getfield 19, 3) := by decide +kernel
theorem dX4_readTune_119 : decode cX4_readTune 119 = .ok (.getfield 139, 3) := by decide +kernel
theorem dX4_readTune_122 : decode cX4_readTune 122 = .ok (.iload_n 1, 1) := by decide +kernel
theorem dX4_readTune_123 : decode cX4_readTune 123 = .ok (.iload_n 2, 1) := by decide +kernel
theorem dX4_readTune_124 : decode cX4_readTune 124 = .ok (.iastore, 1) := by decide +kernel
theorem dX4_readTune_125 : decode cX4_readTune 125 = .ok (.aload_n 0, 1) := by decide +kernel
theorem dX4_readTune_126 : decode cX4_readTune 126 = .ok (.getfield 19, 3) := by decide +kernel
theorem dX4_readTune_129 : decode cX4_readTune 129 = .ok (.getfield 142, 3) := by decide +kernel
theorem dX4_readTune_132 : decode cX4_readTune 132 = .ok (.iload_n 1, 1) := by decide +kernel
theorem dX4_readTune_133 : decode cX4_readTune 133 = .ok (.aload_n 0, 1) := by decide +kernel
theorem dX4_readTune_134 : decode cX4_readTune 134 = .ok (.getfield 78, 3) := by decide +kernel
theorem dX4_readTune_137 : decode cX4_readTune 137 = .ok (.iastore, 1) := by decide +kernel
theorem dX4_readTune_138 : decode cX4_readTune 138 = .ok (.aload_n 0, 1) := by decide +kernel
theorem dX4_readTune_139 : decode cX4_readTune 139 = .ok (.getfield 19, 3) := by decide +kernel
theorem dX4_readTune_142 : decode cX4_readTune 142 = .ok (.dup, 1) := by decide +kernel
theorem dX4_readTune_143 : decode cX4_readTune 143 = .ok (.getfield 124, 3) := by decide +kernel
theorem dX4_readTune_146 : decode cX4_readTune 146 = .ok (.iconst 1, 1) := by decide +kernel
theorem dX4_readTune_147 : decode cX4_readTune 147 = .ok (.iadd, 1) := by decide +kernel
theorem dX4_readTune_148 : decode cX4_readTune 148 = .ok (.putfield 124, 3) := by decide +kernel
theorem dX4_readTune_151 : decode cX4_readTune 151 = .ok (.iconst 1, 1) := by decide +kernel
theorem dX4_readTune_152 : decode cX4_readTune 152 = .ok (.ireturn, 1) := by decide +kernel
theorem dX4_readDoor_0 : decode cX4_readDoor 0 = .ok (.aload_n 0, 1) := by decide +kernel
theorem dX4_readDoor_1 : decode cX4_readDoor 1 = .ok (.getfield 19, 3) := by decide +kernel
theorem dX4_readDoor_4 : decode cX4_readDoor 4 = .ok (.getfield 145, 3) := by decide +kernel
theorem dX4_readDoor_7 : decode cX4_readDoor 7 = .ok (.iconst 4, 1) := by decide +kernel
theorem dX4_readDoor_8 : decode cX4_readDoor 8 = .ok (.if_icmp .lt 9, 3) := by decide +kernel
theorem dX4_readDoor_11 : decode cX4_readDoor 11 = .ok (.aload_n 0, 1) := by decide +kernel
theorem dX4_readDoor_12 : decode cX4_readDoor 12 = .ok (.iconst 5, 1) := by decide +kernel
theorem dX4_readDoor_13 : decode cX4_readDoor 13 = .ok (.invokevirtual 72, 3) := by decide +kernel
theorem dX4_readDoor_16 : decode cX4_readDoor 16 = .ok (.ireturn, 1) := by decide +kernel
theorem dX4_readDoor_17 : decode cX4_readDoor 17 = .ok (.aload_n 0, 1) := by decide +kernel
theorem dX4_readDoor_18 : decode cX4_readDoor 18 = .ok (.invokevirtual 31, 3) := by decide +kernel
theorem dX4_readDoor_21 : decode cX4_readDoor 21 = .ok (.aload_n 0, 1) := by decide +kernel
theorem dX4_readDoor_22 : decode cX4_readDoor 22 = .ok (.invokevirtual 127, 3) := by decide +kernel
theorem dX4_readDoor_25 : decode cX4_readDoor 25 = .ok (.ifCond .ne 5, 3) := by decide +kernel
theorem dX4_readDoor_28 : decode cX4_readDoor 28 = .ok (.iconst 0, 1) := by decide +kernel
theorem dX4_readDoor_29 : decode cX4_readDoor 29 = .ok (.ireturn, 1) := by decide +kernel
theorem dX4_readDoor_30 : decode cX4_readDoor 30 = .ok (.aload_n 0, 1) := by decide +kernel
theorem dX4_readDoor_31 : decode cX4_readDoor 31 = .ok (.getfield 19, 3) := by decide +kernel
theorem dX4_readDoor_34 : decode cX4_readDoor 34 = .ok (.getfield 148, 3) := by decide +kernel
theorem dX4_readDoor_37 : decode cX4_readDoor 37 = .ok (.aload_n 0, 1) := by decide +kernel
theorem dX4_readDoor_38 : decode cX4_readDoor 38 = .ok (.getfield 19, 3) := by decide +kernel
theorem dX4_readDoor_41 : decode cX4_readDoor 41 = .ok (.getfield 145, 3) := by decide +kernel
theorem dX4_readDoor_44 : decode cX4_readDoor 44 = .ok (.aaload, 1) := by decide +kernel
theorem dX4_readDoor_45 : decode cX4_readDoor 45 = .ok (.astore_n 1, 1) := by decide +kernel
theorem dX4_readDoor_46 : decode cX4_readDoor 46 = .ok (.aload_n 1, 1) := by decide +kernel
theorem dX4_readDoor_47 : decode cX4_readDoor 47 = .ok (.aload_n 0, 1) := by decide +kernel
theorem dX4_readDoor_48 : decode cX4_readDoor 48 = .ok (.getfield 78, 3) := by decide +kernel
theorem dX4_readDoor_51 : decode cX4_readDoor 51 = .ok (.invokevirtual 152, 3) := by decide +kernel
theorem dX4_readDoor_54 : decode cX4_readDoor 54 = .ok (.aload_n 0, 1) := by decide +kernel
theorem dX4_readDoor_55 : decode cX4_readDoor 55 = .ok (.getfield 19, 3) := by decide +kernel
theorem dX4_readDoor_58 : decode cX4_readDoor 58 = .ok (.dup, 1) := by decide +kernel
theorem dX4_readDoor_59 : decode cX4_readDoor 59 = .ok (.getfield 145, 3) := by decide +kernel
theorem dX4_readDoor_62 : decode cX4_readDoor 62 = .ok (.iconst 1, 1) := by decide +kernel
theorem dX4_readDoor_63 : decode cX4_readDoor 63 = .ok (.iadd, 1) := by decide +kernel
theorem dX4_readDoor_64 : decode cX4_readDoor 64 = .ok (.putfield 145, 3) := by decide +kernel
theorem dX4_readDoor_67 : decode cX4_readDoor 67 = .ok (.aload_n 0, 1) := by decide +kernel
theorem dX4_readDoor_68 : decode cX4_readDoor 68 = .ok (.getfield 44, 3) := by decide +kernel
theorem dX4_readDoor_71 : decode cX4_readDoor 71 = .ok (.iconst 4, 1) := by decide +kernel
theorem dX4_readDoor_72 : decode cX4_readDoor 72 = .ok (.if_icmp .ne 21, 3) := by decide +kernel
theorem dX4_readDoor_75 : decode cX4_readDoor 75 = .ok (.aload_n 0, 1) := by decide +kernel
theorem dX4_readDoor_76 : decode cX4_readDoor 76 = .ok (.getfield 62, 3) := by decide +kernel
theorem dX4_readDoor_79 : decode cX4_readDoor 79 = .ok (.bipush 8, 2) := by decide +kernel
theorem dX4_readDoor_81 : decode cX4_readDoor 81 = .ok (.if_icmp .lt 12, 3) := by decide +kernel
theorem dX4_readDoor_84 : decode cX4_readDoor 84 = .ok (.aload_n 0, 1) := by decide +kernel
theorem dX4_readDoor_85 : decode cX4_readDoor 85 = .ok (.getfield 62, 3) := by decide +kernel
theorem dX4_readDoor_88 : decode cX4_readDoor 88 = .ok (.bipush 12, 2) := by decide +kernel
theorem dX4_readDoor_90 : decode cX4_readDoor 90 = .ok (.if_icmp .le 9, 3) := by decide +kernel
theorem dX4_readDoor_93 : decode cX4_readDoor 93 = .ok (.aload_n 0, 1) := by decide +kernel
theorem dX4_readDoor_94 : decode cX4_readDoor 94 = .ok (.iconst 1, 1) := by decide +kernel
theorem dX4_readDoor_95 : decode cX4_readDoor 95 = .ok (.invokevirtual 72, 3) := by decide +kernel
theorem dX4_readDoor_98 : decode cX4_readDoor 98 = .ok (.ireturn, 1) := by decide +kernel
theorem dX4_readDoor_99 : decode cX4_readDoor 99 = .ok (.aload_n 1, 1) := by decide +kernel
theorem dX4_readDoor_100 : decode cX4_readDoor 100 = .ok (.aload_n 0, 1) := by decide +kernel
theorem dX4_readDoor_101 : decode cX4_readDoor 101 = .ok (.getfield 62, 3) := by decide +kernel
theorem dX4_readDoor_104 : decode cX4_readDoor 104 = .ok (.bipush 8, 2) := by decide +kernel
theorem dX4_readDoor_106 : decode cX4_readDoor 106 = .ok (.isub, 1) := by decide +kernel
theorem dX4_readDoor_107 : decode cX4_readDoor 107 = .ok (.putfield 158, 3) := by decide +kernel
theorem dX4_readDoor_110 : decode cX4_readDoor 110 = .ok (.aload_n 0, 1) := by decide +kernel
theorem dX4_readDoor_111 : decode cX4_readDoor 111 = .ok (.invokevirtual 31, 3) := by decide +kernel
theorem dX4_readDoor_114 : decode cX4_readDoor 114 = .ok (.aload_n 1, 1) := by decide +kernel
theorem dX4_readDoor_115 : decode cX4_readDoor 115 = .ok (.getfield 158, 3) := by decide +kernel
theorem dX4_readDoor_118 : decode cX4_readDoor 118 = .ok (.ifCond .eq 11, 3) := by decide +kernel
theorem dX4_readDoor_121 : decode cX4_readDoor 121 = .ok (.aload_n 0, 1) := by decide +kernel
theorem dX4_readDoor_122 : decode cX4_readDoor 122 = .ok (.aload_n 1, 1) := by decide +kernel
theorem dX4_readDoor_123 : decode cX4_readDoor 123 = .ok (.invokevirtual 159, 3) := by decide +kernel
theorem dX4_readDoor_126 : decode cX4_readDoor 126 = .ok (.ifCond .eq 7, 3) := by decide +kernel
theorem dX4_readDoor_129 : decode cX4_readDoor 129 = .ok (.iconst 1, 1) := by decide +kernel
theorem dX4_readDoor_130 : decode cX4_readDoor 130 = .ok (.goto 4, 3) := by decide +kernel
theorem dX4_readDoor_133 : decode cX4_readDoor 133 = .ok (.iconst 0, 1) := by decide +kernel
theorem dX4_readDoor_134 : decode cX4_readDoor 134 = .ok (.ireturn, 1) := by decide +kernel
theorem dX4_readKindNumbers_0 : decode cX4_readKindNumbers 0 = .ok (.aload_n 0, 1) := by decide +kernel
theorem dX4_readKindNumbers_1 : decode cX4_readKindNumbers 1 = .ok (.aload_n 1, 1) := by decide +kernel
theorem dX4_readKindNumbers_2 : decode cX4_readKindNumbers 2 = .ok (.getfield 158, 3) := by decide +kernel
theorem dX4_readKindNumbers_5 : decode cX4_readKindNumbers 5 = .ok (.iconst 2, 1) := by decide +kernel
theorem dX4_readKindNumbers_6 : decode cX4_readKindNumbers 6 = .ok (.if_icmp .ne 7, 3) := by decide +kernel
theorem dX4_readKindNumbers_9 : decode cX4_readKindNumbers 9 = .ok (.iconst 1, 1) := by decide +kernel
theorem dX4_readKindNumbers_10 : decode cX4_readKindNumbers 10 = .ok (.goto 4, 3) := by decide +kernel
theorem dX4_readKindNumbers_13 : decode cX4_readKindNumbers 13 = .ok (.iconst 0, 1) := by decide +kernel
theorem dX4_readKindNumbers_14 : decode cX4_readKindNumbers 14 = .ok (.bipush 40, 2) := by decide +kernel
theorem dX4_readKindNumbers_16 : decode cX4_readKindNumbers 16 = .ok (.invokevirtual 94, 3) := by decide +kernel
theorem dX4_readKindNumbers_19 : decode cX4_readKindNumbers 19 = .ok (.ifCond .ne 5, 3) := by decide +kernel
theorem dX4_readKindNumbers_22 : decode cX4_readKindNumbers 22 = .ok (.iconst 0, 1) := by decide +kernel
theorem dX4_readKindNumbers_23 : decode cX4_readKindNumbers 23 = .ok (.ireturn, 1) := by decide +kernel
theorem dX4_readKindNumbers_24 : decode cX4_readKindNumbers 24 = .ok (.aload_n 1, 1) := by decide +kernel
theorem dX4_readKindNumbers_25 : decode cX4_readKindNumbers 25 = .ok (.aload_n 0, 1) := by decide +kernel
theorem dX4_readKindNumbers_26 : decode cX4_readKindNumbers 26 = .ok (.getfield 78, 3) := by decide +kernel
theorem dX4_readKindNumbers_29 : decode cX4_readKindNumbers 29 = .ok (.putfield 163, 3) := by decide +kernel
theorem dX4_readKindNumbers_32 : decode cX4_readKindNumbers 32 = .ok (.aload_n 1, 1) := by decide +kernel
theorem dX4_readKindNumbers_33 : decode cX4_readKindNumbers 33 = .ok (.getfield 158, 3) := by decide +kernel
theorem dX4_readKindNumbers_36 : decode cX4_readKindNumbers 36 = .ok (.tableswitch 64 1 4 #[32, 64, 43, 53], 32) := by decide +kernel
theorem dX4_readKindNumbers_68 : decode cX4_readKindNumbers 68 = .ok (.aload_n 0, 1) := by decide +kernel
theorem dX4_readKindNumbers_69 : decode cX4_readKindNumbers 69 = .ok (.iconst 0, 1) := by decide +kernel
theorem dX4_readKindNumbers_70 : decode cX4_readKindNumbers 70 = .ok (.bipush 9, 2) := by decide +kernel
theorem dX4_readKindNumbers_72 : decode cX4_readKindNumbers 72 = .ok (.invokevirtual 94, 3) := by decide +kernel
theorem dX4_readKindNumbers_75 : decode cX4_readKindNumbers 75 = .ok (.istore_n 2, 1) := by decide +kernel
theorem dX4_readKindNumbers_76 : decode cX4_readKindNumbers 76 = .ok (.goto 26, 3) := by decide +kernel
theorem dX4_readKindNumbers_79 : decode cX4_readKindNumbers 79 = .ok (.aload_n 0, 1) := by decide +kernel
theorem dX4_readKindNumbers_80 : decode cX4_readKindNumbers 80 = .ok (.iconst 0, 1) := by decide +kernel
theorem dX4_readKindNumbers_81 : decode cX4_readKindNumbers 81 = .ok (.iconst 4, 1) := by decide +kernel
theorem dX4_readKindNumbers_82 : decode cX4_readKindNumbers 82 = .ok (.invokevirtual 94, 3) := by decide +kernel
theorem dX4_readKindNumbers_85 : decode cX4_readKindNumbers 85 = .ok (.istore_n 2, 1) := by decide +kernel
theorem dX4_readKindNumbers_86 : decode cX4_readKindNumbers 86 = .ok (.goto 16, 3) := by decide +kernel
theorem dX4_readKindNumbers_89 : decode cX4_readKindNumbers 89 = .ok (.aload_n 0, 1) := by decide +kernel
theorem dX4_readKindNumbers_90 : decode cX4_readKindNumbers 90 = .ok (.iconst 1, 1) := by decide +kernel
theorem dX4_readKindNumbers_91 : decode cX4_readKindNumbers 91 = .ok (.bipush 9, 2) := by decide +kernel
theorem dX4_readKindNumbers_93 : decode cX4_readKindNumbers 93 = .ok (.invokevirtual 94, 3) := by decide +kernel
theorem dX4_readKindNumbers_96 : decode cX4_readKindNumbers 96 = .ok (.istore_n 2, 1) := by decide +kernel
theorem dX4_readKindNumbers_97 : decode cX4_readKindNumbers 97 = .ok (.goto 5, 3) := by decide +kernel
theorem dX4_readKindNumbers_100 : decode cX4_readKindNumbers 100 = .ok (.iconst 1, 1) := by decide +kernel
theorem dX4_readKindNumbers_101 : decode cX4_readKindNumbers 101 = .ok (.ireturn, 1) := by decide +kernel
theorem dX4_readKindNumbers_102 : decode cX4_readKindNumbers 102 = .ok (.aload_n 1, 1) := by decide +kernel
theorem dX4_readKindNumbers_103 : decode cX4_readKindNumbers 103 = .ok (.aload_n 0, 1) := by decide +kernel
theorem dX4_readKindNumbers_104 : decode cX4_readKindNumbers 104 = .ok (.getfield 78, 3) := by decide +kernel
theorem dX4_readKindNumbers_107 : decode cX4_readKindNumbers 107 = .ok (.putfield 166, 3) := by decide +kernel
theorem dX4_readKindNumbers_110 : decode cX4_readKindNumbers 110 = .ok (.iload_n 2, 1) := by decide +kernel
theorem dX4_readKindNumbers_111 : decode cX4_readKindNumbers 111 = .ok (.ireturn, 1) := by decide +kernel
theorem dX4_readPerson_0 : decode cX4_readPerson 0 = .ok (.aload_n 0, 1) := by decide +kernel
theorem dX4_readPerson_1 : decode cX4_readPerson 1 = .ok (.getfield 19, 3) := by decide +kernel
theorem dX4_readPerson_4 : decode cX4_readPerson 4 = .ok (.getfield 169, 3) := by decide +kernel
theorem dX4_readPerson_7 : decode cX4_readPerson 7 = .ok (.iconst 4, 1) := by decide +kernel
theorem dX4_readPerson_8 : decode cX4_readPerson 8 = .ok (.if_icmp .lt 9, 3) := by decide +kernel
theorem dX4_readPerson_11 : decode cX4_readPerson 11 = .ok (.aload_n 0, 1) := by decide +kernel
theorem dX4_readPerson_12 : decode cX4_readPerson 12 = .ok (.iconst 5, 1) := by decide +kernel
theorem dX4_readPerson_13 : decode cX4_readPerson 13 = .ok (.invokevirtual 72, 3) := by decide +kernel
theorem dX4_readPerson_16 : decode cX4_readPerson 16 = .ok (.ireturn, 1) := by decide +kernel
theorem dX4_readPerson_17 : decode cX4_readPerson 17 = .ok (.aload_n 0, 1) := by decide +kernel
theorem dX4_readPerson_18 : decode cX4_readPerson 18 = .ok (.invokevirtual 31, 3) := by decide +kernel
theorem dX4_readPerson_21 : decode cX4_readPerson 21 = .ok (.aload_n 0, 1) := by decide +kernel
theorem dX4_readPerson_22 : decode cX4_readPerson 22 = .ok (.invokevirtual 127, 3) := by decide +kernel
theorem dX4_readPerson_25 : decode cX4_readPerson 25 = .ok (.ifCond .ne 5, 3) := by decide +kernel
theorem dX4_readPerson_28 : decode cX4_readPerson 28 = .ok (.iconst 0, 1) := by decide +kernel
theorem dX4_readPerson_29 : decode cX4_readPerson 29 = .ok (.ireturn, 1) := by decide +kernel
theorem dX4_readPerson_30 : decode cX4_readPerson 30 = .ok (.aload_n 0, 1) := by decide +kernel
theorem dX4_readPerson_31 : decode cX4_readPerson 31 = .ok (.getfield 19, 3) := by decide +kernel
theorem dX4_readPerson_34 : decode cX4_readPerson 34 = .ok (.getfield 172, 3) := by decide +kernel
theorem dX4_readPerson_37 : decode cX4_readPerson 37 = .ok (.aload_n 0, 1) := by decide +kernel
theorem dX4_readPerson_38 : decode cX4_readPerson 38 = .ok (.getfield 19, 3) := by decide +kernel
theorem dX4_readPerson_41 : decode cX4_readPerson 41 = .ok (.getfield 169, 3) := by decide +kernel
theorem dX4_readPerson_44 : decode cX4_readPerson 44 = .ok (.aaload, 1) := by decide +kernel
theorem dX4_readPerson_45 : decode cX4_readPerson 45 = .ok (.astore_n 1, 1) := by decide +kernel
theorem dX4_readPerson_46 : decode cX4_readPerson 46 = .ok (.aload_n 1, 1) := by decide +kernel
theorem dX4_readPerson_47 : decode cX4_readPerson 47 = .ok (.aload_n 0, 1) := by decide +kernel
theorem dX4_readPerson_48 : decode cX4_readPerson 48 = .ok (.getfield 78, 3) := by decide +kernel
theorem dX4_readPerson_51 : decode cX4_readPerson 51 = .ok (.invokevirtual 176, 3) := by decide +kernel
theorem dX4_readPerson_54 : decode cX4_readPerson 54 = .ok (.aload_n 0, 1) := by decide +kernel
theorem dX4_readPerson_55 : decode cX4_readPerson 55 = .ok (.bipush 7, 2) := by decide +kernel
theorem dX4_readPerson_57 : decode cX4_readPerson 57 = .ok (.invokevirtual 91, 3) := by decide +kernel
theorem dX4_readPerson_60 : decode cX4_readPerson 60 = .ok (.ifCond .eq 11, 3) := by decide +kernel
theorem dX4_readPerson_63 : decode cX4_readPerson 63 = .ok (.aload_n 0, 1) := by decide +kernel
theorem dX4_readPerson_64 : decode cX4_readPerson 64 = .ok (.iconst 1, 1) := by decide +kernel
theorem dX4_readPerson_65 : decode cX4_readPerson 65 = .ok (.invokevirtual 179, 3) := by decide +kernel
theorem dX4_readPerson_68 : decode cX4_readPerson 68 = .ok (.ifCond .ne 5, 3) := by decide +kernel
theorem dX4_readPerson_71 : decode cX4_readPerson 71 = .ok (.iconst 0, 1) := by decide +kernel
theorem dX4_readPerson_72 : decode cX4_readPerson 72 = .ok (.ireturn, 1) := by decide +kernel
theorem dX4_readPerson_73 : decode cX4_readPerson 73 = .ok (.aload_n 1, 1) := by decide +kernel
theorem dX4_readPerson_74 : decode cX4_readPerson 74 = .ok (.aload_n 0, 1) := by decide +kernel
theorem dX4_readPerson_75 : decode cX4_readPerson 75 = .ok (.getfield 78, 3) := by decide +kernel
theorem dX4_readPerson_78 : decode cX4_readPerson 78 = .ok (.putfield 183, 3) := by decide +kernel
theorem dX4_readPerson_81 : decode cX4_readPerson 81 = .ok (.aload_n 0, 1) := by decide +kernel
theorem dX4_readPerson_82 : decode cX4_readPerson 82 = .ok (.iconst 2, 1) := by decide +kernel
theorem dX4_readPerson_83 : decode cX4_readPerson 83 = .ok (.invokevirtual 91, 3) := by decide +kernel
theorem dX4_readPerson_86 : decode cX4_readPerson 86 = .ok (.ifCond .eq 11, 3) := by decide +kernel
theorem dX4_readPerson_89 : decode cX4_readPerson 89 = .ok (.aload_n 0, 1) := by decide +kernel
theorem dX4_readPerson_90 : decode cX4_readPerson 90 = .ok (.iconst 0, 1) := by decide +kernel
theorem dX4_readPerson_91 : decode cX4_readPerson 91 = .ok (.invokevirtual 179, 3) := by decide +kernel
theorem dX4_readPerson_94 : decode cX4_readPerson 94 = .ok (.ifCond .ne 5, 3) := by decide +kernel
theorem dX4_readPerson_97 : decode cX4_readPerson 97 = .ok (.iconst 0, 1) := by decide +kernel
theorem dX4_readPerson_98 : decode cX4_readPerson 98 = .ok (.ireturn, 1) := by decide +kernel
theorem dX4_readPerson_99 : decode cX4_readPerson 99 = .ok (.aload_n 1, 1) := by decide +kernel
theorem dX4_readPerson_100 : decode cX4_readPerson 100 = .ok (.aload_n 0, 1) := by decide +kernel
theorem dX4_readPerson_101 : decode cX4_readPerson 101 = .ok (.getfield 78, 3) := by decide +kernel
theorem dX4_readPerson_104 : decode cX4_readPerson 104 = .ok (.putfield 186, 3) := by decide +kernel
theorem dX4_readPerson_107 : decode cX4_readPerson 107 = .ok (.aload_n 0, 1) := by decide +kernel
theorem dX4_readPerson_108 : decode cX4_readPerson 108 = .ok (.getfield 19, 3) := by decide +kernel
theorem dX4_readPerson_111 : decode cX4_readPerson 111 = .ok (.getfield 148, 3) := by decide +kernel
theorem dX4_readPerson_114 : decode cX4_readPerson 114 = .ok (.aload_n 1, 1) := by decide +kernel
theorem dX4_readPerson_115 : decode cX4_readPerson 115 = .ok (.getfield 183, 3) := by decide +kernel
theorem dX4_readPerson_118 : decode cX4_readPerson 118 = .ok (.aaload, 1) := by decide +kernel
theorem dX4_readPerson_119 : decode cX4_readPerson 119 = .ok (.dup, 1) := by decide +kernel
theorem dX4_readPerson_120 : decode cX4_readPerson 120 = .ok (.getfield 189, 3) := by decide +kernel
theorem dX4_readPerson_123 : decode cX4_readPerson 123 = .ok (.iconst 1, 1) := by decide +kernel
theorem dX4_readPerson_124 : decode cX4_readPerson 124 = .ok (.aload_n 1, 1) := by decide +kernel
theorem dX4_readPerson_125 : decode cX4_readPerson 125 = .ok (.getfield 186, 3) := by decide +kernel
theorem dX4_readPerson_128 : decode cX4_readPerson 128 = .ok (.ishl, 1) := by decide +kernel
theorem dX4_readPerson_129 : decode cX4_readPerson 129 = .ok (.ior, 1) := by decide +kernel
theorem dX4_readPerson_130 : decode cX4_readPerson 130 = .ok (.putfield 189, 3) := by decide +kernel
theorem dX4_readPerson_133 : decode cX4_readPerson 133 = .ok (.aload_n 0, 1) := by decide +kernel
theorem dX4_readPerson_134 : decode cX4_readPerson 134 = .ok (.bipush 14, 2) := by decide +kernel
theorem dX4_readPerson_136 : decode cX4_readPerson 136 = .ok (.invokevirtual 91, 3) := by decide +kernel
theorem dX4_readPerson_139 : decode cX4_readPerson 139 = .ok (.ifCond .eq 13, 3) := by decide +kernel
theorem dX4_readPerson_142 : decode cX4_readPerson 142 = .ok (.aload_n 0, 1) := by decide +kernel
theorem dX4_readPerson_143 : decode cX4_readPerson 143 = .ok (.iconst 0, 1) := by decide +kernel
theorem dX4_readPerson_144 : decode cX4_readPerson 144 = .ok (.bipush 100, 2) := by decide +kernel
theorem dX4_readPerson_146 : decode cX4_readPerson 146 = .ok (.invokevirtual 94, 3) := by decide +kernel
theorem dX4_readPerson_149 : decode cX4_readPerson 149 = .ok (.ifCond .ne 5, 3) := by decide +kernel
theorem dX4_readPerson_152 : decode cX4_readPerson 152 = .ok (.iconst 0, 1) := by decide +kernel
theorem dX4_readPerson_153 : decode cX4_readPerson 153 = .ok (.ireturn, 1) := by decide +kernel
theorem dX4_readPerson_154 : decode cX4_readPerson 154 = .ok (.aload_n 1, 1) := by decide +kernel
theorem dX4_readPerson_155 : decode cX4_readPerson 155 = .ok (.aload_n 0, 1) := by decide +kernel
theorem dX4_readPerson_156 : decode cX4_readPerson 156 = .ok (.getfield 78, 3) := by decide +kernel
theorem dX4_readPerson_159 : decode cX4_readPerson 159 = .ok (.putfield 190, 3) := by decide +kernel
theorem dX4_readPerson_162 : decode cX4_readPerson 162 = .ok (.aload_n 0, 1) := by decide +kernel
theorem dX4_readPerson_163 : decode cX4_readPerson 163 = .ok (.bipush 15, 2) := by decide +kernel
theorem dX4_readPerson_165 : decode cX4_readPerson 165 = .ok (.invokevirtual 91, 3) := by decide +kernel
theorem dX4_readPerson_168 : decode cX4_readPerson 168 = .ok (.ifCond .eq 13, 3) := by decide +kernel
theorem dX4_readPerson_171 : decode cX4_readPerson 171 = .ok (.aload_n 0, 1) := by decide +kernel
theorem dX4_readPerson_172 : decode cX4_readPerson 172 = .ok (.iconst 0, 1) := by decide +kernel
theorem dX4_readPerson_173 : decode cX4_readPerson 173 = .ok (.bipush 100, 2) := by decide +kernel
theorem dX4_readPerson_175 : decode cX4_readPerson 175 = .ok (.invokevirtual 94, 3) := by decide +kernel
theorem dX4_readPerson_178 : decode cX4_readPerson 178 = .ok (.ifCond .ne 5, 3) := by decide +kernel
theorem dX4_readPerson_181 : decode cX4_readPerson 181 = .ok (.iconst 0, 1) := by decide +kernel
theorem dX4_readPerson_182 : decode cX4_readPerson 182 = .ok (.ireturn, 1) := by decide +kernel
theorem dX4_readPerson_183 : decode cX4_readPerson 183 = .ok (.aload_n 1, 1) := by decide +kernel
theorem dX4_readPerson_184 : decode cX4_readPerson 184 = .ok (.aload_n 0, 1) := by decide +kernel
theorem dX4_readPerson_185 : decode cX4_readPerson 185 = .ok (.getfield 78, 3) := by decide +kernel
theorem dX4_readPerson_188 : decode cX4_readPerson 188 = .ok (.putfield 193, 3) := by decide +kernel
theorem dX4_readPerson_191 : decode cX4_readPerson 191 = .ok (.aload_n 0, 1) := by decide +kernel
theorem dX4_readPerson_192 : decode cX4_readPerson 192 = .ok (.getfield 19, 3) := by decide +kernel
theorem dX4_readPerson_195 : decode cX4_readPerson 195 = .ok (.dup, 1) := by decide +kernel
theorem dX4_readPerson_196 : decode cX4_readPerson 196 = .ok (.getfield 169, 3) := by decide +kernel
theorem dX4_readPerson_199 : decode cX4_readPerson 199 = .ok (.iconst 1, 1) := by decide +kernel
theorem dX4_readPerson_200 : decode cX4_readPerson 200 = .ok (.iadd, 1) := by decide +kernel
theorem dX4_readPerson_201 : decode cX4_readPerson 201 = .ok (.putfield 169, 3) := by decide +kernel
