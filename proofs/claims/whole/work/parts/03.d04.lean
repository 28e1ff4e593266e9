theorem dX10_person_11 : decode cX10_person 11 = .ok (.ireturn, 1) := by decide +kernel
theorem dX10_person_12 : decode cX10_person 12 = .ok (.iload_n 2, 1) := by decide +kernel
theorem dX10_person_13 : decode cX10_person 13 = .ok (.tableswitch 78 0 6 #[43, 48, 53, 58, 63, 68, 73], 43) := by decide +kernel
theorem dX10_person_56 : decode cX10_person 56 = .ok (.aload_n 3, 1) := by decide +kernel
theorem dX10_person_57 : decode cX10_person 57 = .ok (.getfield 190, 3) := by decide +kernel
theorem dX10_person_60 : decode cX10_person 60 = .ok (.ireturn, 1) := by decide +kernel
theorem dX10_person_61 : decode cX10_person 61 = .ok (.aload_n 3, 1) := by decide +kernel
theorem dX10_person_62 : decode cX10_person 62 = .ok (.getfield 193, 3) := by decide +kernel
theorem dX10_person_65 : decode cX10_person 65 = .ok (.ireturn, 1) := by decide +kernel
theorem dX10_person_66 : decode cX10_person 66 = .ok (.aload_n 3, 1) := by decide +kernel
theorem dX10_person_67 : decode cX10_person 67 = .ok (.getfield 196, 3) := by decide +kernel
theorem dX10_person_70 : decode cX10_person 70 = .ok (.ireturn, 1) := by decide +kernel
theorem dX10_person_71 : decode cX10_person 71 = .ok (.aload_n 3, 1) := by decide +kernel
theorem dX10_person_72 : decode cX10_person 72 = .ok (.getfield 199, 3) := by decide +kernel
theorem dX10_person_75 : decode cX10_person 75 = .ok (.ireturn, 1) := by decide +kernel
theorem dX10_person_76 : decode cX10_person 76 = .ok (.aload_n 3, 1) := by decide +kernel
theorem dX10_person_77 : decode cX10_person 77 = .ok (.getfield 202, 3) := by decide +kernel
theorem dX10_person_80 : decode cX10_person 80 = .ok (.ireturn, 1) := by decide +kernel
theorem dX10_person_81 : decode cX10_person 81 = .ok (.aload_n 3, 1) := by decide +kernel
theorem dX10_person_82 : decode cX10_person 82 = .ok (.getfield 205, 3) := by decide +kernel
theorem dX10_person_85 : decode cX10_person 85 = .ok (.ireturn, 1) := by decide +kernel
theorem dX10_person_86 : decode cX10_person 86 = .ok (.aload_n 3, 1) := by decide +kernel
theorem dX10_person_87 : decode cX10_person 87 = .ok (.getfield 208, 3) := by decide +kernel
theorem dX10_person_90 : decode cX10_person 90 = .ok (.ireturn, 1) := by decide +kernel
theorem dX10_person_91 : decode cX10_person 91 = .ok (.iconst (-1), 1) := by decide +kernel
theorem dX10_person_92 : decode cX10_person 92 = .ok (.ireturn, 1) := by decide +kernel
theorem dX10_note_0 : decode cX10_note 0 = .ok (.aload_n 0, 1) := by decide +kernel
theorem dX10_note_1 : decode cX10_note 1 = .ok (.iload_n 1, 1) := by decide +kernel
theorem dX10_note_2 : decode cX10_note 2 = .ok (.invokevirtual 159, 3) := by decide +kernel
theorem dX10_note_5 : decode cX10_note 5 = .ok (.ifCond .eq 27, 3) := by decide +kernel
theorem dX10_note_8 : decode cX10_note 8 = .ok (.iload_n 2, 1) := by decide +kernel
theorem dX10_note_9 : decode cX10_note 9 = .ok (.invokestatic 211, 3) := by decide +kernel
theorem dX10_note_12 : decode cX10_note 12 = .ok (.ifCond .eq 20, 3) := by decide +kernel
theorem dX10_note_15 : decode cX10_note 15 = .ok (.iload_n 3, 1) := by decide +kernel
theorem dX10_note_16 : decode cX10_note 16 = .ok (.bipush (-2), 2) := by decide +kernel
theorem dX10_note_18 : decode cX10_note 18 = .ok (.if_icmp .lt 14, 3) := by decide +kernel
theorem dX10_note_21 : decode cX10_note 21 = .ok (.iload_n 3, 1) := by decide +kernel
theorem dX10_note_22 : decode cX10_note 22 = .ok (.aload_n 0, 1) := by decide +kernel
theorem dX10_note_23 : decode cX10_note 23 = .ok (.getfield 16, 3) := by decide +kernel
theorem dX10_note_26 : decode cX10_note 26 = .ok (.getfield 119, 3) := by decide +kernel
theorem dX10_note_29 : decode cX10_note 29 = .ok (.if_icmp .lt 5, 3) := by decide +kernel
theorem dX10_note_32 : decode cX10_note 32 = .ok (.iconst (-1), 1) := by decide +kernel
theorem dX10_note_33 : decode cX10_note 33 = .ok (.ireturn, 1) := by decide +kernel
theorem dX10_note_34 : decode cX10_note 34 = .ok (.iload_n 3, 1) := by decide +kernel
theorem dX10_note_35 : decode cX10_note 35 = .ok (.iconst (-1), 1) := by decide +kernel
theorem dX10_note_36 : decode cX10_note 36 = .ok (.if_icmp .ne 13, 3) := by decide +kernel
theorem dX10_note_39 : decode cX10_note 39 = .ok (.aload_n 0, 1) := by decide +kernel
theorem dX10_note_40 : decode cX10_note 40 = .ok (.getfield 42, 3) := by decide +kernel
theorem dX10_note_43 : decode cX10_note 43 = .ok (.iload_n 1, 1) := by decide +kernel
theorem dX10_note_44 : decode cX10_note 44 = .ok (.iload_n 2, 1) := by decide +kernel
theorem dX10_note_45 : decode cX10_note 45 = .ok (.invokevirtual 214, 3) := by decide +kernel
theorem dX10_note_48 : decode cX10_note 48 = .ok (.ireturn, 1) := by decide +kernel
theorem dX10_note_49 : decode cX10_note 49 = .ok (.iload_n 3, 1) := by decide +kernel
theorem dX10_note_50 : decode cX10_note 50 = .ok (.bipush (-2), 2) := by decide +kernel
theorem dX10_note_52 : decode cX10_note 52 = .ok (.if_icmp .ne 15, 3) := by decide +kernel
theorem dX10_note_55 : decode cX10_note 55 = .ok (.aload_n 0, 1) := by decide +kernel
theorem dX10_note_56 : decode cX10_note 56 = .ok (.getfield 42, 3) := by decide +kernel
theorem dX10_note_59 : decode cX10_note 59 = .ok (.iload_n 1, 1) := by decide +kernel
theorem dX10_note_60 : decode cX10_note 60 = .ok (.iload_n 2, 1) := by decide +kernel
theorem dX10_note_61 : decode cX10_note 61 = .ok (.invokevirtual 217, 3) := by decide +kernel
theorem dX10_note_64 : decode cX10_note 64 = .ok (.goto 16, 3) := by decide +kernel
theorem dX10_note_67 : decode cX10_note 67 = .ok (.aload_n 0, 1) := by decide +kernel
theorem dX10_note_68 : decode cX10_note 68 = .ok (.getfield 42, 3) := by decide +kernel
theorem dX10_note_71 : decode cX10_note 71 = .ok (.iload_n 1, 1) := by decide +kernel
theorem dX10_note_72 : decode cX10_note 72 = .ok (.iload_n 2, 1) := by decide +kernel
theorem dX10_note_73 : decode cX10_note 73 = .ok (.invokevirtual 220, 3) := by decide +kernel
theorem dX10_note_76 : decode cX10_note 76 = .ok (.iload_n 3, 1) := by decide +kernel
theorem dX10_note_77 : decode cX10_note 77 = .ok (.invokestatic 223, 3) := by decide +kernel
theorem dX10_note_80 : decode cX10_note 80 = .ok (.ireturn, 1) := by decide +kernel
theorem dX10_round_0 : decode cX10_round 0 = .ok (.aload_n 0, 1) := by decide +kernel
theorem dX10_round_1 : decode cX10_round 1 = .ok (.iload_n 1, 1) := by decide +kernel
theorem dX10_round_2 : decode cX10_round 2 = .ok (.invokevirtual 159, 3) := by decide +kernel
theorem dX10_round_5 : decode cX10_round 5 = .ok (.ifCond .eq 12, 3) := by decide +kernel
theorem dX10_round_8 : decode cX10_round 8 = .ok (.iload_n 2, 1) := by decide +kernel
theorem dX10_round_9 : decode cX10_round 9 = .ok (.ifCond .lt 8, 3) := by decide +kernel
theorem dX10_round_12 : decode cX10_round 12 = .ok (.iload_n 2, 1) := by decide +kernel
theorem dX10_round_13 : decode cX10_round 13 = .ok (.iconst 1, 1) := by decide +kernel
theorem dX10_round_14 : decode cX10_round 14 = .ok (.if_icmp .le 5, 3) := by decide +kernel
theorem dX10_round_17 : decode cX10_round 17 = .ok (.iconst (-1), 1) := by decide +kernel
theorem dX10_round_18 : decode cX10_round 18 = .ok (.ireturn, 1) := by decide +kernel
theorem dX10_round_19 : decode cX10_round 19 = .ok (.aload_n 0, 1) := by decide +kernel
theorem dX10_round_20 : decode cX10_round 20 = .ok (.getfield 42, 3) := by decide +kernel
theorem dX10_round_23 : decode cX10_round 23 = .ok (.iload_n 1, 1) := by decide +kernel
theorem dX10_round_24 : decode cX10_round 24 = .ok (.invokevirtual 226, 3) := by decide +kernel
theorem dX10_round_27 : decode cX10_round 27 = .ok (.istore_n 3, 1) := by decide +kernel
theorem dX10_round_28 : decode cX10_round 28 = .ok (.iload_n 2, 1) := by decide +kernel
theorem dX10_round_29 : decode cX10_round 29 = .ok (.iconst 1, 1) := by decide +kernel
theorem dX10_round_30 : decode cX10_round 30 = .ok (.if_icmp .eq 8, 3) := by decide +kernel
theorem dX10_round_33 : decode cX10_round 33 = .ok (.iload_n 3, 1) := by decide +kernel
theorem dX10_round_34 : decode cX10_round 34 = .ok (.iconst (-1), 1) := by decide +kernel
theorem dX10_round_35 : decode cX10_round 35 = .ok (.if_icmp .ne 7, 3) := by decide +kernel
theorem dX10_round_38 : decode cX10_round 38 = .ok (.iload_n 3, 1) := by decide +kernel
theorem dX10_round_39 : decode cX10_round 39 = .ok (.goto 12, 3) := by decide +kernel
theorem dX10_round_42 : decode cX10_round 42 = .ok (.aload_n 0, 1) := by decide +kernel
theorem dX10_round_43 : decode cX10_round 43 = .ok (.getfield 42, 3) := by decide +kernel
theorem dX10_round_46 : decode cX10_round 46 = .ok (.iload_n 1, 1) := by decide +kernel
theorem dX10_round_47 : decode cX10_round 47 = .ok (.iload_n 3, 1) := by decide +kernel
theorem dX10_round_48 : decode cX10_round 48 = .ok (.invokevirtual 229, 3) := by decide +kernel
theorem dX10_round_51 : decode cX10_round 51 = .ok (.ireturn, 1) := by decide +kernel
theorem dX10_find_0 : decode cX10_find 0 = .ok (.aload_n 0, 1) := by decide +kernel
theorem dX10_find_1 : decode cX10_find 1 = .ok (.iload_n 1, 1) := by decide +kernel
theorem dX10_find_2 : decode cX10_find 2 = .ok (.invokevirtual 159, 3) := by decide +kernel
theorem dX10_find_5 : decode cX10_find 5 = .ok (.ifCond .eq 10, 3) := by decide +kernel
theorem dX10_find_8 : decode cX10_find 8 = .ok (.iload_n 2, 1) := by decide +kernel
theorem dX10_find_9 : decode cX10_find 9 = .ok (.invokestatic 211, 3) := by decide +kernel
theorem dX10_find_12 : decode cX10_find 12 = .ok (.ifCond .ne 5, 3) := by decide +kernel
theorem dX10_find_15 : decode cX10_find 15 = .ok (.iconst (-1), 1) := by decide +kernel
theorem dX10_find_16 : decode cX10_find 16 = .ok (.ireturn, 1) := by decide +kernel
theorem dX10_find_17 : decode cX10_find 17 = .ok (.iload_n 2, 1) := by decide +kernel
theorem dX10_find_18 : decode cX10_find 18 = .ok (.istore 4, 2) := by decide +kernel
theorem dX10_find_20 : decode cX10_find 20 = .ok (.iload 4, 2) := by decide +kernel
theorem dX10_find_22 : decode cX10_find 22 = .ok (.sipush 1000, 3) := by decide +kernel
theorem dX10_find_25 : decode cX10_find 25 = .ok (.if_icmp .ge 26, 3) := by decide +kernel
theorem dX10_find_28 : decode cX10_find 28 = .ok (.aload_n 0, 1) := by decide +kernel
theorem dX10_find_29 : decode cX10_find 29 = .ok (.getfield 42, 3) := by decide +kernel
theorem dX10_find_32 : decode cX10_find 32 = .ok (.iload_n 1, 1) := by decide +kernel
theorem dX10_find_33 : decode cX10_find 33 = .ok (.iload 4, 2) := by decide +kernel
theorem dX10_find_35 : decode cX10_find 35 = .ok (.invokevirtual 214, 3) := by decide +kernel
theorem dX10_find_38 : decode cX10_find 38 = .ok (.iload_n 3, 1) := by decide +kernel
theorem dX10_find_39 : decode cX10_find 39 = .ok (.if_icmp .ne 6, 3) := by decide +kernel
theorem dX10_find_42 : decode cX10_find 42 = .ok (.iload 4, 2) := by decide +kernel
theorem dX10_find_44 : decode cX10_find 44 = .ok (.ireturn, 1) := by decide +kernel
theorem dX10_find_45 : decode cX10_find 45 = .ok (.iinc 4 1, 3) := by decide +kernel
theorem dX10_find_48 : decode cX10_find 48 = .ok (.goto (-28), 3) := by decide +kernel
theorem dX10_find_51 : decode cX10_find 51 = .ok (.iconst (-1), 1) := by decide +kernel
theorem dX10_find_52 : decode cX10_find 52 = .ok (.ireturn, 1) := by decide +kernel
theorem dX10_ear_0 : decode cX10_ear 0 = .ok (.aload_n 0, 1) := by decide +kernel
theorem dX10_ear_1 : decode cX10_ear 1 = .ok (.iload_n 1, 1) := by decide +kernel
theorem dX10_ear_2 : decode cX10_ear 2 = .ok (.invokevirtual 151, 3) := by decide +kernel
theorem dX10_ear_5 : decode cX10_ear 5 = .ok (.astore 4, 2) := by decide +kernel
theorem dX10_ear_7 : decode cX10_ear 7 = .ok (.aload 4, 2) := by decide +kernel
theorem dX10_ear_9 : decode cX10_ear 9 = .ok (.ifnull 12, 3) := by decide +kernel
theorem dX10_ear_12 : decode cX10_ear 12 = .ok (.aload 4, 2) := by decide +kernel
theorem dX10_ear_14 : decode cX10_ear 14 = .ok (.iload_n 2, 1) := by decide +kernel
theorem dX10_ear_15 : decode cX10_ear 15 = .ok (.invokevirtual 232, 3) := by decide +kernel
theorem dX10_ear_18 : decode cX10_ear 18 = .ok (.ifCond .ne 5, 3) := by decide +kernel
theorem dX10_ear_21 : decode cX10_ear 21 = .ok (.iconst (-1), 1) := by decide +kernel
theorem dX10_ear_22 : decode cX10_ear 22 = .ok (.ireturn, 1) := by decide +kernel
theorem dX10_ear_23 : decode cX10_ear 23 = .ok (.iload_n 3, 1) := by decide +kernel
theorem dX10_ear_24 : decode cX10_ear 24 = .ok (.tableswitch 52 0 2 #[28, 36, 44], 28) := by decide +kernel
theorem dX10_ear_52 : decode cX10_ear 52 = .ok (.aload 4, 2) := by decide +kernel
theorem dX10_ear_54 : decode cX10_ear 54 = .ok (.getfield 235, 3) := by decide +kernel
theorem dX10_ear_57 : decode cX10_ear 57 = .ok (.iload_n 2, 1) := by decide +kernel
theorem dX10_ear_58 : decode cX10_ear 58 = .ok (.iaload, 1) := by decide +kernel
theorem dX10_ear_59 : decode cX10_ear 59 = .ok (.ireturn, 1) := by decide +kernel
theorem dX10_ear_60 : decode cX10_ear 60 = .ok (.aload 4, 2) := by decide +kernel
theorem dX10_ear_62 : decode cX10_ear 62 = .ok (.getfield 237, 3) := by decide +kernel
theorem dX10_ear_65 : decode cX10_ear 65 = .ok (.iload_n 2, 1) := by decide +kernel
theorem dX10_ear_66 : decode cX10_ear 66 = .ok (.iaload, 1) := by decide +kernel
theorem dX10_ear_67 : decode cX10_ear 67 = .ok (.ireturn, 1) := by decide +kernel
theorem dX10_ear_68 : decode cX10_ear 68 = .ok (.aload 4, 2) := by decide +kernel
theorem dX10_ear_70 : decode cX10_ear 70 = .ok (.getfield 240, 3) := by decide +kernel
theorem dX10_ear_73 : decode cX10_ear 73 = .ok (.iload_n 2, 1) := by decide +kernel
theorem dX10_ear_74 : decode cX10_ear 74 = .ok (.iaload, 1) := by decide +kernel
theorem dX10_ear_75 : decode cX10_ear 75 = .ok (.ireturn, 1) := by decide +kernel
theorem dX10_ear_76 : decode cX10_ear 76 = .ok (.iconst (-1), 1) := by decide +kernel
theorem dX10_ear_77 : decode cX10_ear 77 = .ok (.ireturn, 1) := by decide +kernel
theorem dX10_come_0 : decode cX10_come 0 = .ok (.aload_n 0, 1) := by decide +kernel
theorem dX10_come_1 : decode cX10_come 1 = .ok (.iload_n 1, 1) := by decide +kernel
theorem dX10_come_2 : decode cX10_come 2 = .ok (.invokevirtual 155, 3) := by decide +kernel
theorem dX10_come_5 : decode cX10_come 5 = .ok (.astore_n 2, 1) := by decide +kernel
theorem dX10_come_6 : decode cX10_come 6 = .ok (.aload_n 2, 1) := by decide +kernel
theorem dX10_come_7 : decode cX10_come 7 = .ok (.ifnull 13, 3) := by decide +kernel
theorem dX10_come_10 : decode cX10_come 10 = .ok (.aload_n 2, 1) := by decide +kernel
theorem dX10_come_11 : decode cX10_come 11 = .ok (.getfield 196, 3) := by decide +kernel
theorem dX10_come_14 : decode cX10_come 14 = .ok (.sipush 1000, 3) := by decide +kernel
theorem dX10_come_17 : decode cX10_come 17 = .ok (.if_icmp .lt 16, 3) := by decide +kernel
theorem dX10_come_20 : decode cX10_come 20 = .ok (.aload_n 0, 1) := by decide +kernel
theorem dX10_come_21 : decode cX10_come 21 = .ok (.getfield 79, 3) := by decide +kernel
theorem dX10_come_24 : decode cX10_come 24 = .ok (.iconst 2, 1) := by decide +kernel
theorem dX10_come_25 : decode cX10_come 25 = .ok (.dup2, 1) := by decide +kernel
theorem dX10_come_26 : decode cX10_come 26 = .ok (.iaload, 1) := by decide +kernel
theorem dX10_come_27 : decode cX10_come 27 = .ok (.iconst 1, 1) := by decide +kernel
theorem dX10_come_28 : decode cX10_come 28 = .ok (.iadd, 1) := by decide +kernel
theorem dX10_come_29 : decode cX10_come 29 = .ok (.iastore, 1) := by decide +kernel
theorem dX10_come_30 : decode cX10_come 30 = .ok (.bipush (-2), 2) := by decide +kernel
theorem dX10_come_32 : decode cX10_come 32 = .ok (.ireturn, 1) := by decide +kernel
theorem dX10_come_33 : decode cX10_come 33 = .ok (.aload_n 0, 1) := by decide +kernel
theorem dX10_come_34 : decode cX10_come 34 = .ok (.aload_n 2, 1) := by decide +kernel
theorem dX10_come_35 : decode cX10_come 35 = .ok (.aload_n 0, 1) := by decide +kernel
theorem dX10_come_36 : decode cX10_come 36 = .ok (.getfield 42, 3) := by decide +kernel
theorem dX10_come_39 : decode cX10_come 39 = .ok (.aload_n 2, 1) := by decide +kernel
theorem dX10_come_40 : decode cX10_come 40 = .ok (.getfield 193, 3) := by decide +kernel
theorem dX10_come_43 : decode cX10_come 43 = .ok (.aload_n 2, 1) := by decide +kernel
theorem dX10_come_44 : decode cX10_come 44 = .ok (.getfield 196, 3) := by decide +kernel
theorem dX10_come_47 : decode cX10_come 47 = .ok (.invokevirtual 220, 3) := by decide +kernel
theorem dX10_come_50 : decode cX10_come 50 = .ok (.invokevirtual 243, 3) := by decide +kernel
theorem dX10_come_53 : decode cX10_come 53 = .ok (.ireturn, 1) := by decide +kernel
theorem dX10_slip_0 : decode cX10_slip 0 = .ok (.aload_n 0, 1) := by decide +kernel
theorem dX10_slip_1 : decode cX10_slip 1 = .ok (.iload_n 1, 1) := by decide +kernel
theorem dX10_slip_2 : decode cX10_slip 2 = .ok (.invokevirtual 155, 3) := by decide +kernel
theorem dX10_slip_5 : decode cX10_slip 5 = .ok (.astore 4, 2) := by decide +kernel
theorem dX10_slip_7 : decode cX10_slip 7 = .ok (.aload 4, 2) := by decide +kernel
theorem dX10_slip_9 : decode cX10_slip 9 = .ok (.ifnull 73, 3) := by decide +kernel
theorem dX10_slip_12 : decode cX10_slip 12 = .ok (.aload 4, 2) := by decide +kernel
theorem dX10_slip_14 : decode cX10_slip 14 = .ok (.getfield 196, 3) := by decide +kernel
theorem dX10_slip_17 : decode cX10_slip 17 = .ok (.sipush 1000, 3) := by decide +kernel
theorem dX10_slip_20 : decode cX10_slip 20 = .ok (.if_icmp .ge 62, 3) := by decide +kernel
theorem dX10_slip_23 : decode cX10_slip 23 = .ok (.iload_n 2, 1) := by decide +kernel
theorem dX10_slip_24 : decode cX10_slip 24 = .ok (.ifCond .lt 58, 3) := by decide +kernel
theorem dX10_slip_27 : decode cX10_slip 27 = .ok (.iload_n 2, 1) := by decide +kernel
theorem dX10_slip_28 : decode cX10_slip 28 = .ok (.aload_n 0, 1) := by decide +kernel
theorem dX10_slip_29 : decode cX10_slip 29 = .ok (.getfield 16, 3) := by decide +kernel
theorem dX10_slip_32 : decode cX10_slip 32 = .ok (.getfield 119, 3) := by decide +kernel
theorem dX10_slip_35 : decode cX10_slip 35 = .ok (.if_icmp .ge 47, 3) := by decide +kernel
theorem dX10_slip_38 : decode cX10_slip 38 = .ok (.iload_n 3, 1) := by decide +kernel
theorem dX10_slip_39 : decode cX10_slip 39 = .ok (.ifCond .lt 43, 3) := by decide +kernel
theorem dX10_slip_42 : decode cX10_slip 42 = .ok (.iload_n 3, 1) := by decide +kernel
theorem dX10_slip_43 : decode cX10_slip 43 = .ok (.aload_n 0, 1) := by decide +kernel
theorem dX10_slip_44 : decode cX10_slip 44 = .ok (.getfield 16, 3) := by decide +kernel
theorem dX10_slip_47 : decode cX10_slip 47 = .ok (.getfield 116, 3) := by decide +kernel
theorem dX10_slip_50 : decode cX10_slip 50 = .ok (.if_icmp .ge 32, 3) := by decide +kernel
theorem dX10_slip_53 : decode cX10_slip 53 = .ok (.aload_n 0, 1) := by decide +kernel
theorem dX10_slip_54 : decode cX10_slip 54 = .ok (.getfield 42, 3) := by decide +kernel
theorem dX10_slip_57 : decode cX10_slip 57 = .ok (.aload 4, 2) := by decide +kernel
theorem dX10_slip_59 : decode cX10_slip 59 = .ok (.getfield 193, 3) := by decide +kernel
theorem dX10_slip_62 : decode cX10_slip 62 = .ok (.aload 4, 2) := by decide +kernel
theorem dX10_slip_64 : decode cX10_slip 64 = .ok (.getfield 196, 3) := by decide +kernel
theorem dX10_slip_67 : decode cX10_slip 67 = .ok (.invokevirtual 220, 3) := by decide +kernel
theorem dX10_slip_70 : decode cX10_slip 70 = .ok (.iload_n 2, 1) := by decide +kernel
theorem dX10_slip_71 : decode cX10_slip 71 = .ok (.invokestatic 223, 3) := by decide +kernel
theorem dX10_slip_74 : decode cX10_slip 74 = .ok (.iload_n 3, 1) := by decide +kernel
theorem dX10_slip_75 : decode cX10_slip 75 = .ok (.if_icmp .eq 7, 3) := by decide +kernel
theorem dX10_slip_78 : decode cX10_slip 78 = .ok (.iconst 1, 1) := by decide +kernel
theorem dX10_slip_79 : decode cX10_slip 79 = .ok (.goto 4, 3) := by decide +kernel
theorem dX10_slip_82 : decode cX10_slip 82 = .ok (.iconst 0, 1) := by decide +kernel
theorem dX10_slip_83 : decode cX10_slip 83 = .ok (.istore 5, 2) := by decide +kernel
theorem dX10_slip_85 : decode cX10_slip 85 = .ok (.iload 5, 2) := by decide +kernel
theorem dX10_slip_87 : decode cX10_slip 87 = .ok (.ifCond .ne 16, 3) := by decide +kernel
theorem dX10_slip_90 : decode cX10_slip 90 = .ok (.aload_n 0, 1) := by decide +kernel
theorem dX10_slip_91 : decode cX10_slip 91 = .ok (.getfield 79, 3) := by decide +kernel
theorem dX10_slip_94 : decode cX10_slip 94 = .ok (.iconst 2, 1) := by decide +kernel
theorem dX10_slip_95 : decode cX10_slip 95 = .ok (.dup2, 1) := by decide +kernel
theorem dX10_slip_96 : decode cX10_slip 96 = .ok (.iaload, 1) := by decide +kernel
theorem dX10_slip_97 : decode cX10_slip 97 = .ok (.iconst 1, 1) := by decide +kernel
theorem dX10_slip_98 : decode cX10_slip 98 = .ok (.iadd, 1) := by decide +kernel
theorem dX10_slip_99 : decode cX10_slip 99 = .ok (.iastore, 1) := by decide +kernel
theorem dX10_slip_100 : decode cX10_slip 100 = .ok (.bipush (-2), 2) := by decide +kernel
theorem dX10_slip_102 : decode cX10_slip 102 = .ok (.ireturn, 1) := by decide +kernel
theorem dX10_slip_103 : decode cX10_slip 103 = .ok (.aload_n 0, 1) := by decide +kernel
theorem dX10_slip_104 : decode cX10_slip 104 = .ok (.aload 4, 2) := by decide +kernel
theorem dX10_slip_106 : decode cX10_slip 106 = .ok (.aload_n 0, 1) := by decide +kernel
theorem dX10_slip_107 : decode cX10_slip 107 = .ok (.getfield 42, 3) := by decide +kernel
theorem dX10_slip_110 : decode cX10_slip 110 = .ok (.aload 4, 2) := by decide +kernel
theorem dX10_slip_112 : decode cX10_slip 112 = .ok (.getfield 193, 3) := by decide +kernel
theorem dX10_slip_115 : decode cX10_slip 115 = .ok (.aload 4, 2) := by decide +kernel
theorem dX10_slip_117 : decode cX10_slip 117 = .ok (.getfield 196, 3) := by decide +kernel
theorem dX10_slip_120 : decode cX10_slip 120 = .ok (.invokevirtual 220, 3) := by decide +kernel
theorem dX10_slip_123 : decode cX10_slip 123 = .ok (.iload_n 2, 1) := by decide +kernel
theorem dX10_slip_124 : decode cX10_slip 124 = .ok (.iload_n 3, 1) := by decide +kernel
theorem dX10_slip_125 : decode cX10_slip 125 = .ok (.invokestatic 247, 3) := by decide +kernel
theorem dX10_slip_128 : decode cX10_slip 128 = .ok (.invokevirtual 243, 3) := by decide +kernel
theorem dX10_slip_131 : decode cX10_slip 131 = .ok (.ireturn, 1) := by decide +kernel
theorem dX10_whistleAtDoor_0 : decode cX10_whistleAtDoor 0 = .ok (.aload_n 0, 1) := by decide +kernel
theorem dX10_whistleAtDoor_1 : decode cX10_whistleAtDoor 1 = .ok (.aload_n 1, 1) := by decide +kernel
theorem dX10_whistleAtDoor_2 : decode cX10_whistleAtDoor 2 = .ok (.getfield 190, 3) := by decide +kernel
theorem dX10_whistleAtDoor_5 : decode cX10_whistleAtDoor 5 = .ok (.invokevirtual 151, 3) := by decide +kernel
theorem dX10_whistleAtDoor_8 : decode cX10_whistleAtDoor 8 = .ok (.astore_n 3, 1) := by decide +kernel
theorem dX10_whistleAtDoor_9 : decode cX10_whistleAtDoor 9 = .ok (.aload_n 3, 1) := by decide +kernel
theorem dX10_whistleAtDoor_10 : decode cX10_whistleAtDoor 10 = .ok (.ifnonnull 7, 3) := by decide +kernel
theorem dX10_whistleAtDoor_13 : decode cX10_whistleAtDoor 13 = .ok (.iconst (-1), 1) := by decide +kernel
theorem dX10_whistleAtDoor_14 : decode cX10_whistleAtDoor 14 = .ok (.goto 12, 3) := by decide +kernel
theorem dX10_whistleAtDoor_17 : decode cX10_whistleAtDoor 17 = .ok (.aload_n 3, 1) := by decide +kernel
theorem dX10_whistleAtDoor_18 : decode cX10_whistleAtDoor 18 = .ok (.aload_n 0, 1) := by decide +kernel
theorem dX10_whistleAtDoor_19 : decode cX10_whistleAtDoor 19 = .ok (.getfield 42, 3) := by decide +kernel
theorem dX10_whistleAtDoor_22 : decode cX10_whistleAtDoor 22 = .ok (.iload_n 2, 1) := by decide +kernel
theorem dX10_whistleAtDoor_23 : decode cX10_whistleAtDoor 23 = .ok (.invokevirtual 251, 3) := by decide +kernel
theorem dX10_whistleAtDoor_26 : decode cX10_whistleAtDoor 26 = .ok (.istore 4, 2) := by decide +kernel
theorem dX10_whistleAtDoor_28 : decode cX10_whistleAtDoor 28 = .ok (.aload_n 1, 1) := by decide +kernel
theorem dX10_whistleAtDoor_29 : decode cX10_whistleAtDoor 29 = .ok (.dup, 1) := by decide +kernel
theorem dX10_whistleAtDoor_30 : decode cX10_whistleAtDoor 30 = .ok (.getfield 196, 3) := by decide +kernel
theorem dX10_whistleAtDoor_33 : decode cX10_whistleAtDoor 33 = .ok (.iconst 1, 1) := by decide +kernel
theorem dX10_whistleAtDoor_34 : decode cX10_whistleAtDoor 34 = .ok (.iadd, 1) := by decide +kernel
theorem dX10_whistleAtDoor_35 : decode cX10_whistleAtDoor 35 = .ok (.putfield 196, 3) := by decide +kernel
theorem dX10_whistleAtDoor_38 : decode cX10_whistleAtDoor 38 = .ok (.iload 4, 2) := by decide +kernel
theorem dX10_whistleAtDoor_40 : decode cX10_whistleAtDoor 40 = .ok (.iconst (-1), 1) := by decide +kernel
theorem dX10_whistleAtDoor_41 : decode cX10_whistleAtDoor 41 = .ok (.if_icmp .ne 16, 3) := by decide +kernel
theorem dX10_whistleAtDoor_44 : decode cX10_whistleAtDoor 44 = .ok (.aload_n 1, 1) := by decide +kernel
theorem dX10_whistleAtDoor_45 : decode cX10_whistleAtDoor 45 = .ok (.dup, 1) := by decide +kernel
theorem dX10_whistleAtDoor_46 : decode cX10_whistleAtDoor 46 = .ok (.getfield 208, 3) := by decide +kernel
theorem dX10_whistleAtDoor_49 : decode cX10_whistleAtDoor 49 = .ok (.iconst 1, 1) := by decide +kernel
theorem dX10_whistleAtDoor_50 : decode cX10_whistleAtDoor 50 = .ok (.iadd, 1) := by decide +kernel
theorem dX10_whistleAtDoor_51 : decode cX10_whistleAtDoor 51 = .ok (.putfield 208, 3) := by decide +kernel
theorem dX10_whistleAtDoor_54 : decode cX10_whistleAtDoor 54 = .ok (.goto 13, 3) := by decide +kernel
theorem dX10_whistleAtDoor_57 : decode cX10_whistleAtDoor 57 = .ok (.aload_n 1, 1) := by decide +kernel
theorem dX10_whistleAtDoor_58 : decode cX10_whistleAtDoor 58 = .ok (.dup, 1) := by decide +kernel
theorem dX10_whistleAtDoor_59 : decode cX10_whistleAtDoor 59 = .ok (.getfield 205, 3) := by decide +kernel
theorem dX10_whistleAtDoor_62 : decode cX10_whistleAtDoor 62 = .ok (.iconst 1, 1) := by decide +kernel
theorem dX10_whistleAtDoor_63 : decode cX10_whistleAtDoor 63 = .ok (.iadd, 1) := by decide +kernel
theorem dX10_whistleAtDoor_64 : decode cX10_whistleAtDoor 64 = .ok (.putfield 205, 3) := by decide +kernel
theorem dX10_whistleAtDoor_67 : decode cX10_whistleAtDoor 67 = .ok (.iload 4, 2) := by decide +kernel
theorem dX10_whistleAtDoor_69 : decode cX10_whistleAtDoor 69 = .ok (.ireturn, 1) := by decide +kernel
theorem dX10_waste_0 : decode cX10_waste 0 = .ok (.aload_n 0, 1) := by decide +kernel
theorem dX10_waste_1 : decode cX10_waste 1 = .ok (.iload_n 1, 1) := by decide +kernel
theorem dX10_waste_2 : decode cX10_waste 2 = .ok (.invokevirtual 155, 3) := by decide +kernel
theorem dX10_waste_5 : decode cX10_waste 5 = .ok (.astore_n 3, 1) := by decide +kernel
theorem dX10_waste_6 : decode cX10_waste 6 = .ok (.aload_n 3, 1) := by decide +kernel
theorem dX10_waste_7 : decode cX10_waste 7 = .ok (.ifnull 26, 3) := by decide +kernel
theorem dX10_waste_10 : decode cX10_waste 10 = .ok (.iload_n 2, 1) := by decide +kernel
theorem dX10_waste_11 : decode cX10_waste 11 = .ok (.iconst 1, 1) := by decide +kernel
theorem dX10_waste_12 : decode cX10_waste 12 = .ok (.if_icmp .lt 21, 3) := by decide +kernel
theorem dX10_waste_15 : decode cX10_waste 15 = .ok (.iload_n 2, 1) := by decide +kernel
theorem dX10_waste_16 : decode cX10_waste 16 = .ok (.bipush 99, 2) := by decide +kernel
theorem dX10_waste_18 : decode cX10_waste 18 = .ok (.if_icmp .gt 15, 3) := by decide +kernel
theorem dX10_waste_21 : decode cX10_waste 21 = .ok (.aload_n 3, 1) := by decide +kernel
theorem dX10_waste_22 : decode cX10_waste 22 = .ok (.getfield 196, 3) := by decide +kernel
theorem dX10_waste_25 : decode cX10_waste 25 = .ok (.iload_n 2, 1) := by decide +kernel
theorem dX10_waste_26 : decode cX10_waste 26 = .ok (.iadd, 1) := by decide +kernel
theorem dX10_waste_27 : decode cX10_waste 27 = .ok (.sipush 1000, 3) := by decide +kernel
theorem dX10_waste_30 : decode cX10_waste 30 = .ok (.if_icmp .le 15, 3) := by decide +kernel
theorem dX10_waste_33 : decode cX10_waste 33 = .ok (.aload_n 0, 1) := by decide +kernel
theorem dX10_waste_34 : decode cX10_waste 34 = .ok (.getfield 79, 3) := by decide +kernel
theorem dX10_waste_37 : decode cX10_waste 37 = .ok (.iconst 2, 1) := by decide +kernel
theorem dX10_waste_38 : decode cX10_waste 38 = .ok (.dup2, 1) := by decide +kernel
theorem dX10_waste_39 : decode cX10_waste 39 = .ok (.iaload, 1) := by decide +kernel
theorem dX10_waste_40 : decode cX10_waste 40 = .ok (.iconst 1, 1) := by decide +kernel
theorem dX10_waste_41 : decode cX10_waste 41 = .ok (.iadd, 1) := by decide +kernel
theorem dX10_waste_42 : decode cX10_waste 42 = .ok (.iastore, 1) := by decide +kernel
theorem dX10_waste_43 : decode cX10_waste 43 = .ok (.iconst (-1), 1) := by decide +kernel
theorem dX10_waste_44 : decode cX10_waste 44 = .ok (.ireturn, 1) := by decide +kernel
theorem dX10_waste_45 : decode cX10_waste 45 = .ok (.aload_n 3, 1) := by decide +kernel
theorem dX10_waste_46 : decode cX10_waste 46 = .ok (.dup, 1) := by decide +kernel
theorem dX10_waste_47 : decode cX10_waste 47 = .ok (.getfield 196, 3) := by decide +kernel
theorem dX10_waste_50 : decode cX10_waste 50 = .ok (.iload_n 2, 1) := by decide +kernel
theorem dX10_waste_51 : decode cX10_waste 51 = .ok (.iadd, 1) := by decide +kernel
theorem dX10_waste_52 : decode cX10_waste 52 = .ok (.putfield 196, 3) := by decide +kernel
theorem dX10_waste_55 : decode cX10_waste 55 = .ok (.aload_n 3, 1) := by decide +kernel
theorem dX10_waste_56 : decode cX10_waste 56 = .ok (.getfield 196, 3) := by decide +kernel
theorem dX10_waste_59 : decode cX10_waste 59 = .ok (.ireturn, 1) := by decide +kernel
theorem dX10_listen_0 : decode cX10_listen 0 = .ok (.aload_n 0, 1) := by decide +kernel
theorem dX10_listen_1 : decode cX10_listen 1 = .ok (.iload_n 1, 1) := by decide +kernel
theorem dX10_listen_2 : decode cX10_listen 2 = .ok (.invokevirtual 151, 3) := by decide +kernel
theorem dX10_listen_5 : decode cX10_listen 5 = .ok (.astore_n 2, 1) := by decide +kernel
theorem dX10_listen_6 : decode cX10_listen 6 = .ok (.aload_n 0, 1) := by decide +kernel
theorem dX10_listen_7 : decode cX10_listen 7 = .ok (.aload_n 0, 1) := by decide +kernel
theorem dX10_listen_8 : decode cX10_listen 8 = .ok (.invokevirtual 94, 3) := by decide +kernel
theorem dX10_listen_11 : decode cX10_listen 11 = .ok (.invokevirtual 255, 3) := by decide +kernel
theorem dX10_listen_14 : decode cX10_listen 14 = .ok (.istore_n 3, 1) := by decide +kernel
theorem dX10_listen_15 : decode cX10_listen 15 = .ok (.aload_n 2, 1) := by decide +kernel
theorem dX10_listen_16 : decode cX10_listen 16 = .ok (.ifnull 8, 3) := by decide +kernel
theorem dX10_listen_19 : decode cX10_listen 19 = .ok (.iload_n 3, 1) := by decide +kernel
theorem dX10_listen_20 : decode cX10_listen 20 = .ok (.iconst (-1), 1) := by decide +kernel
theorem dX10_listen_21 : decode cX10_listen 21 = .ok (.if_icmp .ne 16, 3) := by decide +kernel
theorem dX10_listen_24 : decode cX10_listen 24 = .ok (.aload_n 0, 1) := by decide +kernel
theorem dX10_listen_25 : decode cX10_listen 25 = .ok (.getfield 79, 3) := by decide +kernel
theorem dX10_listen_28 : decode cX10_listen 28 = .ok (.iconst 2, 1) := by decide +kernel
theorem dX10_listen_29 : decode cX10_listen 29 = .ok (.dup2, 1) := by decide +kernel
theorem dX10_listen_30 : decode cX10_listen 30 = .ok (.iaload, 1) := by decide +kernel
theorem dX10_listen_31 : decode cX10_listen 31 = .ok (.iconst 1, 1) := by decide +kernel
theorem dX10_listen_32 : decode cX10_listen 32 = .ok (.iadd, 1) := by decide +kernel
theorem dX10_listen_33 : decode cX10_listen 33 = .ok (.iastore, 1) := by decide +kernel
theorem dX10_listen_34 : decode cX10_listen 34 = .ok (.bipush (-2), 2) := by decide +kernel
theorem dX10_listen_36 : decode cX10_listen 36 = .ok (.ireturn, 1) := by decide +kernel
theorem dX10_listen_37 : decode cX10_listen 37 = .ok (.aload_n 2, 1) := by decide +kernel
theorem dX10_listen_38 : decode cX10_listen 38 = .ok (.aload_n 0, 1) := by decide +kernel
theorem dX10_listen_39 : decode cX10_listen 39 = .ok (.getfield 42, 3) := by decide +kernel
theorem dX10_listen_42 : decode cX10_listen 42 = .ok (.iload_n 3, 1) := by decide +kernel
theorem dX10_listen_43 : decode cX10_listen 43 = .ok (.invokevirtual 251, 3) := by decide +kernel
theorem dX10_listen_46 : decode cX10_listen 46 = .ok (.ireturn, 1) := by decide +kernel
theorem dX10_tapedTune_0 : decode cX10_tapedTune 0 = .ok (.iload_n 1, 1) := by decide +kernel
theorem dX10_tapedTune_1 : decode cX10_tapedTune 1 = .ok (.aload_n 0, 1) := by decide +kernel
theorem dX10_tapedTune_2 : decode cX10_tapedTune 2 = .ok (.getfield 16, 3) := by decide +kernel
theorem dX10_tapedTune_5 : decode cX10_tapedTune 5 = .ok (.getfield 119, 3) := by decide +kernel
theorem dX10_tapedTune_8 : decode cX10_tapedTune 8 = .ok (.if_icmp .eq 5, 3) := by decide +kernel
theorem dX10_tapedTune_11 : decode cX10_tapedTune 11 = .ok (.iconst (-1), 1) := by decide +kernel
theorem dX10_tapedTune_12 : decode cX10_tapedTune 12 = .ok (.ireturn, 1) := by decide +kernel
theorem dX10_tapedTune_13 : decode cX10_tapedTune 13 = .ok (.iconst 0, 1) := by decide +kernel
theorem dX10_tapedTune_14 : decode cX10_tapedTune 14 = .ok (.istore_n 2, 1) := by decide +kernel
theorem dX10_tapedTune_15 : decode cX10_tapedTune 15 = .ok (.iconst 0, 1) := by decide +kernel
theorem dX10_tapedTune_16 : decode cX10_tapedTune 16 = .ok (.istore_n 3, 1) := by decide +kernel
theorem dX10_tapedTune_17 : decode cX10_tapedTune 17 = .ok (.iload_n 3, 1) := by decide +kernel
theorem dX10_tapedTune_18 : decode cX10_tapedTune 18 = .ok (.iload_n 1, 1) := by decide +kernel
theorem dX10_tapedTune_19 : decode cX10_tapedTune 19 = .ok (.if_icmp .ge 39, 3) := by decide +kernel
theorem dX10_tapedTune_22 : decode cX10_tapedTune 22 = .ok (.aload_n 0, 1) := by decide +kernel
theorem dX10_tapedTune_23 : decode cX10_tapedTune 23 = .ok (.getfield 9, 3) := by decide +kernel
theorem dX10_tapedTune_26 : decode cX10_tapedTune 26 = .ok (.iload_n 3, 1) := by decide +kernel
theorem dX10_tapedTune_27 : decode cX10_tapedTune 27 = .ok (.iaload, 1) := by decide +kernel
theorem dX10_tapedTune_28 : decode cX10_tapedTune 28 = .ok (.aload_n 0, 1) := by decide +kernel
theorem dX10_tapedTune_29 : decode cX10_tapedTune 29 = .ok (.getfield 16, 3) := by decide +kernel
theorem dX10_tapedTune_32 : decode cX10_tapedTune 32 = .ok (.getfield 116, 3) := by decide +kernel
theorem dX10_tapedTune_35 : decode cX10_tapedTune 35 = .ok (.if_icmp .lt 5, 3) := by decide +kernel
theorem dX10_tapedTune_38 : decode cX10_tapedTune 38 = .ok (.iconst (-1), 1) := by decide +kernel
theorem dX10_tapedTune_39 : decode cX10_tapedTune 39 = .ok (.ireturn, 1) := by decide +kernel
theorem dX10_tapedTune_40 : decode cX10_tapedTune 40 = .ok (.iload_n 2, 1) := by decide +kernel
theorem dX10_tapedTune_41 : decode cX10_tapedTune 41 = .ok (.iload_n 3, 1) := by decide +kernel
theorem dX10_tapedTune_42 : decode cX10_tapedTune 42 = .ok (.aload_n 0, 1) := by decide +kernel
theorem dX10_tapedTune_43 : decode cX10_tapedTune 43 = .ok (.getfield 9, 3) := by decide +kernel
theorem dX10_tapedTune_46 : decode cX10_tapedTune 46 = .ok (.iload_n 3, 1) := by decide +kernel
theorem dX10_tapedTune_47 : decode cX10_tapedTune 47 = .ok (.iaload, 1) := by decide +kernel
theorem dX10_tapedTune_48 : decode cX10_tapedTune 48 = .ok (.invokestatic 247, 3) := by decide +kernel
theorem dX10_tapedTune_51 : decode cX10_tapedTune 51 = .ok (.istore_n 2, 1) := by decide +kernel
theorem dX10_tapedTune_52 : decode cX10_tapedTune 52 = .ok (.iinc 3 1, 3) := by decide +kernel
theorem dX10_tapedTune_55 : decode cX10_tapedTune 55 = .ok (.goto (-38), 3) := by decide +kernel
theorem dX10_tapedTune_58 : decode cX10_tapedTune 58 = .ok (.iload_n 2, 1) := by decide +kernel
theorem dX10_tapedTune_59 : decode cX10_tapedTune 59 = .ok (.ireturn, 1) := by decide +kernel
theorem dX10_opened_0 : decode cX10_opened 0 = .ok (.aload_n 0, 1) := by decide +kernel
theorem dX10_opened_1 : decode cX10_opened 1 = .ok (.iload_n 1, 1) := by decide +kernel
theorem dX10_opened_2 : decode cX10_opened 2 = .ok (.invokevirtual 151, 3) := by decide +kernel
theorem dX10_opened_5 : decode cX10_opened 5 = .ok (.astore_n 3, 1) := by decide +kernel
theorem dX10_opened_6 : decode cX10_opened 6 = .ok (.aload_n 3, 1) := by decide +kernel
theorem dX10_opened_7 : decode cX10_opened 7 = .ok (.ifnonnull 5, 3) := by decide +kernel
theorem dX10_opened_10 : decode cX10_opened 10 = .ok (.iconst (-1), 1) := by decide +kernel
theorem dX10_opened_11 : decode cX10_opened 11 = .ok (.ireturn, 1) := by decide +kernel
theorem dX10_opened_12 : decode cX10_opened 12 = .ok (.iload_n 2, 1) := by decide +kernel
theorem dX10_opened_13 : decode cX10_opened 13 = .ok (.tableswitch 42 0 2 #[27, 32, 37], 27) := by decide +kernel
theorem dX10_opened_40 : decode cX10_opened 40 = .ok (.aload_n 3, 1) := by decide +kernel
theorem dX10_opened_41 : decode cX10_opened 41 = .ok (.getfield 258, 3) := by decide +kernel
theorem dX10_opened_44 : decode cX10_opened 44 = .ok (.ireturn, 1) := by decide +kernel
theorem dX10_opened_45 : decode cX10_opened 45 = .ok (.aload_n 3, 1) := by decide +kernel
theorem dX10_opened_46 : decode cX10_opened 46 = .ok (.getfield 261, 3) := by decide +kernel
theorem dX10_opened_49 : decode cX10_opened 49 = .ok (.ireturn, 1) := by decide +kernel
theorem dX10_opened_50 : decode cX10_opened 50 = .ok (.aload_n 3, 1) := by decide +kernel
theorem dX10_opened_51 : decode cX10_opened 51 = .ok (.getfield 264, 3) := by decide +kernel
theorem dX10_opened_54 : decode cX10_opened 54 = .ok (.ireturn, 1) := by decide +kernel
theorem dX10_opened_55 : decode cX10_opened 55 = .ok (.iconst (-1), 1) := by decide +kernel
theorem dX10_opened_56 : decode cX10_opened 56 = .ok (.ireturn, 1) := by decide +kernel
theorem dX10_apart_0 : decode cX10_apart 0 = .ok (.aload_n 0, 1) := by decide +kernel
theorem dX10_apart_1 : decode cX10_apart 1 = .ok (.iload_n 1, 1) := by decide +kernel
theorem dX10_apart_2 : decode cX10_apart 2 = .ok (.invokevirtual 155, 3) := by decide +kernel
theorem dX10_apart_5 : decode cX10_apart 5 = .ok (.astore_n 2, 1) := by decide +kernel
theorem dX10_apart_6 : decode cX10_apart 6 = .ok (.aload_n 2, 1) := by decide +kernel
theorem dX10_apart_7 : decode cX10_apart 7 = .ok (.ifnonnull 7, 3) := by decide +kernel
theorem dX10_apart_10 : decode cX10_apart 10 = .ok (.aconst_null, 1) := by decide +kernel
theorem dX10_apart_11 : decode cX10_apart 11 = .ok (.goto 11, 3) := by decide +kernel
theorem dX10_apart_14 : decode cX10_apart 14 = .ok (.aload_n 0, 1) := by decide +kernel
theorem dX10_apart_15 : decode cX10_apart 15 = .ok (.aload_n 2, 1) := by decide +kernel
theorem dX10_apart_16 : decode cX10_apart 16 = .ok (.getfield 190, 3) := by decide +kernel
theorem dX10_apart_19 : decode cX10_apart 19 = .ok (.invokevirtual 151, 3) := by decide +kernel
theorem dX10_apart_22 : decode cX10_apart 22 = .ok (.astore_n 3, 1) := by decide +kernel
theorem dX10_apart_23 : decode cX10_apart 23 = .ok (.aload_n 3, 1) := by decide +kernel
theorem dX10_apart_24 : decode cX10_apart 24 = .ok (.ifnull 14, 3) := by decide +kernel
theorem dX10_apart_27 : decode cX10_apart 27 = .ok (.aload_n 3, 1) := by decide +kernel
theorem dX10_apart_28 : decode cX10_apart 28 = .ok (.aload_n 2, 1) := by decide +kernel
theorem dX10_apart_29 : decode cX10_apart 29 = .ok (.getfield 193, 3) := by decide +kernel
theorem dX10_apart_32 : decode cX10_apart 32 = .ok (.invokevirtual 232, 3) := by decide +kernel
theorem dX10_apart_35 : decode cX10_apart 35 = .ok (.ifCond .ne 9, 3) := by decide +kernel
theorem dX10_apart_38 : decode cX10_apart 38 = .ok (.sipush (-10000), 3) := by decide +kernel
theorem dX10_apart_41 : decode cX10_apart 41 = .ok (.goto 17, 3) := by decide +kernel
theorem dX10_apart_44 : decode cX10_apart 44 = .ok (.aload_n 2, 1) := by decide +kernel
theorem dX10_apart_45 : decode cX10_apart 45 = .ok (.getfield 196, 3) := by decide +kernel
theorem dX10_apart_48 : decode cX10_apart 48 = .ok (.aload_n 3, 1) := by decide +kernel
theorem dX10_apart_49 : decode cX10_apart 49 = .ok (.getfield 235, 3) := by decide +kernel
theorem dX10_apart_52 : decode cX10_apart 52 = .ok (.aload_n 2, 1) := by decide +kernel
theorem dX10_apart_53 : decode cX10_apart 53 = .ok (.getfield 193, 3) := by decide +kernel
theorem dX10_apart_56 : decode cX10_apart 56 = .ok (.iaload, 1) := by decide +kernel
theorem dX10_apart_57 : decode cX10_apart 57 = .ok (.isub, 1) := by decide +kernel
theorem dX10_apart_58 : decode cX10_apart 58 = .ok (.ireturn, 1) := by decide +kernel
theorem dX10_mend_0 : decode cX10_mend 0 = .ok (.aload_n 0, 1) := by decide +kernel
theorem dX10_mend_1 : decode cX10_mend 1 = .ok (.iload_n 1, 1) := by decide +kernel
theorem dX10_mend_2 : decode cX10_mend 2 = .ok (.invokevirtual 155, 3) := by decide +kernel
theorem dX10_mend_5 : decode cX10_mend 5 = .ok (.astore_n 2, 1) := by decide +kernel
theorem dX10_mend_6 : decode cX10_mend 6 = .ok (.aload_n 2, 1) := by decide +kernel
theorem dX10_mend_7 : decode cX10_mend 7 = .ok (.ifnull 14, 3) := by decide +kernel
theorem dX10_mend_10 : decode cX10_mend 10 = .ok (.aload_n 0, 1) := by decide +kernel
theorem dX10_mend_11 : decode cX10_mend 11 = .ok (.aload_n 2, 1) := by decide +kernel
theorem dX10_mend_12 : decode cX10_mend 12 = .ok (.getfield 190, 3) := by decide +kernel
theorem dX10_mend_15 : decode cX10_mend 15 = .ok (.invokevirtual 267, 3) := by decide +kernel
theorem dX10_mend_18 : decode cX10_mend 18 = .ok (.ifCond .ne 5, 3) := by decide +kernel
theorem dX10_mend_21 : decode cX10_mend 21 = .ok (.iconst (-1), 1) := by decide +kernel
theorem dX10_mend_22 : decode cX10_mend 22 = .ok (.ireturn, 1) := by decide +kernel
theorem dX10_mend_23 : decode cX10_mend 23 = .ok (.iconst 1, 1) := by decide +kernel
theorem dX10_mend_24 : decode cX10_mend 24 = .ok (.istore_n 3, 1) := by decide +kernel
theorem dX10_mend_25 : decode cX10_mend 25 = .ok (.iload_n 3, 1) := by decide +kernel
theorem dX10_mend_26 : decode cX10_mend 26 = .ok (.bipush 50, 2) := by decide +kernel
theorem dX10_mend_28 : decode cX10_mend 28 = .ok (.if_icmp .gt 30, 3) := by decide +kernel
theorem dX10_mend_31 : decode cX10_mend 31 = .ok (.aload_n 0, 1) := by decide +kernel
theorem dX10_mend_32 : decode cX10_mend 32 = .ok (.aload_n 2, 1) := by decide +kernel
theorem dX10_mend_33 : decode cX10_mend 33 = .ok (.getfield 193, 3) := by decide +kernel
theorem dX10_mend_36 : decode cX10_mend 36 = .ok (.aload_n 2, 1) := by decide +kernel
theorem dX10_mend_37 : decode cX10_mend 37 = .ok (.getfield 196, 3) := by decide +kernel
theorem dX10_mend_40 : decode cX10_mend 40 = .ok (.iload_n 3, 1) := by decide +kernel
theorem dX10_mend_41 : decode cX10_mend 41 = .ok (.iadd, 1) := by decide +kernel
theorem dX10_mend_42 : decode cX10_mend 42 = .ok (.iconst 1, 1) := by decide +kernel
theorem dX10_mend_43 : decode cX10_mend 43 = .ok (.isub, 1) := by decide +kernel
theorem dX10_mend_44 : decode cX10_mend 44 = .ok (.invokevirtual 270, 3) := by decide +kernel
theorem dX10_mend_47 : decode cX10_mend 47 = .ok (.ifCond .eq 5, 3) := by decide +kernel
theorem dX10_mend_50 : decode cX10_mend 50 = .ok (.iload_n 3, 1) := by decide +kernel
theorem dX10_mend_51 : decode cX10_mend 51 = .ok (.ireturn, 1) := by decide +kernel
theorem dX10_mend_52 : decode cX10_mend 52 = .ok (.iinc 3 1, 3) := by decide +kernel
theorem dX10_mend_55 : decode cX10_mend 55 = .ok (.goto (-30), 3) := by decide +kernel
theorem dX10_mend_58 : decode cX10_mend 58 = .ok (.iconst (-1), 1) := by decide +kernel
theorem dX10_mend_59 : decode cX10_mend 59 = .ok (.ireturn, 1) := by decide +kernel
theorem dX10_tryAt_0 : decode cX10_tryAt 0 = .ok (.aload_n 0, 1) := by decide +kernel
theorem dX10_tryAt_1 : decode cX10_tryAt 1 = .ok (.iload_n 1, 1) := by decide +kernel
theorem dX10_tryAt_2 : decode cX10_tryAt 2 = .ok (.invokevirtual 151, 3) := by decide +kernel
theorem dX10_tryAt_5 : decode cX10_tryAt 5 = .ok (.astore_n 2, 1) := by decide +kernel
theorem dX10_tryAt_6 : decode cX10_tryAt 6 = .ok (.aload_n 2, 1) := by decide +kernel
theorem dX10_tryAt_7 : decode cX10_tryAt 7 = .ok (.ifnonnull 5, 3) := by decide +kernel
theorem dX10_tryAt_10 : decode cX10_tryAt 10 = .ok (.iconst 0, 1) := by decide +kernel
theorem dX10_tryAt_11 : decode cX10_tryAt 11 = .ok (.ireturn, 1) := by decide +kernel
theorem dX10_tryAt_12 : decode cX10_tryAt 12 = .ok (.aload_n 0, 1) := by decide +kernel
theorem dX10_tryAt_13 : decode cX10_tryAt 13 = .ok (.getfield 49, 3) := by decide +kernel
theorem dX10_tryAt_16 : decode cX10_tryAt 16 = .ok (.aload_n 2, 1) := by decide +kernel
theorem dX10_tryAt_17 : decode cX10_tryAt 17 = .ok (.invokevirtual 274, 3) := by decide +kernel
theorem dX10_tryAt_20 : decode cX10_tryAt 20 = .ok (.iconst 1, 1) := by decide +kernel
theorem dX10_tryAt_21 : decode cX10_tryAt 21 = .ok (.ireturn, 1) := by decide +kernel
theorem dX10_trialOpens_0 : decode cX10_trialOpens 0 = .ok (.iload_n 2, 1) := by decide +kernel
theorem dX10_trialOpens_1 : decode cX10_trialOpens 1 = .ok (.invokestatic 211, 3) := by decide +kernel
theorem dX10_trialOpens_4 : decode cX10_trialOpens 4 = .ok (.ifCond .eq 31, 3) := by decide +kernel
theorem dX10_trialOpens_7 : decode cX10_trialOpens 7 = .ok (.aload_n 0, 1) := by decide +kernel
theorem dX10_trialOpens_8 : decode cX10_trialOpens 8 = .ok (.getfield 49, 3) := by decide +kernel
theorem dX10_trialOpens_11 : decode cX10_trialOpens 11 = .ok (.aload_n 0, 1) := by decide +kernel
theorem dX10_trialOpens_12 : decode cX10_trialOpens 12 = .ok (.getfield 42, 3) := by decide +kernel
theorem dX10_trialOpens_15 : decode cX10_trialOpens 15 = .ok (.aload_n 0, 1) := by decide +kernel
theorem dX10_trialOpens_16 : decode cX10_trialOpens 16 = .ok (.getfield 42, 3) := by decide +kernel
theorem dX10_trialOpens_19 : decode cX10_trialOpens 19 = .ok (.iload_n 1, 1) := by decide +kernel
theorem dX10_trialOpens_20 : decode cX10_trialOpens 20 = .ok (.iload_n 2, 1) := by decide +kernel
theorem dX10_trialOpens_21 : decode cX10_trialOpens 21 = .ok (.invokevirtual 220, 3) := by decide +kernel
theorem dX10_trialOpens_24 : decode cX10_trialOpens 24 = .ok (.invokevirtual 251, 3) := by decide +kernel
theorem dX10_trialOpens_27 : decode cX10_trialOpens 27 = .ok (.iconst (-1), 1) := by decide +kernel
theorem dX10_trialOpens_28 : decode cX10_trialOpens 28 = .ok (.if_icmp .eq 7, 3) := by decide +kernel
theorem dX10_trialOpens_31 : decode cX10_trialOpens 31 = .ok (.iconst 1, 1) := by decide +kernel
theorem dX10_trialOpens_32 : decode cX10_trialOpens 32 = .ok (.goto 4, 3) := by decide +kernel
theorem dX10_trialOpens_35 : decode cX10_trialOpens 35 = .ok (.iconst 0, 1) := by decide +kernel
theorem dX10_trialOpens_36 : decode cX10_trialOpens 36 = .ok (.ireturn, 1) := by decide +kernel
theorem dX10_would_0 : decode cX10_would 0 = .ok (.aload_n 0, 1) := by decide +kernel
theorem dX10_would_1 : decode cX10_would 1 = .ok (.iload_n 1, 1) := by decide +kernel
theorem dX10_would_2 : decode cX10_would 2 = .ok (.invokevirtual 151, 3) := by decide +kernel
theorem dX10_would_5 : decode cX10_would 5 = .ok (.ifnonnull 5, 3) := by decide +kernel
theorem dX10_would_8 : decode cX10_would 8 = .ok (.iconst (-1), 1) := by decide +kernel
theorem dX10_would_9 : decode cX10_would 9 = .ok (.ireturn, 1) := by decide +kernel
theorem dX10_would_10 : decode cX10_would 10 = .ok (.iconst 0, 1) := by decide +kernel
theorem dX10_would_11 : decode cX10_would 11 = .ok (.istore_n 2, 1) := by decide +kernel
theorem dX10_would_12 : decode cX10_would 12 = .ok (.iconst 0, 1) := by decide +kernel
theorem dX10_would_13 : decode cX10_would 13 = .ok (.istore_n 3, 1) := by decide +kernel
theorem dX10_would_14 : decode cX10_would 14 = .ok (.iload_n 3, 1) := by decide +kernel
theorem dX10_would_15 : decode cX10_would 15 = .ok (.iconst 4, 1) := by decide +kernel
theorem dX10_would_16 : decode cX10_would 16 = .ok (.if_icmp .ge 61, 3) := by decide +kernel
theorem dX10_would_19 : decode cX10_would 19 = .ok (.aload_n 0, 1) := by decide +kernel
theorem dX10_would_20 : decode cX10_would 20 = .ok (.iload_n 3, 1) := by decide +kernel
theorem dX10_would_21 : decode cX10_would 21 = .ok (.invokevirtual 155, 3) := by decide +kernel
theorem dX10_would_24 : decode cX10_would 24 = .ok (.astore 4, 2) := by decide +kernel
theorem dX10_would_26 : decode cX10_would 26 = .ok (.aload 4, 2) := by decide +kernel
theorem dX10_would_28 : decode cX10_would 28 = .ok (.ifnull 43, 3) := by decide +kernel
theorem dX10_would_31 : decode cX10_would 31 = .ok (.aload 4, 2) := by decide +kernel
theorem dX10_would_33 : decode cX10_would 33 = .ok (.getfield 190, 3) := by decide +kernel
theorem dX10_would_36 : decode cX10_would 36 = .ok (.iload_n 1, 1) := by decide +kernel
theorem dX10_would_37 : decode cX10_would 37 = .ok (.if_icmp .ne 34, 3) := by decide +kernel
theorem dX10_would_40 : decode cX10_would 40 = .ok (.aload_n 0, 1) := by decide +kernel
theorem dX10_would_41 : decode cX10_would 41 = .ok (.iload_n 1, 1) := by decide +kernel
theorem dX10_would_42 : decode cX10_would 42 = .ok (.invokevirtual 267, 3) := by decide +kernel
theorem dX10_would_45 : decode cX10_would 45 = .ok (.ifCond .eq 26, 3) := by decide +kernel
theorem dX10_would_48 : decode cX10_would 48 = .ok (.aload_n 0, 1) := by decide +kernel
theorem dX10_would_49 : decode cX10_would 49 = .ok (.aload 4, 2) := by decide +kernel
theorem dX10_would_51 : decode cX10_would 51 = .ok (.getfield 193, 3) := by decide +kernel
theorem dX10_would_54 : decode cX10_would 54 = .ok (.aload 4, 2) := by decide +kernel
theorem dX10_would_56 : decode cX10_would 56 = .ok (.getfield 196, 3) := by decide +kernel
theorem dX10_would_59 : decode cX10_would 59 = .ok (.invokevirtual 270, 3) := by decide +kernel
theorem dX10_would_62 : decode cX10_would 62 = .ok (.ifCond .eq 9, 3) := by decide +kernel
theorem dX10_would_65 : decode cX10_would 65 = .ok (.iload_n 2, 1) := by decide +kernel
theorem dX10_would_66 : decode cX10_would 66 = .ok (.iconst 1, 1) := by decide +kernel
theorem dX10_would_67 : decode cX10_would 67 = .ok (.iload_n 3, 1) := by decide +kernel
theorem dX10_would_68 : decode cX10_would 68 = .ok (.ishl, 1) := by decide +kernel
theorem dX10_would_69 : decode cX10_would 69 = .ok (.ior, 1) := by decide +kernel
theorem dX10_would_70 : decode cX10_would 70 = .ok (.istore_n 2, 1) := by decide +kernel
theorem dX10_would_71 : decode cX10_would 71 = .ok (.iinc 3 1, 3) := by decide +kernel
theorem dX10_would_74 : decode cX10_would 74 = .ok (.goto (-60), 3) := by decide +kernel
theorem dX10_would_77 : decode cX10_would 77 = .ok (.iload_n 2, 1) := by decide +kernel
theorem dX10_would_78 : decode cX10_would 78 = .ok (.ireturn, 1) := by decide +kernel
theorem dX10_likely_0 : decode cX10_likely 0 = .ok (.aload_n 0, 1) := by decide +kernel
theorem dX10_likely_1 : decode cX10_likely 1 = .ok (.iload_n 1, 1) := by decide +kernel
theorem dX10_likely_2 : decode cX10_likely 2 = .ok (.iload_n 2, 1) := by decide +kernel
theorem dX10_likely_3 : decode cX10_likely 3 = .ok (.iconst 0, 1) := by decide +kernel
theorem dX10_likely_4 : decode cX10_likely 4 = .ok (.invokevirtual 278, 3) := by decide +kernel
theorem dX10_likely_7 : decode cX10_likely 7 = .ok (.lreturn, 1) := by decide +kernel
theorem dX10_lost_0 : decode cX10_lost 0 = .ok (.aload_n 0, 1) := by decide +kernel
theorem dX10_lost_1 : decode cX10_lost 1 = .ok (.iload_n 1, 1) := by decide +kernel
theorem dX10_lost_2 : decode cX10_lost 2 = .ok (.iload_n 2, 1) := by decide +kernel
theorem dX10_lost_3 : decode cX10_lost 3 = .ok (.iconst 1, 1) := by decide +kernel
theorem dX10_lost_4 : decode cX10_lost 4 = .ok (.invokevirtual 278, 3) := by decide +kernel
theorem dX10_lost_7 : decode cX10_lost 7 = .ok (.lreturn, 1) := by decide +kernel
theorem dX10_weighWays_0 : decode cX10_weighWays 0 = .ok (.aload_n 0, 1) := by decide +kernel
theorem dX10_weighWays_1 : decode cX10_weighWays 1 = .ok (.iload_n 1, 1) := by decide +kernel
theorem dX10_weighWays_2 : decode cX10_weighWays 2 = .ok (.invokevirtual 155, 3) := by decide +kernel
theorem dX10_weighWays_5 : decode cX10_weighWays 5 = .ok (.astore 4, 2) := by decide +kernel
theorem dX10_weighWays_7 : decode cX10_weighWays 7 = .ok (.aload 4, 2) := by decide +kernel
theorem dX10_weighWays_9 : decode cX10_weighWays 9 = .ok (.ifnonnull 7, 3) := by decide +kernel
theorem dX10_weighWays_12 : decode cX10_weighWays 12 = .ok (.aconst_null, 1) := by decide +kernel
theorem dX10_weighWays_13 : decode cX10_weighWays 13 = .ok (.goto 12, 3) := by decide +kernel
theorem dX10_weighWays_16 : decode cX10_weighWays 16 = .ok (.aload_n 0, 1) := by decide +kernel
theorem dX10_weighWays_17 : decode cX10_weighWays 17 = .ok (.aload 4, 2) := by decide +kernel
theorem dX10_weighWays_19 : decode cX10_weighWays 19 = .ok (.getfield 190, 3) := by decide +kernel
theorem dX10_weighWays_22 : decode cX10_weighWays 22 = .ok (.invokevirtual 151, 3) := by decide +kernel
theorem dX10_weighWays_25 : decode cX10_weighWays 25 = .ok (.astore 5, 2) := by decide +kernel
theorem dX10_weighWays_27 : decode cX10_weighWays 27 = .ok (.aload 5, 2) := by decide +kernel
theorem dX10_weighWays_29 : decode cX10_weighWays 29 = .ok (.ifnull 14, 3) := by decide +kernel
theorem dX10_weighWays_32 : decode cX10_weighWays 32 = .ok (.iload_n 2, 1) := by decide +kernel
theorem dX10_weighWays_33 : decode cX10_weighWays 33 = .ok (.iconst 1, 1) := by decide +kernel
theorem dX10_weighWays_34 : decode cX10_weighWays 34 = .ok (.if_icmp .lt 9, 3) := by decide +kernel
theorem dX10_weighWays_37 : decode cX10_weighWays 37 = .ok (.iload_n 2, 1) := by decide +kernel
theorem dX10_weighWays_38 : decode cX10_weighWays 38 = .ok (.bipush 8, 2) := by decide +kernel
theorem dX10_weighWays_40 : decode cX10_weighWays 40 = .ok (.if_icmp .le 7, 3) := by decide +kernel
theorem dX10_weighWays_43 : decode cX10_weighWays 43 = .ok (.ldc2_w 282, 3) := by decide +kernel
theorem dX10_weighWays_46 : decode cX10_weighWays 46 = .ok (.lreturn, 1) := by decide +kernel
theorem dX10_weighWays_47 : decode cX10_weighWays 47 = .ok (.aload_n 0, 1) := by decide +kernel
theorem dX10_weighWays_48 : decode cX10_weighWays 48 = .ok (.getfield 58, 3) := by decide +kernel
theorem dX10_weighWays_51 : decode cX10_weighWays 51 = .ok (.aload 4, 2) := by decide +kernel
theorem dX10_weighWays_53 : decode cX10_weighWays 53 = .ok (.aload 5, 2) := by decide +kernel
theorem dX10_weighWays_55 : decode cX10_weighWays 55 = .ok (.iload_n 2, 1) := by decide +kernel
theorem dX10_weighWays_56 : decode cX10_weighWays 56 = .ok (.iload_n 3, 1) := by decide +kernel
theorem dX10_weighWays_57 : decode cX10_weighWays 57 = .ok (.invokevirtual 284, 3) := by decide +kernel
theorem dX10_weighWays_60 : decode cX10_weighWays 60 = .ok (.lreturn, 1) := by decide +kernel
theorem dX10_bears_0 : decode cX10_bears 0 = .ok (.aload_n 0, 1) := by decide +kernel
theorem dX10_bears_1 : decode cX10_bears 1 = .ok (.iload_n 1, 1) := by decide +kernel
theorem dX10_bears_2 : decode cX10_bears 2 = .ok (.invokevirtual 155, 3) := by decide +kernel
theorem dX10_bears_5 : decode cX10_bears 5 = .ok (.astore_n 2, 1) := by decide +kernel
theorem dX10_bears_6 : decode cX10_bears 6 = .ok (.aload_n 2, 1) := by decide +kernel
theorem dX10_bears_7 : decode cX10_bears 7 = .ok (.ifnonnull 5, 3) := by decide +kernel
theorem dX10_bears_10 : decode cX10_bears 10 = .ok (.iconst (-1), 1) := by decide +kernel
theorem dX10_bears_11 : decode cX10_bears 11 = .ok (.ireturn, 1) := by decide +kernel
theorem dX10_bears_12 : decode cX10_bears 12 = .ok (.iconst (-1), 1) := by decide +kernel
theorem dX10_bears_13 : decode cX10_bears 13 = .ok (.istore_n 3, 1) := by decide +kernel
theorem dX10_bears_14 : decode cX10_bears 14 = .ok (.iconst 0, 1) := by decide +kernel
theorem dX10_bears_15 : decode cX10_bears 15 = .ok (.istore 4, 2) := by decide +kernel
theorem dX10_bears_17 : decode cX10_bears 17 = .ok (.iload 4, 2) := by decide +kernel
theorem dX10_bears_19 : decode cX10_bears 19 = .ok (.bipush 60, 2) := by decide +kernel
theorem dX10_bears_21 : decode cX10_bears 21 = .ok (.if_icmp .gt 43, 3) := by decide +kernel
theorem dX10_bears_24 : decode cX10_bears 24 = .ok (.aload_n 0, 1) := by decide +kernel
theorem dX10_bears_25 : decode cX10_bears 25 = .ok (.aload_n 2, 1) := by decide +kernel
theorem dX10_bears_26 : decode cX10_bears 26 = .ok (.getfield 190, 3) := by decide +kernel
theorem dX10_bears_29 : decode cX10_bears 29 = .ok (.invokevirtual 267, 3) := by decide +kernel
theorem dX10_bears_32 : decode cX10_bears 32 = .ok (.ifCond .eq 21, 3) := by decide +kernel
theorem dX10_bears_35 : decode cX10_bears 35 = .ok (.aload_n 0, 1) := by decide +kernel
theorem dX10_bears_36 : decode cX10_bears 36 = .ok (.aload_n 2, 1) := by decide +kernel
theorem dX10_bears_37 : decode cX10_bears 37 = .ok (.getfield 193, 3) := by decide +kernel
theorem dX10_bears_40 : decode cX10_bears 40 = .ok (.aload_n 2, 1) := by decide +kernel
theorem dX10_bears_41 : decode cX10_bears 41 = .ok (.getfield 196, 3) := by decide +kernel
theorem dX10_bears_44 : decode cX10_bears 44 = .ok (.iload 4, 2) := by decide +kernel
theorem dX10_bears_46 : decode cX10_bears 46 = .ok (.iadd, 1) := by decide +kernel
theorem dX10_bears_47 : decode cX10_bears 47 = .ok (.invokevirtual 270, 3) := by decide +kernel
theorem dX10_bears_50 : decode cX10_bears 50 = .ok (.ifCond .ne 5, 3) := by decide +kernel
theorem dX10_bears_53 : decode cX10_bears 53 = .ok (.iload_n 3, 1) := by decide +kernel
theorem dX10_bears_54 : decode cX10_bears 54 = .ok (.ireturn, 1) := by decide +kernel
theorem dX10_bears_55 : decode cX10_bears 55 = .ok (.iload 4, 2) := by decide +kernel
theorem dX10_bears_57 : decode cX10_bears 57 = .ok (.istore_n 3, 1) := by decide +kernel
theorem dX10_bears_58 : decode cX10_bears 58 = .ok (.iinc 4 1, 3) := by decide +kernel
theorem dX10_bears_61 : decode cX10_bears 61 = .ok (.goto (-44), 3) := by decide +kernel
theorem dX10_bears_64 : decode cX10_bears 64 = .ok (.iload_n 3, 1) := by decide +kernel
theorem dX10_bears_65 : decode cX10_bears 65 = .ok (.ireturn, 1) := by decide +kernel
theorem dX10_stranger_0 : decode cX10_stranger 0 = .ok (.aload_n 0, 1) := by decide +kernel
theorem dX10_stranger_1 : decode cX10_stranger 1 = .ok (.iload_n 1, 1) := by decide +kernel
theorem dX10_stranger_2 : decode cX10_stranger 2 = .ok (.invokevirtual 151, 3) := by decide +kernel
theorem dX10_stranger_5 : decode cX10_stranger 5 = .ok (.astore_n 3, 1) := by decide +kernel
theorem dX10_stranger_6 : decode cX10_stranger 6 = .ok (.aload_n 3, 1) := by decide +kernel
theorem dX10_stranger_7 : decode cX10_stranger 7 = .ok (.ifnull 15, 3) := by decide +kernel
theorem dX10_stranger_10 : decode cX10_stranger 10 = .ok (.iload_n 2, 1) := by decide +kernel
theorem dX10_stranger_11 : decode cX10_stranger 11 = .ok (.iconst (-1), 1) := by decide +kernel
theorem dX10_stranger_12 : decode cX10_stranger 12 = .ok (.if_icmp .lt 10, 3) := by decide +kernel
theorem dX10_stranger_15 : decode cX10_stranger 15 = .ok (.iload_n 2, 1) := by decide +kernel
theorem dX10_stranger_16 : decode cX10_stranger 16 = .ok (.sipush 500, 3) := by decide +kernel
theorem dX10_stranger_19 : decode cX10_stranger 19 = .ok (.if_icmp .le 7, 3) := by decide +kernel
theorem dX10_stranger_22 : decode cX10_stranger 22 = .ok (.ldc2_w 282, 3) := by decide +kernel
theorem dX10_stranger_25 : decode cX10_stranger 25 = .ok (.lreturn, 1) := by decide +kernel
theorem dX10_stranger_26 : decode cX10_stranger 26 = .ok (.aload_n 0, 1) := by decide +kernel
theorem dX10_stranger_27 : decode cX10_stranger 27 = .ok (.getfield 65, 3) := by decide +kernel
theorem dX10_stranger_30 : decode cX10_stranger 30 = .ok (.aload_n 3, 1) := by decide +kernel
theorem dX10_stranger_31 : decode cX10_stranger 31 = .ok (.invokevirtual 288, 3) := by decide +kernel
theorem dX10_stranger_34 : decode cX10_stranger 34 = .ok (.istore 4, 2) := by decide +kernel
theorem dX10_stranger_36 : decode cX10_stranger 36 = .ok (.iload_n 2, 1) := by decide +kernel
theorem dX10_stranger_37 : decode cX10_stranger 37 = .ok (.iconst (-1), 1) := by decide +kernel
theorem dX10_stranger_38 : decode cX10_stranger 38 = .ok (.if_icmp .ne 9, 3) := by decide +kernel
theorem dX10_stranger_41 : decode cX10_stranger 41 = .ok (.iload 4, 2) := by decide +kernel
theorem dX10_stranger_43 : decode cX10_stranger 43 = .ok (.i2l, 1) := by decide +kernel
theorem dX10_stranger_44 : decode cX10_stranger 44 = .ok (.goto 10, 3) := by decide +kernel
theorem dX10_stranger_47 : decode cX10_stranger 47 = .ok (.aload_n 0, 1) := by decide +kernel
theorem dX10_stranger_48 : decode cX10_stranger 48 = .ok (.iload 4, 2) := by decide +kernel
theorem dX10_stranger_50 : decode cX10_stranger 50 = .ok (.iload_n 2, 1) := by decide +kernel
theorem dX10_stranger_51 : decode cX10_stranger 51 = .ok (.invokevirtual 292, 3) := by decide +kernel
theorem dX10_stranger_54 : decode cX10_stranger 54 = .ok (.lreturn, 1) := by decide +kernel
theorem dX10_strangersChance_0 : decode cX10_strangersChance 0 = .ok (.aload_n 0, 1) := by decide +kernel
theorem dX10_strangersChance_1 : decode cX10_strangersChance 1 = .ok (.getfield 42, 3) := by decide +kernel
theorem dX10_strangersChance_4 : decode cX10_strangersChance 4 = .ok (.getfield 296, 3) := by decide +kernel
theorem dX10_strangersChance_7 : decode cX10_strangersChance 7 = .ok (.i2l, 1) := by decide +kernel
theorem dX10_strangersChance_8 : decode cX10_strangersChance 8 = .ok (.lstore_n 3, 1) := by decide +kernel
theorem dX10_strangersChance_9 : decode cX10_strangersChance 9 = .ok (.ldc2_w 299, 3) := by decide +kernel
theorem dX10_strangersChance_12 : decode cX10_strangersChance 12 = .ok (.lstore 5, 2) := by decide +kernel
theorem dX10_strangersChance_14 : decode cX10_strangersChance 14 = .ok (.iconst 0, 1) := by decide +kernel
theorem dX10_strangersChance_15 : decode cX10_strangersChance 15 = .ok (.istore 7, 2) := by decide +kernel
theorem dX10_strangersChance_17 : decode cX10_strangersChance 17 = .ok (.iload 7, 2) := by decide +kernel
theorem dX10_strangersChance_19 : decode cX10_strangersChance 19 = .ok (.iload_n 2, 1) := by decide +kernel
theorem dX10_strangersChance_20 : decode cX10_strangersChance 20 = .ok (.if_icmp .ge 26, 3) := by decide +kernel
theorem dX10_strangersChance_23 : decode cX10_strangersChance 23 = .ok (.lload_n 3, 1) := by decide +kernel
theorem dX10_strangersChance_24 : decode cX10_strangersChance 24 = .ok (.lconst 0, 1) := by decide +kernel
theorem dX10_strangersChance_25 : decode cX10_strangersChance 25 = .ok (.lcmp, 1) := by decide +kernel
theorem dX10_strangersChance_26 : decode cX10_strangersChance 26 = .ok (.ifCond .le 20, 3) := by decide +kernel
theorem dX10_strangersChance_29 : decode cX10_strangersChance 29 = .ok (.lload 5, 2) := by decide +kernel
theorem dX10_strangersChance_31 : decode cX10_strangersChance 31 = .ok (.lload_n 3, 1) := by decide +kernel
theorem dX10_strangersChance_32 : decode cX10_strangersChance 32 = .ok (.iload_n 1, 1) := by decide +kernel
theorem dX10_strangersChance_33 : decode cX10_strangersChance 33 = .ok (.i2l, 1) := by decide +kernel
theorem dX10_strangersChance_34 : decode cX10_strangersChance 34 = .ok (.lsub, 1) := by decide +kernel
theorem dX10_strangersChance_35 : decode cX10_strangersChance 35 = .ok (.lmul, 1) := by decide +kernel
theorem dX10_strangersChance_36 : decode cX10_strangersChance 36 = .ok (.lload_n 3, 1) := by decide +kernel
theorem dX10_strangersChance_37 : decode cX10_strangersChance 37 = .ok (.ldiv, 1) := by decide +kernel
theorem dX10_strangersChance_38 : decode cX10_strangersChance 38 = .ok (.lstore 5, 2) := by decide +kernel
theorem dX10_strangersChance_40 : decode cX10_strangersChance 40 = .ok (.iinc 7 1, 3) := by decide +kernel
theorem dX10_strangersChance_43 : decode cX10_strangersChance 43 = .ok (.goto (-26), 3) := by decide +kernel
theorem dX10_strangersChance_46 : decode cX10_strangersChance 46 = .ok (.ldc2_w 299, 3) := by decide +kernel
theorem dX10_strangersChance_49 : decode cX10_strangersChance 49 = .ok (.lload 5, 2) := by decide +kernel
theorem dX10_strangersChance_51 : decode cX10_strangersChance 51 = .ok (.lsub, 1) := by decide +kernel
theorem dX10_strangersChance_52 : decode cX10_strangersChance 52 = .ok (.lreturn, 1) := by decide +kernel
theorem dX10_near_0 : decode cX10_near 0 = .ok (.aload_n 0, 1) := by decide +kernel
theorem dX10_near_1 : decode cX10_near 1 = .ok (.iload_n 1, 1) := by decide +kernel
theorem dX10_near_2 : decode cX10_near 2 = .ok (.invokevirtual 151, 3) := by decide +kernel
theorem dX10_near_5 : decode cX10_near 5 = .ok (.astore_n 2, 1) := by decide +kernel
theorem dX10_near_6 : decode cX10_near 6 = .ok (.aload_n 2, 1) := by decide +kernel
theorem dX10_near_7 : decode cX10_near 7 = .ok (.ifnonnull 7, 3) := by decide +kernel
theorem dX10_near_10 : decode cX10_near 10 = .ok (.iconst (-1), 1) := by decide +kernel
theorem dX10_near_11 : decode cX10_near 11 = .ok (.goto 11, 3) := by decide +kernel
theorem dX10_near_14 : decode cX10_near 14 = .ok (.aload_n 0, 1) := by decide +kernel
theorem dX10_near_15 : decode cX10_near 15 = .ok (.getfield 65, 3) := by decide +kernel
theorem dX10_near_18 : decode cX10_near 18 = .ok (.aload_n 2, 1) := by decide +kernel
theorem dX10_near_19 : decode cX10_near 19 = .ok (.invokevirtual 301, 3) := by decide +kernel
theorem dX10_near_22 : decode cX10_near 22 = .ok (.ireturn, 1) := by decide +kernel
theorem dX10_cost_0 : decode cX10_cost 0 = .ok (.aload_n 0, 1) := by decide +kernel
theorem dX10_cost_1 : decode cX10_cost 1 = .ok (.iload_n 1, 1) := by decide +kernel
theorem dX10_cost_2 : decode cX10_cost 2 = .ok (.invokevirtual 155, 3) := by decide +kernel
theorem dX10_cost_5 : decode cX10_cost 5 = .ok (.astore 5, 2) := by decide +kernel
theorem dX10_cost_7 : decode cX10_cost 7 = .ok (.aload 5, 2) := by decide +kernel
theorem dX10_cost_9 : decode cX10_cost 9 = .ok (.ifnull 25, 3) := by decide +kernel
theorem dX10_cost_12 : decode cX10_cost 12 = .ok (.iload_n 2, 1) := by decide +kernel
theorem dX10_cost_13 : decode cX10_cost 13 = .ok (.iconst 1, 1) := by decide +kernel
theorem dX10_cost_14 : decode cX10_cost 14 = .ok (.if_icmp .lt 20, 3) := by decide +kernel
theorem dX10_cost_17 : decode cX10_cost 17 = .ok (.iload_n 2, 1) := by decide +kernel
theorem dX10_cost_18 : decode cX10_cost 18 = .ok (.bipush 6, 2) := by decide +kernel
theorem dX10_cost_20 : decode cX10_cost 20 = .ok (.if_icmp .gt 14, 3) := by decide +kernel
theorem dX10_cost_23 : decode cX10_cost 23 = .ok (.iload 4, 2) := by decide +kernel
theorem dX10_cost_25 : decode cX10_cost 25 = .ok (.ifCond .lt 9, 3) := by decide +kernel
theorem dX10_cost_28 : decode cX10_cost 28 = .ok (.iload 4, 2) := by decide +kernel
theorem dX10_cost_30 : decode cX10_cost 30 = .ok (.iconst 1, 1) := by decide +kernel
theorem dX10_cost_31 : decode cX10_cost 31 = .ok (.if_icmp .le 5, 3) := by decide +kernel
theorem dX10_cost_34 : decode cX10_cost 34 = .ok (.iconst (-1), 1) := by decide +kernel
theorem dX10_cost_35 : decode cX10_cost 35 = .ok (.ireturn, 1) := by decide +kernel
theorem dX10_cost_36 : decode cX10_cost 36 = .ok (.iload 4, 2) := by decide +kernel
theorem dX10_cost_38 : decode cX10_cost 38 = .ok (.ifCond .ne 27, 3) := by decide +kernel
theorem dX10_cost_41 : decode cX10_cost 41 = .ok (.iload_n 3, 1) := by decide +kernel
theorem dX10_cost_42 : decode cX10_cost 42 = .ok (.ifCond .lt 9, 3) := by decide +kernel
theorem dX10_cost_45 : decode cX10_cost 45 = .ok (.iload_n 3, 1) := by decide +kernel
theorem dX10_cost_46 : decode cX10_cost 46 = .ok (.bipush 20, 2) := by decide +kernel
theorem dX10_cost_48 : decode cX10_cost 48 = .ok (.if_icmp .le 7, 3) := by decide +kernel
theorem dX10_cost_51 : decode cX10_cost 51 = .ok (.iconst (-1), 1) := by decide +kernel
theorem dX10_cost_52 : decode cX10_cost 52 = .ok (.goto 12, 3) := by decide +kernel
theorem dX10_cost_55 : decode cX10_cost 55 = .ok (.aload_n 0, 1) := by decide +kernel
theorem dX10_cost_56 : decode cX10_cost 56 = .ok (.aload 5, 2) := by decide +kernel
theorem dX10_cost_58 : decode cX10_cost 58 = .ok (.iload_n 2, 1) := by decide +kernel
theorem dX10_cost_59 : decode cX10_cost 59 = .ok (.iload_n 3, 1) := by decide +kernel
theorem dX10_cost_60 : decode cX10_cost 60 = .ok (.invokevirtual 304, 3) := by decide +kernel
theorem dX10_cost_63 : decode cX10_cost 63 = .ok (.l2i, 1) := by decide +kernel
theorem dX10_cost_64 : decode cX10_cost 64 = .ok (.ireturn, 1) := by decide +kernel
theorem dX10_cost_65 : decode cX10_cost 65 = .ok (.iconst 0, 1) := by decide +kernel
theorem dX10_cost_66 : decode cX10_cost 66 = .ok (.istore 6, 2) := by decide +kernel
theorem dX10_cost_68 : decode cX10_cost 68 = .ok (.aload_n 0, 1) := by decide +kernel
theorem dX10_cost_69 : decode cX10_cost 69 = .ok (.aload 5, 2) := by decide +kernel
theorem dX10_cost_71 : decode cX10_cost 71 = .ok (.iload_n 2, 1) := by decide +kernel
theorem dX10_cost_72 : decode cX10_cost 72 = .ok (.iconst 0, 1) := by decide +kernel
theorem dX10_cost_73 : decode cX10_cost 73 = .ok (.invokevirtual 304, 3) := by decide +kernel
theorem dX10_cost_76 : decode cX10_cost 76 = .ok (.lstore 7, 2) := by decide +kernel
theorem dX10_cost_78 : decode cX10_cost 78 = .ok (.iconst 1, 1) := by decide +kernel
theorem dX10_cost_79 : decode cX10_cost 79 = .ok (.istore 9, 2) := by decide +kernel
theorem dX10_cost_81 : decode cX10_cost 81 = .ok (.iload 9, 2) := by decide +kernel
theorem dX10_cost_83 : decode cX10_cost 83 = .ok (.bipush 20, 2) := by decide +kernel
theorem dX10_cost_85 : decode cX10_cost 85 = .ok (.if_icmp .gt 36, 3) := by decide +kernel
theorem dX10_cost_88 : decode cX10_cost 88 = .ok (.aload_n 0, 1) := by decide +kernel
theorem dX10_cost_89 : decode cX10_cost 89 = .ok (.aload 5, 2) := by decide +kernel
theorem dX10_cost_91 : decode cX10_cost 91 = .ok (.iload_n 2, 1) := by decide +kernel
theorem dX10_cost_92 : decode cX10_cost 92 = .ok (.iload 9, 2) := by decide +kernel
theorem dX10_cost_94 : decode cX10_cost 94 = .ok (.invokevirtual 304, 3) := by decide +kernel
theorem dX10_cost_97 : decode cX10_cost 97 = .ok (.lstore 10, 2) := by decide +kernel
theorem dX10_cost_99 : decode cX10_cost 99 = .ok (.lload 10, 2) := by decide +kernel
theorem dX10_cost_101 : decode cX10_cost 101 = .ok (.lload 7, 2) := by decide +kernel
theorem dX10_cost_103 : decode cX10_cost 103 = .ok (.lcmp, 1) := by decide +kernel
theorem dX10_cost_104 : decode cX10_cost 104 = .ok (.ifCond .ge 11, 3) := by decide +kernel
theorem dX10_cost_107 : decode cX10_cost 107 = .ok (.lload 10, 2) := by decide +kernel
theorem dX10_cost_109 : decode cX10_cost 109 = .ok (.lstore 7, 2) := by decide +kernel
theorem dX10_cost_111 : decode cX10_cost 111 = .ok (.iload 9, 2) := by decide +kernel
theorem dX10_cost_113 : decode cX10_cost 113 = .ok (.istore 6, 2) := by decide +kernel
theorem dX10_cost_115 : decode cX10_cost 115 = .ok (.iinc 9 1, 3) := by decide +kernel
theorem dX10_cost_118 : decode cX10_cost 118 = .ok (.goto (-37), 3) := by decide +kernel
theorem dX10_cost_121 : decode cX10_cost 121 = .ok (.iload 6, 2) := by decide +kernel
theorem dX10_cost_123 : decode cX10_cost 123 = .ok (.ireturn, 1) := by decide +kernel
theorem dX10_costOf_0 : decode cX10_costOf 0 = .ok (.aload_n 0, 1) := by decide +kernel
theorem dX10_costOf_1 : decode cX10_costOf 1 = .ok (.aload_n 1, 1) := by decide +kernel
theorem dX10_costOf_2 : decode cX10_costOf 2 = .ok (.getfield 190, 3) := by decide +kernel
theorem dX10_costOf_5 : decode cX10_costOf 5 = .ok (.invokevirtual 267, 3) := by decide +kernel
theorem dX10_costOf_8 : decode cX10_costOf 8 = .ok (.ifCond .ne 7, 3) := by decide +kernel
theorem dX10_costOf_11 : decode cX10_costOf 11 = .ok (.ldc2_w 282, 3) := by decide +kernel
theorem dX10_costOf_14 : decode cX10_costOf 14 = .ok (.lreturn, 1) := by decide +kernel
theorem dX10_costOf_15 : decode cX10_costOf 15 = .ok (.aload_n 0, 1) := by decide +kernel
theorem dX10_costOf_16 : decode cX10_costOf 16 = .ok (.getfield 49, 3) := by decide +kernel
theorem dX10_costOf_19 : decode cX10_costOf 19 = .ok (.iconst 1, 1) := by decide +kernel
theorem dX10_costOf_20 : decode cX10_costOf 20 = .ok (.putfield 180, 3) := by decide +kernel
theorem dX10_costOf_23 : decode cX10_costOf 23 = .ok (.aload_n 0, 1) := by decide +kernel
theorem dX10_costOf_24 : decode cX10_costOf 24 = .ok (.getfield 49, 3) := by decide +kernel
theorem dX10_costOf_27 : decode cX10_costOf 27 = .ok (.iload_n 3, 1) := by decide +kernel
theorem dX10_costOf_28 : decode cX10_costOf 28 = .ok (.putfield 183, 3) := by decide +kernel
theorem dX10_costOf_31 : decode cX10_costOf 31 = .ok (.aload_n 0, 1) := by decide +kernel
theorem dX10_costOf_32 : decode cX10_costOf 32 = .ok (.getfield 49, 3) := by decide +kernel
theorem dX10_costOf_35 : decode cX10_costOf 35 = .ok (.iconst 0, 1) := by decide +kernel
theorem dX10_costOf_36 : decode cX10_costOf 36 = .ok (.putfield 186, 3) := by decide +kernel
theorem dX10_costOf_39 : decode cX10_costOf 39 = .ok (.ldc2_w 299, 3) := by decide +kernel
theorem dX10_costOf_42 : decode cX10_costOf 42 = .ok (.aload_n 0, 1) := by decide +kernel
theorem dX10_costOf_43 : decode cX10_costOf 43 = .ok (.getfield 58, 3) := by decide +kernel
theorem dX10_costOf_46 : decode cX10_costOf 46 = .ok (.aload_n 1, 1) := by decide +kernel
theorem dX10_costOf_47 : decode cX10_costOf 47 = .ok (.aload_n 0, 1) := by decide +kernel
theorem dX10_costOf_48 : decode cX10_costOf 48 = .ok (.getfield 49, 3) := by decide +kernel
theorem dX10_costOf_51 : decode cX10_costOf 51 = .ok (.iload_n 2, 1) := by decide +kernel
theorem dX10_costOf_52 : decode cX10_costOf 52 = .ok (.iconst 0, 1) := by decide +kernel
theorem dX10_costOf_53 : decode cX10_costOf 53 = .ok (.invokevirtual 284, 3) := by decide +kernel
theorem dX10_costOf_56 : decode cX10_costOf 56 = .ok (.lsub, 1) := by decide +kernel
theorem dX10_costOf_57 : decode cX10_costOf 57 = .ok (.lstore 4, 2) := by decide +kernel
theorem dX10_costOf_59 : decode cX10_costOf 59 = .ok (.aload_n 0, 1) := by decide +kernel
theorem dX10_costOf_60 : decode cX10_costOf 60 = .ok (.aload_n 0, 1) := by decide +kernel
theorem dX10_costOf_61 : decode cX10_costOf 61 = .ok (.getfield 65, 3) := by decide +kernel
theorem dX10_costOf_64 : decode cX10_costOf 64 = .ok (.aload_n 0, 1) := by decide +kernel
theorem dX10_costOf_65 : decode cX10_costOf 65 = .ok (.getfield 49, 3) := by decide +kernel
theorem dX10_costOf_68 : decode cX10_costOf 68 = .ok (.invokevirtual 288, 3) := by decide +kernel
theorem dX10_costOf_71 : decode cX10_costOf 71 = .ok (.iconst 1, 1) := by decide +kernel
theorem dX10_costOf_72 : decode cX10_costOf 72 = .ok (.invokevirtual 292, 3) := by decide +kernel
theorem dX10_costOf_75 : decode cX10_costOf 75 = .ok (.lstore 6, 2) := by decide +kernel
theorem dX10_costOf_77 : decode cX10_costOf 77 = .ok (.aload_n 0, 1) := by decide +kernel
theorem dX10_costOf_78 : decode cX10_costOf 78 = .ok (.getfield 16, 3) := by decide +kernel
theorem dX10_costOf_81 : decode cX10_costOf 81 = .ok (.getfield 141, 3) := by decide +kernel
theorem dX10_costOf_84 : decode cX10_costOf 84 = .ok (.i2l, 1) := by decide +kernel
theorem dX10_costOf_85 : decode cX10_costOf 85 = .ok (.lload 4, 2) := by decide +kernel
theorem dX10_costOf_87 : decode cX10_costOf 87 = .ok (.lmul, 1) := by decide +kernel
theorem dX10_costOf_88 : decode cX10_costOf 88 = .ok (.aload_n 0, 1) := by decide +kernel
theorem dX10_costOf_89 : decode cX10_costOf 89 = .ok (.getfield 16, 3) := by decide +kernel
theorem dX10_costOf_92 : decode cX10_costOf 92 = .ok (.getfield 144, 3) := by decide +kernel
theorem dX10_costOf_95 : decode cX10_costOf 95 = .ok (.i2l, 1) := by decide +kernel
theorem dX10_costOf_96 : decode cX10_costOf 96 = .ok (.lload 6, 2) := by decide +kernel
theorem dX10_costOf_98 : decode cX10_costOf 98 = .ok (.lmul, 1) := by decide +kernel
theorem dX10_costOf_99 : decode cX10_costOf 99 = .ok (.ladd, 1) := by decide +kernel
theorem dX10_costOf_100 : decode cX10_costOf 100 = .ok (.ldc2_w 299, 3) := by decide +kernel
theorem dX10_costOf_103 : decode cX10_costOf 103 = .ok (.ldiv, 1) := by decide +kernel
theorem dX10_costOf_104 : decode cX10_costOf 104 = .ok (.lreturn, 1) := by decide +kernel
theorem dX10_knows_0 : decode cX10_knows 0 = .ok (.aload_n 0, 1) := by decide +kernel
theorem dX10_knows_1 : decode cX10_knows 1 = .ok (.iload_n 1, 1) := by decide +kernel
theorem dX10_knows_2 : decode cX10_knows 2 = .ok (.iload_n 2, 1) := by decide +kernel
theorem dX10_knows_3 : decode cX10_knows 3 = .ok (.iload_n 3, 1) := by decide +kernel
theorem dX10_knows_4 : decode cX10_knows 4 = .ok (.invokevirtual 308, 3) := by decide +kernel
theorem dX10_knows_7 : decode cX10_knows 7 = .ok (.ifCond .eq 13, 3) := by decide +kernel
theorem dX10_knows_10 : decode cX10_knows 10 = .ok (.aload_n 0, 1) := by decide +kernel
theorem dX10_knows_11 : decode cX10_knows 11 = .ok (.getfield 72, 3) := by decide +kernel
theorem dX10_knows_14 : decode cX10_knows 14 = .ok (.invokevirtual 312, 3) := by decide +kernel
theorem dX10_knows_17 : decode cX10_knows 17 = .ok (.goto 4, 3) := by decide +kernel
theorem dX10_knows_20 : decode cX10_knows 20 = .ok (.iconst (-1), 1) := by decide +kernel
theorem dX10_knows_21 : decode cX10_knows 21 = .ok (.ireturn, 1) := by decide +kernel
theorem dX10_hearForms_0 : decode cX10_hearForms 0 = .ok (.aload_n 0, 1) := by decide +kernel
theorem dX10_hearForms_1 : decode cX10_hearForms 1 = .ok (.iload_n 1, 1) := by decide +kernel
theorem dX10_hearForms_2 : decode cX10_hearForms 2 = .ok (.invokevirtual 159, 3) := by decide +kernel
theorem dX10_hearForms_5 : decode cX10_hearForms 5 = .ok (.ifCond .eq 30, 3) := by decide +kernel
theorem dX10_hearForms_8 : decode cX10_hearForms 8 = .ok (.iload_n 2, 1) := by decide +kernel
theorem dX10_hearForms_9 : decode cX10_hearForms 9 = .ok (.invokestatic 211, 3) := by decide +kernel
theorem dX10_hearForms_12 : decode cX10_hearForms 12 = .ok (.ifCond .eq 23, 3) := by decide +kernel
theorem dX10_hearForms_15 : decode cX10_hearForms 15 = .ok (.iload_n 3, 1) := by decide +kernel
theorem dX10_hearForms_16 : decode cX10_hearForms 16 = .ok (.iconst 1, 1) := by decide +kernel
theorem dX10_hearForms_17 : decode cX10_hearForms 17 = .ok (.if_icmp .lt 18, 3) := by decide +kernel
theorem dX10_hearForms_20 : decode cX10_hearForms 20 = .ok (.iload_n 3, 1) := by decide +kernel
theorem dX10_hearForms_21 : decode cX10_hearForms 21 = .ok (.bipush 30, 2) := by decide +kernel
theorem dX10_hearForms_23 : decode cX10_hearForms 23 = .ok (.if_icmp .gt 12, 3) := by decide +kernel
theorem dX10_hearForms_26 : decode cX10_hearForms 26 = .ok (.iload_n 2, 1) := by decide +kernel
theorem dX10_hearForms_27 : decode cX10_hearForms 27 = .ok (.iload_n 3, 1) := by decide +kernel
theorem dX10_hearForms_28 : decode cX10_hearForms 28 = .ok (.iadd, 1) := by decide +kernel
theorem dX10_hearForms_29 : decode cX10_hearForms 29 = .ok (.sipush 1000, 3) := by decide +kernel
theorem dX10_hearForms_32 : decode cX10_hearForms 32 = .ok (.if_icmp .le 5, 3) := by decide +kernel
theorem dX10_hearForms_35 : decode cX10_hearForms 35 = .ok (.iconst 0, 1) := by decide +kernel
theorem dX10_hearForms_36 : decode cX10_hearForms 36 = .ok (.ireturn, 1) := by decide +kernel
theorem dX10_hearForms_37 : decode cX10_hearForms 37 = .ok (.aload_n 0, 1) := by decide +kernel
theorem dX10_hearForms_38 : decode cX10_hearForms 38 = .ok (.getfield 72, 3) := by decide +kernel
theorem dX10_hearForms_41 : decode cX10_hearForms 41 = .ok (.aload_n 0, 1) := by decide +kernel
theorem dX10_hearForms_42 : decode cX10_hearForms 42 = .ok (.getfield 16, 3) := by decide +kernel
theorem dX10_hearForms_45 : decode cX10_hearForms 45 = .ok (.getfield 119, 3) := by decide +kernel
theorem dX10_hearForms_48 : decode cX10_hearForms 48 = .ok (.aload_n 0, 1) := by decide +kernel
theorem dX10_hearForms_49 : decode cX10_hearForms 49 = .ok (.getfield 16, 3) := by decide +kernel
theorem dX10_hearForms_52 : decode cX10_hearForms 52 = .ok (.getfield 116, 3) := by decide +kernel
theorem dX10_hearForms_55 : decode cX10_hearForms 55 = .ok (.invokevirtual 314, 3) := by decide +kernel
theorem dX10_hearForms_58 : decode cX10_hearForms 58 = .ok (.iload_n 2, 1) := by decide +kernel
theorem dX10_hearForms_59 : decode cX10_hearForms 59 = .ok (.iconst 1, 1) := by decide +kernel
theorem dX10_hearForms_60 : decode cX10_hearForms 60 = .ok (.iadd, 1) := by decide +kernel
theorem dX10_hearForms_61 : decode cX10_hearForms 61 = .ok (.istore 4, 2) := by decide +kernel
theorem dX10_hearForms_63 : decode cX10_hearForms 63 = .ok (.iload 4, 2) := by decide +kernel
theorem dX10_hearForms_65 : decode cX10_hearForms 65 = .ok (.iload_n 2, 1) := by decide +kernel
theorem dX10_hearForms_66 : decode cX10_hearForms 66 = .ok (.iload_n 3, 1) := by decide +kernel
theorem dX10_hearForms_67 : decode cX10_hearForms 67 = .ok (.iadd, 1) := by decide +kernel
theorem dX10_hearForms_68 : decode cX10_hearForms 68 = .ok (.if_icmp .ge 38, 3) := by decide +kernel
theorem dX10_hearForms_71 : decode cX10_hearForms 71 = .ok (.aload_n 0, 1) := by decide +kernel
theorem dX10_hearForms_72 : decode cX10_hearForms 72 = .ok (.getfield 72, 3) := by decide +kernel
theorem dX10_hearForms_75 : decode cX10_hearForms 75 = .ok (.aload_n 0, 1) := by decide +kernel
theorem dX10_hearForms_76 : decode cX10_hearForms 76 = .ok (.getfield 42, 3) := by decide +kernel
theorem dX10_hearForms_79 : decode cX10_hearForms 79 = .ok (.iload_n 1, 1) := by decide +kernel
theorem dX10_hearForms_80 : decode cX10_hearForms 80 = .ok (.iload 4, 2) := by decide +kernel
theorem dX10_hearForms_82 : decode cX10_hearForms 82 = .ok (.iconst 1, 1) := by decide +kernel
theorem dX10_hearForms_83 : decode cX10_hearForms 83 = .ok (.isub, 1) := by decide +kernel
theorem dX10_hearForms_84 : decode cX10_hearForms 84 = .ok (.invokevirtual 220, 3) := by decide +kernel
theorem dX10_hearForms_87 : decode cX10_hearForms 87 = .ok (.aload_n 0, 1) := by decide +kernel
theorem dX10_hearForms_88 : decode cX10_hearForms 88 = .ok (.getfield 42, 3) := by decide +kernel
theorem dX10_hearForms_91 : decode cX10_hearForms 91 = .ok (.iload_n 1, 1) := by decide +kernel
theorem dX10_hearForms_92 : decode cX10_hearForms 92 = .ok (.iload 4, 2) := by decide +kernel
theorem dX10_hearForms_94 : decode cX10_hearForms 94 = .ok (.invokevirtual 220, 3) := by decide +kernel
theorem dX10_hearForms_97 : decode cX10_hearForms 97 = .ok (.invokevirtual 318, 3) := by decide +kernel
theorem dX10_hearForms_100 : decode cX10_hearForms 100 = .ok (.iinc 4 1, 3) := by decide +kernel
theorem dX10_hearForms_103 : decode cX10_hearForms 103 = .ok (.goto (-40), 3) := by decide +kernel
theorem dX10_hearForms_106 : decode cX10_hearForms 106 = .ok (.iconst 1, 1) := by decide +kernel
theorem dX10_hearForms_107 : decode cX10_hearForms 107 = .ok (.ireturn, 1) := by decide +kernel
theorem dX10_sure_0 : decode cX10_sure 0 = .ok (.aload_n 0, 1) := by decide +kernel
theorem dX10_sure_1 : decode cX10_sure 1 = .ok (.iload_n 1, 1) := by decide +kernel
theorem dX10_sure_2 : decode cX10_sure 2 = .ok (.invokevirtual 159, 3) := by decide +kernel
theorem dX10_sure_5 : decode cX10_sure 5 = .ok (.ifCond .eq 10, 3) := by decide +kernel
theorem dX10_sure_8 : decode cX10_sure 8 = .ok (.iload_n 2, 1) := by decide +kernel
theorem dX10_sure_9 : decode cX10_sure 9 = .ok (.invokestatic 211, 3) := by decide +kernel
theorem dX10_sure_12 : decode cX10_sure 12 = .ok (.ifCond .ne 5, 3) := by decide +kernel
theorem dX10_sure_15 : decode cX10_sure 15 = .ok (.iconst (-1), 1) := by decide +kernel
theorem dX10_sure_16 : decode cX10_sure 16 = .ok (.ireturn, 1) := by decide +kernel
theorem dX10_sure_17 : decode cX10_sure 17 = .ok (.aload_n 0, 1) := by decide +kernel
theorem dX10_sure_18 : decode cX10_sure 18 = .ok (.getfield 72, 3) := by decide +kernel
theorem dX10_sure_21 : decode cX10_sure 21 = .ok (.aload_n 0, 1) := by decide +kernel
theorem dX10_sure_22 : decode cX10_sure 22 = .ok (.getfield 16, 3) := by decide +kernel
theorem dX10_sure_25 : decode cX10_sure 25 = .ok (.getfield 119, 3) := by decide +kernel
theorem dX10_sure_28 : decode cX10_sure 28 = .ok (.aload_n 0, 1) := by decide +kernel
theorem dX10_sure_29 : decode cX10_sure 29 = .ok (.getfield 16, 3) := by decide +kernel
theorem dX10_sure_32 : decode cX10_sure 32 = .ok (.getfield 116, 3) := by decide +kernel
theorem dX10_sure_35 : decode cX10_sure 35 = .ok (.invokevirtual 314, 3) := by decide +kernel
theorem dX10_sure_38 : decode cX10_sure 38 = .ok (.iconst 2, 1) := by decide +kernel
theorem dX10_sure_39 : decode cX10_sure 39 = .ok (.istore_n 3, 1) := by decide +kernel
theorem dX10_sure_40 : decode cX10_sure 40 = .ok (.iload_n 3, 1) := by decide +kernel
theorem dX10_sure_41 : decode cX10_sure 41 = .ok (.bipush 30, 2) := by decide +kernel
theorem dX10_sure_43 : decode cX10_sure 43 = .ok (.if_icmp .gt 69, 3) := by decide +kernel
theorem dX10_sure_46 : decode cX10_sure 46 = .ok (.iload_n 2, 1) := by decide +kernel
theorem dX10_sure_47 : decode cX10_sure 47 = .ok (.iload_n 3, 1) := by decide +kernel
theorem dX10_sure_48 : decode cX10_sure 48 = .ok (.iadd, 1) := by decide +kernel
theorem dX10_sure_49 : decode cX10_sure 49 = .ok (.sipush 1000, 3) := by decide +kernel
theorem dX10_sure_52 : decode cX10_sure 52 = .ok (.if_icmp .gt 60, 3) := by decide +kernel
theorem dX10_sure_55 : decode cX10_sure 55 = .ok (.aload_n 0, 1) := by decide +kernel
theorem dX10_sure_56 : decode cX10_sure 56 = .ok (.getfield 42, 3) := by decide +kernel
theorem dX10_sure_59 : decode cX10_sure 59 = .ok (.iload_n 1, 1) := by decide +kernel
theorem dX10_sure_60 : decode cX10_sure 60 = .ok (.iload_n 2, 1) := by decide +kernel
theorem dX10_sure_61 : decode cX10_sure 61 = .ok (.iload_n 3, 1) := by decide +kernel
theorem dX10_sure_62 : decode cX10_sure 62 = .ok (.iadd, 1) := by decide +kernel
theorem dX10_sure_63 : decode cX10_sure 63 = .ok (.iconst 1, 1) := by decide +kernel
theorem dX10_sure_64 : decode cX10_sure 64 = .ok (.isub, 1) := by decide +kernel
theorem dX10_sure_65 : decode cX10_sure 65 = .ok (.invokevirtual 220, 3) := by decide +kernel
theorem dX10_sure_68 : decode cX10_sure 68 = .ok (.istore 4, 2) := by decide +kernel
theorem dX10_sure_70 : decode cX10_sure 70 = .ok (.aload_n 0, 1) := by decide +kernel
theorem dX10_sure_71 : decode cX10_sure 71 = .ok (.getfield 72, 3) := by decide +kernel
theorem dX10_sure_74 : decode cX10_sure 74 = .ok (.aload_n 0, 1) := by decide +kernel
theorem dX10_sure_75 : decode cX10_sure 75 = .ok (.getfield 42, 3) := by decide +kernel
theorem dX10_sure_78 : decode cX10_sure 78 = .ok (.iload_n 1, 1) := by decide +kernel
theorem dX10_sure_79 : decode cX10_sure 79 = .ok (.iload_n 2, 1) := by decide +kernel
theorem dX10_sure_80 : decode cX10_sure 80 = .ok (.iload_n 3, 1) := by decide +kernel
theorem dX10_sure_81 : decode cX10_sure 81 = .ok (.iadd, 1) := by decide +kernel
theorem dX10_sure_82 : decode cX10_sure 82 = .ok (.iconst 2, 1) := by decide +kernel
theorem dX10_sure_83 : decode cX10_sure 83 = .ok (.isub, 1) := by decide +kernel
theorem dX10_sure_84 : decode cX10_sure 84 = .ok (.invokevirtual 220, 3) := by decide +kernel
theorem dX10_sure_87 : decode cX10_sure 87 = .ok (.iload 4, 2) := by decide +kernel
theorem dX10_sure_89 : decode cX10_sure 89 = .ok (.invokevirtual 318, 3) := by decide +kernel
theorem dX10_sure_92 : decode cX10_sure 92 = .ok (.aload_n 0, 1) := by decide +kernel
theorem dX10_sure_93 : decode cX10_sure 93 = .ok (.getfield 72, 3) := by decide +kernel
theorem dX10_sure_96 : decode cX10_sure 96 = .ok (.iload 4, 2) := by decide +kernel
theorem dX10_sure_98 : decode cX10_sure 98 = .ok (.invokevirtual 321, 3) := by decide +kernel
theorem dX10_sure_101 : decode cX10_sure 101 = .ok (.ifCond .eq 5, 3) := by decide +kernel
theorem dX10_sure_104 : decode cX10_sure 104 = .ok (.iload_n 3, 1) := by decide +kernel
theorem dX10_sure_105 : decode cX10_sure 105 = .ok (.ireturn, 1) := by decide +kernel
theorem dX10_sure_106 : decode cX10_sure 106 = .ok (.iinc 3 1, 3) := by decide +kernel
theorem dX10_sure_109 : decode cX10_sure 109 = .ok (.goto (-69), 3) := by decide +kernel
theorem dX10_sure_112 : decode cX10_sure 112 = .ok (.iconst (-1), 1) := by decide +kernel
theorem dX10_sure_113 : decode cX10_sure 113 = .ok (.ireturn, 1) := by decide +kernel
theorem dX10_right_0 : decode cX10_right 0 = .ok (.aload_n 0, 1) := by decide +kernel
theorem dX10_right_1 : decode cX10_right 1 = .ok (.iload_n 1, 1) := by decide +kernel
theorem dX10_right_2 : decode cX10_right 2 = .ok (.iload_n 2, 1) := by decide +kernel
theorem dX10_right_3 : decode cX10_right 3 = .ok (.iload_n 3, 1) := by decide +kernel
theorem dX10_right_4 : decode cX10_right 4 = .ok (.invokevirtual 308, 3) := by decide +kernel
theorem dX10_right_7 : decode cX10_right 7 = .ok (.ifCond .eq 12, 3) := by decide +kernel
theorem dX10_right_10 : decode cX10_right 10 = .ok (.iload_n 2, 1) := by decide +kernel
theorem dX10_right_11 : decode cX10_right 11 = .ok (.iload_n 3, 1) := by decide +kernel
theorem dX10_right_12 : decode cX10_right 12 = .ok (.iadd, 1) := by decide +kernel
theorem dX10_right_13 : decode cX10_right 13 = .ok (.invokestatic 211, 3) := by decide +kernel
theorem dX10_right_16 : decode cX10_right 16 = .ok (.ifCond .ne 5, 3) := by decide +kernel
theorem dX10_right_19 : decode cX10_right 19 = .ok (.iconst (-1), 1) := by decide +kernel
theorem dX10_right_20 : decode cX10_right 20 = .ok (.ireturn, 1) := by decide +kernel
theorem dX10_right_21 : decode cX10_right 21 = .ok (.aload_n 0, 1) := by decide +kernel
theorem dX10_right_22 : decode cX10_right 22 = .ok (.getfield 72, 3) := by decide +kernel
theorem dX10_right_25 : decode cX10_right 25 = .ok (.iconst 0, 1) := by decide +kernel
theorem dX10_right_26 : decode cX10_right 26 = .ok (.invokevirtual 324, 3) := by decide +kernel
theorem dX10_right_29 : decode cX10_right 29 = .ok (.istore 4, 2) := by decide +kernel
theorem dX10_right_31 : decode cX10_right 31 = .ok (.iload 4, 2) := by decide +kernel
theorem dX10_right_33 : decode cX10_right 33 = .ok (.iconst (-1), 1) := by decide +kernel
theorem dX10_right_34 : decode cX10_right 34 = .ok (.if_icmp .ne 5, 3) := by decide +kernel
theorem dX10_right_37 : decode cX10_right 37 = .ok (.iconst (-1), 1) := by decide +kernel
theorem dX10_right_38 : decode cX10_right 38 = .ok (.ireturn, 1) := by decide +kernel
theorem dX10_right_39 : decode cX10_right 39 = .ok (.aload_n 0, 1) := by decide +kernel
theorem dX10_right_40 : decode cX10_right 40 = .ok (.getfield 72, 3) := by decide +kernel
theorem dX10_right_43 : decode cX10_right 43 = .ok (.iload 4, 2) := by decide +kernel
theorem dX10_right_45 : decode cX10_right 45 = .ok (.aload_n 0, 1) := by decide +kernel
theorem dX10_right_46 : decode cX10_right 46 = .ok (.getfield 42, 3) := by decide +kernel
theorem dX10_right_49 : decode cX10_right 49 = .ok (.iload_n 1, 1) := by decide +kernel
theorem dX10_right_50 : decode cX10_right 50 = .ok (.iload_n 2, 1) := by decide +kernel
theorem dX10_right_51 : decode cX10_right 51 = .ok (.iload_n 3, 1) := by decide +kernel
theorem dX10_right_52 : decode cX10_right 52 = .ok (.iadd, 1) := by decide +kernel
theorem dX10_right_53 : decode cX10_right 53 = .ok (.iconst 1, 1) := by decide +kernel
theorem dX10_right_54 : decode cX10_right 54 = .ok (.isub, 1) := by decide +kernel
theorem dX10_right_55 : decode cX10_right 55 = .ok (.invokevirtual 220, 3) := by decide +kernel
theorem dX10_right_58 : decode cX10_right 58 = .ok (.invokevirtual 327, 3) := by decide +kernel
theorem dX10_right_61 : decode cX10_right 61 = .ok (.aload_n 0, 1) := by decide +kernel
theorem dX10_right_62 : decode cX10_right 62 = .ok (.getfield 42, 3) := by decide +kernel
theorem dX10_right_65 : decode cX10_right 65 = .ok (.iload_n 1, 1) := by decide +kernel
theorem dX10_right_66 : decode cX10_right 66 = .ok (.iload_n 2, 1) := by decide +kernel
theorem dX10_right_67 : decode cX10_right 67 = .ok (.iload_n 3, 1) := by decide +kernel
theorem dX10_right_68 : decode cX10_right 68 = .ok (.iadd, 1) := by decide +kernel
theorem dX10_right_69 : decode cX10_right 69 = .ok (.invokevirtual 220, 3) := by decide +kernel
theorem dX10_right_72 : decode cX10_right 72 = .ok (.if_icmp .ne 7, 3) := by decide +kernel
theorem dX10_right_75 : decode cX10_right 75 = .ok (.iconst 1, 1) := by decide +kernel
theorem dX10_right_76 : decode cX10_right 76 = .ok (.goto 4, 3) := by decide +kernel
theorem dX10_right_79 : decode cX10_right 79 = .ok (.iconst 0, 1) := by decide +kernel
theorem dX10_right_80 : decode cX10_right 80 = .ok (.ireturn, 1) := by decide +kernel
theorem dX10_same_0 : decode cX10_same 0 = .ok (.aload_n 0, 1) := by decide +kernel
theorem dX10_same_1 : decode cX10_same 1 = .ok (.iload_n 1, 1) := by decide +kernel
theorem dX10_same_2 : decode cX10_same 2 = .ok (.invokevirtual 159, 3) := by decide +kernel
theorem dX10_same_5 : decode cX10_same 5 = .ok (.ifCond .eq 25, 3) := by decide +kernel
theorem dX10_same_8 : decode cX10_same 8 = .ok (.aload_n 0, 1) := by decide +kernel
theorem dX10_same_9 : decode cX10_same 9 = .ok (.iload_n 2, 1) := by decide +kernel
theorem dX10_same_10 : decode cX10_same 10 = .ok (.invokevirtual 159, 3) := by decide +kernel
theorem dX10_same_13 : decode cX10_same 13 = .ok (.ifCond .eq 17, 3) := by decide +kernel
theorem dX10_same_16 : decode cX10_same 16 = .ok (.iload_n 1, 1) := by decide +kernel
theorem dX10_same_17 : decode cX10_same 17 = .ok (.iload_n 2, 1) := by decide +kernel
theorem dX10_same_18 : decode cX10_same 18 = .ok (.if_icmp .eq 12, 3) := by decide +kernel
theorem dX10_same_21 : decode cX10_same 21 = .ok (.iload_n 3, 1) := by decide +kernel
theorem dX10_same_22 : decode cX10_same 22 = .ok (.ifCond .lt 8, 3) := by decide +kernel
theorem dX10_same_25 : decode cX10_same 25 = .ok (.iload_n 3, 1) := by decide +kernel
theorem dX10_same_26 : decode cX10_same 26 = .ok (.iconst 1, 1) := by decide +kernel
theorem dX10_same_27 : decode cX10_same 27 = .ok (.if_icmp .le 5, 3) := by decide +kernel
theorem dX10_same_30 : decode cX10_same 30 = .ok (.iconst (-1), 1) := by decide +kernel
theorem dX10_same_31 : decode cX10_same 31 = .ok (.ireturn, 1) := by decide +kernel
theorem dX10_same_32 : decode cX10_same 32 = .ok (.aload_n 0, 1) := by decide +kernel
theorem dX10_same_33 : decode cX10_same 33 = .ok (.getfield 65, 3) := by decide +kernel
theorem dX10_same_36 : decode cX10_same 36 = .ok (.iload_n 2, 1) := by decide +kernel
theorem dX10_same_37 : decode cX10_same 37 = .ok (.sipush 999, 3) := by decide +kernel
theorem dX10_same_40 : decode cX10_same 40 = .ok (.invokevirtual 330, 3) := by decide +kernel
theorem dX10_same_43 : decode cX10_same 43 = .ok (.iconst 0, 1) := by decide +kernel
theorem dX10_same_44 : decode cX10_same 44 = .ok (.istore 4, 2) := by decide +kernel
theorem dX10_same_46 : decode cX10_same 46 = .ok (.iload 4, 2) := by decide +kernel
theorem dX10_same_48 : decode cX10_same 48 = .ok (.sipush 999, 3) := by decide +kernel
theorem dX10_same_51 : decode cX10_same 51 = .ok (.if_icmp .ge 46, 3) := by decide +kernel
theorem dX10_same_54 : decode cX10_same 54 = .ok (.aload_n 0, 1) := by decide +kernel
theorem dX10_same_55 : decode cX10_same 55 = .ok (.getfield 65, 3) := by decide +kernel
theorem dX10_same_58 : decode cX10_same 58 = .ok (.aload_n 0, 1) := by decide +kernel
theorem dX10_same_59 : decode cX10_same 59 = .ok (.getfield 42, 3) := by decide +kernel
theorem dX10_same_62 : decode cX10_same 62 = .ok (.iload_n 1, 1) := by decide +kernel
theorem dX10_same_63 : decode cX10_same 63 = .ok (.iload 4, 2) := by decide +kernel
theorem dX10_same_65 : decode cX10_same 65 = .ok (.invokevirtual 214, 3) := by decide +kernel
theorem dX10_same_68 : decode cX10_same 68 = .ok (.invokevirtual 333, 3) := by decide +kernel
theorem dX10_same_71 : decode cX10_same 71 = .ok (.istore 5, 2) := by decide +kernel
theorem dX10_same_73 : decode cX10_same 73 = .ok (.iload 5, 2) := by decide +kernel
theorem dX10_same_75 : decode cX10_same 75 = .ok (.iconst (-1), 1) := by decide +kernel
theorem dX10_same_76 : decode cX10_same 76 = .ok (.if_icmp .eq 15, 3) := by decide +kernel
theorem dX10_same_79 : decode cX10_same 79 = .ok (.iload_n 3, 1) := by decide +kernel
theorem dX10_same_80 : decode cX10_same 80 = .ok (.ifCond .ne 8, 3) := by decide +kernel
theorem dX10_same_83 : decode cX10_same 83 = .ok (.iload 4, 2) := by decide +kernel
theorem dX10_same_85 : decode cX10_same 85 = .ok (.goto 5, 3) := by decide +kernel
theorem dX10_same_88 : decode cX10_same 88 = .ok (.iload 5, 2) := by decide +kernel
theorem dX10_same_90 : decode cX10_same 90 = .ok (.ireturn, 1) := by decide +kernel
theorem dX10_same_91 : decode cX10_same 91 = .ok (.iinc 4 1, 3) := by decide +kernel
theorem dX10_same_94 : decode cX10_same 94 = .ok (.goto (-48), 3) := by decide +kernel
theorem dX10_same_97 : decode cX10_same 97 = .ok (.iconst (-1), 1) := by decide +kernel
theorem dX10_same_98 : decode cX10_same 98 = .ok (.ireturn, 1) := by decide +kernel
theorem dX10_tells_0 : decode cX10_tells 0 = .ok (.aload_n 0, 1) := by decide +kernel
theorem dX10_tells_1 : decode cX10_tells 1 = .ok (.iload_n 1, 1) := by decide +kernel
theorem dX10_tells_2 : decode cX10_tells 2 = .ok (.invokevirtual 159, 3) := by decide +kernel
theorem dX10_tells_5 : decode cX10_tells 5 = .ok (.ifCond .eq 23, 3) := by decide +kernel
theorem dX10_tells_8 : decode cX10_tells 8 = .ok (.aload_n 0, 1) := by decide +kernel
theorem dX10_tells_9 : decode cX10_tells 9 = .ok (.iload_n 2, 1) := by decide +kernel
theorem dX10_tells_10 : decode cX10_tells 10 = .ok (.invokevirtual 159, 3) := by decide +kernel
theorem dX10_tells_13 : decode cX10_tells 13 = .ok (.ifCond .eq 15, 3) := by decide +kernel
theorem dX10_tells_16 : decode cX10_tells 16 = .ok (.iload_n 1, 1) := by decide +kernel
theorem dX10_tells_17 : decode cX10_tells 17 = .ok (.iload_n 2, 1) := by decide +kernel
theorem dX10_tells_18 : decode cX10_tells 18 = .ok (.if_icmp .eq 10, 3) := by decide +kernel
theorem dX10_tells_21 : decode cX10_tells 21 = .ok (.iload_n 3, 1) := by decide +kernel
theorem dX10_tells_22 : decode cX10_tells 22 = .ok (.invokestatic 211, 3) := by decide +kernel
theorem dX10_tells_25 : decode cX10_tells 25 = .ok (.ifCond .ne 5, 3) := by decide +kernel
theorem dX10_tells_28 : decode cX10_tells 28 = .ok (.iconst (-1), 1) := by decide +kernel
theorem dX10_tells_29 : decode cX10_tells 29 = .ok (.ireturn, 1) := by decide +kernel
theorem dX10_tells_30 : decode cX10_tells 30 = .ok (.iload_n 3, 1) := by decide +kernel
theorem dX10_tells_31 : decode cX10_tells 31 = .ok (.istore 4, 2) := by decide +kernel
theorem dX10_tells_33 : decode cX10_tells 33 = .ok (.iload 4, 2) := by decide +kernel
theorem dX10_tells_35 : decode cX10_tells 35 = .ok (.sipush 1000, 3) := by decide +kernel
theorem dX10_tells_38 : decode cX10_tells 38 = .ok (.if_icmp .ge 39, 3) := by decide +kernel
theorem dX10_tells_41 : decode cX10_tells 41 = .ok (.aload_n 0, 1) := by decide +kernel
theorem dX10_tells_42 : decode cX10_tells 42 = .ok (.getfield 42, 3) := by decide +kernel
theorem dX10_tells_45 : decode cX10_tells 45 = .ok (.iload_n 1, 1) := by decide +kernel
theorem dX10_tells_46 : decode cX10_tells 46 = .ok (.iload 4, 2) := by decide +kernel
theorem dX10_tells_48 : decode cX10_tells 48 = .ok (.invokevirtual 220, 3) := by decide +kernel
theorem dX10_tells_51 : decode cX10_tells 51 = .ok (.aload_n 0, 1) := by decide +kernel
theorem dX10_tells_52 : decode cX10_tells 52 = .ok (.getfield 42, 3) := by decide +kernel
theorem dX10_tells_55 : decode cX10_tells 55 = .ok (.iload_n 2, 1) := by decide +kernel
theorem dX10_tells_56 : decode cX10_tells 56 = .ok (.iload 4, 2) := by decide +kernel
theorem dX10_tells_58 : decode cX10_tells 58 = .ok (.invokevirtual 220, 3) := by decide +kernel
theorem dX10_tells_61 : decode cX10_tells 61 = .ok (.if_icmp .eq 10, 3) := by decide +kernel
theorem dX10_tells_64 : decode cX10_tells 64 = .ok (.iload 4, 2) := by decide +kernel
theorem dX10_tells_66 : decode cX10_tells 66 = .ok (.iload_n 3, 1) := by decide +kernel
theorem dX10_tells_67 : decode cX10_tells 67 = .ok (.isub, 1) := by decide +kernel
theorem dX10_tells_68 : decode cX10_tells 68 = .ok (.iconst 1, 1) := by decide +kernel
theorem dX10_tells_69 : decode cX10_tells 69 = .ok (.iadd, 1) := by decide +kernel
theorem dX10_tells_70 : decode cX10_tells 70 = .ok (.ireturn, 1) := by decide +kernel
theorem dX10_tells_71 : decode cX10_tells 71 = .ok (.iinc 4 1, 3) := by decide +kernel
theorem dX10_tells_74 : decode cX10_tells 74 = .ok (.goto (-41), 3) := by decide +kernel
theorem dX10_tells_77 : decode cX10_tells 77 = .ok (.iconst (-1), 1) := by decide +kernel
theorem dX10_tells_78 : decode cX10_tells 78 = .ok (.ireturn, 1) := by decide +kernel
theorem dX10_bird_0 : decode cX10_bird 0 = .ok (.aload_n 0, 1) := by decide +kernel
theorem dX10_bird_1 : decode cX10_bird 1 = .ok (.iload_n 2, 1) := by decide +kernel
theorem dX10_bird_2 : decode cX10_bird 2 = .ok (.invokevirtual 159, 3) := by decide +kernel
theorem dX10_bird_5 : decode cX10_bird 5 = .ok (.ifCond .eq 31, 3) := by decide +kernel
theorem dX10_bird_8 : decode cX10_bird 8 = .ok (.iload_n 3, 1) := by decide +kernel
theorem dX10_bird_9 : decode cX10_bird 9 = .ok (.invokestatic 211, 3) := by decide +kernel
theorem dX10_bird_12 : decode cX10_bird 12 = .ok (.ifCond .eq 24, 3) := by decide +kernel
theorem dX10_bird_15 : decode cX10_bird 15 = .ok (.iload 4, 2) := by decide +kernel
theorem dX10_bird_17 : decode cX10_bird 17 = .ok (.iconst 1, 1) := by decide +kernel
theorem dX10_bird_18 : decode cX10_bird 18 = .ok (.if_icmp .lt 18, 3) := by decide +kernel
theorem dX10_bird_21 : decode cX10_bird 21 = .ok (.iload 4, 2) := by decide +kernel
theorem dX10_bird_23 : decode cX10_bird 23 = .ok (.bipush 100, 2) := by decide +kernel
theorem dX10_bird_25 : decode cX10_bird 25 = .ok (.if_icmp .gt 11, 3) := by decide +kernel
theorem dX10_bird_28 : decode cX10_bird 28 = .ok (.aload_n 0, 1) := by decide +kernel
theorem dX10_bird_29 : decode cX10_bird 29 = .ok (.iload_n 1, 1) := by decide +kernel
theorem dX10_bird_30 : decode cX10_bird 30 = .ok (.invokevirtual 267, 3) := by decide +kernel
theorem dX10_bird_33 : decode cX10_bird 33 = .ok (.ifCond .ne 5, 3) := by decide +kernel
theorem dX10_bird_36 : decode cX10_bird 36 = .ok (.iconst (-1), 1) := by decide +kernel
theorem dX10_bird_37 : decode cX10_bird 37 = .ok (.ireturn, 1) := by decide +kernel
theorem dX10_bird_38 : decode cX10_bird 38 = .ok (.iconst 0, 1) := by decide +kernel
theorem dX10_bird_39 : decode cX10_bird 39 = .ok (.istore 5, 2) := by decide +kernel
theorem dX10_bird_41 : decode cX10_bird 41 = .ok (.iconst 0, 1) := by decide +kernel
theorem dX10_bird_42 : decode cX10_bird 42 = .ok (.istore 6, 2) := by decide +kernel
theorem dX10_bird_44 : decode cX10_bird 44 = .ok (.iload 6, 2) := by decide +kernel
theorem dX10_bird_46 : decode cX10_bird 46 = .ok (.iload 4, 2) := by decide +kernel
theorem dX10_bird_48 : decode cX10_bird 48 = .ok (.if_icmp .ge 21, 3) := by decide +kernel
theorem dX10_bird_51 : decode cX10_bird 51 = .ok (.aload_n 0, 1) := by decide +kernel
theorem dX10_bird_52 : decode cX10_bird 52 = .ok (.iload_n 2, 1) := by decide +kernel
theorem dX10_bird_53 : decode cX10_bird 53 = .ok (.iload_n 3, 1) := by decide +kernel
theorem dX10_bird_54 : decode cX10_bird 54 = .ok (.invokevirtual 270, 3) := by decide +kernel
theorem dX10_bird_57 : decode cX10_bird 57 = .ok (.ifCond .eq 6, 3) := by decide +kernel
theorem dX10_bird_60 : decode cX10_bird 60 = .ok (.iinc 5 1, 3) := by decide +kernel
theorem dX10_bird_63 : decode cX10_bird 63 = .ok (.iinc 6 1, 3) := by decide +kernel
theorem dX10_bird_66 : decode cX10_bird 66 = .ok (.goto (-22), 3) := by decide +kernel
theorem dX10_bird_69 : decode cX10_bird 69 = .ok (.iload 5, 2) := by decide +kernel
theorem dX10_bird_71 : decode cX10_bird 71 = .ok (.ireturn, 1) := by decide +kernel
theorem dX10_nights_0 : decode cX10_nights 0 = .ok (.iload_n 1, 1) := by decide +kernel
theorem dX10_nights_1 : decode cX10_nights 1 = .ok (.iconst 1, 1) := by decide +kernel
theorem dX10_nights_2 : decode cX10_nights 2 = .ok (.if_icmp .lt 19, 3) := by decide +kernel
theorem dX10_nights_5 : decode cX10_nights 5 = .ok (.iload_n 1, 1) := by decide +kernel
theorem dX10_nights_6 : decode cX10_nights 6 = .ok (.bipush 60, 2) := by decide +kernel
theorem dX10_nights_8 : decode cX10_nights 8 = .ok (.if_icmp .gt 13, 3) := by decide +kernel
theorem dX10_nights_11 : decode cX10_nights 11 = .ok (.aload_n 0, 1) := by decide +kernel
theorem dX10_nights_12 : decode cX10_nights 12 = .ok (.getfield 16, 3) := by decide +kernel
theorem dX10_nights_15 : decode cX10_nights 15 = .ok (.getfield 128, 3) := by decide +kernel
theorem dX10_nights_18 : decode cX10_nights 18 = .ok (.ifCond .ne 15, 3) := by decide +kernel
theorem dX10_nights_21 : decode cX10_nights 21 = .ok (.aload_n 0, 1) := by decide +kernel
theorem dX10_nights_22 : decode cX10_nights 22 = .ok (.getfield 79, 3) := by decide +kernel
theorem dX10_nights_25 : decode cX10_nights 25 = .ok (.iconst 3, 1) := by decide +kernel
theorem dX10_nights_26 : decode cX10_nights 26 = .ok (.dup2, 1) := by decide +kernel
theorem dX10_nights_27 : decode cX10_nights 27 = .ok (.iaload, 1) := by decide +kernel
theorem dX10_nights_28 : decode cX10_nights 28 = .ok (.iconst 1, 1) := by decide +kernel
theorem dX10_nights_29 : decode cX10_nights 29 = .ok (.iadd, 1) := by decide +kernel
theorem dX10_nights_30 : decode cX10_nights 30 = .ok (.iastore, 1) := by decide +kernel
theorem dX10_nights_31 : decode cX10_nights 31 = .ok (.iconst (-1), 1) := by decide +kernel
theorem dX10_nights_32 : decode cX10_nights 32 = .ok (.ireturn, 1) := by decide +kernel
theorem dX10_nights_33 : decode cX10_nights 33 = .ok (.iconst 0, 1) := by decide +kernel
theorem dX10_nights_34 : decode cX10_nights 34 = .ok (.istore_n 2, 1) := by decide +kernel
theorem dX10_nights_35 : decode cX10_nights 35 = .ok (.iconst 0, 1) := by decide +kernel
theorem dX10_nights_36 : decode cX10_nights 36 = .ok (.istore_n 3, 1) := by decide +kernel
theorem dX10_nights_37 : decode cX10_nights 37 = .ok (.iload_n 3, 1) := by decide +kernel
theorem dX10_nights_38 : decode cX10_nights 38 = .ok (.iload_n 1, 1) := by decide +kernel
theorem dX10_nights_39 : decode cX10_nights 39 = .ok (.if_icmp .ge 19, 3) := by decide +kernel
theorem dX10_nights_42 : decode cX10_nights 42 = .ok (.aload_n 0, 1) := by decide +kernel
theorem dX10_nights_43 : decode cX10_nights 43 = .ok (.invokevirtual 336, 3) := by decide +kernel
theorem dX10_nights_46 : decode cX10_nights 46 = .ok (.ifCond .eq 6, 3) := by decide +kernel
theorem dX10_nights_49 : decode cX10_nights 49 = .ok (.iinc 2 1, 3) := by decide +kernel
theorem dX10_nights_52 : decode cX10_nights 52 = .ok (.iinc 3 1, 3) := by decide +kernel
theorem dX10_nights_55 : decode cX10_nights 55 = .ok (.goto (-18), 3) := by decide +kernel
theorem dX10_nights_58 : decode cX10_nights 58 = .ok (.iload_n 2, 1) := by decide +kernel
theorem dX10_nights_59 : decode cX10_nights 59 = .ok (.ireturn, 1) := by decide +kernel
theorem dX10_night_0 : decode cX10_night 0 = .ok (.aload_n 0, 1) := by decide +kernel
theorem dX10_night_1 : decode cX10_night 1 = .ok (.aload_n 0, 1) := by decide +kernel
theorem dX10_night_2 : decode cX10_night 2 = .ok (.aload_n 0, 1) := by decide +kernel
theorem dX10_night_3 : decode cX10_night 3 = .ok (.getfield 16, 3) := by decide +kernel
theorem dX10_night_6 : decode cX10_night 6 = .ok (.getfield 128, 3) := by decide +kernel
theorem dX10_night_9 : decode cX10_night 9 = .ok (.invokevirtual 340, 3) := by decide +kernel
theorem dX10_night_12 : decode cX10_night 12 = .ok (.invokevirtual 155, 3) := by decide +kernel
theorem dX10_night_15 : decode cX10_night 15 = .ok (.astore_n 1, 1) := by decide +kernel
theorem dX10_night_16 : decode cX10_night 16 = .ok (.aload_n 1, 1) := by decide +kernel
theorem dX10_night_17 : decode cX10_night 17 = .ok (.ifnonnull 5, 3) := by decide +kernel
theorem dX10_night_20 : decode cX10_night 20 = .ok (.iconst 0, 1) := by decide +kernel
theorem dX10_night_21 : decode cX10_night 21 = .ok (.ireturn, 1) := by decide +kernel
theorem dX10_night_22 : decode cX10_night 22 = .ok (.aload_n 0, 1) := by decide +kernel
theorem dX10_night_23 : decode cX10_night 23 = .ok (.bipush 100, 2) := by decide +kernel
theorem dX10_night_25 : decode cX10_night 25 = .ok (.invokevirtual 340, 3) := by decide +kernel
theorem dX10_night_28 : decode cX10_night 28 = .ok (.aload_n 1, 1) := by decide +kernel
theorem dX10_night_29 : decode cX10_night 29 = .ok (.getfield 199, 3) := by decide +kernel
theorem dX10_night_32 : decode cX10_night 32 = .ok (.if_icmp .ge 7, 3) := by decide +kernel
theorem dX10_night_35 : decode cX10_night 35 = .ok (.iconst 1, 1) := by decide +kernel
theorem dX10_night_36 : decode cX10_night 36 = .ok (.goto 4, 3) := by decide +kernel
theorem dX10_night_39 : decode cX10_night 39 = .ok (.iconst 0, 1) := by decide +kernel
theorem dX10_night_40 : decode cX10_night 40 = .ok (.istore_n 2, 1) := by decide +kernel
theorem dX10_night_41 : decode cX10_night 41 = .ok (.aload_n 0, 1) := by decide +kernel
theorem dX10_night_42 : decode cX10_night 42 = .ok (.bipush 100, 2) := by decide +kernel
theorem dX10_night_44 : decode cX10_night 44 = .ok (.invokevirtual 340, 3) := by decide +kernel
theorem dX10_night_47 : decode cX10_night 47 = .ok (.aload_n 1, 1) := by decide +kernel
theorem dX10_night_48 : decode cX10_night 48 = .ok (.getfield 202, 3) := by decide +kernel
theorem dX10_night_51 : decode cX10_night 51 = .ok (.if_icmp .ge 7, 3) := by decide +kernel
theorem dX10_night_54 : decode cX10_night 54 = .ok (.iconst 1, 1) := by decide +kernel
theorem dX10_night_55 : decode cX10_night 55 = .ok (.goto 4, 3) := by decide +kernel
theorem dX10_night_58 : decode cX10_night 58 = .ok (.iconst 0, 1) := by decide +kernel
theorem dX10_night_59 : decode cX10_night 59 = .ok (.istore_n 3, 1) := by decide +kernel
theorem dX10_night_60 : decode cX10_night 60 = .ok (.iload_n 3, 1) := by decide +kernel
theorem dX10_night_61 : decode cX10_night 61 = .ok (.ifCond .eq 17, 3) := by decide +kernel
theorem dX10_night_64 : decode cX10_night 64 = .ok (.aload_n 0, 1) := by decide +kernel
theorem dX10_night_65 : decode cX10_night 65 = .ok (.aload_n 0, 1) := by decide +kernel
theorem dX10_night_66 : decode cX10_night 66 = .ok (.getfield 16, 3) := by decide +kernel
theorem dX10_night_69 : decode cX10_night 69 = .ok (.getfield 119, 3) := by decide +kernel
theorem dX10_night_72 : decode cX10_night 72 = .ok (.invokevirtual 340, 3) := by decide +kernel
theorem dX10_night_75 : decode cX10_night 75 = .ok (.goto 4, 3) := by decide +kernel
theorem dX10_night_78 : decode cX10_night 78 = .ok (.iconst 0, 1) := by decide +kernel
theorem dX10_night_79 : decode cX10_night 79 = .ok (.istore 4, 2) := by decide +kernel
theorem dX10_night_81 : decode cX10_night 81 = .ok (.iload_n 3, 1) := by decide +kernel
theorem dX10_night_82 : decode cX10_night 82 = .ok (.ifCond .eq 21, 3) := by decide +kernel
theorem dX10_night_85 : decode cX10_night 85 = .ok (.aload_n 0, 1) := by decide +kernel
theorem dX10_night_86 : decode cX10_night 86 = .ok (.aload_n 0, 1) := by decide +kernel
theorem dX10_night_87 : decode cX10_night 87 = .ok (.getfield 16, 3) := by decide +kernel
theorem dX10_night_90 : decode cX10_night 90 = .ok (.getfield 116, 3) := by decide +kernel
theorem dX10_night_93 : decode cX10_night 93 = .ok (.iconst 1, 1) := by decide +kernel
theorem dX10_night_94 : decode cX10_night 94 = .ok (.isub, 1) := by decide +kernel
theorem dX10_night_95 : decode cX10_night 95 = .ok (.invokevirtual 340, 3) := by decide +kernel
theorem dX10_night_98 : decode cX10_night 98 = .ok (.iconst 1, 1) := by decide +kernel
theorem dX10_night_99 : decode cX10_night 99 = .ok (.iadd, 1) := by decide +kernel
theorem dX10_night_100 : decode cX10_night 100 = .ok (.goto 4, 3) := by decide +kernel
theorem dX10_night_103 : decode cX10_night 103 = .ok (.iconst 0, 1) := by decide +kernel
theorem dX10_night_104 : decode cX10_night 104 = .ok (.istore 5, 2) := by decide +kernel
theorem dX10_night_106 : decode cX10_night 106 = .ok (.iload_n 2, 1) := by decide +kernel
theorem dX10_night_107 : decode cX10_night 107 = .ok (.ifCond .eq 23, 3) := by decide +kernel
theorem dX10_night_110 : decode cX10_night 110 = .ok (.aload_n 1, 1) := by decide +kernel
theorem dX10_night_111 : decode cX10_night 111 = .ok (.getfield 196, 3) := by decide +kernel
theorem dX10_night_114 : decode cX10_night 114 = .ok (.sipush 1000, 3) := by decide +kernel
theorem dX10_night_117 : decode cX10_night 117 = .ok (.if_icmp .ge 13, 3) := by decide +kernel
theorem dX10_night_120 : decode cX10_night 120 = .ok (.aload_n 1, 1) := by decide +kernel
theorem dX10_night_121 : decode cX10_night 121 = .ok (.dup, 1) := by decide +kernel
theorem dX10_night_122 : decode cX10_night 122 = .ok (.getfield 196, 3) := by decide +kernel
theorem dX10_night_125 : decode cX10_night 125 = .ok (.iconst 1, 1) := by decide +kernel
theorem dX10_night_126 : decode cX10_night 126 = .ok (.iadd, 1) := by decide +kernel
theorem dX10_night_127 : decode cX10_night 127 = .ok (.putfield 196, 3) := by decide +kernel
theorem dX10_night_130 : decode cX10_night 130 = .ok (.aload_n 1, 1) := by decide +kernel
theorem dX10_night_131 : decode cX10_night 131 = .ok (.getfield 196, 3) := by decide +kernel
theorem dX10_night_134 : decode cX10_night 134 = .ok (.sipush 1000, 3) := by decide +kernel
theorem dX10_night_137 : decode cX10_night 137 = .ok (.if_icmp .lt 5, 3) := by decide +kernel
theorem dX10_night_140 : decode cX10_night 140 = .ok (.iconst 0, 1) := by decide +kernel
theorem dX10_night_141 : decode cX10_night 141 = .ok (.ireturn, 1) := by decide +kernel
theorem dX10_night_142 : decode cX10_night 142 = .ok (.aload_n 0, 1) := by decide +kernel
theorem dX10_night_143 : decode cX10_night 143 = .ok (.getfield 42, 3) := by decide +kernel
theorem dX10_night_146 : decode cX10_night 146 = .ok (.aload_n 1, 1) := by decide +kernel
theorem dX10_night_147 : decode cX10_night 147 = .ok (.getfield 193, 3) := by decide +kernel
theorem dX10_night_150 : decode cX10_night 150 = .ok (.aload_n 1, 1) := by decide +kernel
theorem dX10_night_151 : decode cX10_night 151 = .ok (.getfield 196, 3) := by decide +kernel
theorem dX10_night_154 : decode cX10_night 154 = .ok (.invokevirtual 220, 3) := by decide +kernel
theorem dX10_night_157 : decode cX10_night 157 = .ok (.istore 6, 2) := by decide +kernel
theorem dX10_night_159 : decode cX10_night 159 = .ok (.iload 6, 2) := by decide +kernel
theorem dX10_night_161 : decode cX10_night 161 = .ok (.iload 4, 2) := by decide +kernel
theorem dX10_night_163 : decode cX10_night 163 = .ok (.invokestatic 223, 3) := by decide +kernel
theorem dX10_night_166 : decode cX10_night 166 = .ok (.iload 5, 2) := by decide +kernel
theorem dX10_night_168 : decode cX10_night 168 = .ok (.iadd, 1) := by decide +kernel
theorem dX10_night_169 : decode cX10_night 169 = .ok (.aload_n 0, 1) := by decide +kernel
theorem dX10_night_170 : decode cX10_night 170 = .ok (.getfield 16, 3) := by decide +kernel
theorem dX10_night_173 : decode cX10_night 173 = .ok (.getfield 116, 3) := by decide +kernel
theorem dX10_night_176 : decode cX10_night 176 = .ok (.invokestatic 343, 3) := by decide +kernel
theorem dX10_night_179 : decode cX10_night 179 = .ok (.istore 7, 2) := by decide +kernel
theorem dX10_night_181 : decode cX10_night 181 = .ok (.aload_n 0, 1) := by decide +kernel
theorem dX10_night_182 : decode cX10_night 182 = .ok (.aload_n 1, 1) := by decide +kernel
theorem dX10_night_183 : decode cX10_night 183 = .ok (.iload 6, 2) := by decide +kernel
theorem dX10_night_185 : decode cX10_night 185 = .ok (.iload 4, 2) := by decide +kernel
theorem dX10_night_187 : decode cX10_night 187 = .ok (.iload 7, 2) := by decide +kernel
theorem dX10_night_189 : decode cX10_night 189 = .ok (.invokestatic 247, 3) := by decide +kernel
theorem dX10_night_192 : decode cX10_night 192 = .ok (.invokevirtual 243, 3) := by decide +kernel
theorem dX10_night_195 : decode cX10_night 195 = .ok (.iconst (-1), 1) := by decide +kernel
theorem dX10_night_196 : decode cX10_night 196 = .ok (.if_icmp .eq 7, 3) := by decide +kernel
theorem dX10_night_199 : decode cX10_night 199 = .ok (.iconst 1, 1) := by decide +kernel
theorem dX10_night_200 : decode cX10_night 200 = .ok (.goto 4, 3) := by decide +kernel
theorem dX10_night_203 : decode cX10_night 203 = .ok (.iconst 0, 1) := by decide +kernel
theorem dX10_night_204 : decode cX10_night 204 = .ok (.ireturn, 1) := by decide +kernel
theorem dX10_draw_0 : decode cX10_draw 0 = .ok (.aload_n 0, 1) := by decide +kernel
theorem dX10_draw_1 : decode cX10_draw 1 = .ok (.ldc2_w 346, 3) := by decide +kernel
theorem dX10_draw_4 : decode cX10_draw 4 = .ok (.aload_n 0, 1) := by decide +kernel
theorem dX10_draw_5 : decode cX10_draw 5 = .ok (.getfield 82, 3) := by decide +kernel
theorem dX10_draw_8 : decode cX10_draw 8 = .ok (.lmul, 1) := by decide +kernel
theorem dX10_draw_9 : decode cX10_draw 9 = .ok (.ldc2_w 348, 3) := by decide +kernel
theorem dX10_draw_12 : decode cX10_draw 12 = .ok (.ladd, 1) := by decide +kernel
theorem dX10_draw_13 : decode cX10_draw 13 = .ok (.ldc2_w 350, 3) := by decide +kernel
theorem dX10_draw_16 : decode cX10_draw 16 = .ok (.land, 1) := by decide +kernel
theorem dX10_draw_17 : decode cX10_draw 17 = .ok (.putfield 82, 3) := by decide +kernel
theorem dX10_draw_20 : decode cX10_draw 20 = .ok (.iload_n 1, 1) := by decide +kernel
theorem dX10_draw_21 : decode cX10_draw 21 = .ok (.iconst 1, 1) := by decide +kernel
theorem dX10_draw_22 : decode cX10_draw 22 = .ok (.if_icmp .ge 7, 3) := by decide +kernel
theorem dX10_draw_25 : decode cX10_draw 25 = .ok (.iconst 0, 1) := by decide +kernel
theorem dX10_draw_26 : decode cX10_draw 26 = .ok (.goto 15, 3) := by decide +kernel
theorem dX10_draw_29 : decode cX10_draw 29 = .ok (.aload_n 0, 1) := by decide +kernel
theorem dX10_draw_30 : decode cX10_draw 30 = .ok (.getfield 82, 3) := by decide +kernel
theorem dX10_draw_33 : decode cX10_draw 33 = .ok (.ldc2_w 352, 3) := by decide +kernel
theorem dX10_draw_36 : decode cX10_draw 36 = .ok (.ldiv, 1) := by decide +kernel
theorem dX10_draw_37 : decode cX10_draw 37 = .ok (.iload_n 1, 1) := by decide +kernel
theorem dX10_draw_38 : decode cX10_draw 38 = .ok (.i2l, 1) := by decide +kernel
theorem dX10_draw_39 : decode cX10_draw 39 = .ok (.lrem, 1) := by decide +kernel
theorem dX10_draw_40 : decode cX10_draw 40 = .ok (.l2i, 1) := by decide +kernel
theorem dX10_draw_41 : decode cX10_draw 41 = .ok (.ireturn, 1) := by decide +kernel
theorem dX10_modulo_0 : decode cX10_modulo 0 = .ok (.iload_n 1, 1) := by decide +kernel
theorem dX10_modulo_1 : decode cX10_modulo 1 = .ok (.iconst 1, 1) := by decide +kernel
theorem dX10_modulo_2 : decode cX10_modulo 2 = .ok (.if_icmp .ge 7, 3) := by decide +kernel
theorem dX10_modulo_5 : decode cX10_modulo 5 = .ok (.iconst 0, 1) := by decide +kernel
theorem dX10_modulo_6 : decode cX10_modulo 6 = .ok (.goto 8, 3) := by decide +kernel
theorem dX10_modulo_9 : decode cX10_modulo 9 = .ok (.iload_n 0, 1) := by decide +kernel
theorem dX10_modulo_10 : decode cX10_modulo 10 = .ok (.iload_n 1, 1) := by decide +kernel
theorem dX10_modulo_11 : decode cX10_modulo 11 = .ok (.invokestatic 354, 3) := by decide +kernel
theorem dX10_modulo_14 : decode cX10_modulo 14 = .ok (.ireturn, 1) := by decide +kernel
theorem dX10_seed_0 : decode cX10_seed 0 = .ok (.iload_n 1, 1) := by decide +kernel
theorem dX10_seed_1 : decode cX10_seed 1 = .ok (.ifCond .ge 15, 3) := by decide +kernel
theorem dX10_seed_4 : decode cX10_seed 4 = .ok (.aload_n 0, 1) := by decide +kernel
theorem dX10_seed_5 : decode cX10_seed 5 = .ok (.getfield 79, 3) := by decide +kernel
theorem dX10_seed_8 : decode cX10_seed 8 = .ok (.iconst 4, 1) := by decide +kernel
theorem dX10_seed_9 : decode cX10_seed 9 = .ok (.dup2, 1) := by decide +kernel
theorem dX10_seed_10 : decode cX10_seed 10 = .ok (.iaload, 1) := by decide +kernel
theorem dX10_seed_11 : decode cX10_seed 11 = .ok (.iconst 1, 1) := by decide +kernel
theorem dX10_seed_12 : decode cX10_seed 12 = .ok (.iadd, 1) := by decide +kernel
theorem dX10_seed_13 : decode cX10_seed 13 = .ok (.iastore, 1) := by decide +kernel
theorem dX10_seed_14 : decode cX10_seed 14 = .ok (.iconst 0, 1) := by decide +kernel
theorem dX10_seed_15 : decode cX10_seed 15 = .ok (.ireturn, 1) := by decide +kernel
theorem dX10_seed_16 : decode cX10_seed 16 = .ok (.aload_n 0, 1) := by decide +kernel
theorem dX10_seed_17 : decode cX10_seed 17 = .ok (.iload_n 1, 1) := by decide +kernel
theorem dX10_seed_18 : decode cX10_seed 18 = .ok (.i2l, 1) := by decide +kernel
theorem dX10_seed_19 : decode cX10_seed 19 = .ok (.putfield 82, 3) := by decide +kernel
theorem dX10_seed_22 : decode cX10_seed 22 = .ok (.iconst 1, 1) := by decide +kernel
theorem dX10_seed_23 : decode cX10_seed 23 = .ok (.ireturn, 1) := by decide +kernel
theorem dX10_image_0 : decode cX10_image 0 = .ok (.aload_n 0, 1) := by decide +kernel
theorem dX10_image_1 : decode cX10_image 1 = .ok (.iconst 0, 1) := by decide +kernel
theorem dX10_image_2 : decode cX10_image 2 = .ok (.putfield 359, 3) := by decide +kernel
theorem dX10_image_5 : decode cX10_image 5 = .ok (.iconst 0, 1) := by decide +kernel
theorem dX10_image_6 : decode cX10_image 6 = .ok (.istore_n 1, 1) := by decide +kernel
theorem dX10_image_7 : decode cX10_image 7 = .ok (.iload_n 1, 1) := by decide +kernel
theorem dX10_image_8 : decode cX10_image 8 = .ok (.aload_n 0, 1) := by decide +kernel
theorem dX10_image_9 : decode cX10_image 9 = .ok (.getfield 16, 3) := by decide +kernel
theorem dX10_image_12 : decode cX10_image 12 = .ok (.getfield 128, 3) := by decide +kernel
theorem dX10_image_15 : decode cX10_image 15 = .ok (.if_icmp .ge 31, 3) := by decide +kernel
theorem dX10_image_18 : decode cX10_image 18 = .ok (.aload_n 0, 1) := by decide +kernel
theorem dX10_image_19 : decode cX10_image 19 = .ok (.iload_n 1, 1) := by decide +kernel
theorem dX10_image_20 : decode cX10_image 20 = .ok (.invokevirtual 155, 3) := by decide +kernel
theorem dX10_image_23 : decode cX10_image 23 = .ok (.astore_n 2, 1) := by decide +kernel
theorem dX10_image_24 : decode cX10_image 24 = .ok (.aload_n 0, 1) := by decide +kernel
theorem dX10_image_25 : decode cX10_image 25 = .ok (.aload_n 2, 1) := by decide +kernel
theorem dX10_image_26 : decode cX10_image 26 = .ok (.ifnonnull 7, 3) := by decide +kernel
theorem dX10_image_29 : decode cX10_image 29 = .ok (.iconst 0, 1) := by decide +kernel
theorem dX10_image_30 : decode cX10_image 30 = .ok (.goto 7, 3) := by decide +kernel
theorem dX10_image_33 : decode cX10_image 33 = .ok (.aload_n 2, 1) := by decide +kernel
theorem dX10_image_34 : decode cX10_image 34 = .ok (.getfield 196, 3) := by decide +kernel
theorem dX10_image_37 : decode cX10_image 37 = .ok (.invokevirtual 362, 3) := by decide +kernel
theorem dX10_image_40 : decode cX10_image 40 = .ok (.iinc 1 1, 3) := by decide +kernel
theorem dX10_image_43 : decode cX10_image 43 = .ok (.goto (-36), 3) := by decide +kernel
theorem dX10_image_46 : decode cX10_image 46 = .ok (.iconst 0, 1) := by decide +kernel
theorem dX10_image_47 : decode cX10_image 47 = .ok (.istore_n 1, 1) := by decide +kernel
theorem dX10_image_48 : decode cX10_image 48 = .ok (.iload_n 1, 1) := by decide +kernel
theorem dX10_image_49 : decode cX10_image 49 = .ok (.aload_n 0, 1) := by decide +kernel
theorem dX10_image_50 : decode cX10_image 50 = .ok (.getfield 16, 3) := by decide +kernel
theorem dX10_image_53 : decode cX10_image 53 = .ok (.getfield 125, 3) := by decide +kernel
theorem dX10_image_56 : decode cX10_image 56 = .ok (.if_icmp .ge 70, 3) := by decide +kernel
theorem dX10_image_59 : decode cX10_image 59 = .ok (.aload_n 0, 1) := by decide +kernel
theorem dX10_image_60 : decode cX10_image 60 = .ok (.iload_n 1, 1) := by decide +kernel
theorem dX10_image_61 : decode cX10_image 61 = .ok (.invokevirtual 151, 3) := by decide +kernel
theorem dX10_image_64 : decode cX10_image 64 = .ok (.astore_n 2, 1) := by decide +kernel
theorem dX10_image_65 : decode cX10_image 65 = .ok (.iconst 0, 1) := by decide +kernel
theorem dX10_image_66 : decode cX10_image 66 = .ok (.istore_n 3, 1) := by decide +kernel
theorem dX10_image_67 : decode cX10_image 67 = .ok (.iload_n 3, 1) := by decide +kernel
theorem dX10_image_68 : decode cX10_image 68 = .ok (.aload_n 0, 1) := by decide +kernel
theorem dX10_image_69 : decode cX10_image 69 = .ok (.getfield 16, 3) := by decide +kernel
theorem dX10_image_72 : decode cX10_image 72 = .ok (.getfield 122, 3) := by decide +kernel
theorem dX10_image_75 : decode cX10_image 75 = .ok (.if_icmp .ge 45, 3) := by decide +kernel
theorem dX10_image_78 : decode cX10_image 78 = .ok (.aload_n 2, 1) := by decide +kernel
theorem dX10_image_79 : decode cX10_image 79 = .ok (.ifnull 41, 3) := by decide +kernel
theorem dX10_image_82 : decode cX10_image 82 = .ok (.aload_n 0, 1) := by decide +kernel
theorem dX10_image_83 : decode cX10_image 83 = .ok (.aload_n 2, 1) := by decide +kernel
theorem dX10_image_84 : decode cX10_image 84 = .ok (.getfield 235, 3) := by decide +kernel
theorem dX10_image_87 : decode cX10_image 87 = .ok (.iload_n 3, 1) := by decide +kernel
theorem dX10_image_88 : decode cX10_image 88 = .ok (.iaload, 1) := by decide +kernel
theorem dX10_image_89 : decode cX10_image 89 = .ok (.invokevirtual 362, 3) := by decide +kernel
theorem dX10_image_92 : decode cX10_image 92 = .ok (.aload_n 0, 1) := by decide +kernel
theorem dX10_image_93 : decode cX10_image 93 = .ok (.aload_n 2, 1) := by decide +kernel
theorem dX10_image_94 : decode cX10_image 94 = .ok (.getfield 237, 3) := by decide +kernel
theorem dX10_image_97 : decode cX10_image 97 = .ok (.iload_n 3, 1) := by decide +kernel
theorem dX10_image_98 : decode cX10_image 98 = .ok (.iaload, 1) := by decide +kernel
theorem dX10_image_99 : decode cX10_image 99 = .ok (.iconst 1, 1) := by decide +kernel
theorem dX10_image_100 : decode cX10_image 100 = .ok (.iadd, 1) := by decide +kernel
theorem dX10_image_101 : decode cX10_image 101 = .ok (.invokevirtual 362, 3) := by decide +kernel
theorem dX10_image_104 : decode cX10_image 104 = .ok (.aload_n 0, 1) := by decide +kernel
theorem dX10_image_105 : decode cX10_image 105 = .ok (.aload_n 2, 1) := by decide +kernel
theorem dX10_image_106 : decode cX10_image 106 = .ok (.getfield 240, 3) := by decide +kernel
theorem dX10_image_109 : decode cX10_image 109 = .ok (.iload_n 3, 1) := by decide +kernel
theorem dX10_image_110 : decode cX10_image 110 = .ok (.iaload, 1) := by decide +kernel
theorem dX10_image_111 : decode cX10_image 111 = .ok (.invokevirtual 365, 3) := by decide +kernel
theorem dX10_image_114 : decode cX10_image 114 = .ok (.iinc 3 1, 3) := by decide +kernel
theorem dX10_image_117 : decode cX10_image 117 = .ok (.goto (-50), 3) := by decide +kernel
theorem dX10_image_120 : decode cX10_image 120 = .ok (.iinc 1 1, 3) := by decide +kernel
theorem dX10_image_123 : decode cX10_image 123 = .ok (.goto (-75), 3) := by decide +kernel
