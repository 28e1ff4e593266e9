theorem dX4_readPerson_204 : decode cX4_readPerson 204 = .ok (.iconst 1, 1) := by decide +kernel
theorem dX4_readPerson_205 : decode cX4_readPerson 205 = .ok (.ireturn, 1) := by decide +kernel
theorem dX4_readWorth_0 : decode cX4_readWorth 0 = .ok (.aload_n 0, 1) := by decide +kernel
theorem dX4_readWorth_1 : decode cX4_readWorth 1 = .ok (.invokevirtual 31, 3) := by decide +kernel
theorem dX4_readWorth_4 : decode cX4_readWorth 4 = .ok (.aload_n 0, 1) := by decide +kernel
theorem dX4_readWorth_5 : decode cX4_readWorth 5 = .ok (.iconst 0, 1) := by decide +kernel
theorem dX4_readWorth_6 : decode cX4_readWorth 6 = .ok (.sipush 9999, 3) := by decide +kernel
theorem dX4_readWorth_9 : decode cX4_readWorth 9 = .ok (.invokevirtual 94, 3) := by decide +kernel
theorem dX4_readWorth_12 : decode cX4_readWorth 12 = .ok (.ifCond .ne 5, 3) := by decide +kernel
theorem dX4_readWorth_15 : decode cX4_readWorth 15 = .ok (.iconst 0, 1) := by decide +kernel
theorem dX4_readWorth_16 : decode cX4_readWorth 16 = .ok (.ireturn, 1) := by decide +kernel
theorem dX4_readWorth_17 : decode cX4_readWorth 17 = .ok (.aload_n 0, 1) := by decide +kernel
theorem dX4_readWorth_18 : decode cX4_readWorth 18 = .ok (.getfield 19, 3) := by decide +kernel
theorem dX4_readWorth_21 : decode cX4_readWorth 21 = .ok (.aload_n 0, 1) := by decide +kernel
theorem dX4_readWorth_22 : decode cX4_readWorth 22 = .ok (.getfield 78, 3) := by decide +kernel
theorem dX4_readWorth_25 : decode cX4_readWorth 25 = .ok (.putfield 196, 3) := by decide +kernel
theorem dX4_readWorth_28 : decode cX4_readWorth 28 = .ok (.aload_n 0, 1) := by decide +kernel
theorem dX4_readWorth_29 : decode cX4_readWorth 29 = .ok (.iconst 0, 1) := by decide +kernel
theorem dX4_readWorth_30 : decode cX4_readWorth 30 = .ok (.sipush 9999, 3) := by decide +kernel
theorem dX4_readWorth_33 : decode cX4_readWorth 33 = .ok (.invokevirtual 94, 3) := by decide +kernel
theorem dX4_readWorth_36 : decode cX4_readWorth 36 = .ok (.ifCond .ne 5, 3) := by decide +kernel
theorem dX4_readWorth_39 : decode cX4_readWorth 39 = .ok (.iconst 0, 1) := by decide +kernel
theorem dX4_readWorth_40 : decode cX4_readWorth 40 = .ok (.ireturn, 1) := by decide +kernel
theorem dX4_readWorth_41 : decode cX4_readWorth 41 = .ok (.aload_n 0, 1) := by decide +kernel
theorem dX4_readWorth_42 : decode cX4_readWorth 42 = .ok (.getfield 19, 3) := by decide +kernel
theorem dX4_readWorth_45 : decode cX4_readWorth 45 = .ok (.aload_n 0, 1) := by decide +kernel
theorem dX4_readWorth_46 : decode cX4_readWorth 46 = .ok (.getfield 78, 3) := by decide +kernel
theorem dX4_readWorth_49 : decode cX4_readWorth 49 = .ok (.putfield 199, 3) := by decide +kernel
theorem dX4_readWorth_52 : decode cX4_readWorth 52 = .ok (.iconst 1, 1) := by decide +kernel
theorem dX4_readWorth_53 : decode cX4_readWorth 53 = .ok (.ireturn, 1) := by decide +kernel
theorem dX4_readRule_0 : decode cX4_readRule 0 = .ok (.aload_n 0, 1) := by decide +kernel
theorem dX4_readRule_1 : decode cX4_readRule 1 = .ok (.getfield 19, 3) := by decide +kernel
theorem dX4_readRule_4 : decode cX4_readRule 4 = .ok (.getfield 202, 3) := by decide +kernel
theorem dX4_readRule_7 : decode cX4_readRule 7 = .ok (.iload_n 1, 1) := by decide +kernel
theorem dX4_readRule_8 : decode cX4_readRule 8 = .ok (.invokevirtual 206, 3) := by decide +kernel
theorem dX4_readRule_11 : decode cX4_readRule 11 = .ok (.iload_n 1, 1) := by decide +kernel
theorem dX4_readRule_12 : decode cX4_readRule 12 = .ok (.invokestatic 209, 3) := by decide +kernel
theorem dX4_readRule_15 : decode cX4_readRule 15 = .ok (.if_icmp .lt 9, 3) := by decide +kernel
theorem dX4_readRule_18 : decode cX4_readRule 18 = .ok (.aload_n 0, 1) := by decide +kernel
theorem dX4_readRule_19 : decode cX4_readRule 19 = .ok (.iconst 5, 1) := by decide +kernel
theorem dX4_readRule_20 : decode cX4_readRule 20 = .ok (.invokevirtual 72, 3) := by decide +kernel
theorem dX4_readRule_23 : decode cX4_readRule 23 = .ok (.ireturn, 1) := by decide +kernel
theorem dX4_readRule_24 : decode cX4_readRule 24 = .ok (.aload_n 0, 1) := by decide +kernel
theorem dX4_readRule_25 : decode cX4_readRule 25 = .ok (.invokevirtual 31, 3) := by decide +kernel
theorem dX4_readRule_28 : decode cX4_readRule 28 = .ok (.aload_n 0, 1) := by decide +kernel
theorem dX4_readRule_29 : decode cX4_readRule 29 = .ok (.getfield 19, 3) := by decide +kernel
theorem dX4_readRule_32 : decode cX4_readRule 32 = .ok (.getfield 202, 3) := by decide +kernel
theorem dX4_readRule_35 : decode cX4_readRule 35 = .ok (.iload_n 1, 1) := by decide +kernel
theorem dX4_readRule_36 : decode cX4_readRule 36 = .ok (.invokevirtual 212, 3) := by decide +kernel
theorem dX4_readRule_39 : decode cX4_readRule 39 = .ok (.aload_n 0, 1) := by decide +kernel
theorem dX4_readRule_40 : decode cX4_readRule 40 = .ok (.invokevirtual 215, 3) := by decide +kernel
theorem dX4_readRule_43 : decode cX4_readRule 43 = .ok (.ifCond .eq 12, 3) := by decide +kernel
theorem dX4_readRule_46 : decode cX4_readRule 46 = .ok (.aload_n 0, 1) := by decide +kernel
theorem dX4_readRule_47 : decode cX4_readRule 47 = .ok (.bipush 17, 2) := by decide +kernel
theorem dX4_readRule_49 : decode cX4_readRule 49 = .ok (.invokevirtual 91, 3) := by decide +kernel
theorem dX4_readRule_52 : decode cX4_readRule 52 = .ok (.ifCond .ne 5, 3) := by decide +kernel
theorem dX4_readRule_55 : decode cX4_readRule 55 = .ok (.iconst 0, 1) := by decide +kernel
theorem dX4_readRule_56 : decode cX4_readRule 56 = .ok (.ireturn, 1) := by decide +kernel
theorem dX4_readRule_57 : decode cX4_readRule 57 = .ok (.aload_n 0, 1) := by decide +kernel
theorem dX4_readRule_58 : decode cX4_readRule 58 = .ok (.getfield 19, 3) := by decide +kernel
theorem dX4_readRule_61 : decode cX4_readRule 61 = .ok (.getfield 202, 3) := by decide +kernel
theorem dX4_readRule_64 : decode cX4_readRule 64 = .ok (.iload_n 1, 1) := by decide +kernel
theorem dX4_readRule_65 : decode cX4_readRule 65 = .ok (.invokevirtual 218, 3) := by decide +kernel
theorem dX4_readRule_68 : decode cX4_readRule 68 = .ok (.aload_n 0, 1) := by decide +kernel
theorem dX4_readRule_69 : decode cX4_readRule 69 = .ok (.invokevirtual 221, 3) := by decide +kernel
theorem dX4_readRule_72 : decode cX4_readRule 72 = .ok (.ifCond .ne 5, 3) := by decide +kernel
theorem dX4_readRule_75 : decode cX4_readRule 75 = .ok (.iconst 0, 1) := by decide +kernel
theorem dX4_readRule_76 : decode cX4_readRule 76 = .ok (.ireturn, 1) := by decide +kernel
theorem dX4_readRule_77 : decode cX4_readRule 77 = .ok (.aload_n 0, 1) := by decide +kernel
theorem dX4_readRule_78 : decode cX4_readRule 78 = .ok (.getfield 19, 3) := by decide +kernel
theorem dX4_readRule_81 : decode cX4_readRule 81 = .ok (.getfield 202, 3) := by decide +kernel
theorem dX4_readRule_84 : decode cX4_readRule 84 = .ok (.iload_n 1, 1) := by decide +kernel
theorem dX4_readRule_85 : decode cX4_readRule 85 = .ok (.invokevirtual 224, 3) := by decide +kernel
theorem dX4_readRule_88 : decode cX4_readRule 88 = .ok (.iconst 1, 1) := by decide +kernel
theorem dX4_readRule_89 : decode cX4_readRule 89 = .ok (.ireturn, 1) := by decide +kernel
theorem dX4_openBracket_0 : decode cX4_openBracket 0 = .ok (.aload_n 0, 1) := by decide +kernel
theorem dX4_openBracket_1 : decode cX4_openBracket 1 = .ok (.iload_n 1, 1) := by decide +kernel
theorem dX4_openBracket_2 : decode cX4_openBracket 2 = .ok (.invokevirtual 68, 3) := by decide +kernel
theorem dX4_openBracket_5 : decode cX4_openBracket 5 = .ok (.ifCond .ne 9, 3) := by decide +kernel
theorem dX4_openBracket_8 : decode cX4_openBracket 8 = .ok (.aload_n 0, 1) := by decide +kernel
theorem dX4_openBracket_9 : decode cX4_openBracket 9 = .ok (.iconst 1, 1) := by decide +kernel
theorem dX4_openBracket_10 : decode cX4_openBracket 10 = .ok (.invokevirtual 72, 3) := by decide +kernel
theorem dX4_openBracket_13 : decode cX4_openBracket 13 = .ok (.ireturn, 1) := by decide +kernel
theorem dX4_openBracket_14 : decode cX4_openBracket 14 = .ok (.aload_n 0, 1) := by decide +kernel
theorem dX4_openBracket_15 : decode cX4_openBracket 15 = .ok (.getfield 34, 3) := by decide +kernel
theorem dX4_openBracket_18 : decode cX4_openBracket 18 = .ok (.bipush 8, 2) := by decide +kernel
theorem dX4_openBracket_20 : decode cX4_openBracket 20 = .ok (.if_icmp .lt 9, 3) := by decide +kernel
theorem dX4_openBracket_23 : decode cX4_openBracket 23 = .ok (.aload_n 0, 1) := by decide +kernel
theorem dX4_openBracket_24 : decode cX4_openBracket 24 = .ok (.iconst 5, 1) := by decide +kernel
theorem dX4_openBracket_25 : decode cX4_openBracket 25 = .ok (.invokevirtual 72, 3) := by decide +kernel
theorem dX4_openBracket_28 : decode cX4_openBracket 28 = .ok (.ireturn, 1) := by decide +kernel
theorem dX4_openBracket_29 : decode cX4_openBracket 29 = .ok (.aload_n 0, 1) := by decide +kernel
theorem dX4_openBracket_30 : decode cX4_openBracket 30 = .ok (.dup, 1) := by decide +kernel
theorem dX4_openBracket_31 : decode cX4_openBracket 31 = .ok (.getfield 34, 3) := by decide +kernel
theorem dX4_openBracket_34 : decode cX4_openBracket 34 = .ok (.iconst 1, 1) := by decide +kernel
theorem dX4_openBracket_35 : decode cX4_openBracket 35 = .ok (.iadd, 1) := by decide +kernel
theorem dX4_openBracket_36 : decode cX4_openBracket 36 = .ok (.putfield 34, 3) := by decide +kernel
theorem dX4_openBracket_39 : decode cX4_openBracket 39 = .ok (.aload_n 0, 1) := by decide +kernel
theorem dX4_openBracket_40 : decode cX4_openBracket 40 = .ok (.invokevirtual 31, 3) := by decide +kernel
theorem dX4_openBracket_43 : decode cX4_openBracket 43 = .ok (.iconst 1, 1) := by decide +kernel
theorem dX4_openBracket_44 : decode cX4_openBracket 44 = .ok (.ireturn, 1) := by decide +kernel
theorem dX4_closeBracket_0 : decode cX4_closeBracket 0 = .ok (.aload_n 0, 1) := by decide +kernel
theorem dX4_closeBracket_1 : decode cX4_closeBracket 1 = .ok (.iload_n 1, 1) := by decide +kernel
theorem dX4_closeBracket_2 : decode cX4_closeBracket 2 = .ok (.invokevirtual 68, 3) := by decide +kernel
theorem dX4_closeBracket_5 : decode cX4_closeBracket 5 = .ok (.ifCond .ne 9, 3) := by decide +kernel
theorem dX4_closeBracket_8 : decode cX4_closeBracket 8 = .ok (.aload_n 0, 1) := by decide +kernel
theorem dX4_closeBracket_9 : decode cX4_closeBracket 9 = .ok (.iconst 1, 1) := by decide +kernel
theorem dX4_closeBracket_10 : decode cX4_closeBracket 10 = .ok (.invokevirtual 72, 3) := by decide +kernel
theorem dX4_closeBracket_13 : decode cX4_closeBracket 13 = .ok (.ireturn, 1) := by decide +kernel
theorem dX4_closeBracket_14 : decode cX4_closeBracket 14 = .ok (.aload_n 0, 1) := by decide +kernel
theorem dX4_closeBracket_15 : decode cX4_closeBracket 15 = .ok (.dup, 1) := by decide +kernel
theorem dX4_closeBracket_16 : decode cX4_closeBracket 16 = .ok (.getfield 34, 3) := by decide +kernel
theorem dX4_closeBracket_19 : decode cX4_closeBracket 19 = .ok (.iconst 1, 1) := by decide +kernel
theorem dX4_closeBracket_20 : decode cX4_closeBracket 20 = .ok (.isub, 1) := by decide +kernel
theorem dX4_closeBracket_21 : decode cX4_closeBracket 21 = .ok (.putfield 34, 3) := by decide +kernel
theorem dX4_closeBracket_24 : decode cX4_closeBracket 24 = .ok (.aload_n 0, 1) := by decide +kernel
theorem dX4_closeBracket_25 : decode cX4_closeBracket 25 = .ok (.invokevirtual 31, 3) := by decide +kernel
theorem dX4_closeBracket_28 : decode cX4_closeBracket 28 = .ok (.iconst 1, 1) := by decide +kernel
theorem dX4_closeBracket_29 : decode cX4_closeBracket 29 = .ok (.ireturn, 1) := by decide +kernel
theorem dX4_readTest_0 : decode cX4_readTest 0 = .ok (.aload_n 0, 1) := by decide +kernel
theorem dX4_readTest_1 : decode cX4_readTest 1 = .ok (.invokevirtual 227, 3) := by decide +kernel
theorem dX4_readTest_4 : decode cX4_readTest 4 = .ok (.istore_n 1, 1) := by decide +kernel
theorem dX4_readTest_5 : decode cX4_readTest 5 = .ok (.iconst 0, 1) := by decide +kernel
theorem dX4_readTest_6 : decode cX4_readTest 6 = .ok (.istore_n 2, 1) := by decide +kernel
theorem dX4_readTest_7 : decode cX4_readTest 7 = .ok (.iload_n 2, 1) := by decide +kernel
theorem dX4_readTest_8 : decode cX4_readTest 8 = .ok (.sipush 1600, 3) := by decide +kernel
theorem dX4_readTest_11 : decode cX4_readTest 11 = .ok (.if_icmp .ge 43, 3) := by decide +kernel
theorem dX4_readTest_14 : decode cX4_readTest 14 = .ok (.iload_n 1, 1) := by decide +kernel
theorem dX4_readTest_15 : decode cX4_readTest 15 = .ok (.ifCond .eq 39, 3) := by decide +kernel
theorem dX4_readTest_18 : decode cX4_readTest 18 = .ok (.aload_n 0, 1) := by decide +kernel
theorem dX4_readTest_19 : decode cX4_readTest 19 = .ok (.bipush 18, 2) := by decide +kernel
theorem dX4_readTest_21 : decode cX4_readTest 21 = .ok (.invokevirtual 75, 3) := by decide +kernel
theorem dX4_readTest_24 : decode cX4_readTest 24 = .ok (.ifCond .eq 30, 3) := by decide +kernel
theorem dX4_readTest_27 : decode cX4_readTest 27 = .ok (.aload_n 0, 1) := by decide +kernel
theorem dX4_readTest_28 : decode cX4_readTest 28 = .ok (.invokevirtual 31, 3) := by decide +kernel
theorem dX4_readTest_31 : decode cX4_readTest 31 = .ok (.aload_n 0, 1) := by decide +kernel
theorem dX4_readTest_32 : decode cX4_readTest 32 = .ok (.invokevirtual 227, 3) := by decide +kernel
theorem dX4_readTest_35 : decode cX4_readTest 35 = .ok (.istore_n 1, 1) := by decide +kernel
theorem dX4_readTest_36 : decode cX4_readTest 36 = .ok (.aload_n 0, 1) := by decide +kernel
theorem dX4_readTest_37 : decode cX4_readTest 37 = .ok (.getfield 19, 3) := by decide +kernel
theorem dX4_readTest_40 : decode cX4_readTest 40 = .ok (.getfield 202, 3) := by decide +kernel
theorem dX4_readTest_43 : decode cX4_readTest 43 = .ok (.bipush (-19), 2) := by decide +kernel
theorem dX4_readTest_45 : decode cX4_readTest 45 = .ok (.invokevirtual 230, 3) := by decide +kernel
theorem dX4_readTest_48 : decode cX4_readTest 48 = .ok (.iinc 2 1, 3) := by decide +kernel
theorem dX4_readTest_51 : decode cX4_readTest 51 = .ok (.goto (-44), 3) := by decide +kernel
theorem dX4_readTest_54 : decode cX4_readTest 54 = .ok (.iload_n 1, 1) := by decide +kernel
theorem dX4_readTest_55 : decode cX4_readTest 55 = .ok (.ireturn, 1) := by decide +kernel
theorem dX4_readBoth_0 : decode cX4_readBoth 0 = .ok (.aload_n 0, 1) := by decide +kernel
theorem dX4_readBoth_1 : decode cX4_readBoth 1 = .ok (.invokevirtual 233, 3) := by decide +kernel
theorem dX4_readBoth_4 : decode cX4_readBoth 4 = .ok (.istore_n 1, 1) := by decide +kernel
theorem dX4_readBoth_5 : decode cX4_readBoth 5 = .ok (.iconst 0, 1) := by decide +kernel
theorem dX4_readBoth_6 : decode cX4_readBoth 6 = .ok (.istore_n 2, 1) := by decide +kernel
theorem dX4_readBoth_7 : decode cX4_readBoth 7 = .ok (.iload_n 2, 1) := by decide +kernel
theorem dX4_readBoth_8 : decode cX4_readBoth 8 = .ok (.sipush 1600, 3) := by decide +kernel
theorem dX4_readBoth_11 : decode cX4_readBoth 11 = .ok (.if_icmp .ge 43, 3) := by decide +kernel
theorem dX4_readBoth_14 : decode cX4_readBoth 14 = .ok (.iload_n 1, 1) := by decide +kernel
theorem dX4_readBoth_15 : decode cX4_readBoth 15 = .ok (.ifCond .eq 39, 3) := by decide +kernel
theorem dX4_readBoth_18 : decode cX4_readBoth 18 = .ok (.aload_n 0, 1) := by decide +kernel
theorem dX4_readBoth_19 : decode cX4_readBoth 19 = .ok (.bipush 19, 2) := by decide +kernel
theorem dX4_readBoth_21 : decode cX4_readBoth 21 = .ok (.invokevirtual 75, 3) := by decide +kernel
theorem dX4_readBoth_24 : decode cX4_readBoth 24 = .ok (.ifCond .eq 30, 3) := by decide +kernel
theorem dX4_readBoth_27 : decode cX4_readBoth 27 = .ok (.aload_n 0, 1) := by decide +kernel
theorem dX4_readBoth_28 : decode cX4_readBoth 28 = .ok (.invokevirtual 31, 3) := by decide +kernel
theorem dX4_readBoth_31 : decode cX4_readBoth 31 = .ok (.aload_n 0, 1) := by decide +kernel
theorem dX4_readBoth_32 : decode cX4_readBoth 32 = .ok (.invokevirtual 233, 3) := by decide +kernel
theorem dX4_readBoth_35 : decode cX4_readBoth 35 = .ok (.istore_n 1, 1) := by decide +kernel
theorem dX4_readBoth_36 : decode cX4_readBoth 36 = .ok (.aload_n 0, 1) := by decide +kernel
theorem dX4_readBoth_37 : decode cX4_readBoth 37 = .ok (.getfield 19, 3) := by decide +kernel
theorem dX4_readBoth_40 : decode cX4_readBoth 40 = .ok (.getfield 202, 3) := by decide +kernel
theorem dX4_readBoth_43 : decode cX4_readBoth 43 = .ok (.bipush (-18), 2) := by decide +kernel
theorem dX4_readBoth_45 : decode cX4_readBoth 45 = .ok (.invokevirtual 230, 3) := by decide +kernel
theorem dX4_readBoth_48 : decode cX4_readBoth 48 = .ok (.iinc 2 1, 3) := by decide +kernel
theorem dX4_readBoth_51 : decode cX4_readBoth 51 = .ok (.goto (-44), 3) := by decide +kernel
theorem dX4_readBoth_54 : decode cX4_readBoth 54 = .ok (.iload_n 1, 1) := by decide +kernel
theorem dX4_readBoth_55 : decode cX4_readBoth 55 = .ok (.ireturn, 1) := by decide +kernel
theorem dX4_readFact_0 : decode cX4_readFact 0 = .ok (.iconst 0, 1) := by decide +kernel
theorem dX4_readFact_1 : decode cX4_readFact 1 = .ok (.istore_n 1, 1) := by decide +kernel
theorem dX4_readFact_2 : decode cX4_readFact 2 = .ok (.iconst 0, 1) := by decide +kernel
theorem dX4_readFact_3 : decode cX4_readFact 3 = .ok (.istore_n 2, 1) := by decide +kernel
theorem dX4_readFact_4 : decode cX4_readFact 4 = .ok (.iload_n 2, 1) := by decide +kernel
theorem dX4_readFact_5 : decode cX4_readFact 5 = .ok (.sipush 1600, 3) := by decide +kernel
theorem dX4_readFact_8 : decode cX4_readFact 8 = .ok (.if_icmp .ge 32, 3) := by decide +kernel
theorem dX4_readFact_11 : decode cX4_readFact 11 = .ok (.aload_n 0, 1) := by decide +kernel
theorem dX4_readFact_12 : decode cX4_readFact 12 = .ok (.bipush 20, 2) := by decide +kernel
theorem dX4_readFact_14 : decode cX4_readFact 14 = .ok (.invokevirtual 75, 3) := by decide +kernel
theorem dX4_readFact_17 : decode cX4_readFact 17 = .ok (.ifCond .eq 23, 3) := by decide +kernel
theorem dX4_readFact_20 : decode cX4_readFact 20 = .ok (.aload_n 0, 1) := by decide +kernel
theorem dX4_readFact_21 : decode cX4_readFact 21 = .ok (.invokevirtual 31, 3) := by decide +kernel
theorem dX4_readFact_24 : decode cX4_readFact 24 = .ok (.iload_n 1, 1) := by decide +kernel
theorem dX4_readFact_25 : decode cX4_readFact 25 = .ok (.ifCond .ne 7, 3) := by decide +kernel
theorem dX4_readFact_28 : decode cX4_readFact 28 = .ok (.iconst 1, 1) := by decide +kernel
theorem dX4_readFact_29 : decode cX4_readFact 29 = .ok (.goto 4, 3) := by decide +kernel
theorem dX4_readFact_32 : decode cX4_readFact 32 = .ok (.iconst 0, 1) := by decide +kernel
theorem dX4_readFact_33 : decode cX4_readFact 33 = .ok (.istore_n 1, 1) := by decide +kernel
theorem dX4_readFact_34 : decode cX4_readFact 34 = .ok (.iinc 2 1, 3) := by decide +kernel
theorem dX4_readFact_37 : decode cX4_readFact 37 = .ok (.goto (-33), 3) := by decide +kernel
theorem dX4_readFact_40 : decode cX4_readFact 40 = .ok (.iconst 1, 1) := by decide +kernel
theorem dX4_readFact_41 : decode cX4_readFact 41 = .ok (.istore_n 2, 1) := by decide +kernel
theorem dX4_readFact_42 : decode cX4_readFact 42 = .ok (.aload_n 0, 1) := by decide +kernel
theorem dX4_readFact_43 : decode cX4_readFact 43 = .ok (.bipush 91, 2) := by decide +kernel
theorem dX4_readFact_45 : decode cX4_readFact 45 = .ok (.invokevirtual 68, 3) := by decide +kernel
theorem dX4_readFact_48 : decode cX4_readFact 48 = .ok (.ifCond .eq 37, 3) := by decide +kernel
theorem dX4_readFact_51 : decode cX4_readFact 51 = .ok (.aload_n 0, 1) := by decide +kernel
theorem dX4_readFact_52 : decode cX4_readFact 52 = .ok (.bipush 91, 2) := by decide +kernel
theorem dX4_readFact_54 : decode cX4_readFact 54 = .ok (.invokevirtual 236, 3) := by decide +kernel
theorem dX4_readFact_57 : decode cX4_readFact 57 = .ok (.ifCond .eq 23, 3) := by decide +kernel
theorem dX4_readFact_60 : decode cX4_readFact 60 = .ok (.aload_n 0, 1) := by decide +kernel
theorem dX4_readFact_61 : decode cX4_readFact 61 = .ok (.invokevirtual 221, 3) := by decide +kernel
theorem dX4_readFact_64 : decode cX4_readFact 64 = .ok (.ifCond .eq 16, 3) := by decide +kernel
theorem dX4_readFact_67 : decode cX4_readFact 67 = .ok (.aload_n 0, 1) := by decide +kernel
theorem dX4_readFact_68 : decode cX4_readFact 68 = .ok (.bipush 93, 2) := by decide +kernel
theorem dX4_readFact_70 : decode cX4_readFact 70 = .ok (.invokevirtual 239, 3) := by decide +kernel
theorem dX4_readFact_73 : decode cX4_readFact 73 = .ok (.ifCond .eq 7, 3) := by decide +kernel
theorem dX4_readFact_76 : decode cX4_readFact 76 = .ok (.iconst 1, 1) := by decide +kernel
theorem dX4_readFact_77 : decode cX4_readFact 77 = .ok (.goto 4, 3) := by decide +kernel
theorem dX4_readFact_80 : decode cX4_readFact 80 = .ok (.iconst 0, 1) := by decide +kernel
theorem dX4_readFact_81 : decode cX4_readFact 81 = .ok (.istore_n 2, 1) := by decide +kernel
theorem dX4_readFact_82 : decode cX4_readFact 82 = .ok (.goto 77, 3) := by decide +kernel
theorem dX4_readFact_85 : decode cX4_readFact 85 = .ok (.aload_n 0, 1) := by decide +kernel
theorem dX4_readFact_86 : decode cX4_readFact 86 = .ok (.bipush 21, 2) := by decide +kernel
theorem dX4_readFact_88 : decode cX4_readFact 88 = .ok (.invokevirtual 75, 3) := by decide +kernel
theorem dX4_readFact_91 : decode cX4_readFact 91 = .ok (.ifCond .eq 21, 3) := by decide +kernel
theorem dX4_readFact_94 : decode cX4_readFact 94 = .ok (.aload_n 0, 1) := by decide +kernel
theorem dX4_readFact_95 : decode cX4_readFact 95 = .ok (.invokevirtual 31, 3) := by decide +kernel
theorem dX4_readFact_98 : decode cX4_readFact 98 = .ok (.aload_n 0, 1) := by decide +kernel
theorem dX4_readFact_99 : decode cX4_readFact 99 = .ok (.getfield 19, 3) := by decide +kernel
theorem dX4_readFact_102 : decode cX4_readFact 102 = .ok (.getfield 202, 3) := by decide +kernel
theorem dX4_readFact_105 : decode cX4_readFact 105 = .ok (.iconst 1, 1) := by decide +kernel
theorem dX4_readFact_106 : decode cX4_readFact 106 = .ok (.invokevirtual 230, 3) := by decide +kernel
theorem dX4_readFact_109 : decode cX4_readFact 109 = .ok (.goto 50, 3) := by decide +kernel
theorem dX4_readFact_112 : decode cX4_readFact 112 = .ok (.aload_n 0, 1) := by decide +kernel
theorem dX4_readFact_113 : decode cX4_readFact 113 = .ok (.invokevirtual 215, 3) := by decide +kernel
theorem dX4_readFact_116 : decode cX4_readFact 116 = .ok (.istore_n 2, 1) := by decide +kernel
theorem dX4_readFact_117 : decode cX4_readFact 117 = .ok (.iload_n 2, 1) := by decide +kernel
theorem dX4_readFact_118 : decode cX4_readFact 118 = .ok (.ifCond .eq 10, 3) := by decide +kernel
theorem dX4_readFact_121 : decode cX4_readFact 121 = .ok (.aload_n 0, 1) := by decide +kernel
theorem dX4_readFact_122 : decode cX4_readFact 122 = .ok (.invokevirtual 242, 3) := by decide +kernel
theorem dX4_readFact_125 : decode cX4_readFact 125 = .ok (.goto 4, 3) := by decide +kernel
theorem dX4_readFact_128 : decode cX4_readFact 128 = .ok (.iconst (-1), 1) := by decide +kernel
theorem dX4_readFact_129 : decode cX4_readFact 129 = .ok (.istore_n 3, 1) := by decide +kernel
theorem dX4_readFact_130 : decode cX4_readFact 130 = .ok (.iload_n 3, 1) := by decide +kernel
theorem dX4_readFact_131 : decode cX4_readFact 131 = .ok (.iconst (-1), 1) := by decide +kernel
theorem dX4_readFact_132 : decode cX4_readFact 132 = .ok (.if_icmp .eq 14, 3) := by decide +kernel
theorem dX4_readFact_135 : decode cX4_readFact 135 = .ok (.aload_n 0, 1) := by decide +kernel
theorem dX4_readFact_136 : decode cX4_readFact 136 = .ok (.invokevirtual 215, 3) := by decide +kernel
theorem dX4_readFact_139 : decode cX4_readFact 139 = .ok (.ifCond .eq 7, 3) := by decide +kernel
theorem dX4_readFact_142 : decode cX4_readFact 142 = .ok (.iconst 1, 1) := by decide +kernel
theorem dX4_readFact_143 : decode cX4_readFact 143 = .ok (.goto 4, 3) := by decide +kernel
theorem dX4_readFact_146 : decode cX4_readFact 146 = .ok (.iconst 0, 1) := by decide +kernel
theorem dX4_readFact_147 : decode cX4_readFact 147 = .ok (.istore_n 2, 1) := by decide +kernel
theorem dX4_readFact_148 : decode cX4_readFact 148 = .ok (.aload_n 0, 1) := by decide +kernel
theorem dX4_readFact_149 : decode cX4_readFact 149 = .ok (.getfield 19, 3) := by decide +kernel
theorem dX4_readFact_152 : decode cX4_readFact 152 = .ok (.getfield 202, 3) := by decide +kernel
theorem dX4_readFact_155 : decode cX4_readFact 155 = .ok (.iload_n 3, 1) := by decide +kernel
theorem dX4_readFact_156 : decode cX4_readFact 156 = .ok (.invokevirtual 230, 3) := by decide +kernel
theorem dX4_readFact_159 : decode cX4_readFact 159 = .ok (.iload_n 1, 1) := by decide +kernel
theorem dX4_readFact_160 : decode cX4_readFact 160 = .ok (.ifCond .eq 15, 3) := by decide +kernel
theorem dX4_readFact_163 : decode cX4_readFact 163 = .ok (.aload_n 0, 1) := by decide +kernel
theorem dX4_readFact_164 : decode cX4_readFact 164 = .ok (.getfield 19, 3) := by decide +kernel
theorem dX4_readFact_167 : decode cX4_readFact 167 = .ok (.getfield 202, 3) := by decide +kernel
theorem dX4_readFact_170 : decode cX4_readFact 170 = .ok (.bipush (-7), 2) := by decide +kernel
theorem dX4_readFact_172 : decode cX4_readFact 172 = .ok (.invokevirtual 230, 3) := by decide +kernel
theorem dX4_readFact_175 : decode cX4_readFact 175 = .ok (.iload_n 2, 1) := by decide +kernel
theorem dX4_readFact_176 : decode cX4_readFact 176 = .ok (.ireturn, 1) := by decide +kernel
theorem dX4_takeComparison_0 : decode cX4_takeComparison 0 = .ok (.aload_n 0, 1) := by decide +kernel
theorem dX4_takeComparison_1 : decode cX4_takeComparison 1 = .ok (.bipush 60, 2) := by decide +kernel
theorem dX4_takeComparison_3 : decode cX4_takeComparison 3 = .ok (.invokevirtual 68, 3) := by decide +kernel
theorem dX4_takeComparison_6 : decode cX4_takeComparison 6 = .ok (.ifCond .eq 9, 3) := by decide +kernel
theorem dX4_takeComparison_9 : decode cX4_takeComparison 9 = .ok (.bipush (-15), 2) := by decide +kernel
theorem dX4_takeComparison_11 : decode cX4_takeComparison 11 = .ok (.istore_n 1, 1) := by decide +kernel
theorem dX4_takeComparison_12 : decode cX4_takeComparison 12 = .ok (.goto 41, 3) := by decide +kernel
theorem dX4_takeComparison_15 : decode cX4_takeComparison 15 = .ok (.aload_n 0, 1) := by decide +kernel
theorem dX4_takeComparison_16 : decode cX4_takeComparison 16 = .ok (.bipush 62, 2) := by decide +kernel
theorem dX4_takeComparison_18 : decode cX4_takeComparison 18 = .ok (.invokevirtual 68, 3) := by decide +kernel
theorem dX4_takeComparison_21 : decode cX4_takeComparison 21 = .ok (.ifCond .eq 9, 3) := by decide +kernel
theorem dX4_takeComparison_24 : decode cX4_takeComparison 24 = .ok (.bipush (-16), 2) := by decide +kernel
theorem dX4_takeComparison_26 : decode cX4_takeComparison 26 = .ok (.istore_n 1, 1) := by decide +kernel
theorem dX4_takeComparison_27 : decode cX4_takeComparison 27 = .ok (.goto 26, 3) := by decide +kernel
theorem dX4_takeComparison_30 : decode cX4_takeComparison 30 = .ok (.aload_n 0, 1) := by decide +kernel
theorem dX4_takeComparison_31 : decode cX4_takeComparison 31 = .ok (.bipush 61, 2) := by decide +kernel
theorem dX4_takeComparison_33 : decode cX4_takeComparison 33 = .ok (.invokevirtual 68, 3) := by decide +kernel
theorem dX4_takeComparison_36 : decode cX4_takeComparison 36 = .ok (.ifCond .eq 9, 3) := by decide +kernel
theorem dX4_takeComparison_39 : decode cX4_takeComparison 39 = .ok (.bipush (-17), 2) := by decide +kernel
theorem dX4_takeComparison_41 : decode cX4_takeComparison 41 = .ok (.istore_n 1, 1) := by decide +kernel
theorem dX4_takeComparison_42 : decode cX4_takeComparison 42 = .ok (.goto 11, 3) := by decide +kernel
theorem dX4_takeComparison_45 : decode cX4_takeComparison 45 = .ok (.aload_n 0, 1) := by decide +kernel
theorem dX4_takeComparison_46 : decode cX4_takeComparison 46 = .ok (.iconst 1, 1) := by decide +kernel
theorem dX4_takeComparison_47 : decode cX4_takeComparison 47 = .ok (.invokevirtual 72, 3) := by decide +kernel
theorem dX4_takeComparison_50 : decode cX4_takeComparison 50 = .ok (.pop, 1) := by decide +kernel
theorem dX4_takeComparison_51 : decode cX4_takeComparison 51 = .ok (.iconst (-1), 1) := by decide +kernel
theorem dX4_takeComparison_52 : decode cX4_takeComparison 52 = .ok (.ireturn, 1) := by decide +kernel
theorem dX4_takeComparison_53 : decode cX4_takeComparison 53 = .ok (.aload_n 0, 1) := by decide +kernel
theorem dX4_takeComparison_54 : decode cX4_takeComparison 54 = .ok (.invokevirtual 31, 3) := by decide +kernel
theorem dX4_takeComparison_57 : decode cX4_takeComparison 57 = .ok (.iload_n 1, 1) := by decide +kernel
theorem dX4_takeComparison_58 : decode cX4_takeComparison 58 = .ok (.ireturn, 1) := by decide +kernel
theorem dX4_readSum_0 : decode cX4_readSum 0 = .ok (.aload_n 0, 1) := by decide +kernel
theorem dX4_readSum_1 : decode cX4_readSum 1 = .ok (.invokevirtual 246, 3) := by decide +kernel
theorem dX4_readSum_4 : decode cX4_readSum 4 = .ok (.istore_n 1, 1) := by decide +kernel
theorem dX4_readSum_5 : decode cX4_readSum 5 = .ok (.iconst 0, 1) := by decide +kernel
theorem dX4_readSum_6 : decode cX4_readSum 6 = .ok (.istore_n 2, 1) := by decide +kernel
theorem dX4_readSum_7 : decode cX4_readSum 7 = .ok (.iload_n 2, 1) := by decide +kernel
theorem dX4_readSum_8 : decode cX4_readSum 8 = .ok (.sipush 1600, 3) := by decide +kernel
theorem dX4_readSum_11 : decode cX4_readSum 11 = .ok (.if_icmp .ge 68, 3) := by decide +kernel
theorem dX4_readSum_14 : decode cX4_readSum 14 = .ok (.iload_n 1, 1) := by decide +kernel
theorem dX4_readSum_15 : decode cX4_readSum 15 = .ok (.ifCond .eq 64, 3) := by decide +kernel
theorem dX4_readSum_18 : decode cX4_readSum 18 = .ok (.aload_n 0, 1) := by decide +kernel
theorem dX4_readSum_19 : decode cX4_readSum 19 = .ok (.bipush 43, 2) := by decide +kernel
theorem dX4_readSum_21 : decode cX4_readSum 21 = .ok (.invokevirtual 68, 3) := by decide +kernel
theorem dX4_readSum_24 : decode cX4_readSum 24 = .ok (.ifCond .ne 12, 3) := by decide +kernel
theorem dX4_readSum_27 : decode cX4_readSum 27 = .ok (.aload_n 0, 1) := by decide +kernel
theorem dX4_readSum_28 : decode cX4_readSum 28 = .ok (.bipush 45, 2) := by decide +kernel
theorem dX4_readSum_30 : decode cX4_readSum 30 = .ok (.invokevirtual 68, 3) := by decide +kernel
theorem dX4_readSum_33 : decode cX4_readSum 33 = .ok (.ifCond .eq 46, 3) := by decide +kernel
theorem dX4_readSum_36 : decode cX4_readSum 36 = .ok (.aload_n 0, 1) := by decide +kernel
theorem dX4_readSum_37 : decode cX4_readSum 37 = .ok (.bipush 43, 2) := by decide +kernel
theorem dX4_readSum_39 : decode cX4_readSum 39 = .ok (.invokevirtual 68, 3) := by decide +kernel
theorem dX4_readSum_42 : decode cX4_readSum 42 = .ok (.ifCond .eq 8, 3) := by decide +kernel
theorem dX4_readSum_45 : decode cX4_readSum 45 = .ok (.bipush (-8), 2) := by decide +kernel
theorem dX4_readSum_47 : decode cX4_readSum 47 = .ok (.goto 5, 3) := by decide +kernel
theorem dX4_readSum_50 : decode cX4_readSum 50 = .ok (.bipush (-9), 2) := by decide +kernel
theorem dX4_readSum_52 : decode cX4_readSum 52 = .ok (.istore_n 3, 1) := by decide +kernel
theorem dX4_readSum_53 : decode cX4_readSum 53 = .ok (.aload_n 0, 1) := by decide +kernel
theorem dX4_readSum_54 : decode cX4_readSum 54 = .ok (.invokevirtual 31, 3) := by decide +kernel
theorem dX4_readSum_57 : decode cX4_readSum 57 = .ok (.aload_n 0, 1) := by decide +kernel
theorem dX4_readSum_58 : decode cX4_readSum 58 = .ok (.invokevirtual 246, 3) := by decide +kernel
theorem dX4_readSum_61 : decode cX4_readSum 61 = .ok (.istore_n 1, 1) := by decide +kernel
theorem dX4_readSum_62 : decode cX4_readSum 62 = .ok (.aload_n 0, 1) := by decide +kernel
theorem dX4_readSum_63 : decode cX4_readSum 63 = .ok (.getfield 19, 3) := by decide +kernel
theorem dX4_readSum_66 : decode cX4_readSum 66 = .ok (.getfield 202, 3) := by decide +kernel
theorem dX4_readSum_69 : decode cX4_readSum 69 = .ok (.iload_n 3, 1) := by decide +kernel
theorem dX4_readSum_70 : decode cX4_readSum 70 = .ok (.invokevirtual 230, 3) := by decide +kernel
theorem dX4_readSum_73 : decode cX4_readSum 73 = .ok (.iinc 2 1, 3) := by decide +kernel
theorem dX4_readSum_76 : decode cX4_readSum 76 = .ok (.goto (-69), 3) := by decide +kernel
theorem dX4_readSum_79 : decode cX4_readSum 79 = .ok (.iload_n 1, 1) := by decide +kernel
theorem dX4_readSum_80 : decode cX4_readSum 80 = .ok (.ireturn, 1) := by decide +kernel
theorem dX4_readProduct_0 : decode cX4_readProduct 0 = .ok (.aload_n 0, 1) := by decide +kernel
theorem dX4_readProduct_1 : decode cX4_readProduct 1 = .ok (.invokevirtual 249, 3) := by decide +kernel
theorem dX4_readProduct_4 : decode cX4_readProduct 4 = .ok (.istore_n 1, 1) := by decide +kernel
theorem dX4_readProduct_5 : decode cX4_readProduct 5 = .ok (.iconst 0, 1) := by decide +kernel
theorem dX4_readProduct_6 : decode cX4_readProduct 6 = .ok (.istore_n 2, 1) := by decide +kernel
theorem dX4_readProduct_7 : decode cX4_readProduct 7 = .ok (.iload_n 2, 1) := by decide +kernel
theorem dX4_readProduct_8 : decode cX4_readProduct 8 = .ok (.sipush 1600, 3) := by decide +kernel
theorem dX4_readProduct_11 : decode cX4_readProduct 11 = .ok (.if_icmp .ge 91, 3) := by decide +kernel
theorem dX4_readProduct_14 : decode cX4_readProduct 14 = .ok (.iload_n 1, 1) := by decide +kernel
theorem dX4_readProduct_15 : decode cX4_readProduct 15 = .ok (.ifCond .eq 87, 3) := by decide +kernel
theorem dX4_readProduct_18 : decode cX4_readProduct 18 = .ok (.aload_n 0, 1) := by decide +kernel
theorem dX4_readProduct_19 : decode cX4_readProduct 19 = .ok (.bipush 42, 2) := by decide +kernel
theorem dX4_readProduct_21 : decode cX4_readProduct 21 = .ok (.invokevirtual 68, 3) := by decide +kernel
theorem dX4_readProduct_24 : decode cX4_readProduct 24 = .ok (.ifCond .ne 21, 3) := by decide +kernel
theorem dX4_readProduct_27 : decode cX4_readProduct 27 = .ok (.aload_n 0, 1) := by decide +kernel
theorem dX4_readProduct_28 : decode cX4_readProduct 28 = .ok (.bipush 47, 2) := by decide +kernel
theorem dX4_readProduct_30 : decode cX4_readProduct 30 = .ok (.invokevirtual 68, 3) := by decide +kernel
theorem dX4_readProduct_33 : decode cX4_readProduct 33 = .ok (.ifCond .ne 12, 3) := by decide +kernel
theorem dX4_readProduct_36 : decode cX4_readProduct 36 = .ok (.aload_n 0, 1) := by decide +kernel
theorem dX4_readProduct_37 : decode cX4_readProduct 37 = .ok (.bipush 37, 2) := by decide +kernel
theorem dX4_readProduct_39 : decode cX4_readProduct 39 = .ok (.invokevirtual 68, 3) := by decide +kernel
theorem dX4_readProduct_42 : decode cX4_readProduct 42 = .ok (.ifCond .eq 60, 3) := by decide +kernel
theorem dX4_readProduct_45 : decode cX4_readProduct 45 = .ok (.aload_n 0, 1) := by decide +kernel
theorem dX4_readProduct_46 : decode cX4_readProduct 46 = .ok (.bipush 42, 2) := by decide +kernel
theorem dX4_readProduct_48 : decode cX4_readProduct 48 = .ok (.invokevirtual 68, 3) := by decide +kernel
theorem dX4_readProduct_51 : decode cX4_readProduct 51 = .ok (.ifCond .eq 8, 3) := by decide +kernel
theorem dX4_readProduct_54 : decode cX4_readProduct 54 = .ok (.bipush (-10), 2) := by decide +kernel
theorem dX4_readProduct_56 : decode cX4_readProduct 56 = .ok (.goto 19, 3) := by decide +kernel
theorem dX4_readProduct_59 : decode cX4_readProduct 59 = .ok (.aload_n 0, 1) := by decide +kernel
theorem dX4_readProduct_60 : decode cX4_readProduct 60 = .ok (.bipush 47, 2) := by decide +kernel
theorem dX4_readProduct_62 : decode cX4_readProduct 62 = .ok (.invokevirtual 68, 3) := by decide +kernel
theorem dX4_readProduct_65 : decode cX4_readProduct 65 = .ok (.ifCond .eq 8, 3) := by decide +kernel
theorem dX4_readProduct_68 : decode cX4_readProduct 68 = .ok (.bipush (-11), 2) := by decide +kernel
theorem dX4_readProduct_70 : decode cX4_readProduct 70 = .ok (.goto 5, 3) := by decide +kernel
theorem dX4_readProduct_73 : decode cX4_readProduct 73 = .ok (.bipush (-12), 2) := by decide +kernel
theorem dX4_readProduct_75 : decode cX4_readProduct 75 = .ok (.istore_n 3, 1) := by decide +kernel
theorem dX4_readProduct_76 : decode cX4_readProduct 76 = .ok (.aload_n 0, 1) := by decide +kernel
theorem dX4_readProduct_77 : decode cX4_readProduct 77 = .ok (.invokevirtual 31, 3) := by decide +kernel
theorem dX4_readProduct_80 : decode cX4_readProduct 80 = .ok (.aload_n 0, 1) := by decide +kernel
theorem dX4_readProduct_81 : decode cX4_readProduct 81 = .ok (.invokevirtual 249, 3) := by decide +kernel
theorem dX4_readProduct_84 : decode cX4_readProduct 84 = .ok (.istore_n 1, 1) := by decide +kernel
theorem dX4_readProduct_85 : decode cX4_readProduct 85 = .ok (.aload_n 0, 1) := by decide +kernel
theorem dX4_readProduct_86 : decode cX4_readProduct 86 = .ok (.getfield 19, 3) := by decide +kernel
theorem dX4_readProduct_89 : decode cX4_readProduct 89 = .ok (.getfield 202, 3) := by decide +kernel
theorem dX4_readProduct_92 : decode cX4_readProduct 92 = .ok (.iload_n 3, 1) := by decide +kernel
theorem dX4_readProduct_93 : decode cX4_readProduct 93 = .ok (.invokevirtual 230, 3) := by decide +kernel
theorem dX4_readProduct_96 : decode cX4_readProduct 96 = .ok (.iinc 2 1, 3) := by decide +kernel
theorem dX4_readProduct_99 : decode cX4_readProduct 99 = .ok (.goto (-92), 3) := by decide +kernel
theorem dX4_readProduct_102 : decode cX4_readProduct 102 = .ok (.iload_n 1, 1) := by decide +kernel
theorem dX4_readProduct_103 : decode cX4_readProduct 103 = .ok (.ireturn, 1) := by decide +kernel
theorem dX4_readPart_0 : decode cX4_readPart 0 = .ok (.aload_n 0, 1) := by decide +kernel
theorem dX4_readPart_1 : decode cX4_readPart 1 = .ok (.getfield 44, 3) := by decide +kernel
theorem dX4_readPart_4 : decode cX4_readPart 4 = .ok (.iconst 2, 1) := by decide +kernel
theorem dX4_readPart_5 : decode cX4_readPart 5 = .ok (.if_icmp .ne 34, 3) := by decide +kernel
theorem dX4_readPart_8 : decode cX4_readPart 8 = .ok (.aload_n 0, 1) := by decide +kernel
theorem dX4_readPart_9 : decode cX4_readPart 9 = .ok (.bipush 40, 2) := by decide +kernel
theorem dX4_readPart_11 : decode cX4_readPart 11 = .ok (.invokevirtual 236, 3) := by decide +kernel
theorem dX4_readPart_14 : decode cX4_readPart 14 = .ok (.ifCond .eq 23, 3) := by decide +kernel
theorem dX4_readPart_17 : decode cX4_readPart 17 = .ok (.aload_n 0, 1) := by decide +kernel
theorem dX4_readPart_18 : decode cX4_readPart 18 = .ok (.invokevirtual 215, 3) := by decide +kernel
theorem dX4_readPart_21 : decode cX4_readPart 21 = .ok (.ifCond .eq 16, 3) := by decide +kernel
theorem dX4_readPart_24 : decode cX4_readPart 24 = .ok (.aload_n 0, 1) := by decide +kernel
theorem dX4_readPart_25 : decode cX4_readPart 25 = .ok (.bipush 41, 2) := by decide +kernel
theorem dX4_readPart_27 : decode cX4_readPart 27 = .ok (.invokevirtual 239, 3) := by decide +kernel
theorem dX4_readPart_30 : decode cX4_readPart 30 = .ok (.ifCond .eq 7, 3) := by decide +kernel
theorem dX4_readPart_33 : decode cX4_readPart 33 = .ok (.iconst 1, 1) := by decide +kernel
theorem dX4_readPart_34 : decode cX4_readPart 34 = .ok (.goto 4, 3) := by decide +kernel
theorem dX4_readPart_37 : decode cX4_readPart 37 = .ok (.iconst 0, 1) := by decide +kernel
theorem dX4_readPart_38 : decode cX4_readPart 38 = .ok (.ireturn, 1) := by decide +kernel
theorem dX4_readPart_39 : decode cX4_readPart 39 = .ok (.aload_n 0, 1) := by decide +kernel
theorem dX4_readPart_40 : decode cX4_readPart 40 = .ok (.getfield 44, 3) := by decide +kernel
theorem dX4_readPart_43 : decode cX4_readPart 43 = .ok (.iconst 3, 1) := by decide +kernel
theorem dX4_readPart_44 : decode cX4_readPart 44 = .ok (.if_icmp .ne 20, 3) := by decide +kernel
theorem dX4_readPart_47 : decode cX4_readPart 47 = .ok (.aload_n 0, 1) := by decide +kernel
theorem dX4_readPart_48 : decode cX4_readPart 48 = .ok (.getfield 19, 3) := by decide +kernel
theorem dX4_readPart_51 : decode cX4_readPart 51 = .ok (.getfield 202, 3) := by decide +kernel
theorem dX4_readPart_54 : decode cX4_readPart 54 = .ok (.aload_n 0, 1) := by decide +kernel
theorem dX4_readPart_55 : decode cX4_readPart 55 = .ok (.getfield 62, 3) := by decide +kernel
theorem dX4_readPart_58 : decode cX4_readPart 58 = .ok (.invokevirtual 230, 3) := by decide +kernel
theorem dX4_readPart_61 : decode cX4_readPart 61 = .ok (.goto 126, 3) := by decide +kernel
theorem dX4_readPart_64 : decode cX4_readPart 64 = .ok (.aload_n 0, 1) := by decide +kernel
theorem dX4_readPart_65 : decode cX4_readPart 65 = .ok (.getfield 44, 3) := by decide +kernel
theorem dX4_readPart_68 : decode cX4_readPart 68 = .ok (.iconst 4, 1) := by decide +kernel
theorem dX4_readPart_69 : decode cX4_readPart 69 = .ok (.if_icmp .ne 43, 3) := by decide +kernel
theorem dX4_readPart_72 : decode cX4_readPart 72 = .ok (.aload_n 0, 1) := by decide +kernel
theorem dX4_readPart_73 : decode cX4_readPart 73 = .ok (.getfield 62, 3) := by decide +kernel
theorem dX4_readPart_76 : decode cX4_readPart 76 = .ok (.bipush 22, 2) := by decide +kernel
theorem dX4_readPart_78 : decode cX4_readPart 78 = .ok (.if_icmp .lt 34, 3) := by decide +kernel
theorem dX4_readPart_81 : decode cX4_readPart 81 = .ok (.aload_n 0, 1) := by decide +kernel
theorem dX4_readPart_82 : decode cX4_readPart 82 = .ok (.getfield 62, 3) := by decide +kernel
theorem dX4_readPart_85 : decode cX4_readPart 85 = .ok (.bipush 26, 2) := by decide +kernel
theorem dX4_readPart_87 : decode cX4_readPart 87 = .ok (.if_icmp .gt 25, 3) := by decide +kernel
theorem dX4_readPart_90 : decode cX4_readPart 90 = .ok (.aload_n 0, 1) := by decide +kernel
theorem dX4_readPart_91 : decode cX4_readPart 91 = .ok (.getfield 19, 3) := by decide +kernel
theorem dX4_readPart_94 : decode cX4_readPart 94 = .ok (.getfield 202, 3) := by decide +kernel
theorem dX4_readPart_97 : decode cX4_readPart 97 = .ok (.iconst (-1), 1) := by decide +kernel
theorem dX4_readPart_98 : decode cX4_readPart 98 = .ok (.aload_n 0, 1) := by decide +kernel
theorem dX4_readPart_99 : decode cX4_readPart 99 = .ok (.getfield 62, 3) := by decide +kernel
theorem dX4_readPart_102 : decode cX4_readPart 102 = .ok (.bipush 22, 2) := by decide +kernel
theorem dX4_readPart_104 : decode cX4_readPart 104 = .ok (.isub, 1) := by decide +kernel
theorem dX4_readPart_105 : decode cX4_readPart 105 = .ok (.isub, 1) := by decide +kernel
theorem dX4_readPart_106 : decode cX4_readPart 106 = .ok (.invokevirtual 230, 3) := by decide +kernel
theorem dX4_readPart_109 : decode cX4_readPart 109 = .ok (.goto 78, 3) := by decide +kernel
theorem dX4_readPart_112 : decode cX4_readPart 112 = .ok (.aload_n 0, 1) := by decide +kernel
theorem dX4_readPart_113 : decode cX4_readPart 113 = .ok (.bipush 6, 2) := by decide +kernel
theorem dX4_readPart_115 : decode cX4_readPart 115 = .ok (.invokevirtual 75, 3) := by decide +kernel
theorem dX4_readPart_118 : decode cX4_readPart 118 = .ok (.ifCond .eq 18, 3) := by decide +kernel
theorem dX4_readPart_121 : decode cX4_readPart 121 = .ok (.aload_n 0, 1) := by decide +kernel
theorem dX4_readPart_122 : decode cX4_readPart 122 = .ok (.getfield 19, 3) := by decide +kernel
theorem dX4_readPart_125 : decode cX4_readPart 125 = .ok (.getfield 202, 3) := by decide +kernel
theorem dX4_readPart_128 : decode cX4_readPart 128 = .ok (.bipush (-6), 2) := by decide +kernel
theorem dX4_readPart_130 : decode cX4_readPart 130 = .ok (.invokevirtual 230, 3) := by decide +kernel
theorem dX4_readPart_133 : decode cX4_readPart 133 = .ok (.goto 54, 3) := by decide +kernel
theorem dX4_readPart_136 : decode cX4_readPart 136 = .ok (.aload_n 0, 1) := by decide +kernel
theorem dX4_readPart_137 : decode cX4_readPart 137 = .ok (.bipush 27, 2) := by decide +kernel
theorem dX4_readPart_139 : decode cX4_readPart 139 = .ok (.invokevirtual 75, 3) := by decide +kernel
theorem dX4_readPart_142 : decode cX4_readPart 142 = .ok (.ifCond .ne 12, 3) := by decide +kernel
theorem dX4_readPart_145 : decode cX4_readPart 145 = .ok (.aload_n 0, 1) := by decide +kernel
theorem dX4_readPart_146 : decode cX4_readPart 146 = .ok (.bipush 28, 2) := by decide +kernel
theorem dX4_readPart_148 : decode cX4_readPart 148 = .ok (.invokevirtual 75, 3) := by decide +kernel
theorem dX4_readPart_151 : decode cX4_readPart 151 = .ok (.ifCond .eq 30, 3) := by decide +kernel
theorem dX4_readPart_154 : decode cX4_readPart 154 = .ok (.aload_n 0, 1) := by decide +kernel
theorem dX4_readPart_155 : decode cX4_readPart 155 = .ok (.bipush 27, 2) := by decide +kernel
theorem dX4_readPart_157 : decode cX4_readPart 157 = .ok (.invokevirtual 75, 3) := by decide +kernel
theorem dX4_readPart_160 : decode cX4_readPart 160 = .ok (.ifCond .eq 8, 3) := by decide +kernel
theorem dX4_readPart_163 : decode cX4_readPart 163 = .ok (.bipush (-13), 2) := by decide +kernel
theorem dX4_readPart_165 : decode cX4_readPart 165 = .ok (.goto 5, 3) := by decide +kernel
theorem dX4_readPart_168 : decode cX4_readPart 168 = .ok (.bipush (-14), 2) := by decide +kernel
theorem dX4_readPart_170 : decode cX4_readPart 170 = .ok (.istore_n 1, 1) := by decide +kernel
theorem dX4_readPart_171 : decode cX4_readPart 171 = .ok (.aload_n 0, 1) := by decide +kernel
theorem dX4_readPart_172 : decode cX4_readPart 172 = .ok (.invokevirtual 31, 3) := by decide +kernel
theorem dX4_readPart_175 : decode cX4_readPart 175 = .ok (.aload_n 0, 1) := by decide +kernel
theorem dX4_readPart_176 : decode cX4_readPart 176 = .ok (.iload_n 1, 1) := by decide +kernel
theorem dX4_readPart_177 : decode cX4_readPart 177 = .ok (.invokevirtual 252, 3) := by decide +kernel
theorem dX4_readPart_180 : decode cX4_readPart 180 = .ok (.ireturn, 1) := by decide +kernel
theorem dX4_readPart_181 : decode cX4_readPart 181 = .ok (.aload_n 0, 1) := by decide +kernel
theorem dX4_readPart_182 : decode cX4_readPart 182 = .ok (.iconst 1, 1) := by decide +kernel
theorem dX4_readPart_183 : decode cX4_readPart 183 = .ok (.invokevirtual 72, 3) := by decide +kernel
theorem dX4_readPart_186 : decode cX4_readPart 186 = .ok (.ireturn, 1) := by decide +kernel
theorem dX4_readPart_187 : decode cX4_readPart 187 = .ok (.aload_n 0, 1) := by decide +kernel
theorem dX4_readPart_188 : decode cX4_readPart 188 = .ok (.invokevirtual 31, 3) := by decide +kernel
theorem dX4_readPart_191 : decode cX4_readPart 191 = .ok (.iconst 1, 1) := by decide +kernel
theorem dX4_readPart_192 : decode cX4_readPart 192 = .ok (.ireturn, 1) := by decide +kernel
theorem dX4_readPairOfSums_0 : decode cX4_readPairOfSums 0 = .ok (.aload_n 0, 1) := by decide +kernel
theorem dX4_readPairOfSums_1 : decode cX4_readPairOfSums 1 = .ok (.bipush 40, 2) := by decide +kernel
theorem dX4_readPairOfSums_3 : decode cX4_readPairOfSums 3 = .ok (.invokevirtual 236, 3) := by decide +kernel
theorem dX4_readPairOfSums_6 : decode cX4_readPairOfSums 6 = .ok (.ifCond .eq 39, 3) := by decide +kernel
theorem dX4_readPairOfSums_9 : decode cX4_readPairOfSums 9 = .ok (.aload_n 0, 1) := by decide +kernel
theorem dX4_readPairOfSums_10 : decode cX4_readPairOfSums 10 = .ok (.invokevirtual 215, 3) := by decide +kernel
theorem dX4_readPairOfSums_13 : decode cX4_readPairOfSums 13 = .ok (.ifCond .eq 32, 3) := by decide +kernel
theorem dX4_readPairOfSums_16 : decode cX4_readPairOfSums 16 = .ok (.aload_n 0, 1) := by decide +kernel
theorem dX4_readPairOfSums_17 : decode cX4_readPairOfSums 17 = .ok (.bipush 44, 2) := by decide +kernel
theorem dX4_readPairOfSums_19 : decode cX4_readPairOfSums 19 = .ok (.invokevirtual 104, 3) := by decide +kernel
theorem dX4_readPairOfSums_22 : decode cX4_readPairOfSums 22 = .ok (.ifCond .eq 23, 3) := by decide +kernel
theorem dX4_readPairOfSums_25 : decode cX4_readPairOfSums 25 = .ok (.aload_n 0, 1) := by decide +kernel
theorem dX4_readPairOfSums_26 : decode cX4_readPairOfSums 26 = .ok (.invokevirtual 215, 3) := by decide +kernel
theorem dX4_readPairOfSums_29 : decode cX4_readPairOfSums 29 = .ok (.ifCond .eq 16, 3) := by decide +kernel
theorem dX4_readPairOfSums_32 : decode cX4_readPairOfSums 32 = .ok (.aload_n 0, 1) := by decide +kernel
theorem dX4_readPairOfSums_33 : decode cX4_readPairOfSums 33 = .ok (.bipush 41, 2) := by decide +kernel
theorem dX4_readPairOfSums_35 : decode cX4_readPairOfSums 35 = .ok (.invokevirtual 239, 3) := by decide +kernel
theorem dX4_readPairOfSums_38 : decode cX4_readPairOfSums 38 = .ok (.ifCond .eq 7, 3) := by decide +kernel
theorem dX4_readPairOfSums_41 : decode cX4_readPairOfSums 41 = .ok (.iconst 1, 1) := by decide +kernel
theorem dX4_readPairOfSums_42 : decode cX4_readPairOfSums 42 = .ok (.goto 4, 3) := by decide +kernel
theorem dX4_readPairOfSums_45 : decode cX4_readPairOfSums 45 = .ok (.iconst 0, 1) := by decide +kernel
theorem dX4_readPairOfSums_46 : decode cX4_readPairOfSums 46 = .ok (.istore_n 2, 1) := by decide +kernel
theorem dX4_readPairOfSums_47 : decode cX4_readPairOfSums 47 = .ok (.aload_n 0, 1) := by decide +kernel
theorem dX4_readPairOfSums_48 : decode cX4_readPairOfSums 48 = .ok (.getfield 19, 3) := by decide +kernel
theorem dX4_readPairOfSums_51 : decode cX4_readPairOfSums 51 = .ok (.getfield 202, 3) := by decide +kernel
theorem dX4_readPairOfSums_54 : decode cX4_readPairOfSums 54 = .ok (.iload_n 1, 1) := by decide +kernel
theorem dX4_readPairOfSums_55 : decode cX4_readPairOfSums 55 = .ok (.invokevirtual 230, 3) := by decide +kernel
theorem dX4_readPairOfSums_58 : decode cX4_readPairOfSums 58 = .ok (.iload_n 2, 1) := by decide +kernel
theorem dX4_readPairOfSums_59 : decode cX4_readPairOfSums 59 = .ok (.ireturn, 1) := by decide +kernel
theorem dX5_init_0 : decode cX5_init 0 = .ok (.aload_n 0, 1) := by decide +kernel
theorem dX5_init_1 : decode cX5_init 1 = .ok (.invokespecial 3, 3) := by decide +kernel
theorem dX5_init_4 : decode cX5_init 4 = .ok (.aload_n 0, 1) := by decide +kernel
theorem dX5_init_5 : decode cX5_init 5 = .ok (.sipush 1600, 3) := by decide +kernel
theorem dX5_init_8 : decode cX5_init 8 = .ok (.newarray .int, 2) := by decide +kernel
theorem dX5_init_10 : decode cX5_init 10 = .ok (.putfield 9, 3) := by decide +kernel
theorem dX5_init_13 : decode cX5_init 13 = .ok (.aload_n 0, 1) := by decide +kernel
theorem dX5_init_14 : decode cX5_init 14 = .ok (.iconst 3, 1) := by decide +kernel
theorem dX5_init_15 : decode cX5_init 15 = .ok (.newarray .int, 2) := by decide +kernel
theorem dX5_init_17 : decode cX5_init 17 = .ok (.putfield 15, 3) := by decide +kernel
theorem dX5_init_20 : decode cX5_init 20 = .ok (.aload_n 0, 1) := by decide +kernel
theorem dX5_init_21 : decode cX5_init 21 = .ok (.bipush 18, 2) := by decide +kernel
theorem dX5_init_23 : decode cX5_init 23 = .ok (.newarray .int, 2) := by decide +kernel
theorem dX5_init_25 : decode cX5_init 25 = .ok (.putfield 18, 3) := by decide +kernel
theorem dX5_init_28 : decode cX5_init 28 = .ok (.aload_n 0, 1) := by decide +kernel
theorem dX5_init_29 : decode cX5_init 29 = .ok (.bipush 18, 2) := by decide +kernel
theorem dX5_init_31 : decode cX5_init 31 = .ok (.newarray .int, 2) := by decide +kernel
theorem dX5_init_33 : decode cX5_init 33 = .ok (.putfield 21, 3) := by decide +kernel
theorem dX5_init_36 : decode cX5_init 36 = .ok (.aload_n 0, 1) := by decide +kernel
theorem dX5_init_37 : decode cX5_init 37 = .ok (.bipush 18, 2) := by decide +kernel
theorem dX5_init_39 : decode cX5_init 39 = .ok (.newarray .int, 2) := by decide +kernel
theorem dX5_init_41 : decode cX5_init 41 = .ok (.putfield 24, 3) := by decide +kernel
theorem dX5_init_44 : decode cX5_init 44 = .ok (.aload_n 0, 1) := by decide +kernel
theorem dX5_init_45 : decode cX5_init 45 = .ok (.bipush 6, 2) := by decide +kernel
theorem dX5_init_47 : decode cX5_init 47 = .ok (.newarray .int, 2) := by decide +kernel
theorem dX5_init_49 : decode cX5_init 49 = .ok (.putfield 27, 3) := by decide +kernel
theorem dX5_init_52 : decode cX5_init 52 = .ok (.aload_n 0, 1) := by decide +kernel
theorem dX5_init_53 : decode cX5_init 53 = .ok (.bipush 64, 2) := by decide +kernel
theorem dX5_init_55 : decode cX5_init 55 = .ok (.newarray .int, 2) := by decide +kernel
theorem dX5_init_57 : decode cX5_init 57 = .ok (.putfield 30, 3) := by decide +kernel
theorem dX5_init_60 : decode cX5_init 60 = .ok (.return_, 1) := by decide +kernel
theorem dX5_clear_0 : decode cX5_clear 0 = .ok (.aload_n 0, 1) := by decide +kernel
theorem dX5_clear_1 : decode cX5_clear 1 = .ok (.iconst 0, 1) := by decide +kernel
theorem dX5_clear_2 : decode cX5_clear 2 = .ok (.putfield 33, 3) := by decide +kernel
theorem dX5_clear_5 : decode cX5_clear 5 = .ok (.aload_n 0, 1) := by decide +kernel
theorem dX5_clear_6 : decode cX5_clear 6 = .ok (.getfield 15, 3) := by decide +kernel
theorem dX5_clear_9 : decode cX5_clear 9 = .ok (.iconst 0, 1) := by decide +kernel
theorem dX5_clear_10 : decode cX5_clear 10 = .ok (.invokestatic 37, 3) := by decide +kernel
theorem dX5_clear_13 : decode cX5_clear 13 = .ok (.return_, 1) := by decide +kernel
theorem dX5_howMany_0 : decode cX5_howMany 0 = .ok (.iload_n 1, 1) := by decide +kernel
theorem dX5_howMany_1 : decode cX5_howMany 1 = .ok (.ifCond .lt 8, 3) := by decide +kernel
theorem dX5_howMany_4 : decode cX5_howMany 4 = .ok (.iload_n 1, 1) := by decide +kernel
theorem dX5_howMany_5 : decode cX5_howMany 5 = .ok (.iconst 3, 1) := by decide +kernel
theorem dX5_howMany_6 : decode cX5_howMany 6 = .ok (.if_icmp .lt 7, 3) := by decide +kernel
theorem dX5_howMany_9 : decode cX5_howMany 9 = .ok (.iconst 0, 1) := by decide +kernel
theorem dX5_howMany_10 : decode cX5_howMany 10 = .ok (.goto 9, 3) := by decide +kernel
theorem dX5_howMany_13 : decode cX5_howMany 13 = .ok (.aload_n 0, 1) := by decide +kernel
theorem dX5_howMany_14 : decode cX5_howMany 14 = .ok (.getfield 15, 3) := by decide +kernel
theorem dX5_howMany_17 : decode cX5_howMany 17 = .ok (.iload_n 1, 1) := by decide +kernel
theorem dX5_howMany_18 : decode cX5_howMany 18 = .ok (.iaload, 1) := by decide +kernel
theorem dX5_howMany_19 : decode cX5_howMany 19 = .ok (.ireturn, 1) := by decide +kernel
theorem dX5_roomFor_0 : decode cX5_roomFor 0 = .ok (.iload_n 0, 1) := by decide +kernel
theorem dX5_roomFor_1 : decode cX5_roomFor 1 = .ok (.iconst 2, 1) := by decide +kernel
theorem dX5_roomFor_2 : decode cX5_roomFor 2 = .ok (.if_icmp .ne 7, 3) := by decide +kernel
theorem dX5_roomFor_5 : decode cX5_roomFor 5 = .ok (.iconst 4, 1) := by decide +kernel
theorem dX5_roomFor_6 : decode cX5_roomFor 6 = .ok (.goto 5, 3) := by decide +kernel
theorem dX5_roomFor_9 : decode cX5_roomFor 9 = .ok (.bipush 6, 2) := by decide +kernel
theorem dX5_roomFor_11 : decode cX5_roomFor 11 = .ok (.ireturn, 1) := by decide +kernel
theorem dX5_emit_0 : decode cX5_emit 0 = .ok (.aload_n 0, 1) := by decide +kernel
theorem dX5_emit_1 : decode cX5_emit 1 = .ok (.getfield 33, 3) := by decide +kernel
theorem dX5_emit_4 : decode cX5_emit 4 = .ok (.aload_n 0, 1) := by decide +kernel
theorem dX5_emit_5 : decode cX5_emit 5 = .ok (.getfield 9, 3) := by decide +kernel
theorem dX5_emit_8 : decode cX5_emit 8 = .ok (.arraylength, 1) := by decide +kernel
theorem dX5_emit_9 : decode cX5_emit 9 = .ok (.if_icmp .ge 23, 3) := by decide +kernel
theorem dX5_emit_12 : decode cX5_emit 12 = .ok (.aload_n 0, 1) := by decide +kernel
theorem dX5_emit_13 : decode cX5_emit 13 = .ok (.getfield 9, 3) := by decide +kernel
theorem dX5_emit_16 : decode cX5_emit 16 = .ok (.aload_n 0, 1) := by decide +kernel
theorem dX5_emit_17 : decode cX5_emit 17 = .ok (.getfield 33, 3) := by decide +kernel
theorem dX5_emit_20 : decode cX5_emit 20 = .ok (.iload_n 1, 1) := by decide +kernel
theorem dX5_emit_21 : decode cX5_emit 21 = .ok (.iastore, 1) := by decide +kernel
theorem dX5_emit_22 : decode cX5_emit 22 = .ok (.aload_n 0, 1) := by decide +kernel
theorem dX5_emit_23 : decode cX5_emit 23 = .ok (.dup, 1) := by decide +kernel
theorem dX5_emit_24 : decode cX5_emit 24 = .ok (.getfield 33, 3) := by decide +kernel
theorem dX5_emit_27 : decode cX5_emit 27 = .ok (.iconst 1, 1) := by decide +kernel
theorem dX5_emit_28 : decode cX5_emit 28 = .ok (.iadd, 1) := by decide +kernel
theorem dX5_emit_29 : decode cX5_emit 29 = .ok (.putfield 33, 3) := by decide +kernel
theorem dX5_emit_32 : decode cX5_emit 32 = .ok (.return_, 1) := by decide +kernel
theorem dX5_slot_0 : decode cX5_slot 0 = .ok (.iload_n 1, 1) := by decide +kernel
theorem dX5_slot_1 : decode cX5_slot 1 = .ok (.bipush 6, 2) := by decide +kernel
theorem dX5_slot_3 : decode cX5_slot 3 = .ok (.imul, 1) := by decide +kernel
theorem dX5_slot_4 : decode cX5_slot 4 = .ok (.aload_n 0, 1) := by decide +kernel
theorem dX5_slot_5 : decode cX5_slot 5 = .ok (.getfield 15, 3) := by decide +kernel
theorem dX5_slot_8 : decode cX5_slot 8 = .ok (.iload_n 1, 1) := by decide +kernel
theorem dX5_slot_9 : decode cX5_slot 9 = .ok (.iaload, 1) := by decide +kernel
theorem dX5_slot_10 : decode cX5_slot 10 = .ok (.iconst 5, 1) := by decide +kernel
theorem dX5_slot_11 : decode cX5_slot 11 = .ok (.invokestatic 43, 3) := by decide +kernel
theorem dX5_slot_14 : decode cX5_slot 14 = .ok (.iadd, 1) := by decide +kernel
theorem dX5_slot_15 : decode cX5_slot 15 = .ok (.ireturn, 1) := by decide +kernel
theorem dX5_beginSum_0 : decode cX5_beginSum 0 = .ok (.aload_n 0, 1) := by decide +kernel
theorem dX5_beginSum_1 : decode cX5_beginSum 1 = .ok (.getfield 18, 3) := by decide +kernel
theorem dX5_beginSum_4 : decode cX5_beginSum 4 = .ok (.aload_n 0, 1) := by decide +kernel
theorem dX5_beginSum_5 : decode cX5_beginSum 5 = .ok (.iload_n 1, 1) := by decide +kernel
theorem dX5_beginSum_6 : decode cX5_beginSum 6 = .ok (.invokevirtual 49, 3) := by decide +kernel
theorem dX5_beginSum_9 : decode cX5_beginSum 9 = .ok (.aload_n 0, 1) := by decide +kernel
theorem dX5_beginSum_10 : decode cX5_beginSum 10 = .ok (.getfield 33, 3) := by decide +kernel
theorem dX5_beginSum_13 : decode cX5_beginSum 13 = .ok (.iastore, 1) := by decide +kernel
theorem dX5_beginSum_14 : decode cX5_beginSum 14 = .ok (.return_, 1) := by decide +kernel
theorem dX5_beginTest_0 : decode cX5_beginTest 0 = .ok (.aload_n 0, 1) := by decide +kernel
theorem dX5_beginTest_1 : decode cX5_beginTest 1 = .ok (.getfield 21, 3) := by decide +kernel
theorem dX5_beginTest_4 : decode cX5_beginTest 4 = .ok (.aload_n 0, 1) := by decide +kernel
theorem dX5_beginTest_5 : decode cX5_beginTest 5 = .ok (.iload_n 1, 1) := by decide +kernel
theorem dX5_beginTest_6 : decode cX5_beginTest 6 = .ok (.invokevirtual 49, 3) := by decide +kernel
theorem dX5_beginTest_9 : decode cX5_beginTest 9 = .ok (.aload_n 0, 1) := by decide +kernel
theorem dX5_beginTest_10 : decode cX5_beginTest 10 = .ok (.getfield 33, 3) := by decide +kernel
theorem dX5_beginTest_13 : decode cX5_beginTest 13 = .ok (.iastore, 1) := by decide +kernel
theorem dX5_beginTest_14 : decode cX5_beginTest 14 = .ok (.return_, 1) := by decide +kernel
theorem dX5_finish_0 : decode cX5_finish 0 = .ok (.aload_n 0, 1) := by decide +kernel
theorem dX5_finish_1 : decode cX5_finish 1 = .ok (.getfield 24, 3) := by decide +kernel
theorem dX5_finish_4 : decode cX5_finish 4 = .ok (.aload_n 0, 1) := by decide +kernel
theorem dX5_finish_5 : decode cX5_finish 5 = .ok (.iload_n 1, 1) := by decide +kernel
theorem dX5_finish_6 : decode cX5_finish 6 = .ok (.invokevirtual 49, 3) := by decide +kernel
theorem dX5_finish_9 : decode cX5_finish 9 = .ok (.aload_n 0, 1) := by decide +kernel
theorem dX5_finish_10 : decode cX5_finish 10 = .ok (.getfield 33, 3) := by decide +kernel
theorem dX5_finish_13 : decode cX5_finish 13 = .ok (.iastore, 1) := by decide +kernel
theorem dX5_finish_14 : decode cX5_finish 14 = .ok (.aload_n 0, 1) := by decide +kernel
theorem dX5_finish_15 : decode cX5_finish 15 = .ok (.getfield 15, 3) := by decide +kernel
theorem dX5_finish_18 : decode cX5_finish 18 = .ok (.iload_n 1, 1) := by decide +kernel
theorem dX5_finish_19 : decode cX5_finish 19 = .ok (.dup2, 1) := by decide +kernel
theorem dX5_finish_20 : decode cX5_finish 20 = .ok (.iaload, 1) := by decide +kernel
theorem dX5_finish_21 : decode cX5_finish 21 = .ok (.iconst 1, 1) := by decide +kernel
theorem dX5_finish_22 : decode cX5_finish 22 = .ok (.iadd, 1) := by decide +kernel
theorem dX5_finish_23 : decode cX5_finish 23 = .ok (.iastore, 1) := by decide +kernel
theorem dX5_finish_24 : decode cX5_finish 24 = .ok (.return_, 1) := by decide +kernel
theorem dX5_tell_0 : decode cX5_tell 0 = .ok (.aload_n 0, 1) := by decide +kernel
theorem dX5_tell_1 : decode cX5_tell 1 = .ok (.getfield 27, 3) := by decide +kernel
theorem dX5_tell_4 : decode cX5_tell 4 = .ok (.iconst 0, 1) := by decide +kernel
theorem dX5_tell_5 : decode cX5_tell 5 = .ok (.iload_n 1, 1) := by decide +kernel
theorem dX5_tell_6 : decode cX5_tell 6 = .ok (.iastore, 1) := by decide +kernel
theorem dX5_tell_7 : decode cX5_tell 7 = .ok (.aload_n 0, 1) := by decide +kernel
theorem dX5_tell_8 : decode cX5_tell 8 = .ok (.getfield 27, 3) := by decide +kernel
theorem dX5_tell_11 : decode cX5_tell 11 = .ok (.iconst 1, 1) := by decide +kernel
theorem dX5_tell_12 : decode cX5_tell 12 = .ok (.iload_n 2, 1) := by decide +kernel
theorem dX5_tell_13 : decode cX5_tell 13 = .ok (.iastore, 1) := by decide +kernel
theorem dX5_tell_14 : decode cX5_tell 14 = .ok (.aload_n 0, 1) := by decide +kernel
theorem dX5_tell_15 : decode cX5_tell 15 = .ok (.getfield 27, 3) := by decide +kernel
theorem dX5_tell_18 : decode cX5_tell 18 = .ok (.iconst 2, 1) := by decide +kernel
theorem dX5_tell_19 : decode cX5_tell 19 = .ok (.iload_n 3, 1) := by decide +kernel
theorem dX5_tell_20 : decode cX5_tell 20 = .ok (.iastore, 1) := by decide +kernel
theorem dX5_tell_21 : decode cX5_tell 21 = .ok (.aload_n 0, 1) := by decide +kernel
theorem dX5_tell_22 : decode cX5_tell 22 = .ok (.getfield 27, 3) := by decide +kernel
theorem dX5_tell_25 : decode cX5_tell 25 = .ok (.iconst 5, 1) := by decide +kernel
theorem dX5_tell_26 : decode cX5_tell 26 = .ok (.iload 4, 2) := by decide +kernel
theorem dX5_tell_28 : decode cX5_tell 28 = .ok (.iastore, 1) := by decide +kernel
theorem dX5_tell_29 : decode cX5_tell 29 = .ok (.return_, 1) := by decide +kernel
theorem dX5_point_0 : decode cX5_point 0 = .ok (.aload_n 0, 1) := by decide +kernel
theorem dX5_point_1 : decode cX5_point 1 = .ok (.getfield 27, 3) := by decide +kernel
theorem dX5_point_4 : decode cX5_point 4 = .ok (.iconst 3, 1) := by decide +kernel
theorem dX5_point_5 : decode cX5_point 5 = .ok (.iload_n 1, 1) := by decide +kernel
theorem dX5_point_6 : decode cX5_point 6 = .ok (.iastore, 1) := by decide +kernel
theorem dX5_point_7 : decode cX5_point 7 = .ok (.aload_n 0, 1) := by decide +kernel
theorem dX5_point_8 : decode cX5_point 8 = .ok (.getfield 27, 3) := by decide +kernel
theorem dX5_point_11 : decode cX5_point 11 = .ok (.iconst 4, 1) := by decide +kernel
theorem dX5_point_12 : decode cX5_point 12 = .ok (.iload_n 2, 1) := by decide +kernel
theorem dX5_point_13 : decode cX5_point 13 = .ok (.iastore, 1) := by decide +kernel
theorem dX5_point_14 : decode cX5_point 14 = .ok (.return_, 1) := by decide +kernel
theorem dX5_choose_0 : decode cX5_choose 0 = .ok (.iconst 0, 1) := by decide +kernel
theorem dX5_choose_1 : decode cX5_choose 1 = .ok (.istore_n 3, 1) := by decide +kernel
theorem dX5_choose_2 : decode cX5_choose 2 = .ok (.iload_n 3, 1) := by decide +kernel
theorem dX5_choose_3 : decode cX5_choose 3 = .ok (.aload_n 0, 1) := by decide +kernel
theorem dX5_choose_4 : decode cX5_choose 4 = .ok (.getfield 15, 3) := by decide +kernel
theorem dX5_choose_7 : decode cX5_choose 7 = .ok (.iload_n 1, 1) := by decide +kernel
theorem dX5_choose_8 : decode cX5_choose 8 = .ok (.iaload, 1) := by decide +kernel
theorem dX5_choose_9 : decode cX5_choose 9 = .ok (.if_icmp .ge 63, 3) := by decide +kernel
theorem dX5_choose_12 : decode cX5_choose 12 = .ok (.iload_n 3, 1) := by decide +kernel
theorem dX5_choose_13 : decode cX5_choose 13 = .ok (.bipush 6, 2) := by decide +kernel
theorem dX5_choose_15 : decode cX5_choose 15 = .ok (.if_icmp .ge 57, 3) := by decide +kernel
theorem dX5_choose_18 : decode cX5_choose 18 = .ok (.iload_n 1, 1) := by decide +kernel
theorem dX5_choose_19 : decode cX5_choose 19 = .ok (.bipush 6, 2) := by decide +kernel
theorem dX5_choose_21 : decode cX5_choose 21 = .ok (.imul, 1) := by decide +kernel
theorem dX5_choose_22 : decode cX5_choose 22 = .ok (.iload_n 3, 1) := by decide +kernel
theorem dX5_choose_23 : decode cX5_choose 23 = .ok (.iadd, 1) := by decide +kernel
theorem dX5_choose_24 : decode cX5_choose 24 = .ok (.istore 4, 2) := by decide +kernel
theorem dX5_choose_26 : decode cX5_choose 26 = .ok (.aload_n 0, 1) := by decide +kernel
theorem dX5_choose_27 : decode cX5_choose 27 = .ok (.aload_n 0, 1) := by decide +kernel
theorem dX5_choose_28 : decode cX5_choose 28 = .ok (.getfield 21, 3) := by decide +kernel
theorem dX5_choose_31 : decode cX5_choose 31 = .ok (.iload 4, 2) := by decide +kernel
theorem dX5_choose_33 : decode cX5_choose 33 = .ok (.iaload, 1) := by decide +kernel
theorem dX5_choose_34 : decode cX5_choose 34 = .ok (.aload_n 0, 1) := by decide +kernel
theorem dX5_choose_35 : decode cX5_choose 35 = .ok (.getfield 24, 3) := by decide +kernel
theorem dX5_choose_38 : decode cX5_choose 38 = .ok (.iload 4, 2) := by decide +kernel
theorem dX5_choose_40 : decode cX5_choose 40 = .ok (.iaload, 1) := by decide +kernel
theorem dX5_choose_41 : decode cX5_choose 41 = .ok (.invokevirtual 53, 3) := by decide +kernel
theorem dX5_choose_44 : decode cX5_choose 44 = .ok (.ifCond .eq 22, 3) := by decide +kernel
theorem dX5_choose_47 : decode cX5_choose 47 = .ok (.aload_n 0, 1) := by decide +kernel
theorem dX5_choose_48 : decode cX5_choose 48 = .ok (.aload_n 0, 1) := by decide +kernel
theorem dX5_choose_49 : decode cX5_choose 49 = .ok (.getfield 18, 3) := by decide +kernel
theorem dX5_choose_52 : decode cX5_choose 52 = .ok (.iload 4, 2) := by decide +kernel
theorem dX5_choose_54 : decode cX5_choose 54 = .ok (.iaload, 1) := by decide +kernel
theorem dX5_choose_55 : decode cX5_choose 55 = .ok (.aload_n 0, 1) := by decide +kernel
theorem dX5_choose_56 : decode cX5_choose 56 = .ok (.getfield 21, 3) := by decide +kernel
theorem dX5_choose_59 : decode cX5_choose 59 = .ok (.iload 4, 2) := by decide +kernel
theorem dX5_choose_61 : decode cX5_choose 61 = .ok (.iaload, 1) := by decide +kernel
theorem dX5_choose_62 : decode cX5_choose 62 = .ok (.invokevirtual 53, 3) := by decide +kernel
theorem dX5_choose_65 : decode cX5_choose 65 = .ok (.ireturn, 1) := by decide +kernel
theorem dX5_choose_66 : decode cX5_choose 66 = .ok (.iinc 3 1, 3) := by decide +kernel
theorem dX5_choose_69 : decode cX5_choose 69 = .ok (.goto (-67), 3) := by decide +kernel
theorem dX5_choose_72 : decode cX5_choose 72 = .ok (.iload_n 2, 1) := by decide +kernel
theorem dX5_choose_73 : decode cX5_choose 73 = .ok (.ireturn, 1) := by decide +kernel
theorem dX5_run_0 : decode cX5_run 0 = .ok (.aload_n 0, 1) := by decide +kernel
theorem dX5_run_1 : decode cX5_run 1 = .ok (.iconst 0, 1) := by decide +kernel
theorem dX5_run_2 : decode cX5_run 2 = .ok (.putfield 56, 3) := by decide +kernel
theorem dX5_run_5 : decode cX5_run 5 = .ok (.iload_n 1, 1) := by decide +kernel
theorem dX5_run_6 : decode cX5_run 6 = .ok (.istore_n 3, 1) := by decide +kernel
theorem dX5_run_7 : decode cX5_run 7 = .ok (.iload_n 3, 1) := by decide +kernel
theorem dX5_run_8 : decode cX5_run 8 = .ok (.iload_n 2, 1) := by decide +kernel
theorem dX5_run_9 : decode cX5_run 9 = .ok (.if_icmp .ge 105, 3) := by decide +kernel
theorem dX5_run_12 : decode cX5_run 12 = .ok (.iload_n 3, 1) := by decide +kernel
theorem dX5_run_13 : decode cX5_run 13 = .ok (.aload_n 0, 1) := by decide +kernel
theorem dX5_run_14 : decode cX5_run 14 = .ok (.getfield 33, 3) := by decide +kernel
theorem dX5_run_17 : decode cX5_run 17 = .ok (.if_icmp .ge 97, 3) := by decide +kernel
theorem dX5_run_20 : decode cX5_run 20 = .ok (.aload_n 0, 1) := by decide +kernel
theorem dX5_run_21 : decode cX5_run 21 = .ok (.getfield 9, 3) := by decide +kernel
theorem dX5_run_24 : decode cX5_run 24 = .ok (.iload_n 3, 1) := by decide +kernel
theorem dX5_run_25 : decode cX5_run 25 = .ok (.iaload, 1) := by decide +kernel
theorem dX5_run_26 : decode cX5_run 26 = .ok (.istore 4, 2) := by decide +kernel
theorem dX5_run_28 : decode cX5_run 28 = .ok (.iload 4, 2) := by decide +kernel
theorem dX5_run_30 : decode cX5_run 30 = .ok (.ifCond .lt 12, 3) := by decide +kernel
theorem dX5_run_33 : decode cX5_run 33 = .ok (.aload_n 0, 1) := by decide +kernel
theorem dX5_run_34 : decode cX5_run 34 = .ok (.iload 4, 2) := by decide +kernel
theorem dX5_run_36 : decode cX5_run 36 = .ok (.invokevirtual 59, 3) := by decide +kernel
theorem dX5_run_39 : decode cX5_run 39 = .ok (.goto 69, 3) := by decide +kernel
theorem dX5_run_42 : decode cX5_run 42 = .ok (.iload 4, 2) := by decide +kernel
theorem dX5_run_44 : decode cX5_run 44 = .ok (.bipush (-6), 2) := by decide +kernel
theorem dX5_run_46 : decode cX5_run 46 = .ok (.if_icmp .lt 19, 3) := by decide +kernel
theorem dX5_run_49 : decode cX5_run 49 = .ok (.aload_n 0, 1) := by decide +kernel
theorem dX5_run_50 : decode cX5_run 50 = .ok (.aload_n 0, 1) := by decide +kernel
theorem dX5_run_51 : decode cX5_run 51 = .ok (.getfield 27, 3) := by decide +kernel
theorem dX5_run_54 : decode cX5_run 54 = .ok (.iconst (-1), 1) := by decide +kernel
theorem dX5_run_55 : decode cX5_run 55 = .ok (.iload 4, 2) := by decide +kernel
theorem dX5_run_57 : decode cX5_run 57 = .ok (.isub, 1) := by decide +kernel
theorem dX5_run_58 : decode cX5_run 58 = .ok (.iaload, 1) := by decide +kernel
theorem dX5_run_59 : decode cX5_run 59 = .ok (.invokevirtual 59, 3) := by decide +kernel
theorem dX5_run_62 : decode cX5_run 62 = .ok (.goto 46, 3) := by decide +kernel
theorem dX5_run_65 : decode cX5_run 65 = .ok (.iload 4, 2) := by decide +kernel
theorem dX5_run_67 : decode cX5_run 67 = .ok (.bipush (-7), 2) := by decide +kernel
theorem dX5_run_69 : decode cX5_run 69 = .ok (.if_icmp .ne 16, 3) := by decide +kernel
theorem dX5_run_72 : decode cX5_run 72 = .ok (.aload_n 0, 1) := by decide +kernel
theorem dX5_run_73 : decode cX5_run 73 = .ok (.iconst 1, 1) := by decide +kernel
theorem dX5_run_74 : decode cX5_run 74 = .ok (.aload_n 0, 1) := by decide +kernel
theorem dX5_run_75 : decode cX5_run 75 = .ok (.invokevirtual 63, 3) := by decide +kernel
theorem dX5_run_78 : decode cX5_run 78 = .ok (.isub, 1) := by decide +kernel
theorem dX5_run_79 : decode cX5_run 79 = .ok (.invokevirtual 59, 3) := by decide +kernel
theorem dX5_run_82 : decode cX5_run 82 = .ok (.goto 26, 3) := by decide +kernel
theorem dX5_run_85 : decode cX5_run 85 = .ok (.aload_n 0, 1) := by decide +kernel
theorem dX5_run_86 : decode cX5_run 86 = .ok (.invokevirtual 63, 3) := by decide +kernel
theorem dX5_run_89 : decode cX5_run 89 = .ok (.istore 5, 2) := by decide +kernel
theorem dX5_run_91 : decode cX5_run 91 = .ok (.aload_n 0, 1) := by decide +kernel
theorem dX5_run_92 : decode cX5_run 92 = .ok (.iload 4, 2) := by decide +kernel
theorem dX5_run_94 : decode cX5_run 94 = .ok (.aload_n 0, 1) := by decide +kernel
theorem dX5_run_95 : decode cX5_run 95 = .ok (.invokevirtual 63, 3) := by decide +kernel
theorem dX5_run_98 : decode cX5_run 98 = .ok (.i2l, 1) := by decide +kernel
theorem dX5_run_99 : decode cX5_run 99 = .ok (.iload 5, 2) := by decide +kernel
theorem dX5_run_101 : decode cX5_run 101 = .ok (.i2l, 1) := by decide +kernel
theorem dX5_run_102 : decode cX5_run 102 = .ok (.invokestatic 67, 3) := by decide +kernel
theorem dX5_run_105 : decode cX5_run 105 = .ok (.invokevirtual 59, 3) := by decide +kernel
theorem dX5_run_108 : decode cX5_run 108 = .ok (.iinc 3 1, 3) := by decide +kernel
theorem dX5_run_111 : decode cX5_run 111 = .ok (.goto (-104), 3) := by decide +kernel
theorem dX5_run_114 : decode cX5_run 114 = .ok (.aload_n 0, 1) := by decide +kernel
theorem dX5_run_115 : decode cX5_run 115 = .ok (.invokevirtual 63, 3) := by decide +kernel
theorem dX5_run_118 : decode cX5_run 118 = .ok (.ireturn, 1) := by decide +kernel
theorem dX5_push_0 : decode cX5_push 0 = .ok (.aload_n 0, 1) := by decide +kernel
theorem dX5_push_1 : decode cX5_push 1 = .ok (.getfield 56, 3) := by decide +kernel
theorem dX5_push_4 : decode cX5_push 4 = .ok (.aload_n 0, 1) := by decide +kernel
theorem dX5_push_5 : decode cX5_push 5 = .ok (.getfield 30, 3) := by decide +kernel
theorem dX5_push_8 : decode cX5_push 8 = .ok (.arraylength, 1) := by decide +kernel
theorem dX5_push_9 : decode cX5_push 9 = .ok (.if_icmp .ge 23, 3) := by decide +kernel
theorem dX5_push_12 : decode cX5_push 12 = .ok (.aload_n 0, 1) := by decide +kernel
theorem dX5_push_13 : decode cX5_push 13 = .ok (.getfield 30, 3) := by decide +kernel
theorem dX5_push_16 : decode cX5_push 16 = .ok (.aload_n 0, 1) := by decide +kernel
theorem dX5_push_17 : decode cX5_push 17 = .ok (.getfield 56, 3) := by decide +kernel
theorem dX5_push_20 : decode cX5_push 20 = .ok (.iload_n 1, 1) := by decide +kernel
theorem dX5_push_21 : decode cX5_push 21 = .ok (.iastore, 1) := by decide +kernel
theorem dX5_push_22 : decode cX5_push 22 = .ok (.aload_n 0, 1) := by decide +kernel
theorem dX5_push_23 : decode cX5_push 23 = .ok (.dup, 1) := by decide +kernel
theorem dX5_push_24 : decode cX5_push 24 = .ok (.getfield 56, 3) := by decide +kernel
theorem dX5_push_27 : decode cX5_push 27 = .ok (.iconst 1, 1) := by decide +kernel
theorem dX5_push_28 : decode cX5_push 28 = .ok (.iadd, 1) := by decide +kernel
theorem dX5_push_29 : decode cX5_push 29 = .ok (.putfield 56, 3) := by decide +kernel
theorem dX5_push_32 : decode cX5_push 32 = .ok (.return_, 1) := by decide +kernel
theorem dX5_pop_0 : decode cX5_pop 0 = .ok (.aload_n 0, 1) := by decide +kernel
theorem dX5_pop_1 : decode cX5_pop 1 = .ok (.getfield 56, 3) := by decide +kernel
theorem dX5_pop_4 : decode cX5_pop 4 = .ok (.iconst 1, 1) := by decide +kernel
theorem dX5_pop_5 : decode cX5_pop 5 = .ok (.if_icmp .ge 5, 3) := by decide +kernel
theorem dX5_pop_8 : decode cX5_pop 8 = .ok (.iconst 0, 1) := by decide +kernel
theorem dX5_pop_9 : decode cX5_pop 9 = .ok (.ireturn, 1) := by decide +kernel
theorem dX5_pop_10 : decode cX5_pop 10 = .ok (.aload_n 0, 1) := by decide +kernel
theorem dX5_pop_11 : decode cX5_pop 11 = .ok (.dup, 1) := by decide +kernel
theorem dX5_pop_12 : decode cX5_pop 12 = .ok (.getfield 56, 3) := by decide +kernel
theorem dX5_pop_15 : decode cX5_pop 15 = .ok (.iconst 1, 1) := by decide +kernel
theorem dX5_pop_16 : decode cX5_pop 16 = .ok (.isub, 1) := by decide +kernel
theorem dX5_pop_17 : decode cX5_pop 17 = .ok (.putfield 56, 3) := by decide +kernel
theorem dX5_pop_20 : decode cX5_pop 20 = .ok (.aload_n 0, 1) := by decide +kernel
theorem dX5_pop_21 : decode cX5_pop 21 = .ok (.getfield 30, 3) := by decide +kernel
theorem dX5_pop_24 : decode cX5_pop 24 = .ok (.aload_n 0, 1) := by decide +kernel
theorem dX5_pop_25 : decode cX5_pop 25 = .ok (.getfield 56, 3) := by decide +kernel
theorem dX5_pop_28 : decode cX5_pop 28 = .ok (.iaload, 1) := by decide +kernel
theorem dX5_pop_29 : decode cX5_pop 29 = .ok (.ireturn, 1) := by decide +kernel
theorem dX5_join_0 : decode cX5_join 0 = .ok (.iload_n 0, 1) := by decide +kernel
theorem dX5_join_1 : decode cX5_join 1 = .ok (.tableswitch 199 (-18) (-8) #[191, 175, 159, 143, 133, 123, 103, 83, 75, 67, 59], 59) := by decide +kernel
theorem dX5_join_60 : decode cX5_join 60 = .ok (.lload_n 1, 1) := by decide +kernel
theorem dX5_join_61 : decode cX5_join 61 = .ok (.lload_n 3, 1) := by decide +kernel
theorem dX5_join_62 : decode cX5_join 62 = .ok (.ladd, 1) := by decide +kernel
theorem dX5_join_63 : decode cX5_join 63 = .ok (.lstore 5, 2) := by decide +kernel
theorem dX5_join_65 : decode cX5_join 65 = .ok (.goto 140, 3) := by decide +kernel
theorem dX5_join_68 : decode cX5_join 68 = .ok (.lload_n 1, 1) := by decide +kernel
theorem dX5_join_69 : decode cX5_join 69 = .ok (.lload_n 3, 1) := by decide +kernel
theorem dX5_join_70 : decode cX5_join 70 = .ok (.lsub, 1) := by decide +kernel
theorem dX5_join_71 : decode cX5_join 71 = .ok (.lstore 5, 2) := by decide +kernel
theorem dX5_join_73 : decode cX5_join 73 = .ok (.goto 132, 3) := by decide +kernel
theorem dX5_join_76 : decode cX5_join 76 = .ok (.lload_n 1, 1) := by decide +kernel
theorem dX5_join_77 : decode cX5_join 77 = .ok (.lload_n 3, 1) := by decide +kernel
theorem dX5_join_78 : decode cX5_join 78 = .ok (.lmul, 1) := by decide +kernel
theorem dX5_join_79 : decode cX5_join 79 = .ok (.lstore 5, 2) := by decide +kernel
theorem dX5_join_81 : decode cX5_join 81 = .ok (.goto 124, 3) := by decide +kernel
theorem dX5_join_84 : decode cX5_join 84 = .ok (.lload_n 3, 1) := by decide +kernel
theorem dX5_join_85 : decode cX5_join 85 = .ok (.lconst 0, 1) := by decide +kernel
theorem dX5_join_86 : decode cX5_join 86 = .ok (.lcmp, 1) := by decide +kernel
theorem dX5_join_87 : decode cX5_join 87 = .ok (.ifCond .ne 7, 3) := by decide +kernel
theorem dX5_join_90 : decode cX5_join 90 = .ok (.lconst 0, 1) := by decide +kernel
theorem dX5_join_91 : decode cX5_join 91 = .ok (.goto 8, 3) := by decide +kernel
theorem dX5_join_94 : decode cX5_join 94 = .ok (.lload_n 1, 1) := by decide +kernel
theorem dX5_join_95 : decode cX5_join 95 = .ok (.lload_n 3, 1) := by decide +kernel
theorem dX5_join_96 : decode cX5_join 96 = .ok (.invokestatic 71, 3) := by decide +kernel
theorem dX5_join_99 : decode cX5_join 99 = .ok (.lstore 5, 2) := by decide +kernel
theorem dX5_join_101 : decode cX5_join 101 = .ok (.goto 104, 3) := by decide +kernel
theorem dX5_join_104 : decode cX5_join 104 = .ok (.lload_n 3, 1) := by decide +kernel
theorem dX5_join_105 : decode cX5_join 105 = .ok (.lconst 0, 1) := by decide +kernel
theorem dX5_join_106 : decode cX5_join 106 = .ok (.lcmp, 1) := by decide +kernel
theorem dX5_join_107 : decode cX5_join 107 = .ok (.ifCond .ne 7, 3) := by decide +kernel
theorem dX5_join_110 : decode cX5_join 110 = .ok (.lconst 0, 1) := by decide +kernel
theorem dX5_join_111 : decode cX5_join 111 = .ok (.goto 8, 3) := by decide +kernel
theorem dX5_join_114 : decode cX5_join 114 = .ok (.lload_n 1, 1) := by decide +kernel
theorem dX5_join_115 : decode cX5_join 115 = .ok (.lload_n 3, 1) := by decide +kernel
theorem dX5_join_116 : decode cX5_join 116 = .ok (.invokestatic 75, 3) := by decide +kernel
theorem dX5_join_119 : decode cX5_join 119 = .ok (.lstore 5, 2) := by decide +kernel
theorem dX5_join_121 : decode cX5_join 121 = .ok (.goto 84, 3) := by decide +kernel
theorem dX5_join_124 : decode cX5_join 124 = .ok (.lload_n 1, 1) := by decide +kernel
theorem dX5_join_125 : decode cX5_join 125 = .ok (.lload_n 3, 1) := by decide +kernel
theorem dX5_join_126 : decode cX5_join 126 = .ok (.invokestatic 78, 3) := by decide +kernel
theorem dX5_join_129 : decode cX5_join 129 = .ok (.lstore 5, 2) := by decide +kernel
theorem dX5_join_131 : decode cX5_join 131 = .ok (.goto 74, 3) := by decide +kernel
theorem dX5_join_134 : decode cX5_join 134 = .ok (.lload_n 1, 1) := by decide +kernel
theorem dX5_join_135 : decode cX5_join 135 = .ok (.lload_n 3, 1) := by decide +kernel
theorem dX5_join_136 : decode cX5_join 136 = .ok (.invokestatic 80, 3) := by decide +kernel
theorem dX5_join_139 : decode cX5_join 139 = .ok (.lstore 5, 2) := by decide +kernel
theorem dX5_join_141 : decode cX5_join 141 = .ok (.goto 64, 3) := by decide +kernel
theorem dX5_join_144 : decode cX5_join 144 = .ok (.lload_n 1, 1) := by decide +kernel
theorem dX5_join_145 : decode cX5_join 145 = .ok (.lload_n 3, 1) := by decide +kernel
theorem dX5_join_146 : decode cX5_join 146 = .ok (.lcmp, 1) := by decide +kernel
theorem dX5_join_147 : decode cX5_join 147 = .ok (.ifCond .ge 7, 3) := by decide +kernel
theorem dX5_join_150 : decode cX5_join 150 = .ok (.lconst 1, 1) := by decide +kernel
theorem dX5_join_151 : decode cX5_join 151 = .ok (.goto 4, 3) := by decide +kernel
theorem dX5_join_154 : decode cX5_join 154 = .ok (.lconst 0, 1) := by decide +kernel
theorem dX5_join_155 : decode cX5_join 155 = .ok (.lstore 5, 2) := by decide +kernel
theorem dX5_join_157 : decode cX5_join 157 = .ok (.goto 48, 3) := by decide +kernel
theorem dX5_join_160 : decode cX5_join 160 = .ok (.lload_n 1, 1) := by decide +kernel
theorem dX5_join_161 : decode cX5_join 161 = .ok (.lload_n 3, 1) := by decide +kernel
theorem dX5_join_162 : decode cX5_join 162 = .ok (.lcmp, 1) := by decide +kernel
theorem dX5_join_163 : decode cX5_join 163 = .ok (.ifCond .le 7, 3) := by decide +kernel
theorem dX5_join_166 : decode cX5_join 166 = .ok (.lconst 1, 1) := by decide +kernel
theorem dX5_join_167 : decode cX5_join 167 = .ok (.goto 4, 3) := by decide +kernel
theorem dX5_join_170 : decode cX5_join 170 = .ok (.lconst 0, 1) := by decide +kernel
theorem dX5_join_171 : decode cX5_join 171 = .ok (.lstore 5, 2) := by decide +kernel
theorem dX5_join_173 : decode cX5_join 173 = .ok (.goto 32, 3) := by decide +kernel
theorem dX5_join_176 : decode cX5_join 176 = .ok (.lload_n 1, 1) := by decide +kernel
theorem dX5_join_177 : decode cX5_join 177 = .ok (.lload_n 3, 1) := by decide +kernel
theorem dX5_join_178 : decode cX5_join 178 = .ok (.lcmp, 1) := by decide +kernel
theorem dX5_join_179 : decode cX5_join 179 = .ok (.ifCond .ne 7, 3) := by decide +kernel
theorem dX5_join_182 : decode cX5_join 182 = .ok (.lconst 1, 1) := by decide +kernel
theorem dX5_join_183 : decode cX5_join 183 = .ok (.goto 4, 3) := by decide +kernel
theorem dX5_join_186 : decode cX5_join 186 = .ok (.lconst 0, 1) := by decide +kernel
theorem dX5_join_187 : decode cX5_join 187 = .ok (.lstore 5, 2) := by decide +kernel
theorem dX5_join_189 : decode cX5_join 189 = .ok (.goto 16, 3) := by decide +kernel
theorem dX5_join_192 : decode cX5_join 192 = .ok (.lload_n 1, 1) := by decide +kernel
theorem dX5_join_193 : decode cX5_join 193 = .ok (.lload_n 3, 1) := by decide +kernel
theorem dX5_join_194 : decode cX5_join 194 = .ok (.land, 1) := by decide +kernel
theorem dX5_join_195 : decode cX5_join 195 = .ok (.lstore 5, 2) := by decide +kernel
theorem dX5_join_197 : decode cX5_join 197 = .ok (.goto 8, 3) := by decide +kernel
theorem dX5_join_200 : decode cX5_join 200 = .ok (.lload_n 1, 1) := by decide +kernel
theorem dX5_join_201 : decode cX5_join 201 = .ok (.lload_n 3, 1) := by decide +kernel
theorem dX5_join_202 : decode cX5_join 202 = .ok (.lor, 1) := by decide +kernel
theorem dX5_join_203 : decode cX5_join 203 = .ok (.lstore 5, 2) := by decide +kernel
theorem dX5_join_205 : decode cX5_join 205 = .ok (.ldc2_w 83, 3) := by decide +kernel
theorem dX5_join_208 : decode cX5_join 208 = .ok (.ldc2_w 85, 3) := by decide +kernel
theorem dX5_join_211 : decode cX5_join 211 = .ok (.lload 5, 2) := by decide +kernel
theorem dX5_join_213 : decode cX5_join 213 = .ok (.invokestatic 78, 3) := by decide +kernel
theorem dX5_join_216 : decode cX5_join 216 = .ok (.invokestatic 80, 3) := by decide +kernel
theorem dX5_join_219 : decode cX5_join 219 = .ok (.l2i, 1) := by decide +kernel
theorem dX5_join_220 : decode cX5_join 220 = .ok (.ireturn, 1) := by decide +kernel
theorem dX6_init_0 : decode cX6_init 0 = .ok (.aload_n 0, 1) := by decide +kernel
theorem dX6_init_1 : decode cX6_init 1 = .ok (.invokespecial 3, 3) := by decide +kernel
theorem dX6_init_4 : decode cX6_init 4 = .ok (.aload_n 0, 1) := by decide +kernel
theorem dX6_init_5 : decode cX6_init 5 = .ok (.sipush 1601, 3) := by decide +kernel
theorem dX6_init_8 : decode cX6_init 8 = .ok (.newarray .int, 2) := by decide +kernel
theorem dX6_init_10 : decode cX6_init 10 = .ok (.putfield 9, 3) := by decide +kernel
theorem dX6_init_13 : decode cX6_init 13 = .ok (.aload_n 0, 1) := by decide +kernel
theorem dX6_init_14 : decode cX6_init 14 = .ok (.sipush 1601, 3) := by decide +kernel
theorem dX6_init_17 : decode cX6_init 17 = .ok (.newarray .int, 2) := by decide +kernel
theorem dX6_init_19 : decode cX6_init 19 = .ok (.putfield 15, 3) := by decide +kernel
theorem dX6_init_22 : decode cX6_init 22 = .ok (.aload_n 0, 1) := by decide +kernel
theorem dX6_init_23 : decode cX6_init 23 = .ok (.sipush 1601, 3) := by decide +kernel
theorem dX6_init_26 : decode cX6_init 26 = .ok (.newarray .int, 2) := by decide +kernel
theorem dX6_init_28 : decode cX6_init 28 = .ok (.putfield 18, 3) := by decide +kernel
theorem dX6_init_31 : decode cX6_init 31 = .ok (.aload_n 0, 1) := by decide +kernel
theorem dX6_init_32 : decode cX6_init 32 = .ok (.bipush 29, 2) := by decide +kernel
theorem dX6_init_34 : decode cX6_init 34 = .ok (.newarray .int, 2) := by decide +kernel
theorem dX6_init_36 : decode cX6_init 36 = .ok (.putfield 21, 3) := by decide +kernel
theorem dX6_init_39 : decode cX6_init 39 = .ok (.iconst 0, 1) := by decide +kernel
theorem dX6_init_40 : decode cX6_init 40 = .ok (.istore_n 1, 1) := by decide +kernel
theorem dX6_init_41 : decode cX6_init 41 = .ok (.iconst 0, 1) := by decide +kernel
theorem dX6_init_42 : decode cX6_init 42 = .ok (.istore_n 2, 1) := by decide +kernel
theorem dX6_init_43 : decode cX6_init 43 = .ok (.iconst 0, 1) := by decide +kernel
theorem dX6_init_44 : decode cX6_init 44 = .ok (.istore_n 3, 1) := by decide +kernel
theorem dX6_init_45 : decode cX6_init 45 = .ok (.iload_n 3, 1) := by decide +kernel
theorem dX6_init_46 : decode cX6_init 46 = .ok (.ldc 24, 2) := by decide +kernel
theorem dX6_init_48 : decode cX6_init 48 = .ok (.invokevirtual 26, 3) := by decide +kernel
theorem dX6_init_51 : decode cX6_init 51 = .ok (.if_icmp .ge 52, 3) := by decide +kernel
theorem dX6_init_54 : decode cX6_init 54 = .ok (.iload_n 2, 1) := by decide +kernel
theorem dX6_init_55 : decode cX6_init 55 = .ok (.bipush 29, 2) := by decide +kernel
theorem dX6_init_57 : decode cX6_init 57 = .ok (.if_icmp .ge 46, 3) := by decide +kernel
theorem dX6_init_60 : decode cX6_init 60 = .ok (.ldc 24, 2) := by decide +kernel
theorem dX6_init_62 : decode cX6_init 62 = .ok (.iload_n 3, 1) := by decide +kernel
theorem dX6_init_63 : decode cX6_init 63 = .ok (.invokevirtual 32, 3) := by decide +kernel
theorem dX6_init_66 : decode cX6_init 66 = .ok (.istore 4, 2) := by decide +kernel
theorem dX6_init_68 : decode cX6_init 68 = .ok (.iload 4, 2) := by decide +kernel
theorem dX6_init_70 : decode cX6_init 70 = .ok (.bipush 32, 2) := by decide +kernel
theorem dX6_init_72 : decode cX6_init 72 = .ok (.if_icmp .ne 18, 3) := by decide +kernel
theorem dX6_init_75 : decode cX6_init 75 = .ok (.aload_n 0, 1) := by decide +kernel
theorem dX6_init_76 : decode cX6_init 76 = .ok (.getfield 21, 3) := by decide +kernel
theorem dX6_init_79 : decode cX6_init 79 = .ok (.iload_n 2, 1) := by decide +kernel
theorem dX6_init_80 : decode cX6_init 80 = .ok (.iload_n 1, 1) := by decide +kernel
theorem dX6_init_81 : decode cX6_init 81 = .ok (.iastore, 1) := by decide +kernel
theorem dX6_init_82 : decode cX6_init 82 = .ok (.iinc 2 1, 3) := by decide +kernel
theorem dX6_init_85 : decode cX6_init 85 = .ok (.iconst 0, 1) := by decide +kernel
theorem dX6_init_86 : decode cX6_init 86 = .ok (.istore_n 1, 1) := by decide +kernel
theorem dX6_init_87 : decode cX6_init 87 = .ok (.goto 10, 3) := by decide +kernel
theorem dX6_init_90 : decode cX6_init 90 = .ok (.iload_n 1, 1) := by decide +kernel
theorem dX6_init_91 : decode cX6_init 91 = .ok (.iload 4, 2) := by decide +kernel
theorem dX6_init_93 : decode cX6_init 93 = .ok (.invokestatic 36, 3) := by decide +kernel
theorem dX6_init_96 : decode cX6_init 96 = .ok (.istore_n 1, 1) := by decide +kernel
theorem dX6_init_97 : decode cX6_init 97 = .ok (.iinc 3 1, 3) := by decide +kernel
theorem dX6_init_100 : decode cX6_init 100 = .ok (.goto (-55), 3) := by decide +kernel
theorem dX6_init_103 : decode cX6_init 103 = .ok (.return_, 1) := by decide +kernel
theorem dX6_withLetter_0 : decode cX6_withLetter 0 = .ok (.iload_n 0, 1) := by decide +kernel
theorem dX6_withLetter_1 : decode cX6_withLetter 1 = .ok (.iconst 5, 1) := by decide +kernel
theorem dX6_withLetter_2 : decode cX6_withLetter 2 = .ok (.ishl, 1) := by decide +kernel
theorem dX6_withLetter_3 : decode cX6_withLetter 3 = .ok (.iload_n 1, 1) := by decide +kernel
theorem dX6_withLetter_4 : decode cX6_withLetter 4 = .ok (.iadd, 1) := by decide +kernel
theorem dX6_withLetter_5 : decode cX6_withLetter 5 = .ok (.bipush 96, 2) := by decide +kernel
theorem dX6_withLetter_7 : decode cX6_withLetter 7 = .ok (.isub, 1) := by decide +kernel
theorem dX6_withLetter_8 : decode cX6_withLetter 8 = .ok (.ireturn, 1) := by decide +kernel
theorem dX6_isLetter_0 : decode cX6_isLetter 0 = .ok (.iload_n 0, 1) := by decide +kernel
theorem dX6_isLetter_1 : decode cX6_isLetter 1 = .ok (.bipush 97, 2) := by decide +kernel
theorem dX6_isLetter_3 : decode cX6_isLetter 3 = .ok (.if_icmp .lt 13, 3) := by decide +kernel
theorem dX6_isLetter_6 : decode cX6_isLetter 6 = .ok (.iload_n 0, 1) := by decide +kernel
theorem dX6_isLetter_7 : decode cX6_isLetter 7 = .ok (.bipush 122, 2) := by decide +kernel
theorem dX6_isLetter_9 : decode cX6_isLetter 9 = .ok (.if_icmp .gt 7, 3) := by decide +kernel
theorem dX6_isLetter_12 : decode cX6_isLetter 12 = .ok (.iconst 1, 1) := by decide +kernel
theorem dX6_isLetter_13 : decode cX6_isLetter 13 = .ok (.goto 4, 3) := by decide +kernel
theorem dX6_isLetter_16 : decode cX6_isLetter 16 = .ok (.iconst 0, 1) := by decide +kernel
theorem dX6_isLetter_17 : decode cX6_isLetter 17 = .ok (.ireturn, 1) := by decide +kernel
theorem dX6_isDigit_0 : decode cX6_isDigit 0 = .ok (.iload_n 0, 1) := by decide +kernel
theorem dX6_isDigit_1 : decode cX6_isDigit 1 = .ok (.bipush 48, 2) := by decide +kernel
theorem dX6_isDigit_3 : decode cX6_isDigit 3 = .ok (.if_icmp .lt 13, 3) := by decide +kernel
theorem dX6_isDigit_6 : decode cX6_isDigit 6 = .ok (.iload_n 0, 1) := by decide +kernel
theorem dX6_isDigit_7 : decode cX6_isDigit 7 = .ok (.bipush 57, 2) := by decide +kernel
theorem dX6_isDigit_9 : decode cX6_isDigit 9 = .ok (.if_icmp .gt 7, 3) := by decide +kernel
theorem dX6_isDigit_12 : decode cX6_isDigit 12 = .ok (.iconst 1, 1) := by decide +kernel
theorem dX6_isDigit_13 : decode cX6_isDigit 13 = .ok (.goto 4, 3) := by decide +kernel
theorem dX6_isDigit_16 : decode cX6_isDigit 16 = .ok (.iconst 0, 1) := by decide +kernel
theorem dX6_isDigit_17 : decode cX6_isDigit 17 = .ok (.ireturn, 1) := by decide +kernel
theorem dX6_split_0 : decode cX6_split 0 = .ok (.iload_n 2, 1) := by decide +kernel
theorem dX6_split_1 : decode cX6_split 1 = .ok (.aload_n 1, 1) := by decide +kernel
theorem dX6_split_2 : decode cX6_split 2 = .ok (.arraylength, 1) := by decide +kernel
theorem dX6_split_3 : decode cX6_split 3 = .ok (.invokestatic 40, 3) := by decide +kernel
theorem dX6_split_6 : decode cX6_split 6 = .ok (.istore_n 3, 1) := by decide +kernel
theorem dX6_split_7 : decode cX6_split 7 = .ok (.aload_n 0, 1) := by decide +kernel
theorem dX6_split_8 : decode cX6_split 8 = .ok (.iconst 0, 1) := by decide +kernel
theorem dX6_split_9 : decode cX6_split 9 = .ok (.putfield 45, 3) := by decide +kernel
theorem dX6_split_12 : decode cX6_split 12 = .ok (.aload_n 0, 1) := by decide +kernel
theorem dX6_split_13 : decode cX6_split 13 = .ok (.iconst (-1), 1) := by decide +kernel
theorem dX6_split_14 : decode cX6_split 14 = .ok (.putfield 49, 3) := by decide +kernel
theorem dX6_split_17 : decode cX6_split 17 = .ok (.iconst 0, 1) := by decide +kernel
theorem dX6_split_18 : decode cX6_split 18 = .ok (.istore 4, 2) := by decide +kernel
theorem dX6_split_20 : decode cX6_split 20 = .ok (.iconst 0, 1) := by decide +kernel
theorem dX6_split_21 : decode cX6_split 21 = .ok (.istore 5, 2) := by decide +kernel
theorem dX6_split_23 : decode cX6_split 23 = .ok (.iload 5, 2) := by decide +kernel
theorem dX6_split_25 : decode cX6_split 25 = .ok (.sipush 1600, 3) := by decide +kernel
theorem dX6_split_28 : decode cX6_split 28 = .ok (.if_icmp .ge 30, 3) := by decide +kernel
theorem dX6_split_31 : decode cX6_split 31 = .ok (.iload 4, 2) := by decide +kernel
theorem dX6_split_33 : decode cX6_split 33 = .ok (.ifCond .lt 25, 3) := by decide +kernel
theorem dX6_split_36 : decode cX6_split 36 = .ok (.iload 4, 2) := by decide +kernel
theorem dX6_split_38 : decode cX6_split 38 = .ok (.iload_n 3, 1) := by decide +kernel
theorem dX6_split_39 : decode cX6_split 39 = .ok (.if_icmp .ge 19, 3) := by decide +kernel
theorem dX6_split_42 : decode cX6_split 42 = .ok (.aload_n 0, 1) := by decide +kernel
theorem dX6_split_43 : decode cX6_split 43 = .ok (.aload_n 1, 1) := by decide +kernel
theorem dX6_split_44 : decode cX6_split 44 = .ok (.iload_n 3, 1) := by decide +kernel
theorem dX6_split_45 : decode cX6_split 45 = .ok (.iload 4, 2) := by decide +kernel
theorem dX6_split_47 : decode cX6_split 47 = .ok (.invokevirtual 52, 3) := by decide +kernel
theorem dX6_split_50 : decode cX6_split 50 = .ok (.istore 4, 2) := by decide +kernel
theorem dX6_split_52 : decode cX6_split 52 = .ok (.iinc 5 1, 3) := by decide +kernel
theorem dX6_split_55 : decode cX6_split 55 = .ok (.goto (-32), 3) := by decide +kernel
theorem dX6_split_58 : decode cX6_split 58 = .ok (.iload 4, 2) := by decide +kernel
theorem dX6_split_60 : decode cX6_split 60 = .ok (.iconst (-1), 1) := by decide +kernel
theorem dX6_split_61 : decode cX6_split 61 = .ok (.if_icmp .eq 11, 3) := by decide +kernel
theorem dX6_split_64 : decode cX6_split 64 = .ok (.aload_n 0, 1) := by decide +kernel
theorem dX6_split_65 : decode cX6_split 65 = .ok (.iconst 0, 1) := by decide +kernel
theorem dX6_split_66 : decode cX6_split 66 = .ok (.iload_n 3, 1) := by decide +kernel
theorem dX6_split_67 : decode cX6_split 67 = .ok (.iconst 0, 1) := by decide +kernel
theorem dX6_split_68 : decode cX6_split 68 = .ok (.invokevirtual 56, 3) := by decide +kernel
theorem dX6_split_71 : decode cX6_split 71 = .ok (.pop, 1) := by decide +kernel
theorem dX6_split_72 : decode cX6_split 72 = .ok (.return_, 1) := by decide +kernel
theorem dX6_splitOne_0 : decode cX6_splitOne 0 = .ok (.aload_n 1, 1) := by decide +kernel
theorem dX6_splitOne_1 : decode cX6_splitOne 1 = .ok (.iload_n 3, 1) := by decide +kernel
theorem dX6_splitOne_2 : decode cX6_splitOne 2 = .ok (.iaload, 1) := by decide +kernel
theorem dX6_splitOne_3 : decode cX6_splitOne 3 = .ok (.istore 4, 2) := by decide +kernel
theorem dX6_splitOne_5 : decode cX6_splitOne 5 = .ok (.iload 4, 2) := by decide +kernel
theorem dX6_splitOne_7 : decode cX6_splitOne 7 = .ok (.bipush 10, 2) := by decide +kernel
theorem dX6_splitOne_9 : decode cX6_splitOne 9 = .ok (.if_icmp .eq 10, 3) := by decide +kernel
theorem dX6_splitOne_12 : decode cX6_splitOne 12 = .ok (.iload 4, 2) := by decide +kernel
theorem dX6_splitOne_14 : decode cX6_splitOne 14 = .ok (.bipush 32, 2) := by decide +kernel
theorem dX6_splitOne_16 : decode cX6_splitOne 16 = .ok (.if_icmp .ne 7, 3) := by decide +kernel
theorem dX6_splitOne_19 : decode cX6_splitOne 19 = .ok (.iload_n 3, 1) := by decide +kernel
theorem dX6_splitOne_20 : decode cX6_splitOne 20 = .ok (.iconst 1, 1) := by decide +kernel
theorem dX6_splitOne_21 : decode cX6_splitOne 21 = .ok (.iadd, 1) := by decide +kernel
theorem dX6_splitOne_22 : decode cX6_splitOne 22 = .ok (.ireturn, 1) := by decide +kernel
theorem dX6_splitOne_23 : decode cX6_splitOne 23 = .ok (.iload 4, 2) := by decide +kernel
theorem dX6_splitOne_25 : decode cX6_splitOne 25 = .ok (.invokestatic 60, 3) := by decide +kernel
theorem dX6_splitOne_28 : decode cX6_splitOne 28 = .ok (.ifCond .ne 24, 3) := by decide +kernel
theorem dX6_splitOne_31 : decode cX6_splitOne 31 = .ok (.iload 4, 2) := by decide +kernel
theorem dX6_splitOne_33 : decode cX6_splitOne 33 = .ok (.invokestatic 64, 3) := by decide +kernel
theorem dX6_splitOne_36 : decode cX6_splitOne 36 = .ok (.ifCond .ne 16, 3) := by decide +kernel
theorem dX6_splitOne_39 : decode cX6_splitOne 39 = .ok (.aload_n 0, 1) := by decide +kernel
theorem dX6_splitOne_40 : decode cX6_splitOne 40 = .ok (.iconst 2, 1) := by decide +kernel
theorem dX6_splitOne_41 : decode cX6_splitOne 41 = .ok (.iload_n 3, 1) := by decide +kernel
theorem dX6_splitOne_42 : decode cX6_splitOne 42 = .ok (.iload 4, 2) := by decide +kernel
theorem dX6_splitOne_44 : decode cX6_splitOne 44 = .ok (.invokevirtual 56, 3) := by decide +kernel
theorem dX6_splitOne_47 : decode cX6_splitOne 47 = .ok (.pop, 1) := by decide +kernel
theorem dX6_splitOne_48 : decode cX6_splitOne 48 = .ok (.iload_n 3, 1) := by decide +kernel
theorem dX6_splitOne_49 : decode cX6_splitOne 49 = .ok (.iconst 1, 1) := by decide +kernel
theorem dX6_splitOne_50 : decode cX6_splitOne 50 = .ok (.iadd, 1) := by decide +kernel
theorem dX6_splitOne_51 : decode cX6_splitOne 51 = .ok (.ireturn, 1) := by decide +kernel
theorem dX6_splitOne_52 : decode cX6_splitOne 52 = .ok (.iload_n 3, 1) := by decide +kernel
theorem dX6_splitOne_53 : decode cX6_splitOne 53 = .ok (.aload_n 0, 1) := by decide +kernel
theorem dX6_splitOne_54 : decode cX6_splitOne 54 = .ok (.getfield 49, 3) := by decide +kernel
theorem dX6_splitOne_57 : decode cX6_splitOne 57 = .ok (.if_icmp .ne 11, 3) := by decide +kernel
theorem dX6_splitOne_60 : decode cX6_splitOne 60 = .ok (.aload_n 0, 1) := by decide +kernel
theorem dX6_splitOne_61 : decode cX6_splitOne 61 = .ok (.iconst 1, 1) := by decide +kernel
theorem dX6_splitOne_62 : decode cX6_splitOne 62 = .ok (.iload_n 3, 1) := by decide +kernel
theorem dX6_splitOne_63 : decode cX6_splitOne 63 = .ok (.iconst 0, 1) := by decide +kernel
theorem dX6_splitOne_64 : decode cX6_splitOne 64 = .ok (.invokevirtual 56, 3) := by decide +kernel
theorem dX6_splitOne_67 : decode cX6_splitOne 67 = .ok (.ireturn, 1) := by decide +kernel
theorem dX6_splitOne_68 : decode cX6_splitOne 68 = .ok (.aload_n 0, 1) := by decide +kernel
theorem dX6_splitOne_69 : decode cX6_splitOne 69 = .ok (.iload 4, 2) := by decide +kernel
theorem dX6_splitOne_71 : decode cX6_splitOne 71 = .ok (.invokestatic 60, 3) := by decide +kernel
theorem dX6_splitOne_74 : decode cX6_splitOne 74 = .ok (.ifCond .eq 13, 3) := by decide +kernel
theorem dX6_splitOne_77 : decode cX6_splitOne 77 = .ok (.aload_n 0, 1) := by decide +kernel
theorem dX6_splitOne_78 : decode cX6_splitOne 78 = .ok (.aload_n 1, 1) := by decide +kernel
theorem dX6_splitOne_79 : decode cX6_splitOne 79 = .ok (.iload_n 2, 1) := by decide +kernel
theorem dX6_splitOne_80 : decode cX6_splitOne 80 = .ok (.iload_n 3, 1) := by decide +kernel
theorem dX6_splitOne_81 : decode cX6_splitOne 81 = .ok (.invokevirtual 67, 3) := by decide +kernel
theorem dX6_splitOne_84 : decode cX6_splitOne 84 = .ok (.goto 10, 3) := by decide +kernel
theorem dX6_splitOne_87 : decode cX6_splitOne 87 = .ok (.aload_n 0, 1) := by decide +kernel
theorem dX6_splitOne_88 : decode cX6_splitOne 88 = .ok (.aload_n 1, 1) := by decide +kernel
theorem dX6_splitOne_89 : decode cX6_splitOne 89 = .ok (.iload_n 2, 1) := by decide +kernel
theorem dX6_splitOne_90 : decode cX6_splitOne 90 = .ok (.iload_n 3, 1) := by decide +kernel
theorem dX6_splitOne_91 : decode cX6_splitOne 91 = .ok (.invokevirtual 70, 3) := by decide +kernel
theorem dX6_splitOne_94 : decode cX6_splitOne 94 = .ok (.putfield 49, 3) := by decide +kernel
theorem dX6_splitOne_97 : decode cX6_splitOne 97 = .ok (.aload_n 0, 1) := by decide +kernel
theorem dX6_splitOne_98 : decode cX6_splitOne 98 = .ok (.getfield 49, 3) := by decide +kernel
theorem dX6_splitOne_101 : decode cX6_splitOne 101 = .ok (.ireturn, 1) := by decide +kernel
theorem dX6_splitWord_0 : decode cX6_splitWord 0 = .ok (.iconst 0, 1) := by decide +kernel
theorem dX6_splitWord_1 : decode cX6_splitWord 1 = .ok (.istore 4, 2) := by decide +kernel
theorem dX6_splitWord_3 : decode cX6_splitWord 3 = .ok (.iload_n 3, 1) := by decide +kernel
theorem dX6_splitWord_4 : decode cX6_splitWord 4 = .ok (.istore 5, 2) := by decide +kernel
theorem dX6_splitWord_6 : decode cX6_splitWord 6 = .ok (.iload 5, 2) := by decide +kernel
theorem dX6_splitWord_8 : decode cX6_splitWord 8 = .ok (.iload_n 2, 1) := by decide +kernel
theorem dX6_splitWord_9 : decode cX6_splitWord 9 = .ok (.if_icmp .ge 48, 3) := by decide +kernel
theorem dX6_splitWord_12 : decode cX6_splitWord 12 = .ok (.aload_n 1, 1) := by decide +kernel
theorem dX6_splitWord_13 : decode cX6_splitWord 13 = .ok (.iload 5, 2) := by decide +kernel
theorem dX6_splitWord_15 : decode cX6_splitWord 15 = .ok (.iaload, 1) := by decide +kernel
theorem dX6_splitWord_16 : decode cX6_splitWord 16 = .ok (.invokestatic 60, 3) := by decide +kernel
theorem dX6_splitWord_19 : decode cX6_splitWord 19 = .ok (.ifCond .eq 38, 3) := by decide +kernel
theorem dX6_splitWord_22 : decode cX6_splitWord 22 = .ok (.iload 5, 2) := by decide +kernel
theorem dX6_splitWord_24 : decode cX6_splitWord 24 = .ok (.iload_n 3, 1) := by decide +kernel
theorem dX6_splitWord_25 : decode cX6_splitWord 25 = .ok (.bipush 6, 2) := by decide +kernel
theorem dX6_splitWord_27 : decode cX6_splitWord 27 = .ok (.iadd, 1) := by decide +kernel
theorem dX6_splitWord_28 : decode cX6_splitWord 28 = .ok (.if_icmp .ne 12, 3) := by decide +kernel
theorem dX6_splitWord_31 : decode cX6_splitWord 31 = .ok (.aload_n 0, 1) := by decide +kernel
theorem dX6_splitWord_32 : decode cX6_splitWord 32 = .ok (.iconst 1, 1) := by decide +kernel
theorem dX6_splitWord_33 : decode cX6_splitWord 33 = .ok (.iload 5, 2) := by decide +kernel
theorem dX6_splitWord_35 : decode cX6_splitWord 35 = .ok (.iconst 0, 1) := by decide +kernel
theorem dX6_splitWord_36 : decode cX6_splitWord 36 = .ok (.invokevirtual 56, 3) := by decide +kernel
theorem dX6_splitWord_39 : decode cX6_splitWord 39 = .ok (.ireturn, 1) := by decide +kernel
theorem dX6_splitWord_40 : decode cX6_splitWord 40 = .ok (.iload 4, 2) := by decide +kernel
theorem dX6_splitWord_42 : decode cX6_splitWord 42 = .ok (.aload_n 1, 1) := by decide +kernel
theorem dX6_splitWord_43 : decode cX6_splitWord 43 = .ok (.iload 5, 2) := by decide +kernel
theorem dX6_splitWord_45 : decode cX6_splitWord 45 = .ok (.iaload, 1) := by decide +kernel
theorem dX6_splitWord_46 : decode cX6_splitWord 46 = .ok (.invokestatic 36, 3) := by decide +kernel
theorem dX6_splitWord_49 : decode cX6_splitWord 49 = .ok (.istore 4, 2) := by decide +kernel
theorem dX6_splitWord_51 : decode cX6_splitWord 51 = .ok (.iinc 5 1, 3) := by decide +kernel
theorem dX6_splitWord_54 : decode cX6_splitWord 54 = .ok (.goto (-48), 3) := by decide +kernel
theorem dX6_splitWord_57 : decode cX6_splitWord 57 = .ok (.iconst (-1), 1) := by decide +kernel
theorem dX6_splitWord_58 : decode cX6_splitWord 58 = .ok (.istore 6, 2) := by decide +kernel
theorem dX6_splitWord_60 : decode cX6_splitWord 60 = .ok (.iconst 0, 1) := by decide +kernel
theorem dX6_splitWord_61 : decode cX6_splitWord 61 = .ok (.istore 7, 2) := by decide +kernel
theorem dX6_splitWord_63 : decode cX6_splitWord 63 = .ok (.iload 7, 2) := by decide +kernel
theorem dX6_splitWord_65 : decode cX6_splitWord 65 = .ok (.bipush 29, 2) := by decide +kernel
theorem dX6_splitWord_67 : decode cX6_splitWord 67 = .ok (.if_icmp .ge 35, 3) := by decide +kernel
theorem dX6_splitWord_70 : decode cX6_splitWord 70 = .ok (.iload 6, 2) := by decide +kernel
theorem dX6_splitWord_72 : decode cX6_splitWord 72 = .ok (.iconst (-1), 1) := by decide +kernel
theorem dX6_splitWord_73 : decode cX6_splitWord 73 = .ok (.if_icmp .ne 29, 3) := by decide +kernel
theorem dX6_splitWord_76 : decode cX6_splitWord 76 = .ok (.aload_n 0, 1) := by decide +kernel
theorem dX6_splitWord_77 : decode cX6_splitWord 77 = .ok (.getfield 21, 3) := by decide +kernel
theorem dX6_splitWord_80 : decode cX6_splitWord 80 = .ok (.iload 7, 2) := by decide +kernel
theorem dX6_splitWord_82 : decode cX6_splitWord 82 = .ok (.iaload, 1) := by decide +kernel
theorem dX6_splitWord_83 : decode cX6_splitWord 83 = .ok (.iload 4, 2) := by decide +kernel
theorem dX6_splitWord_85 : decode cX6_splitWord 85 = .ok (.if_icmp .ne 8, 3) := by decide +kernel
theorem dX6_splitWord_88 : decode cX6_splitWord 88 = .ok (.iload 7, 2) := by decide +kernel
theorem dX6_splitWord_90 : decode cX6_splitWord 90 = .ok (.goto 4, 3) := by decide +kernel
theorem dX6_splitWord_93 : decode cX6_splitWord 93 = .ok (.iconst (-1), 1) := by decide +kernel
theorem dX6_splitWord_94 : decode cX6_splitWord 94 = .ok (.istore 6, 2) := by decide +kernel
theorem dX6_splitWord_96 : decode cX6_splitWord 96 = .ok (.iinc 7 1, 3) := by decide +kernel
theorem dX6_splitWord_99 : decode cX6_splitWord 99 = .ok (.goto (-36), 3) := by decide +kernel
theorem dX6_splitWord_102 : decode cX6_splitWord 102 = .ok (.aload_n 0, 1) := by decide +kernel
theorem dX6_splitWord_103 : decode cX6_splitWord 103 = .ok (.iload 6, 2) := by decide +kernel
theorem dX6_splitWord_105 : decode cX6_splitWord 105 = .ok (.iconst (-1), 1) := by decide +kernel
theorem dX6_splitWord_106 : decode cX6_splitWord 106 = .ok (.if_icmp .ne 7, 3) := by decide +kernel
theorem dX6_splitWord_109 : decode cX6_splitWord 109 = .ok (.iconst 5, 1) := by decide +kernel
theorem dX6_splitWord_110 : decode cX6_splitWord 110 = .ok (.goto 4, 3) := by decide +kernel
theorem dX6_splitWord_113 : decode cX6_splitWord 113 = .ok (.iconst 4, 1) := by decide +kernel
theorem dX6_splitWord_114 : decode cX6_splitWord 114 = .ok (.iload_n 3, 1) := by decide +kernel
theorem dX6_splitWord_115 : decode cX6_splitWord 115 = .ok (.iload 6, 2) := by decide +kernel
theorem dX6_splitWord_117 : decode cX6_splitWord 117 = .ok (.iconst (-1), 1) := by decide +kernel
theorem dX6_splitWord_118 : decode cX6_splitWord 118 = .ok (.if_icmp .ne 8, 3) := by decide +kernel
theorem dX6_splitWord_121 : decode cX6_splitWord 121 = .ok (.iload 4, 2) := by decide +kernel
theorem dX6_splitWord_123 : decode cX6_splitWord 123 = .ok (.goto 5, 3) := by decide +kernel
theorem dX6_splitWord_126 : decode cX6_splitWord 126 = .ok (.iload 6, 2) := by decide +kernel
theorem dX6_splitWord_128 : decode cX6_splitWord 128 = .ok (.invokevirtual 56, 3) := by decide +kernel
theorem dX6_splitWord_131 : decode cX6_splitWord 131 = .ok (.pop, 1) := by decide +kernel
theorem dX6_splitWord_132 : decode cX6_splitWord 132 = .ok (.iload 5, 2) := by decide +kernel
theorem dX6_splitWord_134 : decode cX6_splitWord 134 = .ok (.ireturn, 1) := by decide +kernel
theorem dX6_splitNumber_0 : decode cX6_splitNumber 0 = .ok (.iconst 0, 1) := by decide +kernel
theorem dX6_splitNumber_1 : decode cX6_splitNumber 1 = .ok (.istore 4, 2) := by decide +kernel
theorem dX6_splitNumber_3 : decode cX6_splitNumber 3 = .ok (.iload_n 3, 1) := by decide +kernel
theorem dX6_splitNumber_4 : decode cX6_splitNumber 4 = .ok (.istore 5, 2) := by decide +kernel
theorem dX6_splitNumber_6 : decode cX6_splitNumber 6 = .ok (.iload 5, 2) := by decide +kernel
theorem dX6_splitNumber_8 : decode cX6_splitNumber 8 = .ok (.iload_n 2, 1) := by decide +kernel
theorem dX6_splitNumber_9 : decode cX6_splitNumber 9 = .ok (.if_icmp .ge 51, 3) := by decide +kernel
theorem dX6_splitNumber_12 : decode cX6_splitNumber 12 = .ok (.aload_n 1, 1) := by decide +kernel
theorem dX6_splitNumber_13 : decode cX6_splitNumber 13 = .ok (.iload 5, 2) := by decide +kernel
theorem dX6_splitNumber_15 : decode cX6_splitNumber 15 = .ok (.iaload, 1) := by decide +kernel
theorem dX6_splitNumber_16 : decode cX6_splitNumber 16 = .ok (.invokestatic 64, 3) := by decide +kernel
theorem dX6_splitNumber_19 : decode cX6_splitNumber 19 = .ok (.ifCond .eq 41, 3) := by decide +kernel
theorem dX6_splitNumber_22 : decode cX6_splitNumber 22 = .ok (.iload 5, 2) := by decide +kernel
theorem dX6_splitNumber_24 : decode cX6_splitNumber 24 = .ok (.iload_n 3, 1) := by decide +kernel
theorem dX6_splitNumber_25 : decode cX6_splitNumber 25 = .ok (.iconst 4, 1) := by decide +kernel
theorem dX6_splitNumber_26 : decode cX6_splitNumber 26 = .ok (.iadd, 1) := by decide +kernel
theorem dX6_splitNumber_27 : decode cX6_splitNumber 27 = .ok (.if_icmp .ne 12, 3) := by decide +kernel
theorem dX6_splitNumber_30 : decode cX6_splitNumber 30 = .ok (.aload_n 0, 1) := by decide +kernel
theorem dX6_splitNumber_31 : decode cX6_splitNumber 31 = .ok (.iconst 1, 1) := by decide +kernel
theorem dX6_splitNumber_32 : decode cX6_splitNumber 32 = .ok (.iload 5, 2) := by decide +kernel
theorem dX6_splitNumber_34 : decode cX6_splitNumber 34 = .ok (.iconst 0, 1) := by decide +kernel
theorem dX6_splitNumber_35 : decode cX6_splitNumber 35 = .ok (.invokevirtual 56, 3) := by decide +kernel
theorem dX6_splitNumber_38 : decode cX6_splitNumber 38 = .ok (.ireturn, 1) := by decide +kernel
theorem dX6_splitNumber_39 : decode cX6_splitNumber 39 = .ok (.bipush 10, 2) := by decide +kernel
theorem dX6_splitNumber_41 : decode cX6_splitNumber 41 = .ok (.iload 4, 2) := by decide +kernel
theorem dX6_splitNumber_43 : decode cX6_splitNumber 43 = .ok (.imul, 1) := by decide +kernel
theorem dX6_splitNumber_44 : decode cX6_splitNumber 44 = .ok (.aload_n 1, 1) := by decide +kernel
theorem dX6_splitNumber_45 : decode cX6_splitNumber 45 = .ok (.iload 5, 2) := by decide +kernel
theorem dX6_splitNumber_47 : decode cX6_splitNumber 47 = .ok (.iaload, 1) := by decide +kernel
theorem dX6_splitNumber_48 : decode cX6_splitNumber 48 = .ok (.iadd, 1) := by decide +kernel
theorem dX6_splitNumber_49 : decode cX6_splitNumber 49 = .ok (.bipush 48, 2) := by decide +kernel
theorem dX6_splitNumber_51 : decode cX6_splitNumber 51 = .ok (.isub, 1) := by decide +kernel
theorem dX6_splitNumber_52 : decode cX6_splitNumber 52 = .ok (.istore 4, 2) := by decide +kernel
theorem dX6_splitNumber_54 : decode cX6_splitNumber 54 = .ok (.iinc 5 1, 3) := by decide +kernel
theorem dX6_splitNumber_57 : decode cX6_splitNumber 57 = .ok (.goto (-51), 3) := by decide +kernel
theorem dX6_splitNumber_60 : decode cX6_splitNumber 60 = .ok (.aload_n 0, 1) := by decide +kernel
theorem dX6_splitNumber_61 : decode cX6_splitNumber 61 = .ok (.iconst 3, 1) := by decide +kernel
theorem dX6_splitNumber_62 : decode cX6_splitNumber 62 = .ok (.iload_n 3, 1) := by decide +kernel
theorem dX6_splitNumber_63 : decode cX6_splitNumber 63 = .ok (.iload 4, 2) := by decide +kernel
theorem dX6_splitNumber_65 : decode cX6_splitNumber 65 = .ok (.invokevirtual 56, 3) := by decide +kernel
theorem dX6_splitNumber_68 : decode cX6_splitNumber 68 = .ok (.pop, 1) := by decide +kernel
theorem dX6_splitNumber_69 : decode cX6_splitNumber 69 = .ok (.iload 5, 2) := by decide +kernel
theorem dX6_splitNumber_71 : decode cX6_splitNumber 71 = .ok (.ireturn, 1) := by decide +kernel
theorem dX6_add_0 : decode cX6_add 0 = .ok (.aload_n 0, 1) := by decide +kernel
theorem dX6_add_1 : decode cX6_add 1 = .ok (.getfield 45, 3) := by decide +kernel
theorem dX6_add_4 : decode cX6_add 4 = .ok (.aload_n 0, 1) := by decide +kernel
theorem dX6_add_5 : decode cX6_add 5 = .ok (.getfield 9, 3) := by decide +kernel
theorem dX6_add_8 : decode cX6_add 8 = .ok (.arraylength, 1) := by decide +kernel
theorem dX6_add_9 : decode cX6_add 9 = .ok (.if_icmp .ge 43, 3) := by decide +kernel
theorem dX6_add_12 : decode cX6_add 12 = .ok (.aload_n 0, 1) := by decide +kernel
theorem dX6_add_13 : decode cX6_add 13 = .ok (.getfield 9, 3) := by decide +kernel
theorem dX6_add_16 : decode cX6_add 16 = .ok (.aload_n 0, 1) := by decide +kernel
theorem dX6_add_17 : decode cX6_add 17 = .ok (.getfield 45, 3) := by decide +kernel
theorem dX6_add_20 : decode cX6_add 20 = .ok (.iload_n 1, 1) := by decide +kernel
theorem dX6_add_21 : decode cX6_add 21 = .ok (.iastore, 1) := by decide +kernel
theorem dX6_add_22 : decode cX6_add 22 = .ok (.aload_n 0, 1) := by decide +kernel
theorem dX6_add_23 : decode cX6_add 23 = .ok (.getfield 15, 3) := by decide +kernel
theorem dX6_add_26 : decode cX6_add 26 = .ok (.aload_n 0, 1) := by decide +kernel
theorem dX6_add_27 : decode cX6_add 27 = .ok (.getfield 45, 3) := by decide +kernel
theorem dX6_add_30 : decode cX6_add 30 = .ok (.iload_n 2, 1) := by decide +kernel
theorem dX6_add_31 : decode cX6_add 31 = .ok (.iastore, 1) := by decide +kernel
theorem dX6_add_32 : decode cX6_add 32 = .ok (.aload_n 0, 1) := by decide +kernel
theorem dX6_add_33 : decode cX6_add 33 = .ok (.getfield 18, 3) := by decide +kernel
theorem dX6_add_36 : decode cX6_add 36 = .ok (.aload_n 0, 1) := by decide +kernel
theorem dX6_add_37 : decode cX6_add 37 = .ok (.getfield 45, 3) := by decide +kernel
theorem dX6_add_40 : decode cX6_add 40 = .ok (.iload_n 3, 1) := by decide +kernel
theorem dX6_add_41 : decode cX6_add 41 = .ok (.iastore, 1) := by decide +kernel
theorem dX6_add_42 : decode cX6_add 42 = .ok (.aload_n 0, 1) := by decide +kernel
theorem dX6_add_43 : decode cX6_add 43 = .ok (.dup, 1) := by decide +kernel
theorem dX6_add_44 : decode cX6_add 44 = .ok (.getfield 45, 3) := by decide +kernel
theorem dX6_add_47 : decode cX6_add 47 = .ok (.iconst 1, 1) := by decide +kernel
theorem dX6_add_48 : decode cX6_add 48 = .ok (.iadd, 1) := by decide +kernel
theorem dX6_add_49 : decode cX6_add 49 = .ok (.putfield 45, 3) := by decide +kernel
theorem dX6_add_52 : decode cX6_add 52 = .ok (.iconst (-1), 1) := by decide +kernel
theorem dX6_add_53 : decode cX6_add 53 = .ok (.ireturn, 1) := by decide +kernel
theorem dX7_init_0 : decode cX7_init 0 = .ok (.aload_n 0, 1) := by decide +kernel
theorem dX7_init_1 : decode cX7_init 1 = .ok (.invokespecial 3, 3) := by decide +kernel
theorem dX7_init_4 : decode cX7_init 4 = .ok (.aload_n 0, 1) := by decide +kernel
theorem dX7_init_5 : decode cX7_init 5 = .ok (.sipush 7776, 3) := by decide +kernel
theorem dX7_init_8 : decode cX7_init 8 = .ok (.newarray .int, 2) := by decide +kernel
theorem dX7_init_10 : decode cX7_init 10 = .ok (.putfield 9, 3) := by decide +kernel
theorem dX7_init_13 : decode cX7_init 13 = .ok (.aload_n 0, 1) := by decide +kernel
theorem dX7_init_14 : decode cX7_init 14 = .ok (.sipush 1000, 3) := by decide +kernel
theorem dX7_init_17 : decode cX7_init 17 = .ok (.putfield 15, 3) := by decide +kernel
theorem dX7_init_20 : decode cX7_init 20 = .ok (.aload_n 0, 1) := by decide +kernel
theorem dX7_init_21 : decode cX7_init 21 = .ok (.bipush 123, 2) := by decide +kernel
theorem dX7_init_23 : decode cX7_init 23 = .ok (.newarray .int, 2) := by decide +kernel
theorem dX7_init_25 : decode cX7_init 25 = .ok (.putfield 19, 3) := by decide +kernel
theorem dX7_init_28 : decode cX7_init 28 = .ok (.aload_n 0, 1) := by decide +kernel
theorem dX7_init_29 : decode cX7_init 29 = .ok (.aload_n 1, 1) := by decide +kernel
theorem dX7_init_30 : decode cX7_init 30 = .ok (.putfield 22, 3) := by decide +kernel
theorem dX7_init_33 : decode cX7_init 33 = .ok (.return_, 1) := by decide +kernel
theorem dX7_countOpening_0 : decode cX7_countOpening 0 = .ok (.aload_n 1, 1) := by decide +kernel
theorem dX7_countOpening_1 : decode cX7_countOpening 1 = .ok (.getfield 26, 3) := by decide +kernel
theorem dX7_countOpening_4 : decode cX7_countOpening 4 = .ok (.iconst 3, 1) := by decide +kernel
theorem dX7_countOpening_5 : decode cX7_countOpening 5 = .ok (.if_icmp .ne 9, 3) := by decide +kernel
theorem dX7_countOpening_8 : decode cX7_countOpening 8 = .ok (.aload_n 0, 1) := by decide +kernel
theorem dX7_countOpening_9 : decode cX7_countOpening 9 = .ok (.aload_n 1, 1) := by decide +kernel
theorem dX7_countOpening_10 : decode cX7_countOpening 10 = .ok (.invokevirtual 31, 3) := by decide +kernel
theorem dX7_countOpening_13 : decode cX7_countOpening 13 = .ok (.ireturn, 1) := by decide +kernel
theorem dX7_countOpening_14 : decode cX7_countOpening 14 = .ok (.aload_n 0, 1) := by decide +kernel
theorem dX7_countOpening_15 : decode cX7_countOpening 15 = .ok (.dup, 1) := by decide +kernel
theorem dX7_countOpening_16 : decode cX7_countOpening 16 = .ok (.getfield 15, 3) := by decide +kernel
theorem dX7_countOpening_19 : decode cX7_countOpening 19 = .ok (.iconst 1, 1) := by decide +kernel
theorem dX7_countOpening_20 : decode cX7_countOpening 20 = .ok (.iadd, 1) := by decide +kernel
theorem dX7_countOpening_21 : decode cX7_countOpening 21 = .ok (.putfield 15, 3) := by decide +kernel
theorem dX7_countOpening_24 : decode cX7_countOpening 24 = .ok (.iconst 0, 1) := by decide +kernel
theorem dX7_countOpening_25 : decode cX7_countOpening 25 = .ok (.istore_n 2, 1) := by decide +kernel
theorem dX7_countOpening_26 : decode cX7_countOpening 26 = .ok (.iconst 0, 1) := by decide +kernel
theorem dX7_countOpening_27 : decode cX7_countOpening 27 = .ok (.istore_n 3, 1) := by decide +kernel
theorem dX7_countOpening_28 : decode cX7_countOpening 28 = .ok (.iload_n 3, 1) := by decide +kernel
theorem dX7_countOpening_29 : decode cX7_countOpening 29 = .ok (.iconst 3, 1) := by decide +kernel
theorem dX7_countOpening_30 : decode cX7_countOpening 30 = .ok (.if_icmp .ge 106, 3) := by decide +kernel
theorem dX7_countOpening_33 : decode cX7_countOpening 33 = .ok (.aload_n 1, 1) := by decide +kernel
theorem dX7_countOpening_34 : decode cX7_countOpening 34 = .ok (.iload_n 3, 1) := by decide +kernel
theorem dX7_countOpening_35 : decode cX7_countOpening 35 = .ok (.invokevirtual 35, 3) := by decide +kernel
theorem dX7_countOpening_38 : decode cX7_countOpening 38 = .ok (.ifCond .eq 92, 3) := by decide +kernel
theorem dX7_countOpening_41 : decode cX7_countOpening 41 = .ok (.aload_n 1, 1) := by decide +kernel
theorem dX7_countOpening_42 : decode cX7_countOpening 42 = .ok (.getfield 26, 3) := by decide +kernel
theorem dX7_countOpening_45 : decode cX7_countOpening 45 = .ok (.iconst 1, 1) := by decide +kernel
theorem dX7_countOpening_46 : decode cX7_countOpening 46 = .ok (.if_icmp .ne 10, 3) := by decide +kernel
theorem dX7_countOpening_49 : decode cX7_countOpening 49 = .ok (.aload_n 1, 1) := by decide +kernel
theorem dX7_countOpening_50 : decode cX7_countOpening 50 = .ok (.getfield 39, 3) := by decide +kernel
theorem dX7_countOpening_53 : decode cX7_countOpening 53 = .ok (.goto 4, 3) := by decide +kernel
theorem dX7_countOpening_56 : decode cX7_countOpening 56 = .ok (.iconst 0, 1) := by decide +kernel
theorem dX7_countOpening_57 : decode cX7_countOpening 57 = .ok (.istore 4, 2) := by decide +kernel
theorem dX7_countOpening_59 : decode cX7_countOpening 59 = .ok (.iload_n 2, 1) := by decide +kernel
theorem dX7_countOpening_60 : decode cX7_countOpening 60 = .ok (.aload_n 0, 1) := by decide +kernel
theorem dX7_countOpening_61 : decode cX7_countOpening 61 = .ok (.iload_n 3, 1) := by decide +kernel
theorem dX7_countOpening_62 : decode cX7_countOpening 62 = .ok (.aload_n 1, 1) := by decide +kernel
theorem dX7_countOpening_63 : decode cX7_countOpening 63 = .ok (.getfield 42, 3) := by decide +kernel
theorem dX7_countOpening_66 : decode cX7_countOpening 66 = .ok (.iload_n 3, 1) := by decide +kernel
theorem dX7_countOpening_67 : decode cX7_countOpening 67 = .ok (.iaload, 1) := by decide +kernel
theorem dX7_countOpening_68 : decode cX7_countOpening 68 = .ok (.iload 4, 2) := by decide +kernel
theorem dX7_countOpening_70 : decode cX7_countOpening 70 = .ok (.isub, 1) := by decide +kernel
theorem dX7_countOpening_71 : decode cX7_countOpening 71 = .ok (.aload_n 1, 1) := by decide +kernel
theorem dX7_countOpening_72 : decode cX7_countOpening 72 = .ok (.getfield 42, 3) := by decide +kernel
theorem dX7_countOpening_75 : decode cX7_countOpening 75 = .ok (.iload_n 3, 1) := by decide +kernel
theorem dX7_countOpening_76 : decode cX7_countOpening 76 = .ok (.iaload, 1) := by decide +kernel
theorem dX7_countOpening_77 : decode cX7_countOpening 77 = .ok (.aload_n 1, 1) := by decide +kernel
theorem dX7_countOpening_78 : decode cX7_countOpening 78 = .ok (.iload_n 3, 1) := by decide +kernel
theorem dX7_countOpening_79 : decode cX7_countOpening 79 = .ok (.invokevirtual 45, 3) := by decide +kernel
theorem dX7_countOpening_82 : decode cX7_countOpening 82 = .ok (.iadd, 1) := by decide +kernel
theorem dX7_countOpening_83 : decode cX7_countOpening 83 = .ok (.invokevirtual 49, 3) := by decide +kernel
theorem dX7_countOpening_86 : decode cX7_countOpening 86 = .ok (.iadd, 1) := by decide +kernel
theorem dX7_countOpening_87 : decode cX7_countOpening 87 = .ok (.istore_n 2, 1) := by decide +kernel
theorem dX7_countOpening_88 : decode cX7_countOpening 88 = .ok (.aload_n 1, 1) := by decide +kernel
theorem dX7_countOpening_89 : decode cX7_countOpening 89 = .ok (.getfield 26, 3) := by decide +kernel
theorem dX7_countOpening_92 : decode cX7_countOpening 92 = .ok (.iconst 2, 1) := by decide +kernel
theorem dX7_countOpening_93 : decode cX7_countOpening 93 = .ok (.if_icmp .ne 37, 3) := by decide +kernel
theorem dX7_countOpening_96 : decode cX7_countOpening 96 = .ok (.aload_n 1, 1) := by decide +kernel
theorem dX7_countOpening_97 : decode cX7_countOpening 97 = .ok (.getfield 53, 3) := by decide +kernel
theorem dX7_countOpening_100 : decode cX7_countOpening 100 = .ok (.iload_n 3, 1) := by decide +kernel
theorem dX7_countOpening_101 : decode cX7_countOpening 101 = .ok (.iaload, 1) := by decide +kernel
theorem dX7_countOpening_102 : decode cX7_countOpening 102 = .ok (.iconst (-1), 1) := by decide +kernel
theorem dX7_countOpening_103 : decode cX7_countOpening 103 = .ok (.if_icmp .eq 27, 3) := by decide +kernel
theorem dX7_countOpening_106 : decode cX7_countOpening 106 = .ok (.iload_n 2, 1) := by decide +kernel
theorem dX7_countOpening_107 : decode cX7_countOpening 107 = .ok (.aload_n 0, 1) := by decide +kernel
theorem dX7_countOpening_108 : decode cX7_countOpening 108 = .ok (.iload_n 3, 1) := by decide +kernel
theorem dX7_countOpening_109 : decode cX7_countOpening 109 = .ok (.aload_n 1, 1) := by decide +kernel
theorem dX7_countOpening_110 : decode cX7_countOpening 110 = .ok (.getfield 53, 3) := by decide +kernel
theorem dX7_countOpening_113 : decode cX7_countOpening 113 = .ok (.iload_n 3, 1) := by decide +kernel
theorem dX7_countOpening_114 : decode cX7_countOpening 114 = .ok (.iaload, 1) := by decide +kernel
theorem dX7_countOpening_115 : decode cX7_countOpening 115 = .ok (.iconst 1, 1) := by decide +kernel
theorem dX7_countOpening_116 : decode cX7_countOpening 116 = .ok (.iadd, 1) := by decide +kernel
theorem dX7_countOpening_117 : decode cX7_countOpening 117 = .ok (.aload_n 1, 1) := by decide +kernel
theorem dX7_countOpening_118 : decode cX7_countOpening 118 = .ok (.getfield 53, 3) := by decide +kernel
theorem dX7_countOpening_121 : decode cX7_countOpening 121 = .ok (.iload_n 3, 1) := by decide +kernel
theorem dX7_countOpening_122 : decode cX7_countOpening 122 = .ok (.iaload, 1) := by decide +kernel
theorem dX7_countOpening_123 : decode cX7_countOpening 123 = .ok (.iconst 1, 1) := by decide +kernel
theorem dX7_countOpening_124 : decode cX7_countOpening 124 = .ok (.iadd, 1) := by decide +kernel
theorem dX7_countOpening_125 : decode cX7_countOpening 125 = .ok (.invokevirtual 49, 3) := by decide +kernel
theorem dX7_countOpening_128 : decode cX7_countOpening 128 = .ok (.iadd, 1) := by decide +kernel
theorem dX7_countOpening_129 : decode cX7_countOpening 129 = .ok (.istore_n 2, 1) := by decide +kernel
theorem dX7_countOpening_130 : decode cX7_countOpening 130 = .ok (.iinc 3 1, 3) := by decide +kernel
theorem dX7_countOpening_133 : decode cX7_countOpening 133 = .ok (.goto (-105), 3) := by decide +kernel
theorem dX7_countOpening_136 : decode cX7_countOpening 136 = .ok (.iload_n 2, 1) := by decide +kernel
theorem dX7_countOpening_137 : decode cX7_countOpening 137 = .ok (.ireturn, 1) := by decide +kernel
theorem dX7_stampRow_0 : decode cX7_stampRow 0 = .ok (.iconst 0, 1) := by decide +kernel
theorem dX7_stampRow_1 : decode cX7_stampRow 1 = .ok (.istore 4, 2) := by decide +kernel
theorem dX7_stampRow_3 : decode cX7_stampRow 3 = .ok (.iload_n 3, 1) := by decide +kernel
theorem dX7_stampRow_4 : decode cX7_stampRow 4 = .ok (.sipush 999, 3) := by decide +kernel
theorem dX7_stampRow_7 : decode cX7_stampRow 7 = .ok (.invokestatic 56, 3) := by decide +kernel
theorem dX7_stampRow_10 : decode cX7_stampRow 10 = .ok (.istore 5, 2) := by decide +kernel
theorem dX7_stampRow_12 : decode cX7_stampRow 12 = .ok (.iload_n 2, 1) := by decide +kernel
theorem dX7_stampRow_13 : decode cX7_stampRow 13 = .ok (.iconst 0, 1) := by decide +kernel
theorem dX7_stampRow_14 : decode cX7_stampRow 14 = .ok (.invokestatic 62, 3) := by decide +kernel
theorem dX7_stampRow_17 : decode cX7_stampRow 17 = .ok (.istore 6, 2) := by decide +kernel
theorem dX7_stampRow_19 : decode cX7_stampRow 19 = .ok (.iload 6, 2) := by decide +kernel
theorem dX7_stampRow_21 : decode cX7_stampRow 21 = .ok (.iload 5, 2) := by decide +kernel
theorem dX7_stampRow_23 : decode cX7_stampRow 23 = .ok (.if_icmp .gt 58, 3) := by decide +kernel
theorem dX7_stampRow_26 : decode cX7_stampRow 26 = .ok (.aload_n 0, 1) := by decide +kernel
theorem dX7_stampRow_27 : decode cX7_stampRow 27 = .ok (.getfield 22, 3) := by decide +kernel
theorem dX7_stampRow_30 : decode cX7_stampRow 30 = .ok (.iload_n 1, 1) := by decide +kernel
theorem dX7_stampRow_31 : decode cX7_stampRow 31 = .ok (.iload 6, 2) := by decide +kernel
theorem dX7_stampRow_33 : decode cX7_stampRow 33 = .ok (.invokevirtual 65, 3) := by decide +kernel
theorem dX7_stampRow_36 : decode cX7_stampRow 36 = .ok (.istore 7, 2) := by decide +kernel
theorem dX7_stampRow_38 : decode cX7_stampRow 38 = .ok (.aload_n 0, 1) := by decide +kernel
theorem dX7_stampRow_39 : decode cX7_stampRow 39 = .ok (.iload 7, 2) := by decide +kernel
theorem dX7_stampRow_41 : decode cX7_stampRow 41 = .ok (.invokevirtual 70, 3) := by decide +kernel
theorem dX7_stampRow_44 : decode cX7_stampRow 44 = .ok (.ifCond .eq 31, 3) := by decide +kernel
theorem dX7_stampRow_47 : decode cX7_stampRow 47 = .ok (.aload_n 0, 1) := by decide +kernel
theorem dX7_stampRow_48 : decode cX7_stampRow 48 = .ok (.getfield 9, 3) := by decide +kernel
theorem dX7_stampRow_51 : decode cX7_stampRow 51 = .ok (.iload 7, 2) := by decide +kernel
theorem dX7_stampRow_53 : decode cX7_stampRow 53 = .ok (.iaload, 1) := by decide +kernel
theorem dX7_stampRow_54 : decode cX7_stampRow 54 = .ok (.aload_n 0, 1) := by decide +kernel
theorem dX7_stampRow_55 : decode cX7_stampRow 55 = .ok (.getfield 15, 3) := by decide +kernel
theorem dX7_stampRow_58 : decode cX7_stampRow 58 = .ok (.if_icmp .eq 17, 3) := by decide +kernel
theorem dX7_stampRow_61 : decode cX7_stampRow 61 = .ok (.aload_n 0, 1) := by decide +kernel
theorem dX7_stampRow_62 : decode cX7_stampRow 62 = .ok (.getfield 9, 3) := by decide +kernel
theorem dX7_stampRow_65 : decode cX7_stampRow 65 = .ok (.iload 7, 2) := by decide +kernel
theorem dX7_stampRow_67 : decode cX7_stampRow 67 = .ok (.aload_n 0, 1) := by decide +kernel
theorem dX7_stampRow_68 : decode cX7_stampRow 68 = .ok (.getfield 15, 3) := by decide +kernel
theorem dX7_stampRow_71 : decode cX7_stampRow 71 = .ok (.iastore, 1) := by decide +kernel
theorem dX7_stampRow_72 : decode cX7_stampRow 72 = .ok (.iinc 4 1, 3) := by decide +kernel
theorem dX7_stampRow_75 : decode cX7_stampRow 75 = .ok (.iinc 6 1, 3) := by decide +kernel
theorem dX7_stampRow_78 : decode cX7_stampRow 78 = .ok (.goto (-59), 3) := by decide +kernel
theorem dX7_stampRow_81 : decode cX7_stampRow 81 = .ok (.iload 4, 2) := by decide +kernel
theorem dX7_stampRow_83 : decode cX7_stampRow 83 = .ok (.ireturn, 1) := by decide +kernel
theorem dX7_isNumber_0 : decode cX7_isNumber 0 = .ok (.iload_n 1, 1) := by decide +kernel
theorem dX7_isNumber_1 : decode cX7_isNumber 1 = .ok (.ifCond .lt 14, 3) := by decide +kernel
theorem dX7_isNumber_4 : decode cX7_isNumber 4 = .ok (.iload_n 1, 1) := by decide +kernel
theorem dX7_isNumber_5 : decode cX7_isNumber 5 = .ok (.sipush 7776, 3) := by decide +kernel
theorem dX7_isNumber_8 : decode cX7_isNumber 8 = .ok (.if_icmp .ge 7, 3) := by decide +kernel
theorem dX7_isNumber_11 : decode cX7_isNumber 11 = .ok (.iconst 1, 1) := by decide +kernel
theorem dX7_isNumber_12 : decode cX7_isNumber 12 = .ok (.goto 4, 3) := by decide +kernel
theorem dX7_isNumber_15 : decode cX7_isNumber 15 = .ok (.iconst 0, 1) := by decide +kernel
theorem dX7_isNumber_16 : decode cX7_isNumber 16 = .ok (.ireturn, 1) := by decide +kernel
theorem dX7_countByLip_0 : decode cX7_countByLip 0 = .ok (.aload_n 0, 1) := by decide +kernel
theorem dX7_countByLip_1 : decode cX7_countByLip 1 = .ok (.getfield 22, 3) := by decide +kernel
theorem dX7_countByLip_4 : decode cX7_countByLip 4 = .ok (.getfield 73, 3) := by decide +kernel
theorem dX7_countByLip_7 : decode cX7_countByLip 7 = .ok (.sipush 7776, 3) := by decide +kernel
theorem dX7_countByLip_10 : decode cX7_countByLip 10 = .ok (.invokestatic 56, 3) := by decide +kernel
theorem dX7_countByLip_13 : decode cX7_countByLip 13 = .ok (.istore_n 2, 1) := by decide +kernel
theorem dX7_countByLip_14 : decode cX7_countByLip 14 = .ok (.aload_n 0, 1) := by decide +kernel
theorem dX7_countByLip_15 : decode cX7_countByLip 15 = .ok (.getfield 9, 3) := by decide +kernel
theorem dX7_countByLip_18 : decode cX7_countByLip 18 = .ok (.iconst 0, 1) := by decide +kernel
theorem dX7_countByLip_19 : decode cX7_countByLip 19 = .ok (.iload_n 2, 1) := by decide +kernel
theorem dX7_countByLip_20 : decode cX7_countByLip 20 = .ok (.bipush 6, 2) := by decide +kernel
theorem dX7_countByLip_22 : decode cX7_countByLip 22 = .ok (.invokestatic 76, 3) := by decide +kernel
theorem dX7_countByLip_25 : decode cX7_countByLip 25 = .ok (.iconst 0, 1) := by decide +kernel
theorem dX7_countByLip_26 : decode cX7_countByLip 26 = .ok (.istore_n 3, 1) := by decide +kernel
theorem dX7_countByLip_27 : decode cX7_countByLip 27 = .ok (.iload_n 3, 1) := by decide +kernel
theorem dX7_countByLip_28 : decode cX7_countByLip 28 = .ok (.iconst 3, 1) := by decide +kernel
theorem dX7_countByLip_29 : decode cX7_countByLip 29 = .ok (.if_icmp .ge 86, 3) := by decide +kernel
theorem dX7_countByLip_32 : decode cX7_countByLip 32 = .ok (.aload_n 1, 1) := by decide +kernel
theorem dX7_countByLip_33 : decode cX7_countByLip 33 = .ok (.getfield 42, 3) := by decide +kernel
theorem dX7_countByLip_36 : decode cX7_countByLip 36 = .ok (.iload_n 3, 1) := by decide +kernel
theorem dX7_countByLip_37 : decode cX7_countByLip 37 = .ok (.iaload, 1) := by decide +kernel
theorem dX7_countByLip_38 : decode cX7_countByLip 38 = .ok (.aload_n 1, 1) := by decide +kernel
theorem dX7_countByLip_39 : decode cX7_countByLip 39 = .ok (.getfield 82, 3) := by decide +kernel
