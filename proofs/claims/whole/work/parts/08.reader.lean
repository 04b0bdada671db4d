theorem dX4_next_0 : decode cX4_next 0 = .ok (.aload_n 0, 1) := by decide +kernel
theorem dX4_next_1 : decode cX4_next 1 = .ok (.getfield 18, 3) := by decide +kernel
theorem dX4_next_4 : decode cX4_next 4 = .ok (.ifCond .lt 32, 3) := by decide +kernel
theorem dX4_next_7 : decode cX4_next 7 = .ok (.aload_n 0, 1) := by decide +kernel
theorem dX4_next_8 : decode cX4_next 8 = .ok (.getfield 18, 3) := by decide +kernel
theorem dX4_next_11 : decode cX4_next 11 = .ok (.aload_n 0, 1) := by decide +kernel
theorem dX4_next_12 : decode cX4_next 12 = .ok (.getfield 27, 3) := by decide +kernel
theorem dX4_next_15 : decode cX4_next 15 = .ok (.getfield 55, 3) := by decide +kernel
theorem dX4_next_18 : decode cX4_next 18 = .ok (.if_icmp .ge 18, 3) := by decide +kernel
theorem dX4_next_21 : decode cX4_next 21 = .ok (.aload_n 0, 1) := by decide +kernel
theorem dX4_next_22 : decode cX4_next 22 = .ok (.getfield 27, 3) := by decide +kernel
theorem dX4_next_25 : decode cX4_next 25 = .ok (.getfield 137, 3) := by decide +kernel
theorem dX4_next_28 : decode cX4_next 28 = .ok (.aload_n 0, 1) := by decide +kernel
theorem dX4_next_29 : decode cX4_next 29 = .ok (.getfield 18, 3) := by decide +kernel
theorem dX4_next_32 : decode cX4_next 32 = .ok (.iaload, 1) := by decide +kernel
theorem dX4_next_33 : decode cX4_next 33 = .ok (.goto 4, 3) := by decide +kernel
theorem dX4_next_36 : decode cX4_next 36 = .ok (.iconst (-1), 1) := by decide +kernel
theorem dX4_next_37 : decode cX4_next 37 = .ok (.ireturn, 1) := by decide +kernel
theorem dX4_push_0 : decode cX4_push 0 = .ok (.aload_n 0, 1) := by decide +kernel
theorem dX4_push_1 : decode cX4_push 1 = .ok (.getfield 35, 3) := by decide +kernel
theorem dX4_push_4 : decode cX4_push 4 = .ok (.bipush 17, 2) := by decide +kernel
theorem dX4_push_6 : decode cX4_push 6 = .ok (.if_icmp .ge 23, 3) := by decide +kernel
theorem dX4_push_9 : decode cX4_push 9 = .ok (.aload_n 0, 1) := by decide +kernel
theorem dX4_push_10 : decode cX4_push 10 = .ok (.getfield 31, 3) := by decide +kernel
theorem dX4_push_13 : decode cX4_push 13 = .ok (.aload_n 0, 1) := by decide +kernel
theorem dX4_push_14 : decode cX4_push 14 = .ok (.getfield 35, 3) := by decide +kernel
theorem dX4_push_17 : decode cX4_push 17 = .ok (.iload_n 1, 1) := by decide +kernel
theorem dX4_push_18 : decode cX4_push 18 = .ok (.iastore, 1) := by decide +kernel
theorem dX4_push_19 : decode cX4_push 19 = .ok (.aload_n 0, 1) := by decide +kernel
theorem dX4_push_20 : decode cX4_push 20 = .ok (.dup, 1) := by decide +kernel
theorem dX4_push_21 : decode cX4_push 21 = .ok (.getfield 35, 3) := by decide +kernel
theorem dX4_push_24 : decode cX4_push 24 = .ok (.iconst 1, 1) := by decide +kernel
theorem dX4_push_25 : decode cX4_push 25 = .ok (.iadd, 1) := by decide +kernel
theorem dX4_push_26 : decode cX4_push 26 = .ok (.putfield 35, 3) := by decide +kernel
theorem dX4_push_29 : decode cX4_push 29 = .ok (.return_, 1) := by decide +kernel
theorem dX4_reads_0 : decode cX4_reads 0 = .ok (.aload_n 0, 1) := by decide +kernel
theorem dX4_reads_1 : decode cX4_reads 1 = .ok (.getfield 27, 3) := by decide +kernel
theorem dX4_reads_4 : decode cX4_reads 4 = .ok (.aload_n 1, 1) := by decide +kernel
theorem dX4_reads_5 : decode cX4_reads 5 = .ok (.invokevirtual 44, 3) := by decide +kernel
theorem dX4_reads_8 : decode cX4_reads 8 = .ok (.aload_n 0, 1) := by decide +kernel
theorem dX4_reads_9 : decode cX4_reads 9 = .ok (.getfield 12, 3) := by decide +kernel
theorem dX4_reads_12 : decode cX4_reads 12 = .ok (.invokevirtual 48, 3) := by decide +kernel
theorem dX4_reads_15 : decode cX4_reads 15 = .ok (.aload_n 0, 1) := by decide +kernel
theorem dX4_reads_16 : decode cX4_reads 16 = .ok (.iconst 0, 1) := by decide +kernel
theorem dX4_reads_17 : decode cX4_reads 17 = .ok (.putfield 18, 3) := by decide +kernel
theorem dX4_reads_20 : decode cX4_reads 20 = .ok (.iconst 1, 1) := by decide +kernel
theorem dX4_reads_21 : decode cX4_reads 21 = .ok (.istore_n 2, 1) := by decide +kernel
theorem dX4_reads_22 : decode cX4_reads 22 = .ok (.iload_n 2, 1) := by decide +kernel
theorem dX4_reads_23 : decode cX4_reads 23 = .ok (.bipush 10, 2) := by decide +kernel
theorem dX4_reads_25 : decode cX4_reads 25 = .ok (.if_icmp .gt 51, 3) := by decide +kernel
theorem dX4_reads_28 : decode cX4_reads 28 = .ok (.aload_n 0, 1) := by decide +kernel
theorem dX4_reads_29 : decode cX4_reads 29 = .ok (.invokevirtual 51, 3) := by decide +kernel
theorem dX4_reads_32 : decode cX4_reads 32 = .ok (.ifCond .ne 5, 3) := by decide +kernel
theorem dX4_reads_35 : decode cX4_reads 35 = .ok (.iconst 0, 1) := by decide +kernel
theorem dX4_reads_36 : decode cX4_reads 36 = .ok (.ireturn, 1) := by decide +kernel
theorem dX4_reads_37 : decode cX4_reads 37 = .ok (.aload_n 0, 1) := by decide +kernel
theorem dX4_reads_38 : decode cX4_reads 38 = .ok (.getfield 18, 3) := by decide +kernel
theorem dX4_reads_41 : decode cX4_reads 41 = .ok (.aload_n 0, 1) := by decide +kernel
theorem dX4_reads_42 : decode cX4_reads 42 = .ok (.getfield 27, 3) := by decide +kernel
theorem dX4_reads_45 : decode cX4_reads 45 = .ok (.getfield 55, 3) := by decide +kernel
theorem dX4_reads_48 : decode cX4_reads 48 = .ok (.if_icmp .ne 5, 3) := by decide +kernel
theorem dX4_reads_51 : decode cX4_reads 51 = .ok (.iconst 1, 1) := by decide +kernel
theorem dX4_reads_52 : decode cX4_reads 52 = .ok (.ireturn, 1) := by decide +kernel
theorem dX4_reads_53 : decode cX4_reads 53 = .ok (.iload_n 2, 1) := by decide +kernel
theorem dX4_reads_54 : decode cX4_reads 54 = .ok (.bipush 10, 2) := by decide +kernel
theorem dX4_reads_56 : decode cX4_reads 56 = .ok (.if_icmp .eq 12, 3) := by decide +kernel
theorem dX4_reads_59 : decode cX4_reads 59 = .ok (.aload_n 0, 1) := by decide +kernel
theorem dX4_reads_60 : decode cX4_reads 60 = .ok (.bipush 59, 2) := by decide +kernel
theorem dX4_reads_62 : decode cX4_reads 62 = .ok (.invokevirtual 58, 3) := by decide +kernel
theorem dX4_reads_65 : decode cX4_reads 65 = .ok (.ifCond .ne 5, 3) := by decide +kernel
theorem dX4_reads_68 : decode cX4_reads 68 = .ok (.iconst 0, 1) := by decide +kernel
theorem dX4_reads_69 : decode cX4_reads 69 = .ok (.ireturn, 1) := by decide +kernel
theorem dX4_reads_70 : decode cX4_reads 70 = .ok (.iinc 2 1, 3) := by decide +kernel
theorem dX4_reads_73 : decode cX4_reads 73 = .ok (.goto (-51), 3) := by decide +kernel
theorem dX4_reads_76 : decode cX4_reads 76 = .ok (.iconst 0, 1) := by decide +kernel
theorem dX4_reads_77 : decode cX4_reads 77 = .ok (.ireturn, 1) := by decide +kernel
theorem dX4_readsClause_0 : decode cX4_readsClause 0 = .ok (.aload_n 0, 1) := by decide +kernel
theorem dX4_readsClause_1 : decode cX4_readsClause 1 = .ok (.invokevirtual 62, 3) := by decide +kernel
theorem dX4_readsClause_4 : decode cX4_readsClause 4 = .ok (.bipush 98, 2) := by decide +kernel
theorem dX4_readsClause_6 : decode cX4_readsClause 6 = .ok (.if_icmp .ne 7, 3) := by decide +kernel
theorem dX4_readsClause_9 : decode cX4_readsClause 9 = .ok (.iconst 0, 1) := by decide +kernel
theorem dX4_readsClause_10 : decode cX4_readsClause 10 = .ok (.goto 17, 3) := by decide +kernel
theorem dX4_readsClause_13 : decode cX4_readsClause 13 = .ok (.aload_n 0, 1) := by decide +kernel
theorem dX4_readsClause_14 : decode cX4_readsClause 14 = .ok (.invokevirtual 62, 3) := by decide +kernel
theorem dX4_readsClause_17 : decode cX4_readsClause 17 = .ok (.bipush 104, 2) := by decide +kernel
theorem dX4_readsClause_19 : decode cX4_readsClause 19 = .ok (.if_icmp .ne 7, 3) := by decide +kernel
theorem dX4_readsClause_22 : decode cX4_readsClause 22 = .ok (.iconst 1, 1) := by decide +kernel
theorem dX4_readsClause_23 : decode cX4_readsClause 23 = .ok (.goto 4, 3) := by decide +kernel
theorem dX4_readsClause_26 : decode cX4_readsClause 26 = .ok (.iconst 2, 1) := by decide +kernel
theorem dX4_readsClause_27 : decode cX4_readsClause 27 = .ok (.istore_n 1, 1) := by decide +kernel
theorem dX4_readsClause_28 : decode cX4_readsClause 28 = .ok (.aload_n 0, 1) := by decide +kernel
theorem dX4_readsClause_29 : decode cX4_readsClause 29 = .ok (.iload_n 1, 1) := by decide +kernel
theorem dX4_readsClause_30 : decode cX4_readsClause 30 = .ok (.ifCond .ne 8, 3) := by decide +kernel
theorem dX4_readsClause_33 : decode cX4_readsClause 33 = .ok (.ldc 66, 2) := by decide +kernel
theorem dX4_readsClause_35 : decode cX4_readsClause 35 = .ok (.goto 15, 3) := by decide +kernel
theorem dX4_readsClause_38 : decode cX4_readsClause 38 = .ok (.iload_n 1, 1) := by decide +kernel
theorem dX4_readsClause_39 : decode cX4_readsClause 39 = .ok (.iconst 1, 1) := by decide +kernel
theorem dX4_readsClause_40 : decode cX4_readsClause 40 = .ok (.if_icmp .ne 8, 3) := by decide +kernel
theorem dX4_readsClause_43 : decode cX4_readsClause 43 = .ok (.ldc 68, 2) := by decide +kernel
theorem dX4_readsClause_45 : decode cX4_readsClause 45 = .ok (.goto 5, 3) := by decide +kernel
theorem dX4_readsClause_48 : decode cX4_readsClause 48 = .ok (.ldc 70, 2) := by decide +kernel
theorem dX4_readsClause_50 : decode cX4_readsClause 50 = .ok (.invokevirtual 72, 3) := by decide +kernel
theorem dX4_readsClause_53 : decode cX4_readsClause 53 = .ok (.ifCond .ne 5, 3) := by decide +kernel
theorem dX4_readsClause_56 : decode cX4_readsClause 56 = .ok (.iconst 0, 1) := by decide +kernel
theorem dX4_readsClause_57 : decode cX4_readsClause 57 = .ok (.ireturn, 1) := by decide +kernel
theorem dX4_readsClause_58 : decode cX4_readsClause 58 = .ok (.aload_n 0, 1) := by decide +kernel
theorem dX4_readsClause_59 : decode cX4_readsClause 59 = .ok (.invokevirtual 76, 3) := by decide +kernel
theorem dX4_readsClause_62 : decode cX4_readsClause 62 = .ok (.istore_n 2, 1) := by decide +kernel
theorem dX4_readsClause_63 : decode cX4_readsClause 63 = .ok (.iload_n 2, 1) := by decide +kernel
theorem dX4_readsClause_64 : decode cX4_readsClause 64 = .ok (.ifCond .ge 5, 3) := by decide +kernel
theorem dX4_readsClause_67 : decode cX4_readsClause 67 = .ok (.iconst 0, 1) := by decide +kernel
theorem dX4_readsClause_68 : decode cX4_readsClause 68 = .ok (.ireturn, 1) := by decide +kernel
theorem dX4_readsClause_69 : decode cX4_readsClause 69 = .ok (.aload_n 0, 1) := by decide +kernel
theorem dX4_readsClause_70 : decode cX4_readsClause 70 = .ok (.getfield 12, 3) := by decide +kernel
theorem dX4_readsClause_73 : decode cX4_readsClause 73 = .ok (.iload_n 1, 1) := by decide +kernel
theorem dX4_readsClause_74 : decode cX4_readsClause 74 = .ok (.iload_n 2, 1) := by decide +kernel
theorem dX4_readsClause_75 : decode cX4_readsClause 75 = .ok (.invokevirtual 79, 3) := by decide +kernel
theorem dX4_readsClause_78 : decode cX4_readsClause 78 = .ok (.iload_n 1, 1) := by decide +kernel
theorem dX4_readsClause_79 : decode cX4_readsClause 79 = .ok (.ifCond .eq 19, 3) := by decide +kernel
theorem dX4_readsClause_82 : decode cX4_readsClause 82 = .ok (.aload_n 0, 1) := by decide +kernel
theorem dX4_readsClause_83 : decode cX4_readsClause 83 = .ok (.bipush 32, 2) := by decide +kernel
theorem dX4_readsClause_85 : decode cX4_readsClause 85 = .ok (.invokevirtual 58, 3) := by decide +kernel
theorem dX4_readsClause_88 : decode cX4_readsClause 88 = .ok (.ifCond .eq 14, 3) := by decide +kernel
theorem dX4_readsClause_91 : decode cX4_readsClause 91 = .ok (.aload_n 0, 1) := by decide +kernel
theorem dX4_readsClause_92 : decode cX4_readsClause 92 = .ok (.invokevirtual 83, 3) := by decide +kernel
theorem dX4_readsClause_95 : decode cX4_readsClause 95 = .ok (.ifCond .eq 7, 3) := by decide +kernel
theorem dX4_readsClause_98 : decode cX4_readsClause 98 = .ok (.iconst 1, 1) := by decide +kernel
theorem dX4_readsClause_99 : decode cX4_readsClause 99 = .ok (.goto 4, 3) := by decide +kernel
theorem dX4_readsClause_102 : decode cX4_readsClause 102 = .ok (.iconst 0, 1) := by decide +kernel
theorem dX4_readsClause_103 : decode cX4_readsClause 103 = .ok (.ireturn, 1) := by decide +kernel
theorem dX4_readsExpression_0 : decode cX4_readsExpression 0 = .ok (.aload_n 0, 1) := by decide +kernel
theorem dX4_readsExpression_1 : decode cX4_readsExpression 1 = .ok (.iconst 0, 1) := by decide +kernel
theorem dX4_readsExpression_2 : decode cX4_readsExpression 2 = .ok (.putfield 35, 3) := by decide +kernel
theorem dX4_readsExpression_5 : decode cX4_readsExpression 5 = .ok (.aload_n 0, 1) := by decide +kernel
theorem dX4_readsExpression_6 : decode cX4_readsExpression 6 = .ok (.iconst 0, 1) := by decide +kernel
theorem dX4_readsExpression_7 : decode cX4_readsExpression 7 = .ok (.putfield 38, 3) := by decide +kernel
theorem dX4_readsExpression_10 : decode cX4_readsExpression 10 = .ok (.aload_n 0, 1) := by decide +kernel
theorem dX4_readsExpression_11 : decode cX4_readsExpression 11 = .ok (.iconst 0, 1) := by decide +kernel
theorem dX4_readsExpression_12 : decode cX4_readsExpression 12 = .ok (.putfield 41, 3) := by decide +kernel
theorem dX4_readsExpression_15 : decode cX4_readsExpression 15 = .ok (.iconst 0, 1) := by decide +kernel
theorem dX4_readsExpression_16 : decode cX4_readsExpression 16 = .ok (.istore_n 1, 1) := by decide +kernel
theorem dX4_readsExpression_17 : decode cX4_readsExpression 17 = .ok (.iload_n 1, 1) := by decide +kernel
theorem dX4_readsExpression_18 : decode cX4_readsExpression 18 = .ok (.bipush 100, 2) := by decide +kernel
theorem dX4_readsExpression_20 : decode cX4_readsExpression 20 = .ok (.if_icmp .ge 88, 3) := by decide +kernel
theorem dX4_readsExpression_23 : decode cX4_readsExpression 23 = .ok (.aload_n 0, 1) := by decide +kernel
theorem dX4_readsExpression_24 : decode cX4_readsExpression 24 = .ok (.invokevirtual 86, 3) := by decide +kernel
theorem dX4_readsExpression_27 : decode cX4_readsExpression 27 = .ok (.aload_n 0, 1) := by decide +kernel
theorem dX4_readsExpression_28 : decode cX4_readsExpression 28 = .ok (.invokevirtual 89, 3) := by decide +kernel
theorem dX4_readsExpression_31 : decode cX4_readsExpression 31 = .ok (.ifCond .ne 5, 3) := by decide +kernel
theorem dX4_readsExpression_34 : decode cX4_readsExpression 34 = .ok (.iconst 0, 1) := by decide +kernel
theorem dX4_readsExpression_35 : decode cX4_readsExpression 35 = .ok (.ireturn, 1) := by decide +kernel
theorem dX4_readsExpression_36 : decode cX4_readsExpression 36 = .ok (.aload_n 0, 1) := by decide +kernel
theorem dX4_readsExpression_37 : decode cX4_readsExpression 37 = .ok (.invokevirtual 92, 3) := by decide +kernel
theorem dX4_readsExpression_40 : decode cX4_readsExpression 40 = .ok (.aload_n 0, 1) := by decide +kernel
theorem dX4_readsExpression_41 : decode cX4_readsExpression 41 = .ok (.bipush 38, 2) := by decide +kernel
theorem dX4_readsExpression_43 : decode cX4_readsExpression 43 = .ok (.invokevirtual 58, 3) := by decide +kernel
theorem dX4_readsExpression_46 : decode cX4_readsExpression 46 = .ok (.ifCond .eq 16, 3) := by decide +kernel
theorem dX4_readsExpression_49 : decode cX4_readsExpression 49 = .ok (.aload_n 0, 1) := by decide +kernel
theorem dX4_readsExpression_50 : decode cX4_readsExpression 50 = .ok (.iconst 2, 1) := by decide +kernel
theorem dX4_readsExpression_51 : decode cX4_readsExpression 51 = .ok (.invokevirtual 95, 3) := by decide +kernel
theorem dX4_readsExpression_54 : decode cX4_readsExpression 54 = .ok (.aload_n 0, 1) := by decide +kernel
theorem dX4_readsExpression_55 : decode cX4_readsExpression 55 = .ok (.iconst 2, 1) := by decide +kernel
theorem dX4_readsExpression_56 : decode cX4_readsExpression 56 = .ok (.invokevirtual 98, 3) := by decide +kernel
theorem dX4_readsExpression_59 : decode cX4_readsExpression 59 = .ok (.goto 43, 3) := by decide +kernel
theorem dX4_readsExpression_62 : decode cX4_readsExpression 62 = .ok (.aload_n 0, 1) := by decide +kernel
theorem dX4_readsExpression_63 : decode cX4_readsExpression 63 = .ok (.bipush 124, 2) := by decide +kernel
theorem dX4_readsExpression_65 : decode cX4_readsExpression 65 = .ok (.invokevirtual 58, 3) := by decide +kernel
theorem dX4_readsExpression_68 : decode cX4_readsExpression 68 = .ok (.ifCond .eq 16, 3) := by decide +kernel
theorem dX4_readsExpression_71 : decode cX4_readsExpression 71 = .ok (.aload_n 0, 1) := by decide +kernel
theorem dX4_readsExpression_72 : decode cX4_readsExpression 72 = .ok (.iconst 1, 1) := by decide +kernel
theorem dX4_readsExpression_73 : decode cX4_readsExpression 73 = .ok (.invokevirtual 95, 3) := by decide +kernel
theorem dX4_readsExpression_76 : decode cX4_readsExpression 76 = .ok (.aload_n 0, 1) := by decide +kernel
theorem dX4_readsExpression_77 : decode cX4_readsExpression 77 = .ok (.iconst 1, 1) := by decide +kernel
theorem dX4_readsExpression_78 : decode cX4_readsExpression 78 = .ok (.invokevirtual 98, 3) := by decide +kernel
theorem dX4_readsExpression_81 : decode cX4_readsExpression 81 = .ok (.goto 21, 3) := by decide +kernel
theorem dX4_readsExpression_84 : decode cX4_readsExpression 84 = .ok (.aload_n 0, 1) := by decide +kernel
theorem dX4_readsExpression_85 : decode cX4_readsExpression 85 = .ok (.iconst 1, 1) := by decide +kernel
theorem dX4_readsExpression_86 : decode cX4_readsExpression 86 = .ok (.invokevirtual 95, 3) := by decide +kernel
theorem dX4_readsExpression_89 : decode cX4_readsExpression 89 = .ok (.aload_n 0, 1) := by decide +kernel
theorem dX4_readsExpression_90 : decode cX4_readsExpression 90 = .ok (.getfield 41, 3) := by decide +kernel
theorem dX4_readsExpression_93 : decode cX4_readsExpression 93 = .ok (.ifCond .ne 7, 3) := by decide +kernel
theorem dX4_readsExpression_96 : decode cX4_readsExpression 96 = .ok (.iconst 1, 1) := by decide +kernel
theorem dX4_readsExpression_97 : decode cX4_readsExpression 97 = .ok (.goto 4, 3) := by decide +kernel
theorem dX4_readsExpression_100 : decode cX4_readsExpression 100 = .ok (.iconst 0, 1) := by decide +kernel
theorem dX4_readsExpression_101 : decode cX4_readsExpression 101 = .ok (.ireturn, 1) := by decide +kernel
theorem dX4_readsExpression_102 : decode cX4_readsExpression 102 = .ok (.iinc 1 1, 3) := by decide +kernel
theorem dX4_readsExpression_105 : decode cX4_readsExpression 105 = .ok (.goto (-88), 3) := by decide +kernel
theorem dX4_readsExpression_108 : decode cX4_readsExpression 108 = .ok (.iconst 0, 1) := by decide +kernel
theorem dX4_readsExpression_109 : decode cX4_readsExpression 109 = .ok (.ireturn, 1) := by decide +kernel
theorem dX4_readsTest_0 : decode cX4_readsTest 0 = .ok (.aload_n 0, 1) := by decide +kernel
theorem dX4_readsTest_1 : decode cX4_readsTest 1 = .ok (.ldc 104, 2) := by decide +kernel
theorem dX4_readsTest_3 : decode cX4_readsTest 3 = .ok (.invokevirtual 106, 3) := by decide +kernel
theorem dX4_readsTest_6 : decode cX4_readsTest 6 = .ok (.istore_n 1, 1) := by decide +kernel
theorem dX4_readsTest_7 : decode cX4_readsTest 7 = .ok (.iload_n 1, 1) := by decide +kernel
theorem dX4_readsTest_8 : decode cX4_readsTest 8 = .ok (.ifCond .ge 5, 3) := by decide +kernel
theorem dX4_readsTest_11 : decode cX4_readsTest 11 = .ok (.iconst 0, 1) := by decide +kernel
theorem dX4_readsTest_12 : decode cX4_readsTest 12 = .ok (.ireturn, 1) := by decide +kernel
theorem dX4_readsTest_13 : decode cX4_readsTest 13 = .ok (.aload_n 0, 1) := by decide +kernel
theorem dX4_readsTest_14 : decode cX4_readsTest 14 = .ok (.ldc 110, 2) := by decide +kernel
theorem dX4_readsTest_16 : decode cX4_readsTest 16 = .ok (.invokevirtual 106, 3) := by decide +kernel
theorem dX4_readsTest_19 : decode cX4_readsTest 19 = .ok (.istore_n 2, 1) := by decide +kernel
theorem dX4_readsTest_20 : decode cX4_readsTest 20 = .ok (.iload_n 2, 1) := by decide +kernel
theorem dX4_readsTest_21 : decode cX4_readsTest 21 = .ok (.ifCond .ge 5, 3) := by decide +kernel
theorem dX4_readsTest_24 : decode cX4_readsTest 24 = .ok (.iconst 0, 1) := by decide +kernel
theorem dX4_readsTest_25 : decode cX4_readsTest 25 = .ok (.ireturn, 1) := by decide +kernel
theorem dX4_readsTest_26 : decode cX4_readsTest 26 = .ok (.aload_n 0, 1) := by decide +kernel
theorem dX4_readsTest_27 : decode cX4_readsTest 27 = .ok (.invokevirtual 76, 3) := by decide +kernel
theorem dX4_readsTest_30 : decode cX4_readsTest 30 = .ok (.istore_n 3, 1) := by decide +kernel
theorem dX4_readsTest_31 : decode cX4_readsTest 31 = .ok (.iload_n 3, 1) := by decide +kernel
theorem dX4_readsTest_32 : decode cX4_readsTest 32 = .ok (.ifCond .ge 5, 3) := by decide +kernel
theorem dX4_readsTest_35 : decode cX4_readsTest 35 = .ok (.iconst 0, 1) := by decide +kernel
theorem dX4_readsTest_36 : decode cX4_readsTest 36 = .ok (.ireturn, 1) := by decide +kernel
theorem dX4_readsTest_37 : decode cX4_readsTest 37 = .ok (.iload_n 2, 1) := by decide +kernel
theorem dX4_readsTest_38 : decode cX4_readsTest 38 = .ok (.iconst 1, 1) := by decide +kernel
theorem dX4_readsTest_39 : decode cX4_readsTest 39 = .ok (.if_icmp .ne 16, 3) := by decide +kernel
theorem dX4_readsTest_42 : decode cX4_readsTest 42 = .ok (.aload_n 0, 1) := by decide +kernel
theorem dX4_readsTest_43 : decode cX4_readsTest 43 = .ok (.getfield 12, 3) := by decide +kernel
theorem dX4_readsTest_46 : decode cX4_readsTest 46 = .ok (.iload_n 1, 1) := by decide +kernel
theorem dX4_readsTest_47 : decode cX4_readsTest 47 = .ok (.iload_n 3, 1) := by decide +kernel
theorem dX4_readsTest_48 : decode cX4_readsTest 48 = .ok (.iload_n 3, 1) := by decide +kernel
theorem dX4_readsTest_49 : decode cX4_readsTest 49 = .ok (.invokevirtual 112, 3) := by decide +kernel
theorem dX4_readsTest_52 : decode cX4_readsTest 52 = .ok (.goto 48, 3) := by decide +kernel
theorem dX4_readsTest_55 : decode cX4_readsTest 55 = .ok (.iload_n 2, 1) := by decide +kernel
theorem dX4_readsTest_56 : decode cX4_readsTest 56 = .ok (.iconst 2, 1) := by decide +kernel
theorem dX4_readsTest_57 : decode cX4_readsTest 57 = .ok (.if_icmp .ne 19, 3) := by decide +kernel
theorem dX4_readsTest_60 : decode cX4_readsTest 60 = .ok (.aload_n 0, 1) := by decide +kernel
theorem dX4_readsTest_61 : decode cX4_readsTest 61 = .ok (.getfield 12, 3) := by decide +kernel
theorem dX4_readsTest_64 : decode cX4_readsTest 64 = .ok (.iload_n 1, 1) := by decide +kernel
theorem dX4_readsTest_65 : decode cX4_readsTest 65 = .ok (.iload_n 3, 1) := by decide +kernel
theorem dX4_readsTest_66 : decode cX4_readsTest 66 = .ok (.iconst 1, 1) := by decide +kernel
theorem dX4_readsTest_67 : decode cX4_readsTest 67 = .ok (.iadd, 1) := by decide +kernel
theorem dX4_readsTest_68 : decode cX4_readsTest 68 = .ok (.bipush 127, 2) := by decide +kernel
theorem dX4_readsTest_70 : decode cX4_readsTest 70 = .ok (.invokevirtual 112, 3) := by decide +kernel
theorem dX4_readsTest_73 : decode cX4_readsTest 73 = .ok (.goto 27, 3) := by decide +kernel
theorem dX4_readsTest_76 : decode cX4_readsTest 76 = .ok (.aload_n 0, 1) := by decide +kernel
theorem dX4_readsTest_77 : decode cX4_readsTest 77 = .ok (.getfield 12, 3) := by decide +kernel
theorem dX4_readsTest_80 : decode cX4_readsTest 80 = .ok (.iload_n 1, 1) := by decide +kernel
theorem dX4_readsTest_81 : decode cX4_readsTest 81 = .ok (.iload_n 3, 1) := by decide +kernel
theorem dX4_readsTest_82 : decode cX4_readsTest 82 = .ok (.ifCond .ne 7, 3) := by decide +kernel
theorem dX4_readsTest_85 : decode cX4_readsTest 85 = .ok (.iconst 1, 1) := by decide +kernel
theorem dX4_readsTest_86 : decode cX4_readsTest 86 = .ok (.goto 4, 3) := by decide +kernel
theorem dX4_readsTest_89 : decode cX4_readsTest 89 = .ok (.iconst 0, 1) := by decide +kernel
theorem dX4_readsTest_90 : decode cX4_readsTest 90 = .ok (.iload_n 3, 1) := by decide +kernel
theorem dX4_readsTest_91 : decode cX4_readsTest 91 = .ok (.iconst 1, 1) := by decide +kernel
theorem dX4_readsTest_92 : decode cX4_readsTest 92 = .ok (.isub, 1) := by decide +kernel
theorem dX4_readsTest_93 : decode cX4_readsTest 93 = .ok (.iconst 0, 1) := by decide +kernel
theorem dX4_readsTest_94 : decode cX4_readsTest 94 = .ok (.invokestatic 116, 3) := by decide +kernel
theorem dX4_readsTest_97 : decode cX4_readsTest 97 = .ok (.invokevirtual 112, 3) := by decide +kernel
theorem dX4_readsTest_100 : decode cX4_readsTest 100 = .ok (.iconst 1, 1) := by decide +kernel
theorem dX4_readsTest_101 : decode cX4_readsTest 101 = .ok (.ireturn, 1) := by decide +kernel
theorem dX4_settle_0 : decode cX4_settle 0 = .ok (.iconst 0, 1) := by decide +kernel
theorem dX4_settle_1 : decode cX4_settle 1 = .ok (.istore_n 2, 1) := by decide +kernel
theorem dX4_settle_2 : decode cX4_settle 2 = .ok (.iload_n 2, 1) := by decide +kernel
theorem dX4_settle_3 : decode cX4_settle 3 = .ok (.bipush 17, 2) := by decide +kernel
theorem dX4_settle_5 : decode cX4_settle 5 = .ok (.if_icmp .ge 102, 3) := by decide +kernel
theorem dX4_settle_8 : decode cX4_settle 8 = .ok (.aload_n 0, 1) := by decide +kernel
theorem dX4_settle_9 : decode cX4_settle 9 = .ok (.getfield 35, 3) := by decide +kernel
theorem dX4_settle_12 : decode cX4_settle 12 = .ok (.ifCond .le 95, 3) := by decide +kernel
theorem dX4_settle_15 : decode cX4_settle 15 = .ok (.aload_n 0, 1) := by decide +kernel
theorem dX4_settle_16 : decode cX4_settle 16 = .ok (.getfield 31, 3) := by decide +kernel
theorem dX4_settle_19 : decode cX4_settle 19 = .ok (.aload_n 0, 1) := by decide +kernel
theorem dX4_settle_20 : decode cX4_settle 20 = .ok (.getfield 35, 3) := by decide +kernel
theorem dX4_settle_23 : decode cX4_settle 23 = .ok (.iconst 1, 1) := by decide +kernel
theorem dX4_settle_24 : decode cX4_settle 24 = .ok (.isub, 1) := by decide +kernel
theorem dX4_settle_25 : decode cX4_settle 25 = .ok (.iaload, 1) := by decide +kernel
theorem dX4_settle_26 : decode cX4_settle 26 = .ok (.iload_n 1, 1) := by decide +kernel
theorem dX4_settle_27 : decode cX4_settle 27 = .ok (.if_icmp .lt 80, 3) := by decide +kernel
theorem dX4_settle_30 : decode cX4_settle 30 = .ok (.aload_n 0, 1) := by decide +kernel
theorem dX4_settle_31 : decode cX4_settle 31 = .ok (.dup, 1) := by decide +kernel
theorem dX4_settle_32 : decode cX4_settle 32 = .ok (.getfield 35, 3) := by decide +kernel
theorem dX4_settle_35 : decode cX4_settle 35 = .ok (.iconst 1, 1) := by decide +kernel
theorem dX4_settle_36 : decode cX4_settle 36 = .ok (.isub, 1) := by decide +kernel
theorem dX4_settle_37 : decode cX4_settle 37 = .ok (.putfield 35, 3) := by decide +kernel
theorem dX4_settle_40 : decode cX4_settle 40 = .ok (.aload_n 0, 1) := by decide +kernel
theorem dX4_settle_41 : decode cX4_settle 41 = .ok (.getfield 31, 3) := by decide +kernel
theorem dX4_settle_44 : decode cX4_settle 44 = .ok (.aload_n 0, 1) := by decide +kernel
theorem dX4_settle_45 : decode cX4_settle 45 = .ok (.getfield 35, 3) := by decide +kernel
theorem dX4_settle_48 : decode cX4_settle 48 = .ok (.iaload, 1) := by decide +kernel
theorem dX4_settle_49 : decode cX4_settle 49 = .ok (.iconst 3, 1) := by decide +kernel
theorem dX4_settle_50 : decode cX4_settle 50 = .ok (.if_icmp .ne 25, 3) := by decide +kernel
theorem dX4_settle_53 : decode cX4_settle 53 = .ok (.aload_n 0, 1) := by decide +kernel
theorem dX4_settle_54 : decode cX4_settle 54 = .ok (.getfield 12, 3) := by decide +kernel
theorem dX4_settle_57 : decode cX4_settle 57 = .ok (.bipush (-3), 2) := by decide +kernel
theorem dX4_settle_59 : decode cX4_settle 59 = .ok (.invokevirtual 101, 3) := by decide +kernel
theorem dX4_settle_62 : decode cX4_settle 62 = .ok (.aload_n 0, 1) := by decide +kernel
theorem dX4_settle_63 : decode cX4_settle 63 = .ok (.dup, 1) := by decide +kernel
theorem dX4_settle_64 : decode cX4_settle 64 = .ok (.getfield 38, 3) := by decide +kernel
theorem dX4_settle_67 : decode cX4_settle 67 = .ok (.iconst 1, 1) := by decide +kernel
theorem dX4_settle_68 : decode cX4_settle 68 = .ok (.isub, 1) := by decide +kernel
theorem dX4_settle_69 : decode cX4_settle 69 = .ok (.putfield 38, 3) := by decide +kernel
theorem dX4_settle_72 : decode cX4_settle 72 = .ok (.goto 29, 3) := by decide +kernel
theorem dX4_settle_75 : decode cX4_settle 75 = .ok (.aload_n 0, 1) := by decide +kernel
theorem dX4_settle_76 : decode cX4_settle 76 = .ok (.getfield 12, 3) := by decide +kernel
theorem dX4_settle_79 : decode cX4_settle 79 = .ok (.aload_n 0, 1) := by decide +kernel
theorem dX4_settle_80 : decode cX4_settle 80 = .ok (.getfield 31, 3) := by decide +kernel
theorem dX4_settle_83 : decode cX4_settle 83 = .ok (.aload_n 0, 1) := by decide +kernel
theorem dX4_settle_84 : decode cX4_settle 84 = .ok (.getfield 35, 3) := by decide +kernel
theorem dX4_settle_87 : decode cX4_settle 87 = .ok (.iaload, 1) := by decide +kernel
theorem dX4_settle_88 : decode cX4_settle 88 = .ok (.iconst 2, 1) := by decide +kernel
theorem dX4_settle_89 : decode cX4_settle 89 = .ok (.if_icmp .ne 8, 3) := by decide +kernel
theorem dX4_settle_92 : decode cX4_settle 92 = .ok (.bipush (-2), 2) := by decide +kernel
theorem dX4_settle_94 : decode cX4_settle 94 = .ok (.goto 4, 3) := by decide +kernel
theorem dX4_settle_97 : decode cX4_settle 97 = .ok (.iconst (-1), 1) := by decide +kernel
theorem dX4_settle_98 : decode cX4_settle 98 = .ok (.invokevirtual 101, 3) := by decide +kernel
theorem dX4_settle_101 : decode cX4_settle 101 = .ok (.iinc 2 1, 3) := by decide +kernel
theorem dX4_settle_104 : decode cX4_settle 104 = .ok (.goto (-102), 3) := by decide +kernel
theorem dX4_settle_107 : decode cX4_settle 107 = .ok (.return_, 1) := by decide +kernel
theorem dX4_takes_0 : decode cX4_takes 0 = .ok (.aload_n 0, 1) := by decide +kernel
theorem dX4_takes_1 : decode cX4_takes 1 = .ok (.invokevirtual 62, 3) := by decide +kernel
theorem dX4_takes_4 : decode cX4_takes 4 = .ok (.iload_n 1, 1) := by decide +kernel
theorem dX4_takes_5 : decode cX4_takes 5 = .ok (.if_icmp .ne 7, 3) := by decide +kernel
theorem dX4_takes_8 : decode cX4_takes 8 = .ok (.iconst 1, 1) := by decide +kernel
theorem dX4_takes_9 : decode cX4_takes 9 = .ok (.goto 4, 3) := by decide +kernel
theorem dX4_takes_12 : decode cX4_takes 12 = .ok (.iconst 0, 1) := by decide +kernel
theorem dX4_takes_13 : decode cX4_takes 13 = .ok (.istore_n 2, 1) := by decide +kernel
theorem dX4_takes_14 : decode cX4_takes 14 = .ok (.iload_n 2, 1) := by decide +kernel
theorem dX4_takes_15 : decode cX4_takes 15 = .ok (.ifCond .eq 13, 3) := by decide +kernel
theorem dX4_takes_18 : decode cX4_takes 18 = .ok (.aload_n 0, 1) := by decide +kernel
theorem dX4_takes_19 : decode cX4_takes 19 = .ok (.dup, 1) := by decide +kernel
theorem dX4_takes_20 : decode cX4_takes 20 = .ok (.getfield 18, 3) := by decide +kernel
theorem dX4_takes_23 : decode cX4_takes 23 = .ok (.iconst 1, 1) := by decide +kernel
theorem dX4_takes_24 : decode cX4_takes 24 = .ok (.iadd, 1) := by decide +kernel
theorem dX4_takes_25 : decode cX4_takes 25 = .ok (.putfield 18, 3) := by decide +kernel
theorem dX4_takes_28 : decode cX4_takes 28 = .ok (.iload_n 2, 1) := by decide +kernel
theorem dX4_takes_29 : decode cX4_takes 29 = .ok (.ireturn, 1) := by decide +kernel
theorem dX4_takesAll_0 : decode cX4_takesAll 0 = .ok (.iconst 0, 1) := by decide +kernel
theorem dX4_takesAll_1 : decode cX4_takesAll 1 = .ok (.istore_n 2, 1) := by decide +kernel
theorem dX4_takesAll_2 : decode cX4_takesAll 2 = .ok (.iload_n 2, 1) := by decide +kernel
theorem dX4_takesAll_3 : decode cX4_takesAll 3 = .ok (.aload_n 1, 1) := by decide +kernel
theorem dX4_takesAll_4 : decode cX4_takesAll 4 = .ok (.invokevirtual 124, 3) := by decide +kernel
theorem dX4_takesAll_7 : decode cX4_takesAll 7 = .ok (.if_icmp .ge 23, 3) := by decide +kernel
theorem dX4_takesAll_10 : decode cX4_takesAll 10 = .ok (.aload_n 0, 1) := by decide +kernel
theorem dX4_takesAll_11 : decode cX4_takesAll 11 = .ok (.aload_n 1, 1) := by decide +kernel
theorem dX4_takesAll_12 : decode cX4_takesAll 12 = .ok (.iload_n 2, 1) := by decide +kernel
theorem dX4_takesAll_13 : decode cX4_takesAll 13 = .ok (.invokevirtual 129, 3) := by decide +kernel
theorem dX4_takesAll_16 : decode cX4_takesAll 16 = .ok (.invokevirtual 58, 3) := by decide +kernel
theorem dX4_takesAll_19 : decode cX4_takesAll 19 = .ok (.ifCond .ne 5, 3) := by decide +kernel
theorem dX4_takesAll_22 : decode cX4_takesAll 22 = .ok (.iconst 0, 1) := by decide +kernel
theorem dX4_takesAll_23 : decode cX4_takesAll 23 = .ok (.ireturn, 1) := by decide +kernel
theorem dX4_takesAll_24 : decode cX4_takesAll 24 = .ok (.iinc 2 1, 3) := by decide +kernel
theorem dX4_takesAll_27 : decode cX4_takesAll 27 = .ok (.goto (-25), 3) := by decide +kernel
theorem dX4_takesAll_30 : decode cX4_takesAll 30 = .ok (.iconst 1, 1) := by decide +kernel
theorem dX4_takesAll_31 : decode cX4_takesAll 31 = .ok (.ireturn, 1) := by decide +kernel
theorem dX4_takesClosing_0 : decode cX4_takesClosing 0 = .ok (.iconst 0, 1) := by decide +kernel
theorem dX4_takesClosing_1 : decode cX4_takesClosing 1 = .ok (.istore_n 1, 1) := by decide +kernel
theorem dX4_takesClosing_2 : decode cX4_takesClosing 2 = .ok (.iload_n 1, 1) := by decide +kernel
theorem dX4_takesClosing_3 : decode cX4_takesClosing 3 = .ok (.iconst 5, 1) := by decide +kernel
theorem dX4_takesClosing_4 : decode cX4_takesClosing 4 = .ok (.if_icmp .ge 60, 3) := by decide +kernel
theorem dX4_takesClosing_7 : decode cX4_takesClosing 7 = .ok (.aload_n 0, 1) := by decide +kernel
theorem dX4_takesClosing_8 : decode cX4_takesClosing 8 = .ok (.getfield 41, 3) := by decide +kernel
theorem dX4_takesClosing_11 : decode cX4_takesClosing 11 = .ok (.ifCond .le 53, 3) := by decide +kernel
theorem dX4_takesClosing_14 : decode cX4_takesClosing 14 = .ok (.aload_n 0, 1) := by decide +kernel
theorem dX4_takesClosing_15 : decode cX4_takesClosing 15 = .ok (.bipush 41, 2) := by decide +kernel
theorem dX4_takesClosing_17 : decode cX4_takesClosing 17 = .ok (.invokevirtual 58, 3) := by decide +kernel
theorem dX4_takesClosing_20 : decode cX4_takesClosing 20 = .ok (.ifCond .eq 44, 3) := by decide +kernel
theorem dX4_takesClosing_23 : decode cX4_takesClosing 23 = .ok (.aload_n 0, 1) := by decide +kernel
theorem dX4_takesClosing_24 : decode cX4_takesClosing 24 = .ok (.iconst 1, 1) := by decide +kernel
theorem dX4_takesClosing_25 : decode cX4_takesClosing 25 = .ok (.invokevirtual 95, 3) := by decide +kernel
theorem dX4_takesClosing_28 : decode cX4_takesClosing 28 = .ok (.aload_n 0, 1) := by decide +kernel
theorem dX4_takesClosing_29 : decode cX4_takesClosing 29 = .ok (.dup, 1) := by decide +kernel
theorem dX4_takesClosing_30 : decode cX4_takesClosing 30 = .ok (.getfield 35, 3) := by decide +kernel
theorem dX4_takesClosing_33 : decode cX4_takesClosing 33 = .ok (.iconst 1, 1) := by decide +kernel
theorem dX4_takesClosing_34 : decode cX4_takesClosing 34 = .ok (.isub, 1) := by decide +kernel
theorem dX4_takesClosing_35 : decode cX4_takesClosing 35 = .ok (.putfield 35, 3) := by decide +kernel
theorem dX4_takesClosing_38 : decode cX4_takesClosing 38 = .ok (.aload_n 0, 1) := by decide +kernel
theorem dX4_takesClosing_39 : decode cX4_takesClosing 39 = .ok (.dup, 1) := by decide +kernel
theorem dX4_takesClosing_40 : decode cX4_takesClosing 40 = .ok (.getfield 38, 3) := by decide +kernel
theorem dX4_takesClosing_43 : decode cX4_takesClosing 43 = .ok (.iconst 1, 1) := by decide +kernel
theorem dX4_takesClosing_44 : decode cX4_takesClosing 44 = .ok (.isub, 1) := by decide +kernel
theorem dX4_takesClosing_45 : decode cX4_takesClosing 45 = .ok (.putfield 38, 3) := by decide +kernel
theorem dX4_takesClosing_48 : decode cX4_takesClosing 48 = .ok (.aload_n 0, 1) := by decide +kernel
theorem dX4_takesClosing_49 : decode cX4_takesClosing 49 = .ok (.dup, 1) := by decide +kernel
theorem dX4_takesClosing_50 : decode cX4_takesClosing 50 = .ok (.getfield 41, 3) := by decide +kernel
theorem dX4_takesClosing_53 : decode cX4_takesClosing 53 = .ok (.iconst 1, 1) := by decide +kernel
theorem dX4_takesClosing_54 : decode cX4_takesClosing 54 = .ok (.isub, 1) := by decide +kernel
theorem dX4_takesClosing_55 : decode cX4_takesClosing 55 = .ok (.putfield 41, 3) := by decide +kernel
theorem dX4_takesClosing_58 : decode cX4_takesClosing 58 = .ok (.iinc 1 1, 3) := by decide +kernel
theorem dX4_takesClosing_61 : decode cX4_takesClosing 61 = .ok (.goto (-59), 3) := by decide +kernel
theorem dX4_takesClosing_64 : decode cX4_takesClosing 64 = .ok (.return_, 1) := by decide +kernel
theorem dX4_takesNumber_0 : decode cX4_takesNumber 0 = .ok (.aload_n 0, 1) := by decide +kernel
theorem dX4_takesNumber_1 : decode cX4_takesNumber 1 = .ok (.ldc 122, 2) := by decide +kernel
theorem dX4_takesNumber_3 : decode cX4_takesNumber 3 = .ok (.invokevirtual 106, 3) := by decide +kernel
theorem dX4_takesNumber_6 : decode cX4_takesNumber 6 = .ok (.istore_n 1, 1) := by decide +kernel
theorem dX4_takesNumber_7 : decode cX4_takesNumber 7 = .ok (.iload_n 1, 1) := by decide +kernel
theorem dX4_takesNumber_8 : decode cX4_takesNumber 8 = .ok (.ifCond .gt 5, 3) := by decide +kernel
theorem dX4_takesNumber_11 : decode cX4_takesNumber 11 = .ok (.iload_n 1, 1) := by decide +kernel
theorem dX4_takesNumber_12 : decode cX4_takesNumber 12 = .ok (.ireturn, 1) := by decide +kernel
theorem dX4_takesNumber_13 : decode cX4_takesNumber 13 = .ok (.aload_n 0, 1) := by decide +kernel
theorem dX4_takesNumber_14 : decode cX4_takesNumber 14 = .ok (.ldc 122, 2) := by decide +kernel
theorem dX4_takesNumber_16 : decode cX4_takesNumber 16 = .ok (.invokevirtual 106, 3) := by decide +kernel
theorem dX4_takesNumber_19 : decode cX4_takesNumber 19 = .ok (.istore_n 2, 1) := by decide +kernel
theorem dX4_takesNumber_20 : decode cX4_takesNumber 20 = .ok (.iload_n 2, 1) := by decide +kernel
theorem dX4_takesNumber_21 : decode cX4_takesNumber 21 = .ok (.ifCond .ge 7, 3) := by decide +kernel
theorem dX4_takesNumber_24 : decode cX4_takesNumber 24 = .ok (.iload_n 1, 1) := by decide +kernel
theorem dX4_takesNumber_25 : decode cX4_takesNumber 25 = .ok (.goto 9, 3) := by decide +kernel
theorem dX4_takesNumber_28 : decode cX4_takesNumber 28 = .ok (.bipush 10, 2) := by decide +kernel
theorem dX4_takesNumber_30 : decode cX4_takesNumber 30 = .ok (.iload_n 1, 1) := by decide +kernel
theorem dX4_takesNumber_31 : decode cX4_takesNumber 31 = .ok (.imul, 1) := by decide +kernel
theorem dX4_takesNumber_32 : decode cX4_takesNumber 32 = .ok (.iload_n 2, 1) := by decide +kernel
theorem dX4_takesNumber_33 : decode cX4_takesNumber 33 = .ok (.iadd, 1) := by decide +kernel
theorem dX4_takesNumber_34 : decode cX4_takesNumber 34 = .ok (.ireturn, 1) := by decide +kernel
theorem dX4_takesOneOf_0 : decode cX4_takesOneOf 0 = .ok (.aload_n 0, 1) := by decide +kernel
theorem dX4_takesOneOf_1 : decode cX4_takesOneOf 1 = .ok (.invokevirtual 62, 3) := by decide +kernel
theorem dX4_takesOneOf_4 : decode cX4_takesOneOf 4 = .ok (.istore_n 2, 1) := by decide +kernel
theorem dX4_takesOneOf_5 : decode cX4_takesOneOf 5 = .ok (.iload_n 2, 1) := by decide +kernel
theorem dX4_takesOneOf_6 : decode cX4_takesOneOf 6 = .ok (.ifCond .ge 7, 3) := by decide +kernel
theorem dX4_takesOneOf_9 : decode cX4_takesOneOf 9 = .ok (.iconst (-1), 1) := by decide +kernel
theorem dX4_takesOneOf_10 : decode cX4_takesOneOf 10 = .ok (.goto 9, 3) := by decide +kernel
theorem dX4_takesOneOf_13 : decode cX4_takesOneOf 13 = .ok (.aload_n 1, 1) := by decide +kernel
theorem dX4_takesOneOf_14 : decode cX4_takesOneOf 14 = .ok (.iload_n 2, 1) := by decide +kernel
theorem dX4_takesOneOf_15 : decode cX4_takesOneOf 15 = .ok (.i2c, 1) := by decide +kernel
theorem dX4_takesOneOf_16 : decode cX4_takesOneOf 16 = .ok (.invokevirtual 133, 3) := by decide +kernel
theorem dX4_takesOneOf_19 : decode cX4_takesOneOf 19 = .ok (.istore_n 3, 1) := by decide +kernel
theorem dX4_takesOneOf_20 : decode cX4_takesOneOf 20 = .ok (.iload_n 3, 1) := by decide +kernel
theorem dX4_takesOneOf_21 : decode cX4_takesOneOf 21 = .ok (.ifCond .lt 13, 3) := by decide +kernel
theorem dX4_takesOneOf_24 : decode cX4_takesOneOf 24 = .ok (.aload_n 0, 1) := by decide +kernel
theorem dX4_takesOneOf_25 : decode cX4_takesOneOf 25 = .ok (.dup, 1) := by decide +kernel
theorem dX4_takesOneOf_26 : decode cX4_takesOneOf 26 = .ok (.getfield 18, 3) := by decide +kernel
theorem dX4_takesOneOf_29 : decode cX4_takesOneOf 29 = .ok (.iconst 1, 1) := by decide +kernel
theorem dX4_takesOneOf_30 : decode cX4_takesOneOf 30 = .ok (.iadd, 1) := by decide +kernel
theorem dX4_takesOneOf_31 : decode cX4_takesOneOf 31 = .ok (.putfield 18, 3) := by decide +kernel
theorem dX4_takesOneOf_34 : decode cX4_takesOneOf 34 = .ok (.iload_n 3, 1) := by decide +kernel
theorem dX4_takesOneOf_35 : decode cX4_takesOneOf 35 = .ok (.ireturn, 1) := by decide +kernel
theorem dX4_takesOpening_0 : decode cX4_takesOpening 0 = .ok (.iconst 0, 1) := by decide +kernel
theorem dX4_takesOpening_1 : decode cX4_takesOpening 1 = .ok (.istore_n 1, 1) := by decide +kernel
theorem dX4_takesOpening_2 : decode cX4_takesOpening 2 = .ok (.iload_n 1, 1) := by decide +kernel
theorem dX4_takesOpening_3 : decode cX4_takesOpening 3 = .ok (.iconst 5, 1) := by decide +kernel
theorem dX4_takesOpening_4 : decode cX4_takesOpening 4 = .ok (.if_icmp .ge 72, 3) := by decide +kernel
theorem dX4_takesOpening_7 : decode cX4_takesOpening 7 = .ok (.aload_n 0, 1) := by decide +kernel
theorem dX4_takesOpening_8 : decode cX4_takesOpening 8 = .ok (.getfield 38, 3) := by decide +kernel
theorem dX4_takesOpening_11 : decode cX4_takesOpening 11 = .ok (.iconst 5, 1) := by decide +kernel
theorem dX4_takesOpening_12 : decode cX4_takesOpening 12 = .ok (.if_icmp .ge 64, 3) := by decide +kernel
theorem dX4_takesOpening_15 : decode cX4_takesOpening 15 = .ok (.aload_n 0, 1) := by decide +kernel
theorem dX4_takesOpening_16 : decode cX4_takesOpening 16 = .ok (.bipush 33, 2) := by decide +kernel
theorem dX4_takesOpening_18 : decode cX4_takesOpening 18 = .ok (.invokevirtual 58, 3) := by decide +kernel
theorem dX4_takesOpening_21 : decode cX4_takesOpening 21 = .ok (.ifCond .eq 11, 3) := by decide +kernel
theorem dX4_takesOpening_24 : decode cX4_takesOpening 24 = .ok (.aload_n 0, 1) := by decide +kernel
theorem dX4_takesOpening_25 : decode cX4_takesOpening 25 = .ok (.iconst 3, 1) := by decide +kernel
theorem dX4_takesOpening_26 : decode cX4_takesOpening 26 = .ok (.invokevirtual 98, 3) := by decide +kernel
theorem dX4_takesOpening_29 : decode cX4_takesOpening 29 = .ok (.goto 31, 3) := by decide +kernel
theorem dX4_takesOpening_32 : decode cX4_takesOpening 32 = .ok (.aload_n 0, 1) := by decide +kernel
theorem dX4_takesOpening_33 : decode cX4_takesOpening 33 = .ok (.bipush 40, 2) := by decide +kernel
theorem dX4_takesOpening_35 : decode cX4_takesOpening 35 = .ok (.invokevirtual 58, 3) := by decide +kernel
theorem dX4_takesOpening_38 : decode cX4_takesOpening 38 = .ok (.ifCond .eq 21, 3) := by decide +kernel
theorem dX4_takesOpening_41 : decode cX4_takesOpening 41 = .ok (.aload_n 0, 1) := by decide +kernel
theorem dX4_takesOpening_42 : decode cX4_takesOpening 42 = .ok (.iconst 0, 1) := by decide +kernel
theorem dX4_takesOpening_43 : decode cX4_takesOpening 43 = .ok (.invokevirtual 98, 3) := by decide +kernel
theorem dX4_takesOpening_46 : decode cX4_takesOpening 46 = .ok (.aload_n 0, 1) := by decide +kernel
theorem dX4_takesOpening_47 : decode cX4_takesOpening 47 = .ok (.dup, 1) := by decide +kernel
theorem dX4_takesOpening_48 : decode cX4_takesOpening 48 = .ok (.getfield 41, 3) := by decide +kernel
theorem dX4_takesOpening_51 : decode cX4_takesOpening 51 = .ok (.iconst 1, 1) := by decide +kernel
theorem dX4_takesOpening_52 : decode cX4_takesOpening 52 = .ok (.iadd, 1) := by decide +kernel
theorem dX4_takesOpening_53 : decode cX4_takesOpening 53 = .ok (.putfield 41, 3) := by decide +kernel
theorem dX4_takesOpening_56 : decode cX4_takesOpening 56 = .ok (.goto 4, 3) := by decide +kernel
theorem dX4_takesOpening_59 : decode cX4_takesOpening 59 = .ok (.return_, 1) := by decide +kernel
theorem dX4_takesOpening_60 : decode cX4_takesOpening 60 = .ok (.aload_n 0, 1) := by decide +kernel
theorem dX4_takesOpening_61 : decode cX4_takesOpening 61 = .ok (.dup, 1) := by decide +kernel
theorem dX4_takesOpening_62 : decode cX4_takesOpening 62 = .ok (.getfield 38, 3) := by decide +kernel
theorem dX4_takesOpening_65 : decode cX4_takesOpening 65 = .ok (.iconst 1, 1) := by decide +kernel
theorem dX4_takesOpening_66 : decode cX4_takesOpening 66 = .ok (.iadd, 1) := by decide +kernel
theorem dX4_takesOpening_67 : decode cX4_takesOpening 67 = .ok (.putfield 38, 3) := by decide +kernel
theorem dX4_takesOpening_70 : decode cX4_takesOpening 70 = .ok (.iinc 1 1, 3) := by decide +kernel
theorem dX4_takesOpening_73 : decode cX4_takesOpening 73 = .ok (.goto (-71), 3) := by decide +kernel
theorem dX4_takesOpening_76 : decode cX4_takesOpening 76 = .ok (.return_, 1) := by decide +kernel
def w_X4_next   (q : Nat)  (M : ap_Mem) (K : Int32 → ap_Mem → Prop) : Prop :=
(if (M q 1) < 0 then (K (-1) M) else ((if (M (q + 9) 2) ≤ (M q 1) then (K (-1) M) else (vp_in (M q 1) 100 ∧ K (M (q + 10) (M q 1).toNatClampNeg) M))))
theorem bl_X4_next_0 {x : ap_X} {g : ap_G} (hc : ap_Cx x g cX4_next RX4 1) {K : Int32 → ap_Mem → Prop} (hz : ap_Ends x g 0 (some .int) (ap_Qi K))   {q : Nat} (hq : ap_kd q = 4)    {M : ap_Mem}  (h : w_X4_next   q  M K) : ap_V x g 1 0 [(0, .ref (ap_ad g q))] [] M := by
  unfold w_X4_next at h
  refine ap_aload_n (q := 1) hc dX4_next_0 rfl rfl 0 rfl ?_
  refine ap_getI (q := 4) lg_RX4_18 hq hc dX4_next_1 rfl ?_
  refine ap_if_lt (q := 7) (tgt := 36) hc dX4_next_4 rfl (by decide) (fun z_1 => ?_) (fun z_1 => ?_)
  · have h := Eq.mp (if_pos z_1) h
    refine ap_iconst (q := 37) hc dX4_next_36 rfl ic_m1 ?_
    exact ap_iret hc hz rfl dX4_next_37 h
  · have h := Eq.mp (if_neg z_1) h
    refine ap_aload_n (q := 8) hc dX4_next_7 rfl rfl 0 rfl ?_
    refine ap_getI (q := 11) lg_RX4_18 hq hc dX4_next_8 rfl ?_
    refine ap_aload_n (q := 12) hc dX4_next_11 rfl rfl 0 rfl ?_
    refine ap_getR (q := 15) (r := q + 9) lg_RX4_27 (by decide) hq rfl hc dX4_next_12 rfl ?_
    refine ap_getI (q := 18) lg_RX4_55 (ty_4_9 hq) hc dX4_next_15 rfl ?_
    refine ap_icmp_ge (q := 21) (tgt := 36) hc dX4_next_18 rfl (by decide) (fun z_2 => ?_) (fun z_2 => ?_)
    · have h := Eq.mp (if_pos z_2) h
      refine ap_iconst (q := 37) hc dX4_next_36 rfl ic_m1 ?_
      exact ap_iret hc hz rfl dX4_next_37 h
    · have h := Eq.mp (if_neg z_2) h
      refine ap_aload_n (q := 22) hc dX4_next_21 rfl rfl 0 rfl ?_
      refine ap_getR (q := 25) (r := q + 9) lg_RX4_27 (by decide) hq rfl hc dX4_next_22 rfl ?_
      refine ap_getR (q := 28) (r := q + 10) lg_RX4_137 (by decide) (ty_4_9 hq) rfl hc dX4_next_25 rfl ?_
      refine ap_aload_n (q := 29) hc dX4_next_28 rfl rfl 0 rfl ?_
      refine ap_getI (q := 32) lg_RX4_18 hq hc dX4_next_29 rfl ?_
      obtain ⟨g_3, h⟩ := h
      refine ap_iald (q := 33) (ty_4_10 hq) (tn_4_10 hq) g_3 hc dX4_next_32 rfl ?_
      refine ap_goto (q := 37) hc dX4_next_33 (by decide) ?_
      exact ap_iret hc hz rfl dX4_next_37 h
theorem ok_X4_next {l : Launch} {g : ap_G} (hg : ap_GOK g) {q : Nat} (hq : ap_kd q = 4)  {M : ap_Mem} {K : Int32 → ap_Mem → Prop} (h : w_X4_next q  M K) : ap_Ct l g yX4_next cX4_next 1 (some .int) 0 [.ref (ap_ad g q)] M (ap_Qi K) := by
  refine ap_Ct_of hg (by decide +kernel) (Nat.le_of_ble_eq_true rfl) (fun x hx hc hz => ?_)
  subst hx
  exact bl_X4_next_0 hc hz hq h
def w_X4_takes_13   (q : Nat) (s0 : Int32) (M : ap_Mem) (K : Int32 → ap_Mem → Prop) : Prop :=
(if s0 = 0 then (ap_B s0 ∧ K s0 M) else (∀ M_2 : ap_Mem, M_2 = ap_mu M q 1 ((M q 1) + 1) → ap_B s0 ∧ K s0 M_2))
theorem bl_X4_takes_13 {x : ap_X} {g : ap_G} (hc : ap_Cx x g cX4_takes RX4 3) {K : Int32 → ap_Mem → Prop} (hz : ap_Ends x g 1 (some .boolean) (ap_Qi K))   {q : Nat} (hq : ap_kd q = 4)   {s0 : Int32} {M : ap_Mem}  (h : w_X4_takes_13   q s0 M K) : ap_V x g 3 13 [(0, .ref (ap_ad g q))] [.int s0] M := by
  unfold w_X4_takes_13 at h
  refine ap_istore_n (q := 14) (lo2 := [(2, .int s0), (0, .ref (ap_ad g q))]) hc dX4_takes_13 rfl rfl rfl (by decide) rfl ?_
  refine ap_iload_n (q := 15) hc dX4_takes_14 rfl rfl 0 rfl ?_
  refine ap_if_eq (q := 18) (tgt := 28) hc dX4_takes_15 rfl (by decide) (fun z_1 => ?_) (fun z_1 => ?_)
  · have h := Eq.mp (if_pos z_1) h
    refine ap_iload_n (q := 29) hc dX4_takes_28 rfl rfl 0 rfl ?_
    exact ap_iret hc hz (ap_Bn h.1) dX4_takes_29 h.2
  · have h := Eq.mp (if_neg z_1) h
    refine ap_aload_n (q := 19) hc dX4_takes_18 rfl rfl 1 rfl ?_
    refine ap_dup (q := 20) hc dX4_takes_19 rfl rfl ?_
    refine ap_getI (q := 23) lg_RX4_18 hq hc dX4_takes_20 rfl ?_
    refine ap_iconst (q := 24) hc dX4_takes_23 rfl ic_1 ?_
    refine ap_iadd (q := 25) hc dX4_takes_24 rfl ?_
    obtain ⟨M_2, eM_2, h⟩ := ap_nm h
    refine ap_putI (q := 28) lp_RX4_18 hq eM_2 hc dX4_takes_25 rfl ?_
    refine ap_iload_n (q := 29) hc dX4_takes_28 rfl rfl 0 rfl ?_
    exact ap_iret hc hz (ap_Bn h.1) dX4_takes_29 h.2
def w_X4_takes   (q : Nat) (x1 : Int32) (M : ap_Mem) (K : Int32 → ap_Mem → Prop) : Prop :=
w_X4_next q M (fun r_1 M_2 => (if r_1 = x1 then (w_X4_takes_13   q 1 M_2 K) else (w_X4_takes_13   q 0 M_2 K)))
theorem bl_X4_takes_0 {x : ap_X} {g : ap_G} (hc : ap_Cx x g cX4_takes RX4 3) {K : Int32 → ap_Mem → Prop} (hz : ap_Ends x g 1 (some .boolean) (ap_Qi K))   {q : Nat} (hq : ap_kd q = 4)   {x1 : Int32} {M : ap_Mem}  (h : w_X4_takes   q x1 M K) : ap_V x g 3 0 [(0, .ref (ap_ad g q)), (1, .int x1)] [] M := by
  have hg := hc.2.2.2.2.2.2.2.1
  unfold w_X4_takes at h
  refine ap_aload_n (q := 1) hc dX4_takes_0 rfl rfl 0 rfl ?_
  refine ap_callV (q := 4) (As := []) hc (ok_X4_next hg hq h) ml_RX4_62 lk_X4_next lv_X4_next hq rfl (ap_RmE hz (by decide)) rfl rfl (Nat.le_of_ble_eq_true rfl) dX4_takes_1 rfl (ap_ki (fun r_1 M_2 h => ?_))
  refine ap_iload_n (q := 5) hc dX4_takes_4 rfl rfl 1 rfl ?_
  refine ap_icmp_ne (q := 8) (tgt := 12) hc dX4_takes_5 rfl (by decide) (fun z_3 => ?_) (fun z_3 => ?_)
  · have h := Eq.mp (if_neg z_3) h
    refine ap_iconst (q := 13) hc dX4_takes_12 rfl ic_0 ?_
    exact ap_sub [0] rfl (bl_X4_takes_13 hc hz  hq   h)
  · have h := Eq.mp (if_pos z_3) h
    refine ap_iconst (q := 9) hc dX4_takes_8 rfl ic_1 ?_
    refine ap_goto (q := 13) hc dX4_takes_9 (by decide) ?_
    exact ap_sub [0] rfl (bl_X4_takes_13 hc hz  hq   h)
theorem ok_X4_takes {l : Launch} {g : ap_G} (hg : ap_GOK g) {q : Nat} (hq : ap_kd q = 4) {x1 : Int32} {M : ap_Mem} {K : Int32 → ap_Mem → Prop} (h : w_X4_takes q x1 M K) : ap_Ct l g yX4_takes cX4_takes 3 (some .boolean) 1 [.ref (ap_ad g q), .int x1] M (ap_Qi K) := by
  refine ap_Ct_of hg (by decide +kernel) (Nat.le_of_ble_eq_true rfl) (fun x hx hc hz => ?_)
  subst hx
  exact bl_X4_takes_0 hc hz hq h
def w_X4_takesAll_2_s   (kL2 : Int32 → ap_Mem → Prop) (q : Nat) (w1 : Nat) (x2 : Int32) (M : ap_Mem) (K : Int32 → ap_Mem → Prop) : Prop :=
w_J0_length_8abf5 w1 M (fun r_1 M_2 => (if r_1 ≤ x2 then (K 1 M_2) else (w_J0_charAt_5068e w1 x2 M_2 (fun r_4 M_5 => w_X4_takes q r_4 M_5 (fun r_6 M_7 => (if r_6 = 0 then (K 0 M_7) else (∀ x2_9 : Int32, x2_9 = x2 + 1 → kL2 x2_9 M_7)))))))
def w_X4_takesAll_2   (q : Nat) (w1 : Nat) (K : Int32 → ap_Mem → Prop) : Nat → Int32 → ap_Mem → Prop
  | 0, _, _ => False
  | n + 1, x2, M => w_X4_takesAll_2_s   (w_X4_takesAll_2   q w1 K n) q w1 x2 M K
theorem bl_X4_takesAll_2 {x : ap_X} {g : ap_G} (hc : ap_Cx x g cX4_takesAll RX4 3) {K : Int32 → ap_Mem → Prop} (hz : ap_Ends x g 4 (some .boolean) (ap_Qi K))   {q : Nat} {w1 : Nat} (hq : ap_kd q = 4) (hw1 : w1 < 6)   : ∀ (n : Nat) (x2 : Int32) (M : ap_Mem), w_X4_takesAll_2   q w1 K n x2 M → ap_V x g 3 2 [(0, .ref (ap_ad g q)), (1, .ref (ap_gK g w1)), (2, .int x2)] [] M := by
  have hg := hc.2.2.2.2.2.2.2.1
  intro n
  induction n with
  | zero => intro _ _ h; exact h.elim
  | succ n ih =>
    intro x2 M h
    replace h : w_X4_takesAll_2_s   (w_X4_takesAll_2   q w1 K n) q w1 x2 M K := h
    unfold w_X4_takesAll_2_s at h
    refine ap_iload_n (q := 3) hc dX4_takesAll_2 rfl rfl 2 rfl ?_
    refine ap_aload_n (q := 4) hc dX4_takesAll_3 rfl rfl 1 rfl ?_
    refine ap_callT (q := 7) (As := []) hc (ok_J0_length_8abf5 hg hw1 h) ml_RX4_124 lk_J0_length_8abf5 lv_J0_length_8abf5 hw1 rfl (ap_RmE hz (by decide)) rfl rfl (Nat.le_of_ble_eq_true rfl) dX4_takesAll_4 rfl (ap_ki (fun r_1 M_2 h => ?_))
    refine ap_icmp_ge (q := 10) (tgt := 30) hc dX4_takesAll_7 rfl (by decide) (fun z_3 => ?_) (fun z_3 => ?_)
    · have h := Eq.mp (if_pos z_3) h
      refine ap_iconst (q := 31) hc dX4_takesAll_30 rfl ic_1 ?_
      exact ap_iret hc hz (ap_Bn ap_B1) dX4_takesAll_31 h
    · have h := Eq.mp (if_neg z_3) h
      refine ap_aload_n (q := 11) hc dX4_takesAll_10 rfl rfl 0 rfl ?_
      refine ap_aload_n (q := 12) hc dX4_takesAll_11 rfl rfl 1 rfl ?_
      refine ap_iload_n (q := 13) hc dX4_takesAll_12 rfl rfl 2 rfl ?_
      refine ap_callT (q := 16) (As := [.int x2]) hc (ok_J0_charAt_5068e hg hw1 h) ml_RX4_129 lk_J0_charAt_5068e lv_J0_charAt_5068e hw1 rfl (ap_RmE hz (by decide)) rfl rfl (Nat.le_of_ble_eq_true rfl) dX4_takesAll_13 rfl (ap_ki (fun r_4 M_5 h => ?_))
      refine ap_callV (q := 19) (As := [.int r_4]) hc (ok_X4_takes hg hq h) ml_RX4_58 lk_X4_takes lv_X4_takes hq rfl (ap_RmE hz (by decide)) rfl rfl (Nat.le_of_ble_eq_true rfl) dX4_takesAll_16 rfl (ap_ki (fun r_6 M_7 h => ?_))
      refine ap_if_ne (q := 22) (tgt := 24) hc dX4_takesAll_19 rfl (by decide) (fun z_8 => ?_) (fun z_8 => ?_)
      · have h := Eq.mp (if_neg z_8) h
        obtain ⟨x2_9, ex2_9, h⟩ := ap_nm h
        refine ap_iinc (q := 27) (lo2 := [(2, .int x2_9), (0, .ref (ap_ad g q)), (1, .ref (ap_gK g w1))]) hc dX4_takesAll_24 rfl 2 rfl (by rw [ex2_9]; rfl) (by decide) rfl ?_
        refine ap_goto (q := 2) hc dX4_takesAll_27 (by decide) ?_
        exact ap_sub [1, 2, 0] rfl (ih _ _ h)
      · have h := Eq.mp (if_pos z_8) h
        refine ap_iconst (q := 23) hc dX4_takesAll_22 rfl ic_0 ?_
        exact ap_iret hc hz (ap_Bn ap_B0) dX4_takesAll_23 h
def w_X4_takesAll   (q : Nat) (w1 : Nat)  (M : ap_Mem) (K : Int32 → ap_Mem → Prop) : Prop :=
w_X4_takesAll_2   q w1 K 4096 0 M
theorem bl_X4_takesAll_0 {x : ap_X} {g : ap_G} (hc : ap_Cx x g cX4_takesAll RX4 3) {K : Int32 → ap_Mem → Prop} (hz : ap_Ends x g 4 (some .boolean) (ap_Qi K))   {q : Nat} {w1 : Nat} (hq : ap_kd q = 4) (hw1 : w1 < 6)    {M : ap_Mem}  (h : w_X4_takesAll   q w1  M K) : ap_V x g 3 0 [(0, .ref (ap_ad g q)), (1, .ref (ap_gK g w1))] [] M := by
  unfold w_X4_takesAll at h
  refine ap_iconst (q := 1) hc dX4_takesAll_0 rfl ic_0 ?_
  refine ap_istore_n (q := 2) (lo2 := [(2, .int 0), (0, .ref (ap_ad g q)), (1, .ref (ap_gK g w1))]) hc dX4_takesAll_1 rfl rfl rfl (by decide) rfl ?_
  exact ap_sub [1, 2, 0] rfl (bl_X4_takesAll_2 hc hz  hq hw1  _ _ _ h)
theorem ok_X4_takesAll {l : Launch} {g : ap_G} (hg : ap_GOK g) {q : Nat} {w1 : Nat} (hq : ap_kd q = 4) (hw1 : w1 < 6)  {M : ap_Mem} {K : Int32 → ap_Mem → Prop} (h : w_X4_takesAll q w1  M K) : ap_Ct l g yX4_takesAll cX4_takesAll 3 (some .boolean) 4 [.ref (ap_ad g q), .ref (ap_gK g w1)] M (ap_Qi K) := by
  refine ap_Ct_of hg (by decide +kernel) (Nat.le_of_ble_eq_true rfl) (fun x hx hc hz => ?_)
  subst hx
  exact bl_X4_takesAll_0 hc hz hq hw1 h
def w_X4_takesOneOf_19   (q : Nat) (w1 : Nat) (s0 : Int32) (M : ap_Mem) (K : Int32 → ap_Mem → Prop) : Prop :=
(if s0 < 0 then (K s0 M) else (∀ M_2 : ap_Mem, M_2 = ap_mu M q 1 ((M q 1) + 1) → K s0 M_2))
theorem bl_X4_takesOneOf_19 {x : ap_X} {g : ap_G} (hc : ap_Cx x g cX4_takesOneOf RX4 4) {K : Int32 → ap_Mem → Prop} (hz : ap_Ends x g 4 (some .int) (ap_Qi K))   {q : Nat} {w1 : Nat} (hq : ap_kd q = 4) (hw1 : w1 < 6)   {s0 : Int32} {M : ap_Mem}  (h : w_X4_takesOneOf_19   q w1 s0 M K) : ap_V x g 4 19 [(0, .ref (ap_ad g q))] [.int s0] M := by
  unfold w_X4_takesOneOf_19 at h
  refine ap_istore_n (q := 20) (lo2 := [(3, .int s0), (0, .ref (ap_ad g q))]) hc dX4_takesOneOf_19 rfl rfl rfl (by decide) rfl ?_
  refine ap_iload_n (q := 21) hc dX4_takesOneOf_20 rfl rfl 0 rfl ?_
  refine ap_if_lt (q := 24) (tgt := 34) hc dX4_takesOneOf_21 rfl (by decide) (fun z_1 => ?_) (fun z_1 => ?_)
  · have h := Eq.mp (if_pos z_1) h
    refine ap_iload_n (q := 35) hc dX4_takesOneOf_34 rfl rfl 0 rfl ?_
    exact ap_iret hc hz rfl dX4_takesOneOf_35 h
  · have h := Eq.mp (if_neg z_1) h
    refine ap_aload_n (q := 25) hc dX4_takesOneOf_24 rfl rfl 1 rfl ?_
    refine ap_dup (q := 26) hc dX4_takesOneOf_25 rfl rfl ?_
    refine ap_getI (q := 29) lg_RX4_18 hq hc dX4_takesOneOf_26 rfl ?_
    refine ap_iconst (q := 30) hc dX4_takesOneOf_29 rfl ic_1 ?_
    refine ap_iadd (q := 31) hc dX4_takesOneOf_30 rfl ?_
    obtain ⟨M_2, eM_2, h⟩ := ap_nm h
    refine ap_putI (q := 34) lp_RX4_18 hq eM_2 hc dX4_takesOneOf_31 rfl ?_
    refine ap_iload_n (q := 35) hc dX4_takesOneOf_34 rfl rfl 0 rfl ?_
    exact ap_iret hc hz rfl dX4_takesOneOf_35 h
def w_X4_takesOneOf   (q : Nat) (w1 : Nat)  (M : ap_Mem) (K : Int32 → ap_Mem → Prop) : Prop :=
w_X4_next q M (fun r_1 M_2 => (if 0 ≤ r_1 then (w_J0_indexOf_0f7a4 w1 (r_1.toUInt32 % 65536).toInt32 M_2 (fun r_4 M_5 => w_X4_takesOneOf_19   q w1 r_4 M_5 K)) else (w_X4_takesOneOf_19   q w1 (-1) M_2 K)))
theorem bl_X4_takesOneOf_0 {x : ap_X} {g : ap_G} (hc : ap_Cx x g cX4_takesOneOf RX4 4) {K : Int32 → ap_Mem → Prop} (hz : ap_Ends x g 4 (some .int) (ap_Qi K))   {q : Nat} {w1 : Nat} (hq : ap_kd q = 4) (hw1 : w1 < 6)    {M : ap_Mem}  (h : w_X4_takesOneOf   q w1  M K) : ap_V x g 4 0 [(0, .ref (ap_ad g q)), (1, .ref (ap_gK g w1))] [] M := by
  have hg := hc.2.2.2.2.2.2.2.1
  unfold w_X4_takesOneOf at h
  refine ap_aload_n (q := 1) hc dX4_takesOneOf_0 rfl rfl 0 rfl ?_
  refine ap_callV (q := 4) (As := []) hc (ok_X4_next hg hq h) ml_RX4_62 lk_X4_next lv_X4_next hq rfl (ap_RmE hz (by decide)) rfl rfl (Nat.le_of_ble_eq_true rfl) dX4_takesOneOf_1 rfl (ap_ki (fun r_1 M_2 h => ?_))
  refine ap_istore_n (q := 5) (lo2 := [(2, .int r_1), (0, .ref (ap_ad g q)), (1, .ref (ap_gK g w1))]) hc dX4_takesOneOf_4 rfl rfl rfl (by decide) rfl ?_
  refine ap_iload_n (q := 6) hc dX4_takesOneOf_5 rfl rfl 0 rfl ?_
  refine ap_if_ge (q := 9) (tgt := 13) hc dX4_takesOneOf_6 rfl (by decide) (fun z_3 => ?_) (fun z_3 => ?_)
  · have h := Eq.mp (if_pos z_3) h
    refine ap_aload_n (q := 14) hc dX4_takesOneOf_13 rfl rfl 2 rfl ?_
    refine ap_iload_n (q := 15) hc dX4_takesOneOf_14 rfl rfl 0 rfl ?_
    refine ap_i2c (q := 16) hc dX4_takesOneOf_15 rfl ?_
    refine ap_callT (q := 19) (As := [.int (r_1.toUInt32 % 65536).toInt32]) hc (ok_J0_indexOf_0f7a4 hg hw1 h) ml_RX4_133 lk_J0_indexOf_0f7a4 lv_J0_indexOf_0f7a4 hw1 rfl (ap_RmE hz (by decide)) rfl rfl (Nat.le_of_ble_eq_true rfl) dX4_takesOneOf_16 rfl (ap_ki (fun r_4 M_5 h => ?_))
    exact ap_sub [1] rfl (bl_X4_takesOneOf_19 hc hz  hq hw1   h)
  · have h := Eq.mp (if_neg z_3) h
    refine ap_iconst (q := 10) hc dX4_takesOneOf_9 rfl ic_m1 ?_
    refine ap_goto (q := 19) hc dX4_takesOneOf_10 (by decide) ?_
    exact ap_sub [1] rfl (bl_X4_takesOneOf_19 hc hz  hq hw1   h)
theorem ok_X4_takesOneOf {l : Launch} {g : ap_G} (hg : ap_GOK g) {q : Nat} {w1 : Nat} (hq : ap_kd q = 4) (hw1 : w1 < 6)  {M : ap_Mem} {K : Int32 → ap_Mem → Prop} (h : w_X4_takesOneOf q w1  M K) : ap_Ct l g yX4_takesOneOf cX4_takesOneOf 4 (some .int) 4 [.ref (ap_ad g q), .ref (ap_gK g w1)] M (ap_Qi K) := by
  refine ap_Ct_of hg (by decide +kernel) (Nat.le_of_ble_eq_true rfl) (fun x hx hc hz => ?_)
  subst hx
  exact bl_X4_takesOneOf_0 hc hz hq hw1 h
def w_X4_takesNumber   (q : Nat)  (M : ap_Mem) (K : Int32 → ap_Mem → Prop) : Prop :=
w_X4_takesOneOf q 3 M (fun r_1 M_2 => (if 0 < r_1 then (w_X4_takesOneOf q 3 M_2 (fun r_4 M_5 => (if 0 ≤ r_4 then (K ((10 * r_1) + r_4) M_5) else (K r_1 M_5)))) else (K r_1 M_2)))
theorem bl_X4_takesNumber_0 {x : ap_X} {g : ap_G} (hc : ap_Cx x g cX4_takesNumber RX4 3) {K : Int32 → ap_Mem → Prop} (hz : ap_Ends x g 5 (some .int) (ap_Qi K))   {q : Nat} (hq : ap_kd q = 4)    {M : ap_Mem}  (h : w_X4_takesNumber   q  M K) : ap_V x g 3 0 [(0, .ref (ap_ad g q))] [] M := by
  have hg := hc.2.2.2.2.2.2.2.1
  unfold w_X4_takesNumber at h
  refine ap_aload_n (q := 1) hc dX4_takesNumber_0 rfl rfl 0 rfl ?_
  refine ap_ldcS (q := 3) (w := 3) (tx := "0123456789") (by decide +kernel) hc dX4_takesNumber_1 rfl ?_
  refine ap_callV (q := 6) (As := [.ref (ap_gK g 3)]) hc (ok_X4_takesOneOf hg hq (by decide) h) ml_RX4_106 lk_X4_takesOneOf lv_X4_takesOneOf hq rfl (ap_RmE hz (by decide)) rfl rfl (Nat.le_of_ble_eq_true rfl) dX4_takesNumber_3 rfl (ap_ki (fun r_1 M_2 h => ?_))
  refine ap_istore_n (q := 7) (lo2 := [(1, .int r_1), (0, .ref (ap_ad g q))]) hc dX4_takesNumber_6 rfl rfl rfl (by decide) rfl ?_
  refine ap_iload_n (q := 8) hc dX4_takesNumber_7 rfl rfl 0 rfl ?_
  refine ap_if_gt (q := 11) (tgt := 13) hc dX4_takesNumber_8 rfl (by decide) (fun z_3 => ?_) (fun z_3 => ?_)
  · have h := Eq.mp (if_pos z_3) h
    refine ap_aload_n (q := 14) hc dX4_takesNumber_13 rfl rfl 1 rfl ?_
    refine ap_ldcS (q := 16) (w := 3) (tx := "0123456789") (by decide +kernel) hc dX4_takesNumber_14 rfl ?_
    refine ap_callV (q := 19) (As := [.ref (ap_gK g 3)]) hc (ok_X4_takesOneOf hg hq (by decide) h) ml_RX4_106 lk_X4_takesOneOf lv_X4_takesOneOf hq rfl (ap_RmE hz (by decide)) rfl rfl (Nat.le_of_ble_eq_true rfl) dX4_takesNumber_16 rfl (ap_ki (fun r_4 M_5 h => ?_))
    refine ap_istore_n (q := 20) (lo2 := [(2, .int r_4), (1, .int r_1), (0, .ref (ap_ad g q))]) hc dX4_takesNumber_19 rfl rfl rfl (by decide) rfl ?_
    refine ap_iload_n (q := 21) hc dX4_takesNumber_20 rfl rfl 0 rfl ?_
    refine ap_if_ge (q := 24) (tgt := 28) hc dX4_takesNumber_21 rfl (by decide) (fun z_6 => ?_) (fun z_6 => ?_)
    · have h := Eq.mp (if_pos z_6) h
      refine ap_bipush (q := 30) hc dX4_takesNumber_28 rfl bc_10 ?_
      refine ap_iload_n (q := 31) hc dX4_takesNumber_30 rfl rfl 1 rfl ?_
      refine ap_imul (q := 32) hc dX4_takesNumber_31 rfl ?_
      refine ap_iload_n (q := 33) hc dX4_takesNumber_32 rfl rfl 0 rfl ?_
      refine ap_iadd (q := 34) hc dX4_takesNumber_33 rfl ?_
      exact ap_iret hc hz rfl dX4_takesNumber_34 h
    · have h := Eq.mp (if_neg z_6) h
      refine ap_iload_n (q := 25) hc dX4_takesNumber_24 rfl rfl 1 rfl ?_
      refine ap_goto (q := 34) hc dX4_takesNumber_25 (by decide) ?_
      exact ap_iret hc hz rfl dX4_takesNumber_34 h
  · have h := Eq.mp (if_neg z_3) h
    refine ap_iload_n (q := 12) hc dX4_takesNumber_11 rfl rfl 0 rfl ?_
    exact ap_iret hc hz rfl dX4_takesNumber_12 h
theorem ok_X4_takesNumber {l : Launch} {g : ap_G} (hg : ap_GOK g) {q : Nat} (hq : ap_kd q = 4)  {M : ap_Mem} {K : Int32 → ap_Mem → Prop} (h : w_X4_takesNumber q  M K) : ap_Ct l g yX4_takesNumber cX4_takesNumber 3 (some .int) 5 [.ref (ap_ad g q)] M (ap_Qi K) := by
  refine ap_Ct_of hg (by decide +kernel) (Nat.le_of_ble_eq_true rfl) (fun x hx hc hz => ?_)
  subst hx
  exact bl_X4_takesNumber_0 hc hz hq h
def w_X4_push   (q : Nat) (x1 : Int32) (M : ap_Mem) (K : ap_Mem → Prop) : Prop :=
(if 17 ≤ (M q 4) then (K M) else (vp_in (M q 4) 17 ∧ ∀ M_3 : ap_Mem, M_3 = ap_mu M (q + 12) (M q 4).toNatClampNeg x1 → ∀ M_4 : ap_Mem, M_4 = ap_mu M_3 q 4 ((M_3 q 4) + 1) → K M_4))
theorem bl_X4_push_0 {x : ap_X} {g : ap_G} (hc : ap_Cx x g cX4_push RX4 2) {K : ap_Mem → Prop} (hz : ap_Ends x g 0 none (ap_Qv K))   {q : Nat} (hq : ap_kd q = 4)   {x1 : Int32} {M : ap_Mem}  (h : w_X4_push   q x1 M K) : ap_V x g 2 0 [(0, .ref (ap_ad g q)), (1, .int x1)] [] M := by
  unfold w_X4_push at h
  refine ap_aload_n (q := 1) hc dX4_push_0 rfl rfl 0 rfl ?_
  refine ap_getI (q := 4) lg_RX4_35 hq hc dX4_push_1 rfl ?_
  refine ap_bipush (q := 6) hc dX4_push_4 rfl bc_17 ?_
  refine ap_icmp_ge (q := 9) (tgt := 29) hc dX4_push_6 rfl (by decide) (fun z_1 => ?_) (fun z_1 => ?_)
  · have h := Eq.mp (if_pos z_1) h
    exact ap_vret hc hz dX4_push_29 h
  · have h := Eq.mp (if_neg z_1) h
    refine ap_aload_n (q := 10) hc dX4_push_9 rfl rfl 0 rfl ?_
    refine ap_getR (q := 13) (r := q + 12) lg_RX4_31 (by decide) hq rfl hc dX4_push_10 rfl ?_
    refine ap_aload_n (q := 14) hc dX4_push_13 rfl rfl 0 rfl ?_
    refine ap_getI (q := 17) lg_RX4_35 hq hc dX4_push_14 rfl ?_
    refine ap_iload_n (q := 18) hc dX4_push_17 rfl rfl 1 rfl ?_
    obtain ⟨g_2, h⟩ := h
    obtain ⟨M_3, eM_3, h⟩ := ap_nm h
    refine ap_iast (q := 19) (ty_4_12 hq) (tn_4_12 hq) g_2 eM_3 hc dX4_push_18 rfl ?_
    refine ap_aload_n (q := 20) hc dX4_push_19 rfl rfl 0 rfl ?_
    refine ap_dup (q := 21) hc dX4_push_20 rfl rfl ?_
    refine ap_getI (q := 24) lg_RX4_35 hq hc dX4_push_21 rfl ?_
    refine ap_iconst (q := 25) hc dX4_push_24 rfl ic_1 ?_
    refine ap_iadd (q := 26) hc dX4_push_25 rfl ?_
    obtain ⟨M_4, eM_4, h⟩ := ap_nm h
    refine ap_putI (q := 29) lp_RX4_35 hq eM_4 hc dX4_push_26 rfl ?_
    exact ap_vret hc hz dX4_push_29 h
theorem ok_X4_push {l : Launch} {g : ap_G} (hg : ap_GOK g) {q : Nat} (hq : ap_kd q = 4) {x1 : Int32} {M : ap_Mem} {K : ap_Mem → Prop} (h : w_X4_push q x1 M K) : ap_Ct l g yX4_push cX4_push 2 none 0 [.ref (ap_ad g q), .int x1] M (ap_Qv K) := by
  refine ap_Ct_of hg (by decide +kernel) (Nat.le_of_ble_eq_true rfl) (fun x hx hc hz => ?_)
  subst hx
  exact bl_X4_push_0 hc hz hq h
def w_X4_takesOpening_60  (kL2 : Int32 → ap_Mem → Prop) (q : Nat) (x1 : Int32) (M : ap_Mem) (K : ap_Mem → Prop) : Prop :=
∀ M_1 : ap_Mem, M_1 = ap_mu M q 5 ((M q 5) + 1) → ∀ x1_2 : Int32, x1_2 = x1 + 1 → kL2 x1_2 M_1
theorem bl_X4_takesOpening_60 {x : ap_X} {g : ap_G} (hc : ap_Cx x g cX4_takesOpening RX4 2) {K : ap_Mem → Prop} (hz : ap_Ends x g 2 none (ap_Qv K))   {q : Nat} (hq : ap_kd q = 4) {kL2 : Int32 → ap_Mem → Prop} (hk2 : ∀ (x1 : Int32)  (M : ap_Mem), kL2 x1 M → ap_V x g 2 2 [(0, .ref (ap_ad g q)), (1, .int x1)] [] M) {x1 : Int32} {M : ap_Mem}  (h : w_X4_takesOpening_60  kL2 q x1 M K) : ap_V x g 2 60 [(0, .ref (ap_ad g q)), (1, .int x1)] [] M := by
  unfold w_X4_takesOpening_60 at h
  refine ap_aload_n (q := 61) hc dX4_takesOpening_60 rfl rfl 0 rfl ?_
  refine ap_dup (q := 62) hc dX4_takesOpening_61 rfl rfl ?_
  refine ap_getI (q := 65) lg_RX4_38 hq hc dX4_takesOpening_62 rfl ?_
  refine ap_iconst (q := 66) hc dX4_takesOpening_65 rfl ic_1 ?_
  refine ap_iadd (q := 67) hc dX4_takesOpening_66 rfl ?_
  obtain ⟨M_1, eM_1, h⟩ := ap_nm h
  refine ap_putI (q := 70) lp_RX4_38 hq eM_1 hc dX4_takesOpening_67 rfl ?_
  obtain ⟨x1_2, ex1_2, h⟩ := ap_nm h
  refine ap_iinc (q := 73) (lo2 := [(1, .int x1_2), (0, .ref (ap_ad g q))]) hc dX4_takesOpening_70 rfl 1 rfl (by rw [ex1_2]; rfl) (by decide) rfl ?_
  refine ap_goto (q := 2) hc dX4_takesOpening_73 (by decide) ?_
  exact ap_sub [1, 0] rfl (hk2 _ _ h)
def w_X4_takesOpening_2_s   (kL2 : Int32 → ap_Mem → Prop) (q : Nat) (x1 : Int32) (M : ap_Mem) (K : ap_Mem → Prop) : Prop :=
(if 5 ≤ x1 then (K M) else ((if 5 ≤ (M q 5) then (K M) else (w_X4_takes q 33 M (fun r_3 M_4 => (if r_3 = 0 then (w_X4_takes q 40 M_4 (fun r_6 M_7 => (if r_6 = 0 then (K M_7) else (w_X4_push q 0 M_7 (fun M_9 => ∀ M_10 : ap_Mem, M_10 = ap_mu M_9 q 6 ((M_9 q 6) + 1) → w_X4_takesOpening_60  kL2 q x1 M_10 K))))) else (w_X4_push q 3 M_4 (fun M_11 => w_X4_takesOpening_60  kL2 q x1 M_11 K))))))))
def w_X4_takesOpening_2   (q : Nat) (K : ap_Mem → Prop) : Nat → Int32 → ap_Mem → Prop
  | 0, _, _ => False
  | n + 1, x1, M => w_X4_takesOpening_2_s   (w_X4_takesOpening_2   q K n) q x1 M K
theorem bl_X4_takesOpening_2 {x : ap_X} {g : ap_G} (hc : ap_Cx x g cX4_takesOpening RX4 2) {K : ap_Mem → Prop} (hz : ap_Ends x g 2 none (ap_Qv K))   {q : Nat} (hq : ap_kd q = 4)   : ∀ (n : Nat) (x1 : Int32) (M : ap_Mem), w_X4_takesOpening_2   q K n x1 M → ap_V x g 2 2 [(0, .ref (ap_ad g q)), (1, .int x1)] [] M := by
  have hg := hc.2.2.2.2.2.2.2.1
  intro n
  induction n with
  | zero => intro _ _ h; exact h.elim
  | succ n ih =>
    intro x1 M h
    replace h : w_X4_takesOpening_2_s   (w_X4_takesOpening_2   q K n) q x1 M K := h
    unfold w_X4_takesOpening_2_s at h
    refine ap_iload_n (q := 3) hc dX4_takesOpening_2 rfl rfl 1 rfl ?_
    refine ap_iconst (q := 4) hc dX4_takesOpening_3 rfl ic_5 ?_
    refine ap_icmp_ge (q := 7) (tgt := 76) hc dX4_takesOpening_4 rfl (by decide) (fun z_1 => ?_) (fun z_1 => ?_)
    · have h := Eq.mp (if_pos z_1) h
      exact ap_vret hc hz dX4_takesOpening_76 h
    · have h := Eq.mp (if_neg z_1) h
      refine ap_aload_n (q := 8) hc dX4_takesOpening_7 rfl rfl 0 rfl ?_
      refine ap_getI (q := 11) lg_RX4_38 hq hc dX4_takesOpening_8 rfl ?_
      refine ap_iconst (q := 12) hc dX4_takesOpening_11 rfl ic_5 ?_
      refine ap_icmp_ge (q := 15) (tgt := 76) hc dX4_takesOpening_12 rfl (by decide) (fun z_2 => ?_) (fun z_2 => ?_)
      · have h := Eq.mp (if_pos z_2) h
        exact ap_vret hc hz dX4_takesOpening_76 h
      · have h := Eq.mp (if_neg z_2) h
        refine ap_aload_n (q := 16) hc dX4_takesOpening_15 rfl rfl 0 rfl ?_
        refine ap_bipush (q := 18) hc dX4_takesOpening_16 rfl bc_33 ?_
        refine ap_callV (q := 21) (As := [.int 33]) hc (ok_X4_takes hg hq h) ml_RX4_58 lk_X4_takes lv_X4_takes hq rfl (ap_RmE hz (by decide)) rfl rfl (Nat.le_of_ble_eq_true rfl) dX4_takesOpening_18 rfl (ap_ki (fun r_3 M_4 h => ?_))
        refine ap_if_eq (q := 24) (tgt := 32) hc dX4_takesOpening_21 rfl (by decide) (fun z_5 => ?_) (fun z_5 => ?_)
        · have h := Eq.mp (if_pos z_5) h
          refine ap_aload_n (q := 33) hc dX4_takesOpening_32 rfl rfl 0 rfl ?_
          refine ap_bipush (q := 35) hc dX4_takesOpening_33 rfl bc_40 ?_
          refine ap_callV (q := 38) (As := [.int 40]) hc (ok_X4_takes hg hq h) ml_RX4_58 lk_X4_takes lv_X4_takes hq rfl (ap_RmE hz (by decide)) rfl rfl (Nat.le_of_ble_eq_true rfl) dX4_takesOpening_35 rfl (ap_ki (fun r_6 M_7 h => ?_))
          refine ap_if_eq (q := 41) (tgt := 59) hc dX4_takesOpening_38 rfl (by decide) (fun z_8 => ?_) (fun z_8 => ?_)
          · have h := Eq.mp (if_pos z_8) h
            exact ap_vret hc hz dX4_takesOpening_59 h
          · have h := Eq.mp (if_neg z_8) h
            refine ap_aload_n (q := 42) hc dX4_takesOpening_41 rfl rfl 0 rfl ?_
            refine ap_iconst (q := 43) hc dX4_takesOpening_42 rfl ic_0 ?_
            refine ap_callV (q := 46) (As := [.int 0]) hc (ok_X4_push hg hq h) ml_RX4_98 lk_X4_push lv_X4_push hq rfl (ap_RmE hz (by decide)) rfl rfl (Nat.le_of_ble_eq_true rfl) dX4_takesOpening_43 rfl (ap_kv (fun M_9 h => ?_))
            refine ap_aload_n (q := 47) hc dX4_takesOpening_46 rfl rfl 0 rfl ?_
            refine ap_dup (q := 48) hc dX4_takesOpening_47 rfl rfl ?_
            refine ap_getI (q := 51) lg_RX4_41 hq hc dX4_takesOpening_48 rfl ?_
            refine ap_iconst (q := 52) hc dX4_takesOpening_51 rfl ic_1 ?_
            refine ap_iadd (q := 53) hc dX4_takesOpening_52 rfl ?_
            obtain ⟨M_10, eM_10, h⟩ := ap_nm h
            refine ap_putI (q := 56) lp_RX4_41 hq eM_10 hc dX4_takesOpening_53 rfl ?_
            refine ap_goto (q := 60) hc dX4_takesOpening_56 (by decide) ?_
            exact ap_sub [0, 1] rfl (bl_X4_takesOpening_60 hc hz  hq ih  h)
        · have h := Eq.mp (if_neg z_5) h
          refine ap_aload_n (q := 25) hc dX4_takesOpening_24 rfl rfl 0 rfl ?_
          refine ap_iconst (q := 26) hc dX4_takesOpening_25 rfl ic_3 ?_
          refine ap_callV (q := 29) (As := [.int 3]) hc (ok_X4_push hg hq h) ml_RX4_98 lk_X4_push lv_X4_push hq rfl (ap_RmE hz (by decide)) rfl rfl (Nat.le_of_ble_eq_true rfl) dX4_takesOpening_26 rfl (ap_kv (fun M_11 h => ?_))
          refine ap_goto (q := 60) hc dX4_takesOpening_29 (by decide) ?_
          exact ap_sub [0, 1] rfl (bl_X4_takesOpening_60 hc hz  hq ih  h)
def w_X4_takesOpening   (q : Nat)  (M : ap_Mem) (K : ap_Mem → Prop) : Prop :=
w_X4_takesOpening_2   q K 4096 0 M
theorem bl_X4_takesOpening_0 {x : ap_X} {g : ap_G} (hc : ap_Cx x g cX4_takesOpening RX4 2) {K : ap_Mem → Prop} (hz : ap_Ends x g 2 none (ap_Qv K))   {q : Nat} (hq : ap_kd q = 4)    {M : ap_Mem}  (h : w_X4_takesOpening   q  M K) : ap_V x g 2 0 [(0, .ref (ap_ad g q))] [] M := by
  unfold w_X4_takesOpening at h
  refine ap_iconst (q := 1) hc dX4_takesOpening_0 rfl ic_0 ?_
  refine ap_istore_n (q := 2) (lo2 := [(1, .int 0), (0, .ref (ap_ad g q))]) hc dX4_takesOpening_1 rfl rfl rfl (by decide) rfl ?_
  exact ap_sub [1, 0] rfl (bl_X4_takesOpening_2 hc hz  hq  _ _ _ h)
theorem ok_X4_takesOpening {l : Launch} {g : ap_G} (hg : ap_GOK g) {q : Nat} (hq : ap_kd q = 4)  {M : ap_Mem} {K : ap_Mem → Prop} (h : w_X4_takesOpening q  M K) : ap_Ct l g yX4_takesOpening cX4_takesOpening 2 none 2 [.ref (ap_ad g q)] M (ap_Qv K) := by
  refine ap_Ct_of hg (by decide +kernel) (Nat.le_of_ble_eq_true rfl) (fun x hx hc hz => ?_)
  subst hx
  exact bl_X4_takesOpening_0 hc hz hq h
def w_X4_readsTest_90   (q : Nat) (x3 : Int32) (s0 : Int32) (s1 : Int32) (M : ap_Mem) (K : Int32 → ap_Mem → Prop) : Prop :=
w_X7_putTest (q + 1) s1 s0 (ap_max (x3 - 1) 0) M (fun M_1 => K 1 M_1)
theorem bl_X4_readsTest_90 {x : ap_X} {g : ap_G} (hc : ap_Cx x g cX4_readsTest RX4 4) {K : Int32 → ap_Mem → Prop} (hz : ap_Ends x g 6 (some .boolean) (ap_Qi K))   {q : Nat} (hq : ap_kd q = 4)   {x3 : Int32} {s0 : Int32} {s1 : Int32} {M : ap_Mem}  (h : w_X4_readsTest_90   q x3 s0 s1 M K) : ap_V x g 4 90 [(3, .int x3)] [.int s0, .int s1, .ref (ap_ad g (q + 1))] M := by
  have hg := hc.2.2.2.2.2.2.2.1
  unfold w_X4_readsTest_90 at h
  refine ap_iload_n (q := 91) hc dX4_readsTest_90 rfl rfl 0 rfl ?_
  refine ap_iconst (q := 92) hc dX4_readsTest_91 rfl ic_1 ?_
  refine ap_isub (q := 93) hc dX4_readsTest_92 rfl ?_
  refine ap_iconst (q := 94) hc dX4_readsTest_93 rfl ic_0 ?_
  refine ap_mmax (q := 97) lm_RX4_116 (ap_RmE hz (by decide)) (Nat.le_of_ble_eq_true rfl) hc dX4_readsTest_94 rfl ?_
  refine ap_callV (q := 100) (As := [.int s1, .int s0, .int (ap_max (x3 - 1) 0)]) hc (ok_X7_putTest hg (ty_4_1 hq) h) ml_RX4_112 lk_X7_putTest lv_X7_putTest (ty_4_1 hq) rfl (ap_RmE hz (by decide)) rfl rfl (Nat.le_of_ble_eq_true rfl) dX4_readsTest_97 rfl (ap_kv (fun M_1 h => ?_))
  refine ap_iconst (q := 101) hc dX4_readsTest_100 rfl ic_1 ?_
  exact ap_iret hc hz (ap_Bn ap_B1) dX4_readsTest_101 h
def w_X4_readsTest   (q : Nat)  (M : ap_Mem) (K : Int32 → ap_Mem → Prop) : Prop :=
w_X4_takesOneOf q 4 M (fun r_1 M_2 => (if 0 ≤ r_1 then (w_X4_takesOneOf q 5 M_2 (fun r_4 M_5 => (if 0 ≤ r_4 then (w_X4_takesNumber q M_5 (fun r_7 M_8 => (if 0 ≤ r_7 then ((if r_4 = 1 then (w_X7_putTest (q + 1) r_1 r_7 r_7 M_8 (fun M_14 => K 1 M_14)) else ((if r_4 = 2 then (w_X7_putTest (q + 1) r_1 (r_7 + 1) 127 M_8 (fun M_13 => K 1 M_13)) else ((if r_7 = 0 then (w_X4_readsTest_90   q r_7 1 r_1 M_8 K) else (w_X4_readsTest_90   q r_7 0 r_1 M_8 K))))))) else (K 0 M_8)))) else (K 0 M_5)))) else (K 0 M_2)))
theorem bl_X4_readsTest_0 {x : ap_X} {g : ap_G} (hc : ap_Cx x g cX4_readsTest RX4 4) {K : Int32 → ap_Mem → Prop} (hz : ap_Ends x g 6 (some .boolean) (ap_Qi K))   {q : Nat} (hq : ap_kd q = 4)    {M : ap_Mem}  (h : w_X4_readsTest   q  M K) : ap_V x g 4 0 [(0, .ref (ap_ad g q))] [] M := by
  have hg := hc.2.2.2.2.2.2.2.1
  unfold w_X4_readsTest at h
  refine ap_aload_n (q := 1) hc dX4_readsTest_0 rfl rfl 0 rfl ?_
  refine ap_ldcS (q := 3) (w := 4) (tx := "pkvfcs") (by decide +kernel) hc dX4_readsTest_1 rfl ?_
  refine ap_callV (q := 6) (As := [.ref (ap_gK g 4)]) hc (ok_X4_takesOneOf hg hq (by decide) h) ml_RX4_106 lk_X4_takesOneOf lv_X4_takesOneOf hq rfl (ap_RmE hz (by decide)) rfl rfl (Nat.le_of_ble_eq_true rfl) dX4_readsTest_3 rfl (ap_ki (fun r_1 M_2 h => ?_))
  refine ap_istore_n (q := 7) (lo2 := [(1, .int r_1), (0, .ref (ap_ad g q))]) hc dX4_readsTest_6 rfl rfl rfl (by decide) rfl ?_
  refine ap_iload_n (q := 8) hc dX4_readsTest_7 rfl rfl 0 rfl ?_
  refine ap_if_ge (q := 11) (tgt := 13) hc dX4_readsTest_8 rfl (by decide) (fun z_3 => ?_) (fun z_3 => ?_)
  · have h := Eq.mp (if_pos z_3) h
    refine ap_aload_n (q := 14) hc dX4_readsTest_13 rfl rfl 1 rfl ?_
    refine ap_ldcS (q := 16) (w := 5) (tx := "<=>") (by decide +kernel) hc dX4_readsTest_14 rfl ?_
    refine ap_callV (q := 19) (As := [.ref (ap_gK g 5)]) hc (ok_X4_takesOneOf hg hq (by decide) h) ml_RX4_106 lk_X4_takesOneOf lv_X4_takesOneOf hq rfl (ap_RmE hz (by decide)) rfl rfl (Nat.le_of_ble_eq_true rfl) dX4_readsTest_16 rfl (ap_ki (fun r_4 M_5 h => ?_))
    refine ap_istore_n (q := 20) (lo2 := [(2, .int r_4), (1, .int r_1), (0, .ref (ap_ad g q))]) hc dX4_readsTest_19 rfl rfl rfl (by decide) rfl ?_
    refine ap_iload_n (q := 21) hc dX4_readsTest_20 rfl rfl 0 rfl ?_
    refine ap_if_ge (q := 24) (tgt := 26) hc dX4_readsTest_21 rfl (by decide) (fun z_6 => ?_) (fun z_6 => ?_)
    · have h := Eq.mp (if_pos z_6) h
      refine ap_aload_n (q := 27) hc dX4_readsTest_26 rfl rfl 2 rfl ?_
      refine ap_callV (q := 30) (As := []) hc (ok_X4_takesNumber hg hq h) ml_RX4_76 lk_X4_takesNumber lv_X4_takesNumber hq rfl (ap_RmE hz (by decide)) rfl rfl (Nat.le_of_ble_eq_true rfl) dX4_readsTest_27 rfl (ap_ki (fun r_7 M_8 h => ?_))
      refine ap_istore_n (q := 31) (lo2 := [(3, .int r_7), (2, .int r_4), (1, .int r_1), (0, .ref (ap_ad g q))]) hc dX4_readsTest_30 rfl rfl rfl (by decide) rfl ?_
      refine ap_iload_n (q := 32) hc dX4_readsTest_31 rfl rfl 0 rfl ?_
      refine ap_if_ge (q := 35) (tgt := 37) hc dX4_readsTest_32 rfl (by decide) (fun z_9 => ?_) (fun z_9 => ?_)
      · have h := Eq.mp (if_pos z_9) h
        refine ap_iload_n (q := 38) hc dX4_readsTest_37 rfl rfl 1 rfl ?_
        refine ap_iconst (q := 39) hc dX4_readsTest_38 rfl ic_1 ?_
        refine ap_icmp_ne (q := 42) (tgt := 55) hc dX4_readsTest_39 rfl (by decide) (fun z_10 => ?_) (fun z_10 => ?_)
        · have h := Eq.mp (if_neg z_10) h
          refine ap_iload_n (q := 56) hc dX4_readsTest_55 rfl rfl 1 rfl ?_
          refine ap_iconst (q := 57) hc dX4_readsTest_56 rfl ic_2 ?_
          refine ap_icmp_ne (q := 60) (tgt := 76) hc dX4_readsTest_57 rfl (by decide) (fun z_11 => ?_) (fun z_11 => ?_)
          · have h := Eq.mp (if_neg z_11) h
            refine ap_aload_n (q := 77) hc dX4_readsTest_76 rfl rfl 3 rfl ?_
            refine ap_getR (q := 80) (r := q + 1) lg_RX4_12 (by decide) hq rfl hc dX4_readsTest_77 rfl ?_
            refine ap_iload_n (q := 81) hc dX4_readsTest_80 rfl rfl 2 rfl ?_
            refine ap_iload_n (q := 82) hc dX4_readsTest_81 rfl rfl 0 rfl ?_
            refine ap_if_ne (q := 85) (tgt := 89) hc dX4_readsTest_82 rfl (by decide) (fun z_12 => ?_) (fun z_12 => ?_)
            · have h := Eq.mp (if_neg z_12) h
              refine ap_iconst (q := 90) hc dX4_readsTest_89 rfl ic_0 ?_
              exact ap_sub [0] rfl (bl_X4_readsTest_90 hc hz  hq   h)
            · have h := Eq.mp (if_pos z_12) h
              refine ap_iconst (q := 86) hc dX4_readsTest_85 rfl ic_1 ?_
              refine ap_goto (q := 90) hc dX4_readsTest_86 (by decide) ?_
              exact ap_sub [0] rfl (bl_X4_readsTest_90 hc hz  hq   h)
          · have h := Eq.mp (if_pos z_11) h
            refine ap_aload_n (q := 61) hc dX4_readsTest_60 rfl rfl 3 rfl ?_
            refine ap_getR (q := 64) (r := q + 1) lg_RX4_12 (by decide) hq rfl hc dX4_readsTest_61 rfl ?_
            refine ap_iload_n (q := 65) hc dX4_readsTest_64 rfl rfl 2 rfl ?_
            refine ap_iload_n (q := 66) hc dX4_readsTest_65 rfl rfl 0 rfl ?_
            refine ap_iconst (q := 67) hc dX4_readsTest_66 rfl ic_1 ?_
            refine ap_iadd (q := 68) hc dX4_readsTest_67 rfl ?_
            refine ap_bipush (q := 70) hc dX4_readsTest_68 rfl bc_127 ?_
            refine ap_callV (q := 73) (As := [.int r_1, .int (r_7 + 1), .int 127]) hc (ok_X7_putTest hg (ty_4_1 hq) h) ml_RX4_112 lk_X7_putTest lv_X7_putTest (ty_4_1 hq) rfl (ap_RmE hz (by decide)) rfl rfl (Nat.le_of_ble_eq_true rfl) dX4_readsTest_70 rfl (ap_kv (fun M_13 h => ?_))
            refine ap_goto (q := 100) hc dX4_readsTest_73 (by decide) ?_
            refine ap_iconst (q := 101) hc dX4_readsTest_100 rfl ic_1 ?_
            exact ap_iret hc hz (ap_Bn ap_B1) dX4_readsTest_101 h
        · have h := Eq.mp (if_pos z_10) h
          refine ap_aload_n (q := 43) hc dX4_readsTest_42 rfl rfl 3 rfl ?_
          refine ap_getR (q := 46) (r := q + 1) lg_RX4_12 (by decide) hq rfl hc dX4_readsTest_43 rfl ?_
          refine ap_iload_n (q := 47) hc dX4_readsTest_46 rfl rfl 2 rfl ?_
          refine ap_iload_n (q := 48) hc dX4_readsTest_47 rfl rfl 0 rfl ?_
          refine ap_iload_n (q := 49) hc dX4_readsTest_48 rfl rfl 0 rfl ?_
          refine ap_callV (q := 52) (As := [.int r_1, .int r_7, .int r_7]) hc (ok_X7_putTest hg (ty_4_1 hq) h) ml_RX4_112 lk_X7_putTest lv_X7_putTest (ty_4_1 hq) rfl (ap_RmE hz (by decide)) rfl rfl (Nat.le_of_ble_eq_true rfl) dX4_readsTest_49 rfl (ap_kv (fun M_14 h => ?_))
          refine ap_goto (q := 100) hc dX4_readsTest_52 (by decide) ?_
          refine ap_iconst (q := 101) hc dX4_readsTest_100 rfl ic_1 ?_
          exact ap_iret hc hz (ap_Bn ap_B1) dX4_readsTest_101 h
      · have h := Eq.mp (if_neg z_9) h
        refine ap_iconst (q := 36) hc dX4_readsTest_35 rfl ic_0 ?_
        exact ap_iret hc hz (ap_Bn ap_B0) dX4_readsTest_36 h
    · have h := Eq.mp (if_neg z_6) h
      refine ap_iconst (q := 25) hc dX4_readsTest_24 rfl ic_0 ?_
      exact ap_iret hc hz (ap_Bn ap_B0) dX4_readsTest_25 h
  · have h := Eq.mp (if_neg z_3) h
    refine ap_iconst (q := 12) hc dX4_readsTest_11 rfl ic_0 ?_
    exact ap_iret hc hz (ap_Bn ap_B0) dX4_readsTest_12 h
theorem ok_X4_readsTest {l : Launch} {g : ap_G} (hg : ap_GOK g) {q : Nat} (hq : ap_kd q = 4)  {M : ap_Mem} {K : Int32 → ap_Mem → Prop} (h : w_X4_readsTest q  M K) : ap_Ct l g yX4_readsTest cX4_readsTest 4 (some .boolean) 6 [.ref (ap_ad g q)] M (ap_Qi K) := by
  refine ap_Ct_of hg (by decide +kernel) (Nat.le_of_ble_eq_true rfl) (fun x hx hc hz => ?_)
  subst hx
  exact bl_X4_readsTest_0 hc hz hq h
def w_X4_settle_101  (kL2 : Int32 → Int32 → ap_Mem → Prop) (q : Nat) (x1 : Int32) (x2 : Int32) (M : ap_Mem) (K : ap_Mem → Prop) : Prop :=
∀ x2_1 : Int32, x2_1 = x2 + 1 → kL2 x1 x2_1 M
theorem bl_X4_settle_101 {x : ap_X} {g : ap_G} (hc : ap_Cx x g cX4_settle RX4 3) {K : ap_Mem → Prop} (hz : ap_Ends x g 1 none (ap_Qv K))   {q : Nat} (hq : ap_kd q = 4) {kL2 : Int32 → Int32 → ap_Mem → Prop} (hk2 : ∀ (x1 : Int32) (x2 : Int32)  (M : ap_Mem), kL2 x1 x2 M → ap_V x g 3 2 [(0, .ref (ap_ad g q)), (1, .int x1), (2, .int x2)] [] M) {x1 : Int32} {x2 : Int32} {M : ap_Mem}  (h : w_X4_settle_101  kL2 q x1 x2 M K) : ap_V x g 3 101 [(0, .ref (ap_ad g q)), (1, .int x1), (2, .int x2)] [] M := by
  unfold w_X4_settle_101 at h
  obtain ⟨x2_1, ex2_1, h⟩ := ap_nm h
  refine ap_iinc (q := 104) (lo2 := [(2, .int x2_1), (0, .ref (ap_ad g q)), (1, .int x1)]) hc dX4_settle_101 rfl 2 rfl (by rw [ex2_1]; rfl) (by decide) rfl ?_
  refine ap_goto (q := 2) hc dX4_settle_104 (by decide) ?_
  exact ap_sub [1, 2, 0] rfl (hk2 _ _ _ h)
def w_X4_settle_98  (kL2 : Int32 → Int32 → ap_Mem → Prop) (q : Nat) (x1 : Int32) (x2 : Int32) (s0 : Int32) (M : ap_Mem) (K : ap_Mem → Prop) : Prop :=
w_X7_put (q + 1) s0 M (fun M_1 => w_X4_settle_101  kL2 q x1 x2 M_1 K)
theorem bl_X4_settle_98 {x : ap_X} {g : ap_G} (hc : ap_Cx x g cX4_settle RX4 3) {K : ap_Mem → Prop} (hz : ap_Ends x g 1 none (ap_Qv K))   {q : Nat} (hq : ap_kd q = 4) {kL2 : Int32 → Int32 → ap_Mem → Prop} (hk2 : ∀ (x1 : Int32) (x2 : Int32)  (M : ap_Mem), kL2 x1 x2 M → ap_V x g 3 2 [(0, .ref (ap_ad g q)), (1, .int x1), (2, .int x2)] [] M) {x1 : Int32} {x2 : Int32} {s0 : Int32} {M : ap_Mem}  (h : w_X4_settle_98  kL2 q x1 x2 s0 M K) : ap_V x g 3 98 [(0, .ref (ap_ad g q)), (1, .int x1), (2, .int x2)] [.int s0, .ref (ap_ad g (q + 1))] M := by
  have hg := hc.2.2.2.2.2.2.2.1
  unfold w_X4_settle_98 at h
  refine ap_callV (q := 101) (As := [.int s0]) hc (ok_X7_put hg (ty_4_1 hq) h) ml_RX4_101 lk_X7_put lv_X7_put (ty_4_1 hq) rfl (ap_RmE hz (by decide)) rfl rfl (Nat.le_of_ble_eq_true rfl) dX4_settle_98 rfl (ap_kv (fun M_1 h => ?_))
  exact ap_sub [0, 1, 2] rfl (bl_X4_settle_101 hc hz  hq hk2  h)
def w_X4_settle_2_s   (kL2 : Int32 → Int32 → ap_Mem → Prop) (q : Nat) (x1 : Int32) (x2 : Int32) (M : ap_Mem) (K : ap_Mem → Prop) : Prop :=
(if 17 ≤ x2 then (K M) else ((if (M q 4) ≤ 0 then (K M) else (vp_in ((M q 4) - 1) 17 ∧ (if (M (q + 12) ((M q 4) - 1).toNatClampNeg) < x1 then (K M) else (∀ M_5 : ap_Mem, M_5 = ap_mu M q 4 ((M q 4) - 1) → vp_in (M_5 q 4) 17 ∧ (if (M_5 (q + 12) (M_5 q 4).toNatClampNeg) = 3 then (w_X7_put (q + 1) (-3) M_5 (fun M_10 => ∀ M_11 : ap_Mem, M_11 = ap_mu M_10 q 5 ((M_10 q 5) - 1) → w_X4_settle_101  kL2 q x1 x2 M_11 K)) else (vp_in (M_5 q 4) 17 ∧ (if (M_5 (q + 12) (M_5 q 4).toNatClampNeg) = 2 then (w_X4_settle_98  kL2 q x1 x2 (-2) M_5 K) else (w_X4_settle_98  kL2 q x1 x2 (-1) M_5 K))))))))))
def w_X4_settle_2   (q : Nat) (K : ap_Mem → Prop) : Nat → Int32 → Int32 → ap_Mem → Prop
  | 0, _, _, _ => False
  | n + 1, x1, x2, M => w_X4_settle_2_s   (w_X4_settle_2   q K n) q x1 x2 M K
theorem bl_X4_settle_2 {x : ap_X} {g : ap_G} (hc : ap_Cx x g cX4_settle RX4 3) {K : ap_Mem → Prop} (hz : ap_Ends x g 1 none (ap_Qv K))   {q : Nat} (hq : ap_kd q = 4)   : ∀ (n : Nat) (x1 : Int32) (x2 : Int32) (M : ap_Mem), w_X4_settle_2   q K n x1 x2 M → ap_V x g 3 2 [(0, .ref (ap_ad g q)), (1, .int x1), (2, .int x2)] [] M := by
  have hg := hc.2.2.2.2.2.2.2.1
  intro n
  induction n with
  | zero => intro _ _ _ h; exact h.elim
  | succ n ih =>
    intro x1 x2 M h
    replace h : w_X4_settle_2_s   (w_X4_settle_2   q K n) q x1 x2 M K := h
    unfold w_X4_settle_2_s at h
    refine ap_iload_n (q := 3) hc dX4_settle_2 rfl rfl 2 rfl ?_
    refine ap_bipush (q := 5) hc dX4_settle_3 rfl bc_17 ?_
    refine ap_icmp_ge (q := 8) (tgt := 107) hc dX4_settle_5 rfl (by decide) (fun z_1 => ?_) (fun z_1 => ?_)
    · have h := Eq.mp (if_pos z_1) h
      exact ap_vret hc hz dX4_settle_107 h
    · have h := Eq.mp (if_neg z_1) h
      refine ap_aload_n (q := 9) hc dX4_settle_8 rfl rfl 0 rfl ?_
      refine ap_getI (q := 12) lg_RX4_35 hq hc dX4_settle_9 rfl ?_
      refine ap_if_le (q := 15) (tgt := 107) hc dX4_settle_12 rfl (by decide) (fun z_2 => ?_) (fun z_2 => ?_)
      · have h := Eq.mp (if_pos z_2) h
        exact ap_vret hc hz dX4_settle_107 h
      · have h := Eq.mp (if_neg z_2) h
        refine ap_aload_n (q := 16) hc dX4_settle_15 rfl rfl 0 rfl ?_
        refine ap_getR (q := 19) (r := q + 12) lg_RX4_31 (by decide) hq rfl hc dX4_settle_16 rfl ?_
        refine ap_aload_n (q := 20) hc dX4_settle_19 rfl rfl 0 rfl ?_
        refine ap_getI (q := 23) lg_RX4_35 hq hc dX4_settle_20 rfl ?_
        refine ap_iconst (q := 24) hc dX4_settle_23 rfl ic_1 ?_
        refine ap_isub (q := 25) hc dX4_settle_24 rfl ?_
        obtain ⟨g_3, h⟩ := h
        refine ap_iald (q := 26) (ty_4_12 hq) (tn_4_12 hq) g_3 hc dX4_settle_25 rfl ?_
        refine ap_iload_n (q := 27) hc dX4_settle_26 rfl rfl 1 rfl ?_
        refine ap_icmp_lt (q := 30) (tgt := 107) hc dX4_settle_27 rfl (by decide) (fun z_4 => ?_) (fun z_4 => ?_)
        · have h := Eq.mp (if_pos z_4) h
          exact ap_vret hc hz dX4_settle_107 h
        · have h := Eq.mp (if_neg z_4) h
          refine ap_aload_n (q := 31) hc dX4_settle_30 rfl rfl 0 rfl ?_
          refine ap_dup (q := 32) hc dX4_settle_31 rfl rfl ?_
          refine ap_getI (q := 35) lg_RX4_35 hq hc dX4_settle_32 rfl ?_
          refine ap_iconst (q := 36) hc dX4_settle_35 rfl ic_1 ?_
          refine ap_isub (q := 37) hc dX4_settle_36 rfl ?_
          obtain ⟨M_5, eM_5, h⟩ := ap_nm h
          refine ap_putI (q := 40) lp_RX4_35 hq eM_5 hc dX4_settle_37 rfl ?_
          refine ap_aload_n (q := 41) hc dX4_settle_40 rfl rfl 0 rfl ?_
          refine ap_getR (q := 44) (r := q + 12) lg_RX4_31 (by decide) hq rfl hc dX4_settle_41 rfl ?_
          refine ap_aload_n (q := 45) hc dX4_settle_44 rfl rfl 0 rfl ?_
          refine ap_getI (q := 48) lg_RX4_35 hq hc dX4_settle_45 rfl ?_
          obtain ⟨g_6, h⟩ := h
          refine ap_iald (q := 49) (ty_4_12 hq) (tn_4_12 hq) g_6 hc dX4_settle_48 rfl ?_
          refine ap_iconst (q := 50) hc dX4_settle_49 rfl ic_3 ?_
          refine ap_icmp_ne (q := 53) (tgt := 75) hc dX4_settle_50 rfl (by decide) (fun z_7 => ?_) (fun z_7 => ?_)
          · have h := Eq.mp (if_neg z_7) h
            refine ap_aload_n (q := 76) hc dX4_settle_75 rfl rfl 0 rfl ?_
            refine ap_getR (q := 79) (r := q + 1) lg_RX4_12 (by decide) hq rfl hc dX4_settle_76 rfl ?_
            refine ap_aload_n (q := 80) hc dX4_settle_79 rfl rfl 0 rfl ?_
            refine ap_getR (q := 83) (r := q + 12) lg_RX4_31 (by decide) hq rfl hc dX4_settle_80 rfl ?_
            refine ap_aload_n (q := 84) hc dX4_settle_83 rfl rfl 0 rfl ?_
            refine ap_getI (q := 87) lg_RX4_35 hq hc dX4_settle_84 rfl ?_
            obtain ⟨g_8, h⟩ := h
            refine ap_iald (q := 88) (ty_4_12 hq) (tn_4_12 hq) g_8 hc dX4_settle_87 rfl ?_
            refine ap_iconst (q := 89) hc dX4_settle_88 rfl ic_2 ?_
            refine ap_icmp_ne (q := 92) (tgt := 97) hc dX4_settle_89 rfl (by decide) (fun z_9 => ?_) (fun z_9 => ?_)
            · have h := Eq.mp (if_neg z_9) h
              refine ap_iconst (q := 98) hc dX4_settle_97 rfl ic_m1 ?_
              exact ap_sub [0, 1, 2] rfl (bl_X4_settle_98 hc hz  hq ih  h)
            · have h := Eq.mp (if_pos z_9) h
              refine ap_bipush (q := 94) hc dX4_settle_92 rfl bc_m2 ?_
              refine ap_goto (q := 98) hc dX4_settle_94 (by decide) ?_
              exact ap_sub [0, 1, 2] rfl (bl_X4_settle_98 hc hz  hq ih  h)
          · have h := Eq.mp (if_pos z_7) h
            refine ap_aload_n (q := 54) hc dX4_settle_53 rfl rfl 0 rfl ?_
            refine ap_getR (q := 57) (r := q + 1) lg_RX4_12 (by decide) hq rfl hc dX4_settle_54 rfl ?_
            refine ap_bipush (q := 59) hc dX4_settle_57 rfl bc_m3 ?_
            refine ap_callV (q := 62) (As := [.int (-3)]) hc (ok_X7_put hg (ty_4_1 hq) h) ml_RX4_101 lk_X7_put lv_X7_put (ty_4_1 hq) rfl (ap_RmE hz (by decide)) rfl rfl (Nat.le_of_ble_eq_true rfl) dX4_settle_59 rfl (ap_kv (fun M_10 h => ?_))
            refine ap_aload_n (q := 63) hc dX4_settle_62 rfl rfl 0 rfl ?_
            refine ap_dup (q := 64) hc dX4_settle_63 rfl rfl ?_
            refine ap_getI (q := 67) lg_RX4_38 hq hc dX4_settle_64 rfl ?_
            refine ap_iconst (q := 68) hc dX4_settle_67 rfl ic_1 ?_
            refine ap_isub (q := 69) hc dX4_settle_68 rfl ?_
            obtain ⟨M_11, eM_11, h⟩ := ap_nm h
            refine ap_putI (q := 72) lp_RX4_38 hq eM_11 hc dX4_settle_69 rfl ?_
            refine ap_goto (q := 101) hc dX4_settle_72 (by decide) ?_
            exact ap_sub [0, 1, 2] rfl (bl_X4_settle_101 hc hz  hq ih  h)
def w_X4_settle   (q : Nat) (x1 : Int32) (M : ap_Mem) (K : ap_Mem → Prop) : Prop :=
w_X4_settle_2   q K 4096 x1 0 M
theorem bl_X4_settle_0 {x : ap_X} {g : ap_G} (hc : ap_Cx x g cX4_settle RX4 3) {K : ap_Mem → Prop} (hz : ap_Ends x g 1 none (ap_Qv K))   {q : Nat} (hq : ap_kd q = 4)   {x1 : Int32} {M : ap_Mem}  (h : w_X4_settle   q x1 M K) : ap_V x g 3 0 [(0, .ref (ap_ad g q)), (1, .int x1)] [] M := by
  unfold w_X4_settle at h
  refine ap_iconst (q := 1) hc dX4_settle_0 rfl ic_0 ?_
  refine ap_istore_n (q := 2) (lo2 := [(2, .int 0), (0, .ref (ap_ad g q)), (1, .int x1)]) hc dX4_settle_1 rfl rfl rfl (by decide) rfl ?_
  exact ap_sub [1, 2, 0] rfl (bl_X4_settle_2 hc hz  hq  _ _ _ _ h)
theorem ok_X4_settle {l : Launch} {g : ap_G} (hg : ap_GOK g) {q : Nat} (hq : ap_kd q = 4) {x1 : Int32} {M : ap_Mem} {K : ap_Mem → Prop} (h : w_X4_settle q x1 M K) : ap_Ct l g yX4_settle cX4_settle 3 none 1 [.ref (ap_ad g q), .int x1] M (ap_Qv K) := by
  refine ap_Ct_of hg (by decide +kernel) (Nat.le_of_ble_eq_true rfl) (fun x hx hc hz => ?_)
  subst hx
  exact bl_X4_settle_0 hc hz hq h
def w_X4_takesClosing_2_s   (kL2 : Int32 → ap_Mem → Prop) (q : Nat) (x1 : Int32) (M : ap_Mem) (K : ap_Mem → Prop) : Prop :=
(if 5 ≤ x1 then (K M) else ((if (M q 6) ≤ 0 then (K M) else (w_X4_takes q 41 M (fun r_3 M_4 => (if r_3 = 0 then (K M_4) else (w_X4_settle q 1 M_4 (fun M_6 => ∀ M_7 : ap_Mem, M_7 = ap_mu M_6 q 4 ((M_6 q 4) - 1) → ∀ M_8 : ap_Mem, M_8 = ap_mu M_7 q 5 ((M_7 q 5) - 1) → ∀ M_9 : ap_Mem, M_9 = ap_mu M_8 q 6 ((M_8 q 6) - 1) → ∀ x1_10 : Int32, x1_10 = x1 + 1 → kL2 x1_10 M_9))))))))
def w_X4_takesClosing_2   (q : Nat) (K : ap_Mem → Prop) : Nat → Int32 → ap_Mem → Prop
  | 0, _, _ => False
  | n + 1, x1, M => w_X4_takesClosing_2_s   (w_X4_takesClosing_2   q K n) q x1 M K
theorem bl_X4_takesClosing_2 {x : ap_X} {g : ap_G} (hc : ap_Cx x g cX4_takesClosing RX4 2) {K : ap_Mem → Prop} (hz : ap_Ends x g 2 none (ap_Qv K))   {q : Nat} (hq : ap_kd q = 4)   : ∀ (n : Nat) (x1 : Int32) (M : ap_Mem), w_X4_takesClosing_2   q K n x1 M → ap_V x g 2 2 [(0, .ref (ap_ad g q)), (1, .int x1)] [] M := by
  have hg := hc.2.2.2.2.2.2.2.1
  intro n
  induction n with
  | zero => intro _ _ h; exact h.elim
  | succ n ih =>
    intro x1 M h
    replace h : w_X4_takesClosing_2_s   (w_X4_takesClosing_2   q K n) q x1 M K := h
    unfold w_X4_takesClosing_2_s at h
    refine ap_iload_n (q := 3) hc dX4_takesClosing_2 rfl rfl 1 rfl ?_
    refine ap_iconst (q := 4) hc dX4_takesClosing_3 rfl ic_5 ?_
    refine ap_icmp_ge (q := 7) (tgt := 64) hc dX4_takesClosing_4 rfl (by decide) (fun z_1 => ?_) (fun z_1 => ?_)
    · have h := Eq.mp (if_pos z_1) h
      exact ap_vret hc hz dX4_takesClosing_64 h
    · have h := Eq.mp (if_neg z_1) h
      refine ap_aload_n (q := 8) hc dX4_takesClosing_7 rfl rfl 0 rfl ?_
      refine ap_getI (q := 11) lg_RX4_41 hq hc dX4_takesClosing_8 rfl ?_
      refine ap_if_le (q := 14) (tgt := 64) hc dX4_takesClosing_11 rfl (by decide) (fun z_2 => ?_) (fun z_2 => ?_)
      · have h := Eq.mp (if_pos z_2) h
        exact ap_vret hc hz dX4_takesClosing_64 h
      · have h := Eq.mp (if_neg z_2) h
        refine ap_aload_n (q := 15) hc dX4_takesClosing_14 rfl rfl 0 rfl ?_
        refine ap_bipush (q := 17) hc dX4_takesClosing_15 rfl bc_41 ?_
        refine ap_callV (q := 20) (As := [.int 41]) hc (ok_X4_takes hg hq h) ml_RX4_58 lk_X4_takes lv_X4_takes hq rfl (ap_RmE hz (by decide)) rfl rfl (Nat.le_of_ble_eq_true rfl) dX4_takesClosing_17 rfl (ap_ki (fun r_3 M_4 h => ?_))
        refine ap_if_eq (q := 23) (tgt := 64) hc dX4_takesClosing_20 rfl (by decide) (fun z_5 => ?_) (fun z_5 => ?_)
        · have h := Eq.mp (if_pos z_5) h
          exact ap_vret hc hz dX4_takesClosing_64 h
        · have h := Eq.mp (if_neg z_5) h
          refine ap_aload_n (q := 24) hc dX4_takesClosing_23 rfl rfl 0 rfl ?_
          refine ap_iconst (q := 25) hc dX4_takesClosing_24 rfl ic_1 ?_
          refine ap_callV (q := 28) (As := [.int 1]) hc (ok_X4_settle hg hq h) ml_RX4_95 lk_X4_settle lv_X4_settle hq rfl (ap_RmE hz (by decide)) rfl rfl (Nat.le_of_ble_eq_true rfl) dX4_takesClosing_25 rfl (ap_kv (fun M_6 h => ?_))
          refine ap_aload_n (q := 29) hc dX4_takesClosing_28 rfl rfl 0 rfl ?_
          refine ap_dup (q := 30) hc dX4_takesClosing_29 rfl rfl ?_
          refine ap_getI (q := 33) lg_RX4_35 hq hc dX4_takesClosing_30 rfl ?_
          refine ap_iconst (q := 34) hc dX4_takesClosing_33 rfl ic_1 ?_
          refine ap_isub (q := 35) hc dX4_takesClosing_34 rfl ?_
          obtain ⟨M_7, eM_7, h⟩ := ap_nm h
          refine ap_putI (q := 38) lp_RX4_35 hq eM_7 hc dX4_takesClosing_35 rfl ?_
          refine ap_aload_n (q := 39) hc dX4_takesClosing_38 rfl rfl 0 rfl ?_
          refine ap_dup (q := 40) hc dX4_takesClosing_39 rfl rfl ?_
          refine ap_getI (q := 43) lg_RX4_38 hq hc dX4_takesClosing_40 rfl ?_
          refine ap_iconst (q := 44) hc dX4_takesClosing_43 rfl ic_1 ?_
          refine ap_isub (q := 45) hc dX4_takesClosing_44 rfl ?_
          obtain ⟨M_8, eM_8, h⟩ := ap_nm h
          refine ap_putI (q := 48) lp_RX4_38 hq eM_8 hc dX4_takesClosing_45 rfl ?_
          refine ap_aload_n (q := 49) hc dX4_takesClosing_48 rfl rfl 0 rfl ?_
          refine ap_dup (q := 50) hc dX4_takesClosing_49 rfl rfl ?_
          refine ap_getI (q := 53) lg_RX4_41 hq hc dX4_takesClosing_50 rfl ?_
          refine ap_iconst (q := 54) hc dX4_takesClosing_53 rfl ic_1 ?_
          refine ap_isub (q := 55) hc dX4_takesClosing_54 rfl ?_
          obtain ⟨M_9, eM_9, h⟩ := ap_nm h
          refine ap_putI (q := 58) lp_RX4_41 hq eM_9 hc dX4_takesClosing_55 rfl ?_
          obtain ⟨x1_10, ex1_10, h⟩ := ap_nm h
          refine ap_iinc (q := 61) (lo2 := [(1, .int x1_10), (0, .ref (ap_ad g q))]) hc dX4_takesClosing_58 rfl 1 rfl (by rw [ex1_10]; rfl) (by decide) rfl ?_
          refine ap_goto (q := 2) hc dX4_takesClosing_61 (by decide) ?_
          exact ap_sub [1, 0] rfl (ih _ _ h)
def w_X4_takesClosing   (q : Nat)  (M : ap_Mem) (K : ap_Mem → Prop) : Prop :=
w_X4_takesClosing_2   q K 4096 0 M
theorem bl_X4_takesClosing_0 {x : ap_X} {g : ap_G} (hc : ap_Cx x g cX4_takesClosing RX4 2) {K : ap_Mem → Prop} (hz : ap_Ends x g 2 none (ap_Qv K))   {q : Nat} (hq : ap_kd q = 4)    {M : ap_Mem}  (h : w_X4_takesClosing   q  M K) : ap_V x g 2 0 [(0, .ref (ap_ad g q))] [] M := by
  unfold w_X4_takesClosing at h
  refine ap_iconst (q := 1) hc dX4_takesClosing_0 rfl ic_0 ?_
  refine ap_istore_n (q := 2) (lo2 := [(1, .int 0), (0, .ref (ap_ad g q))]) hc dX4_takesClosing_1 rfl rfl rfl (by decide) rfl ?_
  exact ap_sub [1, 0] rfl (bl_X4_takesClosing_2 hc hz  hq  _ _ _ h)
theorem ok_X4_takesClosing {l : Launch} {g : ap_G} (hg : ap_GOK g) {q : Nat} (hq : ap_kd q = 4)  {M : ap_Mem} {K : ap_Mem → Prop} (h : w_X4_takesClosing q  M K) : ap_Ct l g yX4_takesClosing cX4_takesClosing 2 none 2 [.ref (ap_ad g q)] M (ap_Qv K) := by
  refine ap_Ct_of hg (by decide +kernel) (Nat.le_of_ble_eq_true rfl) (fun x hx hc hz => ?_)
  subst hx
  exact bl_X4_takesClosing_0 hc hz hq h
def w_X4_readsExpression_102  (kL17 : Int32 → ap_Mem → Prop) (q : Nat) (x1 : Int32) (M : ap_Mem) (K : Int32 → ap_Mem → Prop) : Prop :=
∀ x1_1 : Int32, x1_1 = x1 + 1 → kL17 x1_1 M
theorem bl_X4_readsExpression_102 {x : ap_X} {g : ap_G} (hc : ap_Cx x g cX4_readsExpression RX4 2) {K : Int32 → ap_Mem → Prop} (hz : ap_Ends x g 7 (some .boolean) (ap_Qi K))   {q : Nat} (hq : ap_kd q = 4) {kL17 : Int32 → ap_Mem → Prop} (hk17 : ∀ (x1 : Int32)  (M : ap_Mem), kL17 x1 M → ap_V x g 2 17 [(0, .ref (ap_ad g q)), (1, .int x1)] [] M) {x1 : Int32} {M : ap_Mem}  (h : w_X4_readsExpression_102  kL17 q x1 M K) : ap_V x g 2 102 [(0, .ref (ap_ad g q)), (1, .int x1)] [] M := by
  unfold w_X4_readsExpression_102 at h
  obtain ⟨x1_1, ex1_1, h⟩ := ap_nm h
  refine ap_iinc (q := 105) (lo2 := [(1, .int x1_1), (0, .ref (ap_ad g q))]) hc dX4_readsExpression_102 rfl 1 rfl (by rw [ex1_1]; rfl) (by decide) rfl ?_
  refine ap_goto (q := 17) hc dX4_readsExpression_105 (by decide) ?_
  exact ap_sub [1, 0] rfl (hk17 _ _ h)
def w_X4_readsExpression_17_s   (kL17 : Int32 → ap_Mem → Prop) (q : Nat) (x1 : Int32) (M : ap_Mem) (K : Int32 → ap_Mem → Prop) : Prop :=
(if 100 ≤ x1 then (K 0 M) else (w_X4_takesOpening q M (fun M_2 => w_X4_readsTest q M_2 (fun r_3 M_4 => (if r_3 = 0 then (K 0 M_4) else (w_X4_takesClosing q M_4 (fun M_6 => w_X4_takes q 38 M_6 (fun r_7 M_8 => (if r_7 = 0 then (w_X4_takes q 124 M_8 (fun r_10 M_11 => (if r_10 = 0 then (w_X4_settle q 1 M_11 (fun M_13 => (if (M_13 q 6) = 0 then (K 1 M_13) else (K 0 M_13)))) else (w_X4_settle q 1 M_11 (fun M_15 => w_X4_push q 1 M_15 (fun M_16 => w_X4_readsExpression_102  kL17 q x1 M_16 K)))))) else (w_X4_settle q 2 M_8 (fun M_17 => w_X4_push q 2 M_17 (fun M_18 => w_X4_readsExpression_102  kL17 q x1 M_18 K))))))))))))
def w_X4_readsExpression_17   (q : Nat) (K : Int32 → ap_Mem → Prop) : Nat → Int32 → ap_Mem → Prop
  | 0, _, _ => False
  | n + 1, x1, M => w_X4_readsExpression_17_s   (w_X4_readsExpression_17   q K n) q x1 M K
theorem bl_X4_readsExpression_17 {x : ap_X} {g : ap_G} (hc : ap_Cx x g cX4_readsExpression RX4 2) {K : Int32 → ap_Mem → Prop} (hz : ap_Ends x g 7 (some .boolean) (ap_Qi K))   {q : Nat} (hq : ap_kd q = 4)   : ∀ (n : Nat) (x1 : Int32) (M : ap_Mem), w_X4_readsExpression_17   q K n x1 M → ap_V x g 2 17 [(0, .ref (ap_ad g q)), (1, .int x1)] [] M := by
  have hg := hc.2.2.2.2.2.2.2.1
  intro n
  induction n with
  | zero => intro _ _ h; exact h.elim
  | succ n ih =>
    intro x1 M h
    replace h : w_X4_readsExpression_17_s   (w_X4_readsExpression_17   q K n) q x1 M K := h
    unfold w_X4_readsExpression_17_s at h
    refine ap_iload_n (q := 18) hc dX4_readsExpression_17 rfl rfl 1 rfl ?_
    refine ap_bipush (q := 20) hc dX4_readsExpression_18 rfl bc_100 ?_
    refine ap_icmp_ge (q := 23) (tgt := 108) hc dX4_readsExpression_20 rfl (by decide) (fun z_1 => ?_) (fun z_1 => ?_)
    · have h := Eq.mp (if_pos z_1) h
      refine ap_iconst (q := 109) hc dX4_readsExpression_108 rfl ic_0 ?_
      exact ap_iret hc hz (ap_Bn ap_B0) dX4_readsExpression_109 h
    · have h := Eq.mp (if_neg z_1) h
      refine ap_aload_n (q := 24) hc dX4_readsExpression_23 rfl rfl 0 rfl ?_
      refine ap_callV (q := 27) (As := []) hc (ok_X4_takesOpening hg hq h) ml_RX4_86 lk_X4_takesOpening lv_X4_takesOpening hq rfl (ap_RmE hz (by decide)) rfl rfl (Nat.le_of_ble_eq_true rfl) dX4_readsExpression_24 rfl (ap_kv (fun M_2 h => ?_))
      refine ap_aload_n (q := 28) hc dX4_readsExpression_27 rfl rfl 0 rfl ?_
      refine ap_callV (q := 31) (As := []) hc (ok_X4_readsTest hg hq h) ml_RX4_89 lk_X4_readsTest lv_X4_readsTest hq rfl (ap_RmE hz (by decide)) rfl rfl (Nat.le_of_ble_eq_true rfl) dX4_readsExpression_28 rfl (ap_ki (fun r_3 M_4 h => ?_))
      refine ap_if_ne (q := 34) (tgt := 36) hc dX4_readsExpression_31 rfl (by decide) (fun z_5 => ?_) (fun z_5 => ?_)
      · have h := Eq.mp (if_neg z_5) h
        refine ap_aload_n (q := 37) hc dX4_readsExpression_36 rfl rfl 0 rfl ?_
        refine ap_callV (q := 40) (As := []) hc (ok_X4_takesClosing hg hq h) ml_RX4_92 lk_X4_takesClosing lv_X4_takesClosing hq rfl (ap_RmE hz (by decide)) rfl rfl (Nat.le_of_ble_eq_true rfl) dX4_readsExpression_37 rfl (ap_kv (fun M_6 h => ?_))
        refine ap_aload_n (q := 41) hc dX4_readsExpression_40 rfl rfl 0 rfl ?_
        refine ap_bipush (q := 43) hc dX4_readsExpression_41 rfl bc_38 ?_
        refine ap_callV (q := 46) (As := [.int 38]) hc (ok_X4_takes hg hq h) ml_RX4_58 lk_X4_takes lv_X4_takes hq rfl (ap_RmE hz (by decide)) rfl rfl (Nat.le_of_ble_eq_true rfl) dX4_readsExpression_43 rfl (ap_ki (fun r_7 M_8 h => ?_))
        refine ap_if_eq (q := 49) (tgt := 62) hc dX4_readsExpression_46 rfl (by decide) (fun z_9 => ?_) (fun z_9 => ?_)
        · have h := Eq.mp (if_pos z_9) h
          refine ap_aload_n (q := 63) hc dX4_readsExpression_62 rfl rfl 0 rfl ?_
          refine ap_bipush (q := 65) hc dX4_readsExpression_63 rfl bc_124 ?_
          refine ap_callV (q := 68) (As := [.int 124]) hc (ok_X4_takes hg hq h) ml_RX4_58 lk_X4_takes lv_X4_takes hq rfl (ap_RmE hz (by decide)) rfl rfl (Nat.le_of_ble_eq_true rfl) dX4_readsExpression_65 rfl (ap_ki (fun r_10 M_11 h => ?_))
          refine ap_if_eq (q := 71) (tgt := 84) hc dX4_readsExpression_68 rfl (by decide) (fun z_12 => ?_) (fun z_12 => ?_)
          · have h := Eq.mp (if_pos z_12) h
            refine ap_aload_n (q := 85) hc dX4_readsExpression_84 rfl rfl 0 rfl ?_
            refine ap_iconst (q := 86) hc dX4_readsExpression_85 rfl ic_1 ?_
            refine ap_callV (q := 89) (As := [.int 1]) hc (ok_X4_settle hg hq h) ml_RX4_95 lk_X4_settle lv_X4_settle hq rfl (ap_RmE hz (by decide)) rfl rfl (Nat.le_of_ble_eq_true rfl) dX4_readsExpression_86 rfl (ap_kv (fun M_13 h => ?_))
            refine ap_aload_n (q := 90) hc dX4_readsExpression_89 rfl rfl 0 rfl ?_
            refine ap_getI (q := 93) lg_RX4_41 hq hc dX4_readsExpression_90 rfl ?_
            refine ap_if_ne (q := 96) (tgt := 100) hc dX4_readsExpression_93 rfl (by decide) (fun z_14 => ?_) (fun z_14 => ?_)
            · have h := Eq.mp (if_neg z_14) h
              refine ap_iconst (q := 101) hc dX4_readsExpression_100 rfl ic_0 ?_
              exact ap_iret hc hz (ap_Bn ap_B0) dX4_readsExpression_101 h
            · have h := Eq.mp (if_pos z_14) h
              refine ap_iconst (q := 97) hc dX4_readsExpression_96 rfl ic_1 ?_
              refine ap_goto (q := 101) hc dX4_readsExpression_97 (by decide) ?_
              exact ap_iret hc hz (ap_Bn ap_B1) dX4_readsExpression_101 h
          · have h := Eq.mp (if_neg z_12) h
            refine ap_aload_n (q := 72) hc dX4_readsExpression_71 rfl rfl 0 rfl ?_
            refine ap_iconst (q := 73) hc dX4_readsExpression_72 rfl ic_1 ?_
            refine ap_callV (q := 76) (As := [.int 1]) hc (ok_X4_settle hg hq h) ml_RX4_95 lk_X4_settle lv_X4_settle hq rfl (ap_RmE hz (by decide)) rfl rfl (Nat.le_of_ble_eq_true rfl) dX4_readsExpression_73 rfl (ap_kv (fun M_15 h => ?_))
            refine ap_aload_n (q := 77) hc dX4_readsExpression_76 rfl rfl 0 rfl ?_
            refine ap_iconst (q := 78) hc dX4_readsExpression_77 rfl ic_1 ?_
            refine ap_callV (q := 81) (As := [.int 1]) hc (ok_X4_push hg hq h) ml_RX4_98 lk_X4_push lv_X4_push hq rfl (ap_RmE hz (by decide)) rfl rfl (Nat.le_of_ble_eq_true rfl) dX4_readsExpression_78 rfl (ap_kv (fun M_16 h => ?_))
            refine ap_goto (q := 102) hc dX4_readsExpression_81 (by decide) ?_
            exact ap_sub [0, 1] rfl (bl_X4_readsExpression_102 hc hz  hq ih  h)
        · have h := Eq.mp (if_neg z_9) h
          refine ap_aload_n (q := 50) hc dX4_readsExpression_49 rfl rfl 0 rfl ?_
          refine ap_iconst (q := 51) hc dX4_readsExpression_50 rfl ic_2 ?_
          refine ap_callV (q := 54) (As := [.int 2]) hc (ok_X4_settle hg hq h) ml_RX4_95 lk_X4_settle lv_X4_settle hq rfl (ap_RmE hz (by decide)) rfl rfl (Nat.le_of_ble_eq_true rfl) dX4_readsExpression_51 rfl (ap_kv (fun M_17 h => ?_))
          refine ap_aload_n (q := 55) hc dX4_readsExpression_54 rfl rfl 0 rfl ?_
          refine ap_iconst (q := 56) hc dX4_readsExpression_55 rfl ic_2 ?_
          refine ap_callV (q := 59) (As := [.int 2]) hc (ok_X4_push hg hq h) ml_RX4_98 lk_X4_push lv_X4_push hq rfl (ap_RmE hz (by decide)) rfl rfl (Nat.le_of_ble_eq_true rfl) dX4_readsExpression_56 rfl (ap_kv (fun M_18 h => ?_))
          refine ap_goto (q := 102) hc dX4_readsExpression_59 (by decide) ?_
          exact ap_sub [0, 1] rfl (bl_X4_readsExpression_102 hc hz  hq ih  h)
      · have h := Eq.mp (if_pos z_5) h
        refine ap_iconst (q := 35) hc dX4_readsExpression_34 rfl ic_0 ?_
        exact ap_iret hc hz (ap_Bn ap_B0) dX4_readsExpression_35 h
def w_X4_readsExpression   (q : Nat)  (M : ap_Mem) (K : Int32 → ap_Mem → Prop) : Prop :=
∀ M_1 : ap_Mem, M_1 = ap_mu M q 4 0 → ∀ M_2 : ap_Mem, M_2 = ap_mu M_1 q 5 0 → ∀ M_3 : ap_Mem, M_3 = ap_mu M_2 q 6 0 → w_X4_readsExpression_17   q K 4096 0 M_3
theorem bl_X4_readsExpression_0 {x : ap_X} {g : ap_G} (hc : ap_Cx x g cX4_readsExpression RX4 2) {K : Int32 → ap_Mem → Prop} (hz : ap_Ends x g 7 (some .boolean) (ap_Qi K))   {q : Nat} (hq : ap_kd q = 4)    {M : ap_Mem}  (h : w_X4_readsExpression   q  M K) : ap_V x g 2 0 [(0, .ref (ap_ad g q))] [] M := by
  unfold w_X4_readsExpression at h
  refine ap_aload_n (q := 1) hc dX4_readsExpression_0 rfl rfl 0 rfl ?_
  refine ap_iconst (q := 2) hc dX4_readsExpression_1 rfl ic_0 ?_
  obtain ⟨M_1, eM_1, h⟩ := ap_nm h
  refine ap_putI (q := 5) lp_RX4_35 hq eM_1 hc dX4_readsExpression_2 rfl ?_
  refine ap_aload_n (q := 6) hc dX4_readsExpression_5 rfl rfl 0 rfl ?_
  refine ap_iconst (q := 7) hc dX4_readsExpression_6 rfl ic_0 ?_
  obtain ⟨M_2, eM_2, h⟩ := ap_nm h
  refine ap_putI (q := 10) lp_RX4_38 hq eM_2 hc dX4_readsExpression_7 rfl ?_
  refine ap_aload_n (q := 11) hc dX4_readsExpression_10 rfl rfl 0 rfl ?_
  refine ap_iconst (q := 12) hc dX4_readsExpression_11 rfl ic_0 ?_
  obtain ⟨M_3, eM_3, h⟩ := ap_nm h
  refine ap_putI (q := 15) lp_RX4_41 hq eM_3 hc dX4_readsExpression_12 rfl ?_
  refine ap_iconst (q := 16) hc dX4_readsExpression_15 rfl ic_0 ?_
  refine ap_istore_n (q := 17) (lo2 := [(1, .int 0), (0, .ref (ap_ad g q))]) hc dX4_readsExpression_16 rfl rfl rfl (by decide) rfl ?_
  exact ap_sub [1, 0] rfl (bl_X4_readsExpression_17 hc hz  hq  _ _ _ h)
theorem ok_X4_readsExpression {l : Launch} {g : ap_G} (hg : ap_GOK g) {q : Nat} (hq : ap_kd q = 4)  {M : ap_Mem} {K : Int32 → ap_Mem → Prop} (h : w_X4_readsExpression q  M K) : ap_Ct l g yX4_readsExpression cX4_readsExpression 2 (some .boolean) 7 [.ref (ap_ad g q)] M (ap_Qi K) := by
  refine ap_Ct_of hg (by decide +kernel) (Nat.le_of_ble_eq_true rfl) (fun x hx hc hz => ?_)
  subst hx
  exact bl_X4_readsExpression_0 hc hz hq h
def w_X4_readsClause_50   (q : Nat) (x1 : Int32) (s0 : Nat) (M : ap_Mem) (K : Int32 → ap_Mem → Prop) : Prop :=
w_X4_takesAll q s0 M (fun r_1 M_2 => (if r_1 = 0 then (K 0 M_2) else (w_X4_takesNumber q M_2 (fun r_4 M_5 => (if 0 ≤ r_4 then (w_X7_begin (q + 1) x1 r_4 M_5 (fun M_7 => (if x1 = 0 then (K 1 M_7) else (w_X4_takes q 32 M_7 (fun r_9 M_10 => (if r_9 = 0 then (K 0 M_10) else (w_X4_readsExpression q M_10 (fun r_12 M_13 => (if r_12 = 0 then (K 0 M_13) else (K 1 M_13)))))))))) else (K 0 M_5))))))
theorem bl_X4_readsClause_50 {x : ap_X} {g : ap_G} (hc : ap_Cx x g cX4_readsClause RX4 3) {K : Int32 → ap_Mem → Prop} (hz : ap_Ends x g 8 (some .boolean) (ap_Qi K))   {q : Nat} (hq : ap_kd q = 4)   {x1 : Int32} {s0 : Nat} {M : ap_Mem} (hs0 : s0 < 6) (h : w_X4_readsClause_50   q x1 s0 M K) : ap_V x g 3 50 [(0, .ref (ap_ad g q)), (1, .int x1)] [.ref (ap_gK g s0), .ref (ap_ad g q)] M := by
  have hg := hc.2.2.2.2.2.2.2.1
  unfold w_X4_readsClause_50 at h
  refine ap_callV (q := 53) (As := [.ref (ap_gK g s0)]) hc (ok_X4_takesAll hg hq hs0 h) ml_RX4_72 lk_X4_takesAll lv_X4_takesAll hq rfl (ap_RmE hz (by decide)) rfl rfl (Nat.le_of_ble_eq_true rfl) dX4_readsClause_50 rfl (ap_ki (fun r_1 M_2 h => ?_))
  refine ap_if_ne (q := 56) (tgt := 58) hc dX4_readsClause_53 rfl (by decide) (fun z_3 => ?_) (fun z_3 => ?_)
  · have h := Eq.mp (if_neg z_3) h
    refine ap_aload_n (q := 59) hc dX4_readsClause_58 rfl rfl 0 rfl ?_
    refine ap_callV (q := 62) (As := []) hc (ok_X4_takesNumber hg hq h) ml_RX4_76 lk_X4_takesNumber lv_X4_takesNumber hq rfl (ap_RmE hz (by decide)) rfl rfl (Nat.le_of_ble_eq_true rfl) dX4_readsClause_59 rfl (ap_ki (fun r_4 M_5 h => ?_))
    refine ap_istore_n (q := 63) (lo2 := [(2, .int r_4), (0, .ref (ap_ad g q)), (1, .int x1)]) hc dX4_readsClause_62 rfl rfl rfl (by decide) rfl ?_
    refine ap_iload_n (q := 64) hc dX4_readsClause_63 rfl rfl 0 rfl ?_
    refine ap_if_ge (q := 67) (tgt := 69) hc dX4_readsClause_64 rfl (by decide) (fun z_6 => ?_) (fun z_6 => ?_)
    · have h := Eq.mp (if_pos z_6) h
      refine ap_aload_n (q := 70) hc dX4_readsClause_69 rfl rfl 1 rfl ?_
      refine ap_getR (q := 73) (r := q + 1) lg_RX4_12 (by decide) hq rfl hc dX4_readsClause_70 rfl ?_
      refine ap_iload_n (q := 74) hc dX4_readsClause_73 rfl rfl 2 rfl ?_
      refine ap_iload_n (q := 75) hc dX4_readsClause_74 rfl rfl 0 rfl ?_
      refine ap_callV (q := 78) (As := [.int x1, .int r_4]) hc (ok_X7_begin hg (ty_4_1 hq) h) ml_RX4_79 lk_X7_begin lv_X7_begin (ty_4_1 hq) rfl (ap_RmE hz (by decide)) rfl rfl (Nat.le_of_ble_eq_true rfl) dX4_readsClause_75 rfl (ap_kv (fun M_7 h => ?_))
      refine ap_iload_n (q := 79) hc dX4_readsClause_78 rfl rfl 2 rfl ?_
      refine ap_if_eq (q := 82) (tgt := 98) hc dX4_readsClause_79 rfl (by decide) (fun z_8 => ?_) (fun z_8 => ?_)
      · have h := Eq.mp (if_pos z_8) h
        refine ap_iconst (q := 99) hc dX4_readsClause_98 rfl ic_1 ?_
        refine ap_goto (q := 103) hc dX4_readsClause_99 (by decide) ?_
        exact ap_iret hc hz (ap_Bn ap_B1) dX4_readsClause_103 h
      · have h := Eq.mp (if_neg z_8) h
        refine ap_aload_n (q := 83) hc dX4_readsClause_82 rfl rfl 1 rfl ?_
        refine ap_bipush (q := 85) hc dX4_readsClause_83 rfl bc_32 ?_
        refine ap_callV (q := 88) (As := [.int 32]) hc (ok_X4_takes hg hq h) ml_RX4_58 lk_X4_takes lv_X4_takes hq rfl (ap_RmE hz (by decide)) rfl rfl (Nat.le_of_ble_eq_true rfl) dX4_readsClause_85 rfl (ap_ki (fun r_9 M_10 h => ?_))
        refine ap_if_eq (q := 91) (tgt := 102) hc dX4_readsClause_88 rfl (by decide) (fun z_11 => ?_) (fun z_11 => ?_)
        · have h := Eq.mp (if_pos z_11) h
          refine ap_iconst (q := 103) hc dX4_readsClause_102 rfl ic_0 ?_
          exact ap_iret hc hz (ap_Bn ap_B0) dX4_readsClause_103 h
        · have h := Eq.mp (if_neg z_11) h
          refine ap_aload_n (q := 92) hc dX4_readsClause_91 rfl rfl 1 rfl ?_
          refine ap_callV (q := 95) (As := []) hc (ok_X4_readsExpression hg hq h) ml_RX4_83 lk_X4_readsExpression lv_X4_readsExpression hq rfl (ap_RmE hz (by decide)) rfl rfl (Nat.le_of_ble_eq_true rfl) dX4_readsClause_92 rfl (ap_ki (fun r_12 M_13 h => ?_))
          refine ap_if_eq (q := 98) (tgt := 102) hc dX4_readsClause_95 rfl (by decide) (fun z_14 => ?_) (fun z_14 => ?_)
          · have h := Eq.mp (if_pos z_14) h
            refine ap_iconst (q := 103) hc dX4_readsClause_102 rfl ic_0 ?_
            exact ap_iret hc hz (ap_Bn ap_B0) dX4_readsClause_103 h
          · have h := Eq.mp (if_neg z_14) h
            refine ap_iconst (q := 99) hc dX4_readsClause_98 rfl ic_1 ?_
            refine ap_goto (q := 103) hc dX4_readsClause_99 (by decide) ?_
            exact ap_iret hc hz (ap_Bn ap_B1) dX4_readsClause_103 h
    · have h := Eq.mp (if_neg z_6) h
      refine ap_iconst (q := 68) hc dX4_readsClause_67 rfl ic_0 ?_
      exact ap_iret hc hz (ap_Bn ap_B0) dX4_readsClause_68 h
  · have h := Eq.mp (if_pos z_3) h
    refine ap_iconst (q := 57) hc dX4_readsClause_56 rfl ic_0 ?_
    exact ap_iret hc hz (ap_Bn ap_B0) dX4_readsClause_57 h
def w_X4_readsClause_27   (q : Nat) (s0 : Int32) (M : ap_Mem) (K : Int32 → ap_Mem → Prop) : Prop :=
(if s0 = 0 then (w_X4_readsClause_50   q s0 0 M K) else ((if s0 = 1 then (w_X4_readsClause_50   q s0 1 M K) else (w_X4_readsClause_50   q s0 2 M K))))
theorem bl_X4_readsClause_27 {x : ap_X} {g : ap_G} (hc : ap_Cx x g cX4_readsClause RX4 3) {K : Int32 → ap_Mem → Prop} (hz : ap_Ends x g 8 (some .boolean) (ap_Qi K))   {q : Nat} (hq : ap_kd q = 4)   {s0 : Int32} {M : ap_Mem}  (h : w_X4_readsClause_27   q s0 M K) : ap_V x g 3 27 [(0, .ref (ap_ad g q))] [.int s0] M := by
  unfold w_X4_readsClause_27 at h
  refine ap_istore_n (q := 28) (lo2 := [(1, .int s0), (0, .ref (ap_ad g q))]) hc dX4_readsClause_27 rfl rfl rfl (by decide) rfl ?_
  refine ap_aload_n (q := 29) hc dX4_readsClause_28 rfl rfl 1 rfl ?_
  refine ap_iload_n (q := 30) hc dX4_readsClause_29 rfl rfl 0 rfl ?_
  refine ap_if_ne (q := 33) (tgt := 38) hc dX4_readsClause_30 rfl (by decide) (fun z_1 => ?_) (fun z_1 => ?_)
  · have h := Eq.mp (if_neg z_1) h
    refine ap_iload_n (q := 39) hc dX4_readsClause_38 rfl rfl 0 rfl ?_
    refine ap_iconst (q := 40) hc dX4_readsClause_39 rfl ic_1 ?_
    refine ap_icmp_ne (q := 43) (tgt := 48) hc dX4_readsClause_40 rfl (by decide) (fun z_2 => ?_) (fun z_2 => ?_)
    · have h := Eq.mp (if_neg z_2) h
      refine ap_ldcS (q := 50) (w := 2) (tx := "shy ") (by decide +kernel) hc dX4_readsClause_48 rfl ?_
      exact ap_sub [1, 0] rfl (bl_X4_readsClause_50 hc hz  hq  (by decide) h)
    · have h := Eq.mp (if_pos z_2) h
      refine ap_ldcS (q := 45) (w := 1) (tx := "hope ") (by decide +kernel) hc dX4_readsClause_43 rfl ?_
      refine ap_goto (q := 50) hc dX4_readsClause_45 (by decide) ?_
      exact ap_sub [1, 0] rfl (bl_X4_readsClause_50 hc hz  hq  (by decide) h)
  · have h := Eq.mp (if_pos z_1) h
    refine ap_ldcS (q := 35) (w := 0) (tx := "bored ") (by decide +kernel) hc dX4_readsClause_33 rfl ?_
    refine ap_goto (q := 50) hc dX4_readsClause_35 (by decide) ?_
    exact ap_sub [1, 0] rfl (bl_X4_readsClause_50 hc hz  hq  (by decide) h)
def w_X4_readsClause   (q : Nat)  (M : ap_Mem) (K : Int32 → ap_Mem → Prop) : Prop :=
w_X4_next q M (fun r_1 M_2 => (if r_1 = 98 then (w_X4_readsClause_27   q 0 M_2 K) else (w_X4_next q M_2 (fun r_4 M_5 => (if r_4 = 104 then (w_X4_readsClause_27   q 1 M_5 K) else (w_X4_readsClause_27   q 2 M_5 K))))))
theorem bl_X4_readsClause_0 {x : ap_X} {g : ap_G} (hc : ap_Cx x g cX4_readsClause RX4 3) {K : Int32 → ap_Mem → Prop} (hz : ap_Ends x g 8 (some .boolean) (ap_Qi K))   {q : Nat} (hq : ap_kd q = 4)    {M : ap_Mem}  (h : w_X4_readsClause   q  M K) : ap_V x g 3 0 [(0, .ref (ap_ad g q))] [] M := by
  have hg := hc.2.2.2.2.2.2.2.1
  unfold w_X4_readsClause at h
  refine ap_aload_n (q := 1) hc dX4_readsClause_0 rfl rfl 0 rfl ?_
  refine ap_callV (q := 4) (As := []) hc (ok_X4_next hg hq h) ml_RX4_62 lk_X4_next lv_X4_next hq rfl (ap_RmE hz (by decide)) rfl rfl (Nat.le_of_ble_eq_true rfl) dX4_readsClause_1 rfl (ap_ki (fun r_1 M_2 h => ?_))
  refine ap_bipush (q := 6) hc dX4_readsClause_4 rfl bc_98 ?_
  refine ap_icmp_ne (q := 9) (tgt := 13) hc dX4_readsClause_6 rfl (by decide) (fun z_3 => ?_) (fun z_3 => ?_)
  · have h := Eq.mp (if_neg z_3) h
    refine ap_aload_n (q := 14) hc dX4_readsClause_13 rfl rfl 0 rfl ?_
    refine ap_callV (q := 17) (As := []) hc (ok_X4_next hg hq h) ml_RX4_62 lk_X4_next lv_X4_next hq rfl (ap_RmE hz (by decide)) rfl rfl (Nat.le_of_ble_eq_true rfl) dX4_readsClause_14 rfl (ap_ki (fun r_4 M_5 h => ?_))
    refine ap_bipush (q := 19) hc dX4_readsClause_17 rfl bc_104 ?_
    refine ap_icmp_ne (q := 22) (tgt := 26) hc dX4_readsClause_19 rfl (by decide) (fun z_6 => ?_) (fun z_6 => ?_)
    · have h := Eq.mp (if_neg z_6) h
      refine ap_iconst (q := 27) hc dX4_readsClause_26 rfl ic_2 ?_
      exact ap_sub [0] rfl (bl_X4_readsClause_27 hc hz  hq   h)
    · have h := Eq.mp (if_pos z_6) h
      refine ap_iconst (q := 23) hc dX4_readsClause_22 rfl ic_1 ?_
      refine ap_goto (q := 27) hc dX4_readsClause_23 (by decide) ?_
      exact ap_sub [0] rfl (bl_X4_readsClause_27 hc hz  hq   h)
  · have h := Eq.mp (if_pos z_3) h
    refine ap_iconst (q := 10) hc dX4_readsClause_9 rfl ic_0 ?_
    refine ap_goto (q := 27) hc dX4_readsClause_10 (by decide) ?_
    exact ap_sub [0] rfl (bl_X4_readsClause_27 hc hz  hq   h)
theorem ok_X4_readsClause {l : Launch} {g : ap_G} (hg : ap_GOK g) {q : Nat} (hq : ap_kd q = 4)  {M : ap_Mem} {K : Int32 → ap_Mem → Prop} (h : w_X4_readsClause q  M K) : ap_Ct l g yX4_readsClause cX4_readsClause 3 (some .boolean) 8 [.ref (ap_ad g q)] M (ap_Qi K) := by
  refine ap_Ct_of hg (by decide +kernel) (Nat.le_of_ble_eq_true rfl) (fun x hx hc hz => ?_)
  subst hx
  exact bl_X4_readsClause_0 hc hz hq h
def w_X4_reads_22_s   (kL22 : Int32 → ap_Mem → Prop) (q : Nat) (o1 : Nat) (x2 : Int32) (M : ap_Mem) (K : Int32 → ap_Mem → Prop) : Prop :=
(if 10 < x2 then (K 0 M) else (w_X4_readsClause q M (fun r_2 M_3 => (if r_2 = 0 then (K 0 M_3) else ((if (M_3 q 1) = (M_3 (q + 9) 2) then (K 1 M_3) else ((if x2 = 10 then (K 0 M_3) else (w_X4_takes q 59 M_3 (fun r_7 M_8 => (if r_7 = 0 then (K 0 M_8) else (∀ x2_10 : Int32, x2_10 = x2 + 1 → kL22 x2_10 M_8))))))))))))
def w_X4_reads_22   (q : Nat) (o1 : Nat) (K : Int32 → ap_Mem → Prop) : Nat → Int32 → ap_Mem → Prop
  | 0, _, _ => False
  | n + 1, x2, M => w_X4_reads_22_s   (w_X4_reads_22   q o1 K n) q o1 x2 M K
theorem bl_X4_reads_22 {x : ap_X} {g : ap_G} (hc : ap_Cx x g cX4_reads RX4 3) {K : Int32 → ap_Mem → Prop} (hz : ap_Ends x g 9 (some .boolean) (ap_Qi K))   {q : Nat} {o1 : Nat} (hq : ap_kd q = 4) (ho1 : ap_kd o1 = 5)   : ∀ (n : Nat) (x2 : Int32) (M : ap_Mem), w_X4_reads_22   q o1 K n x2 M → ap_V x g 3 22 [(0, .ref (ap_ad g q)), (2, .int x2)] [] M := by
  have hg := hc.2.2.2.2.2.2.2.1
  intro n
  induction n with
  | zero => intro _ _ h; exact h.elim
  | succ n ih =>
    intro x2 M h
    replace h : w_X4_reads_22_s   (w_X4_reads_22   q o1 K n) q o1 x2 M K := h
    unfold w_X4_reads_22_s at h
    refine ap_iload_n (q := 23) hc dX4_reads_22 rfl rfl 1 rfl ?_
    refine ap_bipush (q := 25) hc dX4_reads_23 rfl bc_10 ?_
    refine ap_icmp_gt (q := 28) (tgt := 76) hc dX4_reads_25 rfl (by decide) (fun z_1 => ?_) (fun z_1 => ?_)
    · have h := Eq.mp (if_pos z_1) h
      refine ap_iconst (q := 77) hc dX4_reads_76 rfl ic_0 ?_
      exact ap_iret hc hz (ap_Bn ap_B0) dX4_reads_77 h
    · have h := Eq.mp (if_neg z_1) h
      refine ap_aload_n (q := 29) hc dX4_reads_28 rfl rfl 0 rfl ?_
      refine ap_callV (q := 32) (As := []) hc (ok_X4_readsClause hg hq h) ml_RX4_51 lk_X4_readsClause lv_X4_readsClause hq rfl (ap_RmE hz (by decide)) rfl rfl (Nat.le_of_ble_eq_true rfl) dX4_reads_29 rfl (ap_ki (fun r_2 M_3 h => ?_))
      refine ap_if_ne (q := 35) (tgt := 37) hc dX4_reads_32 rfl (by decide) (fun z_4 => ?_) (fun z_4 => ?_)
      · have h := Eq.mp (if_neg z_4) h
        refine ap_aload_n (q := 38) hc dX4_reads_37 rfl rfl 0 rfl ?_
        refine ap_getI (q := 41) lg_RX4_18 hq hc dX4_reads_38 rfl ?_
        refine ap_aload_n (q := 42) hc dX4_reads_41 rfl rfl 0 rfl ?_
        refine ap_getR (q := 45) (r := q + 9) lg_RX4_27 (by decide) hq rfl hc dX4_reads_42 rfl ?_
        refine ap_getI (q := 48) lg_RX4_55 (ty_4_9 hq) hc dX4_reads_45 rfl ?_
        refine ap_icmp_ne (q := 51) (tgt := 53) hc dX4_reads_48 rfl (by decide) (fun z_5 => ?_) (fun z_5 => ?_)
        · have h := Eq.mp (if_neg z_5) h
          refine ap_iload_n (q := 54) hc dX4_reads_53 rfl rfl 1 rfl ?_
          refine ap_bipush (q := 56) hc dX4_reads_54 rfl bc_10 ?_
          refine ap_icmp_eq (q := 59) (tgt := 68) hc dX4_reads_56 rfl (by decide) (fun z_6 => ?_) (fun z_6 => ?_)
          · have h := Eq.mp (if_pos z_6) h
            refine ap_iconst (q := 69) hc dX4_reads_68 rfl ic_0 ?_
            exact ap_iret hc hz (ap_Bn ap_B0) dX4_reads_69 h
          · have h := Eq.mp (if_neg z_6) h
            refine ap_aload_n (q := 60) hc dX4_reads_59 rfl rfl 0 rfl ?_
            refine ap_bipush (q := 62) hc dX4_reads_60 rfl bc_59 ?_
            refine ap_callV (q := 65) (As := [.int 59]) hc (ok_X4_takes hg hq h) ml_RX4_58 lk_X4_takes lv_X4_takes hq rfl (ap_RmE hz (by decide)) rfl rfl (Nat.le_of_ble_eq_true rfl) dX4_reads_62 rfl (ap_ki (fun r_7 M_8 h => ?_))
            refine ap_if_ne (q := 68) (tgt := 70) hc dX4_reads_65 rfl (by decide) (fun z_9 => ?_) (fun z_9 => ?_)
            · have h := Eq.mp (if_neg z_9) h
              obtain ⟨x2_10, ex2_10, h⟩ := ap_nm h
              refine ap_iinc (q := 73) (lo2 := [(2, .int x2_10), (0, .ref (ap_ad g q))]) hc dX4_reads_70 rfl 1 rfl (by rw [ex2_10]; rfl) (by decide) rfl ?_
              refine ap_goto (q := 22) hc dX4_reads_73 (by decide) ?_
              exact ap_sub [1, 0] rfl (ih _ _ h)
            · have h := Eq.mp (if_pos z_9) h
              refine ap_iconst (q := 69) hc dX4_reads_68 rfl ic_0 ?_
              exact ap_iret hc hz (ap_Bn ap_B0) dX4_reads_69 h
        · have h := Eq.mp (if_pos z_5) h
          refine ap_iconst (q := 52) hc dX4_reads_51 rfl ic_1 ?_
          exact ap_iret hc hz (ap_Bn ap_B1) dX4_reads_52 h
      · have h := Eq.mp (if_pos z_4) h
        refine ap_iconst (q := 36) hc dX4_reads_35 rfl ic_0 ?_
        exact ap_iret hc hz (ap_Bn ap_B0) dX4_reads_36 h
def w_X4_reads   (q : Nat) (o1 : Nat)  (M : ap_Mem) (K : Int32 → ap_Mem → Prop) : Prop :=
w_X5_copyFrom (q + 9) o1 M (fun M_1 => w_X7_clear (q + 1) M_1 (fun M_2 => ∀ M_3 : ap_Mem, M_3 = ap_mu M_2 q 1 0 → w_X4_reads_22   q o1 K 4096 1 M_3))
theorem bl_X4_reads_0 {x : ap_X} {g : ap_G} (hc : ap_Cx x g cX4_reads RX4 3) {K : Int32 → ap_Mem → Prop} (hz : ap_Ends x g 9 (some .boolean) (ap_Qi K))   {q : Nat} {o1 : Nat} (hq : ap_kd q = 4) (ho1 : ap_kd o1 = 5)    {M : ap_Mem}  (h : w_X4_reads   q o1  M K) : ap_V x g 3 0 [(0, .ref (ap_ad g q)), (1, .ref (ap_ad g o1))] [] M := by
  have hg := hc.2.2.2.2.2.2.2.1
  unfold w_X4_reads at h
  refine ap_aload_n (q := 1) hc dX4_reads_0 rfl rfl 0 rfl ?_
  refine ap_getR (q := 4) (r := q + 9) lg_RX4_27 (by decide) hq rfl hc dX4_reads_1 rfl ?_
  refine ap_aload_n (q := 5) hc dX4_reads_4 rfl rfl 1 rfl ?_
  refine ap_callV (q := 8) (As := [.ref (ap_ad g o1)]) hc (ok_X5_copyFrom hg (ty_4_9 hq) ho1 h) ml_RX4_44 lk_X5_copyFrom lv_X5_copyFrom (ty_4_9 hq) rfl (ap_RmE hz (by decide)) rfl rfl (Nat.le_of_ble_eq_true rfl) dX4_reads_5 rfl (ap_kv (fun M_1 h => ?_))
  refine ap_aload_n (q := 9) hc dX4_reads_8 rfl rfl 0 rfl ?_
  refine ap_getR (q := 12) (r := q + 1) lg_RX4_12 (by decide) hq rfl hc dX4_reads_9 rfl ?_
  refine ap_callV (q := 15) (As := []) hc (ok_X7_clear hg (ty_4_1 hq) h) ml_RX4_48 lk_X7_clear lv_X7_clear (ty_4_1 hq) rfl (ap_RmE hz (by decide)) rfl rfl (Nat.le_of_ble_eq_true rfl) dX4_reads_12 rfl (ap_kv (fun M_2 h => ?_))
  refine ap_aload_n (q := 16) hc dX4_reads_15 rfl rfl 0 rfl ?_
  refine ap_iconst (q := 17) hc dX4_reads_16 rfl ic_0 ?_
  obtain ⟨M_3, eM_3, h⟩ := ap_nm h
  refine ap_putI (q := 20) lp_RX4_18 hq eM_3 hc dX4_reads_17 rfl ?_
  refine ap_iconst (q := 21) hc dX4_reads_20 rfl ic_1 ?_
  refine ap_istore_n (q := 22) (lo2 := [(2, .int 1), (0, .ref (ap_ad g q)), (1, .ref (ap_ad g o1))]) hc dX4_reads_21 rfl rfl rfl (by decide) rfl ?_
  exact ap_sub [1, 0] rfl (bl_X4_reads_22 hc hz  hq ho1  _ _ _ h)
theorem ok_X4_reads {l : Launch} {g : ap_G} (hg : ap_GOK g) {q : Nat} {o1 : Nat} (hq : ap_kd q = 4) (ho1 : ap_kd o1 = 5)  {M : ap_Mem} {K : Int32 → ap_Mem → Prop} (h : w_X4_reads q o1  M K) : ap_Ct l g yX4_reads cX4_reads 3 (some .boolean) 9 [.ref (ap_ad g q), .ref (ap_ad g o1)] M (ap_Qi K) := by
  refine ap_Ct_of hg (by decide +kernel) (Nat.le_of_ble_eq_true rfl) (fun x hx hc hz => ?_)
  subst hx
  exact bl_X4_reads_0 hc hz hq ho1 h
