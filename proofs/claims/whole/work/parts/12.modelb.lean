theorem dX9_act_0 : decode cX9_act 0 = .ok (.aload_n 0, 1) := by decide +kernel
theorem dX9_act_1 : decode cX9_act 1 = .ok (.iconst 0, 1) := by decide +kernel
theorem dX9_act_2 : decode cX9_act 2 = .ok (.putfield 189, 3) := by decide +kernel
theorem dX9_act_5 : decode cX9_act 5 = .ok (.aload_n 0, 1) := by decide +kernel
theorem dX9_act_6 : decode cX9_act 6 = .ok (.iload_n 1, 1) := by decide +kernel
theorem dX9_act_7 : decode cX9_act 7 = .ok (.invokevirtual 136, 3) := by decide +kernel
theorem dX9_act_10 : decode cX9_act 10 = .ok (.ifCond .eq 12, 3) := by decide +kernel
theorem dX9_act_13 : decode cX9_act 13 = .ok (.iload_n 2, 1) := by decide +kernel
theorem dX9_act_14 : decode cX9_act 14 = .ok (.iconst 0, 1) := by decide +kernel
theorem dX9_act_15 : decode cX9_act 15 = .ok (.iconst 2, 1) := by decide +kernel
theorem dX9_act_16 : decode cX9_act 16 = .ok (.invokestatic 35, 3) := by decide +kernel
theorem dX9_act_19 : decode cX9_act 19 = .ok (.ifCond .ne 5, 3) := by decide +kernel
theorem dX9_act_22 : decode cX9_act 22 = .ok (.iconst 0, 1) := by decide +kernel
theorem dX9_act_23 : decode cX9_act 23 = .ok (.ireturn, 1) := by decide +kernel
theorem dX9_act_24 : decode cX9_act 24 = .ok (.aload_n 0, 1) := by decide +kernel
theorem dX9_act_25 : decode cX9_act 25 = .ok (.aload_n 0, 1) := by decide +kernel
theorem dX9_act_26 : decode cX9_act 26 = .ok (.getfield 9, 3) := by decide +kernel
theorem dX9_act_29 : decode cX9_act 29 = .ok (.bipush 38, 2) := by decide +kernel
theorem dX9_act_31 : decode cX9_act 31 = .ok (.iload_n 1, 1) := by decide +kernel
theorem dX9_act_32 : decode cX9_act 32 = .ok (.iadd, 1) := by decide +kernel
theorem dX9_act_33 : decode cX9_act 33 = .ok (.iaload, 1) := by decide +kernel
theorem dX9_act_34 : decode cX9_act 34 = .ok (.putfield 198, 3) := by decide +kernel
theorem dX9_act_37 : decode cX9_act 37 = .ok (.aload_n 0, 1) := by decide +kernel
theorem dX9_act_38 : decode cX9_act 38 = .ok (.iload_n 1, 1) := by decide +kernel
theorem dX9_act_39 : decode cX9_act 39 = .ok (.putfield 195, 3) := by decide +kernel
theorem dX9_act_42 : decode cX9_act 42 = .ok (.aload_n 0, 1) := by decide +kernel
theorem dX9_act_43 : decode cX9_act 43 = .ok (.aload_n 0, 1) := by decide +kernel
theorem dX9_act_44 : decode cX9_act 44 = .ok (.getfield 9, 3) := by decide +kernel
theorem dX9_act_47 : decode cX9_act 47 = .ok (.bipush 44, 2) := by decide +kernel
theorem dX9_act_49 : decode cX9_act 49 = .ok (.iload_n 1, 1) := by decide +kernel
theorem dX9_act_50 : decode cX9_act 50 = .ok (.iadd, 1) := by decide +kernel
theorem dX9_act_51 : decode cX9_act 51 = .ok (.iaload, 1) := by decide +kernel
theorem dX9_act_52 : decode cX9_act 52 = .ok (.putfield 210, 3) := by decide +kernel
theorem dX9_act_55 : decode cX9_act 55 = .ok (.iload_n 2, 1) := by decide +kernel
theorem dX9_act_56 : decode cX9_act 56 = .ok (.ifCond .ne 11, 3) := by decide +kernel
theorem dX9_act_59 : decode cX9_act 59 = .ok (.aload_n 0, 1) := by decide +kernel
theorem dX9_act_60 : decode cX9_act 60 = .ok (.iload_n 3, 1) := by decide +kernel
theorem dX9_act_61 : decode cX9_act 61 = .ok (.invokevirtual 207, 3) := by decide +kernel
theorem dX9_act_64 : decode cX9_act 64 = .ok (.goto 21, 3) := by decide +kernel
theorem dX9_act_67 : decode cX9_act 67 = .ok (.iload_n 2, 1) := by decide +kernel
theorem dX9_act_68 : decode cX9_act 68 = .ok (.iconst 1, 1) := by decide +kernel
theorem dX9_act_69 : decode cX9_act 69 = .ok (.if_icmp .ne 11, 3) := by decide +kernel
theorem dX9_act_72 : decode cX9_act 72 = .ok (.aload_n 0, 1) := by decide +kernel
theorem dX9_act_73 : decode cX9_act 73 = .ok (.iload_n 3, 1) := by decide +kernel
theorem dX9_act_74 : decode cX9_act 74 = .ok (.invokevirtual 216, 3) := by decide +kernel
theorem dX9_act_77 : decode cX9_act 77 = .ok (.goto 8, 3) := by decide +kernel
theorem dX9_act_80 : decode cX9_act 80 = .ok (.aload_n 0, 1) := by decide +kernel
theorem dX9_act_81 : decode cX9_act 81 = .ok (.iload_n 3, 1) := by decide +kernel
theorem dX9_act_82 : decode cX9_act 82 = .ok (.invokevirtual 222, 3) := by decide +kernel
theorem dX9_act_85 : decode cX9_act 85 = .ok (.ireturn, 1) := by decide +kernel
theorem dX9_areAsSeen_0 : decode cX9_areAsSeen 0 = .ok (.iconst 1, 1) := by decide +kernel
theorem dX9_areAsSeen_1 : decode cX9_areAsSeen 1 = .ok (.istore_n 1, 1) := by decide +kernel
theorem dX9_areAsSeen_2 : decode cX9_areAsSeen 2 = .ok (.iconst 0, 1) := by decide +kernel
theorem dX9_areAsSeen_3 : decode cX9_areAsSeen 3 = .ok (.istore_n 2, 1) := by decide +kernel
theorem dX9_areAsSeen_4 : decode cX9_areAsSeen 4 = .ok (.iload_n 2, 1) := by decide +kernel
theorem dX9_areAsSeen_5 : decode cX9_areAsSeen 5 = .ok (.bipush 20, 2) := by decide +kernel
theorem dX9_areAsSeen_7 : decode cX9_areAsSeen 7 = .ok (.if_icmp .gt 23, 3) := by decide +kernel
theorem dX9_areAsSeen_10 : decode cX9_areAsSeen 10 = .ok (.iload_n 1, 1) := by decide +kernel
theorem dX9_areAsSeen_11 : decode cX9_areAsSeen 11 = .ok (.ifCond .eq 19, 3) := by decide +kernel
theorem dX9_areAsSeen_14 : decode cX9_areAsSeen 14 = .ok (.aload_n 0, 1) := by decide +kernel
theorem dX9_areAsSeen_15 : decode cX9_areAsSeen 15 = .ok (.iload_n 2, 1) := by decide +kernel
theorem dX9_areAsSeen_16 : decode cX9_areAsSeen 16 = .ok (.invokevirtual 172, 3) := by decide +kernel
theorem dX9_areAsSeen_19 : decode cX9_areAsSeen 19 = .ok (.istore_n 1, 1) := by decide +kernel
theorem dX9_areAsSeen_20 : decode cX9_areAsSeen 20 = .ok (.aload_n 0, 1) := by decide +kernel
theorem dX9_areAsSeen_21 : decode cX9_areAsSeen 21 = .ok (.invokevirtual 149, 3) := by decide +kernel
theorem dX9_areAsSeen_24 : decode cX9_areAsSeen 24 = .ok (.iinc 2 1, 3) := by decide +kernel
theorem dX9_areAsSeen_27 : decode cX9_areAsSeen 27 = .ok (.goto (-23), 3) := by decide +kernel
theorem dX9_areAsSeen_30 : decode cX9_areAsSeen 30 = .ok (.aload_n 0, 1) := by decide +kernel
theorem dX9_areAsSeen_31 : decode cX9_areAsSeen 31 = .ok (.invokevirtual 158, 3) := by decide +kernel
theorem dX9_areAsSeen_34 : decode cX9_areAsSeen 34 = .ok (.iload_n 1, 1) := by decide +kernel
theorem dX9_areAsSeen_35 : decode cX9_areAsSeen 35 = .ok (.ireturn, 1) := by decide +kernel
theorem dX9_as_0 : decode cX9_as 0 = .ok (.aload_n 0, 1) := by decide +kernel
theorem dX9_as_1 : decode cX9_as 1 = .ok (.iload_n 1, 1) := by decide +kernel
theorem dX9_as_2 : decode cX9_as 2 = .ok (.invokevirtual 136, 3) := by decide +kernel
theorem dX9_as_5 : decode cX9_as 5 = .ok (.ifCond .eq 13, 3) := by decide +kernel
theorem dX9_as_8 : decode cX9_as 8 = .ok (.iload_n 2, 1) := by decide +kernel
theorem dX9_as_9 : decode cX9_as 9 = .ok (.iconst 0, 1) := by decide +kernel
theorem dX9_as_10 : decode cX9_as 10 = .ok (.bipush 6, 2) := by decide +kernel
theorem dX9_as_12 : decode cX9_as 12 = .ok (.invokestatic 35, 3) := by decide +kernel
theorem dX9_as_15 : decode cX9_as 15 = .ok (.ifCond .ne 5, 3) := by decide +kernel
theorem dX9_as_18 : decode cX9_as 18 = .ok (.iconst (-1), 1) := by decide +kernel
theorem dX9_as_19 : decode cX9_as 19 = .ok (.ireturn, 1) := by decide +kernel
theorem dX9_as_20 : decode cX9_as 20 = .ok (.aload_n 0, 1) := by decide +kernel
theorem dX9_as_21 : decode cX9_as 21 = .ok (.getfield 9, 3) := by decide +kernel
theorem dX9_as_24 : decode cX9_as 24 = .ok (.bipush 38, 2) := by decide +kernel
theorem dX9_as_26 : decode cX9_as 26 = .ok (.iload_n 1, 1) := by decide +kernel
theorem dX9_as_27 : decode cX9_as 27 = .ok (.iadd, 1) := by decide +kernel
theorem dX9_as_28 : decode cX9_as 28 = .ok (.iaload, 1) := by decide +kernel
theorem dX9_as_29 : decode cX9_as 29 = .ok (.iload_n 2, 1) := by decide +kernel
theorem dX9_as_30 : decode cX9_as 30 = .ok (.invokestatic 201, 3) := by decide +kernel
theorem dX9_as_33 : decode cX9_as 33 = .ok (.ifCond .eq 15, 3) := by decide +kernel
theorem dX9_as_36 : decode cX9_as 36 = .ok (.aload_n 0, 1) := by decide +kernel
theorem dX9_as_37 : decode cX9_as 37 = .ok (.getfield 9, 3) := by decide +kernel
theorem dX9_as_40 : decode cX9_as 40 = .ok (.bipush 44, 2) := by decide +kernel
theorem dX9_as_42 : decode cX9_as 42 = .ok (.iload_n 1, 1) := by decide +kernel
theorem dX9_as_43 : decode cX9_as 43 = .ok (.iadd, 1) := by decide +kernel
theorem dX9_as_44 : decode cX9_as 44 = .ok (.iaload, 1) := by decide +kernel
theorem dX9_as_45 : decode cX9_as 45 = .ok (.goto 5, 3) := by decide +kernel
theorem dX9_as_48 : decode cX9_as 48 = .ok (.bipush (-6), 2) := by decide +kernel
theorem dX9_as_50 : decode cX9_as 50 = .ok (.ireturn, 1) := by decide +kernel
theorem dX9_away_0 : decode cX9_away 0 = .ok (.aload_n 0, 1) := by decide +kernel
theorem dX9_away_1 : decode cX9_away 1 = .ok (.iload_n 1, 1) := by decide +kernel
theorem dX9_away_2 : decode cX9_away 2 = .ok (.invokevirtual 136, 3) := by decide +kernel
theorem dX9_away_5 : decode cX9_away 5 = .ok (.ifCond .eq 23, 3) := by decide +kernel
theorem dX9_away_8 : decode cX9_away 8 = .ok (.aload_n 0, 1) := by decide +kernel
theorem dX9_away_9 : decode cX9_away 9 = .ok (.bipush 24, 2) := by decide +kernel
theorem dX9_away_11 : decode cX9_away 11 = .ok (.iload_n 1, 1) := by decide +kernel
theorem dX9_away_12 : decode cX9_away 12 = .ok (.iadd, 1) := by decide +kernel
theorem dX9_away_13 : decode cX9_away 13 = .ok (.iload_n 2, 1) := by decide +kernel
theorem dX9_away_14 : decode cX9_away 14 = .ok (.ifCond .eq 7, 3) := by decide +kernel
theorem dX9_away_17 : decode cX9_away 17 = .ok (.iconst 1, 1) := by decide +kernel
theorem dX9_away_18 : decode cX9_away 18 = .ok (.goto 4, 3) := by decide +kernel
theorem dX9_away_21 : decode cX9_away 21 = .ok (.iconst 0, 1) := by decide +kernel
theorem dX9_away_22 : decode cX9_away 22 = .ok (.invokevirtual 140, 3) := by decide +kernel
theorem dX9_away_25 : decode cX9_away 25 = .ok (.goto 4, 3) := by decide +kernel
theorem dX9_away_28 : decode cX9_away 28 = .ok (.iconst (-1), 1) := by decide +kernel
theorem dX9_away_29 : decode cX9_away 29 = .ok (.ireturn, 1) := by decide +kernel
theorem dX9_becomes_0 : decode cX9_becomes 0 = .ok (.aload_n 0, 1) := by decide +kernel
theorem dX9_becomes_1 : decode cX9_becomes 1 = .ok (.getfield 9, 3) := by decide +kernel
theorem dX9_becomes_4 : decode cX9_becomes 4 = .ok (.iload_n 1, 1) := by decide +kernel
theorem dX9_becomes_5 : decode cX9_becomes 5 = .ok (.iaload, 1) := by decide +kernel
theorem dX9_becomes_6 : decode cX9_becomes 6 = .ok (.istore_n 3, 1) := by decide +kernel
theorem dX9_becomes_7 : decode cX9_becomes 7 = .ok (.aload_n 0, 1) := by decide +kernel
theorem dX9_becomes_8 : decode cX9_becomes 8 = .ok (.getfield 9, 3) := by decide +kernel
theorem dX9_becomes_11 : decode cX9_becomes 11 = .ok (.iload_n 1, 1) := by decide +kernel
theorem dX9_becomes_12 : decode cX9_becomes 12 = .ok (.iload_n 2, 1) := by decide +kernel
theorem dX9_becomes_13 : decode cX9_becomes 13 = .ok (.iastore, 1) := by decide +kernel
theorem dX9_becomes_14 : decode cX9_becomes 14 = .ok (.iload_n 3, 1) := by decide +kernel
theorem dX9_becomes_15 : decode cX9_becomes 15 = .ok (.ireturn, 1) := by decide +kernel
theorem dX9_book_0 : decode cX9_book 0 = .ok (.iload_n 1, 1) := by decide +kernel
theorem dX9_book_1 : decode cX9_book 1 = .ok (.iconst (-1), 1) := by decide +kernel
theorem dX9_book_2 : decode cX9_book 2 = .ok (.if_icmp .ne 13, 3) := by decide +kernel
theorem dX9_book_5 : decode cX9_book 5 = .ok (.aload_n 0, 1) := by decide +kernel
theorem dX9_book_6 : decode cX9_book 6 = .ok (.getfield 9, 3) := by decide +kernel
theorem dX9_book_9 : decode cX9_book 9 = .ok (.bipush 35, 2) := by decide +kernel
theorem dX9_book_11 : decode cX9_book 11 = .ok (.iconst 0, 1) := by decide +kernel
theorem dX9_book_12 : decode cX9_book 12 = .ok (.iastore, 1) := by decide +kernel
theorem dX9_book_13 : decode cX9_book 13 = .ok (.iconst 0, 1) := by decide +kernel
theorem dX9_book_14 : decode cX9_book 14 = .ok (.ireturn, 1) := by decide +kernel
theorem dX9_book_15 : decode cX9_book 15 = .ok (.iload_n 1, 1) := by decide +kernel
theorem dX9_book_16 : decode cX9_book 16 = .ok (.invokestatic 132, 3) := by decide +kernel
theorem dX9_book_19 : decode cX9_book 19 = .ok (.ifCond .ne 5, 3) := by decide +kernel
theorem dX9_book_22 : decode cX9_book 22 = .ok (.iconst (-1), 1) := by decide +kernel
theorem dX9_book_23 : decode cX9_book 23 = .ok (.ireturn, 1) := by decide +kernel
theorem dX9_book_24 : decode cX9_book 24 = .ok (.iload_n 2, 1) := by decide +kernel
theorem dX9_book_25 : decode cX9_book 25 = .ok (.iconst 0, 1) := by decide +kernel
theorem dX9_book_26 : decode cX9_book 26 = .ok (.bipush 99, 2) := by decide +kernel
theorem dX9_book_28 : decode cX9_book 28 = .ok (.invokestatic 35, 3) := by decide +kernel
theorem dX9_book_31 : decode cX9_book 31 = .ok (.ifCond .ne 6, 3) := by decide +kernel
theorem dX9_book_34 : decode cX9_book 34 = .ok (.bipush (-2), 2) := by decide +kernel
theorem dX9_book_36 : decode cX9_book 36 = .ok (.ireturn, 1) := by decide +kernel
theorem dX9_book_37 : decode cX9_book 37 = .ok (.aload_n 0, 1) := by decide +kernel
theorem dX9_book_38 : decode cX9_book 38 = .ok (.getfield 9, 3) := by decide +kernel
theorem dX9_book_41 : decode cX9_book 41 = .ok (.bipush 35, 2) := by decide +kernel
theorem dX9_book_43 : decode cX9_book 43 = .ok (.iaload, 1) := by decide +kernel
theorem dX9_book_44 : decode cX9_book 44 = .ok (.bipush 8, 2) := by decide +kernel
theorem dX9_book_46 : decode cX9_book 46 = .ok (.if_icmp .ne 6, 3) := by decide +kernel
theorem dX9_book_49 : decode cX9_book 49 = .ok (.bipush (-4), 2) := by decide +kernel
theorem dX9_book_51 : decode cX9_book 51 = .ok (.ireturn, 1) := by decide +kernel
theorem dX9_book_52 : decode cX9_book 52 = .ok (.aload_n 0, 1) := by decide +kernel
theorem dX9_book_53 : decode cX9_book 53 = .ok (.getfield 9, 3) := by decide +kernel
theorem dX9_book_56 : decode cX9_book 56 = .ok (.bipush 110, 2) := by decide +kernel
theorem dX9_book_58 : decode cX9_book 58 = .ok (.aload_n 0, 1) := by decide +kernel
theorem dX9_book_59 : decode cX9_book 59 = .ok (.getfield 9, 3) := by decide +kernel
theorem dX9_book_62 : decode cX9_book 62 = .ok (.bipush 35, 2) := by decide +kernel
theorem dX9_book_64 : decode cX9_book 64 = .ok (.iaload, 1) := by decide +kernel
theorem dX9_book_65 : decode cX9_book 65 = .ok (.iadd, 1) := by decide +kernel
theorem dX9_book_66 : decode cX9_book 66 = .ok (.iload_n 1, 1) := by decide +kernel
theorem dX9_book_67 : decode cX9_book 67 = .ok (.iastore, 1) := by decide +kernel
theorem dX9_book_68 : decode cX9_book 68 = .ok (.aload_n 0, 1) := by decide +kernel
theorem dX9_book_69 : decode cX9_book 69 = .ok (.getfield 9, 3) := by decide +kernel
theorem dX9_book_72 : decode cX9_book 72 = .ok (.bipush 118, 2) := by decide +kernel
theorem dX9_book_74 : decode cX9_book 74 = .ok (.aload_n 0, 1) := by decide +kernel
theorem dX9_book_75 : decode cX9_book 75 = .ok (.getfield 9, 3) := by decide +kernel
theorem dX9_book_78 : decode cX9_book 78 = .ok (.bipush 35, 2) := by decide +kernel
theorem dX9_book_80 : decode cX9_book 80 = .ok (.iaload, 1) := by decide +kernel
theorem dX9_book_81 : decode cX9_book 81 = .ok (.iadd, 1) := by decide +kernel
theorem dX9_book_82 : decode cX9_book 82 = .ok (.iload_n 2, 1) := by decide +kernel
theorem dX9_book_83 : decode cX9_book 83 = .ok (.iastore, 1) := by decide +kernel
theorem dX9_book_84 : decode cX9_book 84 = .ok (.aload_n 0, 1) := by decide +kernel
theorem dX9_book_85 : decode cX9_book 85 = .ok (.getfield 9, 3) := by decide +kernel
theorem dX9_book_88 : decode cX9_book 88 = .ok (.bipush 35, 2) := by decide +kernel
theorem dX9_book_90 : decode cX9_book 90 = .ok (.dup2, 1) := by decide +kernel
theorem dX9_book_91 : decode cX9_book 91 = .ok (.iaload, 1) := by decide +kernel
theorem dX9_book_92 : decode cX9_book 92 = .ok (.iconst 1, 1) := by decide +kernel
theorem dX9_book_93 : decode cX9_book 93 = .ok (.iadd, 1) := by decide +kernel
theorem dX9_book_94 : decode cX9_book 94 = .ok (.iastore, 1) := by decide +kernel
theorem dX9_book_95 : decode cX9_book 95 = .ok (.aload_n 0, 1) := by decide +kernel
theorem dX9_book_96 : decode cX9_book 96 = .ok (.getfield 9, 3) := by decide +kernel
theorem dX9_book_99 : decode cX9_book 99 = .ok (.bipush 35, 2) := by decide +kernel
theorem dX9_book_101 : decode cX9_book 101 = .ok (.iaload, 1) := by decide +kernel
theorem dX9_book_102 : decode cX9_book 102 = .ok (.ireturn, 1) := by decide +kernel
theorem dX9_call_0 : decode cX9_call 0 = .ok (.iload_n 1, 1) := by decide +kernel
theorem dX9_call_1 : decode cX9_call 1 = .ok (.invokestatic 132, 3) := by decide +kernel
theorem dX9_call_4 : decode cX9_call 4 = .ok (.ifCond .ne 5, 3) := by decide +kernel
theorem dX9_call_7 : decode cX9_call 7 = .ok (.iconst (-1), 1) := by decide +kernel
theorem dX9_call_8 : decode cX9_call 8 = .ok (.ireturn, 1) := by decide +kernel
theorem dX9_call_9 : decode cX9_call 9 = .ok (.aload_n 0, 1) := by decide +kernel
theorem dX9_call_10 : decode cX9_call 10 = .ok (.invokevirtual 152, 3) := by decide +kernel
theorem dX9_call_13 : decode cX9_call 13 = .ok (.aload_n 0, 1) := by decide +kernel
theorem dX9_call_14 : decode cX9_call 14 = .ok (.iload_n 1, 1) := by decide +kernel
theorem dX9_call_15 : decode cX9_call 15 = .ok (.bipush 30, 2) := by decide +kernel
theorem dX9_call_17 : decode cX9_call 17 = .ok (.invokevirtual 162, 3) := by decide +kernel
theorem dX9_call_20 : decode cX9_call 20 = .ok (.istore_n 2, 1) := by decide +kernel
theorem dX9_call_21 : decode cX9_call 21 = .ok (.bipush (-5), 2) := by decide +kernel
theorem dX9_call_23 : decode cX9_call 23 = .ok (.istore_n 3, 1) := by decide +kernel
theorem dX9_call_24 : decode cX9_call 24 = .ok (.iconst 0, 1) := by decide +kernel
theorem dX9_call_25 : decode cX9_call 25 = .ok (.istore 4, 2) := by decide +kernel
theorem dX9_call_27 : decode cX9_call 27 = .ok (.iload 4, 2) := by decide +kernel
theorem dX9_call_29 : decode cX9_call 29 = .ok (.aload_n 0, 1) := by decide +kernel
theorem dX9_call_30 : decode cX9_call 30 = .ok (.getfield 9, 3) := by decide +kernel
theorem dX9_call_33 : decode cX9_call 33 = .ok (.bipush 30, 2) := by decide +kernel
theorem dX9_call_35 : decode cX9_call 35 = .ok (.iaload, 1) := by decide +kernel
theorem dX9_call_36 : decode cX9_call 36 = .ok (.if_icmp .ge 99, 3) := by decide +kernel
theorem dX9_call_39 : decode cX9_call 39 = .ok (.iconst 0, 1) := by decide +kernel
theorem dX9_call_40 : decode cX9_call 40 = .ok (.istore 5, 2) := by decide +kernel
theorem dX9_call_42 : decode cX9_call 42 = .ok (.iload 5, 2) := by decide +kernel
theorem dX9_call_44 : decode cX9_call 44 = .ok (.bipush 16, 2) := by decide +kernel
theorem dX9_call_46 : decode cX9_call 46 = .ok (.if_icmp .ge 83, 3) := by decide +kernel
theorem dX9_call_49 : decode cX9_call 49 = .ok (.aload_n 0, 1) := by decide +kernel
theorem dX9_call_50 : decode cX9_call 50 = .ok (.invokevirtual 152, 3) := by decide +kernel
theorem dX9_call_53 : decode cX9_call 53 = .ok (.ldc 161, 2) := by decide +kernel
theorem dX9_call_55 : decode cX9_call 55 = .ok (.istore 6, 2) := by decide +kernel
theorem dX9_call_57 : decode cX9_call 57 = .ok (.aload_n 0, 1) := by decide +kernel
theorem dX9_call_58 : decode cX9_call 58 = .ok (.getfield 9, 3) := by decide +kernel
theorem dX9_call_61 : decode cX9_call 61 = .ok (.bipush 24, 2) := by decide +kernel
theorem dX9_call_63 : decode cX9_call 63 = .ok (.iload 4, 2) := by decide +kernel
theorem dX9_call_65 : decode cX9_call 65 = .ok (.iadd, 1) := by decide +kernel
theorem dX9_call_66 : decode cX9_call 66 = .ok (.iaload, 1) := by decide +kernel
theorem dX9_call_67 : decode cX9_call 67 = .ok (.ifCond .ne 24, 3) := by decide +kernel
theorem dX9_call_70 : decode cX9_call 70 = .ok (.aload_n 0, 1) := by decide +kernel
theorem dX9_call_71 : decode cX9_call 71 = .ok (.getfield 9, 3) := by decide +kernel
theorem dX9_call_74 : decode cX9_call 74 = .ok (.bipush 18, 2) := by decide +kernel
theorem dX9_call_76 : decode cX9_call 76 = .ok (.iload 4, 2) := by decide +kernel
theorem dX9_call_78 : decode cX9_call 78 = .ok (.iadd, 1) := by decide +kernel
theorem dX9_call_79 : decode cX9_call 79 = .ok (.iload 5, 2) := by decide +kernel
theorem dX9_call_81 : decode cX9_call 81 = .ok (.iastore, 1) := by decide +kernel
theorem dX9_call_82 : decode cX9_call 82 = .ok (.aload_n 0, 1) := by decide +kernel
theorem dX9_call_83 : decode cX9_call 83 = .ok (.iload_n 1, 1) := by decide +kernel
theorem dX9_call_84 : decode cX9_call 84 = .ok (.bipush 30, 2) := by decide +kernel
theorem dX9_call_86 : decode cX9_call 86 = .ok (.invokevirtual 162, 3) := by decide +kernel
theorem dX9_call_89 : decode cX9_call 89 = .ok (.istore 6, 2) := by decide +kernel
theorem dX9_call_91 : decode cX9_call 91 = .ok (.iload 6, 2) := by decide +kernel
theorem dX9_call_93 : decode cX9_call 93 = .ok (.iload_n 2, 1) := by decide +kernel
theorem dX9_call_94 : decode cX9_call 94 = .ok (.if_icmp .ge 14, 3) := by decide +kernel
theorem dX9_call_97 : decode cX9_call 97 = .ok (.bipush 100, 2) := by decide +kernel
theorem dX9_call_99 : decode cX9_call 99 = .ok (.iload 4, 2) := by decide +kernel
theorem dX9_call_101 : decode cX9_call 101 = .ok (.imul, 1) := by decide +kernel
theorem dX9_call_102 : decode cX9_call 102 = .ok (.iload 5, 2) := by decide +kernel
theorem dX9_call_104 : decode cX9_call 104 = .ok (.iadd, 1) := by decide +kernel
theorem dX9_call_105 : decode cX9_call 105 = .ok (.goto 4, 3) := by decide +kernel
theorem dX9_call_108 : decode cX9_call 108 = .ok (.iload_n 3, 1) := by decide +kernel
theorem dX9_call_109 : decode cX9_call 109 = .ok (.istore_n 3, 1) := by decide +kernel
theorem dX9_call_110 : decode cX9_call 110 = .ok (.iload 6, 2) := by decide +kernel
theorem dX9_call_112 : decode cX9_call 112 = .ok (.iload_n 2, 1) := by decide +kernel
theorem dX9_call_113 : decode cX9_call 113 = .ok (.if_icmp .ge 8, 3) := by decide +kernel
theorem dX9_call_116 : decode cX9_call 116 = .ok (.iload 6, 2) := by decide +kernel
theorem dX9_call_118 : decode cX9_call 118 = .ok (.goto 4, 3) := by decide +kernel
theorem dX9_call_121 : decode cX9_call 121 = .ok (.iload_n 2, 1) := by decide +kernel
theorem dX9_call_122 : decode cX9_call 122 = .ok (.istore_n 2, 1) := by decide +kernel
theorem dX9_call_123 : decode cX9_call 123 = .ok (.iinc 5 1, 3) := by decide +kernel
theorem dX9_call_126 : decode cX9_call 126 = .ok (.goto (-84), 3) := by decide +kernel
theorem dX9_call_129 : decode cX9_call 129 = .ok (.iinc 4 1, 3) := by decide +kernel
theorem dX9_call_132 : decode cX9_call 132 = .ok (.goto (-105), 3) := by decide +kernel
theorem dX9_call_135 : decode cX9_call 135 = .ok (.iload_n 3, 1) := by decide +kernel
theorem dX9_call_136 : decode cX9_call 136 = .ok (.ireturn, 1) := by decide +kernel
theorem dX9_count_0 : decode cX9_count 0 = .ok (.iload_n 1, 1) := by decide +kernel
theorem dX9_count_1 : decode cX9_count 1 = .ok (.bipush 7, 2) := by decide +kernel
theorem dX9_count_3 : decode cX9_count 3 = .ok (.if_icmp .ne 10, 3) := by decide +kernel
theorem dX9_count_6 : decode cX9_count 6 = .ok (.aload_n 0, 1) := by decide +kernel
theorem dX9_count_7 : decode cX9_count 7 = .ok (.getfield 189, 3) := by decide +kernel
theorem dX9_count_10 : decode cX9_count 10 = .ok (.goto 26, 3) := by decide +kernel
theorem dX9_count_13 : decode cX9_count 13 = .ok (.iload_n 1, 1) := by decide +kernel
theorem dX9_count_14 : decode cX9_count 14 = .ok (.iconst 0, 1) := by decide +kernel
theorem dX9_count_15 : decode cX9_count 15 = .ok (.bipush 6, 2) := by decide +kernel
theorem dX9_count_17 : decode cX9_count 17 = .ok (.invokestatic 35, 3) := by decide +kernel
theorem dX9_count_20 : decode cX9_count 20 = .ok (.ifCond .eq 15, 3) := by decide +kernel
theorem dX9_count_23 : decode cX9_count 23 = .ok (.aload_n 0, 1) := by decide +kernel
theorem dX9_count_24 : decode cX9_count 24 = .ok (.getfield 9, 3) := by decide +kernel
theorem dX9_count_27 : decode cX9_count 27 = .ok (.bipush 30, 2) := by decide +kernel
theorem dX9_count_29 : decode cX9_count 29 = .ok (.iload_n 1, 1) := by decide +kernel
theorem dX9_count_30 : decode cX9_count 30 = .ok (.iadd, 1) := by decide +kernel
theorem dX9_count_31 : decode cX9_count 31 = .ok (.iaload, 1) := by decide +kernel
theorem dX9_count_32 : decode cX9_count 32 = .ok (.goto 4, 3) := by decide +kernel
theorem dX9_count_35 : decode cX9_count 35 = .ok (.iconst (-1), 1) := by decide +kernel
theorem dX9_count_36 : decode cX9_count 36 = .ok (.ireturn, 1) := by decide +kernel
theorem dX9_countOf_0 : decode cX9_countOf 0 = .ok (.iconst 0, 1) := by decide +kernel
theorem dX9_countOf_1 : decode cX9_countOf 1 = .ok (.istore_n 1, 1) := by decide +kernel
theorem dX9_countOf_2 : decode cX9_countOf 2 = .ok (.iconst 0, 1) := by decide +kernel
theorem dX9_countOf_3 : decode cX9_countOf 3 = .ok (.istore_n 2, 1) := by decide +kernel
theorem dX9_countOf_4 : decode cX9_countOf 4 = .ok (.iload_n 2, 1) := by decide +kernel
theorem dX9_countOf_5 : decode cX9_countOf 5 = .ok (.bipush 6, 2) := by decide +kernel
theorem dX9_countOf_7 : decode cX9_countOf 7 = .ok (.if_icmp .ge 17, 3) := by decide +kernel
theorem dX9_countOf_10 : decode cX9_countOf 10 = .ok (.iload_n 1, 1) := by decide +kernel
theorem dX9_countOf_11 : decode cX9_countOf 11 = .ok (.iload_n 0, 1) := by decide +kernel
theorem dX9_countOf_12 : decode cX9_countOf 12 = .ok (.iload_n 2, 1) := by decide +kernel
theorem dX9_countOf_13 : decode cX9_countOf 13 = .ok (.ishr, 1) := by decide +kernel
theorem dX9_countOf_14 : decode cX9_countOf 14 = .ok (.iconst 1, 1) := by decide +kernel
theorem dX9_countOf_15 : decode cX9_countOf 15 = .ok (.iand, 1) := by decide +kernel
theorem dX9_countOf_16 : decode cX9_countOf 16 = .ok (.iadd, 1) := by decide +kernel
theorem dX9_countOf_17 : decode cX9_countOf 17 = .ok (.istore_n 1, 1) := by decide +kernel
theorem dX9_countOf_18 : decode cX9_countOf 18 = .ok (.iinc 2 1, 3) := by decide +kernel
theorem dX9_countOf_21 : decode cX9_countOf 21 = .ok (.goto (-17), 3) := by decide +kernel
theorem dX9_countOf_24 : decode cX9_countOf 24 = .ok (.iload_n 1, 1) := by decide +kernel
theorem dX9_countOf_25 : decode cX9_countOf 25 = .ok (.ireturn, 1) := by decide +kernel
theorem dX9_done_0 : decode cX9_done 0 = .ok (.iload_n 1, 1) := by decide +kernel
theorem dX9_done_1 : decode cX9_done 1 = .ok (.iconst 0, 1) := by decide +kernel
theorem dX9_done_2 : decode cX9_done 2 = .ok (.iconst 1, 1) := by decide +kernel
theorem dX9_done_3 : decode cX9_done 3 = .ok (.invokestatic 35, 3) := by decide +kernel
theorem dX9_done_6 : decode cX9_done 6 = .ok (.ifCond .ne 5, 3) := by decide +kernel
theorem dX9_done_9 : decode cX9_done 9 = .ok (.iconst (-1), 1) := by decide +kernel
theorem dX9_done_10 : decode cX9_done 10 = .ok (.ireturn, 1) := by decide +kernel
theorem dX9_done_11 : decode cX9_done 11 = .ok (.aload_n 0, 1) := by decide +kernel
theorem dX9_done_12 : decode cX9_done 12 = .ok (.invokevirtual 152, 3) := by decide +kernel
theorem dX9_done_15 : decode cX9_done 15 = .ok (.iconst 0, 1) := by decide +kernel
theorem dX9_done_16 : decode cX9_done 16 = .ok (.istore_n 2, 1) := by decide +kernel
theorem dX9_done_17 : decode cX9_done 17 = .ok (.iload_n 2, 1) := by decide +kernel
theorem dX9_done_18 : decode cX9_done 18 = .ok (.aload_n 0, 1) := by decide +kernel
theorem dX9_done_19 : decode cX9_done 19 = .ok (.getfield 9, 3) := by decide +kernel
theorem dX9_done_22 : decode cX9_done 22 = .ok (.bipush 34, 2) := by decide +kernel
theorem dX9_done_24 : decode cX9_done 24 = .ok (.iaload, 1) := by decide +kernel
theorem dX9_done_25 : decode cX9_done 25 = .ok (.if_icmp .ge 31, 3) := by decide +kernel
theorem dX9_done_28 : decode cX9_done 28 = .ok (.aload_n 0, 1) := by decide +kernel
theorem dX9_done_29 : decode cX9_done 29 = .ok (.aload_n 0, 1) := by decide +kernel
theorem dX9_done_30 : decode cX9_done 30 = .ok (.getfield 9, 3) := by decide +kernel
theorem dX9_done_33 : decode cX9_done 33 = .ok (.bipush 94, 2) := by decide +kernel
theorem dX9_done_35 : decode cX9_done 35 = .ok (.iload_n 2, 1) := by decide +kernel
theorem dX9_done_36 : decode cX9_done 36 = .ok (.iadd, 1) := by decide +kernel
theorem dX9_done_37 : decode cX9_done 37 = .ok (.iaload, 1) := by decide +kernel
theorem dX9_done_38 : decode cX9_done 38 = .ok (.aload_n 0, 1) := by decide +kernel
theorem dX9_done_39 : decode cX9_done 39 = .ok (.getfield 9, 3) := by decide +kernel
theorem dX9_done_42 : decode cX9_done 42 = .ok (.bipush 102, 2) := by decide +kernel
theorem dX9_done_44 : decode cX9_done 44 = .ok (.iload_n 2, 1) := by decide +kernel
theorem dX9_done_45 : decode cX9_done 45 = .ok (.iadd, 1) := by decide +kernel
theorem dX9_done_46 : decode cX9_done 46 = .ok (.iaload, 1) := by decide +kernel
theorem dX9_done_47 : decode cX9_done 47 = .ok (.invokevirtual 185, 3) := by decide +kernel
theorem dX9_done_50 : decode cX9_done 50 = .ok (.iinc 2 1, 3) := by decide +kernel
theorem dX9_done_53 : decode cX9_done 53 = .ok (.goto (-36), 3) := by decide +kernel
theorem dX9_done_56 : decode cX9_done 56 = .ok (.iload_n 1, 1) := by decide +kernel
theorem dX9_done_57 : decode cX9_done 57 = .ok (.ifCond .ne 12, 3) := by decide +kernel
theorem dX9_done_60 : decode cX9_done 60 = .ok (.aload_n 0, 1) := by decide +kernel
theorem dX9_done_61 : decode cX9_done 61 = .ok (.getfield 9, 3) := by decide +kernel
theorem dX9_done_64 : decode cX9_done 64 = .ok (.iconst 1, 1) := by decide +kernel
theorem dX9_done_65 : decode cX9_done 65 = .ok (.iaload, 1) := by decide +kernel
theorem dX9_done_66 : decode cX9_done 66 = .ok (.goto 7, 3) := by decide +kernel
theorem dX9_done_69 : decode cX9_done 69 = .ok (.aload_n 0, 1) := by decide +kernel
theorem dX9_done_70 : decode cX9_done 70 = .ok (.invokevirtual 143, 3) := by decide +kernel
theorem dX9_done_73 : decode cX9_done 73 = .ok (.istore_n 2, 1) := by decide +kernel
theorem dX9_done_74 : decode cX9_done 74 = .ok (.aload_n 0, 1) := by decide +kernel
theorem dX9_done_75 : decode cX9_done 75 = .ok (.invokevirtual 158, 3) := by decide +kernel
theorem dX9_done_78 : decode cX9_done 78 = .ok (.iload_n 2, 1) := by decide +kernel
theorem dX9_done_79 : decode cX9_done 79 = .ok (.ireturn, 1) := by decide +kernel
theorem dX9_doors_0 : decode cX9_doors 0 = .ok (.aload_n 0, 1) := by decide +kernel
theorem dX9_doors_1 : decode cX9_doors 1 = .ok (.iload_n 1, 1) := by decide +kernel
theorem dX9_doors_2 : decode cX9_doors 2 = .ok (.invokevirtual 136, 3) := by decide +kernel
theorem dX9_doors_5 : decode cX9_doors 5 = .ok (.ifCond .ne 5, 3) := by decide +kernel
theorem dX9_doors_8 : decode cX9_doors 8 = .ok (.iconst (-1), 1) := by decide +kernel
theorem dX9_doors_9 : decode cX9_doors 9 = .ok (.ireturn, 1) := by decide +kernel
theorem dX9_doors_10 : decode cX9_doors 10 = .ok (.iconst 0, 1) := by decide +kernel
theorem dX9_doors_11 : decode cX9_doors 11 = .ok (.istore_n 2, 1) := by decide +kernel
theorem dX9_doors_12 : decode cX9_doors 12 = .ok (.iconst 0, 1) := by decide +kernel
theorem dX9_doors_13 : decode cX9_doors 13 = .ok (.istore_n 3, 1) := by decide +kernel
theorem dX9_doors_14 : decode cX9_doors 14 = .ok (.iload_n 3, 1) := by decide +kernel
theorem dX9_doors_15 : decode cX9_doors 15 = .ok (.bipush 16, 2) := by decide +kernel
theorem dX9_doors_17 : decode cX9_doors 17 = .ok (.if_icmp .ge 40, 3) := by decide +kernel
theorem dX9_doors_20 : decode cX9_doors 20 = .ok (.aload_n 0, 1) := by decide +kernel
theorem dX9_doors_21 : decode cX9_doors 21 = .ok (.invokevirtual 152, 3) := by decide +kernel
theorem dX9_doors_24 : decode cX9_doors 24 = .ok (.aload_n 0, 1) := by decide +kernel
theorem dX9_doors_25 : decode cX9_doors 25 = .ok (.getfield 9, 3) := by decide +kernel
theorem dX9_doors_28 : decode cX9_doors 28 = .ok (.bipush 18, 2) := by decide +kernel
theorem dX9_doors_30 : decode cX9_doors 30 = .ok (.iload_n 1, 1) := by decide +kernel
theorem dX9_doors_31 : decode cX9_doors 31 = .ok (.iadd, 1) := by decide +kernel
theorem dX9_doors_32 : decode cX9_doors 32 = .ok (.iload_n 3, 1) := by decide +kernel
theorem dX9_doors_33 : decode cX9_doors 33 = .ok (.iastore, 1) := by decide +kernel
theorem dX9_doors_34 : decode cX9_doors 34 = .ok (.iload_n 2, 1) := by decide +kernel
theorem dX9_doors_35 : decode cX9_doors 35 = .ok (.aload_n 0, 1) := by decide +kernel
theorem dX9_doors_36 : decode cX9_doors 36 = .ok (.invokevirtual 175, 3) := by decide +kernel
theorem dX9_doors_39 : decode cX9_doors 39 = .ok (.ifCond .eq 9, 3) := by decide +kernel
theorem dX9_doors_42 : decode cX9_doors 42 = .ok (.iconst 1, 1) := by decide +kernel
theorem dX9_doors_43 : decode cX9_doors 43 = .ok (.iload_n 3, 1) := by decide +kernel
theorem dX9_doors_44 : decode cX9_doors 44 = .ok (.ishl, 1) := by decide +kernel
theorem dX9_doors_45 : decode cX9_doors 45 = .ok (.goto 4, 3) := by decide +kernel
theorem dX9_doors_48 : decode cX9_doors 48 = .ok (.iconst 0, 1) := by decide +kernel
theorem dX9_doors_49 : decode cX9_doors 49 = .ok (.ior, 1) := by decide +kernel
theorem dX9_doors_50 : decode cX9_doors 50 = .ok (.istore_n 2, 1) := by decide +kernel
theorem dX9_doors_51 : decode cX9_doors 51 = .ok (.iinc 3 1, 3) := by decide +kernel
theorem dX9_doors_54 : decode cX9_doors 54 = .ok (.goto (-40), 3) := by decide +kernel
theorem dX9_doors_57 : decode cX9_doors 57 = .ok (.iload_n 2, 1) := by decide +kernel
theorem dX9_doors_58 : decode cX9_doors 58 = .ok (.ireturn, 1) := by decide +kernel
theorem dX9_drawOf_0 : decode cX9_drawOf 0 = .ok (.iconst 0, 1) := by decide +kernel
theorem dX9_drawOf_1 : decode cX9_drawOf 1 = .ok (.istore_n 2, 1) := by decide +kernel
theorem dX9_drawOf_2 : decode cX9_drawOf 2 = .ok (.iconst 0, 1) := by decide +kernel
theorem dX9_drawOf_3 : decode cX9_drawOf 3 = .ok (.istore_n 3, 1) := by decide +kernel
theorem dX9_drawOf_4 : decode cX9_drawOf 4 = .ok (.iload_n 3, 1) := by decide +kernel
theorem dX9_drawOf_5 : decode cX9_drawOf 5 = .ok (.aload_n 0, 1) := by decide +kernel
theorem dX9_drawOf_6 : decode cX9_drawOf 6 = .ok (.getfield 9, 3) := by decide +kernel
theorem dX9_drawOf_9 : decode cX9_drawOf 9 = .ok (.bipush 30, 2) := by decide +kernel
theorem dX9_drawOf_11 : decode cX9_drawOf 11 = .ok (.iaload, 1) := by decide +kernel
theorem dX9_drawOf_12 : decode cX9_drawOf 12 = .ok (.if_icmp .ge 18, 3) := by decide +kernel
theorem dX9_drawOf_15 : decode cX9_drawOf 15 = .ok (.iload_n 2, 1) := by decide +kernel
theorem dX9_drawOf_16 : decode cX9_drawOf 16 = .ok (.aload_n 0, 1) := by decide +kernel
theorem dX9_drawOf_17 : decode cX9_drawOf 17 = .ok (.iload_n 3, 1) := by decide +kernel
theorem dX9_drawOf_18 : decode cX9_drawOf 18 = .ok (.iload_n 1, 1) := by decide +kernel
theorem dX9_drawOf_19 : decode cX9_drawOf 19 = .ok (.invokevirtual 129, 3) := by decide +kernel
theorem dX9_drawOf_22 : decode cX9_drawOf 22 = .ok (.iadd, 1) := by decide +kernel
theorem dX9_drawOf_23 : decode cX9_drawOf 23 = .ok (.istore_n 2, 1) := by decide +kernel
theorem dX9_drawOf_24 : decode cX9_drawOf 24 = .ok (.iinc 3 1, 3) := by decide +kernel
theorem dX9_drawOf_27 : decode cX9_drawOf 27 = .ok (.goto (-23), 3) := by decide +kernel
theorem dX9_drawOf_30 : decode cX9_drawOf 30 = .ok (.iload_n 2, 1) := by decide +kernel
theorem dX9_drawOf_31 : decode cX9_drawOf 31 = .ok (.aload_n 0, 1) := by decide +kernel
theorem dX9_drawOf_32 : decode cX9_drawOf 32 = .ok (.sipush 226, 3) := by decide +kernel
theorem dX9_drawOf_35 : decode cX9_drawOf 35 = .ok (.iconst 2, 1) := by decide +kernel
theorem dX9_drawOf_36 : decode cX9_drawOf 36 = .ok (.invokevirtual 123, 3) := by decide +kernel
theorem dX9_drawOf_39 : decode cX9_drawOf 39 = .ok (.aload_n 0, 1) := by decide +kernel
theorem dX9_drawOf_40 : decode cX9_drawOf 40 = .ok (.getfield 9, 3) := by decide +kernel
theorem dX9_drawOf_43 : decode cX9_drawOf 43 = .ok (.iconst 2, 1) := by decide +kernel
theorem dX9_drawOf_44 : decode cX9_drawOf 44 = .ok (.iload_n 1, 1) := by decide +kernel
theorem dX9_drawOf_45 : decode cX9_drawOf 45 = .ok (.iadd, 1) := by decide +kernel
theorem dX9_drawOf_46 : decode cX9_drawOf 46 = .ok (.iaload, 1) := by decide +kernel
theorem dX9_drawOf_47 : decode cX9_drawOf 47 = .ok (.imul, 1) := by decide +kernel
theorem dX9_drawOf_48 : decode cX9_drawOf 48 = .ok (.isub, 1) := by decide +kernel
theorem dX9_drawOf_49 : decode cX9_drawOf 49 = .ok (.ireturn, 1) := by decide +kernel
theorem dX9_finds_0 : decode cX9_finds 0 = .ok (.aload_n 0, 1) := by decide +kernel
theorem dX9_finds_1 : decode cX9_finds 1 = .ok (.iload_n 1, 1) := by decide +kernel
theorem dX9_finds_2 : decode cX9_finds 2 = .ok (.invokevirtual 136, 3) := by decide +kernel
theorem dX9_finds_5 : decode cX9_finds 5 = .ok (.ifCond .ne 5, 3) := by decide +kernel
theorem dX9_finds_8 : decode cX9_finds 8 = .ok (.iconst (-1), 1) := by decide +kernel
theorem dX9_finds_9 : decode cX9_finds 9 = .ok (.ireturn, 1) := by decide +kernel
theorem dX9_finds_10 : decode cX9_finds 10 = .ok (.aload_n 0, 1) := by decide +kernel
theorem dX9_finds_11 : decode cX9_finds 11 = .ok (.invokevirtual 152, 3) := by decide +kernel
theorem dX9_finds_14 : decode cX9_finds 14 = .ok (.aload_n 0, 1) := by decide +kernel
theorem dX9_finds_15 : decode cX9_finds 15 = .ok (.aload_n 0, 1) := by decide +kernel
theorem dX9_finds_16 : decode cX9_finds 16 = .ok (.getfield 9, 3) := by decide +kernel
theorem dX9_finds_19 : decode cX9_finds 19 = .ok (.bipush 18, 2) := by decide +kernel
theorem dX9_finds_21 : decode cX9_finds 21 = .ok (.iload_n 1, 1) := by decide +kernel
theorem dX9_finds_22 : decode cX9_finds 22 = .ok (.iadd, 1) := by decide +kernel
theorem dX9_finds_23 : decode cX9_finds 23 = .ok (.iaload, 1) := by decide +kernel
theorem dX9_finds_24 : decode cX9_finds 24 = .ok (.bipush 60, 2) := by decide +kernel
theorem dX9_finds_26 : decode cX9_finds 26 = .ok (.invokevirtual 162, 3) := by decide +kernel
theorem dX9_finds_29 : decode cX9_finds 29 = .ok (.istore_n 2, 1) := by decide +kernel
theorem dX9_finds_30 : decode cX9_finds 30 = .ok (.iload_n 2, 1) := by decide +kernel
theorem dX9_finds_31 : decode cX9_finds 31 = .ok (.ldc 161, 2) := by decide +kernel
theorem dX9_finds_33 : decode cX9_finds 33 = .ok (.if_icmp .ne 8, 3) := by decide +kernel
theorem dX9_finds_36 : decode cX9_finds 36 = .ok (.bipush (-5), 2) := by decide +kernel
theorem dX9_finds_38 : decode cX9_finds 38 = .ok (.goto 4, 3) := by decide +kernel
theorem dX9_finds_41 : decode cX9_finds 41 = .ok (.iload_n 2, 1) := by decide +kernel
theorem dX9_finds_42 : decode cX9_finds 42 = .ok (.ireturn, 1) := by decide +kernel
theorem dX9_firm_0 : decode cX9_firm 0 = .ok (.aload_n 0, 1) := by decide +kernel
theorem dX9_firm_1 : decode cX9_firm 1 = .ok (.iload_n 1, 1) := by decide +kernel
theorem dX9_firm_2 : decode cX9_firm 2 = .ok (.invokevirtual 136, 3) := by decide +kernel
theorem dX9_firm_5 : decode cX9_firm 5 = .ok (.ifCond .eq 12, 3) := by decide +kernel
theorem dX9_firm_8 : decode cX9_firm 8 = .ok (.iload_n 2, 1) := by decide +kernel
theorem dX9_firm_9 : decode cX9_firm 9 = .ok (.iconst 0, 1) := by decide +kernel
theorem dX9_firm_10 : decode cX9_firm 10 = .ok (.iconst 1, 1) := by decide +kernel
theorem dX9_firm_11 : decode cX9_firm 11 = .ok (.invokestatic 35, 3) := by decide +kernel
theorem dX9_firm_14 : decode cX9_firm 14 = .ok (.ifCond .ne 5, 3) := by decide +kernel
theorem dX9_firm_17 : decode cX9_firm 17 = .ok (.iconst (-1), 1) := by decide +kernel
theorem dX9_firm_18 : decode cX9_firm 18 = .ok (.ireturn, 1) := by decide +kernel
theorem dX9_firm_19 : decode cX9_firm 19 = .ok (.aload_n 0, 1) := by decide +kernel
theorem dX9_firm_20 : decode cX9_firm 20 = .ok (.getfield 9, 3) := by decide +kernel
theorem dX9_firm_23 : decode cX9_firm 23 = .ok (.bipush 44, 2) := by decide +kernel
theorem dX9_firm_25 : decode cX9_firm 25 = .ok (.iload_n 1, 1) := by decide +kernel
theorem dX9_firm_26 : decode cX9_firm 26 = .ok (.iadd, 1) := by decide +kernel
theorem dX9_firm_27 : decode cX9_firm 27 = .ok (.iaload, 1) := by decide +kernel
theorem dX9_firm_28 : decode cX9_firm 28 = .ok (.istore_n 3, 1) := by decide +kernel
theorem dX9_firm_29 : decode cX9_firm 29 = .ok (.iconst 0, 1) := by decide +kernel
theorem dX9_firm_30 : decode cX9_firm 30 = .ok (.istore 4, 2) := by decide +kernel
theorem dX9_firm_32 : decode cX9_firm 32 = .ok (.bipush (-5), 2) := by decide +kernel
theorem dX9_firm_34 : decode cX9_firm 34 = .ok (.istore 5, 2) := by decide +kernel
theorem dX9_firm_36 : decode cX9_firm 36 = .ok (.bipush 9, 2) := by decide +kernel
theorem dX9_firm_38 : decode cX9_firm 38 = .ok (.istore 6, 2) := by decide +kernel
theorem dX9_firm_40 : decode cX9_firm 40 = .ok (.iload 6, 2) := by decide +kernel
theorem dX9_firm_42 : decode cX9_firm 42 = .ok (.ifCond .lt 59, 3) := by decide +kernel
theorem dX9_firm_45 : decode cX9_firm 45 = .ok (.aload_n 0, 1) := by decide +kernel
theorem dX9_firm_46 : decode cX9_firm 46 = .ok (.invokevirtual 152, 3) := by decide +kernel
theorem dX9_firm_49 : decode cX9_firm 49 = .ok (.aload_n 0, 1) := by decide +kernel
theorem dX9_firm_50 : decode cX9_firm 50 = .ok (.getfield 9, 3) := by decide +kernel
theorem dX9_firm_53 : decode cX9_firm 53 = .ok (.bipush 44, 2) := by decide +kernel
theorem dX9_firm_55 : decode cX9_firm 55 = .ok (.iload_n 1, 1) := by decide +kernel
theorem dX9_firm_56 : decode cX9_firm 56 = .ok (.iadd, 1) := by decide +kernel
theorem dX9_firm_57 : decode cX9_firm 57 = .ok (.iload 6, 2) := by decide +kernel
theorem dX9_firm_59 : decode cX9_firm 59 = .ok (.iastore, 1) := by decide +kernel
theorem dX9_firm_60 : decode cX9_firm 60 = .ok (.aload_n 0, 1) := by decide +kernel
theorem dX9_firm_61 : decode cX9_firm 61 = .ok (.invokevirtual 175, 3) := by decide +kernel
theorem dX9_firm_64 : decode cX9_firm 64 = .ok (.istore 7, 2) := by decide +kernel
theorem dX9_firm_66 : decode cX9_firm 66 = .ok (.iload 4, 2) := by decide +kernel
theorem dX9_firm_68 : decode cX9_firm 68 = .ok (.iload 7, 2) := by decide +kernel
theorem dX9_firm_70 : decode cX9_firm 70 = .ok (.ifCond .eq 7, 3) := by decide +kernel
theorem dX9_firm_73 : decode cX9_firm 73 = .ok (.iconst 1, 1) := by decide +kernel
theorem dX9_firm_74 : decode cX9_firm 74 = .ok (.goto 4, 3) := by decide +kernel
theorem dX9_firm_77 : decode cX9_firm 77 = .ok (.iconst 0, 1) := by decide +kernel
theorem dX9_firm_78 : decode cX9_firm 78 = .ok (.iadd, 1) := by decide +kernel
theorem dX9_firm_79 : decode cX9_firm 79 = .ok (.istore 4, 2) := by decide +kernel
theorem dX9_firm_81 : decode cX9_firm 81 = .ok (.iload 7, 2) := by decide +kernel
theorem dX9_firm_83 : decode cX9_firm 83 = .ok (.ifCond .eq 8, 3) := by decide +kernel
theorem dX9_firm_86 : decode cX9_firm 86 = .ok (.iload 6, 2) := by decide +kernel
theorem dX9_firm_88 : decode cX9_firm 88 = .ok (.goto 5, 3) := by decide +kernel
theorem dX9_firm_91 : decode cX9_firm 91 = .ok (.iload 5, 2) := by decide +kernel
theorem dX9_firm_93 : decode cX9_firm 93 = .ok (.istore 5, 2) := by decide +kernel
theorem dX9_firm_95 : decode cX9_firm 95 = .ok (.iinc 6 (-1), 3) := by decide +kernel
theorem dX9_firm_98 : decode cX9_firm 98 = .ok (.goto (-58), 3) := by decide +kernel
theorem dX9_firm_101 : decode cX9_firm 101 = .ok (.aload_n 0, 1) := by decide +kernel
theorem dX9_firm_102 : decode cX9_firm 102 = .ok (.getfield 9, 3) := by decide +kernel
theorem dX9_firm_105 : decode cX9_firm 105 = .ok (.bipush 44, 2) := by decide +kernel
theorem dX9_firm_107 : decode cX9_firm 107 = .ok (.iload_n 1, 1) := by decide +kernel
theorem dX9_firm_108 : decode cX9_firm 108 = .ok (.iadd, 1) := by decide +kernel
theorem dX9_firm_109 : decode cX9_firm 109 = .ok (.iload_n 3, 1) := by decide +kernel
theorem dX9_firm_110 : decode cX9_firm 110 = .ok (.iastore, 1) := by decide +kernel
theorem dX9_firm_111 : decode cX9_firm 111 = .ok (.iload_n 2, 1) := by decide +kernel
theorem dX9_firm_112 : decode cX9_firm 112 = .ok (.ifCond .ne 8, 3) := by decide +kernel
theorem dX9_firm_115 : decode cX9_firm 115 = .ok (.iload 4, 2) := by decide +kernel
theorem dX9_firm_117 : decode cX9_firm 117 = .ok (.goto 5, 3) := by decide +kernel
theorem dX9_firm_120 : decode cX9_firm 120 = .ok (.iload 5, 2) := by decide +kernel
theorem dX9_firm_122 : decode cX9_firm 122 = .ok (.ireturn, 1) := by decide +kernel
theorem dX9_goes_0 : decode cX9_goes 0 = .ok (.iconst (-1), 1) := by decide +kernel
theorem dX9_goes_1 : decode cX9_goes 1 = .ok (.istore_n 1, 1) := by decide +kernel
theorem dX9_goes_2 : decode cX9_goes 2 = .ok (.iconst 0, 1) := by decide +kernel
theorem dX9_goes_3 : decode cX9_goes 3 = .ok (.istore_n 2, 1) := by decide +kernel
theorem dX9_goes_4 : decode cX9_goes 4 = .ok (.iconst 0, 1) := by decide +kernel
theorem dX9_goes_5 : decode cX9_goes 5 = .ok (.istore_n 3, 1) := by decide +kernel
theorem dX9_goes_6 : decode cX9_goes 6 = .ok (.iload_n 3, 1) := by decide +kernel
theorem dX9_goes_7 : decode cX9_goes 7 = .ok (.bipush 16, 2) := by decide +kernel
theorem dX9_goes_9 : decode cX9_goes 9 = .ok (.if_icmp .ge 89, 3) := by decide +kernel
theorem dX9_goes_12 : decode cX9_goes 12 = .ok (.iload_n 3, 1) := by decide +kernel
theorem dX9_goes_13 : decode cX9_goes 13 = .ok (.aload_n 0, 1) := by decide +kernel
theorem dX9_goes_14 : decode cX9_goes 14 = .ok (.getfield 9, 3) := by decide +kernel
theorem dX9_goes_17 : decode cX9_goes 17 = .ok (.iconst 1, 1) := by decide +kernel
theorem dX9_goes_18 : decode cX9_goes 18 = .ok (.iaload, 1) := by decide +kernel
theorem dX9_goes_19 : decode cX9_goes 19 = .ok (.invokestatic 119, 3) := by decide +kernel
theorem dX9_goes_22 : decode cX9_goes 22 = .ok (.iconst 2, 1) := by decide +kernel
theorem dX9_goes_23 : decode cX9_goes 23 = .ok (.if_icmp .ge 11, 3) := by decide +kernel
theorem dX9_goes_26 : decode cX9_goes 26 = .ok (.aload_n 0, 1) := by decide +kernel
theorem dX9_goes_27 : decode cX9_goes 27 = .ok (.iload_n 3, 1) := by decide +kernel
theorem dX9_goes_28 : decode cX9_goes 28 = .ok (.invokevirtual 146, 3) := by decide +kernel
theorem dX9_goes_31 : decode cX9_goes 31 = .ok (.goto 4, 3) := by decide +kernel
theorem dX9_goes_34 : decode cX9_goes 34 = .ok (.iconst 0, 1) := by decide +kernel
theorem dX9_goes_35 : decode cX9_goes 35 = .ok (.istore 4, 2) := by decide +kernel
theorem dX9_goes_37 : decode cX9_goes 37 = .ok (.iload_n 3, 1) := by decide +kernel
theorem dX9_goes_38 : decode cX9_goes 38 = .ok (.aload_n 0, 1) := by decide +kernel
theorem dX9_goes_39 : decode cX9_goes 39 = .ok (.getfield 9, 3) := by decide +kernel
theorem dX9_goes_42 : decode cX9_goes 42 = .ok (.iconst 1, 1) := by decide +kernel
theorem dX9_goes_43 : decode cX9_goes 43 = .ok (.iaload, 1) := by decide +kernel
theorem dX9_goes_44 : decode cX9_goes 44 = .ok (.invokestatic 119, 3) := by decide +kernel
theorem dX9_goes_47 : decode cX9_goes 47 = .ok (.iconst 2, 1) := by decide +kernel
theorem dX9_goes_48 : decode cX9_goes 48 = .ok (.if_icmp .ge 18, 3) := by decide +kernel
theorem dX9_goes_51 : decode cX9_goes 51 = .ok (.iload_n 1, 1) := by decide +kernel
theorem dX9_goes_52 : decode cX9_goes 52 = .ok (.iconst (-1), 1) := by decide +kernel
theorem dX9_goes_53 : decode cX9_goes 53 = .ok (.if_icmp .eq 9, 3) := by decide +kernel
theorem dX9_goes_56 : decode cX9_goes 56 = .ok (.iload 4, 2) := by decide +kernel
theorem dX9_goes_58 : decode cX9_goes 58 = .ok (.iload_n 2, 1) := by decide +kernel
theorem dX9_goes_59 : decode cX9_goes 59 = .ok (.if_icmp .le 7, 3) := by decide +kernel
theorem dX9_goes_62 : decode cX9_goes 62 = .ok (.iconst 1, 1) := by decide +kernel
theorem dX9_goes_63 : decode cX9_goes 63 = .ok (.goto 4, 3) := by decide +kernel
theorem dX9_goes_66 : decode cX9_goes 66 = .ok (.iconst 0, 1) := by decide +kernel
theorem dX9_goes_67 : decode cX9_goes 67 = .ok (.istore 5, 2) := by decide +kernel
theorem dX9_goes_69 : decode cX9_goes 69 = .ok (.iload 5, 2) := by decide +kernel
theorem dX9_goes_71 : decode cX9_goes 71 = .ok (.ifCond .eq 7, 3) := by decide +kernel
theorem dX9_goes_74 : decode cX9_goes 74 = .ok (.iload_n 3, 1) := by decide +kernel
theorem dX9_goes_75 : decode cX9_goes 75 = .ok (.goto 4, 3) := by decide +kernel
theorem dX9_goes_78 : decode cX9_goes 78 = .ok (.iload_n 1, 1) := by decide +kernel
theorem dX9_goes_79 : decode cX9_goes 79 = .ok (.istore_n 1, 1) := by decide +kernel
theorem dX9_goes_80 : decode cX9_goes 80 = .ok (.iload 5, 2) := by decide +kernel
theorem dX9_goes_82 : decode cX9_goes 82 = .ok (.ifCond .eq 8, 3) := by decide +kernel
theorem dX9_goes_85 : decode cX9_goes 85 = .ok (.iload 4, 2) := by decide +kernel
theorem dX9_goes_87 : decode cX9_goes 87 = .ok (.goto 4, 3) := by decide +kernel
theorem dX9_goes_90 : decode cX9_goes 90 = .ok (.iload_n 2, 1) := by decide +kernel
theorem dX9_goes_91 : decode cX9_goes 91 = .ok (.istore_n 2, 1) := by decide +kernel
theorem dX9_goes_92 : decode cX9_goes 92 = .ok (.iinc 3 1, 3) := by decide +kernel
theorem dX9_goes_95 : decode cX9_goes 95 = .ok (.goto (-89), 3) := by decide +kernel
theorem dX9_goes_98 : decode cX9_goes 98 = .ok (.aload_n 0, 1) := by decide +kernel
theorem dX9_goes_99 : decode cX9_goes 99 = .ok (.getfield 9, 3) := by decide +kernel
theorem dX9_goes_102 : decode cX9_goes 102 = .ok (.iconst 1, 1) := by decide +kernel
theorem dX9_goes_103 : decode cX9_goes 103 = .ok (.iload_n 1, 1) := by decide +kernel
theorem dX9_goes_104 : decode cX9_goes 104 = .ok (.iastore, 1) := by decide +kernel
theorem dX9_goes_105 : decode cX9_goes 105 = .ok (.aload_n 0, 1) := by decide +kernel
theorem dX9_goes_106 : decode cX9_goes 106 = .ok (.getfield 9, 3) := by decide +kernel
theorem dX9_goes_109 : decode cX9_goes 109 = .ok (.iconst 2, 1) := by decide +kernel
theorem dX9_goes_110 : decode cX9_goes 110 = .ok (.iload_n 1, 1) := by decide +kernel
theorem dX9_goes_111 : decode cX9_goes 111 = .ok (.iadd, 1) := by decide +kernel
theorem dX9_goes_112 : decode cX9_goes 112 = .ok (.dup2, 1) := by decide +kernel
theorem dX9_goes_113 : decode cX9_goes 113 = .ok (.iaload, 1) := by decide +kernel
theorem dX9_goes_114 : decode cX9_goes 114 = .ok (.iconst 1, 1) := by decide +kernel
theorem dX9_goes_115 : decode cX9_goes 115 = .ok (.iadd, 1) := by decide +kernel
theorem dX9_goes_116 : decode cX9_goes 116 = .ok (.iastore, 1) := by decide +kernel
theorem dX9_goes_117 : decode cX9_goes 117 = .ok (.aload_n 0, 1) := by decide +kernel
theorem dX9_goes_118 : decode cX9_goes 118 = .ok (.getfield 9, 3) := by decide +kernel
theorem dX9_goes_121 : decode cX9_goes 121 = .ok (.iconst 0, 1) := by decide +kernel
theorem dX9_goes_122 : decode cX9_goes 122 = .ok (.dup2, 1) := by decide +kernel
theorem dX9_goes_123 : decode cX9_goes 123 = .ok (.iaload, 1) := by decide +kernel
theorem dX9_goes_124 : decode cX9_goes 124 = .ok (.iconst 1, 1) := by decide +kernel
theorem dX9_goes_125 : decode cX9_goes 125 = .ok (.iadd, 1) := by decide +kernel
theorem dX9_goes_126 : decode cX9_goes 126 = .ok (.iastore, 1) := by decide +kernel
theorem dX9_goes_127 : decode cX9_goes 127 = .ok (.return_, 1) := by decide +kernel
theorem dX9_goesBy_0 : decode cX9_goesBy 0 = .ok (.iload_n 1, 1) := by decide +kernel
theorem dX9_goesBy_1 : decode cX9_goesBy 1 = .ok (.ifCond .ne 10, 3) := by decide +kernel
theorem dX9_goesBy_4 : decode cX9_goesBy 4 = .ok (.aload_n 0, 1) := by decide +kernel
theorem dX9_goesBy_5 : decode cX9_goesBy 5 = .ok (.invokevirtual 149, 3) := by decide +kernel
theorem dX9_goesBy_8 : decode cX9_goesBy 8 = .ok (.goto 37, 3) := by decide +kernel
theorem dX9_goesBy_11 : decode cX9_goesBy 11 = .ok (.iload_n 1, 1) := by decide +kernel
theorem dX9_goesBy_12 : decode cX9_goesBy 12 = .ok (.iconst 3, 1) := by decide +kernel
theorem dX9_goesBy_13 : decode cX9_goesBy 13 = .ok (.if_icmp .ne 13, 3) := by decide +kernel
theorem dX9_goesBy_16 : decode cX9_goesBy 16 = .ok (.aload_n 0, 1) := by decide +kernel
theorem dX9_goesBy_17 : decode cX9_goesBy 17 = .ok (.getfield 9, 3) := by decide +kernel
theorem dX9_goesBy_20 : decode cX9_goesBy 20 = .ok (.iconst 1, 1) := by decide +kernel
theorem dX9_goesBy_21 : decode cX9_goesBy 21 = .ok (.iload_n 2, 1) := by decide +kernel
theorem dX9_goesBy_22 : decode cX9_goesBy 22 = .ok (.iastore, 1) := by decide +kernel
theorem dX9_goesBy_23 : decode cX9_goesBy 23 = .ok (.goto 22, 3) := by decide +kernel
theorem dX9_goesBy_26 : decode cX9_goesBy 26 = .ok (.aload_n 0, 1) := by decide +kernel
theorem dX9_goesBy_27 : decode cX9_goesBy 27 = .ok (.getfield 9, 3) := by decide +kernel
theorem dX9_goesBy_30 : decode cX9_goesBy 30 = .ok (.bipush 24, 2) := by decide +kernel
theorem dX9_goesBy_32 : decode cX9_goesBy 32 = .ok (.iload_n 2, 1) := by decide +kernel
theorem dX9_goesBy_33 : decode cX9_goesBy 33 = .ok (.iadd, 1) := by decide +kernel
theorem dX9_goesBy_34 : decode cX9_goesBy 34 = .ok (.iload_n 1, 1) := by decide +kernel
theorem dX9_goesBy_35 : decode cX9_goesBy 35 = .ok (.iconst 1, 1) := by decide +kernel
theorem dX9_goesBy_36 : decode cX9_goesBy 36 = .ok (.if_icmp .ne 7, 3) := by decide +kernel
theorem dX9_goesBy_39 : decode cX9_goesBy 39 = .ok (.iconst 1, 1) := by decide +kernel
theorem dX9_goesBy_40 : decode cX9_goesBy 40 = .ok (.goto 4, 3) := by decide +kernel
theorem dX9_goesBy_43 : decode cX9_goesBy 43 = .ok (.iconst 0, 1) := by decide +kernel
theorem dX9_goesBy_44 : decode cX9_goesBy 44 = .ok (.iastore, 1) := by decide +kernel
theorem dX9_goesBy_45 : decode cX9_goesBy 45 = .ok (.return_, 1) := by decide +kernel
theorem dX9_goesOn_0 : decode cX9_goesOn 0 = .ok (.iconst 0, 1) := by decide +kernel
theorem dX9_goesOn_1 : decode cX9_goesOn 1 = .ok (.istore_n 2, 1) := by decide +kernel
theorem dX9_goesOn_2 : decode cX9_goesOn 2 = .ok (.iload_n 2, 1) := by decide +kernel
theorem dX9_goesOn_3 : decode cX9_goesOn 3 = .ok (.iload_n 1, 1) := by decide +kernel
theorem dX9_goesOn_4 : decode cX9_goesOn 4 = .ok (.if_icmp .ge 13, 3) := by decide +kernel
theorem dX9_goesOn_7 : decode cX9_goesOn 7 = .ok (.aload_n 0, 1) := by decide +kernel
theorem dX9_goesOn_8 : decode cX9_goesOn 8 = .ok (.invokevirtual 149, 3) := by decide +kernel
theorem dX9_goesOn_11 : decode cX9_goesOn 11 = .ok (.iinc 2 1, 3) := by decide +kernel
theorem dX9_goesOn_14 : decode cX9_goesOn 14 = .ok (.goto (-12), 3) := by decide +kernel
theorem dX9_goesOn_17 : decode cX9_goesOn 17 = .ok (.return_, 1) := by decide +kernel
theorem dX9_image_0 : decode cX9_image 0 = .ok (.iconst 0, 1) := by decide +kernel
theorem dX9_image_1 : decode cX9_image 1 = .ok (.istore_n 1, 1) := by decide +kernel
theorem dX9_image_2 : decode cX9_image 2 = .ok (.iload_n 1, 1) := by decide +kernel
theorem dX9_image_3 : decode cX9_image 3 = .ok (.sipush 936, 3) := by decide +kernel
theorem dX9_image_6 : decode cX9_image 6 = .ok (.if_icmp .ge 21, 3) := by decide +kernel
theorem dX9_image_9 : decode cX9_image 9 = .ok (.aload_n 0, 1) := by decide +kernel
theorem dX9_image_10 : decode cX9_image 10 = .ok (.getfield 15, 3) := by decide +kernel
theorem dX9_image_13 : decode cX9_image 13 = .ok (.iload_n 1, 1) := by decide +kernel
theorem dX9_image_14 : decode cX9_image 14 = .ok (.aload_n 0, 1) := by decide +kernel
theorem dX9_image_15 : decode cX9_image 15 = .ok (.getfield 9, 3) := by decide +kernel
theorem dX9_image_18 : decode cX9_image 18 = .ok (.iload_n 1, 1) := by decide +kernel
theorem dX9_image_19 : decode cX9_image 19 = .ok (.iaload, 1) := by decide +kernel
theorem dX9_image_20 : decode cX9_image 20 = .ok (.iastore, 1) := by decide +kernel
theorem dX9_image_21 : decode cX9_image 21 = .ok (.iinc 1 1, 3) := by decide +kernel
theorem dX9_image_24 : decode cX9_image 24 = .ok (.goto (-22), 3) := by decide +kernel
theorem dX9_image_27 : decode cX9_image 27 = .ok (.aload_n 0, 1) := by decide +kernel
theorem dX9_image_28 : decode cX9_image 28 = .ok (.iconst 1, 1) := by decide +kernel
theorem dX9_image_29 : decode cX9_image 29 = .ok (.putfield 225, 3) := by decide +kernel
theorem dX9_image_32 : decode cX9_image 32 = .ok (.aload_n 0, 1) := by decide +kernel
theorem dX9_image_33 : decode cX9_image 33 = .ok (.getfield 9, 3) := by decide +kernel
theorem dX9_image_36 : decode cX9_image 36 = .ok (.bipush 30, 2) := by decide +kernel
theorem dX9_image_38 : decode cX9_image 38 = .ok (.iaload, 1) := by decide +kernel
theorem dX9_image_39 : decode cX9_image 39 = .ok (.ireturn, 1) := by decide +kernel
theorem dX9_isAsSeen_0 : decode cX9_isAsSeen 0 = .ok (.iconst 1, 1) := by decide +kernel
theorem dX9_isAsSeen_1 : decode cX9_isAsSeen 1 = .ok (.istore_n 2, 1) := by decide +kernel
theorem dX9_isAsSeen_2 : decode cX9_isAsSeen 2 = .ok (.iconst 0, 1) := by decide +kernel
theorem dX9_isAsSeen_3 : decode cX9_isAsSeen 3 = .ok (.istore_n 3, 1) := by decide +kernel
theorem dX9_isAsSeen_4 : decode cX9_isAsSeen 4 = .ok (.iload_n 3, 1) := by decide +kernel
theorem dX9_isAsSeen_5 : decode cX9_isAsSeen 5 = .ok (.aload_n 0, 1) := by decide +kernel
theorem dX9_isAsSeen_6 : decode cX9_isAsSeen 6 = .ok (.getfield 9, 3) := by decide +kernel
theorem dX9_isAsSeen_9 : decode cX9_isAsSeen 9 = .ok (.bipush 33, 2) := by decide +kernel
theorem dX9_isAsSeen_11 : decode cX9_isAsSeen 11 = .ok (.iaload, 1) := by decide +kernel
theorem dX9_isAsSeen_12 : decode cX9_isAsSeen 12 = .ok (.if_icmp .ge 50, 3) := by decide +kernel
theorem dX9_isAsSeen_15 : decode cX9_isAsSeen 15 = .ok (.iload_n 2, 1) := by decide +kernel
theorem dX9_isAsSeen_16 : decode cX9_isAsSeen 16 = .ok (.ifCond .eq 38, 3) := by decide +kernel
theorem dX9_isAsSeen_19 : decode cX9_isAsSeen 19 = .ok (.aload_n 0, 1) := by decide +kernel
theorem dX9_isAsSeen_20 : decode cX9_isAsSeen 20 = .ok (.getfield 9, 3) := by decide +kernel
theorem dX9_isAsSeen_23 : decode cX9_isAsSeen 23 = .ok (.bipush 89, 2) := by decide +kernel
theorem dX9_isAsSeen_25 : decode cX9_isAsSeen 25 = .ok (.iload_n 3, 1) := by decide +kernel
theorem dX9_isAsSeen_26 : decode cX9_isAsSeen 26 = .ok (.iadd, 1) := by decide +kernel
theorem dX9_isAsSeen_27 : decode cX9_isAsSeen 27 = .ok (.iaload, 1) := by decide +kernel
theorem dX9_isAsSeen_28 : decode cX9_isAsSeen 28 = .ok (.iload_n 1, 1) := by decide +kernel
theorem dX9_isAsSeen_29 : decode cX9_isAsSeen 29 = .ok (.if_icmp .ne 21, 3) := by decide +kernel
theorem dX9_isAsSeen_32 : decode cX9_isAsSeen 32 = .ok (.aload_n 0, 1) := by decide +kernel
theorem dX9_isAsSeen_33 : decode cX9_isAsSeen 33 = .ok (.getfield 9, 3) := by decide +kernel
theorem dX9_isAsSeen_36 : decode cX9_isAsSeen 36 = .ok (.iconst 1, 1) := by decide +kernel
theorem dX9_isAsSeen_37 : decode cX9_isAsSeen 37 = .ok (.iaload, 1) := by decide +kernel
theorem dX9_isAsSeen_38 : decode cX9_isAsSeen 38 = .ok (.aload_n 0, 1) := by decide +kernel
theorem dX9_isAsSeen_39 : decode cX9_isAsSeen 39 = .ok (.getfield 9, 3) := by decide +kernel
theorem dX9_isAsSeen_42 : decode cX9_isAsSeen 42 = .ok (.bipush 84, 2) := by decide +kernel
theorem dX9_isAsSeen_44 : decode cX9_isAsSeen 44 = .ok (.iload_n 3, 1) := by decide +kernel
theorem dX9_isAsSeen_45 : decode cX9_isAsSeen 45 = .ok (.iadd, 1) := by decide +kernel
theorem dX9_isAsSeen_46 : decode cX9_isAsSeen 46 = .ok (.iaload, 1) := by decide +kernel
theorem dX9_isAsSeen_47 : decode cX9_isAsSeen 47 = .ok (.if_icmp .ne 7, 3) := by decide +kernel
theorem dX9_isAsSeen_50 : decode cX9_isAsSeen 50 = .ok (.iconst 1, 1) := by decide +kernel
theorem dX9_isAsSeen_51 : decode cX9_isAsSeen 51 = .ok (.goto 4, 3) := by decide +kernel
theorem dX9_isAsSeen_54 : decode cX9_isAsSeen 54 = .ok (.iconst 0, 1) := by decide +kernel
theorem dX9_isAsSeen_55 : decode cX9_isAsSeen 55 = .ok (.istore_n 2, 1) := by decide +kernel
theorem dX9_isAsSeen_56 : decode cX9_isAsSeen 56 = .ok (.iinc 3 1, 3) := by decide +kernel
theorem dX9_isAsSeen_59 : decode cX9_isAsSeen 59 = .ok (.goto (-55), 3) := by decide +kernel
theorem dX9_isAsSeen_62 : decode cX9_isAsSeen 62 = .ok (.iload_n 2, 1) := by decide +kernel
theorem dX9_isAsSeen_63 : decode cX9_isAsSeen 63 = .ok (.ireturn, 1) := by decide +kernel
theorem dX9_isKept_0 : decode cX9_isKept 0 = .ok (.aload_n 0, 1) := by decide +kernel
theorem dX9_isKept_1 : decode cX9_isKept 1 = .ok (.invokevirtual 152, 3) := by decide +kernel
theorem dX9_isKept_4 : decode cX9_isKept 4 = .ok (.iconst 0, 1) := by decide +kernel
theorem dX9_isKept_5 : decode cX9_isKept 5 = .ok (.istore_n 3, 1) := by decide +kernel
theorem dX9_isKept_6 : decode cX9_isKept 6 = .ok (.iload_n 3, 1) := by decide +kernel
theorem dX9_isKept_7 : decode cX9_isKept 7 = .ok (.aload_n 0, 1) := by decide +kernel
theorem dX9_isKept_8 : decode cX9_isKept 8 = .ok (.getfield 9, 3) := by decide +kernel
theorem dX9_isKept_11 : decode cX9_isKept 11 = .ok (.bipush 30, 2) := by decide +kernel
theorem dX9_isKept_13 : decode cX9_isKept 13 = .ok (.iaload, 1) := by decide +kernel
theorem dX9_isKept_14 : decode cX9_isKept 14 = .ok (.if_icmp .ge 40, 3) := by decide +kernel
theorem dX9_isKept_17 : decode cX9_isKept 17 = .ok (.aload_n 0, 1) := by decide +kernel
theorem dX9_isKept_18 : decode cX9_isKept 18 = .ok (.getfield 9, 3) := by decide +kernel
theorem dX9_isKept_21 : decode cX9_isKept 21 = .ok (.bipush 24, 2) := by decide +kernel
theorem dX9_isKept_23 : decode cX9_isKept 23 = .ok (.iload_n 3, 1) := by decide +kernel
theorem dX9_isKept_24 : decode cX9_isKept 24 = .ok (.iadd, 1) := by decide +kernel
theorem dX9_isKept_25 : decode cX9_isKept 25 = .ok (.iload_n 2, 1) := by decide +kernel
theorem dX9_isKept_26 : decode cX9_isKept 26 = .ok (.iload_n 3, 1) := by decide +kernel
theorem dX9_isKept_27 : decode cX9_isKept 27 = .ok (.ishr, 1) := by decide +kernel
theorem dX9_isKept_28 : decode cX9_isKept 28 = .ok (.iconst 1, 1) := by decide +kernel
theorem dX9_isKept_29 : decode cX9_isKept 29 = .ok (.iand, 1) := by decide +kernel
theorem dX9_isKept_30 : decode cX9_isKept 30 = .ok (.iconst 1, 1) := by decide +kernel
theorem dX9_isKept_31 : decode cX9_isKept 31 = .ok (.if_icmp .ne 7, 3) := by decide +kernel
theorem dX9_isKept_34 : decode cX9_isKept 34 = .ok (.iconst 1, 1) := by decide +kernel
theorem dX9_isKept_35 : decode cX9_isKept 35 = .ok (.goto 12, 3) := by decide +kernel
theorem dX9_isKept_38 : decode cX9_isKept 38 = .ok (.aload_n 0, 1) := by decide +kernel
theorem dX9_isKept_39 : decode cX9_isKept 39 = .ok (.getfield 9, 3) := by decide +kernel
theorem dX9_isKept_42 : decode cX9_isKept 42 = .ok (.bipush 24, 2) := by decide +kernel
theorem dX9_isKept_44 : decode cX9_isKept 44 = .ok (.iload_n 3, 1) := by decide +kernel
theorem dX9_isKept_45 : decode cX9_isKept 45 = .ok (.iadd, 1) := by decide +kernel
theorem dX9_isKept_46 : decode cX9_isKept 46 = .ok (.iaload, 1) := by decide +kernel
theorem dX9_isKept_47 : decode cX9_isKept 47 = .ok (.iastore, 1) := by decide +kernel
theorem dX9_isKept_48 : decode cX9_isKept 48 = .ok (.iinc 3 1, 3) := by decide +kernel
theorem dX9_isKept_51 : decode cX9_isKept 51 = .ok (.goto (-45), 3) := by decide +kernel
theorem dX9_isKept_54 : decode cX9_isKept 54 = .ok (.iconst 1, 1) := by decide +kernel
theorem dX9_isKept_55 : decode cX9_isKept 55 = .ok (.istore_n 3, 1) := by decide +kernel
theorem dX9_isKept_56 : decode cX9_isKept 56 = .ok (.iconst 1, 1) := by decide +kernel
theorem dX9_isKept_57 : decode cX9_isKept 57 = .ok (.istore 4, 2) := by decide +kernel
theorem dX9_isKept_59 : decode cX9_isKept 59 = .ok (.iload 4, 2) := by decide +kernel
theorem dX9_isKept_61 : decode cX9_isKept 61 = .ok (.bipush 30, 2) := by decide +kernel
theorem dX9_isKept_63 : decode cX9_isKept 63 = .ok (.if_icmp .gt 33, 3) := by decide +kernel
theorem dX9_isKept_66 : decode cX9_isKept 66 = .ok (.iload_n 3, 1) := by decide +kernel
theorem dX9_isKept_67 : decode cX9_isKept 67 = .ok (.ifCond .eq 29, 3) := by decide +kernel
theorem dX9_isKept_70 : decode cX9_isKept 70 = .ok (.aload_n 0, 1) := by decide +kernel
theorem dX9_isKept_71 : decode cX9_isKept 71 = .ok (.invokevirtual 149, 3) := by decide +kernel
theorem dX9_isKept_74 : decode cX9_isKept 74 = .ok (.aload_n 0, 1) := by decide +kernel
theorem dX9_isKept_75 : decode cX9_isKept 75 = .ok (.getfield 9, 3) := by decide +kernel
theorem dX9_isKept_78 : decode cX9_isKept 78 = .ok (.iconst 1, 1) := by decide +kernel
theorem dX9_isKept_79 : decode cX9_isKept 79 = .ok (.iaload, 1) := by decide +kernel
theorem dX9_isKept_80 : decode cX9_isKept 80 = .ok (.iload_n 1, 1) := by decide +kernel
theorem dX9_isKept_81 : decode cX9_isKept 81 = .ok (.if_icmp .eq 7, 3) := by decide +kernel
theorem dX9_isKept_84 : decode cX9_isKept 84 = .ok (.iconst 1, 1) := by decide +kernel
theorem dX9_isKept_85 : decode cX9_isKept 85 = .ok (.goto 4, 3) := by decide +kernel
theorem dX9_isKept_88 : decode cX9_isKept 88 = .ok (.iconst 0, 1) := by decide +kernel
theorem dX9_isKept_89 : decode cX9_isKept 89 = .ok (.istore_n 3, 1) := by decide +kernel
theorem dX9_isKept_90 : decode cX9_isKept 90 = .ok (.iinc 4 1, 3) := by decide +kernel
theorem dX9_isKept_93 : decode cX9_isKept 93 = .ok (.goto (-34), 3) := by decide +kernel
theorem dX9_isKept_96 : decode cX9_isKept 96 = .ok (.aload_n 0, 1) := by decide +kernel
theorem dX9_isKept_97 : decode cX9_isKept 97 = .ok (.invokevirtual 158, 3) := by decide +kernel
theorem dX9_isKept_100 : decode cX9_isKept 100 = .ok (.iload_n 3, 1) := by decide +kernel
theorem dX9_isKept_101 : decode cX9_isKept 101 = .ok (.ireturn, 1) := by decide +kernel
theorem dX9_isUnder_0 : decode cX9_isUnder 0 = .ok (.iload_n 1, 1) := by decide +kernel
theorem dX9_isUnder_1 : decode cX9_isUnder 1 = .ok (.ifCond .eq 24, 3) := by decide +kernel
theorem dX9_isUnder_4 : decode cX9_isUnder 4 = .ok (.iload_n 1, 1) := by decide +kernel
theorem dX9_isUnder_5 : decode cX9_isUnder 5 = .ok (.iload_n 0, 1) := by decide +kernel
theorem dX9_isUnder_6 : decode cX9_isUnder 6 = .ok (.if_icmp .eq 19, 3) := by decide +kernel
theorem dX9_isUnder_9 : decode cX9_isUnder 9 = .ok (.iload_n 1, 1) := by decide +kernel
theorem dX9_isUnder_10 : decode cX9_isUnder 10 = .ok (.ifCond .le 19, 3) := by decide +kernel
theorem dX9_isUnder_13 : decode cX9_isUnder 13 = .ok (.iload_n 1, 1) := by decide +kernel
theorem dX9_isUnder_14 : decode cX9_isUnder 14 = .ok (.iconst 4, 1) := by decide +kernel
theorem dX9_isUnder_15 : decode cX9_isUnder 15 = .ok (.if_icmp .ge 14, 3) := by decide +kernel
theorem dX9_isUnder_18 : decode cX9_isUnder 18 = .ok (.iload_n 0, 1) := by decide +kernel
theorem dX9_isUnder_19 : decode cX9_isUnder 19 = .ok (.iload_n 1, 1) := by decide +kernel
theorem dX9_isUnder_20 : decode cX9_isUnder 20 = .ok (.iconst 3, 1) := by decide +kernel
theorem dX9_isUnder_21 : decode cX9_isUnder 21 = .ok (.iadd, 1) := by decide +kernel
theorem dX9_isUnder_22 : decode cX9_isUnder 22 = .ok (.if_icmp .ne 7, 3) := by decide +kernel
theorem dX9_isUnder_25 : decode cX9_isUnder 25 = .ok (.iconst 1, 1) := by decide +kernel
theorem dX9_isUnder_26 : decode cX9_isUnder 26 = .ok (.goto 4, 3) := by decide +kernel
theorem dX9_isUnder_29 : decode cX9_isUnder 29 = .ok (.iconst 0, 1) := by decide +kernel
theorem dX9_isUnder_30 : decode cX9_isUnder 30 = .ok (.ireturn, 1) := by decide +kernel
theorem dX9_kept_0 : decode cX9_kept 0 = .ok (.iload_n 1, 1) := by decide +kernel
theorem dX9_kept_1 : decode cX9_kept 1 = .ok (.invokestatic 132, 3) := by decide +kernel
theorem dX9_kept_4 : decode cX9_kept 4 = .ok (.ifCond .ne 5, 3) := by decide +kernel
theorem dX9_kept_7 : decode cX9_kept 7 = .ok (.iconst (-1), 1) := by decide +kernel
theorem dX9_kept_8 : decode cX9_kept 8 = .ok (.ireturn, 1) := by decide +kernel
theorem dX9_kept_9 : decode cX9_kept 9 = .ok (.bipush (-5), 2) := by decide +kernel
theorem dX9_kept_11 : decode cX9_kept 11 = .ok (.istore_n 2, 1) := by decide +kernel
theorem dX9_kept_12 : decode cX9_kept 12 = .ok (.iconst 0, 1) := by decide +kernel
theorem dX9_kept_13 : decode cX9_kept 13 = .ok (.istore_n 3, 1) := by decide +kernel
theorem dX9_kept_14 : decode cX9_kept 14 = .ok (.iload_n 3, 1) := by decide +kernel
theorem dX9_kept_15 : decode cX9_kept 15 = .ok (.iconst 1, 1) := by decide +kernel
theorem dX9_kept_16 : decode cX9_kept 16 = .ok (.aload_n 0, 1) := by decide +kernel
theorem dX9_kept_17 : decode cX9_kept 17 = .ok (.getfield 9, 3) := by decide +kernel
theorem dX9_kept_20 : decode cX9_kept 20 = .ok (.bipush 30, 2) := by decide +kernel
theorem dX9_kept_22 : decode cX9_kept 22 = .ok (.iaload, 1) := by decide +kernel
theorem dX9_kept_23 : decode cX9_kept 23 = .ok (.ishl, 1) := by decide +kernel
theorem dX9_kept_24 : decode cX9_kept 24 = .ok (.if_icmp .ge 53, 3) := by decide +kernel
theorem dX9_kept_27 : decode cX9_kept 27 = .ok (.iload_n 2, 1) := by decide +kernel
theorem dX9_kept_28 : decode cX9_kept 28 = .ok (.bipush (-5), 2) := by decide +kernel
theorem dX9_kept_30 : decode cX9_kept 30 = .ok (.if_icmp .eq 14, 3) := by decide +kernel
theorem dX9_kept_33 : decode cX9_kept 33 = .ok (.iload_n 3, 1) := by decide +kernel
theorem dX9_kept_34 : decode cX9_kept 34 = .ok (.invokestatic 165, 3) := by decide +kernel
theorem dX9_kept_37 : decode cX9_kept 37 = .ok (.iload_n 2, 1) := by decide +kernel
theorem dX9_kept_38 : decode cX9_kept 38 = .ok (.invokestatic 165, 3) := by decide +kernel
theorem dX9_kept_41 : decode cX9_kept 41 = .ok (.if_icmp .ge 7, 3) := by decide +kernel
theorem dX9_kept_44 : decode cX9_kept 44 = .ok (.iconst 1, 1) := by decide +kernel
theorem dX9_kept_45 : decode cX9_kept 45 = .ok (.goto 4, 3) := by decide +kernel
theorem dX9_kept_48 : decode cX9_kept 48 = .ok (.iconst 0, 1) := by decide +kernel
theorem dX9_kept_49 : decode cX9_kept 49 = .ok (.istore 4, 2) := by decide +kernel
theorem dX9_kept_51 : decode cX9_kept 51 = .ok (.iload 4, 2) := by decide +kernel
theorem dX9_kept_53 : decode cX9_kept 53 = .ok (.ifCond .eq 16, 3) := by decide +kernel
theorem dX9_kept_56 : decode cX9_kept 56 = .ok (.aload_n 0, 1) := by decide +kernel
theorem dX9_kept_57 : decode cX9_kept 57 = .ok (.iload_n 1, 1) := by decide +kernel
theorem dX9_kept_58 : decode cX9_kept 58 = .ok (.iload_n 3, 1) := by decide +kernel
theorem dX9_kept_59 : decode cX9_kept 59 = .ok (.invokevirtual 168, 3) := by decide +kernel
theorem dX9_kept_62 : decode cX9_kept 62 = .ok (.ifCond .eq 7, 3) := by decide +kernel
theorem dX9_kept_65 : decode cX9_kept 65 = .ok (.iload_n 3, 1) := by decide +kernel
theorem dX9_kept_66 : decode cX9_kept 66 = .ok (.goto 4, 3) := by decide +kernel
theorem dX9_kept_69 : decode cX9_kept 69 = .ok (.iload_n 2, 1) := by decide +kernel
theorem dX9_kept_70 : decode cX9_kept 70 = .ok (.istore_n 2, 1) := by decide +kernel
theorem dX9_kept_71 : decode cX9_kept 71 = .ok (.iinc 3 1, 3) := by decide +kernel
theorem dX9_kept_74 : decode cX9_kept 74 = .ok (.goto (-60), 3) := by decide +kernel
theorem dX9_kept_77 : decode cX9_kept 77 = .ok (.iload_n 2, 1) := by decide +kernel
theorem dX9_kept_78 : decode cX9_kept 78 = .ok (.ireturn, 1) := by decide +kernel
theorem dX9_lay_0 : decode cX9_lay 0 = .ok (.iload_n 1, 1) := by decide +kernel
theorem dX9_lay_1 : decode cX9_lay 1 = .ok (.invokestatic 132, 3) := by decide +kernel
theorem dX9_lay_4 : decode cX9_lay 4 = .ok (.ifCond .eq 12, 3) := by decide +kernel
theorem dX9_lay_7 : decode cX9_lay 7 = .ok (.aload_n 0, 1) := by decide +kernel
theorem dX9_lay_8 : decode cX9_lay 8 = .ok (.iconst 1, 1) := by decide +kernel
theorem dX9_lay_9 : decode cX9_lay 9 = .ok (.iload_n 1, 1) := by decide +kernel
theorem dX9_lay_10 : decode cX9_lay 10 = .ok (.invokevirtual 140, 3) := by decide +kernel
theorem dX9_lay_13 : decode cX9_lay 13 = .ok (.goto 4, 3) := by decide +kernel
theorem dX9_lay_16 : decode cX9_lay 16 = .ok (.iconst (-1), 1) := by decide +kernel
theorem dX9_lay_17 : decode cX9_lay 17 = .ok (.ireturn, 1) := by decide +kernel
theorem dX9_line_0 : decode cX9_line 0 = .ok (.aload_n 0, 1) := by decide +kernel
theorem dX9_line_1 : decode cX9_line 1 = .ok (.iload_n 1, 1) := by decide +kernel
theorem dX9_line_2 : decode cX9_line 2 = .ok (.invokevirtual 136, 3) := by decide +kernel
theorem dX9_line_5 : decode cX9_line 5 = .ok (.ifCond .eq 12, 3) := by decide +kernel
theorem dX9_line_8 : decode cX9_line 8 = .ok (.iload_n 2, 1) := by decide +kernel
theorem dX9_line_9 : decode cX9_line 9 = .ok (.iconst 0, 1) := by decide +kernel
theorem dX9_line_10 : decode cX9_line 10 = .ok (.iconst 3, 1) := by decide +kernel
theorem dX9_line_11 : decode cX9_line 11 = .ok (.invokestatic 35, 3) := by decide +kernel
theorem dX9_line_14 : decode cX9_line 14 = .ok (.ifCond .ne 5, 3) := by decide +kernel
theorem dX9_line_17 : decode cX9_line 17 = .ok (.iconst (-1), 1) := by decide +kernel
theorem dX9_line_18 : decode cX9_line 18 = .ok (.ireturn, 1) := by decide +kernel
theorem dX9_line_19 : decode cX9_line 19 = .ok (.iload_n 3, 1) := by decide +kernel
theorem dX9_line_20 : decode cX9_line 20 = .ok (.iconst 0, 1) := by decide +kernel
theorem dX9_line_21 : decode cX9_line 21 = .ok (.bipush 9, 2) := by decide +kernel
theorem dX9_line_23 : decode cX9_line 23 = .ok (.invokestatic 35, 3) := by decide +kernel
theorem dX9_line_26 : decode cX9_line 26 = .ok (.ifCond .ne 6, 3) := by decide +kernel
theorem dX9_line_29 : decode cX9_line 29 = .ok (.bipush (-2), 2) := by decide +kernel
theorem dX9_line_31 : decode cX9_line 31 = .ok (.ireturn, 1) := by decide +kernel
theorem dX9_line_32 : decode cX9_line 32 = .ok (.aload_n 0, 1) := by decide +kernel
theorem dX9_line_33 : decode cX9_line 33 = .ok (.getfield 9, 3) := by decide +kernel
theorem dX9_line_36 : decode cX9_line 36 = .ok (.bipush 38, 2) := by decide +kernel
theorem dX9_line_38 : decode cX9_line 38 = .ok (.iload_n 1, 1) := by decide +kernel
theorem dX9_line_39 : decode cX9_line 39 = .ok (.iadd, 1) := by decide +kernel
theorem dX9_line_40 : decode cX9_line 40 = .ok (.iaload, 1) := by decide +kernel
theorem dX9_line_41 : decode cX9_line 41 = .ok (.bipush 6, 2) := by decide +kernel
theorem dX9_line_43 : decode cX9_line 43 = .ok (.if_icmp .eq 6, 3) := by decide +kernel
theorem dX9_line_46 : decode cX9_line 46 = .ok (.bipush (-3), 2) := by decide +kernel
theorem dX9_line_48 : decode cX9_line 48 = .ok (.ireturn, 1) := by decide +kernel
theorem dX9_line_49 : decode cX9_line 49 = .ok (.aload_n 0, 1) := by decide +kernel
theorem dX9_line_50 : decode cX9_line 50 = .ok (.getfield 9, 3) := by decide +kernel
theorem dX9_line_53 : decode cX9_line 53 = .ok (.bipush 50, 2) := by decide +kernel
theorem dX9_line_55 : decode cX9_line 55 = .ok (.iconst 4, 1) := by decide +kernel
theorem dX9_line_56 : decode cX9_line 56 = .ok (.iload_n 1, 1) := by decide +kernel
theorem dX9_line_57 : decode cX9_line 57 = .ok (.imul, 1) := by decide +kernel
theorem dX9_line_58 : decode cX9_line 58 = .ok (.iadd, 1) := by decide +kernel
theorem dX9_line_59 : decode cX9_line 59 = .ok (.iload_n 2, 1) := by decide +kernel
theorem dX9_line_60 : decode cX9_line 60 = .ok (.iadd, 1) := by decide +kernel
theorem dX9_line_61 : decode cX9_line 61 = .ok (.iaload, 1) := by decide +kernel
theorem dX9_line_62 : decode cX9_line 62 = .ok (.istore 4, 2) := by decide +kernel
theorem dX9_line_64 : decode cX9_line 64 = .ok (.aload_n 0, 1) := by decide +kernel
theorem dX9_line_65 : decode cX9_line 65 = .ok (.getfield 9, 3) := by decide +kernel
theorem dX9_line_68 : decode cX9_line 68 = .ok (.bipush 50, 2) := by decide +kernel
theorem dX9_line_70 : decode cX9_line 70 = .ok (.iconst 4, 1) := by decide +kernel
theorem dX9_line_71 : decode cX9_line 71 = .ok (.iload_n 1, 1) := by decide +kernel
theorem dX9_line_72 : decode cX9_line 72 = .ok (.imul, 1) := by decide +kernel
theorem dX9_line_73 : decode cX9_line 73 = .ok (.iadd, 1) := by decide +kernel
theorem dX9_line_74 : decode cX9_line 74 = .ok (.iload_n 2, 1) := by decide +kernel
theorem dX9_line_75 : decode cX9_line 75 = .ok (.iadd, 1) := by decide +kernel
theorem dX9_line_76 : decode cX9_line 76 = .ok (.iload_n 3, 1) := by decide +kernel
theorem dX9_line_77 : decode cX9_line 77 = .ok (.iastore, 1) := by decide +kernel
theorem dX9_line_78 : decode cX9_line 78 = .ok (.iload 4, 2) := by decide +kernel
theorem dX9_line_80 : decode cX9_line 80 = .ok (.ireturn, 1) := by decide +kernel
theorem dX9_looked_0 : decode cX9_looked 0 = .ok (.iconst 0, 1) := by decide +kernel
theorem dX9_looked_1 : decode cX9_looked 1 = .ok (.istore_n 1, 1) := by decide +kernel
theorem dX9_looked_2 : decode cX9_looked 2 = .ok (.iload_n 1, 1) := by decide +kernel
theorem dX9_looked_3 : decode cX9_looked 3 = .ok (.aload_n 0, 1) := by decide +kernel
theorem dX9_looked_4 : decode cX9_looked 4 = .ok (.getfield 9, 3) := by decide +kernel
theorem dX9_looked_7 : decode cX9_looked 7 = .ok (.bipush 35, 2) := by decide +kernel
theorem dX9_looked_9 : decode cX9_looked 9 = .ok (.iaload, 1) := by decide +kernel
theorem dX9_looked_10 : decode cX9_looked 10 = .ok (.if_icmp .ge 39, 3) := by decide +kernel
theorem dX9_looked_13 : decode cX9_looked 13 = .ok (.aload_n 0, 1) := by decide +kernel
theorem dX9_looked_14 : decode cX9_looked 14 = .ok (.getfield 9, 3) := by decide +kernel
theorem dX9_looked_17 : decode cX9_looked 17 = .ok (.iconst 2, 1) := by decide +kernel
theorem dX9_looked_18 : decode cX9_looked 18 = .ok (.aload_n 0, 1) := by decide +kernel
theorem dX9_looked_19 : decode cX9_looked 19 = .ok (.getfield 9, 3) := by decide +kernel
theorem dX9_looked_22 : decode cX9_looked 22 = .ok (.bipush 110, 2) := by decide +kernel
theorem dX9_looked_24 : decode cX9_looked 24 = .ok (.iload_n 1, 1) := by decide +kernel
theorem dX9_looked_25 : decode cX9_looked 25 = .ok (.iadd, 1) := by decide +kernel
theorem dX9_looked_26 : decode cX9_looked 26 = .ok (.iaload, 1) := by decide +kernel
theorem dX9_looked_27 : decode cX9_looked 27 = .ok (.iadd, 1) := by decide +kernel
theorem dX9_looked_28 : decode cX9_looked 28 = .ok (.iaload, 1) := by decide +kernel
theorem dX9_looked_29 : decode cX9_looked 29 = .ok (.aload_n 0, 1) := by decide +kernel
theorem dX9_looked_30 : decode cX9_looked 30 = .ok (.getfield 9, 3) := by decide +kernel
theorem dX9_looked_33 : decode cX9_looked 33 = .ok (.bipush 118, 2) := by decide +kernel
theorem dX9_looked_35 : decode cX9_looked 35 = .ok (.iload_n 1, 1) := by decide +kernel
theorem dX9_looked_36 : decode cX9_looked 36 = .ok (.iadd, 1) := by decide +kernel
theorem dX9_looked_37 : decode cX9_looked 37 = .ok (.iaload, 1) := by decide +kernel
theorem dX9_looked_38 : decode cX9_looked 38 = .ok (.if_icmp .eq 5, 3) := by decide +kernel
theorem dX9_looked_41 : decode cX9_looked 41 = .ok (.iload_n 1, 1) := by decide +kernel
theorem dX9_looked_42 : decode cX9_looked 42 = .ok (.ireturn, 1) := by decide +kernel
theorem dX9_looked_43 : decode cX9_looked 43 = .ok (.iinc 1 1, 3) := by decide +kernel
theorem dX9_looked_46 : decode cX9_looked 46 = .ok (.goto (-44), 3) := by decide +kernel
theorem dX9_looked_49 : decode cX9_looked 49 = .ok (.bipush (-5), 2) := by decide +kernel
theorem dX9_looked_51 : decode cX9_looked 51 = .ok (.ireturn, 1) := by decide +kernel
theorem dX9_looksActs_0 : decode cX9_looksActs 0 = .ok (.aload_n 0, 1) := by decide +kernel
theorem dX9_looksActs_1 : decode cX9_looksActs 1 = .ok (.getfield 198, 3) := by decide +kernel
theorem dX9_looksActs_4 : decode cX9_looksActs 4 = .ok (.iconst 2, 1) := by decide +kernel
theorem dX9_looksActs_5 : decode cX9_looksActs 5 = .ok (.invokestatic 201, 3) := by decide +kernel
theorem dX9_looksActs_8 : decode cX9_looksActs 8 = .ok (.ifCond .eq 16, 3) := by decide +kernel
theorem dX9_looksActs_11 : decode cX9_looksActs 11 = .ok (.aload_n 0, 1) := by decide +kernel
theorem dX9_looksActs_12 : decode cX9_looksActs 12 = .ok (.bipush 21, 2) := by decide +kernel
theorem dX9_looksActs_14 : decode cX9_looksActs 14 = .ok (.invokevirtual 192, 3) := by decide +kernel
theorem dX9_looksActs_17 : decode cX9_looksActs 17 = .ok (.aload_n 0, 1) := by decide +kernel
theorem dX9_looksActs_18 : decode cX9_looksActs 18 = .ok (.iload_n 1, 1) := by decide +kernel
theorem dX9_looksActs_19 : decode cX9_looksActs 19 = .ok (.invokevirtual 213, 3) := by decide +kernel
theorem dX9_looksActs_22 : decode cX9_looksActs 22 = .ok (.ineg, 1) := by decide +kernel
theorem dX9_looksActs_23 : decode cX9_looksActs 23 = .ok (.ireturn, 1) := by decide +kernel
theorem dX9_looksActs_24 : decode cX9_looksActs 24 = .ok (.aload_n 0, 1) := by decide +kernel
theorem dX9_looksActs_25 : decode cX9_looksActs 25 = .ok (.getfield 198, 3) := by decide +kernel
theorem dX9_looksActs_28 : decode cX9_looksActs 28 = .ok (.bipush 6, 2) := by decide +kernel
theorem dX9_looksActs_30 : decode cX9_looksActs 30 = .ok (.if_icmp .ne 20, 3) := by decide +kernel
theorem dX9_looksActs_33 : decode cX9_looksActs 33 = .ok (.aload_n 0, 1) := by decide +kernel
theorem dX9_looksActs_34 : decode cX9_looksActs 34 = .ok (.bipush 61, 2) := by decide +kernel
theorem dX9_looksActs_36 : decode cX9_looksActs 36 = .ok (.invokevirtual 192, 3) := by decide +kernel
theorem dX9_looksActs_39 : decode cX9_looksActs 39 = .ok (.aload_n 0, 1) := by decide +kernel
theorem dX9_looksActs_40 : decode cX9_looksActs 40 = .ok (.iload_n 1, 1) := by decide +kernel
theorem dX9_looksActs_41 : decode cX9_looksActs 41 = .ok (.invokevirtual 213, 3) := by decide +kernel
theorem dX9_looksActs_44 : decode cX9_looksActs 44 = .ok (.aload_n 0, 1) := by decide +kernel
theorem dX9_looksActs_45 : decode cX9_looksActs 45 = .ok (.getfield 210, 3) := by decide +kernel
theorem dX9_looksActs_48 : decode cX9_looksActs 48 = .ok (.iadd, 1) := by decide +kernel
theorem dX9_looksActs_49 : decode cX9_looksActs 49 = .ok (.ireturn, 1) := by decide +kernel
theorem dX9_looksActs_50 : decode cX9_looksActs 50 = .ok (.aload_n 0, 1) := by decide +kernel
theorem dX9_looksActs_51 : decode cX9_looksActs 51 = .ok (.iload_n 1, 1) := by decide +kernel
theorem dX9_looksActs_52 : decode cX9_looksActs 52 = .ok (.invokevirtual 213, 3) := by decide +kernel
theorem dX9_looksActs_55 : decode cX9_looksActs 55 = .ok (.ireturn, 1) := by decide +kernel
theorem dX9_lowest_0 : decode cX9_lowest 0 = .ok (.lload_n 0, 1) := by decide +kernel
theorem dX9_lowest_1 : decode cX9_lowest 1 = .ok (.lconst 0, 1) := by decide +kernel
theorem dX9_lowest_2 : decode cX9_lowest 2 = .ok (.lcmp, 1) := by decide +kernel
theorem dX9_lowest_3 : decode cX9_lowest 3 = .ok (.ifCond .ge 8, 3) := by decide +kernel
theorem dX9_lowest_6 : decode cX9_lowest 6 = .ok (.lload_n 0, 1) := by decide +kernel
theorem dX9_lowest_7 : decode cX9_lowest 7 = .ok (.lneg, 1) := by decide +kernel
theorem dX9_lowest_8 : decode cX9_lowest 8 = .ok (.goto 4, 3) := by decide +kernel
theorem dX9_lowest_11 : decode cX9_lowest 11 = .ok (.lload_n 0, 1) := by decide +kernel
theorem dX9_lowest_12 : decode cX9_lowest 12 = .ok (.lstore 5, 2) := by decide +kernel
theorem dX9_lowest_14 : decode cX9_lowest 14 = .ok (.lload_n 2, 1) := by decide +kernel
theorem dX9_lowest_15 : decode cX9_lowest 15 = .ok (.lstore 7, 2) := by decide +kernel
theorem dX9_lowest_17 : decode cX9_lowest 17 = .ok (.lload 7, 2) := by decide +kernel
theorem dX9_lowest_19 : decode cX9_lowest 19 = .ok (.lconst 0, 1) := by decide +kernel
theorem dX9_lowest_20 : decode cX9_lowest 20 = .ok (.lcmp, 1) := by decide +kernel
theorem dX9_lowest_21 : decode cX9_lowest 21 = .ok (.ifCond .eq 21, 3) := by decide +kernel
theorem dX9_lowest_24 : decode cX9_lowest 24 = .ok (.lload 5, 2) := by decide +kernel
theorem dX9_lowest_26 : decode cX9_lowest 26 = .ok (.lload 7, 2) := by decide +kernel
theorem dX9_lowest_28 : decode cX9_lowest 28 = .ok (.lrem, 1) := by decide +kernel
theorem dX9_lowest_29 : decode cX9_lowest 29 = .ok (.lstore 9, 2) := by decide +kernel
theorem dX9_lowest_31 : decode cX9_lowest 31 = .ok (.lload 7, 2) := by decide +kernel
theorem dX9_lowest_33 : decode cX9_lowest 33 = .ok (.lstore 5, 2) := by decide +kernel
theorem dX9_lowest_35 : decode cX9_lowest 35 = .ok (.lload 9, 2) := by decide +kernel
theorem dX9_lowest_37 : decode cX9_lowest 37 = .ok (.lstore 7, 2) := by decide +kernel
theorem dX9_lowest_39 : decode cX9_lowest 39 = .ok (.goto (-22), 3) := by decide +kernel
theorem dX9_lowest_42 : decode cX9_lowest 42 = .ok (.iload 4, 2) := by decide +kernel
theorem dX9_lowest_44 : decode cX9_lowest 44 = .ok (.ifCond .ne 7, 3) := by decide +kernel
theorem dX9_lowest_47 : decode cX9_lowest 47 = .ok (.lload_n 0, 1) := by decide +kernel
theorem dX9_lowest_48 : decode cX9_lowest 48 = .ok (.goto 4, 3) := by decide +kernel
theorem dX9_lowest_51 : decode cX9_lowest 51 = .ok (.lload_n 2, 1) := by decide +kernel
theorem dX9_lowest_52 : decode cX9_lowest 52 = .ok (.lload 5, 2) := by decide +kernel
theorem dX9_lowest_54 : decode cX9_lowest 54 = .ok (.ldiv, 1) := by decide +kernel
theorem dX9_lowest_55 : decode cX9_lowest 55 = .ok (.lreturn, 1) := by decide +kernel
theorem dX9_lureOf_0 : decode cX9_lureOf 0 = .ok (.aload_n 0, 1) := by decide +kernel
theorem dX9_lureOf_1 : decode cX9_lureOf 1 = .ok (.getfield 21, 3) := by decide +kernel
theorem dX9_lureOf_4 : decode cX9_lureOf 4 = .ok (.iconst 0, 1) := by decide +kernel
theorem dX9_lureOf_5 : decode cX9_lureOf 5 = .ok (.iload_n 1, 1) := by decide +kernel
theorem dX9_lureOf_6 : decode cX9_lureOf 6 = .ok (.iastore, 1) := by decide +kernel
theorem dX9_lureOf_7 : decode cX9_lureOf 7 = .ok (.aload_n 0, 1) := by decide +kernel
theorem dX9_lureOf_8 : decode cX9_lureOf 8 = .ok (.getfield 21, 3) := by decide +kernel
theorem dX9_lureOf_11 : decode cX9_lureOf 11 = .ok (.iconst 1, 1) := by decide +kernel
theorem dX9_lureOf_12 : decode cX9_lureOf 12 = .ok (.aload_n 0, 1) := by decide +kernel
theorem dX9_lureOf_13 : decode cX9_lureOf 13 = .ok (.getfield 9, 3) := by decide +kernel
theorem dX9_lureOf_16 : decode cX9_lureOf 16 = .ok (.bipush 38, 2) := by decide +kernel
theorem dX9_lureOf_18 : decode cX9_lureOf 18 = .ok (.iload_n 1, 1) := by decide +kernel
theorem dX9_lureOf_19 : decode cX9_lureOf 19 = .ok (.iadd, 1) := by decide +kernel
theorem dX9_lureOf_20 : decode cX9_lureOf 20 = .ok (.iaload, 1) := by decide +kernel
theorem dX9_lureOf_21 : decode cX9_lureOf 21 = .ok (.iastore, 1) := by decide +kernel
theorem dX9_lureOf_22 : decode cX9_lureOf 22 = .ok (.aload_n 0, 1) := by decide +kernel
theorem dX9_lureOf_23 : decode cX9_lureOf 23 = .ok (.getfield 21, 3) := by decide +kernel
theorem dX9_lureOf_26 : decode cX9_lureOf 26 = .ok (.iconst 2, 1) := by decide +kernel
theorem dX9_lureOf_27 : decode cX9_lureOf 27 = .ok (.aload_n 0, 1) := by decide +kernel
theorem dX9_lureOf_28 : decode cX9_lureOf 28 = .ok (.getfield 9, 3) := by decide +kernel
theorem dX9_lureOf_31 : decode cX9_lureOf 31 = .ok (.bipush 44, 2) := by decide +kernel
theorem dX9_lureOf_33 : decode cX9_lureOf 33 = .ok (.iload_n 1, 1) := by decide +kernel
theorem dX9_lureOf_34 : decode cX9_lureOf 34 = .ok (.iadd, 1) := by decide +kernel
theorem dX9_lureOf_35 : decode cX9_lureOf 35 = .ok (.iaload, 1) := by decide +kernel
theorem dX9_lureOf_36 : decode cX9_lureOf 36 = .ok (.iastore, 1) := by decide +kernel
theorem dX9_lureOf_37 : decode cX9_lureOf 37 = .ok (.aload_n 0, 1) := by decide +kernel
theorem dX9_lureOf_38 : decode cX9_lureOf 38 = .ok (.getfield 21, 3) := by decide +kernel
theorem dX9_lureOf_41 : decode cX9_lureOf 41 = .ok (.iconst 3, 1) := by decide +kernel
theorem dX9_lureOf_42 : decode cX9_lureOf 42 = .ok (.aload_n 0, 1) := by decide +kernel
theorem dX9_lureOf_43 : decode cX9_lureOf 43 = .ok (.getfield 9, 3) := by decide +kernel
theorem dX9_lureOf_46 : decode cX9_lureOf 46 = .ok (.bipush 18, 2) := by decide +kernel
theorem dX9_lureOf_48 : decode cX9_lureOf 48 = .ok (.iload_n 1, 1) := by decide +kernel
theorem dX9_lureOf_49 : decode cX9_lureOf 49 = .ok (.iadd, 1) := by decide +kernel
theorem dX9_lureOf_50 : decode cX9_lureOf 50 = .ok (.iaload, 1) := by decide +kernel
theorem dX9_lureOf_51 : decode cX9_lureOf 51 = .ok (.iload_n 2, 1) := by decide +kernel
theorem dX9_lureOf_52 : decode cX9_lureOf 52 = .ok (.invokestatic 119, 3) := by decide +kernel
theorem dX9_lureOf_55 : decode cX9_lureOf 55 = .ok (.iastore, 1) := by decide +kernel
theorem dX9_lureOf_56 : decode cX9_lureOf 56 = .ok (.aload_n 0, 1) := by decide +kernel
theorem dX9_lureOf_57 : decode cX9_lureOf 57 = .ok (.getfield 21, 3) := by decide +kernel
theorem dX9_lureOf_60 : decode cX9_lureOf 60 = .ok (.iconst 4, 1) := by decide +kernel
theorem dX9_lureOf_61 : decode cX9_lureOf 61 = .ok (.iload_n 2, 1) := by decide +kernel
theorem dX9_lureOf_62 : decode cX9_lureOf 62 = .ok (.iastore, 1) := by decide +kernel
theorem dX9_lureOf_63 : decode cX9_lureOf 63 = .ok (.aload_n 0, 1) := by decide +kernel
theorem dX9_lureOf_64 : decode cX9_lureOf 64 = .ok (.getfield 21, 3) := by decide +kernel
theorem dX9_lureOf_67 : decode cX9_lureOf 67 = .ok (.iconst 5, 1) := by decide +kernel
theorem dX9_lureOf_68 : decode cX9_lureOf 68 = .ok (.aload_n 0, 1) := by decide +kernel
theorem dX9_lureOf_69 : decode cX9_lureOf 69 = .ok (.getfield 9, 3) := by decide +kernel
theorem dX9_lureOf_72 : decode cX9_lureOf 72 = .ok (.iconst 0, 1) := by decide +kernel
theorem dX9_lureOf_73 : decode cX9_lureOf 73 = .ok (.iaload, 1) := by decide +kernel
theorem dX9_lureOf_74 : decode cX9_lureOf 74 = .ok (.bipush 10, 2) := by decide +kernel
theorem dX9_lureOf_76 : decode cX9_lureOf 76 = .ok (.irem, 1) := by decide +kernel
theorem dX9_lureOf_77 : decode cX9_lureOf 77 = .ok (.iastore, 1) := by decide +kernel
theorem dX9_lureOf_78 : decode cX9_lureOf 78 = .ok (.bipush 6, 2) := by decide +kernel
theorem dX9_lureOf_80 : decode cX9_lureOf 80 = .ok (.istore_n 3, 1) := by decide +kernel
theorem dX9_lureOf_81 : decode cX9_lureOf 81 = .ok (.aload_n 0, 1) := by decide +kernel
theorem dX9_lureOf_82 : decode cX9_lureOf 82 = .ok (.sipush 231, 3) := by decide +kernel
theorem dX9_lureOf_85 : decode cX9_lureOf 85 = .ok (.iconst 0, 1) := by decide +kernel
theorem dX9_lureOf_86 : decode cX9_lureOf 86 = .ok (.invokevirtual 123, 3) := by decide +kernel
theorem dX9_lureOf_89 : decode cX9_lureOf 89 = .ok (.istore 4, 2) := by decide +kernel
theorem dX9_lureOf_91 : decode cX9_lureOf 91 = .ok (.sipush 236, 3) := by decide +kernel
theorem dX9_lureOf_94 : decode cX9_lureOf 94 = .ok (.sipush 140, 3) := by decide +kernel
theorem dX9_lureOf_97 : decode cX9_lureOf 97 = .ok (.aload_n 0, 1) := by decide +kernel
theorem dX9_lureOf_98 : decode cX9_lureOf 98 = .ok (.getfield 9, 3) := by decide +kernel
theorem dX9_lureOf_101 : decode cX9_lureOf 101 = .ok (.bipush 37, 2) := by decide +kernel
theorem dX9_lureOf_103 : decode cX9_lureOf 103 = .ok (.iaload, 1) := by decide +kernel
theorem dX9_lureOf_104 : decode cX9_lureOf 104 = .ok (.imul, 1) := by decide +kernel
theorem dX9_lureOf_105 : decode cX9_lureOf 105 = .ok (.iadd, 1) := by decide +kernel
theorem dX9_lureOf_106 : decode cX9_lureOf 106 = .ok (.istore 5, 2) := by decide +kernel
theorem dX9_lureOf_108 : decode cX9_lureOf 108 = .ok (.iconst 0, 1) := by decide +kernel
theorem dX9_lureOf_109 : decode cX9_lureOf 109 = .ok (.istore 6, 2) := by decide +kernel
theorem dX9_lureOf_111 : decode cX9_lureOf 111 = .ok (.iload 5, 2) := by decide +kernel
theorem dX9_lureOf_113 : decode cX9_lureOf 113 = .ok (.istore 7, 2) := by decide +kernel
theorem dX9_lureOf_115 : decode cX9_lureOf 115 = .ok (.iload 7, 2) := by decide +kernel
theorem dX9_lureOf_117 : decode cX9_lureOf 117 = .ok (.iload 5, 2) := by decide +kernel
theorem dX9_lureOf_119 : decode cX9_lureOf 119 = .ok (.iload 4, 2) := by decide +kernel
theorem dX9_lureOf_121 : decode cX9_lureOf 121 = .ok (.iadd, 1) := by decide +kernel
theorem dX9_lureOf_122 : decode cX9_lureOf 122 = .ok (.if_icmp .ge 300, 3) := by decide +kernel
theorem dX9_lureOf_125 : decode cX9_lureOf 125 = .ok (.aload_n 0, 1) := by decide +kernel
theorem dX9_lureOf_126 : decode cX9_lureOf 126 = .ok (.getfield 9, 3) := by decide +kernel
theorem dX9_lureOf_129 : decode cX9_lureOf 129 = .ok (.iload 7, 2) := by decide +kernel
theorem dX9_lureOf_131 : decode cX9_lureOf 131 = .ok (.iaload, 1) := by decide +kernel
theorem dX9_lureOf_132 : decode cX9_lureOf 132 = .ok (.istore 8, 2) := by decide +kernel
theorem dX9_lureOf_134 : decode cX9_lureOf 134 = .ok (.iload 8, 2) := by decide +kernel
theorem dX9_lureOf_136 : decode cX9_lureOf 136 = .ok (.ifCond .lt 97, 3) := by decide +kernel
theorem dX9_lureOf_139 : decode cX9_lureOf 139 = .ok (.aload_n 0, 1) := by decide +kernel
theorem dX9_lureOf_140 : decode cX9_lureOf 140 = .ok (.getfield 21, 3) := by decide +kernel
theorem dX9_lureOf_143 : decode cX9_lureOf 143 = .ok (.iload 8, 2) := by decide +kernel
theorem dX9_lureOf_145 : decode cX9_lureOf 145 = .ok (.bipush 8, 2) := by decide +kernel
theorem dX9_lureOf_147 : decode cX9_lureOf 147 = .ok (.irem, 1) := by decide +kernel
theorem dX9_lureOf_148 : decode cX9_lureOf 148 = .ok (.iaload, 1) := by decide +kernel
theorem dX9_lureOf_149 : decode cX9_lureOf 149 = .ok (.istore 9, 2) := by decide +kernel
theorem dX9_lureOf_151 : decode cX9_lureOf 151 = .ok (.iload 8, 2) := by decide +kernel
theorem dX9_lureOf_153 : decode cX9_lureOf 153 = .ok (.bipush 8, 2) := by decide +kernel
theorem dX9_lureOf_155 : decode cX9_lureOf 155 = .ok (.idiv, 1) := by decide +kernel
theorem dX9_lureOf_156 : decode cX9_lureOf 156 = .ok (.iconst 4, 1) := by decide +kernel
theorem dX9_lureOf_157 : decode cX9_lureOf 157 = .ok (.irem, 1) := by decide +kernel
theorem dX9_lureOf_158 : decode cX9_lureOf 158 = .ok (.istore 10, 2) := by decide +kernel
theorem dX9_lureOf_160 : decode cX9_lureOf 160 = .ok (.iload 8, 2) := by decide +kernel
theorem dX9_lureOf_162 : decode cX9_lureOf 162 = .ok (.bipush 32, 2) := by decide +kernel
theorem dX9_lureOf_164 : decode cX9_lureOf 164 = .ok (.idiv, 1) := by decide +kernel
theorem dX9_lureOf_165 : decode cX9_lureOf 165 = .ok (.istore 11, 2) := by decide +kernel
theorem dX9_lureOf_167 : decode cX9_lureOf 167 = .ok (.aload_n 0, 1) := by decide +kernel
theorem dX9_lureOf_168 : decode cX9_lureOf 168 = .ok (.getfield 24, 3) := by decide +kernel
theorem dX9_lureOf_171 : decode cX9_lureOf 171 = .ok (.iload 6, 2) := by decide +kernel
theorem dX9_lureOf_173 : decode cX9_lureOf 173 = .ok (.iload 10, 2) := by decide +kernel
theorem dX9_lureOf_175 : decode cX9_lureOf 175 = .ok (.ifCond .ne 18, 3) := by decide +kernel
theorem dX9_lureOf_178 : decode cX9_lureOf 178 = .ok (.iload 9, 2) := by decide +kernel
theorem dX9_lureOf_180 : decode cX9_lureOf 180 = .ok (.iload 11, 2) := by decide +kernel
theorem dX9_lureOf_182 : decode cX9_lureOf 182 = .ok (.if_icmp .ge 7, 3) := by decide +kernel
theorem dX9_lureOf_185 : decode cX9_lureOf 185 = .ok (.iconst 1, 1) := by decide +kernel
theorem dX9_lureOf_186 : decode cX9_lureOf 186 = .ok (.goto 40, 3) := by decide +kernel
theorem dX9_lureOf_189 : decode cX9_lureOf 189 = .ok (.iconst 0, 1) := by decide +kernel
theorem dX9_lureOf_190 : decode cX9_lureOf 190 = .ok (.goto 36, 3) := by decide +kernel
theorem dX9_lureOf_193 : decode cX9_lureOf 193 = .ok (.iload 10, 2) := by decide +kernel
theorem dX9_lureOf_195 : decode cX9_lureOf 195 = .ok (.iconst 1, 1) := by decide +kernel
theorem dX9_lureOf_196 : decode cX9_lureOf 196 = .ok (.if_icmp .ne 18, 3) := by decide +kernel
theorem dX9_lureOf_199 : decode cX9_lureOf 199 = .ok (.iload 9, 2) := by decide +kernel
theorem dX9_lureOf_201 : decode cX9_lureOf 201 = .ok (.iload 11, 2) := by decide +kernel
theorem dX9_lureOf_203 : decode cX9_lureOf 203 = .ok (.if_icmp .ne 7, 3) := by decide +kernel
theorem dX9_lureOf_206 : decode cX9_lureOf 206 = .ok (.iconst 1, 1) := by decide +kernel
theorem dX9_lureOf_207 : decode cX9_lureOf 207 = .ok (.goto 19, 3) := by decide +kernel
theorem dX9_lureOf_210 : decode cX9_lureOf 210 = .ok (.iconst 0, 1) := by decide +kernel
theorem dX9_lureOf_211 : decode cX9_lureOf 211 = .ok (.goto 15, 3) := by decide +kernel
theorem dX9_lureOf_214 : decode cX9_lureOf 214 = .ok (.iload 9, 2) := by decide +kernel
theorem dX9_lureOf_216 : decode cX9_lureOf 216 = .ok (.iload 11, 2) := by decide +kernel
theorem dX9_lureOf_218 : decode cX9_lureOf 218 = .ok (.if_icmp .le 7, 3) := by decide +kernel
theorem dX9_lureOf_221 : decode cX9_lureOf 221 = .ok (.iconst 1, 1) := by decide +kernel
theorem dX9_lureOf_222 : decode cX9_lureOf 222 = .ok (.goto 4, 3) := by decide +kernel
theorem dX9_lureOf_225 : decode cX9_lureOf 225 = .ok (.iconst 0, 1) := by decide +kernel
theorem dX9_lureOf_226 : decode cX9_lureOf 226 = .ok (.bastore, 1) := by decide +kernel
theorem dX9_lureOf_227 : decode cX9_lureOf 227 = .ok (.iinc 6 1, 3) := by decide +kernel
theorem dX9_lureOf_230 : decode cX9_lureOf 230 = .ok (.goto 186, 3) := by decide +kernel
theorem dX9_lureOf_233 : decode cX9_lureOf 233 = .ok (.iload 8, 2) := by decide +kernel
theorem dX9_lureOf_235 : decode cX9_lureOf 235 = .ok (.iconst (-1), 1) := by decide +kernel
theorem dX9_lureOf_236 : decode cX9_lureOf 236 = .ok (.if_icmp .ne 32, 3) := by decide +kernel
theorem dX9_lureOf_239 : decode cX9_lureOf 239 = .ok (.aload_n 0, 1) := by decide +kernel
theorem dX9_lureOf_240 : decode cX9_lureOf 240 = .ok (.getfield 24, 3) := by decide +kernel
theorem dX9_lureOf_243 : decode cX9_lureOf 243 = .ok (.iload 6, 2) := by decide +kernel
theorem dX9_lureOf_245 : decode cX9_lureOf 245 = .ok (.iconst 1, 1) := by decide +kernel
theorem dX9_lureOf_246 : decode cX9_lureOf 246 = .ok (.isub, 1) := by decide +kernel
theorem dX9_lureOf_247 : decode cX9_lureOf 247 = .ok (.aload_n 0, 1) := by decide +kernel
theorem dX9_lureOf_248 : decode cX9_lureOf 248 = .ok (.getfield 24, 3) := by decide +kernel
theorem dX9_lureOf_251 : decode cX9_lureOf 251 = .ok (.iload 6, 2) := by decide +kernel
theorem dX9_lureOf_253 : decode cX9_lureOf 253 = .ok (.iconst 1, 1) := by decide +kernel
theorem dX9_lureOf_254 : decode cX9_lureOf 254 = .ok (.isub, 1) := by decide +kernel
theorem dX9_lureOf_255 : decode cX9_lureOf 255 = .ok (.baload, 1) := by decide +kernel
theorem dX9_lureOf_256 : decode cX9_lureOf 256 = .ok (.ifCond .ne 7, 3) := by decide +kernel
theorem dX9_lureOf_259 : decode cX9_lureOf 259 = .ok (.iconst 1, 1) := by decide +kernel
theorem dX9_lureOf_260 : decode cX9_lureOf 260 = .ok (.goto 4, 3) := by decide +kernel
theorem dX9_lureOf_263 : decode cX9_lureOf 263 = .ok (.iconst 0, 1) := by decide +kernel
theorem dX9_lureOf_264 : decode cX9_lureOf 264 = .ok (.bastore, 1) := by decide +kernel
theorem dX9_lureOf_265 : decode cX9_lureOf 265 = .ok (.goto 151, 3) := by decide +kernel
theorem dX9_lureOf_268 : decode cX9_lureOf 268 = .ok (.iload 8, 2) := by decide +kernel
theorem dX9_lureOf_270 : decode cX9_lureOf 270 = .ok (.bipush (-10), 2) := by decide +kernel
theorem dX9_lureOf_272 : decode cX9_lureOf 272 = .ok (.if_icmp .le 82, 3) := by decide +kernel
theorem dX9_lureOf_275 : decode cX9_lureOf 275 = .ok (.iinc 6 (-1), 3) := by decide +kernel
theorem dX9_lureOf_278 : decode cX9_lureOf 278 = .ok (.aload_n 0, 1) := by decide +kernel
theorem dX9_lureOf_279 : decode cX9_lureOf 279 = .ok (.getfield 24, 3) := by decide +kernel
theorem dX9_lureOf_282 : decode cX9_lureOf 282 = .ok (.iload 6, 2) := by decide +kernel
theorem dX9_lureOf_284 : decode cX9_lureOf 284 = .ok (.iconst 1, 1) := by decide +kernel
theorem dX9_lureOf_285 : decode cX9_lureOf 285 = .ok (.isub, 1) := by decide +kernel
theorem dX9_lureOf_286 : decode cX9_lureOf 286 = .ok (.iload 8, 2) := by decide +kernel
theorem dX9_lureOf_288 : decode cX9_lureOf 288 = .ok (.bipush (-2), 2) := by decide +kernel
theorem dX9_lureOf_290 : decode cX9_lureOf 290 = .ok (.if_icmp .ne 33, 3) := by decide +kernel
theorem dX9_lureOf_293 : decode cX9_lureOf 293 = .ok (.aload_n 0, 1) := by decide +kernel
theorem dX9_lureOf_294 : decode cX9_lureOf 294 = .ok (.getfield 24, 3) := by decide +kernel
theorem dX9_lureOf_297 : decode cX9_lureOf 297 = .ok (.iload 6, 2) := by decide +kernel
theorem dX9_lureOf_299 : decode cX9_lureOf 299 = .ok (.iconst 1, 1) := by decide +kernel
theorem dX9_lureOf_300 : decode cX9_lureOf 300 = .ok (.isub, 1) := by decide +kernel
theorem dX9_lureOf_301 : decode cX9_lureOf 301 = .ok (.baload, 1) := by decide +kernel
theorem dX9_lureOf_302 : decode cX9_lureOf 302 = .ok (.ifCond .eq 17, 3) := by decide +kernel
theorem dX9_lureOf_305 : decode cX9_lureOf 305 = .ok (.aload_n 0, 1) := by decide +kernel
theorem dX9_lureOf_306 : decode cX9_lureOf 306 = .ok (.getfield 24, 3) := by decide +kernel
theorem dX9_lureOf_309 : decode cX9_lureOf 309 = .ok (.iload 6, 2) := by decide +kernel
theorem dX9_lureOf_311 : decode cX9_lureOf 311 = .ok (.baload, 1) := by decide +kernel
theorem dX9_lureOf_312 : decode cX9_lureOf 312 = .ok (.ifCond .eq 7, 3) := by decide +kernel
theorem dX9_lureOf_315 : decode cX9_lureOf 315 = .ok (.iconst 1, 1) := by decide +kernel
theorem dX9_lureOf_316 : decode cX9_lureOf 316 = .ok (.goto 34, 3) := by decide +kernel
theorem dX9_lureOf_319 : decode cX9_lureOf 319 = .ok (.iconst 0, 1) := by decide +kernel
theorem dX9_lureOf_320 : decode cX9_lureOf 320 = .ok (.goto 30, 3) := by decide +kernel
theorem dX9_lureOf_323 : decode cX9_lureOf 323 = .ok (.aload_n 0, 1) := by decide +kernel
theorem dX9_lureOf_324 : decode cX9_lureOf 324 = .ok (.getfield 24, 3) := by decide +kernel
theorem dX9_lureOf_327 : decode cX9_lureOf 327 = .ok (.iload 6, 2) := by decide +kernel
theorem dX9_lureOf_329 : decode cX9_lureOf 329 = .ok (.iconst 1, 1) := by decide +kernel
theorem dX9_lureOf_330 : decode cX9_lureOf 330 = .ok (.isub, 1) := by decide +kernel
theorem dX9_lureOf_331 : decode cX9_lureOf 331 = .ok (.baload, 1) := by decide +kernel
theorem dX9_lureOf_332 : decode cX9_lureOf 332 = .ok (.ifCond .ne 13, 3) := by decide +kernel
theorem dX9_lureOf_335 : decode cX9_lureOf 335 = .ok (.aload_n 0, 1) := by decide +kernel
theorem dX9_lureOf_336 : decode cX9_lureOf 336 = .ok (.getfield 24, 3) := by decide +kernel
theorem dX9_lureOf_339 : decode cX9_lureOf 339 = .ok (.iload 6, 2) := by decide +kernel
theorem dX9_lureOf_341 : decode cX9_lureOf 341 = .ok (.baload, 1) := by decide +kernel
theorem dX9_lureOf_342 : decode cX9_lureOf 342 = .ok (.ifCond .eq 7, 3) := by decide +kernel
theorem dX9_lureOf_345 : decode cX9_lureOf 345 = .ok (.iconst 1, 1) := by decide +kernel
theorem dX9_lureOf_346 : decode cX9_lureOf 346 = .ok (.goto 4, 3) := by decide +kernel
theorem dX9_lureOf_349 : decode cX9_lureOf 349 = .ok (.iconst 0, 1) := by decide +kernel
theorem dX9_lureOf_350 : decode cX9_lureOf 350 = .ok (.bastore, 1) := by decide +kernel
theorem dX9_lureOf_351 : decode cX9_lureOf 351 = .ok (.goto 65, 3) := by decide +kernel
theorem dX9_lureOf_354 : decode cX9_lureOf 354 = .ok (.iconst 0, 1) := by decide +kernel
theorem dX9_lureOf_355 : decode cX9_lureOf 355 = .ok (.istore 6, 2) := by decide +kernel
theorem dX9_lureOf_357 : decode cX9_lureOf 357 = .ok (.aload_n 0, 1) := by decide +kernel
theorem dX9_lureOf_358 : decode cX9_lureOf 358 = .ok (.getfield 24, 3) := by decide +kernel
theorem dX9_lureOf_361 : decode cX9_lureOf 361 = .ok (.iconst 0, 1) := by decide +kernel
theorem dX9_lureOf_362 : decode cX9_lureOf 362 = .ok (.baload, 1) := by decide +kernel
theorem dX9_lureOf_363 : decode cX9_lureOf 363 = .ok (.istore 9, 2) := by decide +kernel
theorem dX9_lureOf_365 : decode cX9_lureOf 365 = .ok (.iload_n 3, 1) := by decide +kernel
theorem dX9_lureOf_366 : decode cX9_lureOf 366 = .ok (.iload 9, 2) := by decide +kernel
theorem dX9_lureOf_368 : decode cX9_lureOf 368 = .ok (.ifCond .eq 19, 3) := by decide +kernel
theorem dX9_lureOf_371 : decode cX9_lureOf 371 = .ok (.iload 8, 2) := by decide +kernel
theorem dX9_lureOf_373 : decode cX9_lureOf 373 = .ok (.sipush (-200), 3) := by decide +kernel
theorem dX9_lureOf_376 : decode cX9_lureOf 376 = .ok (.if_icmp .le 11, 3) := by decide +kernel
theorem dX9_lureOf_379 : decode cX9_lureOf 379 = .ok (.bipush (-10), 2) := by decide +kernel
theorem dX9_lureOf_381 : decode cX9_lureOf 381 = .ok (.iload 8, 2) := by decide +kernel
theorem dX9_lureOf_383 : decode cX9_lureOf 383 = .ok (.isub, 1) := by decide +kernel
theorem dX9_lureOf_384 : decode cX9_lureOf 384 = .ok (.goto 4, 3) := by decide +kernel
theorem dX9_lureOf_387 : decode cX9_lureOf 387 = .ok (.iconst 0, 1) := by decide +kernel
theorem dX9_lureOf_388 : decode cX9_lureOf 388 = .ok (.iadd, 1) := by decide +kernel
theorem dX9_lureOf_389 : decode cX9_lureOf 389 = .ok (.istore_n 3, 1) := by decide +kernel
theorem dX9_lureOf_390 : decode cX9_lureOf 390 = .ok (.iload_n 3, 1) := by decide +kernel
theorem dX9_lureOf_391 : decode cX9_lureOf 391 = .ok (.iload 9, 2) := by decide +kernel
theorem dX9_lureOf_393 : decode cX9_lureOf 393 = .ok (.ifCond .eq 20, 3) := by decide +kernel
theorem dX9_lureOf_396 : decode cX9_lureOf 396 = .ok (.iload 8, 2) := by decide +kernel
theorem dX9_lureOf_398 : decode cX9_lureOf 398 = .ok (.sipush (-200), 3) := by decide +kernel
theorem dX9_lureOf_401 : decode cX9_lureOf 401 = .ok (.if_icmp .gt 12, 3) := by decide +kernel
theorem dX9_lureOf_404 : decode cX9_lureOf 404 = .ok (.sipush (-200), 3) := by decide +kernel
theorem dX9_lureOf_407 : decode cX9_lureOf 407 = .ok (.iload 8, 2) := by decide +kernel
theorem dX9_lureOf_409 : decode cX9_lureOf 409 = .ok (.isub, 1) := by decide +kernel
theorem dX9_lureOf_410 : decode cX9_lureOf 410 = .ok (.goto 4, 3) := by decide +kernel
theorem dX9_lureOf_413 : decode cX9_lureOf 413 = .ok (.iconst 0, 1) := by decide +kernel
theorem dX9_lureOf_414 : decode cX9_lureOf 414 = .ok (.isub, 1) := by decide +kernel
theorem dX9_lureOf_415 : decode cX9_lureOf 415 = .ok (.istore_n 3, 1) := by decide +kernel
theorem dX9_lureOf_416 : decode cX9_lureOf 416 = .ok (.iinc 7 1, 3) := by decide +kernel
theorem dX9_lureOf_419 : decode cX9_lureOf 419 = .ok (.goto (-304), 3) := by decide +kernel
theorem dX9_lureOf_422 : decode cX9_lureOf 422 = .ok (.iload_n 3, 1) := by decide +kernel
theorem dX9_lureOf_423 : decode cX9_lureOf 423 = .ok (.ireturn, 1) := by decide +kernel
theorem dX9_manyLain_0 : decode cX9_manyLain 0 = .ok (.iconst 0, 1) := by decide +kernel
theorem dX9_manyLain_1 : decode cX9_manyLain 1 = .ok (.istore_n 1, 1) := by decide +kernel
theorem dX9_manyLain_2 : decode cX9_manyLain 2 = .ok (.iconst 0, 1) := by decide +kernel
theorem dX9_manyLain_3 : decode cX9_manyLain 3 = .ok (.istore_n 2, 1) := by decide +kernel
theorem dX9_manyLain_4 : decode cX9_manyLain 4 = .ok (.iload_n 2, 1) := by decide +kernel
theorem dX9_manyLain_5 : decode cX9_manyLain 5 = .ok (.bipush 16, 2) := by decide +kernel
theorem dX9_manyLain_7 : decode cX9_manyLain 7 = .ok (.if_icmp .ge 28, 3) := by decide +kernel
theorem dX9_manyLain_10 : decode cX9_manyLain 10 = .ok (.iload_n 1, 1) := by decide +kernel
theorem dX9_manyLain_11 : decode cX9_manyLain 11 = .ok (.aload_n 0, 1) := by decide +kernel
theorem dX9_manyLain_12 : decode cX9_manyLain 12 = .ok (.getfield 9, 3) := by decide +kernel
theorem dX9_manyLain_15 : decode cX9_manyLain 15 = .ok (.iconst 2, 1) := by decide +kernel
theorem dX9_manyLain_16 : decode cX9_manyLain 16 = .ok (.iload_n 2, 1) := by decide +kernel
theorem dX9_manyLain_17 : decode cX9_manyLain 17 = .ok (.iadd, 1) := by decide +kernel
theorem dX9_manyLain_18 : decode cX9_manyLain 18 = .ok (.iaload, 1) := by decide +kernel
theorem dX9_manyLain_19 : decode cX9_manyLain 19 = .ok (.ifCond .le 7, 3) := by decide +kernel
theorem dX9_manyLain_22 : decode cX9_manyLain 22 = .ok (.iconst 1, 1) := by decide +kernel
theorem dX9_manyLain_23 : decode cX9_manyLain 23 = .ok (.goto 4, 3) := by decide +kernel
theorem dX9_manyLain_26 : decode cX9_manyLain 26 = .ok (.iconst 0, 1) := by decide +kernel
theorem dX9_manyLain_27 : decode cX9_manyLain 27 = .ok (.iadd, 1) := by decide +kernel
theorem dX9_manyLain_28 : decode cX9_manyLain 28 = .ok (.istore_n 1, 1) := by decide +kernel
theorem dX9_manyLain_29 : decode cX9_manyLain 29 = .ok (.iinc 2 1, 3) := by decide +kernel
theorem dX9_manyLain_32 : decode cX9_manyLain 32 = .ok (.goto (-28), 3) := by decide +kernel
theorem dX9_manyLain_35 : decode cX9_manyLain 35 = .ok (.iload_n 1, 1) := by decide +kernel
theorem dX9_manyLain_36 : decode cX9_manyLain 36 = .ok (.ireturn, 1) := by decide +kernel
theorem dX9_mean_0 : decode cX9_mean 0 = .ok (.iconst 0, 1) := by decide +kernel
theorem dX9_mean_1 : decode cX9_mean 1 = .ok (.istore_n 3, 1) := by decide +kernel
theorem dX9_mean_2 : decode cX9_mean 2 = .ok (.iconst 0, 1) := by decide +kernel
theorem dX9_mean_3 : decode cX9_mean 3 = .ok (.istore 4, 2) := by decide +kernel
theorem dX9_mean_5 : decode cX9_mean 5 = .ok (.iload 4, 2) := by decide +kernel
theorem dX9_mean_7 : decode cX9_mean 7 = .ok (.aload_n 0, 1) := by decide +kernel
theorem dX9_mean_8 : decode cX9_mean 8 = .ok (.getfield 9, 3) := by decide +kernel
theorem dX9_mean_11 : decode cX9_mean 11 = .ok (.bipush 30, 2) := by decide +kernel
theorem dX9_mean_13 : decode cX9_mean 13 = .ok (.iaload, 1) := by decide +kernel
theorem dX9_mean_14 : decode cX9_mean 14 = .ok (.if_icmp .ge 30, 3) := by decide +kernel
theorem dX9_mean_17 : decode cX9_mean 17 = .ok (.iload_n 3, 1) := by decide +kernel
theorem dX9_mean_18 : decode cX9_mean 18 = .ok (.aload_n 0, 1) := by decide +kernel
theorem dX9_mean_19 : decode cX9_mean 19 = .ok (.getfield 9, 3) := by decide +kernel
theorem dX9_mean_22 : decode cX9_mean 22 = .ok (.bipush 24, 2) := by decide +kernel
theorem dX9_mean_24 : decode cX9_mean 24 = .ok (.iload 4, 2) := by decide +kernel
theorem dX9_mean_26 : decode cX9_mean 26 = .ok (.iadd, 1) := by decide +kernel
theorem dX9_mean_27 : decode cX9_mean 27 = .ok (.iaload, 1) := by decide +kernel
theorem dX9_mean_28 : decode cX9_mean 28 = .ok (.ifCond .ne 7, 3) := by decide +kernel
theorem dX9_mean_31 : decode cX9_mean 31 = .ok (.iconst 1, 1) := by decide +kernel
theorem dX9_mean_32 : decode cX9_mean 32 = .ok (.goto 4, 3) := by decide +kernel
theorem dX9_mean_35 : decode cX9_mean 35 = .ok (.iconst 0, 1) := by decide +kernel
theorem dX9_mean_36 : decode cX9_mean 36 = .ok (.iadd, 1) := by decide +kernel
theorem dX9_mean_37 : decode cX9_mean 37 = .ok (.istore_n 3, 1) := by decide +kernel
theorem dX9_mean_38 : decode cX9_mean 38 = .ok (.iinc 4 1, 3) := by decide +kernel
theorem dX9_mean_41 : decode cX9_mean 41 = .ok (.goto (-36), 3) := by decide +kernel
theorem dX9_mean_44 : decode cX9_mean 44 = .ok (.iload_n 1, 1) := by decide +kernel
theorem dX9_mean_45 : decode cX9_mean 45 = .ok (.iconst 0, 1) := by decide +kernel
theorem dX9_mean_46 : decode cX9_mean 46 = .ok (.bipush 60, 2) := by decide +kernel
theorem dX9_mean_48 : decode cX9_mean 48 = .ok (.invokestatic 35, 3) := by decide +kernel
theorem dX9_mean_51 : decode cX9_mean 51 = .ok (.ifCond .eq 16, 3) := by decide +kernel
theorem dX9_mean_54 : decode cX9_mean 54 = .ok (.iload_n 2, 1) := by decide +kernel
theorem dX9_mean_55 : decode cX9_mean 55 = .ok (.iconst 0, 1) := by decide +kernel
theorem dX9_mean_56 : decode cX9_mean 56 = .ok (.iconst 1, 1) := by decide +kernel
theorem dX9_mean_57 : decode cX9_mean 57 = .ok (.invokestatic 35, 3) := by decide +kernel
theorem dX9_mean_60 : decode cX9_mean 60 = .ok (.ifCond .eq 7, 3) := by decide +kernel
theorem dX9_mean_63 : decode cX9_mean 63 = .ok (.iload_n 3, 1) := by decide +kernel
theorem dX9_mean_64 : decode cX9_mean 64 = .ok (.ifCond .ne 7, 3) := by decide +kernel
theorem dX9_mean_67 : decode cX9_mean 67 = .ok (.ldc2_w 179, 3) := by decide +kernel
theorem dX9_mean_70 : decode cX9_mean 70 = .ok (.lreturn, 1) := by decide +kernel
theorem dX9_mean_71 : decode cX9_mean 71 = .ok (.aload_n 0, 1) := by decide +kernel
theorem dX9_mean_72 : decode cX9_mean 72 = .ok (.invokevirtual 152, 3) := by decide +kernel
theorem dX9_mean_75 : decode cX9_mean 75 = .ok (.aload_n 0, 1) := by decide +kernel
theorem dX9_mean_76 : decode cX9_mean 76 = .ok (.iload_n 1, 1) := by decide +kernel
theorem dX9_mean_77 : decode cX9_mean 77 = .ok (.invokevirtual 155, 3) := by decide +kernel
theorem dX9_mean_80 : decode cX9_mean 80 = .ok (.lconst 0, 1) := by decide +kernel
theorem dX9_mean_81 : decode cX9_mean 81 = .ok (.lstore 4, 2) := by decide +kernel
theorem dX9_mean_83 : decode cX9_mean 83 = .ok (.iconst 0, 1) := by decide +kernel
theorem dX9_mean_84 : decode cX9_mean 84 = .ok (.istore 6, 2) := by decide +kernel
theorem dX9_mean_86 : decode cX9_mean 86 = .ok (.iload 6, 2) := by decide +kernel
theorem dX9_mean_88 : decode cX9_mean 88 = .ok (.aload_n 0, 1) := by decide +kernel
theorem dX9_mean_89 : decode cX9_mean 89 = .ok (.getfield 9, 3) := by decide +kernel
theorem dX9_mean_92 : decode cX9_mean 92 = .ok (.bipush 30, 2) := by decide +kernel
theorem dX9_mean_94 : decode cX9_mean 94 = .ok (.iaload, 1) := by decide +kernel
theorem dX9_mean_95 : decode cX9_mean 95 = .ok (.if_icmp .ge 51, 3) := by decide +kernel
theorem dX9_mean_98 : decode cX9_mean 98 = .ok (.lload 4, 2) := by decide +kernel
theorem dX9_mean_100 : decode cX9_mean 100 = .ok (.aload_n 0, 1) := by decide +kernel
theorem dX9_mean_101 : decode cX9_mean 101 = .ok (.getfield 9, 3) := by decide +kernel
theorem dX9_mean_104 : decode cX9_mean 104 = .ok (.bipush 24, 2) := by decide +kernel
theorem dX9_mean_106 : decode cX9_mean 106 = .ok (.iload 6, 2) := by decide +kernel
theorem dX9_mean_108 : decode cX9_mean 108 = .ok (.iadd, 1) := by decide +kernel
theorem dX9_mean_109 : decode cX9_mean 109 = .ok (.iaload, 1) := by decide +kernel
theorem dX9_mean_110 : decode cX9_mean 110 = .ok (.ifCond .ne 26, 3) := by decide +kernel
theorem dX9_mean_113 : decode cX9_mean 113 = .ok (.aload_n 0, 1) := by decide +kernel
theorem dX9_mean_114 : decode cX9_mean 114 = .ok (.getfield 9, 3) := by decide +kernel
theorem dX9_mean_117 : decode cX9_mean 117 = .ok (.bipush 18, 2) := by decide +kernel
theorem dX9_mean_119 : decode cX9_mean 119 = .ok (.iload 6, 2) := by decide +kernel
theorem dX9_mean_121 : decode cX9_mean 121 = .ok (.iadd, 1) := by decide +kernel
theorem dX9_mean_122 : decode cX9_mean 122 = .ok (.iaload, 1) := by decide +kernel
theorem dX9_mean_123 : decode cX9_mean 123 = .ok (.aload_n 0, 1) := by decide +kernel
theorem dX9_mean_124 : decode cX9_mean 124 = .ok (.getfield 9, 3) := by decide +kernel
theorem dX9_mean_127 : decode cX9_mean 127 = .ok (.iconst 1, 1) := by decide +kernel
theorem dX9_mean_128 : decode cX9_mean 128 = .ok (.iaload, 1) := by decide +kernel
theorem dX9_mean_129 : decode cX9_mean 129 = .ok (.invokestatic 119, 3) := by decide +kernel
theorem dX9_mean_132 : decode cX9_mean 132 = .ok (.i2l, 1) := by decide +kernel
theorem dX9_mean_133 : decode cX9_mean 133 = .ok (.goto 4, 3) := by decide +kernel
theorem dX9_mean_136 : decode cX9_mean 136 = .ok (.lconst 0, 1) := by decide +kernel
theorem dX9_mean_137 : decode cX9_mean 137 = .ok (.ladd, 1) := by decide +kernel
theorem dX9_mean_138 : decode cX9_mean 138 = .ok (.lstore 4, 2) := by decide +kernel
theorem dX9_mean_140 : decode cX9_mean 140 = .ok (.iinc 6 1, 3) := by decide +kernel
theorem dX9_mean_143 : decode cX9_mean 143 = .ok (.goto (-57), 3) := by decide +kernel
theorem dX9_mean_146 : decode cX9_mean 146 = .ok (.aload_n 0, 1) := by decide +kernel
theorem dX9_mean_147 : decode cX9_mean 147 = .ok (.invokevirtual 158, 3) := by decide +kernel
theorem dX9_mean_150 : decode cX9_mean 150 = .ok (.lload 4, 2) := by decide +kernel
theorem dX9_mean_152 : decode cX9_mean 152 = .ok (.iload_n 3, 1) := by decide +kernel
theorem dX9_mean_153 : decode cX9_mean 153 = .ok (.i2l, 1) := by decide +kernel
theorem dX9_mean_154 : decode cX9_mean 154 = .ok (.iload_n 2, 1) := by decide +kernel
theorem dX9_mean_155 : decode cX9_mean 155 = .ok (.invokestatic 181, 3) := by decide +kernel
theorem dX9_mean_158 : decode cX9_mean 158 = .ok (.lreturn, 1) := by decide +kernel
theorem dX9_met_0 : decode cX9_met 0 = .ok (.iload_n 1, 1) := by decide +kernel
theorem dX9_met_1 : decode cX9_met 1 = .ok (.iconst 0, 1) := by decide +kernel
theorem dX9_met_2 : decode cX9_met 2 = .ok (.iconst 1, 1) := by decide +kernel
theorem dX9_met_3 : decode cX9_met 3 = .ok (.invokestatic 35, 3) := by decide +kernel
theorem dX9_met_6 : decode cX9_met 6 = .ok (.ifCond .ne 5, 3) := by decide +kernel
theorem dX9_met_9 : decode cX9_met 9 = .ok (.iconst (-1), 1) := by decide +kernel
theorem dX9_met_10 : decode cX9_met 10 = .ok (.ireturn, 1) := by decide +kernel
theorem dX9_met_11 : decode cX9_met 11 = .ok (.aload_n 0, 1) := by decide +kernel
theorem dX9_met_12 : decode cX9_met 12 = .ok (.invokevirtual 152, 3) := by decide +kernel
theorem dX9_met_15 : decode cX9_met 15 = .ok (.bipush (-5), 2) := by decide +kernel
theorem dX9_met_17 : decode cX9_met 17 = .ok (.istore_n 2, 1) := by decide +kernel
theorem dX9_met_18 : decode cX9_met 18 = .ok (.iconst 0, 1) := by decide +kernel
theorem dX9_met_19 : decode cX9_met 19 = .ok (.istore_n 3, 1) := by decide +kernel
theorem dX9_met_20 : decode cX9_met 20 = .ok (.iload_n 3, 1) := by decide +kernel
theorem dX9_met_21 : decode cX9_met 21 = .ok (.aload_n 0, 1) := by decide +kernel
theorem dX9_met_22 : decode cX9_met 22 = .ok (.getfield 9, 3) := by decide +kernel
theorem dX9_met_25 : decode cX9_met 25 = .ok (.bipush 32, 2) := by decide +kernel
theorem dX9_met_27 : decode cX9_met 27 = .ok (.iaload, 1) := by decide +kernel
theorem dX9_met_28 : decode cX9_met 28 = .ok (.iload_n 1, 1) := by decide +kernel
theorem dX9_met_29 : decode cX9_met 29 = .ok (.iadd, 1) := by decide +kernel
theorem dX9_met_30 : decode cX9_met 30 = .ok (.if_icmp .ge 51, 3) := by decide +kernel
theorem dX9_met_33 : decode cX9_met 33 = .ok (.iload_n 2, 1) := by decide +kernel
theorem dX9_met_34 : decode cX9_met 34 = .ok (.bipush (-5), 2) := by decide +kernel
theorem dX9_met_36 : decode cX9_met 36 = .ok (.if_icmp .ne 45, 3) := by decide +kernel
theorem dX9_met_39 : decode cX9_met 39 = .ok (.iload_n 3, 1) := by decide +kernel
theorem dX9_met_40 : decode cX9_met 40 = .ok (.iload_n 1, 1) := by decide +kernel
theorem dX9_met_41 : decode cX9_met 41 = .ok (.if_icmp .lt 27, 3) := by decide +kernel
theorem dX9_met_44 : decode cX9_met 44 = .ok (.aload_n 0, 1) := by decide +kernel
theorem dX9_met_45 : decode cX9_met 45 = .ok (.getfield 9, 3) := by decide +kernel
theorem dX9_met_48 : decode cX9_met 48 = .ok (.iconst 1, 1) := by decide +kernel
theorem dX9_met_49 : decode cX9_met 49 = .ok (.iaload, 1) := by decide +kernel
theorem dX9_met_50 : decode cX9_met 50 = .ok (.aload_n 0, 1) := by decide +kernel
theorem dX9_met_51 : decode cX9_met 51 = .ok (.getfield 9, 3) := by decide +kernel
theorem dX9_met_54 : decode cX9_met 54 = .ok (.bipush 74, 2) := by decide +kernel
theorem dX9_met_56 : decode cX9_met 56 = .ok (.iload_n 3, 1) := by decide +kernel
theorem dX9_met_57 : decode cX9_met 57 = .ok (.iadd, 1) := by decide +kernel
theorem dX9_met_58 : decode cX9_met 58 = .ok (.iload_n 1, 1) := by decide +kernel
theorem dX9_met_59 : decode cX9_met 59 = .ok (.isub, 1) := by decide +kernel
theorem dX9_met_60 : decode cX9_met 60 = .ok (.iaload, 1) := by decide +kernel
theorem dX9_met_61 : decode cX9_met 61 = .ok (.if_icmp .ne 7, 3) := by decide +kernel
theorem dX9_met_64 : decode cX9_met 64 = .ok (.iload_n 3, 1) := by decide +kernel
theorem dX9_met_65 : decode cX9_met 65 = .ok (.goto 5, 3) := by decide +kernel
theorem dX9_met_68 : decode cX9_met 68 = .ok (.bipush (-5), 2) := by decide +kernel
theorem dX9_met_70 : decode cX9_met 70 = .ok (.istore_n 2, 1) := by decide +kernel
theorem dX9_met_71 : decode cX9_met 71 = .ok (.aload_n 0, 1) := by decide +kernel
theorem dX9_met_72 : decode cX9_met 72 = .ok (.invokevirtual 149, 3) := by decide +kernel
theorem dX9_met_75 : decode cX9_met 75 = .ok (.iinc 3 1, 3) := by decide +kernel
theorem dX9_met_78 : decode cX9_met 78 = .ok (.goto (-58), 3) := by decide +kernel
theorem dX9_met_81 : decode cX9_met 81 = .ok (.aload_n 0, 1) := by decide +kernel
theorem dX9_met_82 : decode cX9_met 82 = .ok (.invokevirtual 158, 3) := by decide +kernel
theorem dX9_met_85 : decode cX9_met 85 = .ok (.iload_n 2, 1) := by decide +kernel
theorem dX9_met_86 : decode cX9_met 86 = .ok (.ireturn, 1) := by decide +kernel
theorem dX9_move_0 : decode cX9_move 0 = .ok (.aload_n 0, 1) := by decide +kernel
theorem dX9_move_1 : decode cX9_move 1 = .ok (.iload_n 1, 1) := by decide +kernel
theorem dX9_move_2 : decode cX9_move 2 = .ok (.invokevirtual 136, 3) := by decide +kernel
theorem dX9_move_5 : decode cX9_move 5 = .ok (.ifCond .eq 22, 3) := by decide +kernel
theorem dX9_move_8 : decode cX9_move 8 = .ok (.iload_n 2, 1) := by decide +kernel
theorem dX9_move_9 : decode cX9_move 9 = .ok (.invokestatic 132, 3) := by decide +kernel
theorem dX9_move_12 : decode cX9_move 12 = .ok (.ifCond .eq 15, 3) := by decide +kernel
theorem dX9_move_15 : decode cX9_move 15 = .ok (.aload_n 0, 1) := by decide +kernel
theorem dX9_move_16 : decode cX9_move 16 = .ok (.bipush 18, 2) := by decide +kernel
theorem dX9_move_18 : decode cX9_move 18 = .ok (.iload_n 1, 1) := by decide +kernel
theorem dX9_move_19 : decode cX9_move 19 = .ok (.iadd, 1) := by decide +kernel
theorem dX9_move_20 : decode cX9_move 20 = .ok (.iload_n 2, 1) := by decide +kernel
theorem dX9_move_21 : decode cX9_move 21 = .ok (.invokevirtual 140, 3) := by decide +kernel
theorem dX9_move_24 : decode cX9_move 24 = .ok (.goto 4, 3) := by decide +kernel
theorem dX9_move_27 : decode cX9_move 27 = .ok (.iconst (-1), 1) := by decide +kernel
theorem dX9_move_28 : decode cX9_move 28 = .ok (.ireturn, 1) := by decide +kernel
theorem dX9_odds_0 : decode cX9_odds 0 = .ok (.iload_n 1, 1) := by decide +kernel
theorem dX9_odds_1 : decode cX9_odds 1 = .ok (.invokestatic 132, 3) := by decide +kernel
theorem dX9_odds_4 : decode cX9_odds 4 = .ok (.ifCond .eq 32, 3) := by decide +kernel
theorem dX9_odds_7 : decode cX9_odds 7 = .ok (.iload_n 2, 1) := by decide +kernel
theorem dX9_odds_8 : decode cX9_odds 8 = .ok (.iconst 0, 1) := by decide +kernel
theorem dX9_odds_9 : decode cX9_odds 9 = .ok (.bipush 60, 2) := by decide +kernel
theorem dX9_odds_11 : decode cX9_odds 11 = .ok (.invokestatic 35, 3) := by decide +kernel
theorem dX9_odds_14 : decode cX9_odds 14 = .ok (.ifCond .eq 22, 3) := by decide +kernel
theorem dX9_odds_17 : decode cX9_odds 17 = .ok (.iload_n 3, 1) := by decide +kernel
theorem dX9_odds_18 : decode cX9_odds 18 = .ok (.iconst 0, 1) := by decide +kernel
theorem dX9_odds_19 : decode cX9_odds 19 = .ok (.iconst 1, 1) := by decide +kernel
theorem dX9_odds_20 : decode cX9_odds 20 = .ok (.invokestatic 35, 3) := by decide +kernel
theorem dX9_odds_23 : decode cX9_odds 23 = .ok (.ifCond .eq 13, 3) := by decide +kernel
theorem dX9_odds_26 : decode cX9_odds 26 = .ok (.aload_n 0, 1) := by decide +kernel
theorem dX9_odds_27 : decode cX9_odds 27 = .ok (.getfield 9, 3) := by decide +kernel
theorem dX9_odds_30 : decode cX9_odds 30 = .ok (.bipush 30, 2) := by decide +kernel
theorem dX9_odds_32 : decode cX9_odds 32 = .ok (.iaload, 1) := by decide +kernel
theorem dX9_odds_33 : decode cX9_odds 33 = .ok (.ifCond .ne 7, 3) := by decide +kernel
theorem dX9_odds_36 : decode cX9_odds 36 = .ok (.ldc2_w 179, 3) := by decide +kernel
theorem dX9_odds_39 : decode cX9_odds 39 = .ok (.lreturn, 1) := by decide +kernel
theorem dX9_odds_40 : decode cX9_odds 40 = .ok (.lconst 0, 1) := by decide +kernel
theorem dX9_odds_41 : decode cX9_odds 41 = .ok (.lstore 4, 2) := by decide +kernel
theorem dX9_odds_43 : decode cX9_odds 43 = .ok (.iconst 0, 1) := by decide +kernel
theorem dX9_odds_44 : decode cX9_odds 44 = .ok (.istore 6, 2) := by decide +kernel
theorem dX9_odds_46 : decode cX9_odds 46 = .ok (.iload 6, 2) := by decide +kernel
theorem dX9_odds_48 : decode cX9_odds 48 = .ok (.aload_n 0, 1) := by decide +kernel
theorem dX9_odds_49 : decode cX9_odds 49 = .ok (.getfield 9, 3) := by decide +kernel
theorem dX9_odds_52 : decode cX9_odds 52 = .ok (.bipush 30, 2) := by decide +kernel
theorem dX9_odds_54 : decode cX9_odds 54 = .ok (.iaload, 1) := by decide +kernel
theorem dX9_odds_55 : decode cX9_odds 55 = .ok (.if_icmp .ge 53, 3) := by decide +kernel
theorem dX9_odds_58 : decode cX9_odds 58 = .ok (.aload_n 0, 1) := by decide +kernel
theorem dX9_odds_59 : decode cX9_odds 59 = .ok (.invokevirtual 152, 3) := by decide +kernel
theorem dX9_odds_62 : decode cX9_odds 62 = .ok (.aload_n 0, 1) := by decide +kernel
theorem dX9_odds_63 : decode cX9_odds 63 = .ok (.getfield 9, 3) := by decide +kernel
theorem dX9_odds_66 : decode cX9_odds 66 = .ok (.bipush 24, 2) := by decide +kernel
theorem dX9_odds_68 : decode cX9_odds 68 = .ok (.iload 6, 2) := by decide +kernel
theorem dX9_odds_70 : decode cX9_odds 70 = .ok (.iadd, 1) := by decide +kernel
theorem dX9_odds_71 : decode cX9_odds 71 = .ok (.iconst 1, 1) := by decide +kernel
theorem dX9_odds_72 : decode cX9_odds 72 = .ok (.iastore, 1) := by decide +kernel
theorem dX9_odds_73 : decode cX9_odds 73 = .ok (.aload_n 0, 1) := by decide +kernel
theorem dX9_odds_74 : decode cX9_odds 74 = .ok (.iload_n 2, 1) := by decide +kernel
theorem dX9_odds_75 : decode cX9_odds 75 = .ok (.invokevirtual 155, 3) := by decide +kernel
theorem dX9_odds_78 : decode cX9_odds 78 = .ok (.lload 4, 2) := by decide +kernel
theorem dX9_odds_80 : decode cX9_odds 80 = .ok (.aload_n 0, 1) := by decide +kernel
theorem dX9_odds_81 : decode cX9_odds 81 = .ok (.getfield 9, 3) := by decide +kernel
theorem dX9_odds_84 : decode cX9_odds 84 = .ok (.iconst 1, 1) := by decide +kernel
theorem dX9_odds_85 : decode cX9_odds 85 = .ok (.iaload, 1) := by decide +kernel
theorem dX9_odds_86 : decode cX9_odds 86 = .ok (.iload_n 1, 1) := by decide +kernel
theorem dX9_odds_87 : decode cX9_odds 87 = .ok (.if_icmp .ne 7, 3) := by decide +kernel
theorem dX9_odds_90 : decode cX9_odds 90 = .ok (.lconst 1, 1) := by decide +kernel
theorem dX9_odds_91 : decode cX9_odds 91 = .ok (.goto 4, 3) := by decide +kernel
theorem dX9_odds_94 : decode cX9_odds 94 = .ok (.lconst 0, 1) := by decide +kernel
theorem dX9_odds_95 : decode cX9_odds 95 = .ok (.ladd, 1) := by decide +kernel
theorem dX9_odds_96 : decode cX9_odds 96 = .ok (.lstore 4, 2) := by decide +kernel
theorem dX9_odds_98 : decode cX9_odds 98 = .ok (.aload_n 0, 1) := by decide +kernel
theorem dX9_odds_99 : decode cX9_odds 99 = .ok (.invokevirtual 158, 3) := by decide +kernel
theorem dX9_odds_102 : decode cX9_odds 102 = .ok (.iinc 6 1, 3) := by decide +kernel
theorem dX9_odds_105 : decode cX9_odds 105 = .ok (.goto (-59), 3) := by decide +kernel
theorem dX9_odds_108 : decode cX9_odds 108 = .ok (.lload 4, 2) := by decide +kernel
theorem dX9_odds_110 : decode cX9_odds 110 = .ok (.aload_n 0, 1) := by decide +kernel
theorem dX9_odds_111 : decode cX9_odds 111 = .ok (.getfield 9, 3) := by decide +kernel
theorem dX9_odds_114 : decode cX9_odds 114 = .ok (.bipush 30, 2) := by decide +kernel
theorem dX9_odds_116 : decode cX9_odds 116 = .ok (.iaload, 1) := by decide +kernel
theorem dX9_odds_117 : decode cX9_odds 117 = .ok (.i2l, 1) := by decide +kernel
theorem dX9_odds_118 : decode cX9_odds 118 = .ok (.iload_n 3, 1) := by decide +kernel
theorem dX9_odds_119 : decode cX9_odds 119 = .ok (.invokestatic 181, 3) := by decide +kernel
theorem dX9_odds_122 : decode cX9_odds 122 = .ok (.lreturn, 1) := by decide +kernel
theorem dX9_of_0 : decode cX9_of 0 = .ok (.aload_n 0, 1) := by decide +kernel
theorem dX9_of_1 : decode cX9_of 1 = .ok (.iload_n 1, 1) := by decide +kernel
theorem dX9_of_2 : decode cX9_of 2 = .ok (.invokevirtual 136, 3) := by decide +kernel
theorem dX9_of_5 : decode cX9_of 5 = .ok (.ifCond .ne 6, 3) := by decide +kernel
theorem dX9_of_8 : decode cX9_of 8 = .ok (.ldc 139, 2) := by decide +kernel
theorem dX9_of_10 : decode cX9_of 10 = .ok (.ireturn, 1) := by decide +kernel
theorem dX9_of_11 : decode cX9_of 11 = .ok (.iload_n 2, 1) := by decide +kernel
theorem dX9_of_12 : decode cX9_of 12 = .ok (.tableswitch 72 0 3 #[32, 42, 52, 62], 32) := by decide +kernel
theorem dX9_of_44 : decode cX9_of 44 = .ok (.aload_n 0, 1) := by decide +kernel
theorem dX9_of_45 : decode cX9_of 45 = .ok (.getfield 9, 3) := by decide +kernel
theorem dX9_of_48 : decode cX9_of 48 = .ok (.bipush 38, 2) := by decide +kernel
theorem dX9_of_50 : decode cX9_of 50 = .ok (.iload_n 1, 1) := by decide +kernel
theorem dX9_of_51 : decode cX9_of 51 = .ok (.iadd, 1) := by decide +kernel
theorem dX9_of_52 : decode cX9_of 52 = .ok (.iaload, 1) := by decide +kernel
theorem dX9_of_53 : decode cX9_of 53 = .ok (.ireturn, 1) := by decide +kernel
theorem dX9_of_54 : decode cX9_of 54 = .ok (.aload_n 0, 1) := by decide +kernel
theorem dX9_of_55 : decode cX9_of 55 = .ok (.getfield 9, 3) := by decide +kernel
theorem dX9_of_58 : decode cX9_of 58 = .ok (.bipush 44, 2) := by decide +kernel
theorem dX9_of_60 : decode cX9_of 60 = .ok (.iload_n 1, 1) := by decide +kernel
theorem dX9_of_61 : decode cX9_of 61 = .ok (.iadd, 1) := by decide +kernel
theorem dX9_of_62 : decode cX9_of 62 = .ok (.iaload, 1) := by decide +kernel
theorem dX9_of_63 : decode cX9_of 63 = .ok (.ireturn, 1) := by decide +kernel
theorem dX9_of_64 : decode cX9_of 64 = .ok (.aload_n 0, 1) := by decide +kernel
theorem dX9_of_65 : decode cX9_of 65 = .ok (.getfield 9, 3) := by decide +kernel
theorem dX9_of_68 : decode cX9_of 68 = .ok (.bipush 18, 2) := by decide +kernel
theorem dX9_of_70 : decode cX9_of 70 = .ok (.iload_n 1, 1) := by decide +kernel
theorem dX9_of_71 : decode cX9_of 71 = .ok (.iadd, 1) := by decide +kernel
theorem dX9_of_72 : decode cX9_of 72 = .ok (.iaload, 1) := by decide +kernel
theorem dX9_of_73 : decode cX9_of 73 = .ok (.ireturn, 1) := by decide +kernel
theorem dX9_of_74 : decode cX9_of 74 = .ok (.aload_n 0, 1) := by decide +kernel
theorem dX9_of_75 : decode cX9_of 75 = .ok (.getfield 9, 3) := by decide +kernel
theorem dX9_of_78 : decode cX9_of 78 = .ok (.bipush 24, 2) := by decide +kernel
theorem dX9_of_80 : decode cX9_of 80 = .ok (.iload_n 1, 1) := by decide +kernel
theorem dX9_of_81 : decode cX9_of 81 = .ok (.iadd, 1) := by decide +kernel
theorem dX9_of_82 : decode cX9_of 82 = .ok (.iaload, 1) := by decide +kernel
theorem dX9_of_83 : decode cX9_of 83 = .ok (.ireturn, 1) := by decide +kernel
theorem dX9_of_84 : decode cX9_of 84 = .ok (.iload_n 2, 1) := by decide +kernel
theorem dX9_of_85 : decode cX9_of 85 = .ok (.bipush 10, 2) := by decide +kernel
theorem dX9_of_87 : decode cX9_of 87 = .ok (.isub, 1) := by decide +kernel
theorem dX9_of_88 : decode cX9_of 88 = .ok (.invokestatic 132, 3) := by decide +kernel
theorem dX9_of_91 : decode cX9_of 91 = .ok (.ifCond .eq 15, 3) := by decide +kernel
theorem dX9_of_94 : decode cX9_of 94 = .ok (.aload_n 0, 1) := by decide +kernel
theorem dX9_of_95 : decode cX9_of 95 = .ok (.iload_n 1, 1) := by decide +kernel
theorem dX9_of_96 : decode cX9_of 96 = .ok (.iload_n 2, 1) := by decide +kernel
theorem dX9_of_97 : decode cX9_of 97 = .ok (.bipush 10, 2) := by decide +kernel
theorem dX9_of_99 : decode cX9_of 99 = .ok (.isub, 1) := by decide +kernel
theorem dX9_of_100 : decode cX9_of 100 = .ok (.invokevirtual 126, 3) := by decide +kernel
theorem dX9_of_103 : decode cX9_of 103 = .ok (.goto 27, 3) := by decide +kernel
theorem dX9_of_106 : decode cX9_of 106 = .ok (.iload_n 2, 1) := by decide +kernel
theorem dX9_of_107 : decode cX9_of 107 = .ok (.bipush 30, 2) := by decide +kernel
theorem dX9_of_109 : decode cX9_of 109 = .ok (.isub, 1) := by decide +kernel
theorem dX9_of_110 : decode cX9_of 110 = .ok (.invokestatic 132, 3) := by decide +kernel
theorem dX9_of_113 : decode cX9_of 113 = .ok (.ifCond .eq 15, 3) := by decide +kernel
theorem dX9_of_116 : decode cX9_of 116 = .ok (.aload_n 0, 1) := by decide +kernel
theorem dX9_of_117 : decode cX9_of 117 = .ok (.iload_n 1, 1) := by decide +kernel
theorem dX9_of_118 : decode cX9_of 118 = .ok (.iload_n 2, 1) := by decide +kernel
theorem dX9_of_119 : decode cX9_of 119 = .ok (.bipush 30, 2) := by decide +kernel
theorem dX9_of_121 : decode cX9_of 121 = .ok (.isub, 1) := by decide +kernel
theorem dX9_of_122 : decode cX9_of 122 = .ok (.invokevirtual 129, 3) := by decide +kernel
theorem dX9_of_125 : decode cX9_of 125 = .ok (.goto 5, 3) := by decide +kernel
theorem dX9_of_128 : decode cX9_of 128 = .ok (.ldc 139, 2) := by decide +kernel
theorem dX9_of_130 : decode cX9_of 130 = .ok (.ireturn, 1) := by decide +kernel
theorem dX9_on_0 : decode cX9_on 0 = .ok (.iload_n 2, 1) := by decide +kernel
theorem dX9_on_1 : decode cX9_on 1 = .ok (.iconst 0, 1) := by decide +kernel
theorem dX9_on_2 : decode cX9_on 2 = .ok (.iconst 1, 1) := by decide +kernel
theorem dX9_on_3 : decode cX9_on 3 = .ok (.invokestatic 35, 3) := by decide +kernel
theorem dX9_on_6 : decode cX9_on 6 = .ok (.ifCond .ne 15, 3) := by decide +kernel
theorem dX9_on_9 : decode cX9_on 9 = .ok (.iload_n 2, 1) := by decide +kernel
theorem dX9_on_10 : decode cX9_on 10 = .ok (.bipush 10, 2) := by decide +kernel
theorem dX9_on_12 : decode cX9_on 12 = .ok (.isub, 1) := by decide +kernel
theorem dX9_on_13 : decode cX9_on 13 = .ok (.invokestatic 132, 3) := by decide +kernel
theorem dX9_on_16 : decode cX9_on 16 = .ok (.ifCond .ne 5, 3) := by decide +kernel
theorem dX9_on_19 : decode cX9_on 19 = .ok (.iconst (-1), 1) := by decide +kernel
theorem dX9_on_20 : decode cX9_on 20 = .ok (.ireturn, 1) := by decide +kernel
theorem dX9_on_21 : decode cX9_on 21 = .ok (.iload_n 1, 1) := by decide +kernel
theorem dX9_on_22 : decode cX9_on 22 = .ok (.iconst 0, 1) := by decide +kernel
theorem dX9_on_23 : decode cX9_on 23 = .ok (.bipush 60, 2) := by decide +kernel
theorem dX9_on_25 : decode cX9_on 25 = .ok (.invokestatic 35, 3) := by decide +kernel
theorem dX9_on_28 : decode cX9_on 28 = .ok (.ifCond .ne 6, 3) := by decide +kernel
theorem dX9_on_31 : decode cX9_on 31 = .ok (.bipush (-2), 2) := by decide +kernel
theorem dX9_on_33 : decode cX9_on 33 = .ok (.ireturn, 1) := by decide +kernel
theorem dX9_on_34 : decode cX9_on 34 = .ok (.aload_n 0, 1) := by decide +kernel
theorem dX9_on_35 : decode cX9_on 35 = .ok (.invokevirtual 152, 3) := by decide +kernel
theorem dX9_on_38 : decode cX9_on 38 = .ok (.aload_n 0, 1) := by decide +kernel
theorem dX9_on_39 : decode cX9_on 39 = .ok (.iload_n 1, 1) := by decide +kernel
theorem dX9_on_40 : decode cX9_on 40 = .ok (.invokevirtual 155, 3) := by decide +kernel
theorem dX9_on_43 : decode cX9_on 43 = .ok (.iload_n 2, 1) := by decide +kernel
theorem dX9_on_44 : decode cX9_on 44 = .ok (.ifCond .ne 12, 3) := by decide +kernel
theorem dX9_on_47 : decode cX9_on 47 = .ok (.aload_n 0, 1) := by decide +kernel
theorem dX9_on_48 : decode cX9_on 48 = .ok (.getfield 9, 3) := by decide +kernel
theorem dX9_on_51 : decode cX9_on 51 = .ok (.iconst 1, 1) := by decide +kernel
theorem dX9_on_52 : decode cX9_on 52 = .ok (.iaload, 1) := by decide +kernel
theorem dX9_on_53 : decode cX9_on 53 = .ok (.goto 26, 3) := by decide +kernel
theorem dX9_on_56 : decode cX9_on 56 = .ok (.iload_n 2, 1) := by decide +kernel
theorem dX9_on_57 : decode cX9_on 57 = .ok (.iconst 1, 1) := by decide +kernel
theorem dX9_on_58 : decode cX9_on 58 = .ok (.if_icmp .ne 10, 3) := by decide +kernel
theorem dX9_on_61 : decode cX9_on 61 = .ok (.aload_n 0, 1) := by decide +kernel
theorem dX9_on_62 : decode cX9_on 62 = .ok (.invokevirtual 143, 3) := by decide +kernel
theorem dX9_on_65 : decode cX9_on 65 = .ok (.goto 14, 3) := by decide +kernel
theorem dX9_on_68 : decode cX9_on 68 = .ok (.aload_n 0, 1) := by decide +kernel
theorem dX9_on_69 : decode cX9_on 69 = .ok (.getfield 9, 3) := by decide +kernel
theorem dX9_on_72 : decode cX9_on 72 = .ok (.iconst 2, 1) := by decide +kernel
theorem dX9_on_73 : decode cX9_on 73 = .ok (.iload_n 2, 1) := by decide +kernel
theorem dX9_on_74 : decode cX9_on 74 = .ok (.iadd, 1) := by decide +kernel
theorem dX9_on_75 : decode cX9_on 75 = .ok (.bipush 10, 2) := by decide +kernel
theorem dX9_on_77 : decode cX9_on 77 = .ok (.isub, 1) := by decide +kernel
theorem dX9_on_78 : decode cX9_on 78 = .ok (.iaload, 1) := by decide +kernel
theorem dX9_on_79 : decode cX9_on 79 = .ok (.istore_n 3, 1) := by decide +kernel
theorem dX9_on_80 : decode cX9_on 80 = .ok (.aload_n 0, 1) := by decide +kernel
theorem dX9_on_81 : decode cX9_on 81 = .ok (.invokevirtual 158, 3) := by decide +kernel
theorem dX9_on_84 : decode cX9_on 84 = .ok (.iload_n 3, 1) := by decide +kernel
theorem dX9_on_85 : decode cX9_on 85 = .ok (.ireturn, 1) := by decide +kernel
theorem dX9_pass_0 : decode cX9_pass 0 = .ok (.iload_n 1, 1) := by decide +kernel
theorem dX9_pass_1 : decode cX9_pass 1 = .ok (.iconst 0, 1) := by decide +kernel
theorem dX9_pass_2 : decode cX9_pass 2 = .ok (.bipush 60, 2) := by decide +kernel
theorem dX9_pass_4 : decode cX9_pass 4 = .ok (.invokestatic 35, 3) := by decide +kernel
theorem dX9_pass_7 : decode cX9_pass 7 = .ok (.ifCond .ne 6, 3) := by decide +kernel
theorem dX9_pass_10 : decode cX9_pass 10 = .ok (.bipush (-2), 2) := by decide +kernel
theorem dX9_pass_12 : decode cX9_pass 12 = .ok (.ireturn, 1) := by decide +kernel
theorem dX9_pass_13 : decode cX9_pass 13 = .ok (.aload_n 0, 1) := by decide +kernel
theorem dX9_pass_14 : decode cX9_pass 14 = .ok (.getfield 9, 3) := by decide +kernel
theorem dX9_pass_17 : decode cX9_pass 17 = .ok (.iconst 0, 1) := by decide +kernel
theorem dX9_pass_18 : decode cX9_pass 18 = .ok (.iaload, 1) := by decide +kernel
theorem dX9_pass_19 : decode cX9_pass 19 = .ok (.iload_n 1, 1) := by decide +kernel
theorem dX9_pass_20 : decode cX9_pass 20 = .ok (.iadd, 1) := by decide +kernel
theorem dX9_pass_21 : decode cX9_pass 21 = .ok (.sipush 9999, 3) := by decide +kernel
theorem dX9_pass_24 : decode cX9_pass 24 = .ok (.if_icmp .le 6, 3) := by decide +kernel
theorem dX9_pass_27 : decode cX9_pass 27 = .ok (.bipush (-3), 2) := by decide +kernel
theorem dX9_pass_29 : decode cX9_pass 29 = .ok (.ireturn, 1) := by decide +kernel
theorem dX9_pass_30 : decode cX9_pass 30 = .ok (.iconst 0, 1) := by decide +kernel
theorem dX9_pass_31 : decode cX9_pass 31 = .ok (.istore_n 2, 1) := by decide +kernel
theorem dX9_pass_32 : decode cX9_pass 32 = .ok (.iload_n 2, 1) := by decide +kernel
theorem dX9_pass_33 : decode cX9_pass 33 = .ok (.iload_n 1, 1) := by decide +kernel
theorem dX9_pass_34 : decode cX9_pass 34 = .ok (.if_icmp .ge 61, 3) := by decide +kernel
theorem dX9_pass_37 : decode cX9_pass 37 = .ok (.aload_n 0, 1) := by decide +kernel
theorem dX9_pass_38 : decode cX9_pass 38 = .ok (.invokevirtual 149, 3) := by decide +kernel
theorem dX9_pass_41 : decode cX9_pass 41 = .ok (.iconst 0, 1) := by decide +kernel
theorem dX9_pass_42 : decode cX9_pass 42 = .ok (.istore_n 3, 1) := by decide +kernel
theorem dX9_pass_43 : decode cX9_pass 43 = .ok (.iload_n 3, 1) := by decide +kernel
theorem dX9_pass_44 : decode cX9_pass 44 = .ok (.bipush 16, 2) := by decide +kernel
theorem dX9_pass_46 : decode cX9_pass 46 = .ok (.if_icmp .ge 43, 3) := by decide +kernel
theorem dX9_pass_49 : decode cX9_pass 49 = .ok (.aload_n 0, 1) := by decide +kernel
theorem dX9_pass_50 : decode cX9_pass 50 = .ok (.getfield 9, 3) := by decide +kernel
theorem dX9_pass_53 : decode cX9_pass 53 = .ok (.iconst 2, 1) := by decide +kernel
theorem dX9_pass_54 : decode cX9_pass 54 = .ok (.iload_n 3, 1) := by decide +kernel
theorem dX9_pass_55 : decode cX9_pass 55 = .ok (.iadd, 1) := by decide +kernel
theorem dX9_pass_56 : decode cX9_pass 56 = .ok (.aload_n 0, 1) := by decide +kernel
theorem dX9_pass_57 : decode cX9_pass 57 = .ok (.getfield 9, 3) := by decide +kernel
theorem dX9_pass_60 : decode cX9_pass 60 = .ok (.iconst 2, 1) := by decide +kernel
theorem dX9_pass_61 : decode cX9_pass 61 = .ok (.iload_n 3, 1) := by decide +kernel
theorem dX9_pass_62 : decode cX9_pass 62 = .ok (.iadd, 1) := by decide +kernel
theorem dX9_pass_63 : decode cX9_pass 63 = .ok (.iaload, 1) := by decide +kernel
theorem dX9_pass_64 : decode cX9_pass 64 = .ok (.bipush 99, 2) := by decide +kernel
theorem dX9_pass_66 : decode cX9_pass 66 = .ok (.if_icmp .le 8, 3) := by decide +kernel
theorem dX9_pass_69 : decode cX9_pass 69 = .ok (.bipush 99, 2) := by decide +kernel
theorem dX9_pass_71 : decode cX9_pass 71 = .ok (.goto 11, 3) := by decide +kernel
theorem dX9_pass_74 : decode cX9_pass 74 = .ok (.aload_n 0, 1) := by decide +kernel
theorem dX9_pass_75 : decode cX9_pass 75 = .ok (.getfield 9, 3) := by decide +kernel
theorem dX9_pass_78 : decode cX9_pass 78 = .ok (.iconst 2, 1) := by decide +kernel
theorem dX9_pass_79 : decode cX9_pass 79 = .ok (.iload_n 3, 1) := by decide +kernel
theorem dX9_pass_80 : decode cX9_pass 80 = .ok (.iadd, 1) := by decide +kernel
theorem dX9_pass_81 : decode cX9_pass 81 = .ok (.iaload, 1) := by decide +kernel
theorem dX9_pass_82 : decode cX9_pass 82 = .ok (.iastore, 1) := by decide +kernel
theorem dX9_pass_83 : decode cX9_pass 83 = .ok (.iinc 3 1, 3) := by decide +kernel
theorem dX9_pass_86 : decode cX9_pass 86 = .ok (.goto (-43), 3) := by decide +kernel
theorem dX9_pass_89 : decode cX9_pass 89 = .ok (.iinc 2 1, 3) := by decide +kernel
theorem dX9_pass_92 : decode cX9_pass 92 = .ok (.goto (-60), 3) := by decide +kernel
theorem dX9_pass_95 : decode cX9_pass 95 = .ok (.aload_n 0, 1) := by decide +kernel
theorem dX9_pass_96 : decode cX9_pass 96 = .ok (.getfield 9, 3) := by decide +kernel
theorem dX9_pass_99 : decode cX9_pass 99 = .ok (.iconst 1, 1) := by decide +kernel
theorem dX9_pass_100 : decode cX9_pass 100 = .ok (.iaload, 1) := by decide +kernel
theorem dX9_pass_101 : decode cX9_pass 101 = .ok (.ireturn, 1) := by decide +kernel
theorem dX9_person_0 : decode cX9_person 0 = .ok (.iload_n 1, 1) := by decide +kernel
theorem dX9_person_1 : decode cX9_person 1 = .ok (.iconst 0, 1) := by decide +kernel
theorem dX9_person_2 : decode cX9_person 2 = .ok (.bipush 6, 2) := by decide +kernel
theorem dX9_person_4 : decode cX9_person 4 = .ok (.invokestatic 35, 3) := by decide +kernel
theorem dX9_person_7 : decode cX9_person 7 = .ok (.ifCond .eq 10, 3) := by decide +kernel
theorem dX9_person_10 : decode cX9_person 10 = .ok (.iload_n 3, 1) := by decide +kernel
theorem dX9_person_11 : decode cX9_person 11 = .ok (.invokestatic 132, 3) := by decide +kernel
theorem dX9_person_14 : decode cX9_person 14 = .ok (.ifCond .ne 5, 3) := by decide +kernel
theorem dX9_person_17 : decode cX9_person 17 = .ok (.iconst (-1), 1) := by decide +kernel
theorem dX9_person_18 : decode cX9_person 18 = .ok (.ireturn, 1) := by decide +kernel
theorem dX9_person_19 : decode cX9_person 19 = .ok (.iload_n 2, 1) := by decide +kernel
theorem dX9_person_20 : decode cX9_person 20 = .ok (.iconst 0, 1) := by decide +kernel
theorem dX9_person_21 : decode cX9_person 21 = .ok (.bipush 9, 2) := by decide +kernel
theorem dX9_person_23 : decode cX9_person 23 = .ok (.invokestatic 35, 3) := by decide +kernel
theorem dX9_person_26 : decode cX9_person 26 = .ok (.ifCond .ne 6, 3) := by decide +kernel
theorem dX9_person_29 : decode cX9_person 29 = .ok (.bipush (-2), 2) := by decide +kernel
theorem dX9_person_31 : decode cX9_person 31 = .ok (.ireturn, 1) := by decide +kernel
theorem dX9_person_32 : decode cX9_person 32 = .ok (.aload_n 0, 1) := by decide +kernel
theorem dX9_person_33 : decode cX9_person 33 = .ok (.getfield 9, 3) := by decide +kernel
theorem dX9_person_36 : decode cX9_person 36 = .ok (.bipush 30, 2) := by decide +kernel
theorem dX9_person_38 : decode cX9_person 38 = .ok (.iaload, 1) := by decide +kernel
theorem dX9_person_39 : decode cX9_person 39 = .ok (.bipush 6, 2) := by decide +kernel
theorem dX9_person_41 : decode cX9_person 41 = .ok (.if_icmp .ne 6, 3) := by decide +kernel
theorem dX9_person_44 : decode cX9_person 44 = .ok (.bipush (-4), 2) := by decide +kernel
theorem dX9_person_46 : decode cX9_person 46 = .ok (.ireturn, 1) := by decide +kernel
theorem dX9_person_47 : decode cX9_person 47 = .ok (.aload_n 0, 1) := by decide +kernel
theorem dX9_person_48 : decode cX9_person 48 = .ok (.getfield 9, 3) := by decide +kernel
theorem dX9_person_51 : decode cX9_person 51 = .ok (.bipush 30, 2) := by decide +kernel
theorem dX9_person_53 : decode cX9_person 53 = .ok (.iaload, 1) := by decide +kernel
theorem dX9_person_54 : decode cX9_person 54 = .ok (.istore 4, 2) := by decide +kernel
theorem dX9_person_56 : decode cX9_person 56 = .ok (.aload_n 0, 1) := by decide +kernel
theorem dX9_person_57 : decode cX9_person 57 = .ok (.getfield 9, 3) := by decide +kernel
theorem dX9_person_60 : decode cX9_person 60 = .ok (.bipush 38, 2) := by decide +kernel
theorem dX9_person_62 : decode cX9_person 62 = .ok (.iload 4, 2) := by decide +kernel
theorem dX9_person_64 : decode cX9_person 64 = .ok (.iadd, 1) := by decide +kernel
theorem dX9_person_65 : decode cX9_person 65 = .ok (.iload_n 1, 1) := by decide +kernel
theorem dX9_person_66 : decode cX9_person 66 = .ok (.iastore, 1) := by decide +kernel
theorem dX9_person_67 : decode cX9_person 67 = .ok (.aload_n 0, 1) := by decide +kernel
theorem dX9_person_68 : decode cX9_person 68 = .ok (.getfield 9, 3) := by decide +kernel
theorem dX9_person_71 : decode cX9_person 71 = .ok (.bipush 44, 2) := by decide +kernel
theorem dX9_person_73 : decode cX9_person 73 = .ok (.iload 4, 2) := by decide +kernel
theorem dX9_person_75 : decode cX9_person 75 = .ok (.iadd, 1) := by decide +kernel
theorem dX9_person_76 : decode cX9_person 76 = .ok (.iload_n 2, 1) := by decide +kernel
theorem dX9_person_77 : decode cX9_person 77 = .ok (.iastore, 1) := by decide +kernel
theorem dX9_person_78 : decode cX9_person 78 = .ok (.aload_n 0, 1) := by decide +kernel
theorem dX9_person_79 : decode cX9_person 79 = .ok (.getfield 9, 3) := by decide +kernel
theorem dX9_person_82 : decode cX9_person 82 = .ok (.bipush 18, 2) := by decide +kernel
theorem dX9_person_84 : decode cX9_person 84 = .ok (.iload 4, 2) := by decide +kernel
theorem dX9_person_86 : decode cX9_person 86 = .ok (.iadd, 1) := by decide +kernel
theorem dX9_person_87 : decode cX9_person 87 = .ok (.iload_n 3, 1) := by decide +kernel
theorem dX9_person_88 : decode cX9_person 88 = .ok (.iastore, 1) := by decide +kernel
theorem dX9_person_89 : decode cX9_person 89 = .ok (.aload_n 0, 1) := by decide +kernel
theorem dX9_person_90 : decode cX9_person 90 = .ok (.getfield 9, 3) := by decide +kernel
theorem dX9_person_93 : decode cX9_person 93 = .ok (.bipush 24, 2) := by decide +kernel
theorem dX9_person_95 : decode cX9_person 95 = .ok (.iload 4, 2) := by decide +kernel
theorem dX9_person_97 : decode cX9_person 97 = .ok (.iadd, 1) := by decide +kernel
theorem dX9_person_98 : decode cX9_person 98 = .ok (.iconst 0, 1) := by decide +kernel
theorem dX9_person_99 : decode cX9_person 99 = .ok (.iastore, 1) := by decide +kernel
theorem dX9_person_100 : decode cX9_person 100 = .ok (.iconst 0, 1) := by decide +kernel
theorem dX9_person_101 : decode cX9_person 101 = .ok (.istore 5, 2) := by decide +kernel
theorem dX9_person_103 : decode cX9_person 103 = .ok (.iload 5, 2) := by decide +kernel
theorem dX9_person_105 : decode cX9_person 105 = .ok (.iconst 4, 1) := by decide +kernel
theorem dX9_person_106 : decode cX9_person 106 = .ok (.if_icmp .ge 25, 3) := by decide +kernel
theorem dX9_person_109 : decode cX9_person 109 = .ok (.aload_n 0, 1) := by decide +kernel
theorem dX9_person_110 : decode cX9_person 110 = .ok (.getfield 9, 3) := by decide +kernel
theorem dX9_person_113 : decode cX9_person 113 = .ok (.bipush 50, 2) := by decide +kernel
theorem dX9_person_115 : decode cX9_person 115 = .ok (.iconst 4, 1) := by decide +kernel
theorem dX9_person_116 : decode cX9_person 116 = .ok (.iload 4, 2) := by decide +kernel
theorem dX9_person_118 : decode cX9_person 118 = .ok (.imul, 1) := by decide +kernel
theorem dX9_person_119 : decode cX9_person 119 = .ok (.iadd, 1) := by decide +kernel
theorem dX9_person_120 : decode cX9_person 120 = .ok (.iload 5, 2) := by decide +kernel
theorem dX9_person_122 : decode cX9_person 122 = .ok (.iadd, 1) := by decide +kernel
theorem dX9_person_123 : decode cX9_person 123 = .ok (.iconst 0, 1) := by decide +kernel
theorem dX9_person_124 : decode cX9_person 124 = .ok (.iastore, 1) := by decide +kernel
theorem dX9_person_125 : decode cX9_person 125 = .ok (.iinc 5 1, 3) := by decide +kernel
theorem dX9_person_128 : decode cX9_person 128 = .ok (.goto (-25), 3) := by decide +kernel
theorem dX9_person_131 : decode cX9_person 131 = .ok (.aload_n 0, 1) := by decide +kernel
theorem dX9_person_132 : decode cX9_person 132 = .ok (.getfield 9, 3) := by decide +kernel
theorem dX9_person_135 : decode cX9_person 135 = .ok (.bipush 30, 2) := by decide +kernel
theorem dX9_person_137 : decode cX9_person 137 = .ok (.dup2, 1) := by decide +kernel
theorem dX9_person_138 : decode cX9_person 138 = .ok (.iaload, 1) := by decide +kernel
theorem dX9_person_139 : decode cX9_person 139 = .ok (.iconst 1, 1) := by decide +kernel
theorem dX9_person_140 : decode cX9_person 140 = .ok (.iadd, 1) := by decide +kernel
theorem dX9_person_141 : decode cX9_person 141 = .ok (.iastore, 1) := by decide +kernel
theorem dX9_person_142 : decode cX9_person 142 = .ok (.iload 4, 2) := by decide +kernel
theorem dX9_person_144 : decode cX9_person 144 = .ok (.ireturn, 1) := by decide +kernel
theorem dX9_plainLooks_0 : decode cX9_plainLooks 0 = .ok (.aload_n 0, 1) := by decide +kernel
theorem dX9_plainLooks_1 : decode cX9_plainLooks 1 = .ok (.iconst 2, 1) := by decide +kernel
theorem dX9_plainLooks_2 : decode cX9_plainLooks 2 = .ok (.invokevirtual 192, 3) := by decide +kernel
theorem dX9_plainLooks_5 : decode cX9_plainLooks 5 = .ok (.aload_n 0, 1) := by decide +kernel
theorem dX9_plainLooks_6 : decode cX9_plainLooks 6 = .ok (.iload_n 1, 1) := by decide +kernel
theorem dX9_plainLooks_7 : decode cX9_plainLooks 7 = .ok (.invokevirtual 207, 3) := by decide +kernel
theorem dX9_plainLooks_10 : decode cX9_plainLooks 10 = .ok (.aload_n 0, 1) := by decide +kernel
theorem dX9_plainLooks_11 : decode cX9_plainLooks 11 = .ok (.getfield 210, 3) := by decide +kernel
theorem dX9_plainLooks_14 : decode cX9_plainLooks 14 = .ok (.isub, 1) := by decide +kernel
theorem dX9_plainLooks_15 : decode cX9_plainLooks 15 = .ok (.ireturn, 1) := by decide +kernel
theorem dX9_plainStands_0 : decode cX9_plainStands 0 = .ok (.aload_n 0, 1) := by decide +kernel
theorem dX9_plainStands_1 : decode cX9_plainStands 1 = .ok (.iconst 1, 1) := by decide +kernel
theorem dX9_plainStands_2 : decode cX9_plainStands 2 = .ok (.invokevirtual 192, 3) := by decide +kernel
theorem dX9_plainStands_5 : decode cX9_plainStands 5 = .ok (.iload_n 1, 1) := by decide +kernel
theorem dX9_plainStands_6 : decode cX9_plainStands 6 = .ok (.aload_n 0, 1) := by decide +kernel
theorem dX9_plainStands_7 : decode cX9_plainStands 7 = .ok (.getfield 195, 3) := by decide +kernel
theorem dX9_plainStands_10 : decode cX9_plainStands 10 = .ok (.iadd, 1) := by decide +kernel
theorem dX9_plainStands_11 : decode cX9_plainStands 11 = .ok (.ireturn, 1) := by decide +kernel
theorem dX9_plainTelling_0 : decode cX9_plainTelling 0 = .ok (.aload_n 0, 1) := by decide +kernel
theorem dX9_plainTelling_1 : decode cX9_plainTelling 1 = .ok (.iconst 3, 1) := by decide +kernel
theorem dX9_plainTelling_2 : decode cX9_plainTelling 2 = .ok (.invokevirtual 192, 3) := by decide +kernel
theorem dX9_plainTelling_5 : decode cX9_plainTelling 5 = .ok (.aload_n 0, 1) := by decide +kernel
theorem dX9_plainTelling_6 : decode cX9_plainTelling 6 = .ok (.iload_n 1, 1) := by decide +kernel
theorem dX9_plainTelling_7 : decode cX9_plainTelling 7 = .ok (.invokevirtual 216, 3) := by decide +kernel
theorem dX9_plainTelling_10 : decode cX9_plainTelling 10 = .ok (.iconst 2, 1) := by decide +kernel
theorem dX9_plainTelling_11 : decode cX9_plainTelling 11 = .ok (.imul, 1) := by decide +kernel
theorem dX9_plainTelling_12 : decode cX9_plainTelling 12 = .ok (.ireturn, 1) := by decide +kernel
theorem dX9_plan_0 : decode cX9_plan 0 = .ok (.iload_n 1, 1) := by decide +kernel
theorem dX9_plan_1 : decode cX9_plan 1 = .ok (.iconst (-1), 1) := by decide +kernel
theorem dX9_plan_2 : decode cX9_plan 2 = .ok (.if_icmp .ne 13, 3) := by decide +kernel
theorem dX9_plan_5 : decode cX9_plan 5 = .ok (.aload_n 0, 1) := by decide +kernel
theorem dX9_plan_6 : decode cX9_plan 6 = .ok (.getfield 9, 3) := by decide +kernel
theorem dX9_plan_9 : decode cX9_plan 9 = .ok (.bipush 34, 2) := by decide +kernel
theorem dX9_plan_11 : decode cX9_plan 11 = .ok (.iconst 0, 1) := by decide +kernel
theorem dX9_plan_12 : decode cX9_plan 12 = .ok (.iastore, 1) := by decide +kernel
theorem dX9_plan_13 : decode cX9_plan 13 = .ok (.iconst 0, 1) := by decide +kernel
theorem dX9_plan_14 : decode cX9_plan 14 = .ok (.ireturn, 1) := by decide +kernel
theorem dX9_plan_15 : decode cX9_plan 15 = .ok (.iload_n 1, 1) := by decide +kernel
theorem dX9_plan_16 : decode cX9_plan 16 = .ok (.iconst 0, 1) := by decide +kernel
theorem dX9_plan_17 : decode cX9_plan 17 = .ok (.iconst 3, 1) := by decide +kernel
theorem dX9_plan_18 : decode cX9_plan 18 = .ok (.invokestatic 35, 3) := by decide +kernel
theorem dX9_plan_21 : decode cX9_plan 21 = .ok (.ifCond .eq 32, 3) := by decide +kernel
theorem dX9_plan_24 : decode cX9_plan 24 = .ok (.iload_n 1, 1) := by decide +kernel
theorem dX9_plan_25 : decode cX9_plan 25 = .ok (.iconst 1, 1) := by decide +kernel
theorem dX9_plan_26 : decode cX9_plan 26 = .ok (.iconst 2, 1) := by decide +kernel
theorem dX9_plan_27 : decode cX9_plan 27 = .ok (.invokestatic 35, 3) := by decide +kernel
theorem dX9_plan_30 : decode cX9_plan 30 = .ok (.ifCond .eq 11, 3) := by decide +kernel
theorem dX9_plan_33 : decode cX9_plan 33 = .ok (.aload_n 0, 1) := by decide +kernel
theorem dX9_plan_34 : decode cX9_plan 34 = .ok (.iload_n 2, 1) := by decide +kernel
theorem dX9_plan_35 : decode cX9_plan 35 = .ok (.invokevirtual 136, 3) := by decide +kernel
theorem dX9_plan_38 : decode cX9_plan 38 = .ok (.ifCond .eq 15, 3) := by decide +kernel
theorem dX9_plan_41 : decode cX9_plan 41 = .ok (.iload_n 1, 1) := by decide +kernel
theorem dX9_plan_42 : decode cX9_plan 42 = .ok (.iconst 3, 1) := by decide +kernel
theorem dX9_plan_43 : decode cX9_plan 43 = .ok (.if_icmp .ne 12, 3) := by decide +kernel
theorem dX9_plan_46 : decode cX9_plan 46 = .ok (.iload_n 2, 1) := by decide +kernel
theorem dX9_plan_47 : decode cX9_plan 47 = .ok (.invokestatic 132, 3) := by decide +kernel
theorem dX9_plan_50 : decode cX9_plan 50 = .ok (.ifCond .ne 5, 3) := by decide +kernel
theorem dX9_plan_53 : decode cX9_plan 53 = .ok (.iconst (-1), 1) := by decide +kernel
theorem dX9_plan_54 : decode cX9_plan 54 = .ok (.ireturn, 1) := by decide +kernel
theorem dX9_plan_55 : decode cX9_plan 55 = .ok (.aload_n 0, 1) := by decide +kernel
theorem dX9_plan_56 : decode cX9_plan 56 = .ok (.getfield 9, 3) := by decide +kernel
theorem dX9_plan_59 : decode cX9_plan 59 = .ok (.bipush 34, 2) := by decide +kernel
theorem dX9_plan_61 : decode cX9_plan 61 = .ok (.iaload, 1) := by decide +kernel
theorem dX9_plan_62 : decode cX9_plan 62 = .ok (.bipush 8, 2) := by decide +kernel
theorem dX9_plan_64 : decode cX9_plan 64 = .ok (.if_icmp .ne 6, 3) := by decide +kernel
theorem dX9_plan_67 : decode cX9_plan 67 = .ok (.bipush (-4), 2) := by decide +kernel
theorem dX9_plan_69 : decode cX9_plan 69 = .ok (.ireturn, 1) := by decide +kernel
theorem dX9_plan_70 : decode cX9_plan 70 = .ok (.aload_n 0, 1) := by decide +kernel
theorem dX9_plan_71 : decode cX9_plan 71 = .ok (.getfield 9, 3) := by decide +kernel
theorem dX9_plan_74 : decode cX9_plan 74 = .ok (.bipush 94, 2) := by decide +kernel
theorem dX9_plan_76 : decode cX9_plan 76 = .ok (.aload_n 0, 1) := by decide +kernel
theorem dX9_plan_77 : decode cX9_plan 77 = .ok (.getfield 9, 3) := by decide +kernel
theorem dX9_plan_80 : decode cX9_plan 80 = .ok (.bipush 34, 2) := by decide +kernel
theorem dX9_plan_82 : decode cX9_plan 82 = .ok (.iaload, 1) := by decide +kernel
theorem dX9_plan_83 : decode cX9_plan 83 = .ok (.iadd, 1) := by decide +kernel
theorem dX9_plan_84 : decode cX9_plan 84 = .ok (.iload_n 1, 1) := by decide +kernel
theorem dX9_plan_85 : decode cX9_plan 85 = .ok (.iastore, 1) := by decide +kernel
theorem dX9_plan_86 : decode cX9_plan 86 = .ok (.aload_n 0, 1) := by decide +kernel
theorem dX9_plan_87 : decode cX9_plan 87 = .ok (.getfield 9, 3) := by decide +kernel
theorem dX9_plan_90 : decode cX9_plan 90 = .ok (.bipush 102, 2) := by decide +kernel
theorem dX9_plan_92 : decode cX9_plan 92 = .ok (.aload_n 0, 1) := by decide +kernel
theorem dX9_plan_93 : decode cX9_plan 93 = .ok (.getfield 9, 3) := by decide +kernel
theorem dX9_plan_96 : decode cX9_plan 96 = .ok (.bipush 34, 2) := by decide +kernel
theorem dX9_plan_98 : decode cX9_plan 98 = .ok (.iaload, 1) := by decide +kernel
theorem dX9_plan_99 : decode cX9_plan 99 = .ok (.iadd, 1) := by decide +kernel
theorem dX9_plan_100 : decode cX9_plan 100 = .ok (.iload_n 2, 1) := by decide +kernel
theorem dX9_plan_101 : decode cX9_plan 101 = .ok (.iastore, 1) := by decide +kernel
theorem dX9_plan_102 : decode cX9_plan 102 = .ok (.aload_n 0, 1) := by decide +kernel
theorem dX9_plan_103 : decode cX9_plan 103 = .ok (.getfield 9, 3) := by decide +kernel
theorem dX9_plan_106 : decode cX9_plan 106 = .ok (.bipush 34, 2) := by decide +kernel
theorem dX9_plan_108 : decode cX9_plan 108 = .ok (.dup2, 1) := by decide +kernel
theorem dX9_plan_109 : decode cX9_plan 109 = .ok (.iaload, 1) := by decide +kernel
theorem dX9_plan_110 : decode cX9_plan 110 = .ok (.iconst 1, 1) := by decide +kernel
theorem dX9_plan_111 : decode cX9_plan 111 = .ok (.iadd, 1) := by decide +kernel
theorem dX9_plan_112 : decode cX9_plan 112 = .ok (.iastore, 1) := by decide +kernel
theorem dX9_plan_113 : decode cX9_plan 113 = .ok (.aload_n 0, 1) := by decide +kernel
theorem dX9_plan_114 : decode cX9_plan 114 = .ok (.getfield 9, 3) := by decide +kernel
theorem dX9_plan_117 : decode cX9_plan 117 = .ok (.bipush 34, 2) := by decide +kernel
theorem dX9_plan_119 : decode cX9_plan 119 = .ok (.iaload, 1) := by decide +kernel
theorem dX9_plan_120 : decode cX9_plan 120 = .ok (.ireturn, 1) := by decide +kernel
theorem dX9_ranBody_0 : decode cX9_ranBody 0 = .ok (.aload_n 0, 1) := by decide +kernel
theorem dX9_ranBody_1 : decode cX9_ranBody 1 = .ok (.getfield 189, 3) := by decide +kernel
theorem dX9_ranBody_4 : decode cX9_ranBody 4 = .ok (.bipush 20, 2) := by decide +kernel
theorem dX9_ranBody_6 : decode cX9_ranBody 6 = .ok (.if_icmp .ge 13, 3) := by decide +kernel
theorem dX9_ranBody_9 : decode cX9_ranBody 9 = .ok (.aload_n 0, 1) := by decide +kernel
theorem dX9_ranBody_10 : decode cX9_ranBody 10 = .ok (.getfield 28, 3) := by decide +kernel
theorem dX9_ranBody_13 : decode cX9_ranBody 13 = .ok (.aload_n 0, 1) := by decide +kernel
theorem dX9_ranBody_14 : decode cX9_ranBody 14 = .ok (.getfield 189, 3) := by decide +kernel
theorem dX9_ranBody_17 : decode cX9_ranBody 17 = .ok (.iload_n 1, 1) := by decide +kernel
theorem dX9_ranBody_18 : decode cX9_ranBody 18 = .ok (.iastore, 1) := by decide +kernel
theorem dX9_ranBody_19 : decode cX9_ranBody 19 = .ok (.aload_n 0, 1) := by decide +kernel
theorem dX9_ranBody_20 : decode cX9_ranBody 20 = .ok (.dup, 1) := by decide +kernel
theorem dX9_ranBody_21 : decode cX9_ranBody 21 = .ok (.getfield 189, 3) := by decide +kernel
theorem dX9_ranBody_24 : decode cX9_ranBody 24 = .ok (.iconst 1, 1) := by decide +kernel
theorem dX9_ranBody_25 : decode cX9_ranBody 25 = .ok (.iadd, 1) := by decide +kernel
theorem dX9_ranBody_26 : decode cX9_ranBody 26 = .ok (.putfield 189, 3) := by decide +kernel
theorem dX9_ranBody_29 : decode cX9_ranBody 29 = .ok (.return_, 1) := by decide +kernel
theorem dX9_see_0 : decode cX9_see 0 = .ok (.iload_n 1, 1) := by decide +kernel
theorem dX9_see_1 : decode cX9_see 1 = .ok (.iconst (-1), 1) := by decide +kernel
theorem dX9_see_2 : decode cX9_see 2 = .ok (.if_icmp .ne 13, 3) := by decide +kernel
theorem dX9_see_5 : decode cX9_see 5 = .ok (.aload_n 0, 1) := by decide +kernel
theorem dX9_see_6 : decode cX9_see 6 = .ok (.getfield 9, 3) := by decide +kernel
theorem dX9_see_9 : decode cX9_see 9 = .ok (.bipush 33, 2) := by decide +kernel
theorem dX9_see_11 : decode cX9_see 11 = .ok (.iconst 0, 1) := by decide +kernel
theorem dX9_see_12 : decode cX9_see 12 = .ok (.iastore, 1) := by decide +kernel
theorem dX9_see_13 : decode cX9_see 13 = .ok (.iconst 0, 1) := by decide +kernel
theorem dX9_see_14 : decode cX9_see 14 = .ok (.ireturn, 1) := by decide +kernel
theorem dX9_see_15 : decode cX9_see 15 = .ok (.iload_n 1, 1) := by decide +kernel
theorem dX9_see_16 : decode cX9_see 16 = .ok (.invokestatic 132, 3) := by decide +kernel
theorem dX9_see_19 : decode cX9_see 19 = .ok (.ifCond .ne 5, 3) := by decide +kernel
theorem dX9_see_22 : decode cX9_see 22 = .ok (.iconst (-1), 1) := by decide +kernel
theorem dX9_see_23 : decode cX9_see 23 = .ok (.ireturn, 1) := by decide +kernel
theorem dX9_see_24 : decode cX9_see 24 = .ok (.iload_n 2, 1) := by decide +kernel
theorem dX9_see_25 : decode cX9_see 25 = .ok (.iconst 0, 1) := by decide +kernel
theorem dX9_see_26 : decode cX9_see 26 = .ok (.bipush 20, 2) := by decide +kernel
theorem dX9_see_28 : decode cX9_see 28 = .ok (.invokestatic 35, 3) := by decide +kernel
theorem dX9_see_31 : decode cX9_see 31 = .ok (.ifCond .ne 6, 3) := by decide +kernel
theorem dX9_see_34 : decode cX9_see 34 = .ok (.bipush (-2), 2) := by decide +kernel
theorem dX9_see_36 : decode cX9_see 36 = .ok (.ireturn, 1) := by decide +kernel
theorem dX9_see_37 : decode cX9_see 37 = .ok (.aload_n 0, 1) := by decide +kernel
theorem dX9_see_38 : decode cX9_see 38 = .ok (.getfield 9, 3) := by decide +kernel
theorem dX9_see_41 : decode cX9_see 41 = .ok (.bipush 33, 2) := by decide +kernel
theorem dX9_see_43 : decode cX9_see 43 = .ok (.iaload, 1) := by decide +kernel
theorem dX9_see_44 : decode cX9_see 44 = .ok (.iconst 5, 1) := by decide +kernel
theorem dX9_see_45 : decode cX9_see 45 = .ok (.if_icmp .ne 6, 3) := by decide +kernel
theorem dX9_see_48 : decode cX9_see 48 = .ok (.bipush (-4), 2) := by decide +kernel
theorem dX9_see_50 : decode cX9_see 50 = .ok (.ireturn, 1) := by decide +kernel
theorem dX9_see_51 : decode cX9_see 51 = .ok (.aload_n 0, 1) := by decide +kernel
theorem dX9_see_52 : decode cX9_see 52 = .ok (.getfield 9, 3) := by decide +kernel
theorem dX9_see_55 : decode cX9_see 55 = .ok (.bipush 84, 2) := by decide +kernel
theorem dX9_see_57 : decode cX9_see 57 = .ok (.aload_n 0, 1) := by decide +kernel
theorem dX9_see_58 : decode cX9_see 58 = .ok (.getfield 9, 3) := by decide +kernel
theorem dX9_see_61 : decode cX9_see 61 = .ok (.bipush 33, 2) := by decide +kernel
theorem dX9_see_63 : decode cX9_see 63 = .ok (.iaload, 1) := by decide +kernel
theorem dX9_see_64 : decode cX9_see 64 = .ok (.iadd, 1) := by decide +kernel
theorem dX9_see_65 : decode cX9_see 65 = .ok (.iload_n 1, 1) := by decide +kernel
theorem dX9_see_66 : decode cX9_see 66 = .ok (.iastore, 1) := by decide +kernel
theorem dX9_see_67 : decode cX9_see 67 = .ok (.aload_n 0, 1) := by decide +kernel
theorem dX9_see_68 : decode cX9_see 68 = .ok (.getfield 9, 3) := by decide +kernel
theorem dX9_see_71 : decode cX9_see 71 = .ok (.bipush 89, 2) := by decide +kernel
theorem dX9_see_73 : decode cX9_see 73 = .ok (.aload_n 0, 1) := by decide +kernel
theorem dX9_see_74 : decode cX9_see 74 = .ok (.getfield 9, 3) := by decide +kernel
theorem dX9_see_77 : decode cX9_see 77 = .ok (.bipush 33, 2) := by decide +kernel
theorem dX9_see_79 : decode cX9_see 79 = .ok (.iaload, 1) := by decide +kernel
theorem dX9_see_80 : decode cX9_see 80 = .ok (.iadd, 1) := by decide +kernel
theorem dX9_see_81 : decode cX9_see 81 = .ok (.iload_n 2, 1) := by decide +kernel
theorem dX9_see_82 : decode cX9_see 82 = .ok (.iastore, 1) := by decide +kernel
theorem dX9_see_83 : decode cX9_see 83 = .ok (.aload_n 0, 1) := by decide +kernel
theorem dX9_see_84 : decode cX9_see 84 = .ok (.getfield 9, 3) := by decide +kernel
theorem dX9_see_87 : decode cX9_see 87 = .ok (.bipush 33, 2) := by decide +kernel
theorem dX9_see_89 : decode cX9_see 89 = .ok (.dup2, 1) := by decide +kernel
theorem dX9_see_90 : decode cX9_see 90 = .ok (.iaload, 1) := by decide +kernel
theorem dX9_see_91 : decode cX9_see 91 = .ok (.iconst 1, 1) := by decide +kernel
theorem dX9_see_92 : decode cX9_see 92 = .ok (.iadd, 1) := by decide +kernel
theorem dX9_see_93 : decode cX9_see 93 = .ok (.iastore, 1) := by decide +kernel
theorem dX9_see_94 : decode cX9_see 94 = .ok (.aload_n 0, 1) := by decide +kernel
theorem dX9_see_95 : decode cX9_see 95 = .ok (.getfield 9, 3) := by decide +kernel
theorem dX9_see_98 : decode cX9_see 98 = .ok (.bipush 33, 2) := by decide +kernel
theorem dX9_see_100 : decode cX9_see 100 = .ok (.iaload, 1) := by decide +kernel
theorem dX9_see_101 : decode cX9_see 101 = .ok (.ireturn, 1) := by decide +kernel
theorem dX9_soonest_0 : decode cX9_soonest 0 = .ok (.iload_n 1, 1) := by decide +kernel
theorem dX9_soonest_1 : decode cX9_soonest 1 = .ok (.invokestatic 132, 3) := by decide +kernel
theorem dX9_soonest_4 : decode cX9_soonest 4 = .ok (.ifCond .eq 12, 3) := by decide +kernel
theorem dX9_soonest_7 : decode cX9_soonest 7 = .ok (.iload_n 2, 1) := by decide +kernel
theorem dX9_soonest_8 : decode cX9_soonest 8 = .ok (.iconst 0, 1) := by decide +kernel
theorem dX9_soonest_9 : decode cX9_soonest 9 = .ok (.iconst 1, 1) := by decide +kernel
theorem dX9_soonest_10 : decode cX9_soonest 10 = .ok (.invokestatic 35, 3) := by decide +kernel
theorem dX9_soonest_13 : decode cX9_soonest 13 = .ok (.ifCond .ne 5, 3) := by decide +kernel
theorem dX9_soonest_16 : decode cX9_soonest 16 = .ok (.iconst (-1), 1) := by decide +kernel
theorem dX9_soonest_17 : decode cX9_soonest 17 = .ok (.ireturn, 1) := by decide +kernel
theorem dX9_soonest_18 : decode cX9_soonest 18 = .ok (.bipush (-5), 2) := by decide +kernel
theorem dX9_soonest_20 : decode cX9_soonest 20 = .ok (.istore_n 3, 1) := by decide +kernel
theorem dX9_soonest_21 : decode cX9_soonest 21 = .ok (.ldc 161, 2) := by decide +kernel
theorem dX9_soonest_23 : decode cX9_soonest 23 = .ok (.istore 4, 2) := by decide +kernel
theorem dX9_soonest_25 : decode cX9_soonest 25 = .ok (.iconst 0, 1) := by decide +kernel
theorem dX9_soonest_26 : decode cX9_soonest 26 = .ok (.istore 5, 2) := by decide +kernel
theorem dX9_soonest_28 : decode cX9_soonest 28 = .ok (.iload 5, 2) := by decide +kernel
theorem dX9_soonest_30 : decode cX9_soonest 30 = .ok (.bipush 16, 2) := by decide +kernel
theorem dX9_soonest_32 : decode cX9_soonest 32 = .ok (.if_icmp .ge 75, 3) := by decide +kernel
theorem dX9_soonest_35 : decode cX9_soonest 35 = .ok (.aload_n 0, 1) := by decide +kernel
theorem dX9_soonest_36 : decode cX9_soonest 36 = .ok (.invokevirtual 152, 3) := by decide +kernel
theorem dX9_soonest_39 : decode cX9_soonest 39 = .ok (.aload_n 0, 1) := by decide +kernel
theorem dX9_soonest_40 : decode cX9_soonest 40 = .ok (.getfield 9, 3) := by decide +kernel
theorem dX9_soonest_43 : decode cX9_soonest 43 = .ok (.iconst 1, 1) := by decide +kernel
theorem dX9_soonest_44 : decode cX9_soonest 44 = .ok (.iload 5, 2) := by decide +kernel
theorem dX9_soonest_46 : decode cX9_soonest 46 = .ok (.iastore, 1) := by decide +kernel
theorem dX9_soonest_47 : decode cX9_soonest 47 = .ok (.iload 5, 2) := by decide +kernel
theorem dX9_soonest_49 : decode cX9_soonest 49 = .ok (.iload_n 1, 1) := by decide +kernel
theorem dX9_soonest_50 : decode cX9_soonest 50 = .ok (.if_icmp .ne 8, 3) := by decide +kernel
theorem dX9_soonest_53 : decode cX9_soonest 53 = .ok (.ldc 161, 2) := by decide +kernel
theorem dX9_soonest_55 : decode cX9_soonest 55 = .ok (.goto 10, 3) := by decide +kernel
theorem dX9_soonest_58 : decode cX9_soonest 58 = .ok (.aload_n 0, 1) := by decide +kernel
theorem dX9_soonest_59 : decode cX9_soonest 59 = .ok (.iload_n 1, 1) := by decide +kernel
theorem dX9_soonest_60 : decode cX9_soonest 60 = .ok (.bipush 30, 2) := by decide +kernel
theorem dX9_soonest_62 : decode cX9_soonest 62 = .ok (.invokevirtual 162, 3) := by decide +kernel
theorem dX9_soonest_65 : decode cX9_soonest 65 = .ok (.istore 6, 2) := by decide +kernel
theorem dX9_soonest_67 : decode cX9_soonest 67 = .ok (.aload_n 0, 1) := by decide +kernel
theorem dX9_soonest_68 : decode cX9_soonest 68 = .ok (.invokevirtual 158, 3) := by decide +kernel
theorem dX9_soonest_71 : decode cX9_soonest 71 = .ok (.iload 6, 2) := by decide +kernel
theorem dX9_soonest_73 : decode cX9_soonest 73 = .ok (.iload 4, 2) := by decide +kernel
theorem dX9_soonest_75 : decode cX9_soonest 75 = .ok (.if_icmp .ge 8, 3) := by decide +kernel
theorem dX9_soonest_78 : decode cX9_soonest 78 = .ok (.iload 5, 2) := by decide +kernel
theorem dX9_soonest_80 : decode cX9_soonest 80 = .ok (.goto 4, 3) := by decide +kernel
theorem dX9_soonest_83 : decode cX9_soonest 83 = .ok (.iload_n 3, 1) := by decide +kernel
theorem dX9_soonest_84 : decode cX9_soonest 84 = .ok (.istore_n 3, 1) := by decide +kernel
theorem dX9_soonest_85 : decode cX9_soonest 85 = .ok (.iload 6, 2) := by decide +kernel
theorem dX9_soonest_87 : decode cX9_soonest 87 = .ok (.iload 4, 2) := by decide +kernel
theorem dX9_soonest_89 : decode cX9_soonest 89 = .ok (.if_icmp .ge 8, 3) := by decide +kernel
theorem dX9_soonest_92 : decode cX9_soonest 92 = .ok (.iload 6, 2) := by decide +kernel
theorem dX9_soonest_94 : decode cX9_soonest 94 = .ok (.goto 5, 3) := by decide +kernel
theorem dX9_soonest_97 : decode cX9_soonest 97 = .ok (.iload 4, 2) := by decide +kernel
theorem dX9_soonest_99 : decode cX9_soonest 99 = .ok (.istore 4, 2) := by decide +kernel
theorem dX9_soonest_101 : decode cX9_soonest 101 = .ok (.iinc 5 1, 3) := by decide +kernel
theorem dX9_soonest_104 : decode cX9_soonest 104 = .ok (.goto (-76), 3) := by decide +kernel
theorem dX9_soonest_107 : decode cX9_soonest 107 = .ok (.iload_n 3, 1) := by decide +kernel
theorem dX9_soonest_108 : decode cX9_soonest 108 = .ok (.bipush (-5), 2) := by decide +kernel
theorem dX9_soonest_110 : decode cX9_soonest 110 = .ok (.if_icmp .eq 7, 3) := by decide +kernel
theorem dX9_soonest_113 : decode cX9_soonest 113 = .ok (.iload_n 2, 1) := by decide +kernel
theorem dX9_soonest_114 : decode cX9_soonest 114 = .ok (.ifCond .ne 7, 3) := by decide +kernel
theorem dX9_soonest_117 : decode cX9_soonest 117 = .ok (.iload_n 3, 1) := by decide +kernel
theorem dX9_soonest_118 : decode cX9_soonest 118 = .ok (.goto 5, 3) := by decide +kernel
theorem dX9_soonest_121 : decode cX9_soonest 121 = .ok (.iload 4, 2) := by decide +kernel
theorem dX9_soonest_123 : decode cX9_soonest 123 = .ok (.ireturn, 1) := by decide +kernel
theorem dX9_sought_0 : decode cX9_sought 0 = .ok (.iconst 0, 1) := by decide +kernel
theorem dX9_sought_1 : decode cX9_sought 1 = .ok (.istore_n 1, 1) := by decide +kernel
theorem dX9_sought_2 : decode cX9_sought 2 = .ok (.iconst 0, 1) := by decide +kernel
theorem dX9_sought_3 : decode cX9_sought 3 = .ok (.istore_n 2, 1) := by decide +kernel
theorem dX9_sought_4 : decode cX9_sought 4 = .ok (.iload_n 2, 1) := by decide +kernel
theorem dX9_sought_5 : decode cX9_sought 5 = .ok (.aload_n 0, 1) := by decide +kernel
theorem dX9_sought_6 : decode cX9_sought 6 = .ok (.getfield 9, 3) := by decide +kernel
theorem dX9_sought_9 : decode cX9_sought 9 = .ok (.bipush 30, 2) := by decide +kernel
theorem dX9_sought_11 : decode cX9_sought 11 = .ok (.iaload, 1) := by decide +kernel
theorem dX9_sought_12 : decode cX9_sought 12 = .ok (.if_icmp .ge 68, 3) := by decide +kernel
theorem dX9_sought_15 : decode cX9_sought 15 = .ok (.aload_n 0, 1) := by decide +kernel
theorem dX9_sought_16 : decode cX9_sought 16 = .ok (.invokevirtual 152, 3) := by decide +kernel
theorem dX9_sought_19 : decode cX9_sought 19 = .ok (.iconst 0, 1) := by decide +kernel
theorem dX9_sought_20 : decode cX9_sought 20 = .ok (.istore_n 3, 1) := by decide +kernel
theorem dX9_sought_21 : decode cX9_sought 21 = .ok (.iload_n 3, 1) := by decide +kernel
theorem dX9_sought_22 : decode cX9_sought 22 = .ok (.aload_n 0, 1) := by decide +kernel
theorem dX9_sought_23 : decode cX9_sought 23 = .ok (.getfield 9, 3) := by decide +kernel
theorem dX9_sought_26 : decode cX9_sought 26 = .ok (.bipush 30, 2) := by decide +kernel
theorem dX9_sought_28 : decode cX9_sought 28 = .ok (.iaload, 1) := by decide +kernel
theorem dX9_sought_29 : decode cX9_sought 29 = .ok (.if_icmp .ge 28, 3) := by decide +kernel
theorem dX9_sought_32 : decode cX9_sought 32 = .ok (.aload_n 0, 1) := by decide +kernel
theorem dX9_sought_33 : decode cX9_sought 33 = .ok (.getfield 9, 3) := by decide +kernel
theorem dX9_sought_36 : decode cX9_sought 36 = .ok (.bipush 24, 2) := by decide +kernel
theorem dX9_sought_38 : decode cX9_sought 38 = .ok (.iload_n 3, 1) := by decide +kernel
theorem dX9_sought_39 : decode cX9_sought 39 = .ok (.iadd, 1) := by decide +kernel
theorem dX9_sought_40 : decode cX9_sought 40 = .ok (.iload_n 3, 1) := by decide +kernel
theorem dX9_sought_41 : decode cX9_sought 41 = .ok (.iload_n 2, 1) := by decide +kernel
theorem dX9_sought_42 : decode cX9_sought 42 = .ok (.if_icmp .ne 7, 3) := by decide +kernel
theorem dX9_sought_45 : decode cX9_sought 45 = .ok (.iconst 0, 1) := by decide +kernel
theorem dX9_sought_46 : decode cX9_sought 46 = .ok (.goto 4, 3) := by decide +kernel
theorem dX9_sought_49 : decode cX9_sought 49 = .ok (.iconst 1, 1) := by decide +kernel
theorem dX9_sought_50 : decode cX9_sought 50 = .ok (.iastore, 1) := by decide +kernel
theorem dX9_sought_51 : decode cX9_sought 51 = .ok (.iinc 3 1, 3) := by decide +kernel
theorem dX9_sought_54 : decode cX9_sought 54 = .ok (.goto (-33), 3) := by decide +kernel
theorem dX9_sought_57 : decode cX9_sought 57 = .ok (.iload_n 1, 1) := by decide +kernel
theorem dX9_sought_58 : decode cX9_sought 58 = .ok (.aload_n 0, 1) := by decide +kernel
theorem dX9_sought_59 : decode cX9_sought 59 = .ok (.invokevirtual 175, 3) := by decide +kernel
theorem dX9_sought_62 : decode cX9_sought 62 = .ok (.ifCond .eq 9, 3) := by decide +kernel
theorem dX9_sought_65 : decode cX9_sought 65 = .ok (.iconst 1, 1) := by decide +kernel
theorem dX9_sought_66 : decode cX9_sought 66 = .ok (.iload_n 2, 1) := by decide +kernel
theorem dX9_sought_67 : decode cX9_sought 67 = .ok (.ishl, 1) := by decide +kernel
theorem dX9_sought_68 : decode cX9_sought 68 = .ok (.goto 4, 3) := by decide +kernel
theorem dX9_sought_71 : decode cX9_sought 71 = .ok (.iconst 0, 1) := by decide +kernel
theorem dX9_sought_72 : decode cX9_sought 72 = .ok (.ior, 1) := by decide +kernel
theorem dX9_sought_73 : decode cX9_sought 73 = .ok (.istore_n 1, 1) := by decide +kernel
theorem dX9_sought_74 : decode cX9_sought 74 = .ok (.iinc 2 1, 3) := by decide +kernel
theorem dX9_sought_77 : decode cX9_sought 77 = .ok (.goto (-73), 3) := by decide +kernel
theorem dX9_sought_80 : decode cX9_sought 80 = .ok (.iload_n 1, 1) := by decide +kernel
theorem dX9_sought_81 : decode cX9_sought 81 = .ok (.ireturn, 1) := by decide +kernel
theorem dX9_standsActs_0 : decode cX9_standsActs 0 = .ok (.aload_n 0, 1) := by decide +kernel
theorem dX9_standsActs_1 : decode cX9_standsActs 1 = .ok (.getfield 198, 3) := by decide +kernel
theorem dX9_standsActs_4 : decode cX9_standsActs 4 = .ok (.iconst 1, 1) := by decide +kernel
theorem dX9_standsActs_5 : decode cX9_standsActs 5 = .ok (.invokestatic 201, 3) := by decide +kernel
theorem dX9_standsActs_8 : decode cX9_standsActs 8 = .ok (.ifCond .eq 17, 3) := by decide +kernel
theorem dX9_standsActs_11 : decode cX9_standsActs 11 = .ok (.aload_n 0, 1) := by decide +kernel
theorem dX9_standsActs_12 : decode cX9_standsActs 12 = .ok (.bipush 11, 2) := by decide +kernel
theorem dX9_standsActs_14 : decode cX9_standsActs 14 = .ok (.invokevirtual 192, 3) := by decide +kernel
theorem dX9_standsActs_17 : decode cX9_standsActs 17 = .ok (.aload_n 0, 1) := by decide +kernel
theorem dX9_standsActs_18 : decode cX9_standsActs 18 = .ok (.iload_n 1, 1) := by decide +kernel
theorem dX9_standsActs_19 : decode cX9_standsActs 19 = .ok (.iconst 3, 1) := by decide +kernel
theorem dX9_standsActs_20 : decode cX9_standsActs 20 = .ok (.imul, 1) := by decide +kernel
theorem dX9_standsActs_21 : decode cX9_standsActs 21 = .ok (.invokevirtual 204, 3) := by decide +kernel
theorem dX9_standsActs_24 : decode cX9_standsActs 24 = .ok (.ireturn, 1) := by decide +kernel
theorem dX9_standsActs_25 : decode cX9_standsActs 25 = .ok (.aload_n 0, 1) := by decide +kernel
theorem dX9_standsActs_26 : decode cX9_standsActs 26 = .ok (.getfield 198, 3) := by decide +kernel
theorem dX9_standsActs_29 : decode cX9_standsActs 29 = .ok (.iconst 5, 1) := by decide +kernel
theorem dX9_standsActs_30 : decode cX9_standsActs 30 = .ok (.if_icmp .ne 20, 3) := by decide +kernel
theorem dX9_standsActs_33 : decode cX9_standsActs 33 = .ok (.aload_n 0, 1) := by decide +kernel
theorem dX9_standsActs_34 : decode cX9_standsActs 34 = .ok (.bipush 51, 2) := by decide +kernel
theorem dX9_standsActs_36 : decode cX9_standsActs 36 = .ok (.invokevirtual 192, 3) := by decide +kernel
theorem dX9_standsActs_39 : decode cX9_standsActs 39 = .ok (.aload_n 0, 1) := by decide +kernel
theorem dX9_standsActs_40 : decode cX9_standsActs 40 = .ok (.iload_n 1, 1) := by decide +kernel
theorem dX9_standsActs_41 : decode cX9_standsActs 41 = .ok (.invokevirtual 204, 3) := by decide +kernel
theorem dX9_standsActs_44 : decode cX9_standsActs 44 = .ok (.aload_n 0, 1) := by decide +kernel
theorem dX9_standsActs_45 : decode cX9_standsActs 45 = .ok (.getfield 195, 3) := by decide +kernel
theorem dX9_standsActs_48 : decode cX9_standsActs 48 = .ok (.ixor, 1) := by decide +kernel
theorem dX9_standsActs_49 : decode cX9_standsActs 49 = .ok (.ireturn, 1) := by decide +kernel
theorem dX9_standsActs_50 : decode cX9_standsActs 50 = .ok (.aload_n 0, 1) := by decide +kernel
theorem dX9_standsActs_51 : decode cX9_standsActs 51 = .ok (.iload_n 1, 1) := by decide +kernel
theorem dX9_standsActs_52 : decode cX9_standsActs 52 = .ok (.invokevirtual 204, 3) := by decide +kernel
theorem dX9_standsActs_55 : decode cX9_standsActs 55 = .ok (.ireturn, 1) := by decide +kernel
theorem dX9_stepsTo_0 : decode cX9_stepsTo 0 = .ok (.ldc 161, 2) := by decide +kernel
theorem dX9_stepsTo_2 : decode cX9_stepsTo 2 = .ok (.istore_n 3, 1) := by decide +kernel
theorem dX9_stepsTo_3 : decode cX9_stepsTo 3 = .ok (.iconst 0, 1) := by decide +kernel
theorem dX9_stepsTo_4 : decode cX9_stepsTo 4 = .ok (.istore 4, 2) := by decide +kernel
theorem dX9_stepsTo_6 : decode cX9_stepsTo 6 = .ok (.iload 4, 2) := by decide +kernel
theorem dX9_stepsTo_8 : decode cX9_stepsTo 8 = .ok (.iload_n 2, 1) := by decide +kernel
theorem dX9_stepsTo_9 : decode cX9_stepsTo 9 = .ok (.if_icmp .gt 37, 3) := by decide +kernel
theorem dX9_stepsTo_12 : decode cX9_stepsTo 12 = .ok (.iload_n 3, 1) := by decide +kernel
theorem dX9_stepsTo_13 : decode cX9_stepsTo 13 = .ok (.ldc 161, 2) := by decide +kernel
theorem dX9_stepsTo_15 : decode cX9_stepsTo 15 = .ok (.if_icmp .ne 31, 3) := by decide +kernel
theorem dX9_stepsTo_18 : decode cX9_stepsTo 18 = .ok (.aload_n 0, 1) := by decide +kernel
theorem dX9_stepsTo_19 : decode cX9_stepsTo 19 = .ok (.getfield 9, 3) := by decide +kernel
theorem dX9_stepsTo_22 : decode cX9_stepsTo 22 = .ok (.iconst 1, 1) := by decide +kernel
theorem dX9_stepsTo_23 : decode cX9_stepsTo 23 = .ok (.iaload, 1) := by decide +kernel
theorem dX9_stepsTo_24 : decode cX9_stepsTo 24 = .ok (.iload_n 1, 1) := by decide +kernel
theorem dX9_stepsTo_25 : decode cX9_stepsTo 25 = .ok (.if_icmp .ne 8, 3) := by decide +kernel
theorem dX9_stepsTo_28 : decode cX9_stepsTo 28 = .ok (.iload 4, 2) := by decide +kernel
theorem dX9_stepsTo_30 : decode cX9_stepsTo 30 = .ok (.goto 5, 3) := by decide +kernel
theorem dX9_stepsTo_33 : decode cX9_stepsTo 33 = .ok (.ldc 161, 2) := by decide +kernel
theorem dX9_stepsTo_35 : decode cX9_stepsTo 35 = .ok (.istore_n 3, 1) := by decide +kernel
theorem dX9_stepsTo_36 : decode cX9_stepsTo 36 = .ok (.aload_n 0, 1) := by decide +kernel
theorem dX9_stepsTo_37 : decode cX9_stepsTo 37 = .ok (.invokevirtual 149, 3) := by decide +kernel
theorem dX9_stepsTo_40 : decode cX9_stepsTo 40 = .ok (.iinc 4 1, 3) := by decide +kernel
theorem dX9_stepsTo_43 : decode cX9_stepsTo 43 = .ok (.goto (-37), 3) := by decide +kernel
theorem dX9_stepsTo_46 : decode cX9_stepsTo 46 = .ok (.aload_n 0, 1) := by decide +kernel
theorem dX9_stepsTo_47 : decode cX9_stepsTo 47 = .ok (.invokevirtual 158, 3) := by decide +kernel
theorem dX9_stepsTo_50 : decode cX9_stepsTo 50 = .ok (.iload_n 3, 1) := by decide +kernel
theorem dX9_stepsTo_51 : decode cX9_stepsTo 51 = .ok (.ireturn, 1) := by decide +kernel
theorem dX9_tellsActs_0 : decode cX9_tellsActs 0 = .ok (.aload_n 0, 1) := by decide +kernel
theorem dX9_tellsActs_1 : decode cX9_tellsActs 1 = .ok (.getfield 198, 3) := by decide +kernel
theorem dX9_tellsActs_4 : decode cX9_tellsActs 4 = .ok (.iconst 3, 1) := by decide +kernel
theorem dX9_tellsActs_5 : decode cX9_tellsActs 5 = .ok (.invokestatic 201, 3) := by decide +kernel
theorem dX9_tellsActs_8 : decode cX9_tellsActs 8 = .ok (.ifCond .eq 18, 3) := by decide +kernel
theorem dX9_tellsActs_11 : decode cX9_tellsActs 11 = .ok (.aload_n 0, 1) := by decide +kernel
theorem dX9_tellsActs_12 : decode cX9_tellsActs 12 = .ok (.bipush 31, 2) := by decide +kernel
theorem dX9_tellsActs_14 : decode cX9_tellsActs 14 = .ok (.invokevirtual 192, 3) := by decide +kernel
theorem dX9_tellsActs_17 : decode cX9_tellsActs 17 = .ok (.aload_n 0, 1) := by decide +kernel
theorem dX9_tellsActs_18 : decode cX9_tellsActs 18 = .ok (.iload_n 1, 1) := by decide +kernel
theorem dX9_tellsActs_19 : decode cX9_tellsActs 19 = .ok (.invokevirtual 219, 3) := by decide +kernel
theorem dX9_tellsActs_22 : decode cX9_tellsActs 22 = .ok (.bipush 7, 2) := by decide +kernel
theorem dX9_tellsActs_24 : decode cX9_tellsActs 24 = .ok (.ixor, 1) := by decide +kernel
theorem dX9_tellsActs_25 : decode cX9_tellsActs 25 = .ok (.ireturn, 1) := by decide +kernel
theorem dX9_tellsActs_26 : decode cX9_tellsActs 26 = .ok (.aload_n 0, 1) := by decide +kernel
theorem dX9_tellsActs_27 : decode cX9_tellsActs 27 = .ok (.getfield 198, 3) := by decide +kernel
theorem dX9_tellsActs_30 : decode cX9_tellsActs 30 = .ok (.iconst 4, 1) := by decide +kernel
theorem dX9_tellsActs_31 : decode cX9_tellsActs 31 = .ok (.if_icmp .ne 25, 3) := by decide +kernel
theorem dX9_tellsActs_34 : decode cX9_tellsActs 34 = .ok (.aload_n 0, 1) := by decide +kernel
theorem dX9_tellsActs_35 : decode cX9_tellsActs 35 = .ok (.bipush 41, 2) := by decide +kernel
theorem dX9_tellsActs_37 : decode cX9_tellsActs 37 = .ok (.invokevirtual 192, 3) := by decide +kernel
theorem dX9_tellsActs_40 : decode cX9_tellsActs 40 = .ok (.aload_n 0, 1) := by decide +kernel
theorem dX9_tellsActs_41 : decode cX9_tellsActs 41 = .ok (.iload_n 1, 1) := by decide +kernel
theorem dX9_tellsActs_42 : decode cX9_tellsActs 42 = .ok (.iconst 1, 1) := by decide +kernel
theorem dX9_tellsActs_43 : decode cX9_tellsActs 43 = .ok (.isub, 1) := by decide +kernel
theorem dX9_tellsActs_44 : decode cX9_tellsActs 44 = .ok (.invokevirtual 219, 3) := by decide +kernel
theorem dX9_tellsActs_47 : decode cX9_tellsActs 47 = .ok (.istore_n 2, 1) := by decide +kernel
theorem dX9_tellsActs_48 : decode cX9_tellsActs 48 = .ok (.iload_n 2, 1) := by decide +kernel
theorem dX9_tellsActs_49 : decode cX9_tellsActs 49 = .ok (.aload_n 0, 1) := by decide +kernel
theorem dX9_tellsActs_50 : decode cX9_tellsActs 50 = .ok (.iconst 2, 1) := by decide +kernel
theorem dX9_tellsActs_51 : decode cX9_tellsActs 51 = .ok (.invokevirtual 207, 3) := by decide +kernel
theorem dX9_tellsActs_54 : decode cX9_tellsActs 54 = .ok (.iadd, 1) := by decide +kernel
theorem dX9_tellsActs_55 : decode cX9_tellsActs 55 = .ok (.ireturn, 1) := by decide +kernel
theorem dX9_tellsActs_56 : decode cX9_tellsActs 56 = .ok (.aload_n 0, 1) := by decide +kernel
theorem dX9_tellsActs_57 : decode cX9_tellsActs 57 = .ok (.iload_n 1, 1) := by decide +kernel
theorem dX9_tellsActs_58 : decode cX9_tellsActs 58 = .ok (.invokevirtual 219, 3) := by decide +kernel
theorem dX9_tellsActs_61 : decode cX9_tellsActs 61 = .ok (.ireturn, 1) := by decide +kernel
theorem dX9_tellsOf_0 : decode cX9_tellsOf 0 = .ok (.aload_n 0, 1) := by decide +kernel
theorem dX9_tellsOf_1 : decode cX9_tellsOf 1 = .ok (.getfield 9, 3) := by decide +kernel
theorem dX9_tellsOf_4 : decode cX9_tellsOf 4 = .ok (.bipush 37, 2) := by decide +kernel
theorem dX9_tellsOf_6 : decode cX9_tellsOf 6 = .ok (.iaload, 1) := by decide +kernel
theorem dX9_tellsOf_7 : decode cX9_tellsOf 7 = .ok (.iconst (-1), 1) := by decide +kernel
theorem dX9_tellsOf_8 : decode cX9_tellsOf 8 = .ok (.if_icmp .ne 7, 3) := by decide +kernel
theorem dX9_tellsOf_11 : decode cX9_tellsOf 11 = .ok (.iload_n 2, 1) := by decide +kernel
theorem dX9_tellsOf_12 : decode cX9_tellsOf 12 = .ok (.goto 17, 3) := by decide +kernel
theorem dX9_tellsOf_15 : decode cX9_tellsOf 15 = .ok (.aload_n 0, 1) := by decide +kernel
theorem dX9_tellsOf_16 : decode cX9_tellsOf 16 = .ok (.getfield 9, 3) := by decide +kernel
theorem dX9_tellsOf_19 : decode cX9_tellsOf 19 = .ok (.iload_n 1, 1) := by decide +kernel
theorem dX9_tellsOf_20 : decode cX9_tellsOf 20 = .ok (.aload_n 0, 1) := by decide +kernel
theorem dX9_tellsOf_21 : decode cX9_tellsOf 21 = .ok (.getfield 9, 3) := by decide +kernel
theorem dX9_tellsOf_24 : decode cX9_tellsOf 24 = .ok (.bipush 37, 2) := by decide +kernel
theorem dX9_tellsOf_26 : decode cX9_tellsOf 26 = .ok (.iaload, 1) := by decide +kernel
theorem dX9_tellsOf_27 : decode cX9_tellsOf 27 = .ok (.iadd, 1) := by decide +kernel
theorem dX9_tellsOf_28 : decode cX9_tellsOf 28 = .ok (.iaload, 1) := by decide +kernel
theorem dX9_tellsOf_29 : decode cX9_tellsOf 29 = .ok (.ireturn, 1) := by decide +kernel
theorem dX9_told_0 : decode cX9_told 0 = .ok (.iload_n 1, 1) := by decide +kernel
theorem dX9_told_1 : decode cX9_told 1 = .ok (.tableswitch 59 0 3 #[31, 38, 47, 54], 31) := by decide +kernel
theorem dX9_told_32 : decode cX9_told 32 = .ok (.aload_n 0, 1) := by decide +kernel
theorem dX9_told_33 : decode cX9_told 33 = .ok (.getfield 9, 3) := by decide +kernel
theorem dX9_told_36 : decode cX9_told 36 = .ok (.iconst 0, 1) := by decide +kernel
theorem dX9_told_37 : decode cX9_told 37 = .ok (.iaload, 1) := by decide +kernel
theorem dX9_told_38 : decode cX9_told 38 = .ok (.ireturn, 1) := by decide +kernel
theorem dX9_told_39 : decode cX9_told 39 = .ok (.aload_n 0, 1) := by decide +kernel
theorem dX9_told_40 : decode cX9_told 40 = .ok (.sipush 226, 3) := by decide +kernel
theorem dX9_told_43 : decode cX9_told 43 = .ok (.iconst 2, 1) := by decide +kernel
theorem dX9_told_44 : decode cX9_told 44 = .ok (.invokevirtual 123, 3) := by decide +kernel
theorem dX9_told_47 : decode cX9_told 47 = .ok (.ireturn, 1) := by decide +kernel
theorem dX9_told_48 : decode cX9_told 48 = .ok (.aload_n 0, 1) := by decide +kernel
theorem dX9_told_49 : decode cX9_told 49 = .ok (.getfield 9, 3) := by decide +kernel
theorem dX9_told_52 : decode cX9_told 52 = .ok (.iconst 1, 1) := by decide +kernel
theorem dX9_told_53 : decode cX9_told 53 = .ok (.iaload, 1) := by decide +kernel
theorem dX9_told_54 : decode cX9_told 54 = .ok (.ireturn, 1) := by decide +kernel
theorem dX9_told_55 : decode cX9_told 55 = .ok (.aload_n 0, 1) := by decide +kernel
theorem dX9_told_56 : decode cX9_told 56 = .ok (.invokevirtual 143, 3) := by decide +kernel
theorem dX9_told_59 : decode cX9_told 59 = .ok (.ireturn, 1) := by decide +kernel
theorem dX9_told_60 : decode cX9_told 60 = .ok (.iload_n 1, 1) := by decide +kernel
theorem dX9_told_61 : decode cX9_told 61 = .ok (.bipush 10, 2) := by decide +kernel
theorem dX9_told_63 : decode cX9_told 63 = .ok (.isub, 1) := by decide +kernel
theorem dX9_told_64 : decode cX9_told 64 = .ok (.invokestatic 132, 3) := by decide +kernel
theorem dX9_told_67 : decode cX9_told 67 = .ok (.ifCond .eq 14, 3) := by decide +kernel
theorem dX9_told_70 : decode cX9_told 70 = .ok (.aload_n 0, 1) := by decide +kernel
theorem dX9_told_71 : decode cX9_told 71 = .ok (.iload_n 1, 1) := by decide +kernel
theorem dX9_told_72 : decode cX9_told 72 = .ok (.bipush 10, 2) := by decide +kernel
theorem dX9_told_74 : decode cX9_told 74 = .ok (.isub, 1) := by decide +kernel
theorem dX9_told_75 : decode cX9_told 75 = .ok (.invokevirtual 146, 3) := by decide +kernel
theorem dX9_told_78 : decode cX9_told 78 = .ok (.goto 29, 3) := by decide +kernel
theorem dX9_told_81 : decode cX9_told 81 = .ok (.iload_n 1, 1) := by decide +kernel
theorem dX9_told_82 : decode cX9_told 82 = .ok (.bipush 30, 2) := by decide +kernel
theorem dX9_told_84 : decode cX9_told 84 = .ok (.isub, 1) := by decide +kernel
theorem dX9_told_85 : decode cX9_told 85 = .ok (.invokestatic 132, 3) := by decide +kernel
theorem dX9_told_88 : decode cX9_told 88 = .ok (.ifCond .eq 17, 3) := by decide +kernel
theorem dX9_told_91 : decode cX9_told 91 = .ok (.aload_n 0, 1) := by decide +kernel
theorem dX9_told_92 : decode cX9_told 92 = .ok (.getfield 9, 3) := by decide +kernel
theorem dX9_told_95 : decode cX9_told 95 = .ok (.iconst 2, 1) := by decide +kernel
theorem dX9_told_96 : decode cX9_told 96 = .ok (.iload_n 1, 1) := by decide +kernel
theorem dX9_told_97 : decode cX9_told 97 = .ok (.iadd, 1) := by decide +kernel
theorem dX9_told_98 : decode cX9_told 98 = .ok (.bipush 30, 2) := by decide +kernel
theorem dX9_told_100 : decode cX9_told 100 = .ok (.isub, 1) := by decide +kernel
theorem dX9_told_101 : decode cX9_told 101 = .ok (.iaload, 1) := by decide +kernel
theorem dX9_told_102 : decode cX9_told 102 = .ok (.goto 5, 3) := by decide +kernel
theorem dX9_told_105 : decode cX9_told 105 = .ok (.ldc 139, 2) := by decide +kernel
theorem dX9_told_107 : decode cX9_told 107 = .ok (.ireturn, 1) := by decide +kernel
theorem dX9_trace_0 : decode cX9_trace 0 = .ok (.iload_n 1, 1) := by decide +kernel
theorem dX9_trace_1 : decode cX9_trace 1 = .ok (.iconst 0, 1) := by decide +kernel
theorem dX9_trace_2 : decode cX9_trace 2 = .ok (.aload_n 0, 1) := by decide +kernel
theorem dX9_trace_3 : decode cX9_trace 3 = .ok (.getfield 189, 3) := by decide +kernel
theorem dX9_trace_6 : decode cX9_trace 6 = .ok (.bipush 20, 2) := by decide +kernel
theorem dX9_trace_8 : decode cX9_trace 8 = .ok (.if_icmp .ge 10, 3) := by decide +kernel
theorem dX9_trace_11 : decode cX9_trace 11 = .ok (.aload_n 0, 1) := by decide +kernel
theorem dX9_trace_12 : decode cX9_trace 12 = .ok (.getfield 189, 3) := by decide +kernel
theorem dX9_trace_15 : decode cX9_trace 15 = .ok (.goto 5, 3) := by decide +kernel
theorem dX9_trace_18 : decode cX9_trace 18 = .ok (.bipush 20, 2) := by decide +kernel
theorem dX9_trace_20 : decode cX9_trace 20 = .ok (.iconst 1, 1) := by decide +kernel
theorem dX9_trace_21 : decode cX9_trace 21 = .ok (.isub, 1) := by decide +kernel
theorem dX9_trace_22 : decode cX9_trace 22 = .ok (.invokestatic 35, 3) := by decide +kernel
theorem dX9_trace_25 : decode cX9_trace 25 = .ok (.ifCond .eq 12, 3) := by decide +kernel
theorem dX9_trace_28 : decode cX9_trace 28 = .ok (.aload_n 0, 1) := by decide +kernel
theorem dX9_trace_29 : decode cX9_trace 29 = .ok (.getfield 28, 3) := by decide +kernel
theorem dX9_trace_32 : decode cX9_trace 32 = .ok (.iload_n 1, 1) := by decide +kernel
theorem dX9_trace_33 : decode cX9_trace 33 = .ok (.iaload, 1) := by decide +kernel
theorem dX9_trace_34 : decode cX9_trace 34 = .ok (.goto 4, 3) := by decide +kernel
theorem dX9_trace_37 : decode cX9_trace 37 = .ok (.iconst (-1), 1) := by decide +kernel
theorem dX9_trace_38 : decode cX9_trace 38 = .ok (.ireturn, 1) := by decide +kernel
theorem dX9_tugOf_0 : decode cX9_tugOf 0 = .ok (.aload_n 0, 1) := by decide +kernel
theorem dX9_tugOf_1 : decode cX9_tugOf 1 = .ok (.getfield 9, 3) := by decide +kernel
theorem dX9_tugOf_4 : decode cX9_tugOf 4 = .ok (.bipush 24, 2) := by decide +kernel
theorem dX9_tugOf_6 : decode cX9_tugOf 6 = .ok (.iload_n 1, 1) := by decide +kernel
theorem dX9_tugOf_7 : decode cX9_tugOf 7 = .ok (.iadd, 1) := by decide +kernel
theorem dX9_tugOf_8 : decode cX9_tugOf 8 = .ok (.iaload, 1) := by decide +kernel
theorem dX9_tugOf_9 : decode cX9_tugOf 9 = .ok (.iconst 1, 1) := by decide +kernel
theorem dX9_tugOf_10 : decode cX9_tugOf 10 = .ok (.if_icmp .ne 5, 3) := by decide +kernel
theorem dX9_tugOf_13 : decode cX9_tugOf 13 = .ok (.iconst 0, 1) := by decide +kernel
theorem dX9_tugOf_14 : decode cX9_tugOf 14 = .ok (.ireturn, 1) := by decide +kernel
theorem dX9_tugOf_15 : decode cX9_tugOf 15 = .ok (.aload_n 0, 1) := by decide +kernel
theorem dX9_tugOf_16 : decode cX9_tugOf 16 = .ok (.iload_n 1, 1) := by decide +kernel
theorem dX9_tugOf_17 : decode cX9_tugOf 17 = .ok (.iload_n 2, 1) := by decide +kernel
theorem dX9_tugOf_18 : decode cX9_tugOf 18 = .ok (.invokevirtual 126, 3) := by decide +kernel
theorem dX9_tugOf_21 : decode cX9_tugOf 21 = .ok (.istore_n 3, 1) := by decide +kernel
theorem dX9_tugOf_22 : decode cX9_tugOf 22 = .ok (.aload_n 0, 1) := by decide +kernel
theorem dX9_tugOf_23 : decode cX9_tugOf 23 = .ok (.getfield 9, 3) := by decide +kernel
theorem dX9_tugOf_26 : decode cX9_tugOf 26 = .ok (.bipush 18, 2) := by decide +kernel
theorem dX9_tugOf_28 : decode cX9_tugOf 28 = .ok (.iload_n 1, 1) := by decide +kernel
theorem dX9_tugOf_29 : decode cX9_tugOf 29 = .ok (.iadd, 1) := by decide +kernel
theorem dX9_tugOf_30 : decode cX9_tugOf 30 = .ok (.iaload, 1) := by decide +kernel
theorem dX9_tugOf_31 : decode cX9_tugOf 31 = .ok (.iload_n 2, 1) := by decide +kernel
theorem dX9_tugOf_32 : decode cX9_tugOf 32 = .ok (.invokestatic 119, 3) := by decide +kernel
theorem dX9_tugOf_35 : decode cX9_tugOf 35 = .ok (.istore 4, 2) := by decide +kernel
theorem dX9_tugOf_37 : decode cX9_tugOf 37 = .ok (.aload_n 0, 1) := by decide +kernel
theorem dX9_tugOf_38 : decode cX9_tugOf 38 = .ok (.getfield 9, 3) := by decide +kernel
theorem dX9_tugOf_41 : decode cX9_tugOf 41 = .ok (.bipush 44, 2) := by decide +kernel
theorem dX9_tugOf_43 : decode cX9_tugOf 43 = .ok (.iload_n 1, 1) := by decide +kernel
theorem dX9_tugOf_44 : decode cX9_tugOf 44 = .ok (.iadd, 1) := by decide +kernel
theorem dX9_tugOf_45 : decode cX9_tugOf 45 = .ok (.iaload, 1) := by decide +kernel
theorem dX9_tugOf_46 : decode cX9_tugOf 46 = .ok (.istore 5, 2) := by decide +kernel
theorem dX9_tugOf_48 : decode cX9_tugOf 48 = .ok (.aload_n 0, 1) := by decide +kernel
theorem dX9_tugOf_49 : decode cX9_tugOf 49 = .ok (.getfield 9, 3) := by decide +kernel
theorem dX9_tugOf_52 : decode cX9_tugOf 52 = .ok (.bipush 38, 2) := by decide +kernel
theorem dX9_tugOf_54 : decode cX9_tugOf 54 = .ok (.iload_n 1, 1) := by decide +kernel
theorem dX9_tugOf_55 : decode cX9_tugOf 55 = .ok (.iadd, 1) := by decide +kernel
theorem dX9_tugOf_56 : decode cX9_tugOf 56 = .ok (.iaload, 1) := by decide +kernel
theorem dX9_tugOf_57 : decode cX9_tugOf 57 = .ok (.tableswitch 142 1 6 #[39, 47, 59, 68, 90, 112], 39) := by decide +kernel
theorem dX9_tugOf_96 : decode cX9_tugOf 96 = .ok (.iload_n 3, 1) := by decide +kernel
theorem dX9_tugOf_97 : decode cX9_tugOf 97 = .ok (.iload 5, 2) := by decide +kernel
theorem dX9_tugOf_99 : decode cX9_tugOf 99 = .ok (.iadd, 1) := by decide +kernel
theorem dX9_tugOf_100 : decode cX9_tugOf 100 = .ok (.iload 4, 2) := by decide +kernel
theorem dX9_tugOf_102 : decode cX9_tugOf 102 = .ok (.isub, 1) := by decide +kernel
theorem dX9_tugOf_103 : decode cX9_tugOf 103 = .ok (.ireturn, 1) := by decide +kernel
theorem dX9_tugOf_104 : decode cX9_tugOf 104 = .ok (.iload 4, 2) := by decide +kernel
theorem dX9_tugOf_106 : decode cX9_tugOf 106 = .ok (.iconst 1, 1) := by decide +kernel
theorem dX9_tugOf_107 : decode cX9_tugOf 107 = .ok (.if_icmp .ne 7, 3) := by decide +kernel
theorem dX9_tugOf_110 : decode cX9_tugOf 110 = .ok (.iload_n 3, 1) := by decide +kernel
theorem dX9_tugOf_111 : decode cX9_tugOf 111 = .ok (.goto 4, 3) := by decide +kernel
theorem dX9_tugOf_114 : decode cX9_tugOf 114 = .ok (.iconst 0, 1) := by decide +kernel
theorem dX9_tugOf_115 : decode cX9_tugOf 115 = .ok (.ireturn, 1) := by decide +kernel
theorem dX9_tugOf_116 : decode cX9_tugOf 116 = .ok (.iload_n 3, 1) := by decide +kernel
theorem dX9_tugOf_117 : decode cX9_tugOf 117 = .ok (.iconst 2, 1) := by decide +kernel
theorem dX9_tugOf_118 : decode cX9_tugOf 118 = .ok (.iload 4, 2) := by decide +kernel
theorem dX9_tugOf_120 : decode cX9_tugOf 120 = .ok (.imul, 1) := by decide +kernel
theorem dX9_tugOf_121 : decode cX9_tugOf 121 = .ok (.isub, 1) := by decide +kernel
theorem dX9_tugOf_122 : decode cX9_tugOf 122 = .ok (.iconst 2, 1) := by decide +kernel
theorem dX9_tugOf_123 : decode cX9_tugOf 123 = .ok (.idiv, 1) := by decide +kernel
theorem dX9_tugOf_124 : decode cX9_tugOf 124 = .ok (.ireturn, 1) := by decide +kernel
theorem dX9_tugOf_125 : decode cX9_tugOf 125 = .ok (.iload 4, 2) := by decide +kernel
theorem dX9_tugOf_127 : decode cX9_tugOf 127 = .ok (.ifCond .ne 12, 3) := by decide +kernel
theorem dX9_tugOf_130 : decode cX9_tugOf 130 = .ok (.iconst 2, 1) := by decide +kernel
theorem dX9_tugOf_131 : decode cX9_tugOf 131 = .ok (.iload_n 3, 1) := by decide +kernel
theorem dX9_tugOf_132 : decode cX9_tugOf 132 = .ok (.iload 5, 2) := by decide +kernel
theorem dX9_tugOf_134 : decode cX9_tugOf 134 = .ok (.iadd, 1) := by decide +kernel
theorem dX9_tugOf_135 : decode cX9_tugOf 135 = .ok (.imul, 1) := by decide +kernel
theorem dX9_tugOf_136 : decode cX9_tugOf 136 = .ok (.goto 10, 3) := by decide +kernel
theorem dX9_tugOf_139 : decode cX9_tugOf 139 = .ok (.iload_n 3, 1) := by decide +kernel
theorem dX9_tugOf_140 : decode cX9_tugOf 140 = .ok (.iload 5, 2) := by decide +kernel
theorem dX9_tugOf_142 : decode cX9_tugOf 142 = .ok (.iadd, 1) := by decide +kernel
theorem dX9_tugOf_143 : decode cX9_tugOf 143 = .ok (.iload 4, 2) := by decide +kernel
theorem dX9_tugOf_145 : decode cX9_tugOf 145 = .ok (.isub, 1) := by decide +kernel
theorem dX9_tugOf_146 : decode cX9_tugOf 146 = .ok (.ireturn, 1) := by decide +kernel
theorem dX9_tugOf_147 : decode cX9_tugOf 147 = .ok (.iload 4, 2) := by decide +kernel
theorem dX9_tugOf_149 : decode cX9_tugOf 149 = .ok (.iconst 1, 1) := by decide +kernel
theorem dX9_tugOf_150 : decode cX9_tugOf 150 = .ok (.if_icmp .ne 7, 3) := by decide +kernel
theorem dX9_tugOf_153 : decode cX9_tugOf 153 = .ok (.iload_n 3, 1) := by decide +kernel
theorem dX9_tugOf_154 : decode cX9_tugOf 154 = .ok (.goto 14, 3) := by decide +kernel
theorem dX9_tugOf_157 : decode cX9_tugOf 157 = .ok (.iload 4, 2) := by decide +kernel
theorem dX9_tugOf_159 : decode cX9_tugOf 159 = .ok (.ifCond .ne 8, 3) := by decide +kernel
theorem dX9_tugOf_162 : decode cX9_tugOf 162 = .ok (.iload 5, 2) := by decide +kernel
theorem dX9_tugOf_164 : decode cX9_tugOf 164 = .ok (.goto 4, 3) := by decide +kernel
theorem dX9_tugOf_167 : decode cX9_tugOf 167 = .ok (.iconst 0, 1) := by decide +kernel
theorem dX9_tugOf_168 : decode cX9_tugOf 168 = .ok (.ireturn, 1) := by decide +kernel
theorem dX9_tugOf_169 : decode cX9_tugOf 169 = .ok (.iload_n 3, 1) := by decide +kernel
theorem dX9_tugOf_170 : decode cX9_tugOf 170 = .ok (.iconst 2, 1) := by decide +kernel
theorem dX9_tugOf_171 : decode cX9_tugOf 171 = .ok (.iload 4, 2) := by decide +kernel
theorem dX9_tugOf_173 : decode cX9_tugOf 173 = .ok (.imul, 1) := by decide +kernel
theorem dX9_tugOf_174 : decode cX9_tugOf 174 = .ok (.isub, 1) := by decide +kernel
theorem dX9_tugOf_175 : decode cX9_tugOf 175 = .ok (.iconst 2, 1) := by decide +kernel
theorem dX9_tugOf_176 : decode cX9_tugOf 176 = .ok (.idiv, 1) := by decide +kernel
theorem dX9_tugOf_177 : decode cX9_tugOf 177 = .ok (.aload_n 0, 1) := by decide +kernel
theorem dX9_tugOf_178 : decode cX9_tugOf 178 = .ok (.getfield 9, 3) := by decide +kernel
theorem dX9_tugOf_181 : decode cX9_tugOf 181 = .ok (.bipush 50, 2) := by decide +kernel
theorem dX9_tugOf_183 : decode cX9_tugOf 183 = .ok (.iconst 4, 1) := by decide +kernel
theorem dX9_tugOf_184 : decode cX9_tugOf 184 = .ok (.iload_n 1, 1) := by decide +kernel
theorem dX9_tugOf_185 : decode cX9_tugOf 185 = .ok (.imul, 1) := by decide +kernel
theorem dX9_tugOf_186 : decode cX9_tugOf 186 = .ok (.iadd, 1) := by decide +kernel
theorem dX9_tugOf_187 : decode cX9_tugOf 187 = .ok (.aload_n 0, 1) := by decide +kernel
theorem dX9_tugOf_188 : decode cX9_tugOf 188 = .ok (.getfield 9, 3) := by decide +kernel
theorem dX9_tugOf_191 : decode cX9_tugOf 191 = .ok (.iconst 0, 1) := by decide +kernel
theorem dX9_tugOf_192 : decode cX9_tugOf 192 = .ok (.iaload, 1) := by decide +kernel
theorem dX9_tugOf_193 : decode cX9_tugOf 193 = .ok (.iconst 4, 1) := by decide +kernel
theorem dX9_tugOf_194 : decode cX9_tugOf 194 = .ok (.irem, 1) := by decide +kernel
theorem dX9_tugOf_195 : decode cX9_tugOf 195 = .ok (.iadd, 1) := by decide +kernel
theorem dX9_tugOf_196 : decode cX9_tugOf 196 = .ok (.iaload, 1) := by decide +kernel
theorem dX9_tugOf_197 : decode cX9_tugOf 197 = .ok (.iadd, 1) := by decide +kernel
theorem dX9_tugOf_198 : decode cX9_tugOf 198 = .ok (.ireturn, 1) := by decide +kernel
theorem dX9_tugOf_199 : decode cX9_tugOf 199 = .ok (.iload_n 3, 1) := by decide +kernel
theorem dX9_tugOf_200 : decode cX9_tugOf 200 = .ok (.iconst 2, 1) := by decide +kernel
theorem dX9_tugOf_201 : decode cX9_tugOf 201 = .ok (.iload 4, 2) := by decide +kernel
theorem dX9_tugOf_203 : decode cX9_tugOf 203 = .ok (.imul, 1) := by decide +kernel
theorem dX9_tugOf_204 : decode cX9_tugOf 204 = .ok (.isub, 1) := by decide +kernel
theorem dX9_tugOf_205 : decode cX9_tugOf 205 = .ok (.ireturn, 1) := by decide +kernel
theorem dX9_undo_0 : decode cX9_undo 0 = .ok (.aload_n 0, 1) := by decide +kernel
theorem dX9_undo_1 : decode cX9_undo 1 = .ok (.getfield 225, 3) := by decide +kernel
theorem dX9_undo_4 : decode cX9_undo 4 = .ok (.ifCond .ne 6, 3) := by decide +kernel
theorem dX9_undo_7 : decode cX9_undo 7 = .ok (.bipush (-3), 2) := by decide +kernel
theorem dX9_undo_9 : decode cX9_undo 9 = .ok (.ireturn, 1) := by decide +kernel
theorem dX9_undo_10 : decode cX9_undo 10 = .ok (.iconst 0, 1) := by decide +kernel
theorem dX9_undo_11 : decode cX9_undo 11 = .ok (.istore_n 1, 1) := by decide +kernel
theorem dX9_undo_12 : decode cX9_undo 12 = .ok (.iload_n 1, 1) := by decide +kernel
theorem dX9_undo_13 : decode cX9_undo 13 = .ok (.sipush 936, 3) := by decide +kernel
theorem dX9_undo_16 : decode cX9_undo 16 = .ok (.if_icmp .ge 21, 3) := by decide +kernel
theorem dX9_undo_19 : decode cX9_undo 19 = .ok (.aload_n 0, 1) := by decide +kernel
theorem dX9_undo_20 : decode cX9_undo 20 = .ok (.getfield 9, 3) := by decide +kernel
theorem dX9_undo_23 : decode cX9_undo 23 = .ok (.iload_n 1, 1) := by decide +kernel
theorem dX9_undo_24 : decode cX9_undo 24 = .ok (.aload_n 0, 1) := by decide +kernel
theorem dX9_undo_25 : decode cX9_undo 25 = .ok (.getfield 15, 3) := by decide +kernel
theorem dX9_undo_28 : decode cX9_undo 28 = .ok (.iload_n 1, 1) := by decide +kernel
theorem dX9_undo_29 : decode cX9_undo 29 = .ok (.iaload, 1) := by decide +kernel
theorem dX9_undo_30 : decode cX9_undo 30 = .ok (.iastore, 1) := by decide +kernel
theorem dX9_undo_31 : decode cX9_undo 31 = .ok (.iinc 1 1, 3) := by decide +kernel
theorem dX9_undo_34 : decode cX9_undo 34 = .ok (.goto (-22), 3) := by decide +kernel
theorem dX9_undo_37 : decode cX9_undo 37 = .ok (.aload_n 0, 1) := by decide +kernel
theorem dX9_undo_38 : decode cX9_undo 38 = .ok (.getfield 9, 3) := by decide +kernel
theorem dX9_undo_41 : decode cX9_undo 41 = .ok (.bipush 30, 2) := by decide +kernel
theorem dX9_undo_43 : decode cX9_undo 43 = .ok (.iaload, 1) := by decide +kernel
theorem dX9_undo_44 : decode cX9_undo 44 = .ok (.ireturn, 1) := by decide +kernel
theorem dX9_walk_0 : decode cX9_walk 0 = .ok (.iload_n 1, 1) := by decide +kernel
theorem dX9_walk_1 : decode cX9_walk 1 = .ok (.iconst (-1), 1) := by decide +kernel
theorem dX9_walk_2 : decode cX9_walk 2 = .ok (.if_icmp .ne 13, 3) := by decide +kernel
theorem dX9_walk_5 : decode cX9_walk 5 = .ok (.aload_n 0, 1) := by decide +kernel
theorem dX9_walk_6 : decode cX9_walk 6 = .ok (.getfield 9, 3) := by decide +kernel
theorem dX9_walk_9 : decode cX9_walk 9 = .ok (.bipush 32, 2) := by decide +kernel
theorem dX9_walk_11 : decode cX9_walk 11 = .ok (.iconst 0, 1) := by decide +kernel
theorem dX9_walk_12 : decode cX9_walk 12 = .ok (.iastore, 1) := by decide +kernel
theorem dX9_walk_13 : decode cX9_walk 13 = .ok (.iconst 0, 1) := by decide +kernel
theorem dX9_walk_14 : decode cX9_walk 14 = .ok (.ireturn, 1) := by decide +kernel
theorem dX9_walk_15 : decode cX9_walk 15 = .ok (.iload_n 1, 1) := by decide +kernel
theorem dX9_walk_16 : decode cX9_walk 16 = .ok (.invokestatic 132, 3) := by decide +kernel
theorem dX9_walk_19 : decode cX9_walk 19 = .ok (.ifCond .ne 5, 3) := by decide +kernel
theorem dX9_walk_22 : decode cX9_walk 22 = .ok (.iconst (-1), 1) := by decide +kernel
theorem dX9_walk_23 : decode cX9_walk 23 = .ok (.ireturn, 1) := by decide +kernel
theorem dX9_walk_24 : decode cX9_walk 24 = .ok (.aload_n 0, 1) := by decide +kernel
theorem dX9_walk_25 : decode cX9_walk 25 = .ok (.getfield 9, 3) := by decide +kernel
theorem dX9_walk_28 : decode cX9_walk 28 = .ok (.bipush 32, 2) := by decide +kernel
theorem dX9_walk_30 : decode cX9_walk 30 = .ok (.iaload, 1) := by decide +kernel
theorem dX9_walk_31 : decode cX9_walk 31 = .ok (.bipush 10, 2) := by decide +kernel
theorem dX9_walk_33 : decode cX9_walk 33 = .ok (.if_icmp .ne 6, 3) := by decide +kernel
theorem dX9_walk_36 : decode cX9_walk 36 = .ok (.bipush (-4), 2) := by decide +kernel
theorem dX9_walk_38 : decode cX9_walk 38 = .ok (.ireturn, 1) := by decide +kernel
theorem dX9_walk_39 : decode cX9_walk 39 = .ok (.aload_n 0, 1) := by decide +kernel
theorem dX9_walk_40 : decode cX9_walk 40 = .ok (.getfield 9, 3) := by decide +kernel
theorem dX9_walk_43 : decode cX9_walk 43 = .ok (.bipush 74, 2) := by decide +kernel
theorem dX9_walk_45 : decode cX9_walk 45 = .ok (.aload_n 0, 1) := by decide +kernel
theorem dX9_walk_46 : decode cX9_walk 46 = .ok (.getfield 9, 3) := by decide +kernel
theorem dX9_walk_49 : decode cX9_walk 49 = .ok (.bipush 32, 2) := by decide +kernel
theorem dX9_walk_51 : decode cX9_walk 51 = .ok (.iaload, 1) := by decide +kernel
theorem dX9_walk_52 : decode cX9_walk 52 = .ok (.iadd, 1) := by decide +kernel
theorem dX9_walk_53 : decode cX9_walk 53 = .ok (.iload_n 1, 1) := by decide +kernel
theorem dX9_walk_54 : decode cX9_walk 54 = .ok (.iastore, 1) := by decide +kernel
theorem dX9_walk_55 : decode cX9_walk 55 = .ok (.aload_n 0, 1) := by decide +kernel
theorem dX9_walk_56 : decode cX9_walk 56 = .ok (.getfield 9, 3) := by decide +kernel
theorem dX9_walk_59 : decode cX9_walk 59 = .ok (.bipush 32, 2) := by decide +kernel
theorem dX9_walk_61 : decode cX9_walk 61 = .ok (.dup2, 1) := by decide +kernel
theorem dX9_walk_62 : decode cX9_walk 62 = .ok (.iaload, 1) := by decide +kernel
theorem dX9_walk_63 : decode cX9_walk 63 = .ok (.iconst 1, 1) := by decide +kernel
theorem dX9_walk_64 : decode cX9_walk 64 = .ok (.iadd, 1) := by decide +kernel
theorem dX9_walk_65 : decode cX9_walk 65 = .ok (.iastore, 1) := by decide +kernel
theorem dX9_walk_66 : decode cX9_walk 66 = .ok (.aload_n 0, 1) := by decide +kernel
theorem dX9_walk_67 : decode cX9_walk 67 = .ok (.getfield 9, 3) := by decide +kernel
theorem dX9_walk_70 : decode cX9_walk 70 = .ok (.bipush 32, 2) := by decide +kernel
theorem dX9_walk_72 : decode cX9_walk 72 = .ok (.iaload, 1) := by decide +kernel
theorem dX9_walk_73 : decode cX9_walk 73 = .ok (.ireturn, 1) := by decide +kernel
def w_X9_tellsOf   (q : Nat) (x1 : Int32) (x2 : Int32) (M : ap_Mem) (K : Int32 → ap_Mem → Prop) : Prop :=
vp_in 37 936 ∧ (if (M (q + 1) (37 : Int32).toNatClampNeg) = (-1) then (K x2 M) else (vp_in 37 936 ∧ vp_in (x1 + (M (q + 1) (37 : Int32).toNatClampNeg)) 936 ∧ K (M (q + 1) (x1 + (M (q + 1) (37 : Int32).toNatClampNeg)).toNatClampNeg) M))
theorem bl_X9_tellsOf_0 {x : ap_X} {g : ap_G} (hc : ap_Cx x g cX9_tellsOf RX9 3) {K : Int32 → ap_Mem → Prop} (hz : ap_Ends x g 0 (some .int) (ap_Qi K))   {q : Nat} (hq : ap_kd q = 9)   {x1 : Int32} {x2 : Int32} {M : ap_Mem}  (h : w_X9_tellsOf   q x1 x2 M K) : ap_V x g 3 0 [(0, .ref (ap_ad g q)), (1, .int x1), (2, .int x2)] [] M := by
  unfold w_X9_tellsOf at h
  refine ap_aload_n (q := 1) hc dX9_tellsOf_0 rfl rfl 0 rfl ?_
  refine ap_getR (q := 4) (r := q + 1) lg_RX9_9 (by decide) hq rfl hc dX9_tellsOf_1 rfl ?_
  refine ap_bipush (q := 6) hc dX9_tellsOf_4 rfl bc_37 ?_
  obtain ⟨g_1, h⟩ := h
  refine ap_iald (q := 7) (ty_9_1 hq) (tn_9_1 hq) g_1 hc dX9_tellsOf_6 rfl ?_
  refine ap_iconst (q := 8) hc dX9_tellsOf_7 rfl ic_m1 ?_
  refine ap_icmp_ne (q := 11) (tgt := 15) hc dX9_tellsOf_8 rfl (by decide) (fun z_2 => ?_) (fun z_2 => ?_)
  · have h := Eq.mp (if_neg z_2) h
    refine ap_aload_n (q := 16) hc dX9_tellsOf_15 rfl rfl 0 rfl ?_
    refine ap_getR (q := 19) (r := q + 1) lg_RX9_9 (by decide) hq rfl hc dX9_tellsOf_16 rfl ?_
    refine ap_iload_n (q := 20) hc dX9_tellsOf_19 rfl rfl 1 rfl ?_
    refine ap_aload_n (q := 21) hc dX9_tellsOf_20 rfl rfl 0 rfl ?_
    refine ap_getR (q := 24) (r := q + 1) lg_RX9_9 (by decide) hq rfl hc dX9_tellsOf_21 rfl ?_
    refine ap_bipush (q := 26) hc dX9_tellsOf_24 rfl bc_37 ?_
    obtain ⟨g_3, h⟩ := h
    refine ap_iald (q := 27) (ty_9_1 hq) (tn_9_1 hq) g_3 hc dX9_tellsOf_26 rfl ?_
    refine ap_iadd (q := 28) hc dX9_tellsOf_27 rfl ?_
    obtain ⟨g_4, h⟩ := h
    refine ap_iald (q := 29) (ty_9_1 hq) (tn_9_1 hq) g_4 hc dX9_tellsOf_28 rfl ?_
    exact ap_iret hc hz rfl dX9_tellsOf_29 h
  · have h := Eq.mp (if_pos z_2) h
    refine ap_iload_n (q := 12) hc dX9_tellsOf_11 rfl rfl 2 rfl ?_
    refine ap_goto (q := 29) hc dX9_tellsOf_12 (by decide) ?_
    exact ap_iret hc hz rfl dX9_tellsOf_29 h
theorem ok_X9_tellsOf {l : Launch} {g : ap_G} (hg : ap_GOK g) {q : Nat} (hq : ap_kd q = 9) {x1 : Int32} {x2 : Int32} {M : ap_Mem} {K : Int32 → ap_Mem → Prop} (h : w_X9_tellsOf q x1 x2 M K) : ap_Ct l g yX9_tellsOf cX9_tellsOf 3 (some .int) 0 [.ref (ap_ad g q), .int x1, .int x2] M (ap_Qi K) := by
  refine ap_Ct_of hg (by decide +kernel) (Nat.le_of_ble_eq_true rfl) (fun x hx hc hz => ?_)
  subst hx
  exact bl_X9_tellsOf_0 hc hz hq h
def w_X9_lureOf_416  (kL115 : Int32 → Int32 → Int32 → Int32 → Int32 → ap_Mem → Prop) (q : Nat) (x3 : Int32) (x4 : Int32) (x5 : Int32) (x6 : Int32) (x7 : Int32) (M : ap_Mem) (K : Int32 → ap_Mem → Prop) : Prop :=
∀ x7_1 : Int32, x7_1 = x7 + 1 → kL115 x3 x4 x5 x6 x7_1 M
theorem bl_X9_lureOf_416 {x : ap_X} {g : ap_G} (hc : ap_Cx x g cX9_lureOf RX9 12) {K : Int32 → ap_Mem → Prop} (hz : ap_Ends x g 2 (some .int) (ap_Qi K))   {q : Nat} (hq : ap_kd q = 9) {kL115 : Int32 → Int32 → Int32 → Int32 → Int32 → ap_Mem → Prop} (hk115 : ∀ (x3 : Int32) (x4 : Int32) (x5 : Int32) (x6 : Int32) (x7 : Int32)  (M : ap_Mem), kL115 x3 x4 x5 x6 x7 M → ap_V x g 12 115 [(0, .ref (ap_ad g q)), (3, .int x3), (4, .int x4), (5, .int x5), (6, .int x6), (7, .int x7)] [] M) {x3 : Int32} {x4 : Int32} {x5 : Int32} {x6 : Int32} {x7 : Int32} {M : ap_Mem}  (h : w_X9_lureOf_416  kL115 q x3 x4 x5 x6 x7 M K) : ap_V x g 12 416 [(0, .ref (ap_ad g q)), (3, .int x3), (4, .int x4), (5, .int x5), (6, .int x6), (7, .int x7)] [] M := by
  unfold w_X9_lureOf_416 at h
  obtain ⟨x7_1, ex7_1, h⟩ := ap_nm h
  refine ap_iinc (q := 419) (lo2 := [(7, .int x7_1), (0, .ref (ap_ad g q)), (3, .int x3), (4, .int x4), (5, .int x5), (6, .int x6)]) hc dX9_lureOf_416 rfl 5 rfl (by rw [ex7_1]; rfl) (by decide) rfl ?_
  refine ap_goto (q := 115) hc dX9_lureOf_419 (by decide) ?_
  exact ap_sub [1, 2, 3, 4, 5, 0] rfl (hk115 _ _ _ _ _ _ h)
def w_X9_lureOf_350  (kL115 : Int32 → Int32 → Int32 → Int32 → Int32 → ap_Mem → Prop) (q : Nat) (x3 : Int32) (x4 : Int32) (x5 : Int32) (x6 : Int32) (x7 : Int32) (s0 : Int32) (s1 : Int32) (M : ap_Mem) (K : Int32 → ap_Mem → Prop) : Prop :=
vp_in s1 64 ∧ ap_B s0 ∧ ∀ M_3 : ap_Mem, M_3 = ap_mu M (q + 5) s1.toNatClampNeg s0 → w_X9_lureOf_416  kL115 q x3 x4 x5 x6 x7 M_3 K
theorem bl_X9_lureOf_350 {x : ap_X} {g : ap_G} (hc : ap_Cx x g cX9_lureOf RX9 12) {K : Int32 → ap_Mem → Prop} (hz : ap_Ends x g 2 (some .int) (ap_Qi K))   {q : Nat} (hq : ap_kd q = 9) {kL115 : Int32 → Int32 → Int32 → Int32 → Int32 → ap_Mem → Prop} (hk115 : ∀ (x3 : Int32) (x4 : Int32) (x5 : Int32) (x6 : Int32) (x7 : Int32)  (M : ap_Mem), kL115 x3 x4 x5 x6 x7 M → ap_V x g 12 115 [(0, .ref (ap_ad g q)), (3, .int x3), (4, .int x4), (5, .int x5), (6, .int x6), (7, .int x7)] [] M) {x3 : Int32} {x4 : Int32} {x5 : Int32} {x6 : Int32} {x7 : Int32} {s0 : Int32} {s1 : Int32} {M : ap_Mem}  (h : w_X9_lureOf_350  kL115 q x3 x4 x5 x6 x7 s0 s1 M K) : ap_V x g 12 350 [(0, .ref (ap_ad g q)), (3, .int x3), (4, .int x4), (5, .int x5), (6, .int x6), (7, .int x7)] [.int s0, .int s1, .ref (ap_ad g (q + 5))] M := by
  unfold w_X9_lureOf_350 at h
  obtain ⟨g_1, h⟩ := h
  obtain ⟨g_2, h⟩ := h
  obtain ⟨M_3, eM_3, h⟩ := ap_nm h
  refine ap_zast (q := 351) (ty_9_5 hq) (tn_9_5 hq) g_1 g_2 eM_3 hc dX9_lureOf_350 rfl ?_
  refine ap_goto (q := 416) hc dX9_lureOf_351 (by decide) ?_
  exact ap_sub [0, 1, 2, 3, 4, 5] rfl (bl_X9_lureOf_416 hc hz  hq hk115  h)
def w_X9_lureOf_414  (kL115 : Int32 → Int32 → Int32 → Int32 → Int32 → ap_Mem → Prop) (q : Nat) (x4 : Int32) (x5 : Int32) (x6 : Int32) (x7 : Int32) (s0 : Int32) (s1 : Int32) (M : ap_Mem) (K : Int32 → ap_Mem → Prop) : Prop :=
∀ x3_1 : Int32, x3_1 = s1 - s0 → w_X9_lureOf_416  kL115 q x3_1 x4 x5 x6 x7 M K
theorem bl_X9_lureOf_414 {x : ap_X} {g : ap_G} (hc : ap_Cx x g cX9_lureOf RX9 12) {K : Int32 → ap_Mem → Prop} (hz : ap_Ends x g 2 (some .int) (ap_Qi K))   {q : Nat} (hq : ap_kd q = 9) {kL115 : Int32 → Int32 → Int32 → Int32 → Int32 → ap_Mem → Prop} (hk115 : ∀ (x3 : Int32) (x4 : Int32) (x5 : Int32) (x6 : Int32) (x7 : Int32)  (M : ap_Mem), kL115 x3 x4 x5 x6 x7 M → ap_V x g 12 115 [(0, .ref (ap_ad g q)), (3, .int x3), (4, .int x4), (5, .int x5), (6, .int x6), (7, .int x7)] [] M) {x4 : Int32} {x5 : Int32} {x6 : Int32} {x7 : Int32} {s0 : Int32} {s1 : Int32} {M : ap_Mem}  (h : w_X9_lureOf_414  kL115 q x4 x5 x6 x7 s0 s1 M K) : ap_V x g 12 414 [(0, .ref (ap_ad g q)), (4, .int x4), (5, .int x5), (6, .int x6), (7, .int x7)] [.int s0, .int s1] M := by
  unfold w_X9_lureOf_414 at h
  refine ap_isub (q := 415) hc dX9_lureOf_414 rfl ?_
  obtain ⟨x3_1, ex3_1, h⟩ := ap_nm h
  refine ap_istore_n (q := 416) (lo2 := [(3, .int x3_1), (0, .ref (ap_ad g q)), (4, .int x4), (5, .int x5), (6, .int x6), (7, .int x7)]) hc dX9_lureOf_415 rfl rfl ex3_1 (by decide) rfl ?_
  exact ap_sub [1, 0, 2, 3, 4, 5] rfl (bl_X9_lureOf_416 hc hz  hq hk115  h)
def w_X9_lureOf_413  (kL115 : Int32 → Int32 → Int32 → Int32 → Int32 → ap_Mem → Prop) (q : Nat) (x4 : Int32) (x5 : Int32) (x6 : Int32) (x7 : Int32) (s0 : Int32) (M : ap_Mem) (K : Int32 → ap_Mem → Prop) : Prop :=
w_X9_lureOf_414  kL115 q x4 x5 x6 x7 0 s0 M K
theorem bl_X9_lureOf_413 {x : ap_X} {g : ap_G} (hc : ap_Cx x g cX9_lureOf RX9 12) {K : Int32 → ap_Mem → Prop} (hz : ap_Ends x g 2 (some .int) (ap_Qi K))   {q : Nat} (hq : ap_kd q = 9) {kL115 : Int32 → Int32 → Int32 → Int32 → Int32 → ap_Mem → Prop} (hk115 : ∀ (x3 : Int32) (x4 : Int32) (x5 : Int32) (x6 : Int32) (x7 : Int32)  (M : ap_Mem), kL115 x3 x4 x5 x6 x7 M → ap_V x g 12 115 [(0, .ref (ap_ad g q)), (3, .int x3), (4, .int x4), (5, .int x5), (6, .int x6), (7, .int x7)] [] M) {x4 : Int32} {x5 : Int32} {x6 : Int32} {x7 : Int32} {s0 : Int32} {M : ap_Mem}  (h : w_X9_lureOf_413  kL115 q x4 x5 x6 x7 s0 M K) : ap_V x g 12 413 [(0, .ref (ap_ad g q)), (4, .int x4), (5, .int x5), (6, .int x6), (7, .int x7)] [.int s0] M := by
  unfold w_X9_lureOf_413 at h
  refine ap_iconst (q := 414) hc dX9_lureOf_413 rfl ic_0 ?_
  exact ap_sub [0, 1, 2, 3, 4] rfl (bl_X9_lureOf_414 hc hz  hq hk115  h)
def w_X9_lureOf_388  (kL115 : Int32 → Int32 → Int32 → Int32 → Int32 → ap_Mem → Prop) (q : Nat) (x4 : Int32) (x5 : Int32) (x6 : Int32) (x7 : Int32) (x8 : Int32) (x9 : Int32) (s0 : Int32) (s1 : Int32) (M : ap_Mem) (K : Int32 → ap_Mem → Prop) : Prop :=
∀ x3_1 : Int32, x3_1 = s1 + s0 → (if x9 = 0 then (w_X9_lureOf_413  kL115 q x4 x5 x6 x7 x3_1 M K) else ((if (-200) < x8 then (w_X9_lureOf_413  kL115 q x4 x5 x6 x7 x3_1 M K) else (w_X9_lureOf_414  kL115 q x4 x5 x6 x7 ((-200) - x8) x3_1 M K))))
theorem bl_X9_lureOf_388 {x : ap_X} {g : ap_G} (hc : ap_Cx x g cX9_lureOf RX9 12) {K : Int32 → ap_Mem → Prop} (hz : ap_Ends x g 2 (some .int) (ap_Qi K))   {q : Nat} (hq : ap_kd q = 9) {kL115 : Int32 → Int32 → Int32 → Int32 → Int32 → ap_Mem → Prop} (hk115 : ∀ (x3 : Int32) (x4 : Int32) (x5 : Int32) (x6 : Int32) (x7 : Int32)  (M : ap_Mem), kL115 x3 x4 x5 x6 x7 M → ap_V x g 12 115 [(0, .ref (ap_ad g q)), (3, .int x3), (4, .int x4), (5, .int x5), (6, .int x6), (7, .int x7)] [] M) {x4 : Int32} {x5 : Int32} {x6 : Int32} {x7 : Int32} {x8 : Int32} {x9 : Int32} {s0 : Int32} {s1 : Int32} {M : ap_Mem}  (h : w_X9_lureOf_388  kL115 q x4 x5 x6 x7 x8 x9 s0 s1 M K) : ap_V x g 12 388 [(0, .ref (ap_ad g q)), (4, .int x4), (5, .int x5), (6, .int x6), (7, .int x7), (8, .int x8), (9, .int x9)] [.int s0, .int s1] M := by
  unfold w_X9_lureOf_388 at h
  refine ap_iadd (q := 389) hc dX9_lureOf_388 rfl ?_
  obtain ⟨x3_1, ex3_1, h⟩ := ap_nm h
  refine ap_istore_n (q := 390) (lo2 := [(3, .int x3_1), (0, .ref (ap_ad g q)), (4, .int x4), (5, .int x5), (6, .int x6), (7, .int x7), (8, .int x8), (9, .int x9)]) hc dX9_lureOf_389 rfl rfl ex3_1 (by decide) rfl ?_
  refine ap_iload_n (q := 391) hc dX9_lureOf_390 rfl rfl 0 rfl ?_
  refine ap_iload (q := 393) hc dX9_lureOf_391 rfl 7 rfl ?_
  refine ap_if_eq (q := 396) (tgt := 413) hc dX9_lureOf_393 rfl (by decide) (fun z_2 => ?_) (fun z_2 => ?_)
  · have h := Eq.mp (if_pos z_2) h
    exact ap_sub [1, 2, 3, 4, 5] rfl (bl_X9_lureOf_413 hc hz  hq hk115  h)
  · have h := Eq.mp (if_neg z_2) h
    refine ap_iload (q := 398) hc dX9_lureOf_396 rfl 6 rfl ?_
    refine ap_sipush (q := 401) hc dX9_lureOf_398 rfl sc_m200 ?_
    refine ap_icmp_gt (q := 404) (tgt := 413) hc dX9_lureOf_401 rfl (by decide) (fun z_3 => ?_) (fun z_3 => ?_)
    · have h := Eq.mp (if_pos z_3) h
      exact ap_sub [1, 2, 3, 4, 5] rfl (bl_X9_lureOf_413 hc hz  hq hk115  h)
    · have h := Eq.mp (if_neg z_3) h
      refine ap_sipush (q := 407) hc dX9_lureOf_404 rfl sc_m200 ?_
      refine ap_iload (q := 409) hc dX9_lureOf_407 rfl 6 rfl ?_
      refine ap_isub (q := 410) hc dX9_lureOf_409 rfl ?_
      refine ap_goto (q := 414) hc dX9_lureOf_410 (by decide) ?_
      exact ap_sub [1, 2, 3, 4, 5] rfl (bl_X9_lureOf_414 hc hz  hq hk115  h)
def w_X9_lureOf_345  (kL115 : Int32 → Int32 → Int32 → Int32 → Int32 → ap_Mem → Prop) (q : Nat) (x3 : Int32) (x4 : Int32) (x5 : Int32) (x6 : Int32) (x7 : Int32) (s0 : Int32) (M : ap_Mem) (K : Int32 → ap_Mem → Prop) : Prop :=
w_X9_lureOf_350  kL115 q x3 x4 x5 x6 x7 1 s0 M K
theorem bl_X9_lureOf_345 {x : ap_X} {g : ap_G} (hc : ap_Cx x g cX9_lureOf RX9 12) {K : Int32 → ap_Mem → Prop} (hz : ap_Ends x g 2 (some .int) (ap_Qi K))   {q : Nat} (hq : ap_kd q = 9) {kL115 : Int32 → Int32 → Int32 → Int32 → Int32 → ap_Mem → Prop} (hk115 : ∀ (x3 : Int32) (x4 : Int32) (x5 : Int32) (x6 : Int32) (x7 : Int32)  (M : ap_Mem), kL115 x3 x4 x5 x6 x7 M → ap_V x g 12 115 [(0, .ref (ap_ad g q)), (3, .int x3), (4, .int x4), (5, .int x5), (6, .int x6), (7, .int x7)] [] M) {x3 : Int32} {x4 : Int32} {x5 : Int32} {x6 : Int32} {x7 : Int32} {s0 : Int32} {M : ap_Mem}  (h : w_X9_lureOf_345  kL115 q x3 x4 x5 x6 x7 s0 M K) : ap_V x g 12 345 [(0, .ref (ap_ad g q)), (3, .int x3), (4, .int x4), (5, .int x5), (6, .int x6), (7, .int x7)] [.int s0, .ref (ap_ad g (q + 5))] M := by
  unfold w_X9_lureOf_345 at h
  refine ap_iconst (q := 346) hc dX9_lureOf_345 rfl ic_1 ?_
  refine ap_goto (q := 350) hc dX9_lureOf_346 (by decide) ?_
  exact ap_sub [0, 1, 2, 3, 4, 5] rfl (bl_X9_lureOf_350 hc hz  hq hk115  h)
def w_X9_lureOf_226  (kL115 : Int32 → Int32 → Int32 → Int32 → Int32 → ap_Mem → Prop) (q : Nat) (x3 : Int32) (x4 : Int32) (x5 : Int32) (x6 : Int32) (x7 : Int32) (s0 : Int32) (s1 : Int32) (M : ap_Mem) (K : Int32 → ap_Mem → Prop) : Prop :=
vp_in s1 64 ∧ ap_B s0 ∧ ∀ M_3 : ap_Mem, M_3 = ap_mu M (q + 5) s1.toNatClampNeg s0 → ∀ x6_4 : Int32, x6_4 = x6 + 1 → w_X9_lureOf_416  kL115 q x3 x4 x5 x6_4 x7 M_3 K
theorem bl_X9_lureOf_226 {x : ap_X} {g : ap_G} (hc : ap_Cx x g cX9_lureOf RX9 12) {K : Int32 → ap_Mem → Prop} (hz : ap_Ends x g 2 (some .int) (ap_Qi K))   {q : Nat} (hq : ap_kd q = 9) {kL115 : Int32 → Int32 → Int32 → Int32 → Int32 → ap_Mem → Prop} (hk115 : ∀ (x3 : Int32) (x4 : Int32) (x5 : Int32) (x6 : Int32) (x7 : Int32)  (M : ap_Mem), kL115 x3 x4 x5 x6 x7 M → ap_V x g 12 115 [(0, .ref (ap_ad g q)), (3, .int x3), (4, .int x4), (5, .int x5), (6, .int x6), (7, .int x7)] [] M) {x3 : Int32} {x4 : Int32} {x5 : Int32} {x6 : Int32} {x7 : Int32} {s0 : Int32} {s1 : Int32} {M : ap_Mem}  (h : w_X9_lureOf_226  kL115 q x3 x4 x5 x6 x7 s0 s1 M K) : ap_V x g 12 226 [(0, .ref (ap_ad g q)), (3, .int x3), (4, .int x4), (5, .int x5), (6, .int x6), (7, .int x7)] [.int s0, .int s1, .ref (ap_ad g (q + 5))] M := by
  unfold w_X9_lureOf_226 at h
  obtain ⟨g_1, h⟩ := h
  obtain ⟨g_2, h⟩ := h
  obtain ⟨M_3, eM_3, h⟩ := ap_nm h
  refine ap_zast (q := 227) (ty_9_5 hq) (tn_9_5 hq) g_1 g_2 eM_3 hc dX9_lureOf_226 rfl ?_
  obtain ⟨x6_4, ex6_4, h⟩ := ap_nm h
  refine ap_iinc (q := 230) (lo2 := [(6, .int x6_4), (0, .ref (ap_ad g q)), (3, .int x3), (4, .int x4), (5, .int x5), (7, .int x7)]) hc dX9_lureOf_227 rfl 4 rfl (by rw [ex6_4]; rfl) (by decide) rfl ?_
  refine ap_goto (q := 416) hc dX9_lureOf_230 (by decide) ?_
  exact ap_sub [1, 2, 3, 4, 0, 5] rfl (bl_X9_lureOf_416 hc hz  hq hk115  h)
def w_X9_lureOf_319  (kL115 : Int32 → Int32 → Int32 → Int32 → Int32 → ap_Mem → Prop) (q : Nat) (x3 : Int32) (x4 : Int32) (x5 : Int32) (x6 : Int32) (x7 : Int32) (s0 : Int32) (M : ap_Mem) (K : Int32 → ap_Mem → Prop) : Prop :=
w_X9_lureOf_350  kL115 q x3 x4 x5 x6 x7 0 s0 M K
theorem bl_X9_lureOf_319 {x : ap_X} {g : ap_G} (hc : ap_Cx x g cX9_lureOf RX9 12) {K : Int32 → ap_Mem → Prop} (hz : ap_Ends x g 2 (some .int) (ap_Qi K))   {q : Nat} (hq : ap_kd q = 9) {kL115 : Int32 → Int32 → Int32 → Int32 → Int32 → ap_Mem → Prop} (hk115 : ∀ (x3 : Int32) (x4 : Int32) (x5 : Int32) (x6 : Int32) (x7 : Int32)  (M : ap_Mem), kL115 x3 x4 x5 x6 x7 M → ap_V x g 12 115 [(0, .ref (ap_ad g q)), (3, .int x3), (4, .int x4), (5, .int x5), (6, .int x6), (7, .int x7)] [] M) {x3 : Int32} {x4 : Int32} {x5 : Int32} {x6 : Int32} {x7 : Int32} {s0 : Int32} {M : ap_Mem}  (h : w_X9_lureOf_319  kL115 q x3 x4 x5 x6 x7 s0 M K) : ap_V x g 12 319 [(0, .ref (ap_ad g q)), (3, .int x3), (4, .int x4), (5, .int x5), (6, .int x6), (7, .int x7)] [.int s0, .ref (ap_ad g (q + 5))] M := by
  unfold w_X9_lureOf_319 at h
  refine ap_iconst (q := 320) hc dX9_lureOf_319 rfl ic_0 ?_
  refine ap_goto (q := 350) hc dX9_lureOf_320 (by decide) ?_
  exact ap_sub [0, 1, 2, 3, 4, 5] rfl (bl_X9_lureOf_350 hc hz  hq hk115  h)
def w_X9_lureOf_387  (kL115 : Int32 → Int32 → Int32 → Int32 → Int32 → ap_Mem → Prop) (q : Nat) (x4 : Int32) (x5 : Int32) (x6 : Int32) (x7 : Int32) (x8 : Int32) (x9 : Int32) (s0 : Int32) (M : ap_Mem) (K : Int32 → ap_Mem → Prop) : Prop :=
w_X9_lureOf_388  kL115 q x4 x5 x6 x7 x8 x9 0 s0 M K
theorem bl_X9_lureOf_387 {x : ap_X} {g : ap_G} (hc : ap_Cx x g cX9_lureOf RX9 12) {K : Int32 → ap_Mem → Prop} (hz : ap_Ends x g 2 (some .int) (ap_Qi K))   {q : Nat} (hq : ap_kd q = 9) {kL115 : Int32 → Int32 → Int32 → Int32 → Int32 → ap_Mem → Prop} (hk115 : ∀ (x3 : Int32) (x4 : Int32) (x5 : Int32) (x6 : Int32) (x7 : Int32)  (M : ap_Mem), kL115 x3 x4 x5 x6 x7 M → ap_V x g 12 115 [(0, .ref (ap_ad g q)), (3, .int x3), (4, .int x4), (5, .int x5), (6, .int x6), (7, .int x7)] [] M) {x4 : Int32} {x5 : Int32} {x6 : Int32} {x7 : Int32} {x8 : Int32} {x9 : Int32} {s0 : Int32} {M : ap_Mem}  (h : w_X9_lureOf_387  kL115 q x4 x5 x6 x7 x8 x9 s0 M K) : ap_V x g 12 387 [(0, .ref (ap_ad g q)), (4, .int x4), (5, .int x5), (6, .int x6), (7, .int x7), (8, .int x8), (9, .int x9)] [.int s0] M := by
  unfold w_X9_lureOf_387 at h
  refine ap_iconst (q := 388) hc dX9_lureOf_387 rfl ic_0 ?_
  exact ap_sub [0, 1, 2, 3, 4, 5, 6] rfl (bl_X9_lureOf_388 hc hz  hq hk115  h)
def w_X9_lureOf_264  (kL115 : Int32 → Int32 → Int32 → Int32 → Int32 → ap_Mem → Prop) (q : Nat) (x3 : Int32) (x4 : Int32) (x5 : Int32) (x6 : Int32) (x7 : Int32) (s0 : Int32) (s1 : Int32) (M : ap_Mem) (K : Int32 → ap_Mem → Prop) : Prop :=
vp_in s1 64 ∧ ap_B s0 ∧ ∀ M_3 : ap_Mem, M_3 = ap_mu M (q + 5) s1.toNatClampNeg s0 → w_X9_lureOf_416  kL115 q x3 x4 x5 x6 x7 M_3 K
theorem bl_X9_lureOf_264 {x : ap_X} {g : ap_G} (hc : ap_Cx x g cX9_lureOf RX9 12) {K : Int32 → ap_Mem → Prop} (hz : ap_Ends x g 2 (some .int) (ap_Qi K))   {q : Nat} (hq : ap_kd q = 9) {kL115 : Int32 → Int32 → Int32 → Int32 → Int32 → ap_Mem → Prop} (hk115 : ∀ (x3 : Int32) (x4 : Int32) (x5 : Int32) (x6 : Int32) (x7 : Int32)  (M : ap_Mem), kL115 x3 x4 x5 x6 x7 M → ap_V x g 12 115 [(0, .ref (ap_ad g q)), (3, .int x3), (4, .int x4), (5, .int x5), (6, .int x6), (7, .int x7)] [] M) {x3 : Int32} {x4 : Int32} {x5 : Int32} {x6 : Int32} {x7 : Int32} {s0 : Int32} {s1 : Int32} {M : ap_Mem}  (h : w_X9_lureOf_264  kL115 q x3 x4 x5 x6 x7 s0 s1 M K) : ap_V x g 12 264 [(0, .ref (ap_ad g q)), (3, .int x3), (4, .int x4), (5, .int x5), (6, .int x6), (7, .int x7)] [.int s0, .int s1, .ref (ap_ad g (q + 5))] M := by
  unfold w_X9_lureOf_264 at h
  obtain ⟨g_1, h⟩ := h
  obtain ⟨g_2, h⟩ := h
  obtain ⟨M_3, eM_3, h⟩ := ap_nm h
  refine ap_zast (q := 265) (ty_9_5 hq) (tn_9_5 hq) g_1 g_2 eM_3 hc dX9_lureOf_264 rfl ?_
  refine ap_goto (q := 416) hc dX9_lureOf_265 (by decide) ?_
  exact ap_sub [0, 1, 2, 3, 4, 5] rfl (bl_X9_lureOf_416 hc hz  hq hk115  h)
def w_X9_lureOf_115_s   (kL115 : Int32 → Int32 → Int32 → Int32 → Int32 → ap_Mem → Prop) (q : Nat) (x3 : Int32) (x4 : Int32) (x5 : Int32) (x6 : Int32) (x7 : Int32) (M : ap_Mem) (K : Int32 → ap_Mem → Prop) : Prop :=
(if (x5 + x4) ≤ x7 then (K x3 M) else (vp_in x7 936 ∧ ∀ x8_3 : Int32, x8_3 = M (q + 1) x7.toNatClampNeg → (if x8_3 < 0 then ((if x8_3 = (-1) then (vp_in (x6 - 1) 64 ∧ (if (M (q + 5) (x6 - 1).toNatClampNeg) = 0 then (w_X9_lureOf_264  kL115 q x3 x4 x5 x6 x7 1 (x6 - 1) M K) else (w_X9_lureOf_264  kL115 q x3 x4 x5 x6 x7 0 (x6 - 1) M K))) else ((if x8_3 ≤ (-10) then (vp_in 0 64 ∧ ∀ x9_8 : Int32, x9_8 = M (q + 5) (0 : Int32).toNatClampNeg → (if x9_8 = 0 then (w_X9_lureOf_387  kL115 q x4 x5 0 x7 x8_3 x9_8 x3 M K) else ((if x8_3 ≤ (-200) then (w_X9_lureOf_387  kL115 q x4 x5 0 x7 x8_3 x9_8 x3 M K) else (w_X9_lureOf_388  kL115 q x4 x5 0 x7 x8_3 x9_8 ((-10) - x8_3) x3 M K))))) else (∀ x6_11 : Int32, x6_11 = x6 + (-1) → (if x8_3 = (-2) then (vp_in (x6_11 - 1) 64 ∧ (if (M (q + 5) (x6_11 - 1).toNatClampNeg) = 0 then (w_X9_lureOf_319  kL115 q x3 x4 x5 x6_11 x7 (x6_11 - 1) M K) else (vp_in x6_11 64 ∧ (if (M (q + 5) x6_11.toNatClampNeg) = 0 then (w_X9_lureOf_319  kL115 q x3 x4 x5 x6_11 x7 (x6_11 - 1) M K) else (w_X9_lureOf_350  kL115 q x3 x4 x5 x6_11 x7 1 (x6_11 - 1) M K))))) else (vp_in (x6_11 - 1) 64 ∧ (if (M (q + 5) (x6_11 - 1).toNatClampNeg) = 0 then (vp_in x6_11 64 ∧ (if (M (q + 5) x6_11.toNatClampNeg) = 0 then (w_X9_lureOf_350  kL115 q x3 x4 x5 x6_11 x7 0 (x6_11 - 1) M K) else (w_X9_lureOf_345  kL115 q x3 x4 x5 x6_11 x7 (x6_11 - 1) M K))) else (w_X9_lureOf_345  kL115 q x3 x4 x5 x6_11 x7 (x6_11 - 1) M K))))))))) else (vp_in (x8_3 - x8_3 / 8 * 8) 6 ∧ ∀ x9_24 : Int32, x9_24 = M (q + 4) (x8_3 - x8_3 / 8 * 8).toNatClampNeg → ∀ x10_25 : Int32, x10_25 = (x8_3 / 8) - (x8_3 / 8) / 4 * 4 → ∀ x11_26 : Int32, x11_26 = x8_3 / 32 → (if x10_25 = 0 then ((if x11_26 ≤ x9_24 then (w_X9_lureOf_226  kL115 q x3 x4 x5 x6 x7 0 x6 M K) else (w_X9_lureOf_226  kL115 q x3 x4 x5 x6 x7 1 x6 M K))) else ((if x10_25 = 1 then ((if x9_24 = x11_26 then (w_X9_lureOf_226  kL115 q x3 x4 x5 x6 x7 1 x6 M K) else (w_X9_lureOf_226  kL115 q x3 x4 x5 x6 x7 0 x6 M K))) else ((if x9_24 ≤ x11_26 then (w_X9_lureOf_226  kL115 q x3 x4 x5 x6 x7 0 x6 M K) else (w_X9_lureOf_226  kL115 q x3 x4 x5 x6 x7 1 x6 M K))))))))))
def w_X9_lureOf_115   (q : Nat) (K : Int32 → ap_Mem → Prop) : Nat → Int32 → Int32 → Int32 → Int32 → Int32 → ap_Mem → Prop
  | 0, _, _, _, _, _, _ => False
  | n + 1, x3, x4, x5, x6, x7, M => w_X9_lureOf_115_s   (w_X9_lureOf_115   q K n) q x3 x4 x5 x6 x7 M K
theorem bl_X9_lureOf_115 {x : ap_X} {g : ap_G} (hc : ap_Cx x g cX9_lureOf RX9 12) {K : Int32 → ap_Mem → Prop} (hz : ap_Ends x g 2 (some .int) (ap_Qi K))   {q : Nat} (hq : ap_kd q = 9)   : ∀ (n : Nat) (x3 : Int32) (x4 : Int32) (x5 : Int32) (x6 : Int32) (x7 : Int32) (M : ap_Mem), w_X9_lureOf_115   q K n x3 x4 x5 x6 x7 M → ap_V x g 12 115 [(0, .ref (ap_ad g q)), (3, .int x3), (4, .int x4), (5, .int x5), (6, .int x6), (7, .int x7)] [] M := by
  intro n
  induction n with
  | zero => intro _ _ _ _ _ _ h; exact h.elim
  | succ n ih =>
    intro x3 x4 x5 x6 x7 M h
    replace h : w_X9_lureOf_115_s   (w_X9_lureOf_115   q K n) q x3 x4 x5 x6 x7 M K := h
    unfold w_X9_lureOf_115_s at h
    refine ap_iload (q := 117) hc dX9_lureOf_115 rfl 5 rfl ?_
    refine ap_iload (q := 119) hc dX9_lureOf_117 rfl 3 rfl ?_
    refine ap_iload (q := 121) hc dX9_lureOf_119 rfl 2 rfl ?_
    refine ap_iadd (q := 122) hc dX9_lureOf_121 rfl ?_
    refine ap_icmp_ge (q := 125) (tgt := 422) hc dX9_lureOf_122 rfl (by decide) (fun z_1 => ?_) (fun z_1 => ?_)
    · have h := Eq.mp (if_pos z_1) h
      refine ap_iload_n (q := 423) hc dX9_lureOf_422 rfl rfl 1 rfl ?_
      exact ap_iret hc hz rfl dX9_lureOf_423 h
    · have h := Eq.mp (if_neg z_1) h
      refine ap_aload_n (q := 126) hc dX9_lureOf_125 rfl rfl 0 rfl ?_
      refine ap_getR (q := 129) (r := q + 1) lg_RX9_9 (by decide) hq rfl hc dX9_lureOf_126 rfl ?_
      refine ap_iload (q := 131) hc dX9_lureOf_129 rfl 5 rfl ?_
      obtain ⟨g_2, h⟩ := h
      refine ap_iald (q := 132) (ty_9_1 hq) (tn_9_1 hq) g_2 hc dX9_lureOf_131 rfl ?_
      obtain ⟨x8_3, ex8_3, h⟩ := ap_nm h
      refine ap_istore (q := 134) (lo2 := [(8, .int x8_3), (0, .ref (ap_ad g q)), (3, .int x3), (4, .int x4), (5, .int x5), (6, .int x6), (7, .int x7)]) hc dX9_lureOf_132 rfl ex8_3 (by decide) rfl ?_
      refine ap_iload (q := 136) hc dX9_lureOf_134 rfl 0 rfl ?_
      refine ap_if_lt (q := 139) (tgt := 233) hc dX9_lureOf_136 rfl (by decide) (fun z_4 => ?_) (fun z_4 => ?_)
      · have h := Eq.mp (if_pos z_4) h
        refine ap_iload (q := 235) hc dX9_lureOf_233 rfl 0 rfl ?_
        refine ap_iconst (q := 236) hc dX9_lureOf_235 rfl ic_m1 ?_
        refine ap_icmp_ne (q := 239) (tgt := 268) hc dX9_lureOf_236 rfl (by decide) (fun z_5 => ?_) (fun z_5 => ?_)
        · have h := Eq.mp (if_neg z_5) h
          refine ap_iload (q := 270) hc dX9_lureOf_268 rfl 0 rfl ?_
          refine ap_bipush (q := 272) hc dX9_lureOf_270 rfl bc_m10 ?_
          refine ap_icmp_le (q := 275) (tgt := 354) hc dX9_lureOf_272 rfl (by decide) (fun z_6 => ?_) (fun z_6 => ?_)
          · have h := Eq.mp (if_pos z_6) h
            refine ap_iconst (q := 355) hc dX9_lureOf_354 rfl ic_0 ?_
            refine ap_istore (q := 357) (lo2 := [(6, .int 0), (8, .int x8_3), (0, .ref (ap_ad g q)), (3, .int x3), (4, .int x4), (5, .int x5), (7, .int x7)]) hc dX9_lureOf_355 rfl rfl (by decide) rfl ?_
            refine ap_aload_n (q := 358) hc dX9_lureOf_357 rfl rfl 2 rfl ?_
            refine ap_getR (q := 361) (r := q + 5) lg_RX9_24 (by decide) hq rfl hc dX9_lureOf_358 rfl ?_
            refine ap_iconst (q := 362) hc dX9_lureOf_361 rfl ic_0 ?_
            obtain ⟨g_7, h⟩ := h
            refine ap_zald (q := 363) (ty_9_5 hq) (tn_9_5 hq) g_7 hc dX9_lureOf_362 rfl ?_
            obtain ⟨x9_8, ex9_8, h⟩ := ap_nm h
            refine ap_istore (q := 365) (lo2 := [(9, .int x9_8), (6, .int 0), (8, .int x8_3), (0, .ref (ap_ad g q)), (3, .int x3), (4, .int x4), (5, .int x5), (7, .int x7)]) hc dX9_lureOf_363 rfl ex9_8 (by decide) rfl ?_
            refine ap_iload_n (q := 366) hc dX9_lureOf_365 rfl rfl 4 rfl ?_
            refine ap_iload (q := 368) hc dX9_lureOf_366 rfl 0 rfl ?_
            refine ap_if_eq (q := 371) (tgt := 387) hc dX9_lureOf_368 rfl (by decide) (fun z_9 => ?_) (fun z_9 => ?_)
            · have h := Eq.mp (if_pos z_9) h
              exact ap_sub [3, 5, 6, 1, 7, 2, 0] rfl (bl_X9_lureOf_387 hc hz  hq ih  h)
            · have h := Eq.mp (if_neg z_9) h
              refine ap_iload (q := 373) hc dX9_lureOf_371 rfl 2 rfl ?_
              refine ap_sipush (q := 376) hc dX9_lureOf_373 rfl sc_m200 ?_
              refine ap_icmp_le (q := 379) (tgt := 387) hc dX9_lureOf_376 rfl (by decide) (fun z_10 => ?_) (fun z_10 => ?_)
              · have h := Eq.mp (if_pos z_10) h
                exact ap_sub [3, 5, 6, 1, 7, 2, 0] rfl (bl_X9_lureOf_387 hc hz  hq ih  h)
              · have h := Eq.mp (if_neg z_10) h
                refine ap_bipush (q := 381) hc dX9_lureOf_379 rfl bc_m10 ?_
                refine ap_iload (q := 383) hc dX9_lureOf_381 rfl 2 rfl ?_
                refine ap_isub (q := 384) hc dX9_lureOf_383 rfl ?_
                refine ap_goto (q := 388) hc dX9_lureOf_384 (by decide) ?_
                exact ap_sub [3, 5, 6, 1, 7, 2, 0] rfl (bl_X9_lureOf_388 hc hz  hq ih  h)
          · have h := Eq.mp (if_neg z_6) h
            obtain ⟨x6_11, ex6_11, h⟩ := ap_nm h
            refine ap_iinc (q := 278) (lo2 := [(6, .int x6_11), (8, .int x8_3), (0, .ref (ap_ad g q)), (3, .int x3), (4, .int x4), (5, .int x5), (7, .int x7)]) hc dX9_lureOf_275 rfl 5 rfl (by rw [ex6_11]; rfl) (by decide) rfl ?_
            refine ap_aload_n (q := 279) hc dX9_lureOf_278 rfl rfl 2 rfl ?_
            refine ap_getR (q := 282) (r := q + 5) lg_RX9_24 (by decide) hq rfl hc dX9_lureOf_279 rfl ?_
            refine ap_iload (q := 284) hc dX9_lureOf_282 rfl 0 rfl ?_
            refine ap_iconst (q := 285) hc dX9_lureOf_284 rfl ic_1 ?_
            refine ap_isub (q := 286) hc dX9_lureOf_285 rfl ?_
            refine ap_iload (q := 288) hc dX9_lureOf_286 rfl 1 rfl ?_
            refine ap_bipush (q := 290) hc dX9_lureOf_288 rfl bc_m2 ?_
            refine ap_icmp_ne (q := 293) (tgt := 323) hc dX9_lureOf_290 rfl (by decide) (fun z_12 => ?_) (fun z_12 => ?_)
            · have h := Eq.mp (if_neg z_12) h
              refine ap_aload_n (q := 324) hc dX9_lureOf_323 rfl rfl 2 rfl ?_
              refine ap_getR (q := 327) (r := q + 5) lg_RX9_24 (by decide) hq rfl hc dX9_lureOf_324 rfl ?_
              refine ap_iload (q := 329) hc dX9_lureOf_327 rfl 0 rfl ?_
              refine ap_iconst (q := 330) hc dX9_lureOf_329 rfl ic_1 ?_
              refine ap_isub (q := 331) hc dX9_lureOf_330 rfl ?_
              obtain ⟨g_13, h⟩ := h
              refine ap_zald (q := 332) (ty_9_5 hq) (tn_9_5 hq) g_13 hc dX9_lureOf_331 rfl ?_
              refine ap_if_ne (q := 335) (tgt := 345) hc dX9_lureOf_332 rfl (by decide) (fun z_14 => ?_) (fun z_14 => ?_)
              · have h := Eq.mp (if_neg z_14) h
                exact ap_sub [2, 3, 4, 5, 0, 6] rfl (bl_X9_lureOf_345 hc hz  hq ih  h)
              · have h := Eq.mp (if_pos z_14) h
                refine ap_aload_n (q := 336) hc dX9_lureOf_335 rfl rfl 2 rfl ?_
                refine ap_getR (q := 339) (r := q + 5) lg_RX9_24 (by decide) hq rfl hc dX9_lureOf_336 rfl ?_
                refine ap_iload (q := 341) hc dX9_lureOf_339 rfl 0 rfl ?_
                obtain ⟨g_15, h⟩ := h
                refine ap_zald (q := 342) (ty_9_5 hq) (tn_9_5 hq) g_15 hc dX9_lureOf_341 rfl ?_
                refine ap_if_eq (q := 345) (tgt := 349) hc dX9_lureOf_342 rfl (by decide) (fun z_16 => ?_) (fun z_16 => ?_)
                · have h := Eq.mp (if_pos z_16) h
                  refine ap_iconst (q := 350) hc dX9_lureOf_349 rfl ic_0 ?_
                  exact ap_sub [2, 3, 4, 5, 0, 6] rfl (bl_X9_lureOf_350 hc hz  hq ih  h)
                · have h := Eq.mp (if_neg z_16) h
                  exact ap_sub [2, 3, 4, 5, 0, 6] rfl (bl_X9_lureOf_345 hc hz  hq ih  h)
            · have h := Eq.mp (if_pos z_12) h
              refine ap_aload_n (q := 294) hc dX9_lureOf_293 rfl rfl 2 rfl ?_
              refine ap_getR (q := 297) (r := q + 5) lg_RX9_24 (by decide) hq rfl hc dX9_lureOf_294 rfl ?_
              refine ap_iload (q := 299) hc dX9_lureOf_297 rfl 0 rfl ?_
              refine ap_iconst (q := 300) hc dX9_lureOf_299 rfl ic_1 ?_
              refine ap_isub (q := 301) hc dX9_lureOf_300 rfl ?_
              obtain ⟨g_17, h⟩ := h
              refine ap_zald (q := 302) (ty_9_5 hq) (tn_9_5 hq) g_17 hc dX9_lureOf_301 rfl ?_
              refine ap_if_eq (q := 305) (tgt := 319) hc dX9_lureOf_302 rfl (by decide) (fun z_18 => ?_) (fun z_18 => ?_)
              · have h := Eq.mp (if_pos z_18) h
                exact ap_sub [2, 3, 4, 5, 0, 6] rfl (bl_X9_lureOf_319 hc hz  hq ih  h)
              · have h := Eq.mp (if_neg z_18) h
                refine ap_aload_n (q := 306) hc dX9_lureOf_305 rfl rfl 2 rfl ?_
                refine ap_getR (q := 309) (r := q + 5) lg_RX9_24 (by decide) hq rfl hc dX9_lureOf_306 rfl ?_
                refine ap_iload (q := 311) hc dX9_lureOf_309 rfl 0 rfl ?_
                obtain ⟨g_19, h⟩ := h
                refine ap_zald (q := 312) (ty_9_5 hq) (tn_9_5 hq) g_19 hc dX9_lureOf_311 rfl ?_
                refine ap_if_eq (q := 315) (tgt := 319) hc dX9_lureOf_312 rfl (by decide) (fun z_20 => ?_) (fun z_20 => ?_)
                · have h := Eq.mp (if_pos z_20) h
                  exact ap_sub [2, 3, 4, 5, 0, 6] rfl (bl_X9_lureOf_319 hc hz  hq ih  h)
                · have h := Eq.mp (if_neg z_20) h
                  refine ap_iconst (q := 316) hc dX9_lureOf_315 rfl ic_1 ?_
                  refine ap_goto (q := 350) hc dX9_lureOf_316 (by decide) ?_
                  exact ap_sub [2, 3, 4, 5, 0, 6] rfl (bl_X9_lureOf_350 hc hz  hq ih  h)
        · have h := Eq.mp (if_pos z_5) h
          refine ap_aload_n (q := 240) hc dX9_lureOf_239 rfl rfl 1 rfl ?_
          refine ap_getR (q := 243) (r := q + 5) lg_RX9_24 (by decide) hq rfl hc dX9_lureOf_240 rfl ?_
          refine ap_iload (q := 245) hc dX9_lureOf_243 rfl 5 rfl ?_
          refine ap_iconst (q := 246) hc dX9_lureOf_245 rfl ic_1 ?_
          refine ap_isub (q := 247) hc dX9_lureOf_246 rfl ?_
          refine ap_aload_n (q := 248) hc dX9_lureOf_247 rfl rfl 1 rfl ?_
          refine ap_getR (q := 251) (r := q + 5) lg_RX9_24 (by decide) hq rfl hc dX9_lureOf_248 rfl ?_
          refine ap_iload (q := 253) hc dX9_lureOf_251 rfl 5 rfl ?_
          refine ap_iconst (q := 254) hc dX9_lureOf_253 rfl ic_1 ?_
          refine ap_isub (q := 255) hc dX9_lureOf_254 rfl ?_
          obtain ⟨g_21, h⟩ := h
          refine ap_zald (q := 256) (ty_9_5 hq) (tn_9_5 hq) g_21 hc dX9_lureOf_255 rfl ?_
          refine ap_if_ne (q := 259) (tgt := 263) hc dX9_lureOf_256 rfl (by decide) (fun z_22 => ?_) (fun z_22 => ?_)
          · have h := Eq.mp (if_neg z_22) h
            refine ap_iconst (q := 264) hc dX9_lureOf_263 rfl ic_0 ?_
            exact ap_sub [1, 2, 3, 4, 5, 6] rfl (bl_X9_lureOf_264 hc hz  hq ih  h)
          · have h := Eq.mp (if_pos z_22) h
            refine ap_iconst (q := 260) hc dX9_lureOf_259 rfl ic_1 ?_
            refine ap_goto (q := 264) hc dX9_lureOf_260 (by decide) ?_
            exact ap_sub [1, 2, 3, 4, 5, 6] rfl (bl_X9_lureOf_264 hc hz  hq ih  h)
      · have h := Eq.mp (if_neg z_4) h
        refine ap_aload_n (q := 140) hc dX9_lureOf_139 rfl rfl 1 rfl ?_
        refine ap_getR (q := 143) (r := q + 4) lg_RX9_21 (by decide) hq rfl hc dX9_lureOf_140 rfl ?_
        refine ap_iload (q := 145) hc dX9_lureOf_143 rfl 0 rfl ?_
        refine ap_bipush (q := 147) hc dX9_lureOf_145 rfl bc_8 ?_
        refine ap_irem (q := 148) hc dX9_lureOf_147 rfl (by decide) ?_
        obtain ⟨g_23, h⟩ := h
        refine ap_iald (q := 149) (ty_9_4 hq) (tn_9_4 hq) g_23 hc dX9_lureOf_148 rfl ?_
        obtain ⟨x9_24, ex9_24, h⟩ := ap_nm h
        refine ap_istore (q := 151) (lo2 := [(9, .int x9_24), (8, .int x8_3), (0, .ref (ap_ad g q)), (3, .int x3), (4, .int x4), (5, .int x5), (6, .int x6), (7, .int x7)]) hc dX9_lureOf_149 rfl ex9_24 (by decide) rfl ?_
        refine ap_iload (q := 153) hc dX9_lureOf_151 rfl 1 rfl ?_
        refine ap_bipush (q := 155) hc dX9_lureOf_153 rfl bc_8 ?_
        refine ap_idiv (q := 156) hc dX9_lureOf_155 rfl (by decide) ?_
        refine ap_iconst (q := 157) hc dX9_lureOf_156 rfl ic_4 ?_
        refine ap_irem (q := 158) hc dX9_lureOf_157 rfl (by decide) ?_
        obtain ⟨x10_25, ex10_25, h⟩ := ap_nm h
        refine ap_istore (q := 160) (lo2 := [(10, .int x10_25), (9, .int x9_24), (8, .int x8_3), (0, .ref (ap_ad g q)), (3, .int x3), (4, .int x4), (5, .int x5), (6, .int x6), (7, .int x7)]) hc dX9_lureOf_158 rfl ex10_25 (by decide) rfl ?_
        refine ap_iload (q := 162) hc dX9_lureOf_160 rfl 2 rfl ?_
        refine ap_bipush (q := 164) hc dX9_lureOf_162 rfl bc_32 ?_
        refine ap_idiv (q := 165) hc dX9_lureOf_164 rfl (by decide) ?_
        obtain ⟨x11_26, ex11_26, h⟩ := ap_nm h
        refine ap_istore (q := 167) (lo2 := [(11, .int x11_26), (10, .int x10_25), (9, .int x9_24), (8, .int x8_3), (0, .ref (ap_ad g q)), (3, .int x3), (4, .int x4), (5, .int x5), (6, .int x6), (7, .int x7)]) hc dX9_lureOf_165 rfl ex11_26 (by decide) rfl ?_
        refine ap_aload_n (q := 168) hc dX9_lureOf_167 rfl rfl 4 rfl ?_
        refine ap_getR (q := 171) (r := q + 5) lg_RX9_24 (by decide) hq rfl hc dX9_lureOf_168 rfl ?_
        refine ap_iload (q := 173) hc dX9_lureOf_171 rfl 8 rfl ?_
        refine ap_iload (q := 175) hc dX9_lureOf_173 rfl 1 rfl ?_
        refine ap_if_ne (q := 178) (tgt := 193) hc dX9_lureOf_175 rfl (by decide) (fun z_27 => ?_) (fun z_27 => ?_)
        · have h := Eq.mp (if_neg z_27) h
          refine ap_iload (q := 195) hc dX9_lureOf_193 rfl 1 rfl ?_
          refine ap_iconst (q := 196) hc dX9_lureOf_195 rfl ic_1 ?_
          refine ap_icmp_ne (q := 199) (tgt := 214) hc dX9_lureOf_196 rfl (by decide) (fun z_28 => ?_) (fun z_28 => ?_)
          · have h := Eq.mp (if_neg z_28) h
            refine ap_iload (q := 216) hc dX9_lureOf_214 rfl 2 rfl ?_
            refine ap_iload (q := 218) hc dX9_lureOf_216 rfl 0 rfl ?_
            refine ap_icmp_le (q := 221) (tgt := 225) hc dX9_lureOf_218 rfl (by decide) (fun z_29 => ?_) (fun z_29 => ?_)
            · have h := Eq.mp (if_pos z_29) h
              refine ap_iconst (q := 226) hc dX9_lureOf_225 rfl ic_0 ?_
              exact ap_sub [4, 5, 6, 7, 8, 9] rfl (bl_X9_lureOf_226 hc hz  hq ih  h)
            · have h := Eq.mp (if_neg z_29) h
              refine ap_iconst (q := 222) hc dX9_lureOf_221 rfl ic_1 ?_
              refine ap_goto (q := 226) hc dX9_lureOf_222 (by decide) ?_
              exact ap_sub [4, 5, 6, 7, 8, 9] rfl (bl_X9_lureOf_226 hc hz  hq ih  h)
          · have h := Eq.mp (if_pos z_28) h
            refine ap_iload (q := 201) hc dX9_lureOf_199 rfl 2 rfl ?_
            refine ap_iload (q := 203) hc dX9_lureOf_201 rfl 0 rfl ?_
            refine ap_icmp_ne (q := 206) (tgt := 210) hc dX9_lureOf_203 rfl (by decide) (fun z_30 => ?_) (fun z_30 => ?_)
            · have h := Eq.mp (if_neg z_30) h
              refine ap_iconst (q := 211) hc dX9_lureOf_210 rfl ic_0 ?_
              refine ap_goto (q := 226) hc dX9_lureOf_211 (by decide) ?_
              exact ap_sub [4, 5, 6, 7, 8, 9] rfl (bl_X9_lureOf_226 hc hz  hq ih  h)
            · have h := Eq.mp (if_pos z_30) h
              refine ap_iconst (q := 207) hc dX9_lureOf_206 rfl ic_1 ?_
              refine ap_goto (q := 226) hc dX9_lureOf_207 (by decide) ?_
              exact ap_sub [4, 5, 6, 7, 8, 9] rfl (bl_X9_lureOf_226 hc hz  hq ih  h)
        · have h := Eq.mp (if_pos z_27) h
          refine ap_iload (q := 180) hc dX9_lureOf_178 rfl 2 rfl ?_
          refine ap_iload (q := 182) hc dX9_lureOf_180 rfl 0 rfl ?_
          refine ap_icmp_ge (q := 185) (tgt := 189) hc dX9_lureOf_182 rfl (by decide) (fun z_31 => ?_) (fun z_31 => ?_)
          · have h := Eq.mp (if_pos z_31) h
            refine ap_iconst (q := 190) hc dX9_lureOf_189 rfl ic_0 ?_
            refine ap_goto (q := 226) hc dX9_lureOf_190 (by decide) ?_
            exact ap_sub [4, 5, 6, 7, 8, 9] rfl (bl_X9_lureOf_226 hc hz  hq ih  h)
          · have h := Eq.mp (if_neg z_31) h
            refine ap_iconst (q := 186) hc dX9_lureOf_185 rfl ic_1 ?_
            refine ap_goto (q := 226) hc dX9_lureOf_186 (by decide) ?_
            exact ap_sub [4, 5, 6, 7, 8, 9] rfl (bl_X9_lureOf_226 hc hz  hq ih  h)
def w_X9_lureOf   (q : Nat) (x1 : Int32) (x2 : Int32) (M : ap_Mem) (K : Int32 → ap_Mem → Prop) : Prop :=
vp_in 0 6 ∧ ∀ M_2 : ap_Mem, M_2 = ap_mu M (q + 4) (0 : Int32).toNatClampNeg x1 → vp_in (38 + x1) 936 ∧ vp_in 1 6 ∧ ∀ M_5 : ap_Mem, M_5 = ap_mu M_2 (q + 4) (1 : Int32).toNatClampNeg (M_2 (q + 1) (38 + x1).toNatClampNeg) → vp_in (44 + x1) 936 ∧ vp_in 2 6 ∧ ∀ M_8 : ap_Mem, M_8 = ap_mu M_5 (q + 4) (2 : Int32).toNatClampNeg (M_5 (q + 1) (44 + x1).toNatClampNeg) → vp_in (18 + x1) 936 ∧ w_X9_far (M_8 (q + 1) (18 + x1).toNatClampNeg) x2 M_8 (fun r_10 M_11 => vp_in 3 6 ∧ ∀ M_13 : ap_Mem, M_13 = ap_mu M_11 (q + 4) (3 : Int32).toNatClampNeg r_10 → vp_in 4 6 ∧ ∀ M_15 : ap_Mem, M_15 = ap_mu M_13 (q + 4) (4 : Int32).toNatClampNeg x2 → vp_in 0 936 ∧ vp_in 5 6 ∧ ∀ M_18 : ap_Mem, M_18 = ap_mu M_15 (q + 4) (5 : Int32).toNatClampNeg ((M_15 (q + 1) (0 : Int32).toNatClampNeg) - (M_15 (q + 1) (0 : Int32).toNatClampNeg) / 10 * 10) → w_X9_tellsOf q 231 0 M_18 (fun r_19 M_20 => vp_in 37 936 ∧ ∀ x5_22 : Int32, x5_22 = 236 + (140 * (M_20 (q + 1) (37 : Int32).toNatClampNeg)) → w_X9_lureOf_115   q K 4096 6 r_19 x5_22 0 x5_22 M_20))
theorem bl_X9_lureOf_0 {x : ap_X} {g : ap_G} (hc : ap_Cx x g cX9_lureOf RX9 12) {K : Int32 → ap_Mem → Prop} (hz : ap_Ends x g 2 (some .int) (ap_Qi K))   {q : Nat} (hq : ap_kd q = 9)   {x1 : Int32} {x2 : Int32} {M : ap_Mem}  (h : w_X9_lureOf   q x1 x2 M K) : ap_V x g 12 0 [(0, .ref (ap_ad g q)), (1, .int x1), (2, .int x2)] [] M := by
  have hg := hc.2.2.2.2.2.2.2.1
  unfold w_X9_lureOf at h
  refine ap_aload_n (q := 1) hc dX9_lureOf_0 rfl rfl 0 rfl ?_
  refine ap_getR (q := 4) (r := q + 4) lg_RX9_21 (by decide) hq rfl hc dX9_lureOf_1 rfl ?_
  refine ap_iconst (q := 5) hc dX9_lureOf_4 rfl ic_0 ?_
  refine ap_iload_n (q := 6) hc dX9_lureOf_5 rfl rfl 1 rfl ?_
  obtain ⟨g_1, h⟩ := h
  obtain ⟨M_2, eM_2, h⟩ := ap_nm h
  refine ap_iast (q := 7) (ty_9_4 hq) (tn_9_4 hq) g_1 eM_2 hc dX9_lureOf_6 rfl ?_
  refine ap_aload_n (q := 8) hc dX9_lureOf_7 rfl rfl 0 rfl ?_
  refine ap_getR (q := 11) (r := q + 4) lg_RX9_21 (by decide) hq rfl hc dX9_lureOf_8 rfl ?_
  refine ap_iconst (q := 12) hc dX9_lureOf_11 rfl ic_1 ?_
  refine ap_aload_n (q := 13) hc dX9_lureOf_12 rfl rfl 0 rfl ?_
  refine ap_getR (q := 16) (r := q + 1) lg_RX9_9 (by decide) hq rfl hc dX9_lureOf_13 rfl ?_
  refine ap_bipush (q := 18) hc dX9_lureOf_16 rfl bc_38 ?_
  refine ap_iload_n (q := 19) hc dX9_lureOf_18 rfl rfl 1 rfl ?_
  refine ap_iadd (q := 20) hc dX9_lureOf_19 rfl ?_
  obtain ⟨g_3, h⟩ := h
  refine ap_iald (q := 21) (ty_9_1 hq) (tn_9_1 hq) g_3 hc dX9_lureOf_20 rfl ?_
  obtain ⟨g_4, h⟩ := h
  obtain ⟨M_5, eM_5, h⟩ := ap_nm h
  refine ap_iast (q := 22) (ty_9_4 hq) (tn_9_4 hq) g_4 eM_5 hc dX9_lureOf_21 rfl ?_
  refine ap_aload_n (q := 23) hc dX9_lureOf_22 rfl rfl 0 rfl ?_
  refine ap_getR (q := 26) (r := q + 4) lg_RX9_21 (by decide) hq rfl hc dX9_lureOf_23 rfl ?_
  refine ap_iconst (q := 27) hc dX9_lureOf_26 rfl ic_2 ?_
  refine ap_aload_n (q := 28) hc dX9_lureOf_27 rfl rfl 0 rfl ?_
  refine ap_getR (q := 31) (r := q + 1) lg_RX9_9 (by decide) hq rfl hc dX9_lureOf_28 rfl ?_
  refine ap_bipush (q := 33) hc dX9_lureOf_31 rfl bc_44 ?_
  refine ap_iload_n (q := 34) hc dX9_lureOf_33 rfl rfl 1 rfl ?_
  refine ap_iadd (q := 35) hc dX9_lureOf_34 rfl ?_
  obtain ⟨g_6, h⟩ := h
  refine ap_iald (q := 36) (ty_9_1 hq) (tn_9_1 hq) g_6 hc dX9_lureOf_35 rfl ?_
  obtain ⟨g_7, h⟩ := h
  obtain ⟨M_8, eM_8, h⟩ := ap_nm h
  refine ap_iast (q := 37) (ty_9_4 hq) (tn_9_4 hq) g_7 eM_8 hc dX9_lureOf_36 rfl ?_
  refine ap_aload_n (q := 38) hc dX9_lureOf_37 rfl rfl 0 rfl ?_
  refine ap_getR (q := 41) (r := q + 4) lg_RX9_21 (by decide) hq rfl hc dX9_lureOf_38 rfl ?_
  refine ap_iconst (q := 42) hc dX9_lureOf_41 rfl ic_3 ?_
  refine ap_aload_n (q := 43) hc dX9_lureOf_42 rfl rfl 0 rfl ?_
  refine ap_getR (q := 46) (r := q + 1) lg_RX9_9 (by decide) hq rfl hc dX9_lureOf_43 rfl ?_
  refine ap_bipush (q := 48) hc dX9_lureOf_46 rfl bc_18 ?_
  refine ap_iload_n (q := 49) hc dX9_lureOf_48 rfl rfl 1 rfl ?_
  refine ap_iadd (q := 50) hc dX9_lureOf_49 rfl ?_
  obtain ⟨g_9, h⟩ := h
  refine ap_iald (q := 51) (ty_9_1 hq) (tn_9_1 hq) g_9 hc dX9_lureOf_50 rfl ?_
  refine ap_iload_n (q := 52) hc dX9_lureOf_51 rfl rfl 2 rfl ?_
  refine ap_callS (q := 55) (As := [.int (M_8 (q + 1) (18 + x1).toNatClampNeg), .int x2]) hc (ok_X9_far hg  h) ml_RX9_119 lk_X9_far ls_X9_far (ap_RmE hz (by decide)) rfl rfl (Nat.le_of_ble_eq_true rfl) dX9_lureOf_52 rfl (ap_ki (fun r_10 M_11 h => ?_))
  obtain ⟨g_12, h⟩ := h
  obtain ⟨M_13, eM_13, h⟩ := ap_nm h
  refine ap_iast (q := 56) (ty_9_4 hq) (tn_9_4 hq) g_12 eM_13 hc dX9_lureOf_55 rfl ?_
  refine ap_aload_n (q := 57) hc dX9_lureOf_56 rfl rfl 0 rfl ?_
  refine ap_getR (q := 60) (r := q + 4) lg_RX9_21 (by decide) hq rfl hc dX9_lureOf_57 rfl ?_
  refine ap_iconst (q := 61) hc dX9_lureOf_60 rfl ic_4 ?_
  refine ap_iload_n (q := 62) hc dX9_lureOf_61 rfl rfl 2 rfl ?_
  obtain ⟨g_14, h⟩ := h
  obtain ⟨M_15, eM_15, h⟩ := ap_nm h
  refine ap_iast (q := 63) (ty_9_4 hq) (tn_9_4 hq) g_14 eM_15 hc dX9_lureOf_62 rfl ?_
  refine ap_aload_n (q := 64) hc dX9_lureOf_63 rfl rfl 0 rfl ?_
  refine ap_getR (q := 67) (r := q + 4) lg_RX9_21 (by decide) hq rfl hc dX9_lureOf_64 rfl ?_
  refine ap_iconst (q := 68) hc dX9_lureOf_67 rfl ic_5 ?_
  refine ap_aload_n (q := 69) hc dX9_lureOf_68 rfl rfl 0 rfl ?_
  refine ap_getR (q := 72) (r := q + 1) lg_RX9_9 (by decide) hq rfl hc dX9_lureOf_69 rfl ?_
  refine ap_iconst (q := 73) hc dX9_lureOf_72 rfl ic_0 ?_
  obtain ⟨g_16, h⟩ := h
  refine ap_iald (q := 74) (ty_9_1 hq) (tn_9_1 hq) g_16 hc dX9_lureOf_73 rfl ?_
  refine ap_bipush (q := 76) hc dX9_lureOf_74 rfl bc_10 ?_
  refine ap_irem (q := 77) hc dX9_lureOf_76 rfl (by decide) ?_
  obtain ⟨g_17, h⟩ := h
  obtain ⟨M_18, eM_18, h⟩ := ap_nm h
  refine ap_iast (q := 78) (ty_9_4 hq) (tn_9_4 hq) g_17 eM_18 hc dX9_lureOf_77 rfl ?_
  refine ap_bipush (q := 80) hc dX9_lureOf_78 rfl bc_6 ?_
  refine ap_istore_n (q := 81) (lo2 := [(3, .int 6), (0, .ref (ap_ad g q)), (1, .int x1), (2, .int x2)]) hc dX9_lureOf_80 rfl rfl rfl (by decide) rfl ?_
  refine ap_aload_n (q := 82) hc dX9_lureOf_81 rfl rfl 1 rfl ?_
  refine ap_sipush (q := 85) hc dX9_lureOf_82 rfl sc_231 ?_
  refine ap_iconst (q := 86) hc dX9_lureOf_85 rfl ic_0 ?_
  refine ap_callV (q := 89) (As := [.int 231, .int 0]) hc (ok_X9_tellsOf hg hq h) ml_RX9_123 lk_X9_tellsOf lv_X9_tellsOf hq rfl (ap_RmE hz (by decide)) rfl rfl (Nat.le_of_ble_eq_true rfl) dX9_lureOf_86 rfl (ap_ki (fun r_19 M_20 h => ?_))
  refine ap_istore (q := 91) (lo2 := [(4, .int r_19), (3, .int 6), (0, .ref (ap_ad g q)), (1, .int x1), (2, .int x2)]) hc dX9_lureOf_89 rfl rfl (by decide) rfl ?_
  refine ap_sipush (q := 94) hc dX9_lureOf_91 rfl sc_236 ?_
  refine ap_sipush (q := 97) hc dX9_lureOf_94 rfl sc_140 ?_
  refine ap_aload_n (q := 98) hc dX9_lureOf_97 rfl rfl 2 rfl ?_
  refine ap_getR (q := 101) (r := q + 1) lg_RX9_9 (by decide) hq rfl hc dX9_lureOf_98 rfl ?_
  refine ap_bipush (q := 103) hc dX9_lureOf_101 rfl bc_37 ?_
  obtain ⟨g_21, h⟩ := h
  refine ap_iald (q := 104) (ty_9_1 hq) (tn_9_1 hq) g_21 hc dX9_lureOf_103 rfl ?_
  refine ap_imul (q := 105) hc dX9_lureOf_104 rfl ?_
  refine ap_iadd (q := 106) hc dX9_lureOf_105 rfl ?_
  obtain ⟨x5_22, ex5_22, h⟩ := ap_nm h
  refine ap_istore (q := 108) (lo2 := [(5, .int x5_22), (4, .int r_19), (3, .int 6), (0, .ref (ap_ad g q)), (1, .int x1), (2, .int x2)]) hc dX9_lureOf_106 rfl ex5_22 (by decide) rfl ?_
  refine ap_iconst (q := 109) hc dX9_lureOf_108 rfl ic_0 ?_
  refine ap_istore (q := 111) (lo2 := [(6, .int 0), (5, .int x5_22), (4, .int r_19), (3, .int 6), (0, .ref (ap_ad g q)), (1, .int x1), (2, .int x2)]) hc dX9_lureOf_109 rfl rfl (by decide) rfl ?_
  refine ap_iload (q := 113) hc dX9_lureOf_111 rfl 1 rfl ?_
  refine ap_istore (q := 115) (lo2 := [(7, .int x5_22), (6, .int 0), (5, .int x5_22), (4, .int r_19), (3, .int 6), (0, .ref (ap_ad g q)), (1, .int x1), (2, .int x2)]) hc dX9_lureOf_113 rfl rfl (by decide) rfl ?_
  exact ap_sub [5, 4, 3, 2, 1, 0] rfl (bl_X9_lureOf_115 hc hz  hq  _ _ _ _ _ _ _ h)
theorem ok_X9_lureOf {l : Launch} {g : ap_G} (hg : ap_GOK g) {q : Nat} (hq : ap_kd q = 9) {x1 : Int32} {x2 : Int32} {M : ap_Mem} {K : Int32 → ap_Mem → Prop} (h : w_X9_lureOf q x1 x2 M K) : ap_Ct l g yX9_lureOf cX9_lureOf 12 (some .int) 2 [.ref (ap_ad g q), .int x1, .int x2] M (ap_Qi K) := by
  refine ap_Ct_of hg (by decide +kernel) (Nat.le_of_ble_eq_true rfl) (fun x hx hc hz => ?_)
  subst hx
  exact bl_X9_lureOf_0 hc hz hq h
def w_X9_tugOf   (q : Nat) (x1 : Int32) (x2 : Int32) (M : ap_Mem) (K : Int32 → ap_Mem → Prop) : Prop :=
vp_in (24 + x1) 936 ∧ (if (M (q + 1) (24 + x1).toNatClampNeg) = 1 then (K 0 M) else (w_X9_lureOf q x1 x2 M (fun r_3 M_4 => vp_in (18 + x1) 936 ∧ w_X9_far (M_4 (q + 1) (18 + x1).toNatClampNeg) x2 M_4 (fun r_6 M_7 => vp_in (44 + x1) 936 ∧ ∀ x5_9 : Int32, x5_9 = M_7 (q + 1) (44 + x1).toNatClampNeg → vp_in (38 + x1) 936 ∧ (if (M_7 (q + 1) (38 + x1).toNatClampNeg) = 1 then (K ((r_3 + x5_9) - r_6) M_7) else (if (M_7 (q + 1) (38 + x1).toNatClampNeg) = 2 then ((if r_6 = 1 then (K r_3 M_7) else (K 0 M_7))) else (if (M_7 (q + 1) (38 + x1).toNatClampNeg) = 3 then (K ((r_3 - (2 * r_6)) / 2) M_7) else (if (M_7 (q + 1) (38 + x1).toNatClampNeg) = 4 then ((if r_6 = 0 then (K (2 * (r_3 + x5_9)) M_7) else (K ((r_3 + x5_9) - r_6) M_7))) else (if (M_7 (q + 1) (38 + x1).toNatClampNeg) = 5 then ((if r_6 = 1 then (K r_3 M_7) else ((if r_6 = 0 then (K x5_9 M_7) else (K 0 M_7))))) else (if (M_7 (q + 1) (38 + x1).toNatClampNeg) = 6 then (vp_in 0 936 ∧ vp_in ((50 + (4 * x1)) + ((M_7 (q + 1) (0 : Int32).toNatClampNeg) - (M_7 (q + 1) (0 : Int32).toNatClampNeg) / 4 * 4)) 936 ∧ K (((r_3 - (2 * r_6)) / 2) + (M_7 (q + 1) ((50 + (4 * x1)) + ((M_7 (q + 1) (0 : Int32).toNatClampNeg) - (M_7 (q + 1) (0 : Int32).toNatClampNeg) / 4 * 4)).toNatClampNeg)) M_7) else (K (r_3 - (2 * r_6)) M_7)))))))))))
theorem bl_X9_tugOf_0 {x : ap_X} {g : ap_G} (hc : ap_Cx x g cX9_tugOf RX9 6) {K : Int32 → ap_Mem → Prop} (hz : ap_Ends x g 3 (some .int) (ap_Qi K))   {q : Nat} (hq : ap_kd q = 9)   {x1 : Int32} {x2 : Int32} {M : ap_Mem}  (h : w_X9_tugOf   q x1 x2 M K) : ap_V x g 6 0 [(0, .ref (ap_ad g q)), (1, .int x1), (2, .int x2)] [] M := by
  have hg := hc.2.2.2.2.2.2.2.1
  unfold w_X9_tugOf at h
  refine ap_aload_n (q := 1) hc dX9_tugOf_0 rfl rfl 0 rfl ?_
  refine ap_getR (q := 4) (r := q + 1) lg_RX9_9 (by decide) hq rfl hc dX9_tugOf_1 rfl ?_
  refine ap_bipush (q := 6) hc dX9_tugOf_4 rfl bc_24 ?_
  refine ap_iload_n (q := 7) hc dX9_tugOf_6 rfl rfl 1 rfl ?_
  refine ap_iadd (q := 8) hc dX9_tugOf_7 rfl ?_
  obtain ⟨g_1, h⟩ := h
  refine ap_iald (q := 9) (ty_9_1 hq) (tn_9_1 hq) g_1 hc dX9_tugOf_8 rfl ?_
  refine ap_iconst (q := 10) hc dX9_tugOf_9 rfl ic_1 ?_
  refine ap_icmp_ne (q := 13) (tgt := 15) hc dX9_tugOf_10 rfl (by decide) (fun z_2 => ?_) (fun z_2 => ?_)
  · have h := Eq.mp (if_neg z_2) h
    refine ap_aload_n (q := 16) hc dX9_tugOf_15 rfl rfl 0 rfl ?_
    refine ap_iload_n (q := 17) hc dX9_tugOf_16 rfl rfl 1 rfl ?_
    refine ap_iload_n (q := 18) hc dX9_tugOf_17 rfl rfl 2 rfl ?_
    refine ap_callV (q := 21) (As := [.int x1, .int x2]) hc (ok_X9_lureOf hg hq h) ml_RX9_126 lk_X9_lureOf lv_X9_lureOf hq rfl (ap_RmE hz (by decide)) rfl rfl (Nat.le_of_ble_eq_true rfl) dX9_tugOf_18 rfl (ap_ki (fun r_3 M_4 h => ?_))
    refine ap_istore_n (q := 22) (lo2 := [(3, .int r_3), (0, .ref (ap_ad g q)), (1, .int x1), (2, .int x2)]) hc dX9_tugOf_21 rfl rfl rfl (by decide) rfl ?_
    refine ap_aload_n (q := 23) hc dX9_tugOf_22 rfl rfl 1 rfl ?_
    refine ap_getR (q := 26) (r := q + 1) lg_RX9_9 (by decide) hq rfl hc dX9_tugOf_23 rfl ?_
    refine ap_bipush (q := 28) hc dX9_tugOf_26 rfl bc_18 ?_
    refine ap_iload_n (q := 29) hc dX9_tugOf_28 rfl rfl 2 rfl ?_
    refine ap_iadd (q := 30) hc dX9_tugOf_29 rfl ?_
    obtain ⟨g_5, h⟩ := h
    refine ap_iald (q := 31) (ty_9_1 hq) (tn_9_1 hq) g_5 hc dX9_tugOf_30 rfl ?_
    refine ap_iload_n (q := 32) hc dX9_tugOf_31 rfl rfl 3 rfl ?_
    refine ap_callS (q := 35) (As := [.int (M_4 (q + 1) (18 + x1).toNatClampNeg), .int x2]) hc (ok_X9_far hg  h) ml_RX9_119 lk_X9_far ls_X9_far (ap_RmE hz (by decide)) rfl rfl (Nat.le_of_ble_eq_true rfl) dX9_tugOf_32 rfl (ap_ki (fun r_6 M_7 h => ?_))
    refine ap_istore (q := 37) (lo2 := [(4, .int r_6), (3, .int r_3), (0, .ref (ap_ad g q)), (1, .int x1), (2, .int x2)]) hc dX9_tugOf_35 rfl rfl (by decide) rfl ?_
    refine ap_aload_n (q := 38) hc dX9_tugOf_37 rfl rfl 2 rfl ?_
    refine ap_getR (q := 41) (r := q + 1) lg_RX9_9 (by decide) hq rfl hc dX9_tugOf_38 rfl ?_
    refine ap_bipush (q := 43) hc dX9_tugOf_41 rfl bc_44 ?_
    refine ap_iload_n (q := 44) hc dX9_tugOf_43 rfl rfl 3 rfl ?_
    refine ap_iadd (q := 45) hc dX9_tugOf_44 rfl ?_
    obtain ⟨g_8, h⟩ := h
    refine ap_iald (q := 46) (ty_9_1 hq) (tn_9_1 hq) g_8 hc dX9_tugOf_45 rfl ?_
    obtain ⟨x5_9, ex5_9, h⟩ := ap_nm h
    refine ap_istore (q := 48) (lo2 := [(5, .int x5_9), (4, .int r_6), (3, .int r_3), (0, .ref (ap_ad g q)), (1, .int x1), (2, .int x2)]) hc dX9_tugOf_46 rfl ex5_9 (by decide) rfl ?_
    refine ap_aload_n (q := 49) hc dX9_tugOf_48 rfl rfl 3 rfl ?_
    refine ap_getR (q := 52) (r := q + 1) lg_RX9_9 (by decide) hq rfl hc dX9_tugOf_49 rfl ?_
    refine ap_bipush (q := 54) hc dX9_tugOf_52 rfl bc_38 ?_
    refine ap_iload_n (q := 55) hc dX9_tugOf_54 rfl rfl 4 rfl ?_
    refine ap_iadd (q := 56) hc dX9_tugOf_55 rfl ?_
    obtain ⟨g_10, h⟩ := h
    refine ap_iald (q := 57) (ty_9_1 hq) (tn_9_1 hq) g_10 hc dX9_tugOf_56 rfl ?_
    by_cases z_11 : (M_7 (q + 1) (38 + x1).toNatClampNeg) = 1
    · have h := Eq.mp (if_pos z_11) h
      refine ap_tabIn (tgt := 96) (off := 39) (v := 1) hc dX9_tugOf_57 z_11 (by decide) (by decide) (by decide +kernel) (by decide) ?_
      refine ap_iload_n (q := 97) hc dX9_tugOf_96 rfl rfl 2 rfl ?_
      refine ap_iload (q := 99) hc dX9_tugOf_97 rfl 0 rfl ?_
      refine ap_iadd (q := 100) hc dX9_tugOf_99 rfl ?_
      refine ap_iload (q := 102) hc dX9_tugOf_100 rfl 1 rfl ?_
      refine ap_isub (q := 103) hc dX9_tugOf_102 rfl ?_
      exact ap_iret hc hz rfl dX9_tugOf_103 h
    · have h := Eq.mp (if_neg z_11) h
      by_cases z_12 : (M_7 (q + 1) (38 + x1).toNatClampNeg) = 2
      · have h := Eq.mp (if_pos z_12) h
        refine ap_tabIn (tgt := 104) (off := 47) (v := 2) hc dX9_tugOf_57 z_12 (by decide) (by decide) (by decide +kernel) (by decide) ?_
        refine ap_iload (q := 106) hc dX9_tugOf_104 rfl 1 rfl ?_
        refine ap_iconst (q := 107) hc dX9_tugOf_106 rfl ic_1 ?_
        refine ap_icmp_ne (q := 110) (tgt := 114) hc dX9_tugOf_107 rfl (by decide) (fun z_13 => ?_) (fun z_13 => ?_)
        · have h := Eq.mp (if_neg z_13) h
          refine ap_iconst (q := 115) hc dX9_tugOf_114 rfl ic_0 ?_
          exact ap_iret hc hz rfl dX9_tugOf_115 h
        · have h := Eq.mp (if_pos z_13) h
          refine ap_iload_n (q := 111) hc dX9_tugOf_110 rfl rfl 2 rfl ?_
          refine ap_goto (q := 115) hc dX9_tugOf_111 (by decide) ?_
          exact ap_iret hc hz rfl dX9_tugOf_115 h
      · have h := Eq.mp (if_neg z_12) h
        by_cases z_14 : (M_7 (q + 1) (38 + x1).toNatClampNeg) = 3
        · have h := Eq.mp (if_pos z_14) h
          refine ap_tabIn (tgt := 116) (off := 59) (v := 3) hc dX9_tugOf_57 z_14 (by decide) (by decide) (by decide +kernel) (by decide) ?_
          refine ap_iload_n (q := 117) hc dX9_tugOf_116 rfl rfl 2 rfl ?_
          refine ap_iconst (q := 118) hc dX9_tugOf_117 rfl ic_2 ?_
          refine ap_iload (q := 120) hc dX9_tugOf_118 rfl 1 rfl ?_
          refine ap_imul (q := 121) hc dX9_tugOf_120 rfl ?_
          refine ap_isub (q := 122) hc dX9_tugOf_121 rfl ?_
          refine ap_iconst (q := 123) hc dX9_tugOf_122 rfl ic_2 ?_
          refine ap_idiv (q := 124) hc dX9_tugOf_123 rfl (by decide) ?_
          exact ap_iret hc hz rfl dX9_tugOf_124 h
        · have h := Eq.mp (if_neg z_14) h
          by_cases z_15 : (M_7 (q + 1) (38 + x1).toNatClampNeg) = 4
          · have h := Eq.mp (if_pos z_15) h
            refine ap_tabIn (tgt := 125) (off := 68) (v := 4) hc dX9_tugOf_57 z_15 (by decide) (by decide) (by decide +kernel) (by decide) ?_
            refine ap_iload (q := 127) hc dX9_tugOf_125 rfl 1 rfl ?_
            refine ap_if_ne (q := 130) (tgt := 139) hc dX9_tugOf_127 rfl (by decide) (fun z_16 => ?_) (fun z_16 => ?_)
            · have h := Eq.mp (if_neg z_16) h
              refine ap_iload_n (q := 140) hc dX9_tugOf_139 rfl rfl 2 rfl ?_
              refine ap_iload (q := 142) hc dX9_tugOf_140 rfl 0 rfl ?_
              refine ap_iadd (q := 143) hc dX9_tugOf_142 rfl ?_
              refine ap_iload (q := 145) hc dX9_tugOf_143 rfl 1 rfl ?_
              refine ap_isub (q := 146) hc dX9_tugOf_145 rfl ?_
              exact ap_iret hc hz rfl dX9_tugOf_146 h
            · have h := Eq.mp (if_pos z_16) h
              refine ap_iconst (q := 131) hc dX9_tugOf_130 rfl ic_2 ?_
              refine ap_iload_n (q := 132) hc dX9_tugOf_131 rfl rfl 2 rfl ?_
              refine ap_iload (q := 134) hc dX9_tugOf_132 rfl 0 rfl ?_
              refine ap_iadd (q := 135) hc dX9_tugOf_134 rfl ?_
              refine ap_imul (q := 136) hc dX9_tugOf_135 rfl ?_
              refine ap_goto (q := 146) hc dX9_tugOf_136 (by decide) ?_
              exact ap_iret hc hz rfl dX9_tugOf_146 h
          · have h := Eq.mp (if_neg z_15) h
            by_cases z_17 : (M_7 (q + 1) (38 + x1).toNatClampNeg) = 5
            · have h := Eq.mp (if_pos z_17) h
              refine ap_tabIn (tgt := 147) (off := 90) (v := 5) hc dX9_tugOf_57 z_17 (by decide) (by decide) (by decide +kernel) (by decide) ?_
              refine ap_iload (q := 149) hc dX9_tugOf_147 rfl 1 rfl ?_
              refine ap_iconst (q := 150) hc dX9_tugOf_149 rfl ic_1 ?_
              refine ap_icmp_ne (q := 153) (tgt := 157) hc dX9_tugOf_150 rfl (by decide) (fun z_18 => ?_) (fun z_18 => ?_)
              · have h := Eq.mp (if_neg z_18) h
                refine ap_iload (q := 159) hc dX9_tugOf_157 rfl 1 rfl ?_
                refine ap_if_ne (q := 162) (tgt := 167) hc dX9_tugOf_159 rfl (by decide) (fun z_19 => ?_) (fun z_19 => ?_)
                · have h := Eq.mp (if_neg z_19) h
                  refine ap_iconst (q := 168) hc dX9_tugOf_167 rfl ic_0 ?_
                  exact ap_iret hc hz rfl dX9_tugOf_168 h
                · have h := Eq.mp (if_pos z_19) h
                  refine ap_iload (q := 164) hc dX9_tugOf_162 rfl 0 rfl ?_
                  refine ap_goto (q := 168) hc dX9_tugOf_164 (by decide) ?_
                  exact ap_iret hc hz rfl dX9_tugOf_168 h
              · have h := Eq.mp (if_pos z_18) h
                refine ap_iload_n (q := 154) hc dX9_tugOf_153 rfl rfl 2 rfl ?_
                refine ap_goto (q := 168) hc dX9_tugOf_154 (by decide) ?_
                exact ap_iret hc hz rfl dX9_tugOf_168 h
            · have h := Eq.mp (if_neg z_17) h
              by_cases z_20 : (M_7 (q + 1) (38 + x1).toNatClampNeg) = 6
              · have h := Eq.mp (if_pos z_20) h
                refine ap_tabIn (tgt := 169) (off := 112) (v := 6) hc dX9_tugOf_57 z_20 (by decide) (by decide) (by decide +kernel) (by decide) ?_
                refine ap_iload_n (q := 170) hc dX9_tugOf_169 rfl rfl 2 rfl ?_
                refine ap_iconst (q := 171) hc dX9_tugOf_170 rfl ic_2 ?_
                refine ap_iload (q := 173) hc dX9_tugOf_171 rfl 1 rfl ?_
                refine ap_imul (q := 174) hc dX9_tugOf_173 rfl ?_
                refine ap_isub (q := 175) hc dX9_tugOf_174 rfl ?_
                refine ap_iconst (q := 176) hc dX9_tugOf_175 rfl ic_2 ?_
                refine ap_idiv (q := 177) hc dX9_tugOf_176 rfl (by decide) ?_
                refine ap_aload_n (q := 178) hc dX9_tugOf_177 rfl rfl 3 rfl ?_
                refine ap_getR (q := 181) (r := q + 1) lg_RX9_9 (by decide) hq rfl hc dX9_tugOf_178 rfl ?_
                refine ap_bipush (q := 183) hc dX9_tugOf_181 rfl bc_50 ?_
                refine ap_iconst (q := 184) hc dX9_tugOf_183 rfl ic_4 ?_
                refine ap_iload_n (q := 185) hc dX9_tugOf_184 rfl rfl 4 rfl ?_
                refine ap_imul (q := 186) hc dX9_tugOf_185 rfl ?_
                refine ap_iadd (q := 187) hc dX9_tugOf_186 rfl ?_
                refine ap_aload_n (q := 188) hc dX9_tugOf_187 rfl rfl 3 rfl ?_
                refine ap_getR (q := 191) (r := q + 1) lg_RX9_9 (by decide) hq rfl hc dX9_tugOf_188 rfl ?_
                refine ap_iconst (q := 192) hc dX9_tugOf_191 rfl ic_0 ?_
                obtain ⟨g_21, h⟩ := h
                refine ap_iald (q := 193) (ty_9_1 hq) (tn_9_1 hq) g_21 hc dX9_tugOf_192 rfl ?_
                refine ap_iconst (q := 194) hc dX9_tugOf_193 rfl ic_4 ?_
                refine ap_irem (q := 195) hc dX9_tugOf_194 rfl (by decide) ?_
                refine ap_iadd (q := 196) hc dX9_tugOf_195 rfl ?_
                obtain ⟨g_22, h⟩ := h
                refine ap_iald (q := 197) (ty_9_1 hq) (tn_9_1 hq) g_22 hc dX9_tugOf_196 rfl ?_
                refine ap_iadd (q := 198) hc dX9_tugOf_197 rfl ?_
                exact ap_iret hc hz rfl dX9_tugOf_198 h
              · have h := Eq.mp (if_neg z_20) h
                refine ap_tabOut (tgt := 199) hc dX9_tugOf_57 (ap_tabNo 6 (by decide) (by decide) (by decide) (fun j hj hjj => ?_)) (by decide) ?_
                · rcases (by omega : j = 0 ∨ j = 1 ∨ j = 2 ∨ j = 3 ∨ j = 4 ∨ j = 5) with rfl | rfl | rfl | rfl | rfl | rfl
                  · exact z_11
                  · exact z_12
                  · exact z_14
                  · exact z_15
                  · exact z_17
                  · exact z_20
                refine ap_iload_n (q := 200) hc dX9_tugOf_199 rfl rfl 2 rfl ?_
                refine ap_iconst (q := 201) hc dX9_tugOf_200 rfl ic_2 ?_
                refine ap_iload (q := 203) hc dX9_tugOf_201 rfl 1 rfl ?_
                refine ap_imul (q := 204) hc dX9_tugOf_203 rfl ?_
                refine ap_isub (q := 205) hc dX9_tugOf_204 rfl ?_
                exact ap_iret hc hz rfl dX9_tugOf_205 h
  · have h := Eq.mp (if_pos z_2) h
    refine ap_iconst (q := 14) hc dX9_tugOf_13 rfl ic_0 ?_
    exact ap_iret hc hz rfl dX9_tugOf_14 h
theorem ok_X9_tugOf {l : Launch} {g : ap_G} (hg : ap_GOK g) {q : Nat} (hq : ap_kd q = 9) {x1 : Int32} {x2 : Int32} {M : ap_Mem} {K : Int32 → ap_Mem → Prop} (h : w_X9_tugOf q x1 x2 M K) : ap_Ct l g yX9_tugOf cX9_tugOf 6 (some .int) 3 [.ref (ap_ad g q), .int x1, .int x2] M (ap_Qi K) := by
  refine ap_Ct_of hg (by decide +kernel) (Nat.le_of_ble_eq_true rfl) (fun x hx hc hz => ?_)
  subst hx
  exact bl_X9_tugOf_0 hc hz hq h
def w_X9_drawOf_4_s   (kL4 : Int32 → Int32 → Int32 → ap_Mem → Prop) (q : Nat) (x1 : Int32) (x2 : Int32) (x3 : Int32) (M : ap_Mem) (K : Int32 → ap_Mem → Prop) : Prop :=
vp_in 30 936 ∧ (if (M (q + 1) (30 : Int32).toNatClampNeg) ≤ x3 then (w_X9_tellsOf q 226 2 M (fun r_3 M_4 => vp_in (2 + x1) 936 ∧ K (x2 - (r_3 * (M_4 (q + 1) (2 + x1).toNatClampNeg))) M_4)) else (w_X9_tugOf q x3 x1 M (fun r_6 M_7 => ∀ x2_8 : Int32, x2_8 = x2 + r_6 → ∀ x3_9 : Int32, x3_9 = x3 + 1 → kL4 x1 x2_8 x3_9 M_7)))
def w_X9_drawOf_4   (q : Nat) (K : Int32 → ap_Mem → Prop) : Nat → Int32 → Int32 → Int32 → ap_Mem → Prop
  | 0, _, _, _, _ => False
  | n + 1, x1, x2, x3, M => w_X9_drawOf_4_s   (w_X9_drawOf_4   q K n) q x1 x2 x3 M K
theorem bl_X9_drawOf_4 {x : ap_X} {g : ap_G} (hc : ap_Cx x g cX9_drawOf RX9 4) {K : Int32 → ap_Mem → Prop} (hz : ap_Ends x g 4 (some .int) (ap_Qi K))   {q : Nat} (hq : ap_kd q = 9)   : ∀ (n : Nat) (x1 : Int32) (x2 : Int32) (x3 : Int32) (M : ap_Mem), w_X9_drawOf_4   q K n x1 x2 x3 M → ap_V x g 4 4 [(0, .ref (ap_ad g q)), (1, .int x1), (2, .int x2), (3, .int x3)] [] M := by
  have hg := hc.2.2.2.2.2.2.2.1
  intro n
  induction n with
  | zero => intro _ _ _ _ h; exact h.elim
  | succ n ih =>
    intro x1 x2 x3 M h
    replace h : w_X9_drawOf_4_s   (w_X9_drawOf_4   q K n) q x1 x2 x3 M K := h
    unfold w_X9_drawOf_4_s at h
    refine ap_iload_n (q := 5) hc dX9_drawOf_4 rfl rfl 3 rfl ?_
    refine ap_aload_n (q := 6) hc dX9_drawOf_5 rfl rfl 0 rfl ?_
    refine ap_getR (q := 9) (r := q + 1) lg_RX9_9 (by decide) hq rfl hc dX9_drawOf_6 rfl ?_
    refine ap_bipush (q := 11) hc dX9_drawOf_9 rfl bc_30 ?_
    obtain ⟨g_1, h⟩ := h
    refine ap_iald (q := 12) (ty_9_1 hq) (tn_9_1 hq) g_1 hc dX9_drawOf_11 rfl ?_
    refine ap_icmp_ge (q := 15) (tgt := 30) hc dX9_drawOf_12 rfl (by decide) (fun z_2 => ?_) (fun z_2 => ?_)
    · have h := Eq.mp (if_pos z_2) h
      refine ap_iload_n (q := 31) hc dX9_drawOf_30 rfl rfl 2 rfl ?_
      refine ap_aload_n (q := 32) hc dX9_drawOf_31 rfl rfl 0 rfl ?_
      refine ap_sipush (q := 35) hc dX9_drawOf_32 rfl sc_226 ?_
      refine ap_iconst (q := 36) hc dX9_drawOf_35 rfl ic_2 ?_
      refine ap_callV (q := 39) (As := [.int 226, .int 2]) hc (ok_X9_tellsOf hg hq h) ml_RX9_123 lk_X9_tellsOf lv_X9_tellsOf hq rfl (ap_RmE hz (by decide)) rfl rfl (Nat.le_of_ble_eq_true rfl) dX9_drawOf_36 rfl (ap_ki (fun r_3 M_4 h => ?_))
      refine ap_aload_n (q := 40) hc dX9_drawOf_39 rfl rfl 0 rfl ?_
      refine ap_getR (q := 43) (r := q + 1) lg_RX9_9 (by decide) hq rfl hc dX9_drawOf_40 rfl ?_
      refine ap_iconst (q := 44) hc dX9_drawOf_43 rfl ic_2 ?_
      refine ap_iload_n (q := 45) hc dX9_drawOf_44 rfl rfl 1 rfl ?_
      refine ap_iadd (q := 46) hc dX9_drawOf_45 rfl ?_
      obtain ⟨g_5, h⟩ := h
      refine ap_iald (q := 47) (ty_9_1 hq) (tn_9_1 hq) g_5 hc dX9_drawOf_46 rfl ?_
      refine ap_imul (q := 48) hc dX9_drawOf_47 rfl ?_
      refine ap_isub (q := 49) hc dX9_drawOf_48 rfl ?_
      exact ap_iret hc hz rfl dX9_drawOf_49 h
    · have h := Eq.mp (if_neg z_2) h
      refine ap_iload_n (q := 16) hc dX9_drawOf_15 rfl rfl 2 rfl ?_
      refine ap_aload_n (q := 17) hc dX9_drawOf_16 rfl rfl 0 rfl ?_
      refine ap_iload_n (q := 18) hc dX9_drawOf_17 rfl rfl 3 rfl ?_
      refine ap_iload_n (q := 19) hc dX9_drawOf_18 rfl rfl 1 rfl ?_
      refine ap_callV (q := 22) (As := [.int x3, .int x1]) hc (ok_X9_tugOf hg hq h) ml_RX9_129 lk_X9_tugOf lv_X9_tugOf hq rfl (ap_RmE hz (by decide)) rfl rfl (Nat.le_of_ble_eq_true rfl) dX9_drawOf_19 rfl (ap_ki (fun r_6 M_7 h => ?_))
      refine ap_iadd (q := 23) hc dX9_drawOf_22 rfl ?_
      obtain ⟨x2_8, ex2_8, h⟩ := ap_nm h
      refine ap_istore_n (q := 24) (lo2 := [(2, .int x2_8), (0, .ref (ap_ad g q)), (1, .int x1), (3, .int x3)]) hc dX9_drawOf_23 rfl rfl ex2_8 (by decide) rfl ?_
      obtain ⟨x3_9, ex3_9, h⟩ := ap_nm h
      refine ap_iinc (q := 27) (lo2 := [(3, .int x3_9), (2, .int x2_8), (0, .ref (ap_ad g q)), (1, .int x1)]) hc dX9_drawOf_24 rfl 3 rfl (by rw [ex3_9]; rfl) (by decide) rfl ?_
      refine ap_goto (q := 4) hc dX9_drawOf_27 (by decide) ?_
      exact ap_sub [2, 3, 1, 0] rfl (ih _ _ _ _ h)
def w_X9_drawOf   (q : Nat) (x1 : Int32) (M : ap_Mem) (K : Int32 → ap_Mem → Prop) : Prop :=
w_X9_drawOf_4   q K 4096 x1 0 0 M
theorem bl_X9_drawOf_0 {x : ap_X} {g : ap_G} (hc : ap_Cx x g cX9_drawOf RX9 4) {K : Int32 → ap_Mem → Prop} (hz : ap_Ends x g 4 (some .int) (ap_Qi K))   {q : Nat} (hq : ap_kd q = 9)   {x1 : Int32} {M : ap_Mem}  (h : w_X9_drawOf   q x1 M K) : ap_V x g 4 0 [(0, .ref (ap_ad g q)), (1, .int x1)] [] M := by
  unfold w_X9_drawOf at h
  refine ap_iconst (q := 1) hc dX9_drawOf_0 rfl ic_0 ?_
  refine ap_istore_n (q := 2) (lo2 := [(2, .int 0), (0, .ref (ap_ad g q)), (1, .int x1)]) hc dX9_drawOf_1 rfl rfl rfl (by decide) rfl ?_
  refine ap_iconst (q := 3) hc dX9_drawOf_2 rfl ic_0 ?_
  refine ap_istore_n (q := 4) (lo2 := [(3, .int 0), (2, .int 0), (0, .ref (ap_ad g q)), (1, .int x1)]) hc dX9_drawOf_3 rfl rfl rfl (by decide) rfl ?_
  exact ap_sub [2, 3, 1, 0] rfl (bl_X9_drawOf_4 hc hz  hq  _ _ _ _ _ h)
theorem ok_X9_drawOf {l : Launch} {g : ap_G} (hg : ap_GOK g) {q : Nat} (hq : ap_kd q = 9) {x1 : Int32} {M : ap_Mem} {K : Int32 → ap_Mem → Prop} (h : w_X9_drawOf q x1 M K) : ap_Ct l g yX9_drawOf cX9_drawOf 4 (some .int) 4 [.ref (ap_ad g q), .int x1] M (ap_Qi K) := by
  refine ap_Ct_of hg (by decide +kernel) (Nat.le_of_ble_eq_true rfl) (fun x hx hc hz => ?_)
  subst hx
  exact bl_X9_drawOf_0 hc hz hq h
def w_X9_manyLain_27  (kL4 : Int32 → Int32 → ap_Mem → Prop) (q : Nat) (x2 : Int32) (s0 : Int32) (s1 : Int32) (M : ap_Mem) (K : Int32 → ap_Mem → Prop) : Prop :=
∀ x1_1 : Int32, x1_1 = s1 + s0 → ∀ x2_2 : Int32, x2_2 = x2 + 1 → kL4 x1_1 x2_2 M
theorem bl_X9_manyLain_27 {x : ap_X} {g : ap_G} (hc : ap_Cx x g cX9_manyLain RX9 3) {K : Int32 → ap_Mem → Prop} (hz : ap_Ends x g 0 (some .int) (ap_Qi K))   {q : Nat} (hq : ap_kd q = 9) {kL4 : Int32 → Int32 → ap_Mem → Prop} (hk4 : ∀ (x1 : Int32) (x2 : Int32)  (M : ap_Mem), kL4 x1 x2 M → ap_V x g 3 4 [(0, .ref (ap_ad g q)), (1, .int x1), (2, .int x2)] [] M) {x2 : Int32} {s0 : Int32} {s1 : Int32} {M : ap_Mem}  (h : w_X9_manyLain_27  kL4 q x2 s0 s1 M K) : ap_V x g 3 27 [(0, .ref (ap_ad g q)), (2, .int x2)] [.int s0, .int s1] M := by
  unfold w_X9_manyLain_27 at h
  refine ap_iadd (q := 28) hc dX9_manyLain_27 rfl ?_
  obtain ⟨x1_1, ex1_1, h⟩ := ap_nm h
  refine ap_istore_n (q := 29) (lo2 := [(1, .int x1_1), (0, .ref (ap_ad g q)), (2, .int x2)]) hc dX9_manyLain_28 rfl rfl ex1_1 (by decide) rfl ?_
  obtain ⟨x2_2, ex2_2, h⟩ := ap_nm h
  refine ap_iinc (q := 32) (lo2 := [(2, .int x2_2), (1, .int x1_1), (0, .ref (ap_ad g q))]) hc dX9_manyLain_29 rfl 2 rfl (by rw [ex2_2]; rfl) (by decide) rfl ?_
  refine ap_goto (q := 4) hc dX9_manyLain_32 (by decide) ?_
  exact ap_sub [2, 1, 0] rfl (hk4 _ _ _ h)
def w_X9_manyLain_4_s   (kL4 : Int32 → Int32 → ap_Mem → Prop) (q : Nat) (x1 : Int32) (x2 : Int32) (M : ap_Mem) (K : Int32 → ap_Mem → Prop) : Prop :=
(if 16 ≤ x2 then (K x1 M) else (vp_in (2 + x2) 936 ∧ (if (M (q + 1) (2 + x2).toNatClampNeg) ≤ 0 then (w_X9_manyLain_27  kL4 q x2 0 x1 M K) else (w_X9_manyLain_27  kL4 q x2 1 x1 M K))))
def w_X9_manyLain_4   (q : Nat) (K : Int32 → ap_Mem → Prop) : Nat → Int32 → Int32 → ap_Mem → Prop
  | 0, _, _, _ => False
  | n + 1, x1, x2, M => w_X9_manyLain_4_s   (w_X9_manyLain_4   q K n) q x1 x2 M K
theorem bl_X9_manyLain_4 {x : ap_X} {g : ap_G} (hc : ap_Cx x g cX9_manyLain RX9 3) {K : Int32 → ap_Mem → Prop} (hz : ap_Ends x g 0 (some .int) (ap_Qi K))   {q : Nat} (hq : ap_kd q = 9)   : ∀ (n : Nat) (x1 : Int32) (x2 : Int32) (M : ap_Mem), w_X9_manyLain_4   q K n x1 x2 M → ap_V x g 3 4 [(0, .ref (ap_ad g q)), (1, .int x1), (2, .int x2)] [] M := by
  intro n
  induction n with
  | zero => intro _ _ _ h; exact h.elim
  | succ n ih =>
    intro x1 x2 M h
    replace h : w_X9_manyLain_4_s   (w_X9_manyLain_4   q K n) q x1 x2 M K := h
    unfold w_X9_manyLain_4_s at h
    refine ap_iload_n (q := 5) hc dX9_manyLain_4 rfl rfl 2 rfl ?_
    refine ap_bipush (q := 7) hc dX9_manyLain_5 rfl bc_16 ?_
    refine ap_icmp_ge (q := 10) (tgt := 35) hc dX9_manyLain_7 rfl (by decide) (fun z_1 => ?_) (fun z_1 => ?_)
    · have h := Eq.mp (if_pos z_1) h
      refine ap_iload_n (q := 36) hc dX9_manyLain_35 rfl rfl 1 rfl ?_
      exact ap_iret hc hz rfl dX9_manyLain_36 h
    · have h := Eq.mp (if_neg z_1) h
      refine ap_iload_n (q := 11) hc dX9_manyLain_10 rfl rfl 1 rfl ?_
      refine ap_aload_n (q := 12) hc dX9_manyLain_11 rfl rfl 0 rfl ?_
      refine ap_getR (q := 15) (r := q + 1) lg_RX9_9 (by decide) hq rfl hc dX9_manyLain_12 rfl ?_
      refine ap_iconst (q := 16) hc dX9_manyLain_15 rfl ic_2 ?_
      refine ap_iload_n (q := 17) hc dX9_manyLain_16 rfl rfl 2 rfl ?_
      refine ap_iadd (q := 18) hc dX9_manyLain_17 rfl ?_
      obtain ⟨g_2, h⟩ := h
      refine ap_iald (q := 19) (ty_9_1 hq) (tn_9_1 hq) g_2 hc dX9_manyLain_18 rfl ?_
      refine ap_if_le (q := 22) (tgt := 26) hc dX9_manyLain_19 rfl (by decide) (fun z_3 => ?_) (fun z_3 => ?_)
      · have h := Eq.mp (if_pos z_3) h
        refine ap_iconst (q := 27) hc dX9_manyLain_26 rfl ic_0 ?_
        exact ap_sub [0, 2] rfl (bl_X9_manyLain_27 hc hz  hq ih  h)
      · have h := Eq.mp (if_neg z_3) h
        refine ap_iconst (q := 23) hc dX9_manyLain_22 rfl ic_1 ?_
        refine ap_goto (q := 27) hc dX9_manyLain_23 (by decide) ?_
        exact ap_sub [0, 2] rfl (bl_X9_manyLain_27 hc hz  hq ih  h)
def w_X9_manyLain   (q : Nat)  (M : ap_Mem) (K : Int32 → ap_Mem → Prop) : Prop :=
w_X9_manyLain_4   q K 4096 0 0 M
theorem bl_X9_manyLain_0 {x : ap_X} {g : ap_G} (hc : ap_Cx x g cX9_manyLain RX9 3) {K : Int32 → ap_Mem → Prop} (hz : ap_Ends x g 0 (some .int) (ap_Qi K))   {q : Nat} (hq : ap_kd q = 9)    {M : ap_Mem}  (h : w_X9_manyLain   q  M K) : ap_V x g 3 0 [(0, .ref (ap_ad g q))] [] M := by
  unfold w_X9_manyLain at h
  refine ap_iconst (q := 1) hc dX9_manyLain_0 rfl ic_0 ?_
  refine ap_istore_n (q := 2) (lo2 := [(1, .int 0), (0, .ref (ap_ad g q))]) hc dX9_manyLain_1 rfl rfl rfl (by decide) rfl ?_
  refine ap_iconst (q := 3) hc dX9_manyLain_2 rfl ic_0 ?_
  refine ap_istore_n (q := 4) (lo2 := [(2, .int 0), (1, .int 0), (0, .ref (ap_ad g q))]) hc dX9_manyLain_3 rfl rfl rfl (by decide) rfl ?_
  exact ap_sub [2, 1, 0] rfl (bl_X9_manyLain_4 hc hz  hq  _ _ _ _ h)
theorem ok_X9_manyLain {l : Launch} {g : ap_G} (hg : ap_GOK g) {q : Nat} (hq : ap_kd q = 9)  {M : ap_Mem} {K : Int32 → ap_Mem → Prop} (h : w_X9_manyLain q  M K) : ap_Ct l g yX9_manyLain cX9_manyLain 3 (some .int) 0 [.ref (ap_ad g q)] M (ap_Qi K) := by
  refine ap_Ct_of hg (by decide +kernel) (Nat.le_of_ble_eq_true rfl) (fun x hx hc hz => ?_)
  subst hx
  exact bl_X9_manyLain_0 hc hz hq h
def w_X9_person_103_s   (kL103 : Int32 → Int32 → ap_Mem → Prop) (q : Nat) (x4 : Int32) (x5 : Int32) (M : ap_Mem) (K : Int32 → ap_Mem → Prop) : Prop :=
(if 4 ≤ x5 then (vp_in 30 936 ∧ vp_in 30 936 ∧ ∀ M_4 : ap_Mem, M_4 = ap_mu M (q + 1) (30 : Int32).toNatClampNeg ((M (q + 1) (30 : Int32).toNatClampNeg) + 1) → K x4 M_4) else (vp_in ((50 + (4 * x4)) + x5) 936 ∧ ∀ M_6 : ap_Mem, M_6 = ap_mu M (q + 1) ((50 + (4 * x4)) + x5).toNatClampNeg 0 → ∀ x5_7 : Int32, x5_7 = x5 + 1 → kL103 x4 x5_7 M_6))
def w_X9_person_103   (q : Nat) (K : Int32 → ap_Mem → Prop) : Nat → Int32 → Int32 → ap_Mem → Prop
  | 0, _, _, _ => False
  | n + 1, x4, x5, M => w_X9_person_103_s   (w_X9_person_103   q K n) q x4 x5 M K
theorem bl_X9_person_103 {x : ap_X} {g : ap_G} (hc : ap_Cx x g cX9_person RX9 6) {K : Int32 → ap_Mem → Prop} (hz : ap_Ends x g 2 (some .int) (ap_Qi K))   {q : Nat} (hq : ap_kd q = 9)   : ∀ (n : Nat) (x4 : Int32) (x5 : Int32) (M : ap_Mem), w_X9_person_103   q K n x4 x5 M → ap_V x g 6 103 [(0, .ref (ap_ad g q)), (4, .int x4), (5, .int x5)] [] M := by
  intro n
  induction n with
  | zero => intro _ _ _ h; exact h.elim
  | succ n ih =>
    intro x4 x5 M h
    replace h : w_X9_person_103_s   (w_X9_person_103   q K n) q x4 x5 M K := h
    unfold w_X9_person_103_s at h
    refine ap_iload (q := 105) hc dX9_person_103 rfl 2 rfl ?_
    refine ap_iconst (q := 106) hc dX9_person_105 rfl ic_4 ?_
    refine ap_icmp_ge (q := 109) (tgt := 131) hc dX9_person_106 rfl (by decide) (fun z_1 => ?_) (fun z_1 => ?_)
    · have h := Eq.mp (if_pos z_1) h
      refine ap_aload_n (q := 132) hc dX9_person_131 rfl rfl 0 rfl ?_
      refine ap_getR (q := 135) (r := q + 1) lg_RX9_9 (by decide) hq rfl hc dX9_person_132 rfl ?_
      refine ap_bipush (q := 137) hc dX9_person_135 rfl bc_30 ?_
      refine ap_dup2 (q := 138) hc dX9_person_137 rfl rfl rfl ?_
      obtain ⟨g_2, h⟩ := h
      refine ap_iald (q := 139) (ty_9_1 hq) (tn_9_1 hq) g_2 hc dX9_person_138 rfl ?_
      refine ap_iconst (q := 140) hc dX9_person_139 rfl ic_1 ?_
      refine ap_iadd (q := 141) hc dX9_person_140 rfl ?_
      obtain ⟨g_3, h⟩ := h
      obtain ⟨M_4, eM_4, h⟩ := ap_nm h
      refine ap_iast (q := 142) (ty_9_1 hq) (tn_9_1 hq) g_3 eM_4 hc dX9_person_141 rfl ?_
      refine ap_iload (q := 144) hc dX9_person_142 rfl 1 rfl ?_
      exact ap_iret hc hz rfl dX9_person_144 h
    · have h := Eq.mp (if_neg z_1) h
      refine ap_aload_n (q := 110) hc dX9_person_109 rfl rfl 0 rfl ?_
      refine ap_getR (q := 113) (r := q + 1) lg_RX9_9 (by decide) hq rfl hc dX9_person_110 rfl ?_
      refine ap_bipush (q := 115) hc dX9_person_113 rfl bc_50 ?_
      refine ap_iconst (q := 116) hc dX9_person_115 rfl ic_4 ?_
      refine ap_iload (q := 118) hc dX9_person_116 rfl 1 rfl ?_
      refine ap_imul (q := 119) hc dX9_person_118 rfl ?_
      refine ap_iadd (q := 120) hc dX9_person_119 rfl ?_
      refine ap_iload (q := 122) hc dX9_person_120 rfl 2 rfl ?_
      refine ap_iadd (q := 123) hc dX9_person_122 rfl ?_
      refine ap_iconst (q := 124) hc dX9_person_123 rfl ic_0 ?_
      obtain ⟨g_5, h⟩ := h
      obtain ⟨M_6, eM_6, h⟩ := ap_nm h
      refine ap_iast (q := 125) (ty_9_1 hq) (tn_9_1 hq) g_5 eM_6 hc dX9_person_124 rfl ?_
      obtain ⟨x5_7, ex5_7, h⟩ := ap_nm h
      refine ap_iinc (q := 128) (lo2 := [(5, .int x5_7), (0, .ref (ap_ad g q)), (4, .int x4)]) hc dX9_person_125 rfl 2 rfl (by rw [ex5_7]; rfl) (by decide) rfl ?_
      refine ap_goto (q := 103) hc dX9_person_128 (by decide) ?_
      exact ap_sub [1, 2, 0] rfl (ih _ _ _ h)
def w_X9_person   (q : Nat) (x1 : Int32) (x2 : Int32) (x3 : Int32) (M : ap_Mem) (K : Int32 → ap_Mem → Prop) : Prop :=
w_X9_in x1 0 6 M (fun r_1 M_2 => (if r_1 = 0 then (K (-1) M_2) else (w_X9_isCell x3 M_2 (fun r_4 M_5 => (if r_4 = 0 then (K (-1) M_5) else (w_X9_in x2 0 9 M_5 (fun r_7 M_8 => (if r_7 = 0 then (K (-2) M_8) else (vp_in 30 936 ∧ (if (M_8 (q + 1) (30 : Int32).toNatClampNeg) = 6 then (K (-4) M_8) else (vp_in 30 936 ∧ ∀ x4_13 : Int32, x4_13 = M_8 (q + 1) (30 : Int32).toNatClampNeg → vp_in (38 + x4_13) 936 ∧ ∀ M_15 : ap_Mem, M_15 = ap_mu M_8 (q + 1) (38 + x4_13).toNatClampNeg x1 → vp_in (44 + x4_13) 936 ∧ ∀ M_17 : ap_Mem, M_17 = ap_mu M_15 (q + 1) (44 + x4_13).toNatClampNeg x2 → vp_in (18 + x4_13) 936 ∧ ∀ M_19 : ap_Mem, M_19 = ap_mu M_17 (q + 1) (18 + x4_13).toNatClampNeg x3 → vp_in (24 + x4_13) 936 ∧ ∀ M_21 : ap_Mem, M_21 = ap_mu M_19 (q + 1) (24 + x4_13).toNatClampNeg 0 → w_X9_person_103   q K 4096 x4_13 0 M_21)))))))))))
theorem bl_X9_person_0 {x : ap_X} {g : ap_G} (hc : ap_Cx x g cX9_person RX9 6) {K : Int32 → ap_Mem → Prop} (hz : ap_Ends x g 2 (some .int) (ap_Qi K))   {q : Nat} (hq : ap_kd q = 9)   {x1 : Int32} {x2 : Int32} {x3 : Int32} {M : ap_Mem}  (h : w_X9_person   q x1 x2 x3 M K) : ap_V x g 6 0 [(0, .ref (ap_ad g q)), (1, .int x1), (2, .int x2), (3, .int x3)] [] M := by
  have hg := hc.2.2.2.2.2.2.2.1
  unfold w_X9_person at h
  refine ap_iload_n (q := 1) hc dX9_person_0 rfl rfl 1 rfl ?_
  refine ap_iconst (q := 2) hc dX9_person_1 rfl ic_0 ?_
  refine ap_bipush (q := 4) hc dX9_person_2 rfl bc_6 ?_
  refine ap_callS (q := 7) (As := [.int x1, .int 0, .int 6]) hc (ok_X9_in hg  h) ml_RX9_35 lk_X9_in ls_X9_in (ap_RmE hz (by decide)) rfl rfl (Nat.le_of_ble_eq_true rfl) dX9_person_4 rfl (ap_ki (fun r_1 M_2 h => ?_))
  refine ap_if_eq (q := 10) (tgt := 17) hc dX9_person_7 rfl (by decide) (fun z_3 => ?_) (fun z_3 => ?_)
  · have h := Eq.mp (if_pos z_3) h
    refine ap_iconst (q := 18) hc dX9_person_17 rfl ic_m1 ?_
    exact ap_iret hc hz rfl dX9_person_18 h
  · have h := Eq.mp (if_neg z_3) h
    refine ap_iload_n (q := 11) hc dX9_person_10 rfl rfl 3 rfl ?_
    refine ap_callS (q := 14) (As := [.int x3]) hc (ok_X9_isCell hg  h) ml_RX9_132 lk_X9_isCell ls_X9_isCell (ap_RmE hz (by decide)) rfl rfl (Nat.le_of_ble_eq_true rfl) dX9_person_11 rfl (ap_ki (fun r_4 M_5 h => ?_))
    refine ap_if_ne (q := 17) (tgt := 19) hc dX9_person_14 rfl (by decide) (fun z_6 => ?_) (fun z_6 => ?_)
    · have h := Eq.mp (if_neg z_6) h
      refine ap_iload_n (q := 20) hc dX9_person_19 rfl rfl 2 rfl ?_
      refine ap_iconst (q := 21) hc dX9_person_20 rfl ic_0 ?_
      refine ap_bipush (q := 23) hc dX9_person_21 rfl bc_9 ?_
      refine ap_callS (q := 26) (As := [.int x2, .int 0, .int 9]) hc (ok_X9_in hg  h) ml_RX9_35 lk_X9_in ls_X9_in (ap_RmE hz (by decide)) rfl rfl (Nat.le_of_ble_eq_true rfl) dX9_person_23 rfl (ap_ki (fun r_7 M_8 h => ?_))
      refine ap_if_ne (q := 29) (tgt := 32) hc dX9_person_26 rfl (by decide) (fun z_9 => ?_) (fun z_9 => ?_)
      · have h := Eq.mp (if_neg z_9) h
        refine ap_aload_n (q := 33) hc dX9_person_32 rfl rfl 0 rfl ?_
        refine ap_getR (q := 36) (r := q + 1) lg_RX9_9 (by decide) hq rfl hc dX9_person_33 rfl ?_
        refine ap_bipush (q := 38) hc dX9_person_36 rfl bc_30 ?_
        obtain ⟨g_10, h⟩ := h
        refine ap_iald (q := 39) (ty_9_1 hq) (tn_9_1 hq) g_10 hc dX9_person_38 rfl ?_
        refine ap_bipush (q := 41) hc dX9_person_39 rfl bc_6 ?_
        refine ap_icmp_ne (q := 44) (tgt := 47) hc dX9_person_41 rfl (by decide) (fun z_11 => ?_) (fun z_11 => ?_)
        · have h := Eq.mp (if_neg z_11) h
          refine ap_aload_n (q := 48) hc dX9_person_47 rfl rfl 0 rfl ?_
          refine ap_getR (q := 51) (r := q + 1) lg_RX9_9 (by decide) hq rfl hc dX9_person_48 rfl ?_
          refine ap_bipush (q := 53) hc dX9_person_51 rfl bc_30 ?_
          obtain ⟨g_12, h⟩ := h
          refine ap_iald (q := 54) (ty_9_1 hq) (tn_9_1 hq) g_12 hc dX9_person_53 rfl ?_
          obtain ⟨x4_13, ex4_13, h⟩ := ap_nm h
          refine ap_istore (q := 56) (lo2 := [(4, .int x4_13), (0, .ref (ap_ad g q)), (1, .int x1), (2, .int x2), (3, .int x3)]) hc dX9_person_54 rfl ex4_13 (by decide) rfl ?_
          refine ap_aload_n (q := 57) hc dX9_person_56 rfl rfl 1 rfl ?_
          refine ap_getR (q := 60) (r := q + 1) lg_RX9_9 (by decide) hq rfl hc dX9_person_57 rfl ?_
          refine ap_bipush (q := 62) hc dX9_person_60 rfl bc_38 ?_
          refine ap_iload (q := 64) hc dX9_person_62 rfl 0 rfl ?_
          refine ap_iadd (q := 65) hc dX9_person_64 rfl ?_
          refine ap_iload_n (q := 66) hc dX9_person_65 rfl rfl 2 rfl ?_
          obtain ⟨g_14, h⟩ := h
          obtain ⟨M_15, eM_15, h⟩ := ap_nm h
          refine ap_iast (q := 67) (ty_9_1 hq) (tn_9_1 hq) g_14 eM_15 hc dX9_person_66 rfl ?_
          refine ap_aload_n (q := 68) hc dX9_person_67 rfl rfl 1 rfl ?_
          refine ap_getR (q := 71) (r := q + 1) lg_RX9_9 (by decide) hq rfl hc dX9_person_68 rfl ?_
          refine ap_bipush (q := 73) hc dX9_person_71 rfl bc_44 ?_
          refine ap_iload (q := 75) hc dX9_person_73 rfl 0 rfl ?_
          refine ap_iadd (q := 76) hc dX9_person_75 rfl ?_
          refine ap_iload_n (q := 77) hc dX9_person_76 rfl rfl 3 rfl ?_
          obtain ⟨g_16, h⟩ := h
          obtain ⟨M_17, eM_17, h⟩ := ap_nm h
          refine ap_iast (q := 78) (ty_9_1 hq) (tn_9_1 hq) g_16 eM_17 hc dX9_person_77 rfl ?_
          refine ap_aload_n (q := 79) hc dX9_person_78 rfl rfl 1 rfl ?_
          refine ap_getR (q := 82) (r := q + 1) lg_RX9_9 (by decide) hq rfl hc dX9_person_79 rfl ?_
          refine ap_bipush (q := 84) hc dX9_person_82 rfl bc_18 ?_
          refine ap_iload (q := 86) hc dX9_person_84 rfl 0 rfl ?_
          refine ap_iadd (q := 87) hc dX9_person_86 rfl ?_
          refine ap_iload_n (q := 88) hc dX9_person_87 rfl rfl 4 rfl ?_
          obtain ⟨g_18, h⟩ := h
          obtain ⟨M_19, eM_19, h⟩ := ap_nm h
          refine ap_iast (q := 89) (ty_9_1 hq) (tn_9_1 hq) g_18 eM_19 hc dX9_person_88 rfl ?_
          refine ap_aload_n (q := 90) hc dX9_person_89 rfl rfl 1 rfl ?_
          refine ap_getR (q := 93) (r := q + 1) lg_RX9_9 (by decide) hq rfl hc dX9_person_90 rfl ?_
          refine ap_bipush (q := 95) hc dX9_person_93 rfl bc_24 ?_
          refine ap_iload (q := 97) hc dX9_person_95 rfl 0 rfl ?_
          refine ap_iadd (q := 98) hc dX9_person_97 rfl ?_
          refine ap_iconst (q := 99) hc dX9_person_98 rfl ic_0 ?_
          obtain ⟨g_20, h⟩ := h
          obtain ⟨M_21, eM_21, h⟩ := ap_nm h
          refine ap_iast (q := 100) (ty_9_1 hq) (tn_9_1 hq) g_20 eM_21 hc dX9_person_99 rfl ?_
          refine ap_iconst (q := 101) hc dX9_person_100 rfl ic_0 ?_
          refine ap_istore (q := 103) (lo2 := [(5, .int 0), (4, .int x4_13), (0, .ref (ap_ad g q)), (1, .int x1), (2, .int x2), (3, .int x3)]) hc dX9_person_101 rfl rfl (by decide) rfl ?_
          exact ap_sub [2, 1, 0] rfl (bl_X9_person_103 hc hz  hq  _ _ _ _ h)
        · have h := Eq.mp (if_pos z_11) h
          refine ap_bipush (q := 46) hc dX9_person_44 rfl bc_m4 ?_
          exact ap_iret hc hz rfl dX9_person_46 h
      · have h := Eq.mp (if_pos z_9) h
        refine ap_bipush (q := 31) hc dX9_person_29 rfl bc_m2 ?_
        exact ap_iret hc hz rfl dX9_person_31 h
    · have h := Eq.mp (if_pos z_6) h
      refine ap_iconst (q := 18) hc dX9_person_17 rfl ic_m1 ?_
      exact ap_iret hc hz rfl dX9_person_18 h
theorem ok_X9_person {l : Launch} {g : ap_G} (hg : ap_GOK g) {q : Nat} (hq : ap_kd q = 9) {x1 : Int32} {x2 : Int32} {x3 : Int32} {M : ap_Mem} {K : Int32 → ap_Mem → Prop} (h : w_X9_person q x1 x2 x3 M K) : ap_Ct l g yX9_person cX9_person 6 (some .int) 2 [.ref (ap_ad g q), .int x1, .int x2, .int x3] M (ap_Qi K) := by
  refine ap_Ct_of hg (by decide +kernel) (Nat.le_of_ble_eq_true rfl) (fun x hx hc hz => ?_)
  subst hx
  exact bl_X9_person_0 hc hz hq h
def w_X9_of   (q : Nat) (x1 : Int32) (x2 : Int32) (M : ap_Mem) (K : Int32 → ap_Mem → Prop) : Prop :=
w_X9_isPerson q x1 M (fun r_1 M_2 => (if r_1 = 0 then (K (-999999) M_2) else ((if x2 = 0 then (vp_in (38 + x1) 936 ∧ K (M_2 (q + 1) (38 + x1).toNatClampNeg) M_2) else (if x2 = 1 then (vp_in (44 + x1) 936 ∧ K (M_2 (q + 1) (44 + x1).toNatClampNeg) M_2) else (if x2 = 2 then (vp_in (18 + x1) 936 ∧ K (M_2 (q + 1) (18 + x1).toNatClampNeg) M_2) else (if x2 = 3 then (vp_in (24 + x1) 936 ∧ K (M_2 (q + 1) (24 + x1).toNatClampNeg) M_2) else (w_X9_isCell (x2 - 10) M_2 (fun r_12 M_13 => (if r_12 = 0 then (w_X9_isCell (x2 - 30) M_13 (fun r_15 M_16 => (if r_15 = 0 then (K (-999999) M_16) else (w_X9_tugOf q x1 (x2 - 30) M_16 (fun r_18 M_19 => K r_18 M_19))))) else (w_X9_lureOf q x1 (x2 - 10) M_13 (fun r_20 M_21 => K r_20 M_21))))))))))))
theorem bl_X9_of_0 {x : ap_X} {g : ap_G} (hc : ap_Cx x g cX9_of RX9 3) {K : Int32 → ap_Mem → Prop} (hz : ap_Ends x g 4 (some .int) (ap_Qi K))   {q : Nat} (hq : ap_kd q = 9)   {x1 : Int32} {x2 : Int32} {M : ap_Mem}  (h : w_X9_of   q x1 x2 M K) : ap_V x g 3 0 [(0, .ref (ap_ad g q)), (1, .int x1), (2, .int x2)] [] M := by
  have hg := hc.2.2.2.2.2.2.2.1
  unfold w_X9_of at h
  refine ap_aload_n (q := 1) hc dX9_of_0 rfl rfl 0 rfl ?_
  refine ap_iload_n (q := 2) hc dX9_of_1 rfl rfl 1 rfl ?_
  refine ap_callV (q := 5) (As := [.int x1]) hc (ok_X9_isPerson hg hq h) ml_RX9_136 lk_X9_isPerson lv_X9_isPerson hq rfl (ap_RmE hz (by decide)) rfl rfl (Nat.le_of_ble_eq_true rfl) dX9_of_2 rfl (ap_ki (fun r_1 M_2 h => ?_))
  refine ap_if_ne (q := 8) (tgt := 11) hc dX9_of_5 rfl (by decide) (fun z_3 => ?_) (fun z_3 => ?_)
  · have h := Eq.mp (if_neg z_3) h
    refine ap_iload_n (q := 12) hc dX9_of_11 rfl rfl 2 rfl ?_
    by_cases z_4 : x2 = 0
    · have h := Eq.mp (if_pos z_4) h
      refine ap_tabIn (tgt := 44) (off := 32) (v := 0) hc dX9_of_12 z_4 (by decide) (by decide) (by decide +kernel) (by decide) ?_
      refine ap_aload_n (q := 45) hc dX9_of_44 rfl rfl 0 rfl ?_
      refine ap_getR (q := 48) (r := q + 1) lg_RX9_9 (by decide) hq rfl hc dX9_of_45 rfl ?_
      refine ap_bipush (q := 50) hc dX9_of_48 rfl bc_38 ?_
      refine ap_iload_n (q := 51) hc dX9_of_50 rfl rfl 1 rfl ?_
      refine ap_iadd (q := 52) hc dX9_of_51 rfl ?_
      obtain ⟨g_5, h⟩ := h
      refine ap_iald (q := 53) (ty_9_1 hq) (tn_9_1 hq) g_5 hc dX9_of_52 rfl ?_
      exact ap_iret hc hz rfl dX9_of_53 h
    · have h := Eq.mp (if_neg z_4) h
      by_cases z_6 : x2 = 1
      · have h := Eq.mp (if_pos z_6) h
        refine ap_tabIn (tgt := 54) (off := 42) (v := 1) hc dX9_of_12 z_6 (by decide) (by decide) (by decide +kernel) (by decide) ?_
        refine ap_aload_n (q := 55) hc dX9_of_54 rfl rfl 0 rfl ?_
        refine ap_getR (q := 58) (r := q + 1) lg_RX9_9 (by decide) hq rfl hc dX9_of_55 rfl ?_
        refine ap_bipush (q := 60) hc dX9_of_58 rfl bc_44 ?_
        refine ap_iload_n (q := 61) hc dX9_of_60 rfl rfl 1 rfl ?_
        refine ap_iadd (q := 62) hc dX9_of_61 rfl ?_
        obtain ⟨g_7, h⟩ := h
        refine ap_iald (q := 63) (ty_9_1 hq) (tn_9_1 hq) g_7 hc dX9_of_62 rfl ?_
        exact ap_iret hc hz rfl dX9_of_63 h
      · have h := Eq.mp (if_neg z_6) h
        by_cases z_8 : x2 = 2
        · have h := Eq.mp (if_pos z_8) h
          refine ap_tabIn (tgt := 64) (off := 52) (v := 2) hc dX9_of_12 z_8 (by decide) (by decide) (by decide +kernel) (by decide) ?_
          refine ap_aload_n (q := 65) hc dX9_of_64 rfl rfl 0 rfl ?_
          refine ap_getR (q := 68) (r := q + 1) lg_RX9_9 (by decide) hq rfl hc dX9_of_65 rfl ?_
          refine ap_bipush (q := 70) hc dX9_of_68 rfl bc_18 ?_
          refine ap_iload_n (q := 71) hc dX9_of_70 rfl rfl 1 rfl ?_
          refine ap_iadd (q := 72) hc dX9_of_71 rfl ?_
          obtain ⟨g_9, h⟩ := h
          refine ap_iald (q := 73) (ty_9_1 hq) (tn_9_1 hq) g_9 hc dX9_of_72 rfl ?_
          exact ap_iret hc hz rfl dX9_of_73 h
        · have h := Eq.mp (if_neg z_8) h
          by_cases z_10 : x2 = 3
          · have h := Eq.mp (if_pos z_10) h
            refine ap_tabIn (tgt := 74) (off := 62) (v := 3) hc dX9_of_12 z_10 (by decide) (by decide) (by decide +kernel) (by decide) ?_
            refine ap_aload_n (q := 75) hc dX9_of_74 rfl rfl 0 rfl ?_
            refine ap_getR (q := 78) (r := q + 1) lg_RX9_9 (by decide) hq rfl hc dX9_of_75 rfl ?_
            refine ap_bipush (q := 80) hc dX9_of_78 rfl bc_24 ?_
            refine ap_iload_n (q := 81) hc dX9_of_80 rfl rfl 1 rfl ?_
            refine ap_iadd (q := 82) hc dX9_of_81 rfl ?_
            obtain ⟨g_11, h⟩ := h
            refine ap_iald (q := 83) (ty_9_1 hq) (tn_9_1 hq) g_11 hc dX9_of_82 rfl ?_
            exact ap_iret hc hz rfl dX9_of_83 h
          · have h := Eq.mp (if_neg z_10) h
            refine ap_tabOut (tgt := 84) hc dX9_of_12 (ap_tabNo 4 (by decide) (by decide) (by decide) (fun j hj hjj => ?_)) (by decide) ?_
            · rcases (by omega : j = 0 ∨ j = 1 ∨ j = 2 ∨ j = 3) with rfl | rfl | rfl | rfl
              · exact z_4
              · exact z_6
              · exact z_8
              · exact z_10
            refine ap_iload_n (q := 85) hc dX9_of_84 rfl rfl 2 rfl ?_
            refine ap_bipush (q := 87) hc dX9_of_85 rfl bc_10 ?_
            refine ap_isub (q := 88) hc dX9_of_87 rfl ?_
            refine ap_callS (q := 91) (As := [.int (x2 - 10)]) hc (ok_X9_isCell hg  h) ml_RX9_132 lk_X9_isCell ls_X9_isCell (ap_RmE hz (by decide)) rfl rfl (Nat.le_of_ble_eq_true rfl) dX9_of_88 rfl (ap_ki (fun r_12 M_13 h => ?_))
            refine ap_if_eq (q := 94) (tgt := 106) hc dX9_of_91 rfl (by decide) (fun z_14 => ?_) (fun z_14 => ?_)
            · have h := Eq.mp (if_pos z_14) h
              refine ap_iload_n (q := 107) hc dX9_of_106 rfl rfl 2 rfl ?_
              refine ap_bipush (q := 109) hc dX9_of_107 rfl bc_30 ?_
              refine ap_isub (q := 110) hc dX9_of_109 rfl ?_
              refine ap_callS (q := 113) (As := [.int (x2 - 30)]) hc (ok_X9_isCell hg  h) ml_RX9_132 lk_X9_isCell ls_X9_isCell (ap_RmE hz (by decide)) rfl rfl (Nat.le_of_ble_eq_true rfl) dX9_of_110 rfl (ap_ki (fun r_15 M_16 h => ?_))
              refine ap_if_eq (q := 116) (tgt := 128) hc dX9_of_113 rfl (by decide) (fun z_17 => ?_) (fun z_17 => ?_)
              · have h := Eq.mp (if_pos z_17) h
                refine ap_ldc (q := 130) hc dX9_of_128 rfl ct_RX9_139 ?_
                exact ap_iret hc hz rfl dX9_of_130 h
              · have h := Eq.mp (if_neg z_17) h
                refine ap_aload_n (q := 117) hc dX9_of_116 rfl rfl 0 rfl ?_
                refine ap_iload_n (q := 118) hc dX9_of_117 rfl rfl 1 rfl ?_
                refine ap_iload_n (q := 119) hc dX9_of_118 rfl rfl 2 rfl ?_
                refine ap_bipush (q := 121) hc dX9_of_119 rfl bc_30 ?_
                refine ap_isub (q := 122) hc dX9_of_121 rfl ?_
                refine ap_callV (q := 125) (As := [.int x1, .int (x2 - 30)]) hc (ok_X9_tugOf hg hq h) ml_RX9_129 lk_X9_tugOf lv_X9_tugOf hq rfl (ap_RmE hz (by decide)) rfl rfl (Nat.le_of_ble_eq_true rfl) dX9_of_122 rfl (ap_ki (fun r_18 M_19 h => ?_))
                refine ap_goto (q := 130) hc dX9_of_125 (by decide) ?_
                exact ap_iret hc hz rfl dX9_of_130 h
            · have h := Eq.mp (if_neg z_14) h
              refine ap_aload_n (q := 95) hc dX9_of_94 rfl rfl 0 rfl ?_
              refine ap_iload_n (q := 96) hc dX9_of_95 rfl rfl 1 rfl ?_
              refine ap_iload_n (q := 97) hc dX9_of_96 rfl rfl 2 rfl ?_
              refine ap_bipush (q := 99) hc dX9_of_97 rfl bc_10 ?_
              refine ap_isub (q := 100) hc dX9_of_99 rfl ?_
              refine ap_callV (q := 103) (As := [.int x1, .int (x2 - 10)]) hc (ok_X9_lureOf hg hq h) ml_RX9_126 lk_X9_lureOf lv_X9_lureOf hq rfl (ap_RmE hz (by decide)) rfl rfl (Nat.le_of_ble_eq_true rfl) dX9_of_100 rfl (ap_ki (fun r_20 M_21 h => ?_))
              refine ap_goto (q := 130) hc dX9_of_103 (by decide) ?_
              exact ap_iret hc hz rfl dX9_of_130 h
  · have h := Eq.mp (if_pos z_3) h
    refine ap_ldc (q := 10) hc dX9_of_8 rfl ct_RX9_139 ?_
    exact ap_iret hc hz rfl dX9_of_10 h
theorem ok_X9_of {l : Launch} {g : ap_G} (hg : ap_GOK g) {q : Nat} (hq : ap_kd q = 9) {x1 : Int32} {x2 : Int32} {M : ap_Mem} {K : Int32 → ap_Mem → Prop} (h : w_X9_of q x1 x2 M K) : ap_Ct l g yX9_of cX9_of 3 (some .int) 4 [.ref (ap_ad g q), .int x1, .int x2] M (ap_Qi K) := by
  refine ap_Ct_of hg (by decide +kernel) (Nat.le_of_ble_eq_true rfl) (fun x hx hc hz => ?_)
  subst hx
  exact bl_X9_of_0 hc hz hq h
def w_X9_line   (q : Nat) (x1 : Int32) (x2 : Int32) (x3 : Int32) (M : ap_Mem) (K : Int32 → ap_Mem → Prop) : Prop :=
w_X9_isPerson q x1 M (fun r_1 M_2 => (if r_1 = 0 then (K (-1) M_2) else (w_X9_in x2 0 3 M_2 (fun r_4 M_5 => (if r_4 = 0 then (K (-1) M_5) else (w_X9_in x3 0 9 M_5 (fun r_7 M_8 => (if r_7 = 0 then (K (-2) M_8) else (vp_in (38 + x1) 936 ∧ (if (M_8 (q + 1) (38 + x1).toNatClampNeg) = 6 then (vp_in ((50 + (4 * x1)) + x2) 936 ∧ ∀ x4_13 : Int32, x4_13 = M_8 (q + 1) ((50 + (4 * x1)) + x2).toNatClampNeg → vp_in ((50 + (4 * x1)) + x2) 936 ∧ ∀ M_15 : ap_Mem, M_15 = ap_mu M_8 (q + 1) ((50 + (4 * x1)) + x2).toNatClampNeg x3 → K x4_13 M_15) else (K (-3) M_8)))))))))))
theorem bl_X9_line_0 {x : ap_X} {g : ap_G} (hc : ap_Cx x g cX9_line RX9 5) {K : Int32 → ap_Mem → Prop} (hz : ap_Ends x g 2 (some .int) (ap_Qi K))   {q : Nat} (hq : ap_kd q = 9)   {x1 : Int32} {x2 : Int32} {x3 : Int32} {M : ap_Mem}  (h : w_X9_line   q x1 x2 x3 M K) : ap_V x g 5 0 [(0, .ref (ap_ad g q)), (1, .int x1), (2, .int x2), (3, .int x3)] [] M := by
  have hg := hc.2.2.2.2.2.2.2.1
  unfold w_X9_line at h
  refine ap_aload_n (q := 1) hc dX9_line_0 rfl rfl 0 rfl ?_
  refine ap_iload_n (q := 2) hc dX9_line_1 rfl rfl 1 rfl ?_
  refine ap_callV (q := 5) (As := [.int x1]) hc (ok_X9_isPerson hg hq h) ml_RX9_136 lk_X9_isPerson lv_X9_isPerson hq rfl (ap_RmE hz (by decide)) rfl rfl (Nat.le_of_ble_eq_true rfl) dX9_line_2 rfl (ap_ki (fun r_1 M_2 h => ?_))
  refine ap_if_eq (q := 8) (tgt := 17) hc dX9_line_5 rfl (by decide) (fun z_3 => ?_) (fun z_3 => ?_)
  · have h := Eq.mp (if_pos z_3) h
    refine ap_iconst (q := 18) hc dX9_line_17 rfl ic_m1 ?_
    exact ap_iret hc hz rfl dX9_line_18 h
  · have h := Eq.mp (if_neg z_3) h
    refine ap_iload_n (q := 9) hc dX9_line_8 rfl rfl 2 rfl ?_
    refine ap_iconst (q := 10) hc dX9_line_9 rfl ic_0 ?_
    refine ap_iconst (q := 11) hc dX9_line_10 rfl ic_3 ?_
    refine ap_callS (q := 14) (As := [.int x2, .int 0, .int 3]) hc (ok_X9_in hg  h) ml_RX9_35 lk_X9_in ls_X9_in (ap_RmE hz (by decide)) rfl rfl (Nat.le_of_ble_eq_true rfl) dX9_line_11 rfl (ap_ki (fun r_4 M_5 h => ?_))
    refine ap_if_ne (q := 17) (tgt := 19) hc dX9_line_14 rfl (by decide) (fun z_6 => ?_) (fun z_6 => ?_)
    · have h := Eq.mp (if_neg z_6) h
      refine ap_iload_n (q := 20) hc dX9_line_19 rfl rfl 3 rfl ?_
      refine ap_iconst (q := 21) hc dX9_line_20 rfl ic_0 ?_
      refine ap_bipush (q := 23) hc dX9_line_21 rfl bc_9 ?_
      refine ap_callS (q := 26) (As := [.int x3, .int 0, .int 9]) hc (ok_X9_in hg  h) ml_RX9_35 lk_X9_in ls_X9_in (ap_RmE hz (by decide)) rfl rfl (Nat.le_of_ble_eq_true rfl) dX9_line_23 rfl (ap_ki (fun r_7 M_8 h => ?_))
      refine ap_if_ne (q := 29) (tgt := 32) hc dX9_line_26 rfl (by decide) (fun z_9 => ?_) (fun z_9 => ?_)
      · have h := Eq.mp (if_neg z_9) h
        refine ap_aload_n (q := 33) hc dX9_line_32 rfl rfl 0 rfl ?_
        refine ap_getR (q := 36) (r := q + 1) lg_RX9_9 (by decide) hq rfl hc dX9_line_33 rfl ?_
        refine ap_bipush (q := 38) hc dX9_line_36 rfl bc_38 ?_
        refine ap_iload_n (q := 39) hc dX9_line_38 rfl rfl 1 rfl ?_
        refine ap_iadd (q := 40) hc dX9_line_39 rfl ?_
        obtain ⟨g_10, h⟩ := h
        refine ap_iald (q := 41) (ty_9_1 hq) (tn_9_1 hq) g_10 hc dX9_line_40 rfl ?_
        refine ap_bipush (q := 43) hc dX9_line_41 rfl bc_6 ?_
        refine ap_icmp_eq (q := 46) (tgt := 49) hc dX9_line_43 rfl (by decide) (fun z_11 => ?_) (fun z_11 => ?_)
        · have h := Eq.mp (if_pos z_11) h
          refine ap_aload_n (q := 50) hc dX9_line_49 rfl rfl 0 rfl ?_
          refine ap_getR (q := 53) (r := q + 1) lg_RX9_9 (by decide) hq rfl hc dX9_line_50 rfl ?_
          refine ap_bipush (q := 55) hc dX9_line_53 rfl bc_50 ?_
          refine ap_iconst (q := 56) hc dX9_line_55 rfl ic_4 ?_
          refine ap_iload_n (q := 57) hc dX9_line_56 rfl rfl 1 rfl ?_
          refine ap_imul (q := 58) hc dX9_line_57 rfl ?_
          refine ap_iadd (q := 59) hc dX9_line_58 rfl ?_
          refine ap_iload_n (q := 60) hc dX9_line_59 rfl rfl 2 rfl ?_
          refine ap_iadd (q := 61) hc dX9_line_60 rfl ?_
          obtain ⟨g_12, h⟩ := h
          refine ap_iald (q := 62) (ty_9_1 hq) (tn_9_1 hq) g_12 hc dX9_line_61 rfl ?_
          obtain ⟨x4_13, ex4_13, h⟩ := ap_nm h
          refine ap_istore (q := 64) (lo2 := [(4, .int x4_13), (0, .ref (ap_ad g q)), (1, .int x1), (2, .int x2), (3, .int x3)]) hc dX9_line_62 rfl ex4_13 (by decide) rfl ?_
          refine ap_aload_n (q := 65) hc dX9_line_64 rfl rfl 1 rfl ?_
          refine ap_getR (q := 68) (r := q + 1) lg_RX9_9 (by decide) hq rfl hc dX9_line_65 rfl ?_
          refine ap_bipush (q := 70) hc dX9_line_68 rfl bc_50 ?_
          refine ap_iconst (q := 71) hc dX9_line_70 rfl ic_4 ?_
          refine ap_iload_n (q := 72) hc dX9_line_71 rfl rfl 2 rfl ?_
          refine ap_imul (q := 73) hc dX9_line_72 rfl ?_
          refine ap_iadd (q := 74) hc dX9_line_73 rfl ?_
          refine ap_iload_n (q := 75) hc dX9_line_74 rfl rfl 3 rfl ?_
          refine ap_iadd (q := 76) hc dX9_line_75 rfl ?_
          refine ap_iload_n (q := 77) hc dX9_line_76 rfl rfl 4 rfl ?_
          obtain ⟨g_14, h⟩ := h
          obtain ⟨M_15, eM_15, h⟩ := ap_nm h
          refine ap_iast (q := 78) (ty_9_1 hq) (tn_9_1 hq) g_14 eM_15 hc dX9_line_77 rfl ?_
          refine ap_iload (q := 80) hc dX9_line_78 rfl 0 rfl ?_
          exact ap_iret hc hz rfl dX9_line_80 h
        · have h := Eq.mp (if_neg z_11) h
          refine ap_bipush (q := 48) hc dX9_line_46 rfl bc_m3 ?_
          exact ap_iret hc hz rfl dX9_line_48 h
      · have h := Eq.mp (if_pos z_9) h
        refine ap_bipush (q := 31) hc dX9_line_29 rfl bc_m2 ?_
        exact ap_iret hc hz rfl dX9_line_31 h
    · have h := Eq.mp (if_pos z_6) h
      refine ap_iconst (q := 18) hc dX9_line_17 rfl ic_m1 ?_
      exact ap_iret hc hz rfl dX9_line_18 h
theorem ok_X9_line {l : Launch} {g : ap_G} (hg : ap_GOK g) {q : Nat} (hq : ap_kd q = 9) {x1 : Int32} {x2 : Int32} {x3 : Int32} {M : ap_Mem} {K : Int32 → ap_Mem → Prop} (h : w_X9_line q x1 x2 x3 M K) : ap_Ct l g yX9_line cX9_line 5 (some .int) 2 [.ref (ap_ad g q), .int x1, .int x2, .int x3] M (ap_Qi K) := by
  refine ap_Ct_of hg (by decide +kernel) (Nat.le_of_ble_eq_true rfl) (fun x hx hc hz => ?_)
  subst hx
  exact bl_X9_line_0 hc hz hq h
def w_X9_becomes   (q : Nat) (x1 : Int32) (x2 : Int32) (M : ap_Mem) (K : Int32 → ap_Mem → Prop) : Prop :=
vp_in x1 936 ∧ ∀ x3_2 : Int32, x3_2 = M (q + 1) x1.toNatClampNeg → vp_in x1 936 ∧ ∀ M_4 : ap_Mem, M_4 = ap_mu M (q + 1) x1.toNatClampNeg x2 → K x3_2 M_4
theorem bl_X9_becomes_0 {x : ap_X} {g : ap_G} (hc : ap_Cx x g cX9_becomes RX9 4) {K : Int32 → ap_Mem → Prop} (hz : ap_Ends x g 0 (some .int) (ap_Qi K))   {q : Nat} (hq : ap_kd q = 9)   {x1 : Int32} {x2 : Int32} {M : ap_Mem}  (h : w_X9_becomes   q x1 x2 M K) : ap_V x g 4 0 [(0, .ref (ap_ad g q)), (1, .int x1), (2, .int x2)] [] M := by
  unfold w_X9_becomes at h
  refine ap_aload_n (q := 1) hc dX9_becomes_0 rfl rfl 0 rfl ?_
  refine ap_getR (q := 4) (r := q + 1) lg_RX9_9 (by decide) hq rfl hc dX9_becomes_1 rfl ?_
  refine ap_iload_n (q := 5) hc dX9_becomes_4 rfl rfl 1 rfl ?_
  obtain ⟨g_1, h⟩ := h
  refine ap_iald (q := 6) (ty_9_1 hq) (tn_9_1 hq) g_1 hc dX9_becomes_5 rfl ?_
  obtain ⟨x3_2, ex3_2, h⟩ := ap_nm h
  refine ap_istore_n (q := 7) (lo2 := [(3, .int x3_2), (0, .ref (ap_ad g q)), (1, .int x1), (2, .int x2)]) hc dX9_becomes_6 rfl rfl ex3_2 (by decide) rfl ?_
  refine ap_aload_n (q := 8) hc dX9_becomes_7 rfl rfl 1 rfl ?_
  refine ap_getR (q := 11) (r := q + 1) lg_RX9_9 (by decide) hq rfl hc dX9_becomes_8 rfl ?_
  refine ap_iload_n (q := 12) hc dX9_becomes_11 rfl rfl 2 rfl ?_
  refine ap_iload_n (q := 13) hc dX9_becomes_12 rfl rfl 3 rfl ?_
  obtain ⟨g_3, h⟩ := h
  obtain ⟨M_4, eM_4, h⟩ := ap_nm h
  refine ap_iast (q := 14) (ty_9_1 hq) (tn_9_1 hq) g_3 eM_4 hc dX9_becomes_13 rfl ?_
  refine ap_iload_n (q := 15) hc dX9_becomes_14 rfl rfl 0 rfl ?_
  exact ap_iret hc hz rfl dX9_becomes_15 h
theorem ok_X9_becomes {l : Launch} {g : ap_G} (hg : ap_GOK g) {q : Nat} (hq : ap_kd q = 9) {x1 : Int32} {x2 : Int32} {M : ap_Mem} {K : Int32 → ap_Mem → Prop} (h : w_X9_becomes q x1 x2 M K) : ap_Ct l g yX9_becomes cX9_becomes 4 (some .int) 0 [.ref (ap_ad g q), .int x1, .int x2] M (ap_Qi K) := by
  refine ap_Ct_of hg (by decide +kernel) (Nat.le_of_ble_eq_true rfl) (fun x hx hc hz => ?_)
  subst hx
  exact bl_X9_becomes_0 hc hz hq h
def w_X9_move   (q : Nat) (x1 : Int32) (x2 : Int32) (M : ap_Mem) (K : Int32 → ap_Mem → Prop) : Prop :=
w_X9_isPerson q x1 M (fun r_1 M_2 => (if r_1 = 0 then (K (-1) M_2) else (w_X9_isCell x2 M_2 (fun r_4 M_5 => (if r_4 = 0 then (K (-1) M_5) else (w_X9_becomes q (18 + x1) x2 M_5 (fun r_7 M_8 => K r_7 M_8)))))))
theorem bl_X9_move_0 {x : ap_X} {g : ap_G} (hc : ap_Cx x g cX9_move RX9 3) {K : Int32 → ap_Mem → Prop} (hz : ap_Ends x g 2 (some .int) (ap_Qi K))   {q : Nat} (hq : ap_kd q = 9)   {x1 : Int32} {x2 : Int32} {M : ap_Mem}  (h : w_X9_move   q x1 x2 M K) : ap_V x g 3 0 [(0, .ref (ap_ad g q)), (1, .int x1), (2, .int x2)] [] M := by
  have hg := hc.2.2.2.2.2.2.2.1
  unfold w_X9_move at h
  refine ap_aload_n (q := 1) hc dX9_move_0 rfl rfl 0 rfl ?_
  refine ap_iload_n (q := 2) hc dX9_move_1 rfl rfl 1 rfl ?_
  refine ap_callV (q := 5) (As := [.int x1]) hc (ok_X9_isPerson hg hq h) ml_RX9_136 lk_X9_isPerson lv_X9_isPerson hq rfl (ap_RmE hz (by decide)) rfl rfl (Nat.le_of_ble_eq_true rfl) dX9_move_2 rfl (ap_ki (fun r_1 M_2 h => ?_))
  refine ap_if_eq (q := 8) (tgt := 27) hc dX9_move_5 rfl (by decide) (fun z_3 => ?_) (fun z_3 => ?_)
  · have h := Eq.mp (if_pos z_3) h
    refine ap_iconst (q := 28) hc dX9_move_27 rfl ic_m1 ?_
    exact ap_iret hc hz rfl dX9_move_28 h
  · have h := Eq.mp (if_neg z_3) h
    refine ap_iload_n (q := 9) hc dX9_move_8 rfl rfl 2 rfl ?_
    refine ap_callS (q := 12) (As := [.int x2]) hc (ok_X9_isCell hg  h) ml_RX9_132 lk_X9_isCell ls_X9_isCell (ap_RmE hz (by decide)) rfl rfl (Nat.le_of_ble_eq_true rfl) dX9_move_9 rfl (ap_ki (fun r_4 M_5 h => ?_))
    refine ap_if_eq (q := 15) (tgt := 27) hc dX9_move_12 rfl (by decide) (fun z_6 => ?_) (fun z_6 => ?_)
    · have h := Eq.mp (if_pos z_6) h
      refine ap_iconst (q := 28) hc dX9_move_27 rfl ic_m1 ?_
      exact ap_iret hc hz rfl dX9_move_28 h
    · have h := Eq.mp (if_neg z_6) h
      refine ap_aload_n (q := 16) hc dX9_move_15 rfl rfl 0 rfl ?_
      refine ap_bipush (q := 18) hc dX9_move_16 rfl bc_18 ?_
      refine ap_iload_n (q := 19) hc dX9_move_18 rfl rfl 1 rfl ?_
      refine ap_iadd (q := 20) hc dX9_move_19 rfl ?_
      refine ap_iload_n (q := 21) hc dX9_move_20 rfl rfl 2 rfl ?_
      refine ap_callV (q := 24) (As := [.int (18 + x1), .int x2]) hc (ok_X9_becomes hg hq h) ml_RX9_140 lk_X9_becomes lv_X9_becomes hq rfl (ap_RmE hz (by decide)) rfl rfl (Nat.le_of_ble_eq_true rfl) dX9_move_21 rfl (ap_ki (fun r_7 M_8 h => ?_))
      refine ap_goto (q := 28) hc dX9_move_24 (by decide) ?_
      exact ap_iret hc hz rfl dX9_move_28 h
theorem ok_X9_move {l : Launch} {g : ap_G} (hg : ap_GOK g) {q : Nat} (hq : ap_kd q = 9) {x1 : Int32} {x2 : Int32} {M : ap_Mem} {K : Int32 → ap_Mem → Prop} (h : w_X9_move q x1 x2 M K) : ap_Ct l g yX9_move cX9_move 3 (some .int) 2 [.ref (ap_ad g q), .int x1, .int x2] M (ap_Qi K) := by
  refine ap_Ct_of hg (by decide +kernel) (Nat.le_of_ble_eq_true rfl) (fun x hx hc hz => ?_)
  subst hx
  exact bl_X9_move_0 hc hz hq h
def w_X9_away_22   (q : Nat) (s0 : Int32) (s1 : Int32) (M : ap_Mem) (K : Int32 → ap_Mem → Prop) : Prop :=
w_X9_becomes q s1 s0 M (fun r_1 M_2 => K r_1 M_2)
theorem bl_X9_away_22 {x : ap_X} {g : ap_G} (hc : ap_Cx x g cX9_away RX9 3) {K : Int32 → ap_Mem → Prop} (hz : ap_Ends x g 2 (some .int) (ap_Qi K))   {q : Nat} (hq : ap_kd q = 9)   {s0 : Int32} {s1 : Int32} {M : ap_Mem}  (h : w_X9_away_22   q s0 s1 M K) : ap_V x g 3 22 [] [.int s0, .int s1, .ref (ap_ad g q)] M := by
  have hg := hc.2.2.2.2.2.2.2.1
  unfold w_X9_away_22 at h
  refine ap_callV (q := 25) (As := [.int s1, .int s0]) hc (ok_X9_becomes hg hq h) ml_RX9_140 lk_X9_becomes lv_X9_becomes hq rfl (ap_RmE hz (by decide)) rfl rfl (Nat.le_of_ble_eq_true rfl) dX9_away_22 rfl (ap_ki (fun r_1 M_2 h => ?_))
  refine ap_goto (q := 29) hc dX9_away_25 (by decide) ?_
  exact ap_iret hc hz rfl dX9_away_29 h
def w_X9_away   (q : Nat) (x1 : Int32) (x2 : Int32) (M : ap_Mem) (K : Int32 → ap_Mem → Prop) : Prop :=
w_X9_isPerson q x1 M (fun r_1 M_2 => (if r_1 = 0 then (K (-1) M_2) else ((if x2 = 0 then (w_X9_away_22   q 0 (24 + x1) M_2 K) else (w_X9_away_22   q 1 (24 + x1) M_2 K)))))
theorem bl_X9_away_0 {x : ap_X} {g : ap_G} (hc : ap_Cx x g cX9_away RX9 3) {K : Int32 → ap_Mem → Prop} (hz : ap_Ends x g 2 (some .int) (ap_Qi K))   {q : Nat} (hq : ap_kd q = 9)   {x1 : Int32} {x2 : Int32} {M : ap_Mem}  (h : w_X9_away   q x1 x2 M K) : ap_V x g 3 0 [(0, .ref (ap_ad g q)), (1, .int x1), (2, .int x2)] [] M := by
  have hg := hc.2.2.2.2.2.2.2.1
  unfold w_X9_away at h
  refine ap_aload_n (q := 1) hc dX9_away_0 rfl rfl 0 rfl ?_
  refine ap_iload_n (q := 2) hc dX9_away_1 rfl rfl 1 rfl ?_
  refine ap_callV (q := 5) (As := [.int x1]) hc (ok_X9_isPerson hg hq h) ml_RX9_136 lk_X9_isPerson lv_X9_isPerson hq rfl (ap_RmE hz (by decide)) rfl rfl (Nat.le_of_ble_eq_true rfl) dX9_away_2 rfl (ap_ki (fun r_1 M_2 h => ?_))
  refine ap_if_eq (q := 8) (tgt := 28) hc dX9_away_5 rfl (by decide) (fun z_3 => ?_) (fun z_3 => ?_)
  · have h := Eq.mp (if_pos z_3) h
    refine ap_iconst (q := 29) hc dX9_away_28 rfl ic_m1 ?_
    exact ap_iret hc hz rfl dX9_away_29 h
  · have h := Eq.mp (if_neg z_3) h
    refine ap_aload_n (q := 9) hc dX9_away_8 rfl rfl 0 rfl ?_
    refine ap_bipush (q := 11) hc dX9_away_9 rfl bc_24 ?_
    refine ap_iload_n (q := 12) hc dX9_away_11 rfl rfl 1 rfl ?_
    refine ap_iadd (q := 13) hc dX9_away_12 rfl ?_
    refine ap_iload_n (q := 14) hc dX9_away_13 rfl rfl 2 rfl ?_
    refine ap_if_eq (q := 17) (tgt := 21) hc dX9_away_14 rfl (by decide) (fun z_4 => ?_) (fun z_4 => ?_)
    · have h := Eq.mp (if_pos z_4) h
      refine ap_iconst (q := 22) hc dX9_away_21 rfl ic_0 ?_
      exact ap_sub [] rfl (bl_X9_away_22 hc hz  hq   h)
    · have h := Eq.mp (if_neg z_4) h
      refine ap_iconst (q := 18) hc dX9_away_17 rfl ic_1 ?_
      refine ap_goto (q := 22) hc dX9_away_18 (by decide) ?_
      exact ap_sub [] rfl (bl_X9_away_22 hc hz  hq   h)
theorem ok_X9_away {l : Launch} {g : ap_G} (hg : ap_GOK g) {q : Nat} (hq : ap_kd q = 9) {x1 : Int32} {x2 : Int32} {M : ap_Mem} {K : Int32 → ap_Mem → Prop} (h : w_X9_away q x1 x2 M K) : ap_Ct l g yX9_away cX9_away 3 (some .int) 2 [.ref (ap_ad g q), .int x1, .int x2] M (ap_Qi K) := by
  refine ap_Ct_of hg (by decide +kernel) (Nat.le_of_ble_eq_true rfl) (fun x hx hc hz => ?_)
  subst hx
  exact bl_X9_away_0 hc hz hq h
def w_X9_lay   (q : Nat) (x1 : Int32) (M : ap_Mem) (K : Int32 → ap_Mem → Prop) : Prop :=
w_X9_isCell x1 M (fun r_1 M_2 => (if r_1 = 0 then (K (-1) M_2) else (w_X9_becomes q 1 x1 M_2 (fun r_4 M_5 => K r_4 M_5))))
theorem bl_X9_lay_0 {x : ap_X} {g : ap_G} (hc : ap_Cx x g cX9_lay RX9 2) {K : Int32 → ap_Mem → Prop} (hz : ap_Ends x g 2 (some .int) (ap_Qi K))   {q : Nat} (hq : ap_kd q = 9)   {x1 : Int32} {M : ap_Mem}  (h : w_X9_lay   q x1 M K) : ap_V x g 2 0 [(0, .ref (ap_ad g q)), (1, .int x1)] [] M := by
  have hg := hc.2.2.2.2.2.2.2.1
  unfold w_X9_lay at h
  refine ap_iload_n (q := 1) hc dX9_lay_0 rfl rfl 1 rfl ?_
  refine ap_callS (q := 4) (As := [.int x1]) hc (ok_X9_isCell hg  h) ml_RX9_132 lk_X9_isCell ls_X9_isCell (ap_RmE hz (by decide)) rfl rfl (Nat.le_of_ble_eq_true rfl) dX9_lay_1 rfl (ap_ki (fun r_1 M_2 h => ?_))
  refine ap_if_eq (q := 7) (tgt := 16) hc dX9_lay_4 rfl (by decide) (fun z_3 => ?_) (fun z_3 => ?_)
  · have h := Eq.mp (if_pos z_3) h
    refine ap_iconst (q := 17) hc dX9_lay_16 rfl ic_m1 ?_
    exact ap_iret hc hz rfl dX9_lay_17 h
  · have h := Eq.mp (if_neg z_3) h
    refine ap_aload_n (q := 8) hc dX9_lay_7 rfl rfl 0 rfl ?_
    refine ap_iconst (q := 9) hc dX9_lay_8 rfl ic_1 ?_
    refine ap_iload_n (q := 10) hc dX9_lay_9 rfl rfl 1 rfl ?_
    refine ap_callV (q := 13) (As := [.int 1, .int x1]) hc (ok_X9_becomes hg hq h) ml_RX9_140 lk_X9_becomes lv_X9_becomes hq rfl (ap_RmE hz (by decide)) rfl rfl (Nat.le_of_ble_eq_true rfl) dX9_lay_10 rfl (ap_ki (fun r_4 M_5 h => ?_))
    refine ap_goto (q := 17) hc dX9_lay_13 (by decide) ?_
    exact ap_iret hc hz rfl dX9_lay_17 h
theorem ok_X9_lay {l : Launch} {g : ap_G} (hg : ap_GOK g) {q : Nat} (hq : ap_kd q = 9) {x1 : Int32} {M : ap_Mem} {K : Int32 → ap_Mem → Prop} (h : w_X9_lay q x1 M K) : ap_Ct l g yX9_lay cX9_lay 2 (some .int) 2 [.ref (ap_ad g q), .int x1] M (ap_Qi K) := by
  refine ap_Ct_of hg (by decide +kernel) (Nat.le_of_ble_eq_true rfl) (fun x hx hc hz => ?_)
  subst hx
  exact bl_X9_lay_0 hc hz hq h
def w_X9_told   (q : Nat) (x1 : Int32) (M : ap_Mem) (K : Int32 → ap_Mem → Prop) : Prop :=
(if x1 = 0 then (vp_in 0 936 ∧ K (M (q + 1) (0 : Int32).toNatClampNeg) M) else (if x1 = 1 then (w_X9_tellsOf q 226 2 M (fun r_4 M_5 => K r_4 M_5)) else (if x1 = 2 then (vp_in 1 936 ∧ K (M (q + 1) (1 : Int32).toNatClampNeg) M) else (if x1 = 3 then (w_X9_manyLain q M (fun r_9 M_10 => K r_9 M_10)) else (w_X9_isCell (x1 - 10) M (fun r_11 M_12 => (if r_11 = 0 then (w_X9_isCell (x1 - 30) M_12 (fun r_14 M_15 => (if r_14 = 0 then (K (-999999) M_15) else (vp_in ((2 + x1) - 30) 936 ∧ K (M_15 (q + 1) ((2 + x1) - 30).toNatClampNeg) M_15)))) else (w_X9_drawOf q (x1 - 10) M_12 (fun r_18 M_19 => K r_18 M_19)))))))))
theorem bl_X9_told_0 {x : ap_X} {g : ap_G} (hc : ap_Cx x g cX9_told RX9 2) {K : Int32 → ap_Mem → Prop} (hz : ap_Ends x g 5 (some .int) (ap_Qi K))   {q : Nat} (hq : ap_kd q = 9)   {x1 : Int32} {M : ap_Mem}  (h : w_X9_told   q x1 M K) : ap_V x g 2 0 [(0, .ref (ap_ad g q)), (1, .int x1)] [] M := by
  have hg := hc.2.2.2.2.2.2.2.1
  unfold w_X9_told at h
  refine ap_iload_n (q := 1) hc dX9_told_0 rfl rfl 1 rfl ?_
  by_cases z_1 : x1 = 0
  · have h := Eq.mp (if_pos z_1) h
    refine ap_tabIn (tgt := 32) (off := 31) (v := 0) hc dX9_told_1 z_1 (by decide) (by decide) (by decide +kernel) (by decide) ?_
    refine ap_aload_n (q := 33) hc dX9_told_32 rfl rfl 0 rfl ?_
    refine ap_getR (q := 36) (r := q + 1) lg_RX9_9 (by decide) hq rfl hc dX9_told_33 rfl ?_
    refine ap_iconst (q := 37) hc dX9_told_36 rfl ic_0 ?_
    obtain ⟨g_2, h⟩ := h
    refine ap_iald (q := 38) (ty_9_1 hq) (tn_9_1 hq) g_2 hc dX9_told_37 rfl ?_
    exact ap_iret hc hz rfl dX9_told_38 h
  · have h := Eq.mp (if_neg z_1) h
    by_cases z_3 : x1 = 1
    · have h := Eq.mp (if_pos z_3) h
      refine ap_tabIn (tgt := 39) (off := 38) (v := 1) hc dX9_told_1 z_3 (by decide) (by decide) (by decide +kernel) (by decide) ?_
      refine ap_aload_n (q := 40) hc dX9_told_39 rfl rfl 0 rfl ?_
      refine ap_sipush (q := 43) hc dX9_told_40 rfl sc_226 ?_
      refine ap_iconst (q := 44) hc dX9_told_43 rfl ic_2 ?_
      refine ap_callV (q := 47) (As := [.int 226, .int 2]) hc (ok_X9_tellsOf hg hq h) ml_RX9_123 lk_X9_tellsOf lv_X9_tellsOf hq rfl (ap_RmE hz (by decide)) rfl rfl (Nat.le_of_ble_eq_true rfl) dX9_told_44 rfl (ap_ki (fun r_4 M_5 h => ?_))
      exact ap_iret hc hz rfl dX9_told_47 h
    · have h := Eq.mp (if_neg z_3) h
      by_cases z_6 : x1 = 2
      · have h := Eq.mp (if_pos z_6) h
        refine ap_tabIn (tgt := 48) (off := 47) (v := 2) hc dX9_told_1 z_6 (by decide) (by decide) (by decide +kernel) (by decide) ?_
        refine ap_aload_n (q := 49) hc dX9_told_48 rfl rfl 0 rfl ?_
        refine ap_getR (q := 52) (r := q + 1) lg_RX9_9 (by decide) hq rfl hc dX9_told_49 rfl ?_
        refine ap_iconst (q := 53) hc dX9_told_52 rfl ic_1 ?_
        obtain ⟨g_7, h⟩ := h
        refine ap_iald (q := 54) (ty_9_1 hq) (tn_9_1 hq) g_7 hc dX9_told_53 rfl ?_
        exact ap_iret hc hz rfl dX9_told_54 h
      · have h := Eq.mp (if_neg z_6) h
        by_cases z_8 : x1 = 3
        · have h := Eq.mp (if_pos z_8) h
          refine ap_tabIn (tgt := 55) (off := 54) (v := 3) hc dX9_told_1 z_8 (by decide) (by decide) (by decide +kernel) (by decide) ?_
          refine ap_aload_n (q := 56) hc dX9_told_55 rfl rfl 0 rfl ?_
          refine ap_callV (q := 59) (As := []) hc (ok_X9_manyLain hg hq h) ml_RX9_143 lk_X9_manyLain lv_X9_manyLain hq rfl (ap_RmE hz (by decide)) rfl rfl (Nat.le_of_ble_eq_true rfl) dX9_told_56 rfl (ap_ki (fun r_9 M_10 h => ?_))
          exact ap_iret hc hz rfl dX9_told_59 h
        · have h := Eq.mp (if_neg z_8) h
          refine ap_tabOut (tgt := 60) hc dX9_told_1 (ap_tabNo 4 (by decide) (by decide) (by decide) (fun j hj hjj => ?_)) (by decide) ?_
          · rcases (by omega : j = 0 ∨ j = 1 ∨ j = 2 ∨ j = 3) with rfl | rfl | rfl | rfl
            · exact z_1
            · exact z_3
            · exact z_6
            · exact z_8
          refine ap_iload_n (q := 61) hc dX9_told_60 rfl rfl 1 rfl ?_
          refine ap_bipush (q := 63) hc dX9_told_61 rfl bc_10 ?_
          refine ap_isub (q := 64) hc dX9_told_63 rfl ?_
          refine ap_callS (q := 67) (As := [.int (x1 - 10)]) hc (ok_X9_isCell hg  h) ml_RX9_132 lk_X9_isCell ls_X9_isCell (ap_RmE hz (by decide)) rfl rfl (Nat.le_of_ble_eq_true rfl) dX9_told_64 rfl (ap_ki (fun r_11 M_12 h => ?_))
          refine ap_if_eq (q := 70) (tgt := 81) hc dX9_told_67 rfl (by decide) (fun z_13 => ?_) (fun z_13 => ?_)
          · have h := Eq.mp (if_pos z_13) h
            refine ap_iload_n (q := 82) hc dX9_told_81 rfl rfl 1 rfl ?_
            refine ap_bipush (q := 84) hc dX9_told_82 rfl bc_30 ?_
            refine ap_isub (q := 85) hc dX9_told_84 rfl ?_
            refine ap_callS (q := 88) (As := [.int (x1 - 30)]) hc (ok_X9_isCell hg  h) ml_RX9_132 lk_X9_isCell ls_X9_isCell (ap_RmE hz (by decide)) rfl rfl (Nat.le_of_ble_eq_true rfl) dX9_told_85 rfl (ap_ki (fun r_14 M_15 h => ?_))
            refine ap_if_eq (q := 91) (tgt := 105) hc dX9_told_88 rfl (by decide) (fun z_16 => ?_) (fun z_16 => ?_)
            · have h := Eq.mp (if_pos z_16) h
              refine ap_ldc (q := 107) hc dX9_told_105 rfl ct_RX9_139 ?_
              exact ap_iret hc hz rfl dX9_told_107 h
            · have h := Eq.mp (if_neg z_16) h
              refine ap_aload_n (q := 92) hc dX9_told_91 rfl rfl 0 rfl ?_
              refine ap_getR (q := 95) (r := q + 1) lg_RX9_9 (by decide) hq rfl hc dX9_told_92 rfl ?_
              refine ap_iconst (q := 96) hc dX9_told_95 rfl ic_2 ?_
              refine ap_iload_n (q := 97) hc dX9_told_96 rfl rfl 1 rfl ?_
              refine ap_iadd (q := 98) hc dX9_told_97 rfl ?_
              refine ap_bipush (q := 100) hc dX9_told_98 rfl bc_30 ?_
              refine ap_isub (q := 101) hc dX9_told_100 rfl ?_
              obtain ⟨g_17, h⟩ := h
              refine ap_iald (q := 102) (ty_9_1 hq) (tn_9_1 hq) g_17 hc dX9_told_101 rfl ?_
              refine ap_goto (q := 107) hc dX9_told_102 (by decide) ?_
              exact ap_iret hc hz rfl dX9_told_107 h
          · have h := Eq.mp (if_neg z_13) h
            refine ap_aload_n (q := 71) hc dX9_told_70 rfl rfl 0 rfl ?_
            refine ap_iload_n (q := 72) hc dX9_told_71 rfl rfl 1 rfl ?_
            refine ap_bipush (q := 74) hc dX9_told_72 rfl bc_10 ?_
            refine ap_isub (q := 75) hc dX9_told_74 rfl ?_
            refine ap_callV (q := 78) (As := [.int (x1 - 10)]) hc (ok_X9_drawOf hg hq h) ml_RX9_146 lk_X9_drawOf lv_X9_drawOf hq rfl (ap_RmE hz (by decide)) rfl rfl (Nat.le_of_ble_eq_true rfl) dX9_told_75 rfl (ap_ki (fun r_18 M_19 h => ?_))
            refine ap_goto (q := 107) hc dX9_told_78 (by decide) ?_
            exact ap_iret hc hz rfl dX9_told_107 h
theorem ok_X9_told {l : Launch} {g : ap_G} (hg : ap_GOK g) {q : Nat} (hq : ap_kd q = 9) {x1 : Int32} {M : ap_Mem} {K : Int32 → ap_Mem → Prop} (h : w_X9_told q x1 M K) : ap_Ct l g yX9_told cX9_told 2 (some .int) 5 [.ref (ap_ad g q), .int x1] M (ap_Qi K) := by
  refine ap_Ct_of hg (by decide +kernel) (Nat.le_of_ble_eq_true rfl) (fun x hx hc hz => ?_)
  subst hx
  exact bl_X9_told_0 hc hz hq h
def w_X9_goes_91  (kL6 : Int32 → Int32 → Int32 → ap_Mem → Prop) (q : Nat) (x1 : Int32) (x3 : Int32) (s0 : Int32) (M : ap_Mem) (K : ap_Mem → Prop) : Prop :=
∀ x3_1 : Int32, x3_1 = x3 + 1 → kL6 x1 s0 x3_1 M
theorem bl_X9_goes_91 {x : ap_X} {g : ap_G} (hc : ap_Cx x g cX9_goes RX9 6) {K : ap_Mem → Prop} (hz : ap_Ends x g 5 none (ap_Qv K))   {q : Nat} (hq : ap_kd q = 9) {kL6 : Int32 → Int32 → Int32 → ap_Mem → Prop} (hk6 : ∀ (x1 : Int32) (x2 : Int32) (x3 : Int32)  (M : ap_Mem), kL6 x1 x2 x3 M → ap_V x g 6 6 [(0, .ref (ap_ad g q)), (1, .int x1), (2, .int x2), (3, .int x3)] [] M) {x1 : Int32} {x3 : Int32} {s0 : Int32} {M : ap_Mem}  (h : w_X9_goes_91  kL6 q x1 x3 s0 M K) : ap_V x g 6 91 [(0, .ref (ap_ad g q)), (1, .int x1), (3, .int x3)] [.int s0] M := by
  unfold w_X9_goes_91 at h
  refine ap_istore_n (q := 92) (lo2 := [(2, .int s0), (0, .ref (ap_ad g q)), (1, .int x1), (3, .int x3)]) hc dX9_goes_91 rfl rfl rfl (by decide) rfl ?_
  obtain ⟨x3_1, ex3_1, h⟩ := ap_nm h
  refine ap_iinc (q := 95) (lo2 := [(3, .int x3_1), (2, .int s0), (0, .ref (ap_ad g q)), (1, .int x1)]) hc dX9_goes_92 rfl 3 rfl (by rw [ex3_1]; rfl) (by decide) rfl ?_
  refine ap_goto (q := 6) hc dX9_goes_95 (by decide) ?_
  exact ap_sub [2, 3, 1, 0] rfl (hk6 _ _ _ _ h)
def w_X9_goes_79  (kL6 : Int32 → Int32 → Int32 → ap_Mem → Prop) (q : Nat) (x2 : Int32) (x3 : Int32) (x4 : Int32) (x5 : Int32) (s0 : Int32) (M : ap_Mem) (K : ap_Mem → Prop) : Prop :=
(if x5 = 0 then (w_X9_goes_91  kL6 q s0 x3 x2 M K) else (w_X9_goes_91  kL6 q s0 x3 x4 M K))
theorem bl_X9_goes_79 {x : ap_X} {g : ap_G} (hc : ap_Cx x g cX9_goes RX9 6) {K : ap_Mem → Prop} (hz : ap_Ends x g 5 none (ap_Qv K))   {q : Nat} (hq : ap_kd q = 9) {kL6 : Int32 → Int32 → Int32 → ap_Mem → Prop} (hk6 : ∀ (x1 : Int32) (x2 : Int32) (x3 : Int32)  (M : ap_Mem), kL6 x1 x2 x3 M → ap_V x g 6 6 [(0, .ref (ap_ad g q)), (1, .int x1), (2, .int x2), (3, .int x3)] [] M) {x2 : Int32} {x3 : Int32} {x4 : Int32} {x5 : Int32} {s0 : Int32} {M : ap_Mem}  (h : w_X9_goes_79  kL6 q x2 x3 x4 x5 s0 M K) : ap_V x g 6 79 [(0, .ref (ap_ad g q)), (2, .int x2), (3, .int x3), (4, .int x4), (5, .int x5)] [.int s0] M := by
  unfold w_X9_goes_79 at h
  refine ap_istore_n (q := 80) (lo2 := [(1, .int s0), (0, .ref (ap_ad g q)), (2, .int x2), (3, .int x3), (4, .int x4), (5, .int x5)]) hc dX9_goes_79 rfl rfl rfl (by decide) rfl ?_
  refine ap_iload (q := 82) hc dX9_goes_80 rfl 5 rfl ?_
  refine ap_if_eq (q := 85) (tgt := 90) hc dX9_goes_82 rfl (by decide) (fun z_1 => ?_) (fun z_1 => ?_)
  · have h := Eq.mp (if_pos z_1) h
    refine ap_iload_n (q := 91) hc dX9_goes_90 rfl rfl 2 rfl ?_
    exact ap_sub [1, 0, 3] rfl (bl_X9_goes_91 hc hz  hq hk6  h)
  · have h := Eq.mp (if_neg z_1) h
    refine ap_iload (q := 87) hc dX9_goes_85 rfl 4 rfl ?_
    refine ap_goto (q := 91) hc dX9_goes_87 (by decide) ?_
    exact ap_sub [1, 0, 3] rfl (bl_X9_goes_91 hc hz  hq hk6  h)
def w_X9_goes_67  (kL6 : Int32 → Int32 → Int32 → ap_Mem → Prop) (q : Nat) (x1 : Int32) (x2 : Int32) (x3 : Int32) (x4 : Int32) (s0 : Int32) (M : ap_Mem) (K : ap_Mem → Prop) : Prop :=
(if s0 = 0 then (w_X9_goes_79  kL6 q x2 x3 x4 s0 x1 M K) else (w_X9_goes_79  kL6 q x2 x3 x4 s0 x3 M K))
theorem bl_X9_goes_67 {x : ap_X} {g : ap_G} (hc : ap_Cx x g cX9_goes RX9 6) {K : ap_Mem → Prop} (hz : ap_Ends x g 5 none (ap_Qv K))   {q : Nat} (hq : ap_kd q = 9) {kL6 : Int32 → Int32 → Int32 → ap_Mem → Prop} (hk6 : ∀ (x1 : Int32) (x2 : Int32) (x3 : Int32)  (M : ap_Mem), kL6 x1 x2 x3 M → ap_V x g 6 6 [(0, .ref (ap_ad g q)), (1, .int x1), (2, .int x2), (3, .int x3)] [] M) {x1 : Int32} {x2 : Int32} {x3 : Int32} {x4 : Int32} {s0 : Int32} {M : ap_Mem}  (h : w_X9_goes_67  kL6 q x1 x2 x3 x4 s0 M K) : ap_V x g 6 67 [(0, .ref (ap_ad g q)), (1, .int x1), (2, .int x2), (3, .int x3), (4, .int x4)] [.int s0] M := by
  unfold w_X9_goes_67 at h
  refine ap_istore (q := 69) (lo2 := [(5, .int s0), (0, .ref (ap_ad g q)), (1, .int x1), (2, .int x2), (3, .int x3), (4, .int x4)]) hc dX9_goes_67 rfl rfl (by decide) rfl ?_
  refine ap_iload (q := 71) hc dX9_goes_69 rfl 0 rfl ?_
  refine ap_if_eq (q := 74) (tgt := 78) hc dX9_goes_71 rfl (by decide) (fun z_1 => ?_) (fun z_1 => ?_)
  · have h := Eq.mp (if_pos z_1) h
    refine ap_iload_n (q := 79) hc dX9_goes_78 rfl rfl 2 rfl ?_
    exact ap_sub [1, 3, 4, 5, 0] rfl (bl_X9_goes_79 hc hz  hq hk6  h)
  · have h := Eq.mp (if_neg z_1) h
    refine ap_iload_n (q := 75) hc dX9_goes_74 rfl rfl 4 rfl ?_
    refine ap_goto (q := 79) hc dX9_goes_75 (by decide) ?_
    exact ap_sub [1, 3, 4, 5, 0] rfl (bl_X9_goes_79 hc hz  hq hk6  h)
def w_X9_goes_66  (kL6 : Int32 → Int32 → Int32 → ap_Mem → Prop) (q : Nat) (x1 : Int32) (x2 : Int32) (x3 : Int32) (x4 : Int32) (M : ap_Mem) (K : ap_Mem → Prop) : Prop :=
w_X9_goes_67  kL6 q x1 x2 x3 x4 0 M K
theorem bl_X9_goes_66 {x : ap_X} {g : ap_G} (hc : ap_Cx x g cX9_goes RX9 6) {K : ap_Mem → Prop} (hz : ap_Ends x g 5 none (ap_Qv K))   {q : Nat} (hq : ap_kd q = 9) {kL6 : Int32 → Int32 → Int32 → ap_Mem → Prop} (hk6 : ∀ (x1 : Int32) (x2 : Int32) (x3 : Int32)  (M : ap_Mem), kL6 x1 x2 x3 M → ap_V x g 6 6 [(0, .ref (ap_ad g q)), (1, .int x1), (2, .int x2), (3, .int x3)] [] M) {x1 : Int32} {x2 : Int32} {x3 : Int32} {x4 : Int32} {M : ap_Mem}  (h : w_X9_goes_66  kL6 q x1 x2 x3 x4 M K) : ap_V x g 6 66 [(0, .ref (ap_ad g q)), (1, .int x1), (2, .int x2), (3, .int x3), (4, .int x4)] [] M := by
  unfold w_X9_goes_66 at h
  refine ap_iconst (q := 67) hc dX9_goes_66 rfl ic_0 ?_
  exact ap_sub [0, 1, 2, 3, 4] rfl (bl_X9_goes_67 hc hz  hq hk6  h)
def w_X9_goes_62  (kL6 : Int32 → Int32 → Int32 → ap_Mem → Prop) (q : Nat) (x1 : Int32) (x2 : Int32) (x3 : Int32) (x4 : Int32) (M : ap_Mem) (K : ap_Mem → Prop) : Prop :=
w_X9_goes_67  kL6 q x1 x2 x3 x4 1 M K
theorem bl_X9_goes_62 {x : ap_X} {g : ap_G} (hc : ap_Cx x g cX9_goes RX9 6) {K : ap_Mem → Prop} (hz : ap_Ends x g 5 none (ap_Qv K))   {q : Nat} (hq : ap_kd q = 9) {kL6 : Int32 → Int32 → Int32 → ap_Mem → Prop} (hk6 : ∀ (x1 : Int32) (x2 : Int32) (x3 : Int32)  (M : ap_Mem), kL6 x1 x2 x3 M → ap_V x g 6 6 [(0, .ref (ap_ad g q)), (1, .int x1), (2, .int x2), (3, .int x3)] [] M) {x1 : Int32} {x2 : Int32} {x3 : Int32} {x4 : Int32} {M : ap_Mem}  (h : w_X9_goes_62  kL6 q x1 x2 x3 x4 M K) : ap_V x g 6 62 [(0, .ref (ap_ad g q)), (1, .int x1), (2, .int x2), (3, .int x3), (4, .int x4)] [] M := by
  unfold w_X9_goes_62 at h
  refine ap_iconst (q := 63) hc dX9_goes_62 rfl ic_1 ?_
  refine ap_goto (q := 67) hc dX9_goes_63 (by decide) ?_
  exact ap_sub [0, 1, 2, 3, 4] rfl (bl_X9_goes_67 hc hz  hq hk6  h)
def w_X9_goes_35  (kL6 : Int32 → Int32 → Int32 → ap_Mem → Prop) (q : Nat) (x1 : Int32) (x2 : Int32) (x3 : Int32) (s0 : Int32) (M : ap_Mem) (K : ap_Mem → Prop) : Prop :=
vp_in 1 936 ∧ w_X9_far x3 (M (q + 1) (1 : Int32).toNatClampNeg) M (fun r_2 M_3 => (if 2 ≤ r_2 then (w_X9_goes_66  kL6 q x1 x2 x3 s0 M_3 K) else ((if x1 = (-1) then (w_X9_goes_62  kL6 q x1 x2 x3 s0 M_3 K) else ((if s0 ≤ x2 then (w_X9_goes_66  kL6 q x1 x2 x3 s0 M_3 K) else (w_X9_goes_62  kL6 q x1 x2 x3 s0 M_3 K)))))))
theorem bl_X9_goes_35 {x : ap_X} {g : ap_G} (hc : ap_Cx x g cX9_goes RX9 6) {K : ap_Mem → Prop} (hz : ap_Ends x g 5 none (ap_Qv K))   {q : Nat} (hq : ap_kd q = 9) {kL6 : Int32 → Int32 → Int32 → ap_Mem → Prop} (hk6 : ∀ (x1 : Int32) (x2 : Int32) (x3 : Int32)  (M : ap_Mem), kL6 x1 x2 x3 M → ap_V x g 6 6 [(0, .ref (ap_ad g q)), (1, .int x1), (2, .int x2), (3, .int x3)] [] M) {x1 : Int32} {x2 : Int32} {x3 : Int32} {s0 : Int32} {M : ap_Mem}  (h : w_X9_goes_35  kL6 q x1 x2 x3 s0 M K) : ap_V x g 6 35 [(0, .ref (ap_ad g q)), (1, .int x1), (2, .int x2), (3, .int x3)] [.int s0] M := by
  have hg := hc.2.2.2.2.2.2.2.1
  unfold w_X9_goes_35 at h
  refine ap_istore (q := 37) (lo2 := [(4, .int s0), (0, .ref (ap_ad g q)), (1, .int x1), (2, .int x2), (3, .int x3)]) hc dX9_goes_35 rfl rfl (by decide) rfl ?_
  refine ap_iload_n (q := 38) hc dX9_goes_37 rfl rfl 4 rfl ?_
  refine ap_aload_n (q := 39) hc dX9_goes_38 rfl rfl 1 rfl ?_
  refine ap_getR (q := 42) (r := q + 1) lg_RX9_9 (by decide) hq rfl hc dX9_goes_39 rfl ?_
  refine ap_iconst (q := 43) hc dX9_goes_42 rfl ic_1 ?_
  obtain ⟨g_1, h⟩ := h
  refine ap_iald (q := 44) (ty_9_1 hq) (tn_9_1 hq) g_1 hc dX9_goes_43 rfl ?_
  refine ap_callS (q := 47) (As := [.int x3, .int (M (q + 1) (1 : Int32).toNatClampNeg)]) hc (ok_X9_far hg  h) ml_RX9_119 lk_X9_far ls_X9_far (ap_RmE hz (by decide)) rfl rfl (Nat.le_of_ble_eq_true rfl) dX9_goes_44 rfl (ap_ki (fun r_2 M_3 h => ?_))
  refine ap_iconst (q := 48) hc dX9_goes_47 rfl ic_2 ?_
  refine ap_icmp_ge (q := 51) (tgt := 66) hc dX9_goes_48 rfl (by decide) (fun z_4 => ?_) (fun z_4 => ?_)
  · have h := Eq.mp (if_pos z_4) h
    exact ap_sub [1, 2, 3, 4, 0] rfl (bl_X9_goes_66 hc hz  hq hk6  h)
  · have h := Eq.mp (if_neg z_4) h
    refine ap_iload_n (q := 52) hc dX9_goes_51 rfl rfl 2 rfl ?_
    refine ap_iconst (q := 53) hc dX9_goes_52 rfl ic_m1 ?_
    refine ap_icmp_eq (q := 56) (tgt := 62) hc dX9_goes_53 rfl (by decide) (fun z_5 => ?_) (fun z_5 => ?_)
    · have h := Eq.mp (if_pos z_5) h
      exact ap_sub [1, 2, 3, 4, 0] rfl (bl_X9_goes_62 hc hz  hq hk6  h)
    · have h := Eq.mp (if_neg z_5) h
      refine ap_iload (q := 58) hc dX9_goes_56 rfl 0 rfl ?_
      refine ap_iload_n (q := 59) hc dX9_goes_58 rfl rfl 3 rfl ?_
      refine ap_icmp_le (q := 62) (tgt := 66) hc dX9_goes_59 rfl (by decide) (fun z_6 => ?_) (fun z_6 => ?_)
      · have h := Eq.mp (if_pos z_6) h
        exact ap_sub [1, 2, 3, 4, 0] rfl (bl_X9_goes_66 hc hz  hq hk6  h)
      · have h := Eq.mp (if_neg z_6) h
        exact ap_sub [1, 2, 3, 4, 0] rfl (bl_X9_goes_62 hc hz  hq hk6  h)
def w_X9_goes_6_s   (kL6 : Int32 → Int32 → Int32 → ap_Mem → Prop) (q : Nat) (x1 : Int32) (x2 : Int32) (x3 : Int32) (M : ap_Mem) (K : ap_Mem → Prop) : Prop :=
(if 16 ≤ x3 then (vp_in 1 936 ∧ ∀ M_3 : ap_Mem, M_3 = ap_mu M (q + 1) (1 : Int32).toNatClampNeg x1 → vp_in (2 + x1) 936 ∧ vp_in (2 + x1) 936 ∧ ∀ M_6 : ap_Mem, M_6 = ap_mu M_3 (q + 1) (2 + x1).toNatClampNeg ((M_3 (q + 1) (2 + x1).toNatClampNeg) + 1) → vp_in 0 936 ∧ vp_in 0 936 ∧ ∀ M_9 : ap_Mem, M_9 = ap_mu M_6 (q + 1) (0 : Int32).toNatClampNeg ((M_6 (q + 1) (0 : Int32).toNatClampNeg) + 1) → K M_9) else (vp_in 1 936 ∧ w_X9_far x3 (M (q + 1) (1 : Int32).toNatClampNeg) M (fun r_11 M_12 => (if 2 ≤ r_11 then (w_X9_goes_35  kL6 q x1 x2 x3 0 M_12 K) else (w_X9_drawOf q x3 M_12 (fun r_14 M_15 => w_X9_goes_35  kL6 q x1 x2 x3 r_14 M_15 K))))))
def w_X9_goes_6   (q : Nat) (K : ap_Mem → Prop) : Nat → Int32 → Int32 → Int32 → ap_Mem → Prop
  | 0, _, _, _, _ => False
  | n + 1, x1, x2, x3, M => w_X9_goes_6_s   (w_X9_goes_6   q K n) q x1 x2 x3 M K
theorem bl_X9_goes_6 {x : ap_X} {g : ap_G} (hc : ap_Cx x g cX9_goes RX9 6) {K : ap_Mem → Prop} (hz : ap_Ends x g 5 none (ap_Qv K))   {q : Nat} (hq : ap_kd q = 9)   : ∀ (n : Nat) (x1 : Int32) (x2 : Int32) (x3 : Int32) (M : ap_Mem), w_X9_goes_6   q K n x1 x2 x3 M → ap_V x g 6 6 [(0, .ref (ap_ad g q)), (1, .int x1), (2, .int x2), (3, .int x3)] [] M := by
  have hg := hc.2.2.2.2.2.2.2.1
  intro n
  induction n with
  | zero => intro _ _ _ _ h; exact h.elim
  | succ n ih =>
    intro x1 x2 x3 M h
    replace h : w_X9_goes_6_s   (w_X9_goes_6   q K n) q x1 x2 x3 M K := h
    unfold w_X9_goes_6_s at h
    refine ap_iload_n (q := 7) hc dX9_goes_6 rfl rfl 3 rfl ?_
    refine ap_bipush (q := 9) hc dX9_goes_7 rfl bc_16 ?_
    refine ap_icmp_ge (q := 12) (tgt := 98) hc dX9_goes_9 rfl (by decide) (fun z_1 => ?_) (fun z_1 => ?_)
    · have h := Eq.mp (if_pos z_1) h
      refine ap_aload_n (q := 99) hc dX9_goes_98 rfl rfl 0 rfl ?_
      refine ap_getR (q := 102) (r := q + 1) lg_RX9_9 (by decide) hq rfl hc dX9_goes_99 rfl ?_
      refine ap_iconst (q := 103) hc dX9_goes_102 rfl ic_1 ?_
      refine ap_iload_n (q := 104) hc dX9_goes_103 rfl rfl 1 rfl ?_
      obtain ⟨g_2, h⟩ := h
      obtain ⟨M_3, eM_3, h⟩ := ap_nm h
      refine ap_iast (q := 105) (ty_9_1 hq) (tn_9_1 hq) g_2 eM_3 hc dX9_goes_104 rfl ?_
      refine ap_aload_n (q := 106) hc dX9_goes_105 rfl rfl 0 rfl ?_
      refine ap_getR (q := 109) (r := q + 1) lg_RX9_9 (by decide) hq rfl hc dX9_goes_106 rfl ?_
      refine ap_iconst (q := 110) hc dX9_goes_109 rfl ic_2 ?_
      refine ap_iload_n (q := 111) hc dX9_goes_110 rfl rfl 1 rfl ?_
      refine ap_iadd (q := 112) hc dX9_goes_111 rfl ?_
      refine ap_dup2 (q := 113) hc dX9_goes_112 rfl rfl rfl ?_
      obtain ⟨g_4, h⟩ := h
      refine ap_iald (q := 114) (ty_9_1 hq) (tn_9_1 hq) g_4 hc dX9_goes_113 rfl ?_
      refine ap_iconst (q := 115) hc dX9_goes_114 rfl ic_1 ?_
      refine ap_iadd (q := 116) hc dX9_goes_115 rfl ?_
      obtain ⟨g_5, h⟩ := h
      obtain ⟨M_6, eM_6, h⟩ := ap_nm h
      refine ap_iast (q := 117) (ty_9_1 hq) (tn_9_1 hq) g_5 eM_6 hc dX9_goes_116 rfl ?_
      refine ap_aload_n (q := 118) hc dX9_goes_117 rfl rfl 0 rfl ?_
      refine ap_getR (q := 121) (r := q + 1) lg_RX9_9 (by decide) hq rfl hc dX9_goes_118 rfl ?_
      refine ap_iconst (q := 122) hc dX9_goes_121 rfl ic_0 ?_
      refine ap_dup2 (q := 123) hc dX9_goes_122 rfl rfl rfl ?_
      obtain ⟨g_7, h⟩ := h
      refine ap_iald (q := 124) (ty_9_1 hq) (tn_9_1 hq) g_7 hc dX9_goes_123 rfl ?_
      refine ap_iconst (q := 125) hc dX9_goes_124 rfl ic_1 ?_
      refine ap_iadd (q := 126) hc dX9_goes_125 rfl ?_
      obtain ⟨g_8, h⟩ := h
      obtain ⟨M_9, eM_9, h⟩ := ap_nm h
      refine ap_iast (q := 127) (ty_9_1 hq) (tn_9_1 hq) g_8 eM_9 hc dX9_goes_126 rfl ?_
      exact ap_vret hc hz dX9_goes_127 h
    · have h := Eq.mp (if_neg z_1) h
      refine ap_iload_n (q := 13) hc dX9_goes_12 rfl rfl 3 rfl ?_
      refine ap_aload_n (q := 14) hc dX9_goes_13 rfl rfl 0 rfl ?_
      refine ap_getR (q := 17) (r := q + 1) lg_RX9_9 (by decide) hq rfl hc dX9_goes_14 rfl ?_
      refine ap_iconst (q := 18) hc dX9_goes_17 rfl ic_1 ?_
      obtain ⟨g_10, h⟩ := h
      refine ap_iald (q := 19) (ty_9_1 hq) (tn_9_1 hq) g_10 hc dX9_goes_18 rfl ?_
      refine ap_callS (q := 22) (As := [.int x3, .int (M (q + 1) (1 : Int32).toNatClampNeg)]) hc (ok_X9_far hg  h) ml_RX9_119 lk_X9_far ls_X9_far (ap_RmE hz (by decide)) rfl rfl (Nat.le_of_ble_eq_true rfl) dX9_goes_19 rfl (ap_ki (fun r_11 M_12 h => ?_))
      refine ap_iconst (q := 23) hc dX9_goes_22 rfl ic_2 ?_
      refine ap_icmp_ge (q := 26) (tgt := 34) hc dX9_goes_23 rfl (by decide) (fun z_13 => ?_) (fun z_13 => ?_)
      · have h := Eq.mp (if_pos z_13) h
        refine ap_iconst (q := 35) hc dX9_goes_34 rfl ic_0 ?_
        exact ap_sub [0, 1, 2, 3] rfl (bl_X9_goes_35 hc hz  hq ih  h)
      · have h := Eq.mp (if_neg z_13) h
        refine ap_aload_n (q := 27) hc dX9_goes_26 rfl rfl 0 rfl ?_
        refine ap_iload_n (q := 28) hc dX9_goes_27 rfl rfl 3 rfl ?_
        refine ap_callV (q := 31) (As := [.int x3]) hc (ok_X9_drawOf hg hq h) ml_RX9_146 lk_X9_drawOf lv_X9_drawOf hq rfl (ap_RmE hz (by decide)) rfl rfl (Nat.le_of_ble_eq_true rfl) dX9_goes_28 rfl (ap_ki (fun r_14 M_15 h => ?_))
        refine ap_goto (q := 35) hc dX9_goes_31 (by decide) ?_
        exact ap_sub [0, 1, 2, 3] rfl (bl_X9_goes_35 hc hz  hq ih  h)
def w_X9_goes   (q : Nat)  (M : ap_Mem) (K : ap_Mem → Prop) : Prop :=
w_X9_goes_6   q K 4096 (-1) 0 0 M
theorem bl_X9_goes_0 {x : ap_X} {g : ap_G} (hc : ap_Cx x g cX9_goes RX9 6) {K : ap_Mem → Prop} (hz : ap_Ends x g 5 none (ap_Qv K))   {q : Nat} (hq : ap_kd q = 9)    {M : ap_Mem}  (h : w_X9_goes   q  M K) : ap_V x g 6 0 [(0, .ref (ap_ad g q))] [] M := by
  unfold w_X9_goes at h
  refine ap_iconst (q := 1) hc dX9_goes_0 rfl ic_m1 ?_
  refine ap_istore_n (q := 2) (lo2 := [(1, .int (-1)), (0, .ref (ap_ad g q))]) hc dX9_goes_1 rfl rfl rfl (by decide) rfl ?_
  refine ap_iconst (q := 3) hc dX9_goes_2 rfl ic_0 ?_
  refine ap_istore_n (q := 4) (lo2 := [(2, .int 0), (1, .int (-1)), (0, .ref (ap_ad g q))]) hc dX9_goes_3 rfl rfl rfl (by decide) rfl ?_
  refine ap_iconst (q := 5) hc dX9_goes_4 rfl ic_0 ?_
  refine ap_istore_n (q := 6) (lo2 := [(3, .int 0), (2, .int 0), (1, .int (-1)), (0, .ref (ap_ad g q))]) hc dX9_goes_5 rfl rfl rfl (by decide) rfl ?_
  exact ap_sub [3, 2, 1, 0] rfl (bl_X9_goes_6 hc hz  hq  _ _ _ _ _ h)
theorem ok_X9_goes {l : Launch} {g : ap_G} (hg : ap_GOK g) {q : Nat} (hq : ap_kd q = 9)  {M : ap_Mem} {K : ap_Mem → Prop} (h : w_X9_goes q  M K) : ap_Ct l g yX9_goes cX9_goes 6 none 5 [.ref (ap_ad g q)] M (ap_Qv K) := by
  refine ap_Ct_of hg (by decide +kernel) (Nat.le_of_ble_eq_true rfl) (fun x hx hc hz => ?_)
  subst hx
  exact bl_X9_goes_0 hc hz hq h
def w_X9_goesOn_2_s   (kL2 : Int32 → Int32 → ap_Mem → Prop) (q : Nat) (x1 : Int32) (x2 : Int32) (M : ap_Mem) (K : ap_Mem → Prop) : Prop :=
(if x1 ≤ x2 then (K M) else (w_X9_goes q M (fun M_2 => ∀ x2_3 : Int32, x2_3 = x2 + 1 → kL2 x1 x2_3 M_2)))
def w_X9_goesOn_2   (q : Nat) (K : ap_Mem → Prop) : Nat → Int32 → Int32 → ap_Mem → Prop
  | 0, _, _, _ => False
  | n + 1, x1, x2, M => w_X9_goesOn_2_s   (w_X9_goesOn_2   q K n) q x1 x2 M K
theorem bl_X9_goesOn_2 {x : ap_X} {g : ap_G} (hc : ap_Cx x g cX9_goesOn RX9 3) {K : ap_Mem → Prop} (hz : ap_Ends x g 6 none (ap_Qv K))   {q : Nat} (hq : ap_kd q = 9)   : ∀ (n : Nat) (x1 : Int32) (x2 : Int32) (M : ap_Mem), w_X9_goesOn_2   q K n x1 x2 M → ap_V x g 3 2 [(0, .ref (ap_ad g q)), (1, .int x1), (2, .int x2)] [] M := by
  have hg := hc.2.2.2.2.2.2.2.1
  intro n
  induction n with
  | zero => intro _ _ _ h; exact h.elim
  | succ n ih =>
    intro x1 x2 M h
    replace h : w_X9_goesOn_2_s   (w_X9_goesOn_2   q K n) q x1 x2 M K := h
    unfold w_X9_goesOn_2_s at h
    refine ap_iload_n (q := 3) hc dX9_goesOn_2 rfl rfl 2 rfl ?_
    refine ap_iload_n (q := 4) hc dX9_goesOn_3 rfl rfl 1 rfl ?_
    refine ap_icmp_ge (q := 7) (tgt := 17) hc dX9_goesOn_4 rfl (by decide) (fun z_1 => ?_) (fun z_1 => ?_)
    · have h := Eq.mp (if_pos z_1) h
      exact ap_vret hc hz dX9_goesOn_17 h
    · have h := Eq.mp (if_neg z_1) h
      refine ap_aload_n (q := 8) hc dX9_goesOn_7 rfl rfl 0 rfl ?_
      refine ap_callV (q := 11) (As := []) hc (ok_X9_goes hg hq h) ml_RX9_149 lk_X9_goes lv_X9_goes hq rfl (ap_RmE hz (by decide)) rfl rfl (Nat.le_of_ble_eq_true rfl) dX9_goesOn_8 rfl (ap_kv (fun M_2 h => ?_))
      obtain ⟨x2_3, ex2_3, h⟩ := ap_nm h
      refine ap_iinc (q := 14) (lo2 := [(2, .int x2_3), (0, .ref (ap_ad g q)), (1, .int x1)]) hc dX9_goesOn_11 rfl 2 rfl (by rw [ex2_3]; rfl) (by decide) rfl ?_
      refine ap_goto (q := 2) hc dX9_goesOn_14 (by decide) ?_
      exact ap_sub [1, 2, 0] rfl (ih _ _ _ h)
def w_X9_goesOn   (q : Nat) (x1 : Int32) (M : ap_Mem) (K : ap_Mem → Prop) : Prop :=
w_X9_goesOn_2   q K 4096 x1 0 M
theorem bl_X9_goesOn_0 {x : ap_X} {g : ap_G} (hc : ap_Cx x g cX9_goesOn RX9 3) {K : ap_Mem → Prop} (hz : ap_Ends x g 6 none (ap_Qv K))   {q : Nat} (hq : ap_kd q = 9)   {x1 : Int32} {M : ap_Mem}  (h : w_X9_goesOn   q x1 M K) : ap_V x g 3 0 [(0, .ref (ap_ad g q)), (1, .int x1)] [] M := by
  unfold w_X9_goesOn at h
  refine ap_iconst (q := 1) hc dX9_goesOn_0 rfl ic_0 ?_
  refine ap_istore_n (q := 2) (lo2 := [(2, .int 0), (0, .ref (ap_ad g q)), (1, .int x1)]) hc dX9_goesOn_1 rfl rfl rfl (by decide) rfl ?_
  exact ap_sub [1, 2, 0] rfl (bl_X9_goesOn_2 hc hz  hq  _ _ _ _ h)
theorem ok_X9_goesOn {l : Launch} {g : ap_G} (hg : ap_GOK g) {q : Nat} (hq : ap_kd q = 9) {x1 : Int32} {M : ap_Mem} {K : ap_Mem → Prop} (h : w_X9_goesOn q x1 M K) : ap_Ct l g yX9_goesOn cX9_goesOn 3 none 6 [.ref (ap_ad g q), .int x1] M (ap_Qv K) := by
  refine ap_Ct_of hg (by decide +kernel) (Nat.le_of_ble_eq_true rfl) (fun x hx hc hz => ?_)
  subst hx
  exact bl_X9_goesOn_0 hc hz hq h
def w_X9_pass_82  (kL43 : Int32 → Int32 → Int32 → ap_Mem → Prop) (q : Nat) (x1 : Int32) (x2 : Int32) (x3 : Int32) (s0 : Int32) (s1 : Int32) (M : ap_Mem) (K : Int32 → ap_Mem → Prop) : Prop :=
vp_in s1 936 ∧ ∀ M_2 : ap_Mem, M_2 = ap_mu M (q + 1) s1.toNatClampNeg s0 → ∀ x3_3 : Int32, x3_3 = x3 + 1 → kL43 x1 x2 x3_3 M_2
theorem bl_X9_pass_82 {x : ap_X} {g : ap_G} (hc : ap_Cx x g cX9_pass RX9 4) {K : Int32 → ap_Mem → Prop} (hz : ap_Ends x g 6 (some .int) (ap_Qi K))   {q : Nat} (hq : ap_kd q = 9) {kL43 : Int32 → Int32 → Int32 → ap_Mem → Prop} (hk43 : ∀ (x1 : Int32) (x2 : Int32) (x3 : Int32)  (M : ap_Mem), kL43 x1 x2 x3 M → ap_V x g 4 43 [(0, .ref (ap_ad g q)), (1, .int x1), (2, .int x2), (3, .int x3)] [] M) {x1 : Int32} {x2 : Int32} {x3 : Int32} {s0 : Int32} {s1 : Int32} {M : ap_Mem}  (h : w_X9_pass_82  kL43 q x1 x2 x3 s0 s1 M K) : ap_V x g 4 82 [(0, .ref (ap_ad g q)), (1, .int x1), (2, .int x2), (3, .int x3)] [.int s0, .int s1, .ref (ap_ad g (q + 1))] M := by
  unfold w_X9_pass_82 at h
  obtain ⟨g_1, h⟩ := h
  obtain ⟨M_2, eM_2, h⟩ := ap_nm h
  refine ap_iast (q := 83) (ty_9_1 hq) (tn_9_1 hq) g_1 eM_2 hc dX9_pass_82 rfl ?_
  obtain ⟨x3_3, ex3_3, h⟩ := ap_nm h
  refine ap_iinc (q := 86) (lo2 := [(3, .int x3_3), (0, .ref (ap_ad g q)), (1, .int x1), (2, .int x2)]) hc dX9_pass_83 rfl 3 rfl (by rw [ex3_3]; rfl) (by decide) rfl ?_
  refine ap_goto (q := 43) hc dX9_pass_86 (by decide) ?_
  exact ap_sub [1, 2, 3, 0] rfl (hk43 _ _ _ _ h)
def w_X9_pass_43_s  (kL32 : Int32 → Int32 → ap_Mem → Prop) (kL43 : Int32 → Int32 → Int32 → ap_Mem → Prop) (q : Nat) (x1 : Int32) (x2 : Int32) (x3 : Int32) (M : ap_Mem) (K : Int32 → ap_Mem → Prop) : Prop :=
(if 16 ≤ x3 then (∀ x2_2 : Int32, x2_2 = x2 + 1 → kL32 x1 x2_2 M) else (vp_in (2 + x3) 936 ∧ (if (M (q + 1) (2 + x3).toNatClampNeg) ≤ 99 then (vp_in (2 + x3) 936 ∧ w_X9_pass_82  kL43 q x1 x2 x3 (M (q + 1) (2 + x3).toNatClampNeg) (2 + x3) M K) else (w_X9_pass_82  kL43 q x1 x2 x3 99 (2 + x3) M K))))
def w_X9_pass_43  (kL32 : Int32 → Int32 → ap_Mem → Prop) (q : Nat) (K : Int32 → ap_Mem → Prop) : Nat → Int32 → Int32 → Int32 → ap_Mem → Prop
  | 0, _, _, _, _ => False
  | n + 1, x1, x2, x3, M => w_X9_pass_43_s  kL32 (w_X9_pass_43  kL32 q K n) q x1 x2 x3 M K
theorem bl_X9_pass_43 {x : ap_X} {g : ap_G} (hc : ap_Cx x g cX9_pass RX9 4) {K : Int32 → ap_Mem → Prop} (hz : ap_Ends x g 6 (some .int) (ap_Qi K))   {q : Nat} (hq : ap_kd q = 9) {kL32 : Int32 → Int32 → ap_Mem → Prop} (hk32 : ∀ (x1 : Int32) (x2 : Int32)  (M : ap_Mem), kL32 x1 x2 M → ap_V x g 4 32 [(0, .ref (ap_ad g q)), (1, .int x1), (2, .int x2)] [] M) : ∀ (n : Nat) (x1 : Int32) (x2 : Int32) (x3 : Int32) (M : ap_Mem), w_X9_pass_43  kL32 q K n x1 x2 x3 M → ap_V x g 4 43 [(0, .ref (ap_ad g q)), (1, .int x1), (2, .int x2), (3, .int x3)] [] M := by
  intro n
  induction n with
  | zero => intro _ _ _ _ h; exact h.elim
  | succ n ih =>
    intro x1 x2 x3 M h
    replace h : w_X9_pass_43_s  kL32 (w_X9_pass_43  kL32 q K n) q x1 x2 x3 M K := h
    unfold w_X9_pass_43_s at h
    refine ap_iload_n (q := 44) hc dX9_pass_43 rfl rfl 3 rfl ?_
    refine ap_bipush (q := 46) hc dX9_pass_44 rfl bc_16 ?_
    refine ap_icmp_ge (q := 49) (tgt := 89) hc dX9_pass_46 rfl (by decide) (fun z_1 => ?_) (fun z_1 => ?_)
    · have h := Eq.mp (if_pos z_1) h
      obtain ⟨x2_2, ex2_2, h⟩ := ap_nm h
      refine ap_iinc (q := 92) (lo2 := [(2, .int x2_2), (0, .ref (ap_ad g q)), (1, .int x1), (3, .int x3)]) hc dX9_pass_89 rfl 2 rfl (by rw [ex2_2]; rfl) (by decide) rfl ?_
      refine ap_goto (q := 32) hc dX9_pass_92 (by decide) ?_
      exact ap_sub [1, 2, 0] rfl (hk32 _ _ _ h)
    · have h := Eq.mp (if_neg z_1) h
      refine ap_aload_n (q := 50) hc dX9_pass_49 rfl rfl 0 rfl ?_
      refine ap_getR (q := 53) (r := q + 1) lg_RX9_9 (by decide) hq rfl hc dX9_pass_50 rfl ?_
      refine ap_iconst (q := 54) hc dX9_pass_53 rfl ic_2 ?_
      refine ap_iload_n (q := 55) hc dX9_pass_54 rfl rfl 3 rfl ?_
      refine ap_iadd (q := 56) hc dX9_pass_55 rfl ?_
      refine ap_aload_n (q := 57) hc dX9_pass_56 rfl rfl 0 rfl ?_
      refine ap_getR (q := 60) (r := q + 1) lg_RX9_9 (by decide) hq rfl hc dX9_pass_57 rfl ?_
      refine ap_iconst (q := 61) hc dX9_pass_60 rfl ic_2 ?_
      refine ap_iload_n (q := 62) hc dX9_pass_61 rfl rfl 3 rfl ?_
      refine ap_iadd (q := 63) hc dX9_pass_62 rfl ?_
      obtain ⟨g_3, h⟩ := h
      refine ap_iald (q := 64) (ty_9_1 hq) (tn_9_1 hq) g_3 hc dX9_pass_63 rfl ?_
      refine ap_bipush (q := 66) hc dX9_pass_64 rfl bc_99 ?_
      refine ap_icmp_le (q := 69) (tgt := 74) hc dX9_pass_66 rfl (by decide) (fun z_4 => ?_) (fun z_4 => ?_)
      · have h := Eq.mp (if_pos z_4) h
        refine ap_aload_n (q := 75) hc dX9_pass_74 rfl rfl 0 rfl ?_
        refine ap_getR (q := 78) (r := q + 1) lg_RX9_9 (by decide) hq rfl hc dX9_pass_75 rfl ?_
        refine ap_iconst (q := 79) hc dX9_pass_78 rfl ic_2 ?_
        refine ap_iload_n (q := 80) hc dX9_pass_79 rfl rfl 3 rfl ?_
        refine ap_iadd (q := 81) hc dX9_pass_80 rfl ?_
        obtain ⟨g_5, h⟩ := h
        refine ap_iald (q := 82) (ty_9_1 hq) (tn_9_1 hq) g_5 hc dX9_pass_81 rfl ?_
        exact ap_sub [0, 1, 2, 3] rfl (bl_X9_pass_82 hc hz  hq ih  h)
      · have h := Eq.mp (if_neg z_4) h
        refine ap_bipush (q := 71) hc dX9_pass_69 rfl bc_99 ?_
        refine ap_goto (q := 82) hc dX9_pass_71 (by decide) ?_
        exact ap_sub [0, 1, 2, 3] rfl (bl_X9_pass_82 hc hz  hq ih  h)
def w_X9_pass_32_s   (kL32 : Int32 → Int32 → ap_Mem → Prop) (q : Nat) (x1 : Int32) (x2 : Int32) (M : ap_Mem) (K : Int32 → ap_Mem → Prop) : Prop :=
(if x1 ≤ x2 then (vp_in 1 936 ∧ K (M (q + 1) (1 : Int32).toNatClampNeg) M) else (w_X9_goes q M (fun M_3 => w_X9_pass_43  kL32 q K 4096 x1 x2 0 M_3)))
def w_X9_pass_32   (q : Nat) (K : Int32 → ap_Mem → Prop) : Nat → Int32 → Int32 → ap_Mem → Prop
  | 0, _, _, _ => False
  | n + 1, x1, x2, M => w_X9_pass_32_s   (w_X9_pass_32   q K n) q x1 x2 M K
theorem bl_X9_pass_32 {x : ap_X} {g : ap_G} (hc : ap_Cx x g cX9_pass RX9 4) {K : Int32 → ap_Mem → Prop} (hz : ap_Ends x g 6 (some .int) (ap_Qi K))   {q : Nat} (hq : ap_kd q = 9)   : ∀ (n : Nat) (x1 : Int32) (x2 : Int32) (M : ap_Mem), w_X9_pass_32   q K n x1 x2 M → ap_V x g 4 32 [(0, .ref (ap_ad g q)), (1, .int x1), (2, .int x2)] [] M := by
  have hg := hc.2.2.2.2.2.2.2.1
  intro n
  induction n with
  | zero => intro _ _ _ h; exact h.elim
  | succ n ih =>
    intro x1 x2 M h
    replace h : w_X9_pass_32_s   (w_X9_pass_32   q K n) q x1 x2 M K := h
    unfold w_X9_pass_32_s at h
    refine ap_iload_n (q := 33) hc dX9_pass_32 rfl rfl 2 rfl ?_
    refine ap_iload_n (q := 34) hc dX9_pass_33 rfl rfl 1 rfl ?_
    refine ap_icmp_ge (q := 37) (tgt := 95) hc dX9_pass_34 rfl (by decide) (fun z_1 => ?_) (fun z_1 => ?_)
    · have h := Eq.mp (if_pos z_1) h
      refine ap_aload_n (q := 96) hc dX9_pass_95 rfl rfl 0 rfl ?_
      refine ap_getR (q := 99) (r := q + 1) lg_RX9_9 (by decide) hq rfl hc dX9_pass_96 rfl ?_
      refine ap_iconst (q := 100) hc dX9_pass_99 rfl ic_1 ?_
      obtain ⟨g_2, h⟩ := h
      refine ap_iald (q := 101) (ty_9_1 hq) (tn_9_1 hq) g_2 hc dX9_pass_100 rfl ?_
      exact ap_iret hc hz rfl dX9_pass_101 h
    · have h := Eq.mp (if_neg z_1) h
      refine ap_aload_n (q := 38) hc dX9_pass_37 rfl rfl 0 rfl ?_
      refine ap_callV (q := 41) (As := []) hc (ok_X9_goes hg hq h) ml_RX9_149 lk_X9_goes lv_X9_goes hq rfl (ap_RmE hz (by decide)) rfl rfl (Nat.le_of_ble_eq_true rfl) dX9_pass_38 rfl (ap_kv (fun M_3 h => ?_))
      refine ap_iconst (q := 42) hc dX9_pass_41 rfl ic_0 ?_
      refine ap_istore_n (q := 43) (lo2 := [(3, .int 0), (0, .ref (ap_ad g q)), (1, .int x1), (2, .int x2)]) hc dX9_pass_42 rfl rfl rfl (by decide) rfl ?_
      exact ap_sub [1, 2, 3, 0] rfl (bl_X9_pass_43 hc hz  hq ih _ _ _ _ _ h)
def w_X9_pass   (q : Nat) (x1 : Int32) (M : ap_Mem) (K : Int32 → ap_Mem → Prop) : Prop :=
w_X9_in x1 0 60 M (fun r_1 M_2 => (if r_1 = 0 then (K (-2) M_2) else (vp_in 0 936 ∧ (if ((M_2 (q + 1) (0 : Int32).toNatClampNeg) + x1) ≤ 9999 then (w_X9_pass_32   q K 4096 x1 0 M_2) else (K (-3) M_2)))))
theorem bl_X9_pass_0 {x : ap_X} {g : ap_G} (hc : ap_Cx x g cX9_pass RX9 4) {K : Int32 → ap_Mem → Prop} (hz : ap_Ends x g 6 (some .int) (ap_Qi K))   {q : Nat} (hq : ap_kd q = 9)   {x1 : Int32} {M : ap_Mem}  (h : w_X9_pass   q x1 M K) : ap_V x g 4 0 [(0, .ref (ap_ad g q)), (1, .int x1)] [] M := by
  have hg := hc.2.2.2.2.2.2.2.1
  unfold w_X9_pass at h
  refine ap_iload_n (q := 1) hc dX9_pass_0 rfl rfl 1 rfl ?_
  refine ap_iconst (q := 2) hc dX9_pass_1 rfl ic_0 ?_
  refine ap_bipush (q := 4) hc dX9_pass_2 rfl bc_60 ?_
  refine ap_callS (q := 7) (As := [.int x1, .int 0, .int 60]) hc (ok_X9_in hg  h) ml_RX9_35 lk_X9_in ls_X9_in (ap_RmE hz (by decide)) rfl rfl (Nat.le_of_ble_eq_true rfl) dX9_pass_4 rfl (ap_ki (fun r_1 M_2 h => ?_))
  refine ap_if_ne (q := 10) (tgt := 13) hc dX9_pass_7 rfl (by decide) (fun z_3 => ?_) (fun z_3 => ?_)
  · have h := Eq.mp (if_neg z_3) h
    refine ap_aload_n (q := 14) hc dX9_pass_13 rfl rfl 0 rfl ?_
    refine ap_getR (q := 17) (r := q + 1) lg_RX9_9 (by decide) hq rfl hc dX9_pass_14 rfl ?_
    refine ap_iconst (q := 18) hc dX9_pass_17 rfl ic_0 ?_
    obtain ⟨g_4, h⟩ := h
    refine ap_iald (q := 19) (ty_9_1 hq) (tn_9_1 hq) g_4 hc dX9_pass_18 rfl ?_
    refine ap_iload_n (q := 20) hc dX9_pass_19 rfl rfl 1 rfl ?_
    refine ap_iadd (q := 21) hc dX9_pass_20 rfl ?_
    refine ap_sipush (q := 24) hc dX9_pass_21 rfl sc_9999 ?_
    refine ap_icmp_le (q := 27) (tgt := 30) hc dX9_pass_24 rfl (by decide) (fun z_5 => ?_) (fun z_5 => ?_)
    · have h := Eq.mp (if_pos z_5) h
      refine ap_iconst (q := 31) hc dX9_pass_30 rfl ic_0 ?_
      refine ap_istore_n (q := 32) (lo2 := [(2, .int 0), (0, .ref (ap_ad g q)), (1, .int x1)]) hc dX9_pass_31 rfl rfl rfl (by decide) rfl ?_
      exact ap_sub [1, 2, 0] rfl (bl_X9_pass_32 hc hz  hq  _ _ _ _ h)
    · have h := Eq.mp (if_neg z_5) h
      refine ap_bipush (q := 29) hc dX9_pass_27 rfl bc_m3 ?_
      exact ap_iret hc hz rfl dX9_pass_29 h
  · have h := Eq.mp (if_pos z_3) h
    refine ap_bipush (q := 12) hc dX9_pass_10 rfl bc_m2 ?_
    exact ap_iret hc hz rfl dX9_pass_12 h
theorem ok_X9_pass {l : Launch} {g : ap_G} (hg : ap_GOK g) {q : Nat} (hq : ap_kd q = 9) {x1 : Int32} {M : ap_Mem} {K : Int32 → ap_Mem → Prop} (h : w_X9_pass q x1 M K) : ap_Ct l g yX9_pass cX9_pass 4 (some .int) 6 [.ref (ap_ad g q), .int x1] M (ap_Qi K) := by
  refine ap_Ct_of hg (by decide +kernel) (Nat.le_of_ble_eq_true rfl) (fun x hx hc hz => ?_)
  subst hx
  exact bl_X9_pass_0 hc hz hq h
def w_X9_on_79   (q : Nat) (s0 : Int32) (M : ap_Mem) (K : Int32 → ap_Mem → Prop) : Prop :=
w_X9_goesBack q M (fun M_1 => K s0 M_1)
theorem bl_X9_on_79 {x : ap_X} {g : ap_G} (hc : ap_Cx x g cX9_on RX9 4) {K : Int32 → ap_Mem → Prop} (hz : ap_Ends x g 7 (some .int) (ap_Qi K))   {q : Nat} (hq : ap_kd q = 9)   {s0 : Int32} {M : ap_Mem}  (h : w_X9_on_79   q s0 M K) : ap_V x g 4 79 [(0, .ref (ap_ad g q))] [.int s0] M := by
  have hg := hc.2.2.2.2.2.2.2.1
  unfold w_X9_on_79 at h
  refine ap_istore_n (q := 80) (lo2 := [(3, .int s0), (0, .ref (ap_ad g q))]) hc dX9_on_79 rfl rfl rfl (by decide) rfl ?_
  refine ap_aload_n (q := 81) hc dX9_on_80 rfl rfl 1 rfl ?_
  refine ap_callV (q := 84) (As := []) hc (ok_X9_goesBack hg hq h) ml_RX9_158 lk_X9_goesBack lv_X9_goesBack hq rfl (ap_RmE hz (by decide)) rfl rfl (Nat.le_of_ble_eq_true rfl) dX9_on_81 rfl (ap_kv (fun M_1 h => ?_))
  refine ap_iload_n (q := 85) hc dX9_on_84 rfl rfl 0 rfl ?_
  exact ap_iret hc hz rfl dX9_on_85 h
def w_X9_on_21   (q : Nat) (x1 : Int32) (x2 : Int32) (M : ap_Mem) (K : Int32 → ap_Mem → Prop) : Prop :=
w_X9_in x1 0 60 M (fun r_1 M_2 => (if r_1 = 0 then (K (-2) M_2) else (w_X9_keeps q M_2 (fun M_4 => w_X9_goesOn q x1 M_4 (fun M_5 => (if x2 = 0 then (vp_in 1 936 ∧ w_X9_on_79   q (M_5 (q + 1) (1 : Int32).toNatClampNeg) M_5 K) else ((if x2 = 1 then (w_X9_manyLain q M_5 (fun r_9 M_10 => w_X9_on_79   q r_9 M_10 K)) else (vp_in ((2 + x2) - 10) 936 ∧ w_X9_on_79   q (M_5 (q + 1) ((2 + x2) - 10).toNatClampNeg) M_5 K)))))))))
theorem bl_X9_on_21 {x : ap_X} {g : ap_G} (hc : ap_Cx x g cX9_on RX9 4) {K : Int32 → ap_Mem → Prop} (hz : ap_Ends x g 7 (some .int) (ap_Qi K))   {q : Nat} (hq : ap_kd q = 9)   {x1 : Int32} {x2 : Int32} {M : ap_Mem}  (h : w_X9_on_21   q x1 x2 M K) : ap_V x g 4 21 [(0, .ref (ap_ad g q)), (1, .int x1), (2, .int x2)] [] M := by
  have hg := hc.2.2.2.2.2.2.2.1
  unfold w_X9_on_21 at h
  refine ap_iload_n (q := 22) hc dX9_on_21 rfl rfl 1 rfl ?_
  refine ap_iconst (q := 23) hc dX9_on_22 rfl ic_0 ?_
  refine ap_bipush (q := 25) hc dX9_on_23 rfl bc_60 ?_
  refine ap_callS (q := 28) (As := [.int x1, .int 0, .int 60]) hc (ok_X9_in hg  h) ml_RX9_35 lk_X9_in ls_X9_in (ap_RmE hz (by decide)) rfl rfl (Nat.le_of_ble_eq_true rfl) dX9_on_25 rfl (ap_ki (fun r_1 M_2 h => ?_))
  refine ap_if_ne (q := 31) (tgt := 34) hc dX9_on_28 rfl (by decide) (fun z_3 => ?_) (fun z_3 => ?_)
  · have h := Eq.mp (if_neg z_3) h
    refine ap_aload_n (q := 35) hc dX9_on_34 rfl rfl 0 rfl ?_
    refine ap_callV (q := 38) (As := []) hc (ok_X9_keeps hg hq h) ml_RX9_152 lk_X9_keeps lv_X9_keeps hq rfl (ap_RmE hz (by decide)) rfl rfl (Nat.le_of_ble_eq_true rfl) dX9_on_35 rfl (ap_kv (fun M_4 h => ?_))
    refine ap_aload_n (q := 39) hc dX9_on_38 rfl rfl 0 rfl ?_
    refine ap_iload_n (q := 40) hc dX9_on_39 rfl rfl 1 rfl ?_
    refine ap_callV (q := 43) (As := [.int x1]) hc (ok_X9_goesOn hg hq h) ml_RX9_155 lk_X9_goesOn lv_X9_goesOn hq rfl (ap_RmE hz (by decide)) rfl rfl (Nat.le_of_ble_eq_true rfl) dX9_on_40 rfl (ap_kv (fun M_5 h => ?_))
    refine ap_iload_n (q := 44) hc dX9_on_43 rfl rfl 2 rfl ?_
    refine ap_if_ne (q := 47) (tgt := 56) hc dX9_on_44 rfl (by decide) (fun z_6 => ?_) (fun z_6 => ?_)
    · have h := Eq.mp (if_neg z_6) h
      refine ap_iload_n (q := 57) hc dX9_on_56 rfl rfl 2 rfl ?_
      refine ap_iconst (q := 58) hc dX9_on_57 rfl ic_1 ?_
      refine ap_icmp_ne (q := 61) (tgt := 68) hc dX9_on_58 rfl (by decide) (fun z_7 => ?_) (fun z_7 => ?_)
      · have h := Eq.mp (if_neg z_7) h
        refine ap_aload_n (q := 69) hc dX9_on_68 rfl rfl 0 rfl ?_
        refine ap_getR (q := 72) (r := q + 1) lg_RX9_9 (by decide) hq rfl hc dX9_on_69 rfl ?_
        refine ap_iconst (q := 73) hc dX9_on_72 rfl ic_2 ?_
        refine ap_iload_n (q := 74) hc dX9_on_73 rfl rfl 2 rfl ?_
        refine ap_iadd (q := 75) hc dX9_on_74 rfl ?_
        refine ap_bipush (q := 77) hc dX9_on_75 rfl bc_10 ?_
        refine ap_isub (q := 78) hc dX9_on_77 rfl ?_
        obtain ⟨g_8, h⟩ := h
        refine ap_iald (q := 79) (ty_9_1 hq) (tn_9_1 hq) g_8 hc dX9_on_78 rfl ?_
        exact ap_sub [0] rfl (bl_X9_on_79 hc hz  hq   h)
      · have h := Eq.mp (if_pos z_7) h
        refine ap_aload_n (q := 62) hc dX9_on_61 rfl rfl 0 rfl ?_
        refine ap_callV (q := 65) (As := []) hc (ok_X9_manyLain hg hq h) ml_RX9_143 lk_X9_manyLain lv_X9_manyLain hq rfl (ap_RmE hz (by decide)) rfl rfl (Nat.le_of_ble_eq_true rfl) dX9_on_62 rfl (ap_ki (fun r_9 M_10 h => ?_))
        refine ap_goto (q := 79) hc dX9_on_65 (by decide) ?_
        exact ap_sub [0] rfl (bl_X9_on_79 hc hz  hq   h)
    · have h := Eq.mp (if_pos z_6) h
      refine ap_aload_n (q := 48) hc dX9_on_47 rfl rfl 0 rfl ?_
      refine ap_getR (q := 51) (r := q + 1) lg_RX9_9 (by decide) hq rfl hc dX9_on_48 rfl ?_
      refine ap_iconst (q := 52) hc dX9_on_51 rfl ic_1 ?_
      obtain ⟨g_11, h⟩ := h
      refine ap_iald (q := 53) (ty_9_1 hq) (tn_9_1 hq) g_11 hc dX9_on_52 rfl ?_
      refine ap_goto (q := 79) hc dX9_on_53 (by decide) ?_
      exact ap_sub [0] rfl (bl_X9_on_79 hc hz  hq   h)
  · have h := Eq.mp (if_pos z_3) h
    refine ap_bipush (q := 33) hc dX9_on_31 rfl bc_m2 ?_
    exact ap_iret hc hz rfl dX9_on_33 h
def w_X9_on   (q : Nat) (x1 : Int32) (x2 : Int32) (M : ap_Mem) (K : Int32 → ap_Mem → Prop) : Prop :=
w_X9_in x2 0 1 M (fun r_1 M_2 => (if r_1 = 0 then (w_X9_isCell (x2 - 10) M_2 (fun r_4 M_5 => (if r_4 = 0 then (K (-1) M_5) else (w_X9_on_21   q x1 x2 M_5 K)))) else (w_X9_on_21   q x1 x2 M_2 K)))
theorem bl_X9_on_0 {x : ap_X} {g : ap_G} (hc : ap_Cx x g cX9_on RX9 4) {K : Int32 → ap_Mem → Prop} (hz : ap_Ends x g 7 (some .int) (ap_Qi K))   {q : Nat} (hq : ap_kd q = 9)   {x1 : Int32} {x2 : Int32} {M : ap_Mem}  (h : w_X9_on   q x1 x2 M K) : ap_V x g 4 0 [(0, .ref (ap_ad g q)), (1, .int x1), (2, .int x2)] [] M := by
  have hg := hc.2.2.2.2.2.2.2.1
  unfold w_X9_on at h
  refine ap_iload_n (q := 1) hc dX9_on_0 rfl rfl 2 rfl ?_
  refine ap_iconst (q := 2) hc dX9_on_1 rfl ic_0 ?_
  refine ap_iconst (q := 3) hc dX9_on_2 rfl ic_1 ?_
  refine ap_callS (q := 6) (As := [.int x2, .int 0, .int 1]) hc (ok_X9_in hg  h) ml_RX9_35 lk_X9_in ls_X9_in (ap_RmE hz (by decide)) rfl rfl (Nat.le_of_ble_eq_true rfl) dX9_on_3 rfl (ap_ki (fun r_1 M_2 h => ?_))
  refine ap_if_ne (q := 9) (tgt := 21) hc dX9_on_6 rfl (by decide) (fun z_3 => ?_) (fun z_3 => ?_)
  · have h := Eq.mp (if_neg z_3) h
    exact ap_sub [0, 1, 2] rfl (bl_X9_on_21 hc hz  hq   h)
  · have h := Eq.mp (if_pos z_3) h
    refine ap_iload_n (q := 10) hc dX9_on_9 rfl rfl 2 rfl ?_
    refine ap_bipush (q := 12) hc dX9_on_10 rfl bc_10 ?_
    refine ap_isub (q := 13) hc dX9_on_12 rfl ?_
    refine ap_callS (q := 16) (As := [.int (x2 - 10)]) hc (ok_X9_isCell hg  h) ml_RX9_132 lk_X9_isCell ls_X9_isCell (ap_RmE hz (by decide)) rfl rfl (Nat.le_of_ble_eq_true rfl) dX9_on_13 rfl (ap_ki (fun r_4 M_5 h => ?_))
    refine ap_if_ne (q := 19) (tgt := 21) hc dX9_on_16 rfl (by decide) (fun z_6 => ?_) (fun z_6 => ?_)
    · have h := Eq.mp (if_neg z_6) h
      exact ap_sub [0, 1, 2] rfl (bl_X9_on_21 hc hz  hq   h)
    · have h := Eq.mp (if_pos z_6) h
      refine ap_iconst (q := 20) hc dX9_on_19 rfl ic_m1 ?_
      exact ap_iret hc hz rfl dX9_on_20 h
theorem ok_X9_on {l : Launch} {g : ap_G} (hg : ap_GOK g) {q : Nat} (hq : ap_kd q = 9) {x1 : Int32} {x2 : Int32} {M : ap_Mem} {K : Int32 → ap_Mem → Prop} (h : w_X9_on q x1 x2 M K) : ap_Ct l g yX9_on cX9_on 4 (some .int) 7 [.ref (ap_ad g q), .int x1, .int x2] M (ap_Qi K) := by
  refine ap_Ct_of hg (by decide +kernel) (Nat.le_of_ble_eq_true rfl) (fun x hx hc hz => ?_)
  subst hx
  exact bl_X9_on_0 hc hz hq h
def w_X9_stepsTo_35  (kL6 : Int32 → Int32 → Int32 → Int32 → ap_Mem → Prop) (q : Nat) (x1 : Int32) (x2 : Int32) (x4 : Int32) (s0 : Int32) (M : ap_Mem) (K : Int32 → ap_Mem → Prop) : Prop :=
w_X9_goes q M (fun M_1 => ∀ x4_2 : Int32, x4_2 = x4 + 1 → kL6 x1 x2 s0 x4_2 M_1)
theorem bl_X9_stepsTo_35 {x : ap_X} {g : ap_G} (hc : ap_Cx x g cX9_stepsTo RX9 5) {K : Int32 → ap_Mem → Prop} (hz : ap_Ends x g 6 (some .int) (ap_Qi K))   {q : Nat} (hq : ap_kd q = 9) {kL6 : Int32 → Int32 → Int32 → Int32 → ap_Mem → Prop} (hk6 : ∀ (x1 : Int32) (x2 : Int32) (x3 : Int32) (x4 : Int32)  (M : ap_Mem), kL6 x1 x2 x3 x4 M → ap_V x g 5 6 [(0, .ref (ap_ad g q)), (1, .int x1), (2, .int x2), (3, .int x3), (4, .int x4)] [] M) {x1 : Int32} {x2 : Int32} {x4 : Int32} {s0 : Int32} {M : ap_Mem}  (h : w_X9_stepsTo_35  kL6 q x1 x2 x4 s0 M K) : ap_V x g 5 35 [(0, .ref (ap_ad g q)), (1, .int x1), (2, .int x2), (4, .int x4)] [.int s0] M := by
  have hg := hc.2.2.2.2.2.2.2.1
  unfold w_X9_stepsTo_35 at h
  refine ap_istore_n (q := 36) (lo2 := [(3, .int s0), (0, .ref (ap_ad g q)), (1, .int x1), (2, .int x2), (4, .int x4)]) hc dX9_stepsTo_35 rfl rfl rfl (by decide) rfl ?_
  refine ap_aload_n (q := 37) hc dX9_stepsTo_36 rfl rfl 1 rfl ?_
  refine ap_callV (q := 40) (As := []) hc (ok_X9_goes hg hq h) ml_RX9_149 lk_X9_goes lv_X9_goes hq rfl (ap_RmE hz (by decide)) rfl rfl (Nat.le_of_ble_eq_true rfl) dX9_stepsTo_37 rfl (ap_kv (fun M_1 h => ?_))
  obtain ⟨x4_2, ex4_2, h⟩ := ap_nm h
  refine ap_iinc (q := 43) (lo2 := [(4, .int x4_2), (3, .int s0), (0, .ref (ap_ad g q)), (1, .int x1), (2, .int x2)]) hc dX9_stepsTo_40 rfl 4 rfl (by rw [ex4_2]; rfl) (by decide) rfl ?_
  refine ap_goto (q := 6) hc dX9_stepsTo_43 (by decide) ?_
  exact ap_sub [2, 3, 4, 1, 0] rfl (hk6 _ _ _ _ _ h)
def w_X9_stepsTo_46   (q : Nat) (x3 : Int32) (M : ap_Mem) (K : Int32 → ap_Mem → Prop) : Prop :=
w_X9_goesBack q M (fun M_1 => K x3 M_1)
theorem bl_X9_stepsTo_46 {x : ap_X} {g : ap_G} (hc : ap_Cx x g cX9_stepsTo RX9 5) {K : Int32 → ap_Mem → Prop} (hz : ap_Ends x g 6 (some .int) (ap_Qi K))   {q : Nat} (hq : ap_kd q = 9)   {x3 : Int32} {M : ap_Mem}  (h : w_X9_stepsTo_46   q x3 M K) : ap_V x g 5 46 [(0, .ref (ap_ad g q)), (3, .int x3)] [] M := by
  have hg := hc.2.2.2.2.2.2.2.1
  unfold w_X9_stepsTo_46 at h
  refine ap_aload_n (q := 47) hc dX9_stepsTo_46 rfl rfl 0 rfl ?_
  refine ap_callV (q := 50) (As := []) hc (ok_X9_goesBack hg hq h) ml_RX9_158 lk_X9_goesBack lv_X9_goesBack hq rfl (ap_RmE hz (by decide)) rfl rfl (Nat.le_of_ble_eq_true rfl) dX9_stepsTo_47 rfl (ap_kv (fun M_1 h => ?_))
  refine ap_iload_n (q := 51) hc dX9_stepsTo_50 rfl rfl 1 rfl ?_
  exact ap_iret hc hz rfl dX9_stepsTo_51 h
def w_X9_stepsTo_6_s   (kL6 : Int32 → Int32 → Int32 → Int32 → ap_Mem → Prop) (q : Nat) (x1 : Int32) (x2 : Int32) (x3 : Int32) (x4 : Int32) (M : ap_Mem) (K : Int32 → ap_Mem → Prop) : Prop :=
(if x2 < x4 then (w_X9_stepsTo_46   q x3 M K) else ((if x3 = 1000000000 then (vp_in 1 936 ∧ (if (M (q + 1) (1 : Int32).toNatClampNeg) = x1 then (w_X9_stepsTo_35  kL6 q x1 x2 x4 x4 M K) else (w_X9_stepsTo_35  kL6 q x1 x2 x4 1000000000 M K))) else (w_X9_stepsTo_46   q x3 M K))))
def w_X9_stepsTo_6   (q : Nat) (K : Int32 → ap_Mem → Prop) : Nat → Int32 → Int32 → Int32 → Int32 → ap_Mem → Prop
  | 0, _, _, _, _, _ => False
  | n + 1, x1, x2, x3, x4, M => w_X9_stepsTo_6_s   (w_X9_stepsTo_6   q K n) q x1 x2 x3 x4 M K
theorem bl_X9_stepsTo_6 {x : ap_X} {g : ap_G} (hc : ap_Cx x g cX9_stepsTo RX9 5) {K : Int32 → ap_Mem → Prop} (hz : ap_Ends x g 6 (some .int) (ap_Qi K))   {q : Nat} (hq : ap_kd q = 9)   : ∀ (n : Nat) (x1 : Int32) (x2 : Int32) (x3 : Int32) (x4 : Int32) (M : ap_Mem), w_X9_stepsTo_6   q K n x1 x2 x3 x4 M → ap_V x g 5 6 [(0, .ref (ap_ad g q)), (1, .int x1), (2, .int x2), (3, .int x3), (4, .int x4)] [] M := by
  intro n
  induction n with
  | zero => intro _ _ _ _ _ h; exact h.elim
  | succ n ih =>
    intro x1 x2 x3 x4 M h
    replace h : w_X9_stepsTo_6_s   (w_X9_stepsTo_6   q K n) q x1 x2 x3 x4 M K := h
    unfold w_X9_stepsTo_6_s at h
    refine ap_iload (q := 8) hc dX9_stepsTo_6 rfl 4 rfl ?_
    refine ap_iload_n (q := 9) hc dX9_stepsTo_8 rfl rfl 2 rfl ?_
    refine ap_icmp_gt (q := 12) (tgt := 46) hc dX9_stepsTo_9 rfl (by decide) (fun z_1 => ?_) (fun z_1 => ?_)
    · have h := Eq.mp (if_pos z_1) h
      exact ap_sub [0, 3] rfl (bl_X9_stepsTo_46 hc hz  hq   h)
    · have h := Eq.mp (if_neg z_1) h
      refine ap_iload_n (q := 13) hc dX9_stepsTo_12 rfl rfl 3 rfl ?_
      refine ap_ldc (q := 15) hc dX9_stepsTo_13 rfl ct_RX9_161 ?_
      refine ap_icmp_ne (q := 18) (tgt := 46) hc dX9_stepsTo_15 rfl (by decide) (fun z_2 => ?_) (fun z_2 => ?_)
      · have h := Eq.mp (if_neg z_2) h
        exact ap_sub [0, 3] rfl (bl_X9_stepsTo_46 hc hz  hq   h)
      · have h := Eq.mp (if_pos z_2) h
        refine ap_aload_n (q := 19) hc dX9_stepsTo_18 rfl rfl 0 rfl ?_
        refine ap_getR (q := 22) (r := q + 1) lg_RX9_9 (by decide) hq rfl hc dX9_stepsTo_19 rfl ?_
        refine ap_iconst (q := 23) hc dX9_stepsTo_22 rfl ic_1 ?_
        obtain ⟨g_3, h⟩ := h
        refine ap_iald (q := 24) (ty_9_1 hq) (tn_9_1 hq) g_3 hc dX9_stepsTo_23 rfl ?_
        refine ap_iload_n (q := 25) hc dX9_stepsTo_24 rfl rfl 1 rfl ?_
        refine ap_icmp_ne (q := 28) (tgt := 33) hc dX9_stepsTo_25 rfl (by decide) (fun z_4 => ?_) (fun z_4 => ?_)
        · have h := Eq.mp (if_neg z_4) h
          refine ap_ldc (q := 35) hc dX9_stepsTo_33 rfl ct_RX9_161 ?_
          exact ap_sub [0, 1, 2, 4] rfl (bl_X9_stepsTo_35 hc hz  hq ih  h)
        · have h := Eq.mp (if_pos z_4) h
          refine ap_iload (q := 30) hc dX9_stepsTo_28 rfl 4 rfl ?_
          refine ap_goto (q := 35) hc dX9_stepsTo_30 (by decide) ?_
          exact ap_sub [0, 1, 2, 4] rfl (bl_X9_stepsTo_35 hc hz  hq ih  h)
def w_X9_stepsTo   (q : Nat) (x1 : Int32) (x2 : Int32) (M : ap_Mem) (K : Int32 → ap_Mem → Prop) : Prop :=
w_X9_stepsTo_6   q K 4096 x1 x2 1000000000 0 M
theorem bl_X9_stepsTo_0 {x : ap_X} {g : ap_G} (hc : ap_Cx x g cX9_stepsTo RX9 5) {K : Int32 → ap_Mem → Prop} (hz : ap_Ends x g 6 (some .int) (ap_Qi K))   {q : Nat} (hq : ap_kd q = 9)   {x1 : Int32} {x2 : Int32} {M : ap_Mem}  (h : w_X9_stepsTo   q x1 x2 M K) : ap_V x g 5 0 [(0, .ref (ap_ad g q)), (1, .int x1), (2, .int x2)] [] M := by
  unfold w_X9_stepsTo at h
  refine ap_ldc (q := 2) hc dX9_stepsTo_0 rfl ct_RX9_161 ?_
  refine ap_istore_n (q := 3) (lo2 := [(3, .int 1000000000), (0, .ref (ap_ad g q)), (1, .int x1), (2, .int x2)]) hc dX9_stepsTo_2 rfl rfl rfl (by decide) rfl ?_
  refine ap_iconst (q := 4) hc dX9_stepsTo_3 rfl ic_0 ?_
  refine ap_istore (q := 6) (lo2 := [(4, .int 0), (3, .int 1000000000), (0, .ref (ap_ad g q)), (1, .int x1), (2, .int x2)]) hc dX9_stepsTo_4 rfl rfl (by decide) rfl ?_
  exact ap_sub [2, 3, 4, 1, 0] rfl (bl_X9_stepsTo_6 hc hz  hq  _ _ _ _ _ _ h)
theorem ok_X9_stepsTo {l : Launch} {g : ap_G} (hg : ap_GOK g) {q : Nat} (hq : ap_kd q = 9) {x1 : Int32} {x2 : Int32} {M : ap_Mem} {K : Int32 → ap_Mem → Prop} (h : w_X9_stepsTo q x1 x2 M K) : ap_Ct l g yX9_stepsTo cX9_stepsTo 5 (some .int) 6 [.ref (ap_ad g q), .int x1, .int x2] M (ap_Qi K) := by
  refine ap_Ct_of hg (by decide +kernel) (Nat.le_of_ble_eq_true rfl) (fun x hx hc hz => ?_)
  subst hx
  exact bl_X9_stepsTo_0 hc hz hq h
def w_X9_finds   (q : Nat) (x1 : Int32) (M : ap_Mem) (K : Int32 → ap_Mem → Prop) : Prop :=
w_X9_isPerson q x1 M (fun r_1 M_2 => (if r_1 = 0 then (K (-1) M_2) else (w_X9_keeps q M_2 (fun M_4 => vp_in (18 + x1) 936 ∧ w_X9_stepsTo q (M_4 (q + 1) (18 + x1).toNatClampNeg) 60 M_4 (fun r_6 M_7 => (if r_6 = 1000000000 then (K (-5) M_7) else (K r_6 M_7)))))))
theorem bl_X9_finds_0 {x : ap_X} {g : ap_G} (hc : ap_Cx x g cX9_finds RX9 3) {K : Int32 → ap_Mem → Prop} (hz : ap_Ends x g 7 (some .int) (ap_Qi K))   {q : Nat} (hq : ap_kd q = 9)   {x1 : Int32} {M : ap_Mem}  (h : w_X9_finds   q x1 M K) : ap_V x g 3 0 [(0, .ref (ap_ad g q)), (1, .int x1)] [] M := by
  have hg := hc.2.2.2.2.2.2.2.1
  unfold w_X9_finds at h
  refine ap_aload_n (q := 1) hc dX9_finds_0 rfl rfl 0 rfl ?_
  refine ap_iload_n (q := 2) hc dX9_finds_1 rfl rfl 1 rfl ?_
  refine ap_callV (q := 5) (As := [.int x1]) hc (ok_X9_isPerson hg hq h) ml_RX9_136 lk_X9_isPerson lv_X9_isPerson hq rfl (ap_RmE hz (by decide)) rfl rfl (Nat.le_of_ble_eq_true rfl) dX9_finds_2 rfl (ap_ki (fun r_1 M_2 h => ?_))
  refine ap_if_ne (q := 8) (tgt := 10) hc dX9_finds_5 rfl (by decide) (fun z_3 => ?_) (fun z_3 => ?_)
  · have h := Eq.mp (if_neg z_3) h
    refine ap_aload_n (q := 11) hc dX9_finds_10 rfl rfl 0 rfl ?_
    refine ap_callV (q := 14) (As := []) hc (ok_X9_keeps hg hq h) ml_RX9_152 lk_X9_keeps lv_X9_keeps hq rfl (ap_RmE hz (by decide)) rfl rfl (Nat.le_of_ble_eq_true rfl) dX9_finds_11 rfl (ap_kv (fun M_4 h => ?_))
    refine ap_aload_n (q := 15) hc dX9_finds_14 rfl rfl 0 rfl ?_
    refine ap_aload_n (q := 16) hc dX9_finds_15 rfl rfl 0 rfl ?_
    refine ap_getR (q := 19) (r := q + 1) lg_RX9_9 (by decide) hq rfl hc dX9_finds_16 rfl ?_
    refine ap_bipush (q := 21) hc dX9_finds_19 rfl bc_18 ?_
    refine ap_iload_n (q := 22) hc dX9_finds_21 rfl rfl 1 rfl ?_
    refine ap_iadd (q := 23) hc dX9_finds_22 rfl ?_
    obtain ⟨g_5, h⟩ := h
    refine ap_iald (q := 24) (ty_9_1 hq) (tn_9_1 hq) g_5 hc dX9_finds_23 rfl ?_
    refine ap_bipush (q := 26) hc dX9_finds_24 rfl bc_60 ?_
    refine ap_callV (q := 29) (As := [.int (M_4 (q + 1) (18 + x1).toNatClampNeg), .int 60]) hc (ok_X9_stepsTo hg hq h) ml_RX9_162 lk_X9_stepsTo lv_X9_stepsTo hq rfl (ap_RmE hz (by decide)) rfl rfl (Nat.le_of_ble_eq_true rfl) dX9_finds_26 rfl (ap_ki (fun r_6 M_7 h => ?_))
    refine ap_istore_n (q := 30) (lo2 := [(2, .int r_6), (0, .ref (ap_ad g q)), (1, .int x1)]) hc dX9_finds_29 rfl rfl rfl (by decide) rfl ?_
    refine ap_iload_n (q := 31) hc dX9_finds_30 rfl rfl 0 rfl ?_
    refine ap_ldc (q := 33) hc dX9_finds_31 rfl ct_RX9_161 ?_
    refine ap_icmp_ne (q := 36) (tgt := 41) hc dX9_finds_33 rfl (by decide) (fun z_8 => ?_) (fun z_8 => ?_)
    · have h := Eq.mp (if_neg z_8) h
      refine ap_iload_n (q := 42) hc dX9_finds_41 rfl rfl 0 rfl ?_
      exact ap_iret hc hz rfl dX9_finds_42 h
    · have h := Eq.mp (if_pos z_8) h
      refine ap_bipush (q := 38) hc dX9_finds_36 rfl bc_m5 ?_
      refine ap_goto (q := 42) hc dX9_finds_38 (by decide) ?_
      exact ap_iret hc hz rfl dX9_finds_42 h
  · have h := Eq.mp (if_pos z_3) h
    refine ap_iconst (q := 9) hc dX9_finds_8 rfl ic_m1 ?_
    exact ap_iret hc hz rfl dX9_finds_9 h
theorem ok_X9_finds {l : Launch} {g : ap_G} (hg : ap_GOK g) {q : Nat} (hq : ap_kd q = 9) {x1 : Int32} {M : ap_Mem} {K : Int32 → ap_Mem → Prop} (h : w_X9_finds q x1 M K) : ap_Ct l g yX9_finds cX9_finds 3 (some .int) 7 [.ref (ap_ad g q), .int x1] M (ap_Qi K) := by
  refine ap_Ct_of hg (by decide +kernel) (Nat.le_of_ble_eq_true rfl) (fun x hx hc hz => ?_)
  subst hx
  exact bl_X9_finds_0 hc hz hq h
def w_X9_soonest_99  (kL28 : Int32 → Int32 → Int32 → Int32 → Int32 → ap_Mem → Prop) (q : Nat) (x1 : Int32) (x2 : Int32) (x3 : Int32) (x5 : Int32) (s0 : Int32) (M : ap_Mem) (K : Int32 → ap_Mem → Prop) : Prop :=
∀ x5_1 : Int32, x5_1 = x5 + 1 → kL28 x1 x2 x3 s0 x5_1 M
theorem bl_X9_soonest_99 {x : ap_X} {g : ap_G} (hc : ap_Cx x g cX9_soonest RX9 7) {K : Int32 → ap_Mem → Prop} (hz : ap_Ends x g 7 (some .int) (ap_Qi K))   {q : Nat} (hq : ap_kd q = 9) {kL28 : Int32 → Int32 → Int32 → Int32 → Int32 → ap_Mem → Prop} (hk28 : ∀ (x1 : Int32) (x2 : Int32) (x3 : Int32) (x4 : Int32) (x5 : Int32)  (M : ap_Mem), kL28 x1 x2 x3 x4 x5 M → ap_V x g 7 28 [(0, .ref (ap_ad g q)), (1, .int x1), (2, .int x2), (3, .int x3), (4, .int x4), (5, .int x5)] [] M) {x1 : Int32} {x2 : Int32} {x3 : Int32} {x5 : Int32} {s0 : Int32} {M : ap_Mem}  (h : w_X9_soonest_99  kL28 q x1 x2 x3 x5 s0 M K) : ap_V x g 7 99 [(0, .ref (ap_ad g q)), (1, .int x1), (2, .int x2), (3, .int x3), (5, .int x5)] [.int s0] M := by
  unfold w_X9_soonest_99 at h
  refine ap_istore (q := 101) (lo2 := [(4, .int s0), (0, .ref (ap_ad g q)), (1, .int x1), (2, .int x2), (3, .int x3), (5, .int x5)]) hc dX9_soonest_99 rfl rfl (by decide) rfl ?_
  obtain ⟨x5_1, ex5_1, h⟩ := ap_nm h
  refine ap_iinc (q := 104) (lo2 := [(5, .int x5_1), (4, .int s0), (0, .ref (ap_ad g q)), (1, .int x1), (2, .int x2), (3, .int x3)]) hc dX9_soonest_101 rfl 5 rfl (by rw [ex5_1]; rfl) (by decide) rfl ?_
  refine ap_goto (q := 28) hc dX9_soonest_104 (by decide) ?_
  exact ap_sub [2, 3, 4, 5, 1, 0] rfl (hk28 _ _ _ _ _ _ h)
def w_X9_soonest_84  (kL28 : Int32 → Int32 → Int32 → Int32 → Int32 → ap_Mem → Prop) (q : Nat) (x1 : Int32) (x2 : Int32) (x4 : Int32) (x5 : Int32) (x6 : Int32) (s0 : Int32) (M : ap_Mem) (K : Int32 → ap_Mem → Prop) : Prop :=
(if x4 ≤ x6 then (w_X9_soonest_99  kL28 q x1 x2 s0 x5 x4 M K) else (w_X9_soonest_99  kL28 q x1 x2 s0 x5 x6 M K))
theorem bl_X9_soonest_84 {x : ap_X} {g : ap_G} (hc : ap_Cx x g cX9_soonest RX9 7) {K : Int32 → ap_Mem → Prop} (hz : ap_Ends x g 7 (some .int) (ap_Qi K))   {q : Nat} (hq : ap_kd q = 9) {kL28 : Int32 → Int32 → Int32 → Int32 → Int32 → ap_Mem → Prop} (hk28 : ∀ (x1 : Int32) (x2 : Int32) (x3 : Int32) (x4 : Int32) (x5 : Int32)  (M : ap_Mem), kL28 x1 x2 x3 x4 x5 M → ap_V x g 7 28 [(0, .ref (ap_ad g q)), (1, .int x1), (2, .int x2), (3, .int x3), (4, .int x4), (5, .int x5)] [] M) {x1 : Int32} {x2 : Int32} {x4 : Int32} {x5 : Int32} {x6 : Int32} {s0 : Int32} {M : ap_Mem}  (h : w_X9_soonest_84  kL28 q x1 x2 x4 x5 x6 s0 M K) : ap_V x g 7 84 [(0, .ref (ap_ad g q)), (1, .int x1), (2, .int x2), (4, .int x4), (5, .int x5), (6, .int x6)] [.int s0] M := by
  unfold w_X9_soonest_84 at h
  refine ap_istore_n (q := 85) (lo2 := [(3, .int s0), (0, .ref (ap_ad g q)), (1, .int x1), (2, .int x2), (4, .int x4), (5, .int x5), (6, .int x6)]) hc dX9_soonest_84 rfl rfl rfl (by decide) rfl ?_
  refine ap_iload (q := 87) hc dX9_soonest_85 rfl 6 rfl ?_
  refine ap_iload (q := 89) hc dX9_soonest_87 rfl 4 rfl ?_
  refine ap_icmp_ge (q := 92) (tgt := 97) hc dX9_soonest_89 rfl (by decide) (fun z_1 => ?_) (fun z_1 => ?_)
  · have h := Eq.mp (if_pos z_1) h
    refine ap_iload (q := 99) hc dX9_soonest_97 rfl 4 rfl ?_
    exact ap_sub [1, 2, 3, 0, 5] rfl (bl_X9_soonest_99 hc hz  hq hk28  h)
  · have h := Eq.mp (if_neg z_1) h
    refine ap_iload (q := 94) hc dX9_soonest_92 rfl 6 rfl ?_
    refine ap_goto (q := 99) hc dX9_soonest_94 (by decide) ?_
    exact ap_sub [1, 2, 3, 0, 5] rfl (bl_X9_soonest_99 hc hz  hq hk28  h)
def w_X9_soonest_65  (kL28 : Int32 → Int32 → Int32 → Int32 → Int32 → ap_Mem → Prop) (q : Nat) (x1 : Int32) (x2 : Int32) (x3 : Int32) (x4 : Int32) (x5 : Int32) (s0 : Int32) (M : ap_Mem) (K : Int32 → ap_Mem → Prop) : Prop :=
w_X9_goesBack q M (fun M_1 => (if x4 ≤ s0 then (w_X9_soonest_84  kL28 q x1 x2 x4 x5 s0 x3 M_1 K) else (w_X9_soonest_84  kL28 q x1 x2 x4 x5 s0 x5 M_1 K)))
theorem bl_X9_soonest_65 {x : ap_X} {g : ap_G} (hc : ap_Cx x g cX9_soonest RX9 7) {K : Int32 → ap_Mem → Prop} (hz : ap_Ends x g 7 (some .int) (ap_Qi K))   {q : Nat} (hq : ap_kd q = 9) {kL28 : Int32 → Int32 → Int32 → Int32 → Int32 → ap_Mem → Prop} (hk28 : ∀ (x1 : Int32) (x2 : Int32) (x3 : Int32) (x4 : Int32) (x5 : Int32)  (M : ap_Mem), kL28 x1 x2 x3 x4 x5 M → ap_V x g 7 28 [(0, .ref (ap_ad g q)), (1, .int x1), (2, .int x2), (3, .int x3), (4, .int x4), (5, .int x5)] [] M) {x1 : Int32} {x2 : Int32} {x3 : Int32} {x4 : Int32} {x5 : Int32} {s0 : Int32} {M : ap_Mem}  (h : w_X9_soonest_65  kL28 q x1 x2 x3 x4 x5 s0 M K) : ap_V x g 7 65 [(0, .ref (ap_ad g q)), (1, .int x1), (2, .int x2), (3, .int x3), (4, .int x4), (5, .int x5)] [.int s0] M := by
  have hg := hc.2.2.2.2.2.2.2.1
  unfold w_X9_soonest_65 at h
  refine ap_istore (q := 67) (lo2 := [(6, .int s0), (0, .ref (ap_ad g q)), (1, .int x1), (2, .int x2), (3, .int x3), (4, .int x4), (5, .int x5)]) hc dX9_soonest_65 rfl rfl (by decide) rfl ?_
  refine ap_aload_n (q := 68) hc dX9_soonest_67 rfl rfl 1 rfl ?_
  refine ap_callV (q := 71) (As := []) hc (ok_X9_goesBack hg hq h) ml_RX9_158 lk_X9_goesBack lv_X9_goesBack hq rfl (ap_RmE hz (by decide)) rfl rfl (Nat.le_of_ble_eq_true rfl) dX9_soonest_68 rfl (ap_kv (fun M_1 h => ?_))
  refine ap_iload (q := 73) hc dX9_soonest_71 rfl 0 rfl ?_
  refine ap_iload (q := 75) hc dX9_soonest_73 rfl 5 rfl ?_
  refine ap_icmp_ge (q := 78) (tgt := 83) hc dX9_soonest_75 rfl (by decide) (fun z_2 => ?_) (fun z_2 => ?_)
  · have h := Eq.mp (if_pos z_2) h
    refine ap_iload_n (q := 84) hc dX9_soonest_83 rfl rfl 4 rfl ?_
    exact ap_sub [1, 2, 3, 5, 6, 0] rfl (bl_X9_soonest_84 hc hz  hq hk28  h)
  · have h := Eq.mp (if_neg z_2) h
    refine ap_iload (q := 80) hc dX9_soonest_78 rfl 6 rfl ?_
    refine ap_goto (q := 84) hc dX9_soonest_80 (by decide) ?_
    exact ap_sub [1, 2, 3, 5, 6, 0] rfl (bl_X9_soonest_84 hc hz  hq hk28  h)
def w_X9_soonest_28_s   (kL28 : Int32 → Int32 → Int32 → Int32 → Int32 → ap_Mem → Prop) (q : Nat) (x1 : Int32) (x2 : Int32) (x3 : Int32) (x4 : Int32) (x5 : Int32) (M : ap_Mem) (K : Int32 → ap_Mem → Prop) : Prop :=
(if 16 ≤ x5 then ((if x3 = (-5) then (K x3 M) else ((if x2 = 0 then (K x3 M) else (K x4 M))))) else (w_X9_keeps q M (fun M_4 => vp_in 1 936 ∧ ∀ M_6 : ap_Mem, M_6 = ap_mu M_4 (q + 1) (1 : Int32).toNatClampNeg x5 → (if x5 = x1 then (w_X9_soonest_65  kL28 q x1 x2 x3 x4 x5 1000000000 M_6 K) else (w_X9_stepsTo q x1 30 M_6 (fun r_8 M_9 => w_X9_soonest_65  kL28 q x1 x2 x3 x4 x5 r_8 M_9 K))))))
def w_X9_soonest_28   (q : Nat) (K : Int32 → ap_Mem → Prop) : Nat → Int32 → Int32 → Int32 → Int32 → Int32 → ap_Mem → Prop
  | 0, _, _, _, _, _, _ => False
  | n + 1, x1, x2, x3, x4, x5, M => w_X9_soonest_28_s   (w_X9_soonest_28   q K n) q x1 x2 x3 x4 x5 M K
theorem bl_X9_soonest_28 {x : ap_X} {g : ap_G} (hc : ap_Cx x g cX9_soonest RX9 7) {K : Int32 → ap_Mem → Prop} (hz : ap_Ends x g 7 (some .int) (ap_Qi K))   {q : Nat} (hq : ap_kd q = 9)   : ∀ (n : Nat) (x1 : Int32) (x2 : Int32) (x3 : Int32) (x4 : Int32) (x5 : Int32) (M : ap_Mem), w_X9_soonest_28   q K n x1 x2 x3 x4 x5 M → ap_V x g 7 28 [(0, .ref (ap_ad g q)), (1, .int x1), (2, .int x2), (3, .int x3), (4, .int x4), (5, .int x5)] [] M := by
  have hg := hc.2.2.2.2.2.2.2.1
  intro n
  induction n with
  | zero => intro _ _ _ _ _ _ h; exact h.elim
  | succ n ih =>
    intro x1 x2 x3 x4 x5 M h
    replace h : w_X9_soonest_28_s   (w_X9_soonest_28   q K n) q x1 x2 x3 x4 x5 M K := h
    unfold w_X9_soonest_28_s at h
    refine ap_iload (q := 30) hc dX9_soonest_28 rfl 5 rfl ?_
    refine ap_bipush (q := 32) hc dX9_soonest_30 rfl bc_16 ?_
    refine ap_icmp_ge (q := 35) (tgt := 107) hc dX9_soonest_32 rfl (by decide) (fun z_1 => ?_) (fun z_1 => ?_)
    · have h := Eq.mp (if_pos z_1) h
      refine ap_iload_n (q := 108) hc dX9_soonest_107 rfl rfl 3 rfl ?_
      refine ap_bipush (q := 110) hc dX9_soonest_108 rfl bc_m5 ?_
      refine ap_icmp_eq (q := 113) (tgt := 117) hc dX9_soonest_110 rfl (by decide) (fun z_2 => ?_) (fun z_2 => ?_)
      · have h := Eq.mp (if_pos z_2) h
        refine ap_iload_n (q := 118) hc dX9_soonest_117 rfl rfl 3 rfl ?_
        refine ap_goto (q := 123) hc dX9_soonest_118 (by decide) ?_
        exact ap_iret hc hz rfl dX9_soonest_123 h
      · have h := Eq.mp (if_neg z_2) h
        refine ap_iload_n (q := 114) hc dX9_soonest_113 rfl rfl 2 rfl ?_
        refine ap_if_ne (q := 117) (tgt := 121) hc dX9_soonest_114 rfl (by decide) (fun z_3 => ?_) (fun z_3 => ?_)
        · have h := Eq.mp (if_neg z_3) h
          refine ap_iload (q := 123) hc dX9_soonest_121 rfl 4 rfl ?_
          exact ap_iret hc hz rfl dX9_soonest_123 h
        · have h := Eq.mp (if_pos z_3) h
          refine ap_iload_n (q := 118) hc dX9_soonest_117 rfl rfl 3 rfl ?_
          refine ap_goto (q := 123) hc dX9_soonest_118 (by decide) ?_
          exact ap_iret hc hz rfl dX9_soonest_123 h
    · have h := Eq.mp (if_neg z_1) h
      refine ap_aload_n (q := 36) hc dX9_soonest_35 rfl rfl 0 rfl ?_
      refine ap_callV (q := 39) (As := []) hc (ok_X9_keeps hg hq h) ml_RX9_152 lk_X9_keeps lv_X9_keeps hq rfl (ap_RmE hz (by decide)) rfl rfl (Nat.le_of_ble_eq_true rfl) dX9_soonest_36 rfl (ap_kv (fun M_4 h => ?_))
      refine ap_aload_n (q := 40) hc dX9_soonest_39 rfl rfl 0 rfl ?_
      refine ap_getR (q := 43) (r := q + 1) lg_RX9_9 (by decide) hq rfl hc dX9_soonest_40 rfl ?_
      refine ap_iconst (q := 44) hc dX9_soonest_43 rfl ic_1 ?_
      refine ap_iload (q := 46) hc dX9_soonest_44 rfl 5 rfl ?_
      obtain ⟨g_5, h⟩ := h
      obtain ⟨M_6, eM_6, h⟩ := ap_nm h
      refine ap_iast (q := 47) (ty_9_1 hq) (tn_9_1 hq) g_5 eM_6 hc dX9_soonest_46 rfl ?_
      refine ap_iload (q := 49) hc dX9_soonest_47 rfl 5 rfl ?_
      refine ap_iload_n (q := 50) hc dX9_soonest_49 rfl rfl 1 rfl ?_
      refine ap_icmp_ne (q := 53) (tgt := 58) hc dX9_soonest_50 rfl (by decide) (fun z_7 => ?_) (fun z_7 => ?_)
      · have h := Eq.mp (if_neg z_7) h
        refine ap_aload_n (q := 59) hc dX9_soonest_58 rfl rfl 0 rfl ?_
        refine ap_iload_n (q := 60) hc dX9_soonest_59 rfl rfl 1 rfl ?_
        refine ap_bipush (q := 62) hc dX9_soonest_60 rfl bc_30 ?_
        refine ap_callV (q := 65) (As := [.int x1, .int 30]) hc (ok_X9_stepsTo hg hq h) ml_RX9_162 lk_X9_stepsTo lv_X9_stepsTo hq rfl (ap_RmE hz (by decide)) rfl rfl (Nat.le_of_ble_eq_true rfl) dX9_soonest_62 rfl (ap_ki (fun r_8 M_9 h => ?_))
        exact ap_sub [0, 1, 2, 3, 4, 5] rfl (bl_X9_soonest_65 hc hz  hq ih  h)
      · have h := Eq.mp (if_pos z_7) h
        refine ap_ldc (q := 55) hc dX9_soonest_53 rfl ct_RX9_161 ?_
        refine ap_goto (q := 65) hc dX9_soonest_55 (by decide) ?_
        exact ap_sub [0, 1, 2, 3, 4, 5] rfl (bl_X9_soonest_65 hc hz  hq ih  h)
def w_X9_soonest   (q : Nat) (x1 : Int32) (x2 : Int32) (M : ap_Mem) (K : Int32 → ap_Mem → Prop) : Prop :=
w_X9_isCell x1 M (fun r_1 M_2 => (if r_1 = 0 then (K (-1) M_2) else (w_X9_in x2 0 1 M_2 (fun r_4 M_5 => (if r_4 = 0 then (K (-1) M_5) else (w_X9_soonest_28   q K 4096 x1 x2 (-5) 1000000000 0 M_5))))))
theorem bl_X9_soonest_0 {x : ap_X} {g : ap_G} (hc : ap_Cx x g cX9_soonest RX9 7) {K : Int32 → ap_Mem → Prop} (hz : ap_Ends x g 7 (some .int) (ap_Qi K))   {q : Nat} (hq : ap_kd q = 9)   {x1 : Int32} {x2 : Int32} {M : ap_Mem}  (h : w_X9_soonest   q x1 x2 M K) : ap_V x g 7 0 [(0, .ref (ap_ad g q)), (1, .int x1), (2, .int x2)] [] M := by
  have hg := hc.2.2.2.2.2.2.2.1
  unfold w_X9_soonest at h
  refine ap_iload_n (q := 1) hc dX9_soonest_0 rfl rfl 1 rfl ?_
  refine ap_callS (q := 4) (As := [.int x1]) hc (ok_X9_isCell hg  h) ml_RX9_132 lk_X9_isCell ls_X9_isCell (ap_RmE hz (by decide)) rfl rfl (Nat.le_of_ble_eq_true rfl) dX9_soonest_1 rfl (ap_ki (fun r_1 M_2 h => ?_))
  refine ap_if_eq (q := 7) (tgt := 16) hc dX9_soonest_4 rfl (by decide) (fun z_3 => ?_) (fun z_3 => ?_)
  · have h := Eq.mp (if_pos z_3) h
    refine ap_iconst (q := 17) hc dX9_soonest_16 rfl ic_m1 ?_
    exact ap_iret hc hz rfl dX9_soonest_17 h
  · have h := Eq.mp (if_neg z_3) h
    refine ap_iload_n (q := 8) hc dX9_soonest_7 rfl rfl 2 rfl ?_
    refine ap_iconst (q := 9) hc dX9_soonest_8 rfl ic_0 ?_
    refine ap_iconst (q := 10) hc dX9_soonest_9 rfl ic_1 ?_
    refine ap_callS (q := 13) (As := [.int x2, .int 0, .int 1]) hc (ok_X9_in hg  h) ml_RX9_35 lk_X9_in ls_X9_in (ap_RmE hz (by decide)) rfl rfl (Nat.le_of_ble_eq_true rfl) dX9_soonest_10 rfl (ap_ki (fun r_4 M_5 h => ?_))
    refine ap_if_ne (q := 16) (tgt := 18) hc dX9_soonest_13 rfl (by decide) (fun z_6 => ?_) (fun z_6 => ?_)
    · have h := Eq.mp (if_neg z_6) h
      refine ap_bipush (q := 20) hc dX9_soonest_18 rfl bc_m5 ?_
      refine ap_istore_n (q := 21) (lo2 := [(3, .int (-5)), (0, .ref (ap_ad g q)), (1, .int x1), (2, .int x2)]) hc dX9_soonest_20 rfl rfl rfl (by decide) rfl ?_
      refine ap_ldc (q := 23) hc dX9_soonest_21 rfl ct_RX9_161 ?_
      refine ap_istore (q := 25) (lo2 := [(4, .int 1000000000), (3, .int (-5)), (0, .ref (ap_ad g q)), (1, .int x1), (2, .int x2)]) hc dX9_soonest_23 rfl rfl (by decide) rfl ?_
      refine ap_iconst (q := 26) hc dX9_soonest_25 rfl ic_0 ?_
      refine ap_istore (q := 28) (lo2 := [(5, .int 0), (4, .int 1000000000), (3, .int (-5)), (0, .ref (ap_ad g q)), (1, .int x1), (2, .int x2)]) hc dX9_soonest_26 rfl rfl (by decide) rfl ?_
      exact ap_sub [3, 4, 5, 2, 1, 0] rfl (bl_X9_soonest_28 hc hz  hq  _ _ _ _ _ _ _ h)
    · have h := Eq.mp (if_pos z_6) h
      refine ap_iconst (q := 17) hc dX9_soonest_16 rfl ic_m1 ?_
      exact ap_iret hc hz rfl dX9_soonest_17 h
theorem ok_X9_soonest {l : Launch} {g : ap_G} (hg : ap_GOK g) {q : Nat} (hq : ap_kd q = 9) {x1 : Int32} {x2 : Int32} {M : ap_Mem} {K : Int32 → ap_Mem → Prop} (h : w_X9_soonest q x1 x2 M K) : ap_Ct l g yX9_soonest cX9_soonest 7 (some .int) 7 [.ref (ap_ad g q), .int x1, .int x2] M (ap_Qi K) := by
  refine ap_Ct_of hg (by decide +kernel) (Nat.le_of_ble_eq_true rfl) (fun x hx hc hz => ?_)
  subst hx
  exact bl_X9_soonest_0 hc hz hq h
def w_X9_call_122  (kL42 : Int32 → Int32 → Int32 → Int32 → Int32 → ap_Mem → Prop) (q : Nat) (x1 : Int32) (x3 : Int32) (x4 : Int32) (x5 : Int32) (s0 : Int32) (M : ap_Mem) (K : Int32 → ap_Mem → Prop) : Prop :=
∀ x5_1 : Int32, x5_1 = x5 + 1 → kL42 x1 s0 x3 x4 x5_1 M
theorem bl_X9_call_122 {x : ap_X} {g : ap_G} (hc : ap_Cx x g cX9_call RX9 7) {K : Int32 → ap_Mem → Prop} (hz : ap_Ends x g 7 (some .int) (ap_Qi K))   {q : Nat} (hq : ap_kd q = 9) {kL42 : Int32 → Int32 → Int32 → Int32 → Int32 → ap_Mem → Prop} (hk42 : ∀ (x1 : Int32) (x2 : Int32) (x3 : Int32) (x4 : Int32) (x5 : Int32)  (M : ap_Mem), kL42 x1 x2 x3 x4 x5 M → ap_V x g 7 42 [(0, .ref (ap_ad g q)), (1, .int x1), (2, .int x2), (3, .int x3), (4, .int x4), (5, .int x5)] [] M) {x1 : Int32} {x3 : Int32} {x4 : Int32} {x5 : Int32} {s0 : Int32} {M : ap_Mem}  (h : w_X9_call_122  kL42 q x1 x3 x4 x5 s0 M K) : ap_V x g 7 122 [(0, .ref (ap_ad g q)), (1, .int x1), (3, .int x3), (4, .int x4), (5, .int x5)] [.int s0] M := by
  unfold w_X9_call_122 at h
  refine ap_istore_n (q := 123) (lo2 := [(2, .int s0), (0, .ref (ap_ad g q)), (1, .int x1), (3, .int x3), (4, .int x4), (5, .int x5)]) hc dX9_call_122 rfl rfl rfl (by decide) rfl ?_
  obtain ⟨x5_1, ex5_1, h⟩ := ap_nm h
  refine ap_iinc (q := 126) (lo2 := [(5, .int x5_1), (2, .int s0), (0, .ref (ap_ad g q)), (1, .int x1), (3, .int x3), (4, .int x4)]) hc dX9_call_123 rfl 5 rfl (by rw [ex5_1]; rfl) (by decide) rfl ?_
  refine ap_goto (q := 42) hc dX9_call_126 (by decide) ?_
  exact ap_sub [2, 3, 1, 4, 5, 0] rfl (hk42 _ _ _ _ _ _ h)
def w_X9_call_109  (kL42 : Int32 → Int32 → Int32 → Int32 → Int32 → ap_Mem → Prop) (q : Nat) (x1 : Int32) (x2 : Int32) (x4 : Int32) (x5 : Int32) (x6 : Int32) (s0 : Int32) (M : ap_Mem) (K : Int32 → ap_Mem → Prop) : Prop :=
(if x2 ≤ x6 then (w_X9_call_122  kL42 q x1 s0 x4 x5 x2 M K) else (w_X9_call_122  kL42 q x1 s0 x4 x5 x6 M K))
theorem bl_X9_call_109 {x : ap_X} {g : ap_G} (hc : ap_Cx x g cX9_call RX9 7) {K : Int32 → ap_Mem → Prop} (hz : ap_Ends x g 7 (some .int) (ap_Qi K))   {q : Nat} (hq : ap_kd q = 9) {kL42 : Int32 → Int32 → Int32 → Int32 → Int32 → ap_Mem → Prop} (hk42 : ∀ (x1 : Int32) (x2 : Int32) (x3 : Int32) (x4 : Int32) (x5 : Int32)  (M : ap_Mem), kL42 x1 x2 x3 x4 x5 M → ap_V x g 7 42 [(0, .ref (ap_ad g q)), (1, .int x1), (2, .int x2), (3, .int x3), (4, .int x4), (5, .int x5)] [] M) {x1 : Int32} {x2 : Int32} {x4 : Int32} {x5 : Int32} {x6 : Int32} {s0 : Int32} {M : ap_Mem}  (h : w_X9_call_109  kL42 q x1 x2 x4 x5 x6 s0 M K) : ap_V x g 7 109 [(0, .ref (ap_ad g q)), (1, .int x1), (2, .int x2), (4, .int x4), (5, .int x5), (6, .int x6)] [.int s0] M := by
  unfold w_X9_call_109 at h
  refine ap_istore_n (q := 110) (lo2 := [(3, .int s0), (0, .ref (ap_ad g q)), (1, .int x1), (2, .int x2), (4, .int x4), (5, .int x5), (6, .int x6)]) hc dX9_call_109 rfl rfl rfl (by decide) rfl ?_
  refine ap_iload (q := 112) hc dX9_call_110 rfl 6 rfl ?_
  refine ap_iload_n (q := 113) hc dX9_call_112 rfl rfl 3 rfl ?_
  refine ap_icmp_ge (q := 116) (tgt := 121) hc dX9_call_113 rfl (by decide) (fun z_1 => ?_) (fun z_1 => ?_)
  · have h := Eq.mp (if_pos z_1) h
    refine ap_iload_n (q := 122) hc dX9_call_121 rfl rfl 3 rfl ?_
    exact ap_sub [1, 2, 0, 4, 5] rfl (bl_X9_call_122 hc hz  hq hk42  h)
  · have h := Eq.mp (if_neg z_1) h
    refine ap_iload (q := 118) hc dX9_call_116 rfl 6 rfl ?_
    refine ap_goto (q := 122) hc dX9_call_118 (by decide) ?_
    exact ap_sub [1, 2, 0, 4, 5] rfl (bl_X9_call_122 hc hz  hq hk42  h)
def w_X9_call_91  (kL42 : Int32 → Int32 → Int32 → Int32 → Int32 → ap_Mem → Prop) (q : Nat) (x1 : Int32) (x2 : Int32) (x3 : Int32) (x4 : Int32) (x5 : Int32) (x6 : Int32) (M : ap_Mem) (K : Int32 → ap_Mem → Prop) : Prop :=
(if x2 ≤ x6 then (w_X9_call_109  kL42 q x1 x2 x4 x5 x6 x3 M K) else (w_X9_call_109  kL42 q x1 x2 x4 x5 x6 ((100 * x4) + x5) M K))
theorem bl_X9_call_91 {x : ap_X} {g : ap_G} (hc : ap_Cx x g cX9_call RX9 7) {K : Int32 → ap_Mem → Prop} (hz : ap_Ends x g 7 (some .int) (ap_Qi K))   {q : Nat} (hq : ap_kd q = 9) {kL42 : Int32 → Int32 → Int32 → Int32 → Int32 → ap_Mem → Prop} (hk42 : ∀ (x1 : Int32) (x2 : Int32) (x3 : Int32) (x4 : Int32) (x5 : Int32)  (M : ap_Mem), kL42 x1 x2 x3 x4 x5 M → ap_V x g 7 42 [(0, .ref (ap_ad g q)), (1, .int x1), (2, .int x2), (3, .int x3), (4, .int x4), (5, .int x5)] [] M) {x1 : Int32} {x2 : Int32} {x3 : Int32} {x4 : Int32} {x5 : Int32} {x6 : Int32} {M : ap_Mem}  (h : w_X9_call_91  kL42 q x1 x2 x3 x4 x5 x6 M K) : ap_V x g 7 91 [(0, .ref (ap_ad g q)), (1, .int x1), (2, .int x2), (3, .int x3), (4, .int x4), (5, .int x5), (6, .int x6)] [] M := by
  unfold w_X9_call_91 at h
  refine ap_iload (q := 93) hc dX9_call_91 rfl 6 rfl ?_
  refine ap_iload_n (q := 94) hc dX9_call_93 rfl rfl 2 rfl ?_
  refine ap_icmp_ge (q := 97) (tgt := 108) hc dX9_call_94 rfl (by decide) (fun z_1 => ?_) (fun z_1 => ?_)
  · have h := Eq.mp (if_pos z_1) h
    refine ap_iload_n (q := 109) hc dX9_call_108 rfl rfl 3 rfl ?_
    exact ap_sub [0, 1, 2, 4, 5, 6] rfl (bl_X9_call_109 hc hz  hq hk42  h)
  · have h := Eq.mp (if_neg z_1) h
    refine ap_bipush (q := 99) hc dX9_call_97 rfl bc_100 ?_
    refine ap_iload (q := 101) hc dX9_call_99 rfl 4 rfl ?_
    refine ap_imul (q := 102) hc dX9_call_101 rfl ?_
    refine ap_iload (q := 104) hc dX9_call_102 rfl 5 rfl ?_
    refine ap_iadd (q := 105) hc dX9_call_104 rfl ?_
    refine ap_goto (q := 109) hc dX9_call_105 (by decide) ?_
    exact ap_sub [0, 1, 2, 4, 5, 6] rfl (bl_X9_call_109 hc hz  hq hk42  h)
def w_X9_call_42_s  (kL27 : Int32 → Int32 → Int32 → Int32 → ap_Mem → Prop) (kL42 : Int32 → Int32 → Int32 → Int32 → Int32 → ap_Mem → Prop) (q : Nat) (x1 : Int32) (x2 : Int32) (x3 : Int32) (x4 : Int32) (x5 : Int32) (M : ap_Mem) (K : Int32 → ap_Mem → Prop) : Prop :=
(if 16 ≤ x5 then (∀ x4_2 : Int32, x4_2 = x4 + 1 → kL27 x1 x2 x3 x4_2 M) else (w_X9_keeps q M (fun M_3 => vp_in (24 + x4) 936 ∧ (if (M_3 (q + 1) (24 + x4).toNatClampNeg) = 0 then (vp_in (18 + x4) 936 ∧ ∀ M_7 : ap_Mem, M_7 = ap_mu M_3 (q + 1) (18 + x4).toNatClampNeg x5 → w_X9_stepsTo q x1 30 M_7 (fun r_8 M_9 => w_X9_call_91  kL42 q x1 x2 x3 x4 x5 r_8 M_9 K)) else (w_X9_call_91  kL42 q x1 x2 x3 x4 x5 1000000000 M_3 K)))))
def w_X9_call_42  (kL27 : Int32 → Int32 → Int32 → Int32 → ap_Mem → Prop) (q : Nat) (K : Int32 → ap_Mem → Prop) : Nat → Int32 → Int32 → Int32 → Int32 → Int32 → ap_Mem → Prop
  | 0, _, _, _, _, _, _ => False
  | n + 1, x1, x2, x3, x4, x5, M => w_X9_call_42_s  kL27 (w_X9_call_42  kL27 q K n) q x1 x2 x3 x4 x5 M K
theorem bl_X9_call_42 {x : ap_X} {g : ap_G} (hc : ap_Cx x g cX9_call RX9 7) {K : Int32 → ap_Mem → Prop} (hz : ap_Ends x g 7 (some .int) (ap_Qi K))   {q : Nat} (hq : ap_kd q = 9) {kL27 : Int32 → Int32 → Int32 → Int32 → ap_Mem → Prop} (hk27 : ∀ (x1 : Int32) (x2 : Int32) (x3 : Int32) (x4 : Int32)  (M : ap_Mem), kL27 x1 x2 x3 x4 M → ap_V x g 7 27 [(0, .ref (ap_ad g q)), (1, .int x1), (2, .int x2), (3, .int x3), (4, .int x4)] [] M) : ∀ (n : Nat) (x1 : Int32) (x2 : Int32) (x3 : Int32) (x4 : Int32) (x5 : Int32) (M : ap_Mem), w_X9_call_42  kL27 q K n x1 x2 x3 x4 x5 M → ap_V x g 7 42 [(0, .ref (ap_ad g q)), (1, .int x1), (2, .int x2), (3, .int x3), (4, .int x4), (5, .int x5)] [] M := by
  have hg := hc.2.2.2.2.2.2.2.1
  intro n
  induction n with
  | zero => intro _ _ _ _ _ _ h; exact h.elim
  | succ n ih =>
    intro x1 x2 x3 x4 x5 M h
    replace h : w_X9_call_42_s  kL27 (w_X9_call_42  kL27 q K n) q x1 x2 x3 x4 x5 M K := h
    unfold w_X9_call_42_s at h
    refine ap_iload (q := 44) hc dX9_call_42 rfl 5 rfl ?_
    refine ap_bipush (q := 46) hc dX9_call_44 rfl bc_16 ?_
    refine ap_icmp_ge (q := 49) (tgt := 129) hc dX9_call_46 rfl (by decide) (fun z_1 => ?_) (fun z_1 => ?_)
    · have h := Eq.mp (if_pos z_1) h
      obtain ⟨x4_2, ex4_2, h⟩ := ap_nm h
      refine ap_iinc (q := 132) (lo2 := [(4, .int x4_2), (0, .ref (ap_ad g q)), (1, .int x1), (2, .int x2), (3, .int x3), (5, .int x5)]) hc dX9_call_129 rfl 4 rfl (by rw [ex4_2]; rfl) (by decide) rfl ?_
      refine ap_goto (q := 27) hc dX9_call_132 (by decide) ?_
      exact ap_sub [1, 2, 3, 4, 0] rfl (hk27 _ _ _ _ _ h)
    · have h := Eq.mp (if_neg z_1) h
      refine ap_aload_n (q := 50) hc dX9_call_49 rfl rfl 0 rfl ?_
      refine ap_callV (q := 53) (As := []) hc (ok_X9_keeps hg hq h) ml_RX9_152 lk_X9_keeps lv_X9_keeps hq rfl (ap_RmE hz (by decide)) rfl rfl (Nat.le_of_ble_eq_true rfl) dX9_call_50 rfl (ap_kv (fun M_3 h => ?_))
      refine ap_ldc (q := 55) hc dX9_call_53 rfl ct_RX9_161 ?_
      refine ap_istore (q := 57) (lo2 := [(6, .int 1000000000), (0, .ref (ap_ad g q)), (1, .int x1), (2, .int x2), (3, .int x3), (4, .int x4), (5, .int x5)]) hc dX9_call_55 rfl rfl (by decide) rfl ?_
      refine ap_aload_n (q := 58) hc dX9_call_57 rfl rfl 1 rfl ?_
      refine ap_getR (q := 61) (r := q + 1) lg_RX9_9 (by decide) hq rfl hc dX9_call_58 rfl ?_
      refine ap_bipush (q := 63) hc dX9_call_61 rfl bc_24 ?_
      refine ap_iload (q := 65) hc dX9_call_63 rfl 5 rfl ?_
      refine ap_iadd (q := 66) hc dX9_call_65 rfl ?_
      obtain ⟨g_4, h⟩ := h
      refine ap_iald (q := 67) (ty_9_1 hq) (tn_9_1 hq) g_4 hc dX9_call_66 rfl ?_
      refine ap_if_ne (q := 70) (tgt := 91) hc dX9_call_67 rfl (by decide) (fun z_5 => ?_) (fun z_5 => ?_)
      · have h := Eq.mp (if_neg z_5) h
        exact ap_sub [1, 2, 3, 4, 5, 6, 0] rfl (bl_X9_call_91 hc hz  hq ih  h)
      · have h := Eq.mp (if_pos z_5) h
        refine ap_aload_n (q := 71) hc dX9_call_70 rfl rfl 1 rfl ?_
        refine ap_getR (q := 74) (r := q + 1) lg_RX9_9 (by decide) hq rfl hc dX9_call_71 rfl ?_
        refine ap_bipush (q := 76) hc dX9_call_74 rfl bc_18 ?_
        refine ap_iload (q := 78) hc dX9_call_76 rfl 5 rfl ?_
        refine ap_iadd (q := 79) hc dX9_call_78 rfl ?_
        refine ap_iload (q := 81) hc dX9_call_79 rfl 6 rfl ?_
        obtain ⟨g_6, h⟩ := h
        obtain ⟨M_7, eM_7, h⟩ := ap_nm h
        refine ap_iast (q := 82) (ty_9_1 hq) (tn_9_1 hq) g_6 eM_7 hc dX9_call_81 rfl ?_
        refine ap_aload_n (q := 83) hc dX9_call_82 rfl rfl 1 rfl ?_
        refine ap_iload_n (q := 84) hc dX9_call_83 rfl rfl 2 rfl ?_
        refine ap_bipush (q := 86) hc dX9_call_84 rfl bc_30 ?_
        refine ap_callV (q := 89) (As := [.int x1, .int 30]) hc (ok_X9_stepsTo hg hq h) ml_RX9_162 lk_X9_stepsTo lv_X9_stepsTo hq rfl (ap_RmE hz (by decide)) rfl rfl (Nat.le_of_ble_eq_true rfl) dX9_call_86 rfl (ap_ki (fun r_8 M_9 h => ?_))
        refine ap_istore (q := 91) (lo2 := [(6, .int r_8), (0, .ref (ap_ad g q)), (1, .int x1), (2, .int x2), (3, .int x3), (4, .int x4), (5, .int x5)]) hc dX9_call_89 rfl rfl (by decide) rfl ?_
        exact ap_sub [1, 2, 3, 4, 5, 6, 0] rfl (bl_X9_call_91 hc hz  hq ih  h)
def w_X9_call_27_s   (kL27 : Int32 → Int32 → Int32 → Int32 → ap_Mem → Prop) (q : Nat) (x1 : Int32) (x2 : Int32) (x3 : Int32) (x4 : Int32) (M : ap_Mem) (K : Int32 → ap_Mem → Prop) : Prop :=
vp_in 30 936 ∧ (if (M (q + 1) (30 : Int32).toNatClampNeg) ≤ x4 then (K x3 M) else (w_X9_call_42  kL27 q K 4096 x1 x2 x3 x4 0 M))
def w_X9_call_27   (q : Nat) (K : Int32 → ap_Mem → Prop) : Nat → Int32 → Int32 → Int32 → Int32 → ap_Mem → Prop
  | 0, _, _, _, _, _ => False
  | n + 1, x1, x2, x3, x4, M => w_X9_call_27_s   (w_X9_call_27   q K n) q x1 x2 x3 x4 M K
theorem bl_X9_call_27 {x : ap_X} {g : ap_G} (hc : ap_Cx x g cX9_call RX9 7) {K : Int32 → ap_Mem → Prop} (hz : ap_Ends x g 7 (some .int) (ap_Qi K))   {q : Nat} (hq : ap_kd q = 9)   : ∀ (n : Nat) (x1 : Int32) (x2 : Int32) (x3 : Int32) (x4 : Int32) (M : ap_Mem), w_X9_call_27   q K n x1 x2 x3 x4 M → ap_V x g 7 27 [(0, .ref (ap_ad g q)), (1, .int x1), (2, .int x2), (3, .int x3), (4, .int x4)] [] M := by
  intro n
  induction n with
  | zero => intro _ _ _ _ _ h; exact h.elim
  | succ n ih =>
    intro x1 x2 x3 x4 M h
    replace h : w_X9_call_27_s   (w_X9_call_27   q K n) q x1 x2 x3 x4 M K := h
    unfold w_X9_call_27_s at h
    refine ap_iload (q := 29) hc dX9_call_27 rfl 4 rfl ?_
    refine ap_aload_n (q := 30) hc dX9_call_29 rfl rfl 0 rfl ?_
    refine ap_getR (q := 33) (r := q + 1) lg_RX9_9 (by decide) hq rfl hc dX9_call_30 rfl ?_
    refine ap_bipush (q := 35) hc dX9_call_33 rfl bc_30 ?_
    obtain ⟨g_1, h⟩ := h
    refine ap_iald (q := 36) (ty_9_1 hq) (tn_9_1 hq) g_1 hc dX9_call_35 rfl ?_
    refine ap_icmp_ge (q := 39) (tgt := 135) hc dX9_call_36 rfl (by decide) (fun z_2 => ?_) (fun z_2 => ?_)
    · have h := Eq.mp (if_pos z_2) h
      refine ap_iload_n (q := 136) hc dX9_call_135 rfl rfl 3 rfl ?_
      exact ap_iret hc hz rfl dX9_call_136 h
    · have h := Eq.mp (if_neg z_2) h
      refine ap_iconst (q := 40) hc dX9_call_39 rfl ic_0 ?_
      refine ap_istore (q := 42) (lo2 := [(5, .int 0), (0, .ref (ap_ad g q)), (1, .int x1), (2, .int x2), (3, .int x3), (4, .int x4)]) hc dX9_call_40 rfl rfl (by decide) rfl ?_
      exact ap_sub [1, 2, 3, 4, 5, 0] rfl (bl_X9_call_42 hc hz  hq ih _ _ _ _ _ _ _ h)
def w_X9_call   (q : Nat) (x1 : Int32) (M : ap_Mem) (K : Int32 → ap_Mem → Prop) : Prop :=
w_X9_isCell x1 M (fun r_1 M_2 => (if r_1 = 0 then (K (-1) M_2) else (w_X9_keeps q M_2 (fun M_4 => w_X9_stepsTo q x1 30 M_4 (fun r_5 M_6 => w_X9_call_27   q K 4096 x1 r_5 (-5) 0 M_6)))))
theorem bl_X9_call_0 {x : ap_X} {g : ap_G} (hc : ap_Cx x g cX9_call RX9 7) {K : Int32 → ap_Mem → Prop} (hz : ap_Ends x g 7 (some .int) (ap_Qi K))   {q : Nat} (hq : ap_kd q = 9)   {x1 : Int32} {M : ap_Mem}  (h : w_X9_call   q x1 M K) : ap_V x g 7 0 [(0, .ref (ap_ad g q)), (1, .int x1)] [] M := by
  have hg := hc.2.2.2.2.2.2.2.1
  unfold w_X9_call at h
  refine ap_iload_n (q := 1) hc dX9_call_0 rfl rfl 1 rfl ?_
  refine ap_callS (q := 4) (As := [.int x1]) hc (ok_X9_isCell hg  h) ml_RX9_132 lk_X9_isCell ls_X9_isCell (ap_RmE hz (by decide)) rfl rfl (Nat.le_of_ble_eq_true rfl) dX9_call_1 rfl (ap_ki (fun r_1 M_2 h => ?_))
  refine ap_if_ne (q := 7) (tgt := 9) hc dX9_call_4 rfl (by decide) (fun z_3 => ?_) (fun z_3 => ?_)
  · have h := Eq.mp (if_neg z_3) h
    refine ap_aload_n (q := 10) hc dX9_call_9 rfl rfl 0 rfl ?_
    refine ap_callV (q := 13) (As := []) hc (ok_X9_keeps hg hq h) ml_RX9_152 lk_X9_keeps lv_X9_keeps hq rfl (ap_RmE hz (by decide)) rfl rfl (Nat.le_of_ble_eq_true rfl) dX9_call_10 rfl (ap_kv (fun M_4 h => ?_))
    refine ap_aload_n (q := 14) hc dX9_call_13 rfl rfl 0 rfl ?_
    refine ap_iload_n (q := 15) hc dX9_call_14 rfl rfl 1 rfl ?_
    refine ap_bipush (q := 17) hc dX9_call_15 rfl bc_30 ?_
    refine ap_callV (q := 20) (As := [.int x1, .int 30]) hc (ok_X9_stepsTo hg hq h) ml_RX9_162 lk_X9_stepsTo lv_X9_stepsTo hq rfl (ap_RmE hz (by decide)) rfl rfl (Nat.le_of_ble_eq_true rfl) dX9_call_17 rfl (ap_ki (fun r_5 M_6 h => ?_))
    refine ap_istore_n (q := 21) (lo2 := [(2, .int r_5), (0, .ref (ap_ad g q)), (1, .int x1)]) hc dX9_call_20 rfl rfl rfl (by decide) rfl ?_
    refine ap_bipush (q := 23) hc dX9_call_21 rfl bc_m5 ?_
    refine ap_istore_n (q := 24) (lo2 := [(3, .int (-5)), (2, .int r_5), (0, .ref (ap_ad g q)), (1, .int x1)]) hc dX9_call_23 rfl rfl rfl (by decide) rfl ?_
    refine ap_iconst (q := 25) hc dX9_call_24 rfl ic_0 ?_
    refine ap_istore (q := 27) (lo2 := [(4, .int 0), (3, .int (-5)), (2, .int r_5), (0, .ref (ap_ad g q)), (1, .int x1)]) hc dX9_call_25 rfl rfl (by decide) rfl ?_
    exact ap_sub [3, 4, 2, 1, 0] rfl (bl_X9_call_27 hc hz  hq  _ _ _ _ _ _ h)
  · have h := Eq.mp (if_pos z_3) h
    refine ap_iconst (q := 8) hc dX9_call_7 rfl ic_m1 ?_
    exact ap_iret hc hz rfl dX9_call_8 h
theorem ok_X9_call {l : Launch} {g : ap_G} (hg : ap_GOK g) {q : Nat} (hq : ap_kd q = 9) {x1 : Int32} {M : ap_Mem} {K : Int32 → ap_Mem → Prop} (h : w_X9_call q x1 M K) : ap_Ct l g yX9_call cX9_call 7 (some .int) 7 [.ref (ap_ad g q), .int x1] M (ap_Qi K) := by
  refine ap_Ct_of hg (by decide +kernel) (Nat.le_of_ble_eq_true rfl) (fun x hx hc hz => ?_)
  subst hx
  exact bl_X9_call_0 hc hz hq h
def w_X9_countOf_4_s   (kL4 : Int32 → Int32 → Int32 → ap_Mem → Prop)  (x0 : Int32) (x1 : Int32) (x2 : Int32) (M : ap_Mem) (K : Int32 → ap_Mem → Prop) : Prop :=
(if 6 ≤ x2 then (K x1 M) else (∀ x1_2 : Int32, x1_2 = x1 + ((x0 >>> (x2 &&& 31)) &&& 1) → ∀ x2_3 : Int32, x2_3 = x2 + 1 → kL4 x0 x1_2 x2_3 M))
def w_X9_countOf_4    (K : Int32 → ap_Mem → Prop) : Nat → Int32 → Int32 → Int32 → ap_Mem → Prop
  | 0, _, _, _, _ => False
  | n + 1, x0, x1, x2, M => w_X9_countOf_4_s   (w_X9_countOf_4    K n)  x0 x1 x2 M K
theorem bl_X9_countOf_4 {x : ap_X} {g : ap_G} (hc : ap_Cx x g cX9_countOf RX9 3) {K : Int32 → ap_Mem → Prop} (hz : ap_Ends x g 0 (some .int) (ap_Qi K))       : ∀ (n : Nat) (x0 : Int32) (x1 : Int32) (x2 : Int32) (M : ap_Mem), w_X9_countOf_4    K n x0 x1 x2 M → ap_V x g 3 4 [(0, .int x0), (1, .int x1), (2, .int x2)] [] M := by
  intro n
  induction n with
  | zero => intro _ _ _ _ h; exact h.elim
  | succ n ih =>
    intro x0 x1 x2 M h
    replace h : w_X9_countOf_4_s   (w_X9_countOf_4    K n)  x0 x1 x2 M K := h
    unfold w_X9_countOf_4_s at h
    refine ap_iload_n (q := 5) hc dX9_countOf_4 rfl rfl 2 rfl ?_
    refine ap_bipush (q := 7) hc dX9_countOf_5 rfl bc_6 ?_
    refine ap_icmp_ge (q := 10) (tgt := 24) hc dX9_countOf_7 rfl (by decide) (fun z_1 => ?_) (fun z_1 => ?_)
    · have h := Eq.mp (if_pos z_1) h
      refine ap_iload_n (q := 25) hc dX9_countOf_24 rfl rfl 1 rfl ?_
      exact ap_iret hc hz rfl dX9_countOf_25 h
    · have h := Eq.mp (if_neg z_1) h
      refine ap_iload_n (q := 11) hc dX9_countOf_10 rfl rfl 1 rfl ?_
      refine ap_iload_n (q := 12) hc dX9_countOf_11 rfl rfl 0 rfl ?_
      refine ap_iload_n (q := 13) hc dX9_countOf_12 rfl rfl 2 rfl ?_
      refine ap_ishr (q := 14) hc dX9_countOf_13 rfl ?_
      refine ap_iconst (q := 15) hc dX9_countOf_14 rfl ic_1 ?_
      refine ap_iand (q := 16) hc dX9_countOf_15 rfl ?_
      refine ap_iadd (q := 17) hc dX9_countOf_16 rfl ?_
      obtain ⟨x1_2, ex1_2, h⟩ := ap_nm h
      refine ap_istore_n (q := 18) (lo2 := [(1, .int x1_2), (0, .int x0), (2, .int x2)]) hc dX9_countOf_17 rfl rfl ex1_2 (by decide) rfl ?_
      obtain ⟨x2_3, ex2_3, h⟩ := ap_nm h
      refine ap_iinc (q := 21) (lo2 := [(2, .int x2_3), (1, .int x1_2), (0, .int x0)]) hc dX9_countOf_18 rfl 2 rfl (by rw [ex2_3]; rfl) (by decide) rfl ?_
      refine ap_goto (q := 4) hc dX9_countOf_21 (by decide) ?_
      exact ap_sub [2, 1, 0] rfl (ih _ _ _ _ h)
def w_X9_countOf    (x0 : Int32) (M : ap_Mem) (K : Int32 → ap_Mem → Prop) : Prop :=
w_X9_countOf_4    K 4096 x0 0 0 M
theorem bl_X9_countOf_0 {x : ap_X} {g : ap_G} (hc : ap_Cx x g cX9_countOf RX9 3) {K : Int32 → ap_Mem → Prop} (hz : ap_Ends x g 0 (some .int) (ap_Qi K))       {x0 : Int32} {M : ap_Mem}  (h : w_X9_countOf    x0 M K) : ap_V x g 3 0 [(0, .int x0)] [] M := by
  unfold w_X9_countOf at h
  refine ap_iconst (q := 1) hc dX9_countOf_0 rfl ic_0 ?_
  refine ap_istore_n (q := 2) (lo2 := [(1, .int 0), (0, .int x0)]) hc dX9_countOf_1 rfl rfl rfl (by decide) rfl ?_
  refine ap_iconst (q := 3) hc dX9_countOf_2 rfl ic_0 ?_
  refine ap_istore_n (q := 4) (lo2 := [(2, .int 0), (1, .int 0), (0, .int x0)]) hc dX9_countOf_3 rfl rfl rfl (by decide) rfl ?_
  exact ap_sub [2, 1, 0] rfl (bl_X9_countOf_4 hc hz    _ _ _ _ _ h)
theorem ok_X9_countOf {l : Launch} {g : ap_G} (hg : ap_GOK g)   {x0 : Int32} {M : ap_Mem} {K : Int32 → ap_Mem → Prop} (h : w_X9_countOf  x0 M K) : ap_Ct l g yX9_countOf cX9_countOf 3 (some .int) 0 [.int x0] M (ap_Qi K) := by
  refine ap_Ct_of hg (by decide +kernel) (Nat.le_of_ble_eq_true rfl) (fun x hx hc hz => ?_)
  subst hx
  exact bl_X9_countOf_0 hc hz  h
def w_X9_isKept_47  (kL6 : Int32 → Int32 → Int32 → ap_Mem → Prop) (q : Nat) (x1 : Int32) (x2 : Int32) (x3 : Int32) (s0 : Int32) (s1 : Int32) (M : ap_Mem) (K : Int32 → ap_Mem → Prop) : Prop :=
vp_in s1 936 ∧ ∀ M_2 : ap_Mem, M_2 = ap_mu M (q + 1) s1.toNatClampNeg s0 → ∀ x3_3 : Int32, x3_3 = x3 + 1 → kL6 x1 x2 x3_3 M_2
theorem bl_X9_isKept_47 {x : ap_X} {g : ap_G} (hc : ap_Cx x g cX9_isKept RX9 5) {K : Int32 → ap_Mem → Prop} (hz : ap_Ends x g 6 (some .boolean) (ap_Qi K))   {q : Nat} (hq : ap_kd q = 9) {kL6 : Int32 → Int32 → Int32 → ap_Mem → Prop} (hk6 : ∀ (x1 : Int32) (x2 : Int32) (x3 : Int32)  (M : ap_Mem), kL6 x1 x2 x3 M → ap_V x g 5 6 [(0, .ref (ap_ad g q)), (1, .int x1), (2, .int x2), (3, .int x3)] [] M) {x1 : Int32} {x2 : Int32} {x3 : Int32} {s0 : Int32} {s1 : Int32} {M : ap_Mem}  (h : w_X9_isKept_47  kL6 q x1 x2 x3 s0 s1 M K) : ap_V x g 5 47 [(0, .ref (ap_ad g q)), (1, .int x1), (2, .int x2), (3, .int x3)] [.int s0, .int s1, .ref (ap_ad g (q + 1))] M := by
  unfold w_X9_isKept_47 at h
  obtain ⟨g_1, h⟩ := h
  obtain ⟨M_2, eM_2, h⟩ := ap_nm h
  refine ap_iast (q := 48) (ty_9_1 hq) (tn_9_1 hq) g_1 eM_2 hc dX9_isKept_47 rfl ?_
  obtain ⟨x3_3, ex3_3, h⟩ := ap_nm h
  refine ap_iinc (q := 51) (lo2 := [(3, .int x3_3), (0, .ref (ap_ad g q)), (1, .int x1), (2, .int x2)]) hc dX9_isKept_48 rfl 3 rfl (by rw [ex3_3]; rfl) (by decide) rfl ?_
  refine ap_goto (q := 6) hc dX9_isKept_51 (by decide) ?_
  exact ap_sub [1, 2, 3, 0] rfl (hk6 _ _ _ _ h)
def w_X9_isKept_96   (q : Nat) (x3 : Int32) (M : ap_Mem) (K : Int32 → ap_Mem → Prop) : Prop :=
w_X9_goesBack q M (fun M_1 => ap_B x3 ∧ K x3 M_1)
theorem bl_X9_isKept_96 {x : ap_X} {g : ap_G} (hc : ap_Cx x g cX9_isKept RX9 5) {K : Int32 → ap_Mem → Prop} (hz : ap_Ends x g 6 (some .boolean) (ap_Qi K))   {q : Nat} (hq : ap_kd q = 9)   {x3 : Int32} {M : ap_Mem}  (h : w_X9_isKept_96   q x3 M K) : ap_V x g 5 96 [(0, .ref (ap_ad g q)), (3, .int x3)] [] M := by
  have hg := hc.2.2.2.2.2.2.2.1
  unfold w_X9_isKept_96 at h
  refine ap_aload_n (q := 97) hc dX9_isKept_96 rfl rfl 0 rfl ?_
  refine ap_callV (q := 100) (As := []) hc (ok_X9_goesBack hg hq h) ml_RX9_158 lk_X9_goesBack lv_X9_goesBack hq rfl (ap_RmE hz (by decide)) rfl rfl (Nat.le_of_ble_eq_true rfl) dX9_isKept_97 rfl (ap_kv (fun M_1 h => ?_))
  refine ap_iload_n (q := 101) hc dX9_isKept_100 rfl rfl 1 rfl ?_
  exact ap_iret hc hz (ap_Bn h.1) dX9_isKept_101 h.2
def w_X9_isKept_89  (kL59 : Int32 → Int32 → Int32 → ap_Mem → Prop) (q : Nat) (x1 : Int32) (x4 : Int32) (s0 : Int32) (M : ap_Mem) (K : Int32 → ap_Mem → Prop) : Prop :=
∀ x4_1 : Int32, x4_1 = x4 + 1 → kL59 x1 s0 x4_1 M
theorem bl_X9_isKept_89 {x : ap_X} {g : ap_G} (hc : ap_Cx x g cX9_isKept RX9 5) {K : Int32 → ap_Mem → Prop} (hz : ap_Ends x g 6 (some .boolean) (ap_Qi K))   {q : Nat} (hq : ap_kd q = 9) {kL59 : Int32 → Int32 → Int32 → ap_Mem → Prop} (hk59 : ∀ (x1 : Int32) (x3 : Int32) (x4 : Int32)  (M : ap_Mem), kL59 x1 x3 x4 M → ap_V x g 5 59 [(0, .ref (ap_ad g q)), (1, .int x1), (3, .int x3), (4, .int x4)] [] M) {x1 : Int32} {x4 : Int32} {s0 : Int32} {M : ap_Mem}  (h : w_X9_isKept_89  kL59 q x1 x4 s0 M K) : ap_V x g 5 89 [(0, .ref (ap_ad g q)), (1, .int x1), (4, .int x4)] [.int s0] M := by
  unfold w_X9_isKept_89 at h
  refine ap_istore_n (q := 90) (lo2 := [(3, .int s0), (0, .ref (ap_ad g q)), (1, .int x1), (4, .int x4)]) hc dX9_isKept_89 rfl rfl rfl (by decide) rfl ?_
  obtain ⟨x4_1, ex4_1, h⟩ := ap_nm h
  refine ap_iinc (q := 93) (lo2 := [(4, .int x4_1), (3, .int s0), (0, .ref (ap_ad g q)), (1, .int x1)]) hc dX9_isKept_90 rfl 3 rfl (by rw [ex4_1]; rfl) (by decide) rfl ?_
  refine ap_goto (q := 59) hc dX9_isKept_93 (by decide) ?_
  exact ap_sub [2, 3, 1, 0] rfl (hk59 _ _ _ _ h)
def w_X9_isKept_59_s   (kL59 : Int32 → Int32 → Int32 → ap_Mem → Prop) (q : Nat) (x1 : Int32) (x3 : Int32) (x4 : Int32) (M : ap_Mem) (K : Int32 → ap_Mem → Prop) : Prop :=
(if 30 < x4 then (w_X9_isKept_96   q x3 M K) else ((if x3 = 0 then (w_X9_isKept_96   q x3 M K) else (w_X9_goes q M (fun M_3 => vp_in 1 936 ∧ (if (M_3 (q + 1) (1 : Int32).toNatClampNeg) = x1 then (w_X9_isKept_89  kL59 q x1 x4 0 M_3 K) else (w_X9_isKept_89  kL59 q x1 x4 1 M_3 K)))))))
def w_X9_isKept_59   (q : Nat) (K : Int32 → ap_Mem → Prop) : Nat → Int32 → Int32 → Int32 → ap_Mem → Prop
  | 0, _, _, _, _ => False
  | n + 1, x1, x3, x4, M => w_X9_isKept_59_s   (w_X9_isKept_59   q K n) q x1 x3 x4 M K
theorem bl_X9_isKept_59 {x : ap_X} {g : ap_G} (hc : ap_Cx x g cX9_isKept RX9 5) {K : Int32 → ap_Mem → Prop} (hz : ap_Ends x g 6 (some .boolean) (ap_Qi K))   {q : Nat} (hq : ap_kd q = 9)   : ∀ (n : Nat) (x1 : Int32) (x3 : Int32) (x4 : Int32) (M : ap_Mem), w_X9_isKept_59   q K n x1 x3 x4 M → ap_V x g 5 59 [(0, .ref (ap_ad g q)), (1, .int x1), (3, .int x3), (4, .int x4)] [] M := by
  have hg := hc.2.2.2.2.2.2.2.1
  intro n
  induction n with
  | zero => intro _ _ _ _ h; exact h.elim
  | succ n ih =>
    intro x1 x3 x4 M h
    replace h : w_X9_isKept_59_s   (w_X9_isKept_59   q K n) q x1 x3 x4 M K := h
    unfold w_X9_isKept_59_s at h
    refine ap_iload (q := 61) hc dX9_isKept_59 rfl 3 rfl ?_
    refine ap_bipush (q := 63) hc dX9_isKept_61 rfl bc_30 ?_
    refine ap_icmp_gt (q := 66) (tgt := 96) hc dX9_isKept_63 rfl (by decide) (fun z_1 => ?_) (fun z_1 => ?_)
    · have h := Eq.mp (if_pos z_1) h
      exact ap_sub [0, 2] rfl (bl_X9_isKept_96 hc hz  hq   h)
    · have h := Eq.mp (if_neg z_1) h
      refine ap_iload_n (q := 67) hc dX9_isKept_66 rfl rfl 2 rfl ?_
      refine ap_if_eq (q := 70) (tgt := 96) hc dX9_isKept_67 rfl (by decide) (fun z_2 => ?_) (fun z_2 => ?_)
      · have h := Eq.mp (if_pos z_2) h
        exact ap_sub [0, 2] rfl (bl_X9_isKept_96 hc hz  hq   h)
      · have h := Eq.mp (if_neg z_2) h
        refine ap_aload_n (q := 71) hc dX9_isKept_70 rfl rfl 0 rfl ?_
        refine ap_callV (q := 74) (As := []) hc (ok_X9_goes hg hq h) ml_RX9_149 lk_X9_goes lv_X9_goes hq rfl (ap_RmE hz (by decide)) rfl rfl (Nat.le_of_ble_eq_true rfl) dX9_isKept_71 rfl (ap_kv (fun M_3 h => ?_))
        refine ap_aload_n (q := 75) hc dX9_isKept_74 rfl rfl 0 rfl ?_
        refine ap_getR (q := 78) (r := q + 1) lg_RX9_9 (by decide) hq rfl hc dX9_isKept_75 rfl ?_
        refine ap_iconst (q := 79) hc dX9_isKept_78 rfl ic_1 ?_
        obtain ⟨g_4, h⟩ := h
        refine ap_iald (q := 80) (ty_9_1 hq) (tn_9_1 hq) g_4 hc dX9_isKept_79 rfl ?_
        refine ap_iload_n (q := 81) hc dX9_isKept_80 rfl rfl 1 rfl ?_
        refine ap_icmp_eq (q := 84) (tgt := 88) hc dX9_isKept_81 rfl (by decide) (fun z_5 => ?_) (fun z_5 => ?_)
        · have h := Eq.mp (if_pos z_5) h
          refine ap_iconst (q := 89) hc dX9_isKept_88 rfl ic_0 ?_
          exact ap_sub [0, 1, 3] rfl (bl_X9_isKept_89 hc hz  hq ih  h)
        · have h := Eq.mp (if_neg z_5) h
          refine ap_iconst (q := 85) hc dX9_isKept_84 rfl ic_1 ?_
          refine ap_goto (q := 89) hc dX9_isKept_85 (by decide) ?_
          exact ap_sub [0, 1, 3] rfl (bl_X9_isKept_89 hc hz  hq ih  h)
def w_X9_isKept_6_s   (kL6 : Int32 → Int32 → Int32 → ap_Mem → Prop) (q : Nat) (x1 : Int32) (x2 : Int32) (x3 : Int32) (M : ap_Mem) (K : Int32 → ap_Mem → Prop) : Prop :=
vp_in 30 936 ∧ (if (M (q + 1) (30 : Int32).toNatClampNeg) ≤ x3 then (w_X9_isKept_59   q K 4096 x1 1 1 M) else ((if ((x2 >>> (x3 &&& 31)) &&& 1) = 1 then (w_X9_isKept_47  kL6 q x1 x2 x3 1 (24 + x3) M K) else (vp_in (24 + x3) 936 ∧ w_X9_isKept_47  kL6 q x1 x2 x3 (M (q + 1) (24 + x3).toNatClampNeg) (24 + x3) M K))))
def w_X9_isKept_6   (q : Nat) (K : Int32 → ap_Mem → Prop) : Nat → Int32 → Int32 → Int32 → ap_Mem → Prop
  | 0, _, _, _, _ => False
  | n + 1, x1, x2, x3, M => w_X9_isKept_6_s   (w_X9_isKept_6   q K n) q x1 x2 x3 M K
theorem bl_X9_isKept_6 {x : ap_X} {g : ap_G} (hc : ap_Cx x g cX9_isKept RX9 5) {K : Int32 → ap_Mem → Prop} (hz : ap_Ends x g 6 (some .boolean) (ap_Qi K))   {q : Nat} (hq : ap_kd q = 9)   : ∀ (n : Nat) (x1 : Int32) (x2 : Int32) (x3 : Int32) (M : ap_Mem), w_X9_isKept_6   q K n x1 x2 x3 M → ap_V x g 5 6 [(0, .ref (ap_ad g q)), (1, .int x1), (2, .int x2), (3, .int x3)] [] M := by
  intro n
  induction n with
  | zero => intro _ _ _ _ h; exact h.elim
  | succ n ih =>
    intro x1 x2 x3 M h
    replace h : w_X9_isKept_6_s   (w_X9_isKept_6   q K n) q x1 x2 x3 M K := h
    unfold w_X9_isKept_6_s at h
    refine ap_iload_n (q := 7) hc dX9_isKept_6 rfl rfl 3 rfl ?_
    refine ap_aload_n (q := 8) hc dX9_isKept_7 rfl rfl 0 rfl ?_
    refine ap_getR (q := 11) (r := q + 1) lg_RX9_9 (by decide) hq rfl hc dX9_isKept_8 rfl ?_
    refine ap_bipush (q := 13) hc dX9_isKept_11 rfl bc_30 ?_
    obtain ⟨g_1, h⟩ := h
    refine ap_iald (q := 14) (ty_9_1 hq) (tn_9_1 hq) g_1 hc dX9_isKept_13 rfl ?_
    refine ap_icmp_ge (q := 17) (tgt := 54) hc dX9_isKept_14 rfl (by decide) (fun z_2 => ?_) (fun z_2 => ?_)
    · have h := Eq.mp (if_pos z_2) h
      refine ap_iconst (q := 55) hc dX9_isKept_54 rfl ic_1 ?_
      refine ap_istore_n (q := 56) (lo2 := [(3, .int 1), (0, .ref (ap_ad g q)), (1, .int x1), (2, .int x2)]) hc dX9_isKept_55 rfl rfl rfl (by decide) rfl ?_
      refine ap_iconst (q := 57) hc dX9_isKept_56 rfl ic_1 ?_
      refine ap_istore (q := 59) (lo2 := [(4, .int 1), (3, .int 1), (0, .ref (ap_ad g q)), (1, .int x1), (2, .int x2)]) hc dX9_isKept_57 rfl rfl (by decide) rfl ?_
      exact ap_sub [2, 3, 1, 0] rfl (bl_X9_isKept_59 hc hz  hq  _ _ _ _ _ h)
    · have h := Eq.mp (if_neg z_2) h
      refine ap_aload_n (q := 18) hc dX9_isKept_17 rfl rfl 0 rfl ?_
      refine ap_getR (q := 21) (r := q + 1) lg_RX9_9 (by decide) hq rfl hc dX9_isKept_18 rfl ?_
      refine ap_bipush (q := 23) hc dX9_isKept_21 rfl bc_24 ?_
      refine ap_iload_n (q := 24) hc dX9_isKept_23 rfl rfl 3 rfl ?_
      refine ap_iadd (q := 25) hc dX9_isKept_24 rfl ?_
      refine ap_iload_n (q := 26) hc dX9_isKept_25 rfl rfl 2 rfl ?_
      refine ap_iload_n (q := 27) hc dX9_isKept_26 rfl rfl 3 rfl ?_
      refine ap_ishr (q := 28) hc dX9_isKept_27 rfl ?_
      refine ap_iconst (q := 29) hc dX9_isKept_28 rfl ic_1 ?_
      refine ap_iand (q := 30) hc dX9_isKept_29 rfl ?_
      refine ap_iconst (q := 31) hc dX9_isKept_30 rfl ic_1 ?_
      refine ap_icmp_ne (q := 34) (tgt := 38) hc dX9_isKept_31 rfl (by decide) (fun z_3 => ?_) (fun z_3 => ?_)
      · have h := Eq.mp (if_neg z_3) h
        refine ap_aload_n (q := 39) hc dX9_isKept_38 rfl rfl 0 rfl ?_
        refine ap_getR (q := 42) (r := q + 1) lg_RX9_9 (by decide) hq rfl hc dX9_isKept_39 rfl ?_
        refine ap_bipush (q := 44) hc dX9_isKept_42 rfl bc_24 ?_
        refine ap_iload_n (q := 45) hc dX9_isKept_44 rfl rfl 3 rfl ?_
        refine ap_iadd (q := 46) hc dX9_isKept_45 rfl ?_
        obtain ⟨g_4, h⟩ := h
        refine ap_iald (q := 47) (ty_9_1 hq) (tn_9_1 hq) g_4 hc dX9_isKept_46 rfl ?_
        exact ap_sub [0, 1, 2, 3] rfl (bl_X9_isKept_47 hc hz  hq ih  h)
      · have h := Eq.mp (if_pos z_3) h
        refine ap_iconst (q := 35) hc dX9_isKept_34 rfl ic_1 ?_
        refine ap_goto (q := 47) hc dX9_isKept_35 (by decide) ?_
        exact ap_sub [0, 1, 2, 3] rfl (bl_X9_isKept_47 hc hz  hq ih  h)
def w_X9_isKept   (q : Nat) (x1 : Int32) (x2 : Int32) (M : ap_Mem) (K : Int32 → ap_Mem → Prop) : Prop :=
w_X9_keeps q M (fun M_1 => w_X9_isKept_6   q K 4096 x1 x2 0 M_1)
theorem bl_X9_isKept_0 {x : ap_X} {g : ap_G} (hc : ap_Cx x g cX9_isKept RX9 5) {K : Int32 → ap_Mem → Prop} (hz : ap_Ends x g 6 (some .boolean) (ap_Qi K))   {q : Nat} (hq : ap_kd q = 9)   {x1 : Int32} {x2 : Int32} {M : ap_Mem}  (h : w_X9_isKept   q x1 x2 M K) : ap_V x g 5 0 [(0, .ref (ap_ad g q)), (1, .int x1), (2, .int x2)] [] M := by
  have hg := hc.2.2.2.2.2.2.2.1
  unfold w_X9_isKept at h
  refine ap_aload_n (q := 1) hc dX9_isKept_0 rfl rfl 0 rfl ?_
  refine ap_callV (q := 4) (As := []) hc (ok_X9_keeps hg hq h) ml_RX9_152 lk_X9_keeps lv_X9_keeps hq rfl (ap_RmE hz (by decide)) rfl rfl (Nat.le_of_ble_eq_true rfl) dX9_isKept_1 rfl (ap_kv (fun M_1 h => ?_))
  refine ap_iconst (q := 5) hc dX9_isKept_4 rfl ic_0 ?_
  refine ap_istore_n (q := 6) (lo2 := [(3, .int 0), (0, .ref (ap_ad g q)), (1, .int x1), (2, .int x2)]) hc dX9_isKept_5 rfl rfl rfl (by decide) rfl ?_
  exact ap_sub [1, 2, 3, 0] rfl (bl_X9_isKept_6 hc hz  hq  _ _ _ _ _ h)
theorem ok_X9_isKept {l : Launch} {g : ap_G} (hg : ap_GOK g) {q : Nat} (hq : ap_kd q = 9) {x1 : Int32} {x2 : Int32} {M : ap_Mem} {K : Int32 → ap_Mem → Prop} (h : w_X9_isKept q x1 x2 M K) : ap_Ct l g yX9_isKept cX9_isKept 5 (some .boolean) 6 [.ref (ap_ad g q), .int x1, .int x2] M (ap_Qi K) := by
  refine ap_Ct_of hg (by decide +kernel) (Nat.le_of_ble_eq_true rfl) (fun x hx hc hz => ?_)
  subst hx
  exact bl_X9_isKept_0 hc hz hq h
def w_X9_kept_70  (kL14 : Int32 → Int32 → Int32 → ap_Mem → Prop) (q : Nat) (x1 : Int32) (x3 : Int32) (s0 : Int32) (M : ap_Mem) (K : Int32 → ap_Mem → Prop) : Prop :=
∀ x3_1 : Int32, x3_1 = x3 + 1 → kL14 x1 s0 x3_1 M
theorem bl_X9_kept_70 {x : ap_X} {g : ap_G} (hc : ap_Cx x g cX9_kept RX9 5) {K : Int32 → ap_Mem → Prop} (hz : ap_Ends x g 7 (some .int) (ap_Qi K))   {q : Nat} (hq : ap_kd q = 9) {kL14 : Int32 → Int32 → Int32 → ap_Mem → Prop} (hk14 : ∀ (x1 : Int32) (x2 : Int32) (x3 : Int32)  (M : ap_Mem), kL14 x1 x2 x3 M → ap_V x g 5 14 [(0, .ref (ap_ad g q)), (1, .int x1), (2, .int x2), (3, .int x3)] [] M) {x1 : Int32} {x3 : Int32} {s0 : Int32} {M : ap_Mem}  (h : w_X9_kept_70  kL14 q x1 x3 s0 M K) : ap_V x g 5 70 [(0, .ref (ap_ad g q)), (1, .int x1), (3, .int x3)] [.int s0] M := by
  unfold w_X9_kept_70 at h
  refine ap_istore_n (q := 71) (lo2 := [(2, .int s0), (0, .ref (ap_ad g q)), (1, .int x1), (3, .int x3)]) hc dX9_kept_70 rfl rfl rfl (by decide) rfl ?_
  obtain ⟨x3_1, ex3_1, h⟩ := ap_nm h
  refine ap_iinc (q := 74) (lo2 := [(3, .int x3_1), (2, .int s0), (0, .ref (ap_ad g q)), (1, .int x1)]) hc dX9_kept_71 rfl 3 rfl (by rw [ex3_1]; rfl) (by decide) rfl ?_
  refine ap_goto (q := 14) hc dX9_kept_74 (by decide) ?_
  exact ap_sub [2, 3, 1, 0] rfl (hk14 _ _ _ _ h)
def w_X9_kept_69  (kL14 : Int32 → Int32 → Int32 → ap_Mem → Prop) (q : Nat) (x1 : Int32) (x2 : Int32) (x3 : Int32) (M : ap_Mem) (K : Int32 → ap_Mem → Prop) : Prop :=
w_X9_kept_70  kL14 q x1 x3 x2 M K
theorem bl_X9_kept_69 {x : ap_X} {g : ap_G} (hc : ap_Cx x g cX9_kept RX9 5) {K : Int32 → ap_Mem → Prop} (hz : ap_Ends x g 7 (some .int) (ap_Qi K))   {q : Nat} (hq : ap_kd q = 9) {kL14 : Int32 → Int32 → Int32 → ap_Mem → Prop} (hk14 : ∀ (x1 : Int32) (x2 : Int32) (x3 : Int32)  (M : ap_Mem), kL14 x1 x2 x3 M → ap_V x g 5 14 [(0, .ref (ap_ad g q)), (1, .int x1), (2, .int x2), (3, .int x3)] [] M) {x1 : Int32} {x2 : Int32} {x3 : Int32} {M : ap_Mem}  (h : w_X9_kept_69  kL14 q x1 x2 x3 M K) : ap_V x g 5 69 [(0, .ref (ap_ad g q)), (1, .int x1), (2, .int x2), (3, .int x3)] [] M := by
  unfold w_X9_kept_69 at h
  refine ap_iload_n (q := 70) hc dX9_kept_69 rfl rfl 2 rfl ?_
  exact ap_sub [0, 1, 3] rfl (bl_X9_kept_70 hc hz  hq hk14  h)
def w_X9_kept_49  (kL14 : Int32 → Int32 → Int32 → ap_Mem → Prop) (q : Nat) (x1 : Int32) (x2 : Int32) (x3 : Int32) (s0 : Int32) (M : ap_Mem) (K : Int32 → ap_Mem → Prop) : Prop :=
(if s0 = 0 then (w_X9_kept_69  kL14 q x1 x2 x3 M K) else (w_X9_isKept q x1 x3 M (fun r_2 M_3 => (if r_2 = 0 then (w_X9_kept_69  kL14 q x1 x2 x3 M_3 K) else (w_X9_kept_70  kL14 q x1 x3 x3 M_3 K)))))
theorem bl_X9_kept_49 {x : ap_X} {g : ap_G} (hc : ap_Cx x g cX9_kept RX9 5) {K : Int32 → ap_Mem → Prop} (hz : ap_Ends x g 7 (some .int) (ap_Qi K))   {q : Nat} (hq : ap_kd q = 9) {kL14 : Int32 → Int32 → Int32 → ap_Mem → Prop} (hk14 : ∀ (x1 : Int32) (x2 : Int32) (x3 : Int32)  (M : ap_Mem), kL14 x1 x2 x3 M → ap_V x g 5 14 [(0, .ref (ap_ad g q)), (1, .int x1), (2, .int x2), (3, .int x3)] [] M) {x1 : Int32} {x2 : Int32} {x3 : Int32} {s0 : Int32} {M : ap_Mem}  (h : w_X9_kept_49  kL14 q x1 x2 x3 s0 M K) : ap_V x g 5 49 [(0, .ref (ap_ad g q)), (1, .int x1), (2, .int x2), (3, .int x3)] [.int s0] M := by
  have hg := hc.2.2.2.2.2.2.2.1
  unfold w_X9_kept_49 at h
  refine ap_istore (q := 51) (lo2 := [(4, .int s0), (0, .ref (ap_ad g q)), (1, .int x1), (2, .int x2), (3, .int x3)]) hc dX9_kept_49 rfl rfl (by decide) rfl ?_
  refine ap_iload (q := 53) hc dX9_kept_51 rfl 0 rfl ?_
  refine ap_if_eq (q := 56) (tgt := 69) hc dX9_kept_53 rfl (by decide) (fun z_1 => ?_) (fun z_1 => ?_)
  · have h := Eq.mp (if_pos z_1) h
    exact ap_sub [1, 2, 3, 4] rfl (bl_X9_kept_69 hc hz  hq hk14  h)
  · have h := Eq.mp (if_neg z_1) h
    refine ap_aload_n (q := 57) hc dX9_kept_56 rfl rfl 1 rfl ?_
    refine ap_iload_n (q := 58) hc dX9_kept_57 rfl rfl 2 rfl ?_
    refine ap_iload_n (q := 59) hc dX9_kept_58 rfl rfl 4 rfl ?_
    refine ap_callV (q := 62) (As := [.int x1, .int x3]) hc (ok_X9_isKept hg hq h) ml_RX9_168 lk_X9_isKept lv_X9_isKept hq rfl (ap_RmE hz (by decide)) rfl rfl (Nat.le_of_ble_eq_true rfl) dX9_kept_59 rfl (ap_ki (fun r_2 M_3 h => ?_))
    refine ap_if_eq (q := 65) (tgt := 69) hc dX9_kept_62 rfl (by decide) (fun z_4 => ?_) (fun z_4 => ?_)
    · have h := Eq.mp (if_pos z_4) h
      exact ap_sub [1, 2, 3, 4] rfl (bl_X9_kept_69 hc hz  hq hk14  h)
    · have h := Eq.mp (if_neg z_4) h
      refine ap_iload_n (q := 66) hc dX9_kept_65 rfl rfl 4 rfl ?_
      refine ap_goto (q := 70) hc dX9_kept_66 (by decide) ?_
      exact ap_sub [1, 2, 4] rfl (bl_X9_kept_70 hc hz  hq hk14  h)
def w_X9_kept_44  (kL14 : Int32 → Int32 → Int32 → ap_Mem → Prop) (q : Nat) (x1 : Int32) (x2 : Int32) (x3 : Int32) (M : ap_Mem) (K : Int32 → ap_Mem → Prop) : Prop :=
w_X9_kept_49  kL14 q x1 x2 x3 1 M K
theorem bl_X9_kept_44 {x : ap_X} {g : ap_G} (hc : ap_Cx x g cX9_kept RX9 5) {K : Int32 → ap_Mem → Prop} (hz : ap_Ends x g 7 (some .int) (ap_Qi K))   {q : Nat} (hq : ap_kd q = 9) {kL14 : Int32 → Int32 → Int32 → ap_Mem → Prop} (hk14 : ∀ (x1 : Int32) (x2 : Int32) (x3 : Int32)  (M : ap_Mem), kL14 x1 x2 x3 M → ap_V x g 5 14 [(0, .ref (ap_ad g q)), (1, .int x1), (2, .int x2), (3, .int x3)] [] M) {x1 : Int32} {x2 : Int32} {x3 : Int32} {M : ap_Mem}  (h : w_X9_kept_44  kL14 q x1 x2 x3 M K) : ap_V x g 5 44 [(0, .ref (ap_ad g q)), (1, .int x1), (2, .int x2), (3, .int x3)] [] M := by
  unfold w_X9_kept_44 at h
  refine ap_iconst (q := 45) hc dX9_kept_44 rfl ic_1 ?_
  refine ap_goto (q := 49) hc dX9_kept_45 (by decide) ?_
  exact ap_sub [0, 1, 2, 3] rfl (bl_X9_kept_49 hc hz  hq hk14  h)
def w_X9_kept_14_s   (kL14 : Int32 → Int32 → Int32 → ap_Mem → Prop) (q : Nat) (x1 : Int32) (x2 : Int32) (x3 : Int32) (M : ap_Mem) (K : Int32 → ap_Mem → Prop) : Prop :=
vp_in 30 936 ∧ (if (1 <<< ((M (q + 1) (30 : Int32).toNatClampNeg) &&& 31)) ≤ x3 then (K x2 M) else ((if x2 = (-5) then (w_X9_kept_44  kL14 q x1 x2 x3 M K) else (w_X9_countOf x3 M (fun r_4 M_5 => w_X9_countOf x2 M_5 (fun r_6 M_7 => (if r_6 ≤ r_4 then (w_X9_kept_49  kL14 q x1 x2 x3 0 M_7 K) else (w_X9_kept_44  kL14 q x1 x2 x3 M_7 K))))))))
def w_X9_kept_14   (q : Nat) (K : Int32 → ap_Mem → Prop) : Nat → Int32 → Int32 → Int32 → ap_Mem → Prop
  | 0, _, _, _, _ => False
  | n + 1, x1, x2, x3, M => w_X9_kept_14_s   (w_X9_kept_14   q K n) q x1 x2 x3 M K
theorem bl_X9_kept_14 {x : ap_X} {g : ap_G} (hc : ap_Cx x g cX9_kept RX9 5) {K : Int32 → ap_Mem → Prop} (hz : ap_Ends x g 7 (some .int) (ap_Qi K))   {q : Nat} (hq : ap_kd q = 9)   : ∀ (n : Nat) (x1 : Int32) (x2 : Int32) (x3 : Int32) (M : ap_Mem), w_X9_kept_14   q K n x1 x2 x3 M → ap_V x g 5 14 [(0, .ref (ap_ad g q)), (1, .int x1), (2, .int x2), (3, .int x3)] [] M := by
  have hg := hc.2.2.2.2.2.2.2.1
  intro n
  induction n with
  | zero => intro _ _ _ _ h; exact h.elim
  | succ n ih =>
    intro x1 x2 x3 M h
    replace h : w_X9_kept_14_s   (w_X9_kept_14   q K n) q x1 x2 x3 M K := h
    unfold w_X9_kept_14_s at h
    refine ap_iload_n (q := 15) hc dX9_kept_14 rfl rfl 3 rfl ?_
    refine ap_iconst (q := 16) hc dX9_kept_15 rfl ic_1 ?_
    refine ap_aload_n (q := 17) hc dX9_kept_16 rfl rfl 0 rfl ?_
    refine ap_getR (q := 20) (r := q + 1) lg_RX9_9 (by decide) hq rfl hc dX9_kept_17 rfl ?_
    refine ap_bipush (q := 22) hc dX9_kept_20 rfl bc_30 ?_
    obtain ⟨g_1, h⟩ := h
    refine ap_iald (q := 23) (ty_9_1 hq) (tn_9_1 hq) g_1 hc dX9_kept_22 rfl ?_
    refine ap_ishl (q := 24) hc dX9_kept_23 rfl ?_
    refine ap_icmp_ge (q := 27) (tgt := 77) hc dX9_kept_24 rfl (by decide) (fun z_2 => ?_) (fun z_2 => ?_)
    · have h := Eq.mp (if_pos z_2) h
      refine ap_iload_n (q := 78) hc dX9_kept_77 rfl rfl 2 rfl ?_
      exact ap_iret hc hz rfl dX9_kept_78 h
    · have h := Eq.mp (if_neg z_2) h
      refine ap_iload_n (q := 28) hc dX9_kept_27 rfl rfl 2 rfl ?_
      refine ap_bipush (q := 30) hc dX9_kept_28 rfl bc_m5 ?_
      refine ap_icmp_eq (q := 33) (tgt := 44) hc dX9_kept_30 rfl (by decide) (fun z_3 => ?_) (fun z_3 => ?_)
      · have h := Eq.mp (if_pos z_3) h
        exact ap_sub [0, 1, 2, 3] rfl (bl_X9_kept_44 hc hz  hq ih  h)
      · have h := Eq.mp (if_neg z_3) h
        refine ap_iload_n (q := 34) hc dX9_kept_33 rfl rfl 3 rfl ?_
        refine ap_callS (q := 37) (As := [.int x3]) hc (ok_X9_countOf hg  h) ml_RX9_165 lk_X9_countOf ls_X9_countOf (ap_RmE hz (by decide)) rfl rfl (Nat.le_of_ble_eq_true rfl) dX9_kept_34 rfl (ap_ki (fun r_4 M_5 h => ?_))
        refine ap_iload_n (q := 38) hc dX9_kept_37 rfl rfl 2 rfl ?_
        refine ap_callS (q := 41) (As := [.int x2]) hc (ok_X9_countOf hg  h) ml_RX9_165 lk_X9_countOf ls_X9_countOf (ap_RmE hz (by decide)) rfl rfl (Nat.le_of_ble_eq_true rfl) dX9_kept_38 rfl (ap_ki (fun r_6 M_7 h => ?_))
        refine ap_icmp_ge (q := 44) (tgt := 48) hc dX9_kept_41 rfl (by decide) (fun z_8 => ?_) (fun z_8 => ?_)
        · have h := Eq.mp (if_pos z_8) h
          refine ap_iconst (q := 49) hc dX9_kept_48 rfl ic_0 ?_
          exact ap_sub [0, 1, 2, 3] rfl (bl_X9_kept_49 hc hz  hq ih  h)
        · have h := Eq.mp (if_neg z_8) h
          exact ap_sub [0, 1, 2, 3] rfl (bl_X9_kept_44 hc hz  hq ih  h)
def w_X9_kept   (q : Nat) (x1 : Int32) (M : ap_Mem) (K : Int32 → ap_Mem → Prop) : Prop :=
w_X9_isCell x1 M (fun r_1 M_2 => (if r_1 = 0 then (K (-1) M_2) else (w_X9_kept_14   q K 4096 x1 (-5) 0 M_2)))
theorem bl_X9_kept_0 {x : ap_X} {g : ap_G} (hc : ap_Cx x g cX9_kept RX9 5) {K : Int32 → ap_Mem → Prop} (hz : ap_Ends x g 7 (some .int) (ap_Qi K))   {q : Nat} (hq : ap_kd q = 9)   {x1 : Int32} {M : ap_Mem}  (h : w_X9_kept   q x1 M K) : ap_V x g 5 0 [(0, .ref (ap_ad g q)), (1, .int x1)] [] M := by
  have hg := hc.2.2.2.2.2.2.2.1
  unfold w_X9_kept at h
  refine ap_iload_n (q := 1) hc dX9_kept_0 rfl rfl 1 rfl ?_
  refine ap_callS (q := 4) (As := [.int x1]) hc (ok_X9_isCell hg  h) ml_RX9_132 lk_X9_isCell ls_X9_isCell (ap_RmE hz (by decide)) rfl rfl (Nat.le_of_ble_eq_true rfl) dX9_kept_1 rfl (ap_ki (fun r_1 M_2 h => ?_))
  refine ap_if_ne (q := 7) (tgt := 9) hc dX9_kept_4 rfl (by decide) (fun z_3 => ?_) (fun z_3 => ?_)
  · have h := Eq.mp (if_neg z_3) h
    refine ap_bipush (q := 11) hc dX9_kept_9 rfl bc_m5 ?_
    refine ap_istore_n (q := 12) (lo2 := [(2, .int (-5)), (0, .ref (ap_ad g q)), (1, .int x1)]) hc dX9_kept_11 rfl rfl rfl (by decide) rfl ?_
    refine ap_iconst (q := 13) hc dX9_kept_12 rfl ic_0 ?_
    refine ap_istore_n (q := 14) (lo2 := [(3, .int 0), (2, .int (-5)), (0, .ref (ap_ad g q)), (1, .int x1)]) hc dX9_kept_13 rfl rfl rfl (by decide) rfl ?_
    exact ap_sub [2, 3, 1, 0] rfl (bl_X9_kept_14 hc hz  hq  _ _ _ _ _ h)
  · have h := Eq.mp (if_pos z_3) h
    refine ap_iconst (q := 8) hc dX9_kept_7 rfl ic_m1 ?_
    exact ap_iret hc hz rfl dX9_kept_8 h
theorem ok_X9_kept {l : Launch} {g : ap_G} (hg : ap_GOK g) {q : Nat} (hq : ap_kd q = 9) {x1 : Int32} {M : ap_Mem} {K : Int32 → ap_Mem → Prop} (h : w_X9_kept q x1 M K) : ap_Ct l g yX9_kept cX9_kept 5 (some .int) 7 [.ref (ap_ad g q), .int x1] M (ap_Qi K) := by
  refine ap_Ct_of hg (by decide +kernel) (Nat.le_of_ble_eq_true rfl) (fun x hx hc hz => ?_)
  subst hx
  exact bl_X9_kept_0 hc hz hq h
def w_X9_walk   (q : Nat) (x1 : Int32) (M : ap_Mem) (K : Int32 → ap_Mem → Prop) : Prop :=
(if x1 = (-1) then (vp_in 32 936 ∧ ∀ M_15 : ap_Mem, M_15 = ap_mu M (q + 1) (32 : Int32).toNatClampNeg 0 → K 0 M_15) else (w_X9_isCell x1 M (fun r_2 M_3 => (if r_2 = 0 then (K (-1) M_3) else (vp_in 32 936 ∧ (if (M_3 (q + 1) (32 : Int32).toNatClampNeg) = 10 then (K (-4) M_3) else (vp_in 32 936 ∧ vp_in (74 + (M_3 (q + 1) (32 : Int32).toNatClampNeg)) 936 ∧ ∀ M_9 : ap_Mem, M_9 = ap_mu M_3 (q + 1) (74 + (M_3 (q + 1) (32 : Int32).toNatClampNeg)).toNatClampNeg x1 → vp_in 32 936 ∧ vp_in 32 936 ∧ ∀ M_12 : ap_Mem, M_12 = ap_mu M_9 (q + 1) (32 : Int32).toNatClampNeg ((M_9 (q + 1) (32 : Int32).toNatClampNeg) + 1) → vp_in 32 936 ∧ K (M_12 (q + 1) (32 : Int32).toNatClampNeg) M_12)))))))
theorem bl_X9_walk_0 {x : ap_X} {g : ap_G} (hc : ap_Cx x g cX9_walk RX9 2) {K : Int32 → ap_Mem → Prop} (hz : ap_Ends x g 2 (some .int) (ap_Qi K))   {q : Nat} (hq : ap_kd q = 9)   {x1 : Int32} {M : ap_Mem}  (h : w_X9_walk   q x1 M K) : ap_V x g 2 0 [(0, .ref (ap_ad g q)), (1, .int x1)] [] M := by
  have hg := hc.2.2.2.2.2.2.2.1
  unfold w_X9_walk at h
  refine ap_iload_n (q := 1) hc dX9_walk_0 rfl rfl 1 rfl ?_
  refine ap_iconst (q := 2) hc dX9_walk_1 rfl ic_m1 ?_
  refine ap_icmp_ne (q := 5) (tgt := 15) hc dX9_walk_2 rfl (by decide) (fun z_1 => ?_) (fun z_1 => ?_)
  · have h := Eq.mp (if_neg z_1) h
    refine ap_iload_n (q := 16) hc dX9_walk_15 rfl rfl 1 rfl ?_
    refine ap_callS (q := 19) (As := [.int x1]) hc (ok_X9_isCell hg  h) ml_RX9_132 lk_X9_isCell ls_X9_isCell (ap_RmE hz (by decide)) rfl rfl (Nat.le_of_ble_eq_true rfl) dX9_walk_16 rfl (ap_ki (fun r_2 M_3 h => ?_))
    refine ap_if_ne (q := 22) (tgt := 24) hc dX9_walk_19 rfl (by decide) (fun z_4 => ?_) (fun z_4 => ?_)
    · have h := Eq.mp (if_neg z_4) h
      refine ap_aload_n (q := 25) hc dX9_walk_24 rfl rfl 0 rfl ?_
      refine ap_getR (q := 28) (r := q + 1) lg_RX9_9 (by decide) hq rfl hc dX9_walk_25 rfl ?_
      refine ap_bipush (q := 30) hc dX9_walk_28 rfl bc_32 ?_
      obtain ⟨g_5, h⟩ := h
      refine ap_iald (q := 31) (ty_9_1 hq) (tn_9_1 hq) g_5 hc dX9_walk_30 rfl ?_
      refine ap_bipush (q := 33) hc dX9_walk_31 rfl bc_10 ?_
      refine ap_icmp_ne (q := 36) (tgt := 39) hc dX9_walk_33 rfl (by decide) (fun z_6 => ?_) (fun z_6 => ?_)
      · have h := Eq.mp (if_neg z_6) h
        refine ap_aload_n (q := 40) hc dX9_walk_39 rfl rfl 0 rfl ?_
        refine ap_getR (q := 43) (r := q + 1) lg_RX9_9 (by decide) hq rfl hc dX9_walk_40 rfl ?_
        refine ap_bipush (q := 45) hc dX9_walk_43 rfl bc_74 ?_
        refine ap_aload_n (q := 46) hc dX9_walk_45 rfl rfl 0 rfl ?_
        refine ap_getR (q := 49) (r := q + 1) lg_RX9_9 (by decide) hq rfl hc dX9_walk_46 rfl ?_
        refine ap_bipush (q := 51) hc dX9_walk_49 rfl bc_32 ?_
        obtain ⟨g_7, h⟩ := h
        refine ap_iald (q := 52) (ty_9_1 hq) (tn_9_1 hq) g_7 hc dX9_walk_51 rfl ?_
        refine ap_iadd (q := 53) hc dX9_walk_52 rfl ?_
        refine ap_iload_n (q := 54) hc dX9_walk_53 rfl rfl 1 rfl ?_
        obtain ⟨g_8, h⟩ := h
        obtain ⟨M_9, eM_9, h⟩ := ap_nm h
        refine ap_iast (q := 55) (ty_9_1 hq) (tn_9_1 hq) g_8 eM_9 hc dX9_walk_54 rfl ?_
        refine ap_aload_n (q := 56) hc dX9_walk_55 rfl rfl 0 rfl ?_
        refine ap_getR (q := 59) (r := q + 1) lg_RX9_9 (by decide) hq rfl hc dX9_walk_56 rfl ?_
        refine ap_bipush (q := 61) hc dX9_walk_59 rfl bc_32 ?_
        refine ap_dup2 (q := 62) hc dX9_walk_61 rfl rfl rfl ?_
        obtain ⟨g_10, h⟩ := h
        refine ap_iald (q := 63) (ty_9_1 hq) (tn_9_1 hq) g_10 hc dX9_walk_62 rfl ?_
        refine ap_iconst (q := 64) hc dX9_walk_63 rfl ic_1 ?_
        refine ap_iadd (q := 65) hc dX9_walk_64 rfl ?_
        obtain ⟨g_11, h⟩ := h
        obtain ⟨M_12, eM_12, h⟩ := ap_nm h
        refine ap_iast (q := 66) (ty_9_1 hq) (tn_9_1 hq) g_11 eM_12 hc dX9_walk_65 rfl ?_
        refine ap_aload_n (q := 67) hc dX9_walk_66 rfl rfl 0 rfl ?_
        refine ap_getR (q := 70) (r := q + 1) lg_RX9_9 (by decide) hq rfl hc dX9_walk_67 rfl ?_
        refine ap_bipush (q := 72) hc dX9_walk_70 rfl bc_32 ?_
        obtain ⟨g_13, h⟩ := h
        refine ap_iald (q := 73) (ty_9_1 hq) (tn_9_1 hq) g_13 hc dX9_walk_72 rfl ?_
        exact ap_iret hc hz rfl dX9_walk_73 h
      · have h := Eq.mp (if_pos z_6) h
        refine ap_bipush (q := 38) hc dX9_walk_36 rfl bc_m4 ?_
        exact ap_iret hc hz rfl dX9_walk_38 h
    · have h := Eq.mp (if_pos z_4) h
      refine ap_iconst (q := 23) hc dX9_walk_22 rfl ic_m1 ?_
      exact ap_iret hc hz rfl dX9_walk_23 h
  · have h := Eq.mp (if_pos z_1) h
    refine ap_aload_n (q := 6) hc dX9_walk_5 rfl rfl 0 rfl ?_
    refine ap_getR (q := 9) (r := q + 1) lg_RX9_9 (by decide) hq rfl hc dX9_walk_6 rfl ?_
    refine ap_bipush (q := 11) hc dX9_walk_9 rfl bc_32 ?_
    refine ap_iconst (q := 12) hc dX9_walk_11 rfl ic_0 ?_
    obtain ⟨g_14, h⟩ := h
    obtain ⟨M_15, eM_15, h⟩ := ap_nm h
    refine ap_iast (q := 13) (ty_9_1 hq) (tn_9_1 hq) g_14 eM_15 hc dX9_walk_12 rfl ?_
    refine ap_iconst (q := 14) hc dX9_walk_13 rfl ic_0 ?_
    exact ap_iret hc hz rfl dX9_walk_14 h
theorem ok_X9_walk {l : Launch} {g : ap_G} (hg : ap_GOK g) {q : Nat} (hq : ap_kd q = 9) {x1 : Int32} {M : ap_Mem} {K : Int32 → ap_Mem → Prop} (h : w_X9_walk q x1 M K) : ap_Ct l g yX9_walk cX9_walk 2 (some .int) 2 [.ref (ap_ad g q), .int x1] M (ap_Qi K) := by
  refine ap_Ct_of hg (by decide +kernel) (Nat.le_of_ble_eq_true rfl) (fun x hx hc hz => ?_)
  subst hx
  exact bl_X9_walk_0 hc hz hq h
def w_X9_met_81   (q : Nat) (x2 : Int32) (M : ap_Mem) (K : Int32 → ap_Mem → Prop) : Prop :=
w_X9_goesBack q M (fun M_1 => K x2 M_1)
theorem bl_X9_met_81 {x : ap_X} {g : ap_G} (hc : ap_Cx x g cX9_met RX9 4) {K : Int32 → ap_Mem → Prop} (hz : ap_Ends x g 6 (some .int) (ap_Qi K))   {q : Nat} (hq : ap_kd q = 9)   {x2 : Int32} {M : ap_Mem}  (h : w_X9_met_81   q x2 M K) : ap_V x g 4 81 [(0, .ref (ap_ad g q)), (2, .int x2)] [] M := by
  have hg := hc.2.2.2.2.2.2.2.1
  unfold w_X9_met_81 at h
  refine ap_aload_n (q := 82) hc dX9_met_81 rfl rfl 0 rfl ?_
  refine ap_callV (q := 85) (As := []) hc (ok_X9_goesBack hg hq h) ml_RX9_158 lk_X9_goesBack lv_X9_goesBack hq rfl (ap_RmE hz (by decide)) rfl rfl (Nat.le_of_ble_eq_true rfl) dX9_met_82 rfl (ap_kv (fun M_1 h => ?_))
  refine ap_iload_n (q := 86) hc dX9_met_85 rfl rfl 1 rfl ?_
  exact ap_iret hc hz rfl dX9_met_86 h
def w_X9_met_70  (kL20 : Int32 → Int32 → Int32 → ap_Mem → Prop) (q : Nat) (x1 : Int32) (x3 : Int32) (s0 : Int32) (M : ap_Mem) (K : Int32 → ap_Mem → Prop) : Prop :=
w_X9_goes q M (fun M_1 => ∀ x3_2 : Int32, x3_2 = x3 + 1 → kL20 x1 s0 x3_2 M_1)
theorem bl_X9_met_70 {x : ap_X} {g : ap_G} (hc : ap_Cx x g cX9_met RX9 4) {K : Int32 → ap_Mem → Prop} (hz : ap_Ends x g 6 (some .int) (ap_Qi K))   {q : Nat} (hq : ap_kd q = 9) {kL20 : Int32 → Int32 → Int32 → ap_Mem → Prop} (hk20 : ∀ (x1 : Int32) (x2 : Int32) (x3 : Int32)  (M : ap_Mem), kL20 x1 x2 x3 M → ap_V x g 4 20 [(0, .ref (ap_ad g q)), (1, .int x1), (2, .int x2), (3, .int x3)] [] M) {x1 : Int32} {x3 : Int32} {s0 : Int32} {M : ap_Mem}  (h : w_X9_met_70  kL20 q x1 x3 s0 M K) : ap_V x g 4 70 [(0, .ref (ap_ad g q)), (1, .int x1), (3, .int x3)] [.int s0] M := by
  have hg := hc.2.2.2.2.2.2.2.1
  unfold w_X9_met_70 at h
  refine ap_istore_n (q := 71) (lo2 := [(2, .int s0), (0, .ref (ap_ad g q)), (1, .int x1), (3, .int x3)]) hc dX9_met_70 rfl rfl rfl (by decide) rfl ?_
  refine ap_aload_n (q := 72) hc dX9_met_71 rfl rfl 1 rfl ?_
  refine ap_callV (q := 75) (As := []) hc (ok_X9_goes hg hq h) ml_RX9_149 lk_X9_goes lv_X9_goes hq rfl (ap_RmE hz (by decide)) rfl rfl (Nat.le_of_ble_eq_true rfl) dX9_met_72 rfl (ap_kv (fun M_1 h => ?_))
  obtain ⟨x3_2, ex3_2, h⟩ := ap_nm h
  refine ap_iinc (q := 78) (lo2 := [(3, .int x3_2), (2, .int s0), (0, .ref (ap_ad g q)), (1, .int x1)]) hc dX9_met_75 rfl 3 rfl (by rw [ex3_2]; rfl) (by decide) rfl ?_
  refine ap_goto (q := 20) hc dX9_met_78 (by decide) ?_
  exact ap_sub [2, 3, 1, 0] rfl (hk20 _ _ _ _ h)
def w_X9_met_68  (kL20 : Int32 → Int32 → Int32 → ap_Mem → Prop) (q : Nat) (x1 : Int32) (x3 : Int32) (M : ap_Mem) (K : Int32 → ap_Mem → Prop) : Prop :=
w_X9_met_70  kL20 q x1 x3 (-5) M K
theorem bl_X9_met_68 {x : ap_X} {g : ap_G} (hc : ap_Cx x g cX9_met RX9 4) {K : Int32 → ap_Mem → Prop} (hz : ap_Ends x g 6 (some .int) (ap_Qi K))   {q : Nat} (hq : ap_kd q = 9) {kL20 : Int32 → Int32 → Int32 → ap_Mem → Prop} (hk20 : ∀ (x1 : Int32) (x2 : Int32) (x3 : Int32)  (M : ap_Mem), kL20 x1 x2 x3 M → ap_V x g 4 20 [(0, .ref (ap_ad g q)), (1, .int x1), (2, .int x2), (3, .int x3)] [] M) {x1 : Int32} {x3 : Int32} {M : ap_Mem}  (h : w_X9_met_68  kL20 q x1 x3 M K) : ap_V x g 4 68 [(0, .ref (ap_ad g q)), (1, .int x1), (3, .int x3)] [] M := by
  unfold w_X9_met_68 at h
  refine ap_bipush (q := 70) hc dX9_met_68 rfl bc_m5 ?_
  exact ap_sub [0, 1, 2] rfl (bl_X9_met_70 hc hz  hq hk20  h)
def w_X9_met_20_s   (kL20 : Int32 → Int32 → Int32 → ap_Mem → Prop) (q : Nat) (x1 : Int32) (x2 : Int32) (x3 : Int32) (M : ap_Mem) (K : Int32 → ap_Mem → Prop) : Prop :=
vp_in 32 936 ∧ (if ((M (q + 1) (32 : Int32).toNatClampNeg) + x1) ≤ x3 then (w_X9_met_81   q x2 M K) else ((if x2 = (-5) then ((if x3 < x1 then (w_X9_met_68  kL20 q x1 x3 M K) else (vp_in 1 936 ∧ vp_in ((74 + x3) - x1) 936 ∧ (if (M (q + 1) (1 : Int32).toNatClampNeg) = (M (q + 1) ((74 + x3) - x1).toNatClampNeg) then (w_X9_met_70  kL20 q x1 x3 x3 M K) else (w_X9_met_68  kL20 q x1 x3 M K))))) else (w_X9_met_81   q x2 M K))))
def w_X9_met_20   (q : Nat) (K : Int32 → ap_Mem → Prop) : Nat → Int32 → Int32 → Int32 → ap_Mem → Prop
  | 0, _, _, _, _ => False
  | n + 1, x1, x2, x3, M => w_X9_met_20_s   (w_X9_met_20   q K n) q x1 x2 x3 M K
theorem bl_X9_met_20 {x : ap_X} {g : ap_G} (hc : ap_Cx x g cX9_met RX9 4) {K : Int32 → ap_Mem → Prop} (hz : ap_Ends x g 6 (some .int) (ap_Qi K))   {q : Nat} (hq : ap_kd q = 9)   : ∀ (n : Nat) (x1 : Int32) (x2 : Int32) (x3 : Int32) (M : ap_Mem), w_X9_met_20   q K n x1 x2 x3 M → ap_V x g 4 20 [(0, .ref (ap_ad g q)), (1, .int x1), (2, .int x2), (3, .int x3)] [] M := by
  intro n
  induction n with
  | zero => intro _ _ _ _ h; exact h.elim
  | succ n ih =>
    intro x1 x2 x3 M h
    replace h : w_X9_met_20_s   (w_X9_met_20   q K n) q x1 x2 x3 M K := h
    unfold w_X9_met_20_s at h
    refine ap_iload_n (q := 21) hc dX9_met_20 rfl rfl 3 rfl ?_
    refine ap_aload_n (q := 22) hc dX9_met_21 rfl rfl 0 rfl ?_
    refine ap_getR (q := 25) (r := q + 1) lg_RX9_9 (by decide) hq rfl hc dX9_met_22 rfl ?_
    refine ap_bipush (q := 27) hc dX9_met_25 rfl bc_32 ?_
    obtain ⟨g_1, h⟩ := h
    refine ap_iald (q := 28) (ty_9_1 hq) (tn_9_1 hq) g_1 hc dX9_met_27 rfl ?_
    refine ap_iload_n (q := 29) hc dX9_met_28 rfl rfl 1 rfl ?_
    refine ap_iadd (q := 30) hc dX9_met_29 rfl ?_
    refine ap_icmp_ge (q := 33) (tgt := 81) hc dX9_met_30 rfl (by decide) (fun z_2 => ?_) (fun z_2 => ?_)
    · have h := Eq.mp (if_pos z_2) h
      exact ap_sub [0, 2] rfl (bl_X9_met_81 hc hz  hq   h)
    · have h := Eq.mp (if_neg z_2) h
      refine ap_iload_n (q := 34) hc dX9_met_33 rfl rfl 2 rfl ?_
      refine ap_bipush (q := 36) hc dX9_met_34 rfl bc_m5 ?_
      refine ap_icmp_ne (q := 39) (tgt := 81) hc dX9_met_36 rfl (by decide) (fun z_3 => ?_) (fun z_3 => ?_)
      · have h := Eq.mp (if_neg z_3) h
        exact ap_sub [0, 2] rfl (bl_X9_met_81 hc hz  hq   h)
      · have h := Eq.mp (if_pos z_3) h
        refine ap_iload_n (q := 40) hc dX9_met_39 rfl rfl 3 rfl ?_
        refine ap_iload_n (q := 41) hc dX9_met_40 rfl rfl 1 rfl ?_
        refine ap_icmp_lt (q := 44) (tgt := 68) hc dX9_met_41 rfl (by decide) (fun z_4 => ?_) (fun z_4 => ?_)
        · have h := Eq.mp (if_pos z_4) h
          exact ap_sub [0, 1, 3] rfl (bl_X9_met_68 hc hz  hq ih  h)
        · have h := Eq.mp (if_neg z_4) h
          refine ap_aload_n (q := 45) hc dX9_met_44 rfl rfl 0 rfl ?_
          refine ap_getR (q := 48) (r := q + 1) lg_RX9_9 (by decide) hq rfl hc dX9_met_45 rfl ?_
          refine ap_iconst (q := 49) hc dX9_met_48 rfl ic_1 ?_
          obtain ⟨g_5, h⟩ := h
          refine ap_iald (q := 50) (ty_9_1 hq) (tn_9_1 hq) g_5 hc dX9_met_49 rfl ?_
          refine ap_aload_n (q := 51) hc dX9_met_50 rfl rfl 0 rfl ?_
          refine ap_getR (q := 54) (r := q + 1) lg_RX9_9 (by decide) hq rfl hc dX9_met_51 rfl ?_
          refine ap_bipush (q := 56) hc dX9_met_54 rfl bc_74 ?_
          refine ap_iload_n (q := 57) hc dX9_met_56 rfl rfl 3 rfl ?_
          refine ap_iadd (q := 58) hc dX9_met_57 rfl ?_
          refine ap_iload_n (q := 59) hc dX9_met_58 rfl rfl 1 rfl ?_
          refine ap_isub (q := 60) hc dX9_met_59 rfl ?_
          obtain ⟨g_6, h⟩ := h
          refine ap_iald (q := 61) (ty_9_1 hq) (tn_9_1 hq) g_6 hc dX9_met_60 rfl ?_
          refine ap_icmp_ne (q := 64) (tgt := 68) hc dX9_met_61 rfl (by decide) (fun z_7 => ?_) (fun z_7 => ?_)
          · have h := Eq.mp (if_neg z_7) h
            exact ap_sub [0, 1, 3] rfl (bl_X9_met_68 hc hz  hq ih  h)
          · have h := Eq.mp (if_pos z_7) h
            refine ap_iload_n (q := 65) hc dX9_met_64 rfl rfl 3 rfl ?_
            refine ap_goto (q := 70) hc dX9_met_65 (by decide) ?_
            exact ap_sub [0, 1, 3] rfl (bl_X9_met_70 hc hz  hq ih  h)
def w_X9_met   (q : Nat) (x1 : Int32) (M : ap_Mem) (K : Int32 → ap_Mem → Prop) : Prop :=
w_X9_in x1 0 1 M (fun r_1 M_2 => (if r_1 = 0 then (K (-1) M_2) else (w_X9_keeps q M_2 (fun M_4 => w_X9_met_20   q K 4096 x1 (-5) 0 M_4))))
theorem bl_X9_met_0 {x : ap_X} {g : ap_G} (hc : ap_Cx x g cX9_met RX9 4) {K : Int32 → ap_Mem → Prop} (hz : ap_Ends x g 6 (some .int) (ap_Qi K))   {q : Nat} (hq : ap_kd q = 9)   {x1 : Int32} {M : ap_Mem}  (h : w_X9_met   q x1 M K) : ap_V x g 4 0 [(0, .ref (ap_ad g q)), (1, .int x1)] [] M := by
  have hg := hc.2.2.2.2.2.2.2.1
  unfold w_X9_met at h
  refine ap_iload_n (q := 1) hc dX9_met_0 rfl rfl 1 rfl ?_
  refine ap_iconst (q := 2) hc dX9_met_1 rfl ic_0 ?_
  refine ap_iconst (q := 3) hc dX9_met_2 rfl ic_1 ?_
  refine ap_callS (q := 6) (As := [.int x1, .int 0, .int 1]) hc (ok_X9_in hg  h) ml_RX9_35 lk_X9_in ls_X9_in (ap_RmE hz (by decide)) rfl rfl (Nat.le_of_ble_eq_true rfl) dX9_met_3 rfl (ap_ki (fun r_1 M_2 h => ?_))
  refine ap_if_ne (q := 9) (tgt := 11) hc dX9_met_6 rfl (by decide) (fun z_3 => ?_) (fun z_3 => ?_)
  · have h := Eq.mp (if_neg z_3) h
    refine ap_aload_n (q := 12) hc dX9_met_11 rfl rfl 0 rfl ?_
    refine ap_callV (q := 15) (As := []) hc (ok_X9_keeps hg hq h) ml_RX9_152 lk_X9_keeps lv_X9_keeps hq rfl (ap_RmE hz (by decide)) rfl rfl (Nat.le_of_ble_eq_true rfl) dX9_met_12 rfl (ap_kv (fun M_4 h => ?_))
    refine ap_bipush (q := 17) hc dX9_met_15 rfl bc_m5 ?_
    refine ap_istore_n (q := 18) (lo2 := [(2, .int (-5)), (0, .ref (ap_ad g q)), (1, .int x1)]) hc dX9_met_17 rfl rfl rfl (by decide) rfl ?_
    refine ap_iconst (q := 19) hc dX9_met_18 rfl ic_0 ?_
    refine ap_istore_n (q := 20) (lo2 := [(3, .int 0), (2, .int (-5)), (0, .ref (ap_ad g q)), (1, .int x1)]) hc dX9_met_19 rfl rfl rfl (by decide) rfl ?_
    exact ap_sub [2, 3, 1, 0] rfl (bl_X9_met_20 hc hz  hq  _ _ _ _ _ h)
  · have h := Eq.mp (if_pos z_3) h
    refine ap_iconst (q := 10) hc dX9_met_9 rfl ic_m1 ?_
    exact ap_iret hc hz rfl dX9_met_10 h
theorem ok_X9_met {l : Launch} {g : ap_G} (hg : ap_GOK g) {q : Nat} (hq : ap_kd q = 9) {x1 : Int32} {M : ap_Mem} {K : Int32 → ap_Mem → Prop} (h : w_X9_met q x1 M K) : ap_Ct l g yX9_met cX9_met 4 (some .int) 6 [.ref (ap_ad g q), .int x1] M (ap_Qi K) := by
  refine ap_Ct_of hg (by decide +kernel) (Nat.le_of_ble_eq_true rfl) (fun x hx hc hz => ?_)
  subst hx
  exact bl_X9_met_0 hc hz hq h
def w_X9_see   (q : Nat) (x1 : Int32) (x2 : Int32) (M : ap_Mem) (K : Int32 → ap_Mem → Prop) : Prop :=
(if x1 = (-1) then (vp_in 33 936 ∧ ∀ M_21 : ap_Mem, M_21 = ap_mu M (q + 1) (33 : Int32).toNatClampNeg 0 → K 0 M_21) else (w_X9_isCell x1 M (fun r_2 M_3 => (if r_2 = 0 then (K (-1) M_3) else (w_X9_in x2 0 20 M_3 (fun r_5 M_6 => (if r_5 = 0 then (K (-2) M_6) else (vp_in 33 936 ∧ (if (M_6 (q + 1) (33 : Int32).toNatClampNeg) = 5 then (K (-4) M_6) else (vp_in 33 936 ∧ vp_in (84 + (M_6 (q + 1) (33 : Int32).toNatClampNeg)) 936 ∧ ∀ M_12 : ap_Mem, M_12 = ap_mu M_6 (q + 1) (84 + (M_6 (q + 1) (33 : Int32).toNatClampNeg)).toNatClampNeg x1 → vp_in 33 936 ∧ vp_in (89 + (M_12 (q + 1) (33 : Int32).toNatClampNeg)) 936 ∧ ∀ M_15 : ap_Mem, M_15 = ap_mu M_12 (q + 1) (89 + (M_12 (q + 1) (33 : Int32).toNatClampNeg)).toNatClampNeg x2 → vp_in 33 936 ∧ vp_in 33 936 ∧ ∀ M_18 : ap_Mem, M_18 = ap_mu M_15 (q + 1) (33 : Int32).toNatClampNeg ((M_15 (q + 1) (33 : Int32).toNatClampNeg) + 1) → vp_in 33 936 ∧ K (M_18 (q + 1) (33 : Int32).toNatClampNeg) M_18))))))))))
theorem bl_X9_see_0 {x : ap_X} {g : ap_G} (hc : ap_Cx x g cX9_see RX9 3) {K : Int32 → ap_Mem → Prop} (hz : ap_Ends x g 2 (some .int) (ap_Qi K))   {q : Nat} (hq : ap_kd q = 9)   {x1 : Int32} {x2 : Int32} {M : ap_Mem}  (h : w_X9_see   q x1 x2 M K) : ap_V x g 3 0 [(0, .ref (ap_ad g q)), (1, .int x1), (2, .int x2)] [] M := by
  have hg := hc.2.2.2.2.2.2.2.1
  unfold w_X9_see at h
  refine ap_iload_n (q := 1) hc dX9_see_0 rfl rfl 1 rfl ?_
  refine ap_iconst (q := 2) hc dX9_see_1 rfl ic_m1 ?_
  refine ap_icmp_ne (q := 5) (tgt := 15) hc dX9_see_2 rfl (by decide) (fun z_1 => ?_) (fun z_1 => ?_)
  · have h := Eq.mp (if_neg z_1) h
    refine ap_iload_n (q := 16) hc dX9_see_15 rfl rfl 1 rfl ?_
    refine ap_callS (q := 19) (As := [.int x1]) hc (ok_X9_isCell hg  h) ml_RX9_132 lk_X9_isCell ls_X9_isCell (ap_RmE hz (by decide)) rfl rfl (Nat.le_of_ble_eq_true rfl) dX9_see_16 rfl (ap_ki (fun r_2 M_3 h => ?_))
    refine ap_if_ne (q := 22) (tgt := 24) hc dX9_see_19 rfl (by decide) (fun z_4 => ?_) (fun z_4 => ?_)
    · have h := Eq.mp (if_neg z_4) h
      refine ap_iload_n (q := 25) hc dX9_see_24 rfl rfl 2 rfl ?_
      refine ap_iconst (q := 26) hc dX9_see_25 rfl ic_0 ?_
      refine ap_bipush (q := 28) hc dX9_see_26 rfl bc_20 ?_
      refine ap_callS (q := 31) (As := [.int x2, .int 0, .int 20]) hc (ok_X9_in hg  h) ml_RX9_35 lk_X9_in ls_X9_in (ap_RmE hz (by decide)) rfl rfl (Nat.le_of_ble_eq_true rfl) dX9_see_28 rfl (ap_ki (fun r_5 M_6 h => ?_))
      refine ap_if_ne (q := 34) (tgt := 37) hc dX9_see_31 rfl (by decide) (fun z_7 => ?_) (fun z_7 => ?_)
      · have h := Eq.mp (if_neg z_7) h
        refine ap_aload_n (q := 38) hc dX9_see_37 rfl rfl 0 rfl ?_
        refine ap_getR (q := 41) (r := q + 1) lg_RX9_9 (by decide) hq rfl hc dX9_see_38 rfl ?_
        refine ap_bipush (q := 43) hc dX9_see_41 rfl bc_33 ?_
        obtain ⟨g_8, h⟩ := h
        refine ap_iald (q := 44) (ty_9_1 hq) (tn_9_1 hq) g_8 hc dX9_see_43 rfl ?_
        refine ap_iconst (q := 45) hc dX9_see_44 rfl ic_5 ?_
        refine ap_icmp_ne (q := 48) (tgt := 51) hc dX9_see_45 rfl (by decide) (fun z_9 => ?_) (fun z_9 => ?_)
        · have h := Eq.mp (if_neg z_9) h
          refine ap_aload_n (q := 52) hc dX9_see_51 rfl rfl 0 rfl ?_
          refine ap_getR (q := 55) (r := q + 1) lg_RX9_9 (by decide) hq rfl hc dX9_see_52 rfl ?_
          refine ap_bipush (q := 57) hc dX9_see_55 rfl bc_84 ?_
          refine ap_aload_n (q := 58) hc dX9_see_57 rfl rfl 0 rfl ?_
          refine ap_getR (q := 61) (r := q + 1) lg_RX9_9 (by decide) hq rfl hc dX9_see_58 rfl ?_
          refine ap_bipush (q := 63) hc dX9_see_61 rfl bc_33 ?_
          obtain ⟨g_10, h⟩ := h
          refine ap_iald (q := 64) (ty_9_1 hq) (tn_9_1 hq) g_10 hc dX9_see_63 rfl ?_
          refine ap_iadd (q := 65) hc dX9_see_64 rfl ?_
          refine ap_iload_n (q := 66) hc dX9_see_65 rfl rfl 1 rfl ?_
          obtain ⟨g_11, h⟩ := h
          obtain ⟨M_12, eM_12, h⟩ := ap_nm h
          refine ap_iast (q := 67) (ty_9_1 hq) (tn_9_1 hq) g_11 eM_12 hc dX9_see_66 rfl ?_
          refine ap_aload_n (q := 68) hc dX9_see_67 rfl rfl 0 rfl ?_
          refine ap_getR (q := 71) (r := q + 1) lg_RX9_9 (by decide) hq rfl hc dX9_see_68 rfl ?_
          refine ap_bipush (q := 73) hc dX9_see_71 rfl bc_89 ?_
          refine ap_aload_n (q := 74) hc dX9_see_73 rfl rfl 0 rfl ?_
          refine ap_getR (q := 77) (r := q + 1) lg_RX9_9 (by decide) hq rfl hc dX9_see_74 rfl ?_
          refine ap_bipush (q := 79) hc dX9_see_77 rfl bc_33 ?_
          obtain ⟨g_13, h⟩ := h
          refine ap_iald (q := 80) (ty_9_1 hq) (tn_9_1 hq) g_13 hc dX9_see_79 rfl ?_
          refine ap_iadd (q := 81) hc dX9_see_80 rfl ?_
          refine ap_iload_n (q := 82) hc dX9_see_81 rfl rfl 2 rfl ?_
          obtain ⟨g_14, h⟩ := h
          obtain ⟨M_15, eM_15, h⟩ := ap_nm h
          refine ap_iast (q := 83) (ty_9_1 hq) (tn_9_1 hq) g_14 eM_15 hc dX9_see_82 rfl ?_
          refine ap_aload_n (q := 84) hc dX9_see_83 rfl rfl 0 rfl ?_
          refine ap_getR (q := 87) (r := q + 1) lg_RX9_9 (by decide) hq rfl hc dX9_see_84 rfl ?_
          refine ap_bipush (q := 89) hc dX9_see_87 rfl bc_33 ?_
          refine ap_dup2 (q := 90) hc dX9_see_89 rfl rfl rfl ?_
          obtain ⟨g_16, h⟩ := h
          refine ap_iald (q := 91) (ty_9_1 hq) (tn_9_1 hq) g_16 hc dX9_see_90 rfl ?_
          refine ap_iconst (q := 92) hc dX9_see_91 rfl ic_1 ?_
          refine ap_iadd (q := 93) hc dX9_see_92 rfl ?_
          obtain ⟨g_17, h⟩ := h
          obtain ⟨M_18, eM_18, h⟩ := ap_nm h
          refine ap_iast (q := 94) (ty_9_1 hq) (tn_9_1 hq) g_17 eM_18 hc dX9_see_93 rfl ?_
          refine ap_aload_n (q := 95) hc dX9_see_94 rfl rfl 0 rfl ?_
          refine ap_getR (q := 98) (r := q + 1) lg_RX9_9 (by decide) hq rfl hc dX9_see_95 rfl ?_
          refine ap_bipush (q := 100) hc dX9_see_98 rfl bc_33 ?_
          obtain ⟨g_19, h⟩ := h
          refine ap_iald (q := 101) (ty_9_1 hq) (tn_9_1 hq) g_19 hc dX9_see_100 rfl ?_
          exact ap_iret hc hz rfl dX9_see_101 h
        · have h := Eq.mp (if_pos z_9) h
          refine ap_bipush (q := 50) hc dX9_see_48 rfl bc_m4 ?_
          exact ap_iret hc hz rfl dX9_see_50 h
      · have h := Eq.mp (if_pos z_7) h
        refine ap_bipush (q := 36) hc dX9_see_34 rfl bc_m2 ?_
        exact ap_iret hc hz rfl dX9_see_36 h
    · have h := Eq.mp (if_pos z_4) h
      refine ap_iconst (q := 23) hc dX9_see_22 rfl ic_m1 ?_
      exact ap_iret hc hz rfl dX9_see_23 h
  · have h := Eq.mp (if_pos z_1) h
    refine ap_aload_n (q := 6) hc dX9_see_5 rfl rfl 0 rfl ?_
    refine ap_getR (q := 9) (r := q + 1) lg_RX9_9 (by decide) hq rfl hc dX9_see_6 rfl ?_
    refine ap_bipush (q := 11) hc dX9_see_9 rfl bc_33 ?_
    refine ap_iconst (q := 12) hc dX9_see_11 rfl ic_0 ?_
    obtain ⟨g_20, h⟩ := h
    obtain ⟨M_21, eM_21, h⟩ := ap_nm h
    refine ap_iast (q := 13) (ty_9_1 hq) (tn_9_1 hq) g_20 eM_21 hc dX9_see_12 rfl ?_
    refine ap_iconst (q := 14) hc dX9_see_13 rfl ic_0 ?_
    exact ap_iret hc hz rfl dX9_see_14 h
theorem ok_X9_see {l : Launch} {g : ap_G} (hg : ap_GOK g) {q : Nat} (hq : ap_kd q = 9) {x1 : Int32} {x2 : Int32} {M : ap_Mem} {K : Int32 → ap_Mem → Prop} (h : w_X9_see q x1 x2 M K) : ap_Ct l g yX9_see cX9_see 3 (some .int) 2 [.ref (ap_ad g q), .int x1, .int x2] M (ap_Qi K) := by
  refine ap_Ct_of hg (by decide +kernel) (Nat.le_of_ble_eq_true rfl) (fun x hx hc hz => ?_)
  subst hx
  exact bl_X9_see_0 hc hz hq h
def w_X9_isAsSeen_55  (kL4 : Int32 → Int32 → Int32 → ap_Mem → Prop) (q : Nat) (x1 : Int32) (x3 : Int32) (s0 : Int32) (M : ap_Mem) (K : Int32 → ap_Mem → Prop) : Prop :=
∀ x3_1 : Int32, x3_1 = x3 + 1 → kL4 x1 s0 x3_1 M
theorem bl_X9_isAsSeen_55 {x : ap_X} {g : ap_G} (hc : ap_Cx x g cX9_isAsSeen RX9 4) {K : Int32 → ap_Mem → Prop} (hz : ap_Ends x g 0 (some .boolean) (ap_Qi K))   {q : Nat} (hq : ap_kd q = 9) {kL4 : Int32 → Int32 → Int32 → ap_Mem → Prop} (hk4 : ∀ (x1 : Int32) (x2 : Int32) (x3 : Int32)  (M : ap_Mem), kL4 x1 x2 x3 M → ap_V x g 4 4 [(0, .ref (ap_ad g q)), (1, .int x1), (2, .int x2), (3, .int x3)] [] M) {x1 : Int32} {x3 : Int32} {s0 : Int32} {M : ap_Mem}  (h : w_X9_isAsSeen_55  kL4 q x1 x3 s0 M K) : ap_V x g 4 55 [(0, .ref (ap_ad g q)), (1, .int x1), (3, .int x3)] [.int s0] M := by
  unfold w_X9_isAsSeen_55 at h
  refine ap_istore_n (q := 56) (lo2 := [(2, .int s0), (0, .ref (ap_ad g q)), (1, .int x1), (3, .int x3)]) hc dX9_isAsSeen_55 rfl rfl rfl (by decide) rfl ?_
  obtain ⟨x3_1, ex3_1, h⟩ := ap_nm h
  refine ap_iinc (q := 59) (lo2 := [(3, .int x3_1), (2, .int s0), (0, .ref (ap_ad g q)), (1, .int x1)]) hc dX9_isAsSeen_56 rfl 3 rfl (by rw [ex3_1]; rfl) (by decide) rfl ?_
  refine ap_goto (q := 4) hc dX9_isAsSeen_59 (by decide) ?_
  exact ap_sub [2, 3, 1, 0] rfl (hk4 _ _ _ _ h)
def w_X9_isAsSeen_50  (kL4 : Int32 → Int32 → Int32 → ap_Mem → Prop) (q : Nat) (x1 : Int32) (x3 : Int32) (M : ap_Mem) (K : Int32 → ap_Mem → Prop) : Prop :=
w_X9_isAsSeen_55  kL4 q x1 x3 1 M K
theorem bl_X9_isAsSeen_50 {x : ap_X} {g : ap_G} (hc : ap_Cx x g cX9_isAsSeen RX9 4) {K : Int32 → ap_Mem → Prop} (hz : ap_Ends x g 0 (some .boolean) (ap_Qi K))   {q : Nat} (hq : ap_kd q = 9) {kL4 : Int32 → Int32 → Int32 → ap_Mem → Prop} (hk4 : ∀ (x1 : Int32) (x2 : Int32) (x3 : Int32)  (M : ap_Mem), kL4 x1 x2 x3 M → ap_V x g 4 4 [(0, .ref (ap_ad g q)), (1, .int x1), (2, .int x2), (3, .int x3)] [] M) {x1 : Int32} {x3 : Int32} {M : ap_Mem}  (h : w_X9_isAsSeen_50  kL4 q x1 x3 M K) : ap_V x g 4 50 [(0, .ref (ap_ad g q)), (1, .int x1), (3, .int x3)] [] M := by
  unfold w_X9_isAsSeen_50 at h
  refine ap_iconst (q := 51) hc dX9_isAsSeen_50 rfl ic_1 ?_
  refine ap_goto (q := 55) hc dX9_isAsSeen_51 (by decide) ?_
  exact ap_sub [0, 1, 2] rfl (bl_X9_isAsSeen_55 hc hz  hq hk4  h)
def w_X9_isAsSeen_54  (kL4 : Int32 → Int32 → Int32 → ap_Mem → Prop) (q : Nat) (x1 : Int32) (x3 : Int32) (M : ap_Mem) (K : Int32 → ap_Mem → Prop) : Prop :=
w_X9_isAsSeen_55  kL4 q x1 x3 0 M K
theorem bl_X9_isAsSeen_54 {x : ap_X} {g : ap_G} (hc : ap_Cx x g cX9_isAsSeen RX9 4) {K : Int32 → ap_Mem → Prop} (hz : ap_Ends x g 0 (some .boolean) (ap_Qi K))   {q : Nat} (hq : ap_kd q = 9) {kL4 : Int32 → Int32 → Int32 → ap_Mem → Prop} (hk4 : ∀ (x1 : Int32) (x2 : Int32) (x3 : Int32)  (M : ap_Mem), kL4 x1 x2 x3 M → ap_V x g 4 4 [(0, .ref (ap_ad g q)), (1, .int x1), (2, .int x2), (3, .int x3)] [] M) {x1 : Int32} {x3 : Int32} {M : ap_Mem}  (h : w_X9_isAsSeen_54  kL4 q x1 x3 M K) : ap_V x g 4 54 [(0, .ref (ap_ad g q)), (1, .int x1), (3, .int x3)] [] M := by
  unfold w_X9_isAsSeen_54 at h
  refine ap_iconst (q := 55) hc dX9_isAsSeen_54 rfl ic_0 ?_
  exact ap_sub [0, 1, 2] rfl (bl_X9_isAsSeen_55 hc hz  hq hk4  h)
def w_X9_isAsSeen_4_s   (kL4 : Int32 → Int32 → Int32 → ap_Mem → Prop) (q : Nat) (x1 : Int32) (x2 : Int32) (x3 : Int32) (M : ap_Mem) (K : Int32 → ap_Mem → Prop) : Prop :=
vp_in 33 936 ∧ (if (M (q + 1) (33 : Int32).toNatClampNeg) ≤ x3 then (ap_B x2 ∧ K x2 M) else ((if x2 = 0 then (w_X9_isAsSeen_54  kL4 q x1 x3 M K) else (vp_in (89 + x3) 936 ∧ (if (M (q + 1) (89 + x3).toNatClampNeg) = x1 then (vp_in 1 936 ∧ vp_in (84 + x3) 936 ∧ (if (M (q + 1) (1 : Int32).toNatClampNeg) = (M (q + 1) (84 + x3).toNatClampNeg) then (w_X9_isAsSeen_50  kL4 q x1 x3 M K) else (w_X9_isAsSeen_54  kL4 q x1 x3 M K))) else (w_X9_isAsSeen_50  kL4 q x1 x3 M K))))))
def w_X9_isAsSeen_4   (q : Nat) (K : Int32 → ap_Mem → Prop) : Nat → Int32 → Int32 → Int32 → ap_Mem → Prop
  | 0, _, _, _, _ => False
  | n + 1, x1, x2, x3, M => w_X9_isAsSeen_4_s   (w_X9_isAsSeen_4   q K n) q x1 x2 x3 M K
theorem bl_X9_isAsSeen_4 {x : ap_X} {g : ap_G} (hc : ap_Cx x g cX9_isAsSeen RX9 4) {K : Int32 → ap_Mem → Prop} (hz : ap_Ends x g 0 (some .boolean) (ap_Qi K))   {q : Nat} (hq : ap_kd q = 9)   : ∀ (n : Nat) (x1 : Int32) (x2 : Int32) (x3 : Int32) (M : ap_Mem), w_X9_isAsSeen_4   q K n x1 x2 x3 M → ap_V x g 4 4 [(0, .ref (ap_ad g q)), (1, .int x1), (2, .int x2), (3, .int x3)] [] M := by
  intro n
  induction n with
  | zero => intro _ _ _ _ h; exact h.elim
  | succ n ih =>
    intro x1 x2 x3 M h
    replace h : w_X9_isAsSeen_4_s   (w_X9_isAsSeen_4   q K n) q x1 x2 x3 M K := h
    unfold w_X9_isAsSeen_4_s at h
    refine ap_iload_n (q := 5) hc dX9_isAsSeen_4 rfl rfl 3 rfl ?_
    refine ap_aload_n (q := 6) hc dX9_isAsSeen_5 rfl rfl 0 rfl ?_
    refine ap_getR (q := 9) (r := q + 1) lg_RX9_9 (by decide) hq rfl hc dX9_isAsSeen_6 rfl ?_
    refine ap_bipush (q := 11) hc dX9_isAsSeen_9 rfl bc_33 ?_
    obtain ⟨g_1, h⟩ := h
    refine ap_iald (q := 12) (ty_9_1 hq) (tn_9_1 hq) g_1 hc dX9_isAsSeen_11 rfl ?_
    refine ap_icmp_ge (q := 15) (tgt := 62) hc dX9_isAsSeen_12 rfl (by decide) (fun z_2 => ?_) (fun z_2 => ?_)
    · have h := Eq.mp (if_pos z_2) h
      refine ap_iload_n (q := 63) hc dX9_isAsSeen_62 rfl rfl 2 rfl ?_
      exact ap_iret hc hz (ap_Bn h.1) dX9_isAsSeen_63 h.2
    · have h := Eq.mp (if_neg z_2) h
      refine ap_iload_n (q := 16) hc dX9_isAsSeen_15 rfl rfl 2 rfl ?_
      refine ap_if_eq (q := 19) (tgt := 54) hc dX9_isAsSeen_16 rfl (by decide) (fun z_3 => ?_) (fun z_3 => ?_)
      · have h := Eq.mp (if_pos z_3) h
        exact ap_sub [0, 1, 3] rfl (bl_X9_isAsSeen_54 hc hz  hq ih  h)
      · have h := Eq.mp (if_neg z_3) h
        refine ap_aload_n (q := 20) hc dX9_isAsSeen_19 rfl rfl 0 rfl ?_
        refine ap_getR (q := 23) (r := q + 1) lg_RX9_9 (by decide) hq rfl hc dX9_isAsSeen_20 rfl ?_
        refine ap_bipush (q := 25) hc dX9_isAsSeen_23 rfl bc_89 ?_
        refine ap_iload_n (q := 26) hc dX9_isAsSeen_25 rfl rfl 3 rfl ?_
        refine ap_iadd (q := 27) hc dX9_isAsSeen_26 rfl ?_
        obtain ⟨g_4, h⟩ := h
        refine ap_iald (q := 28) (ty_9_1 hq) (tn_9_1 hq) g_4 hc dX9_isAsSeen_27 rfl ?_
        refine ap_iload_n (q := 29) hc dX9_isAsSeen_28 rfl rfl 1 rfl ?_
        refine ap_icmp_ne (q := 32) (tgt := 50) hc dX9_isAsSeen_29 rfl (by decide) (fun z_5 => ?_) (fun z_5 => ?_)
        · have h := Eq.mp (if_neg z_5) h
          exact ap_sub [0, 1, 3] rfl (bl_X9_isAsSeen_50 hc hz  hq ih  h)
        · have h := Eq.mp (if_pos z_5) h
          refine ap_aload_n (q := 33) hc dX9_isAsSeen_32 rfl rfl 0 rfl ?_
          refine ap_getR (q := 36) (r := q + 1) lg_RX9_9 (by decide) hq rfl hc dX9_isAsSeen_33 rfl ?_
          refine ap_iconst (q := 37) hc dX9_isAsSeen_36 rfl ic_1 ?_
          obtain ⟨g_6, h⟩ := h
          refine ap_iald (q := 38) (ty_9_1 hq) (tn_9_1 hq) g_6 hc dX9_isAsSeen_37 rfl ?_
          refine ap_aload_n (q := 39) hc dX9_isAsSeen_38 rfl rfl 0 rfl ?_
          refine ap_getR (q := 42) (r := q + 1) lg_RX9_9 (by decide) hq rfl hc dX9_isAsSeen_39 rfl ?_
          refine ap_bipush (q := 44) hc dX9_isAsSeen_42 rfl bc_84 ?_
          refine ap_iload_n (q := 45) hc dX9_isAsSeen_44 rfl rfl 3 rfl ?_
          refine ap_iadd (q := 46) hc dX9_isAsSeen_45 rfl ?_
          obtain ⟨g_7, h⟩ := h
          refine ap_iald (q := 47) (ty_9_1 hq) (tn_9_1 hq) g_7 hc dX9_isAsSeen_46 rfl ?_
          refine ap_icmp_ne (q := 50) (tgt := 54) hc dX9_isAsSeen_47 rfl (by decide) (fun z_8 => ?_) (fun z_8 => ?_)
          · have h := Eq.mp (if_neg z_8) h
            exact ap_sub [0, 1, 3] rfl (bl_X9_isAsSeen_54 hc hz  hq ih  h)
          · have h := Eq.mp (if_pos z_8) h
            exact ap_sub [0, 1, 3] rfl (bl_X9_isAsSeen_50 hc hz  hq ih  h)
def w_X9_isAsSeen   (q : Nat) (x1 : Int32) (M : ap_Mem) (K : Int32 → ap_Mem → Prop) : Prop :=
w_X9_isAsSeen_4   q K 4096 x1 1 0 M
theorem bl_X9_isAsSeen_0 {x : ap_X} {g : ap_G} (hc : ap_Cx x g cX9_isAsSeen RX9 4) {K : Int32 → ap_Mem → Prop} (hz : ap_Ends x g 0 (some .boolean) (ap_Qi K))   {q : Nat} (hq : ap_kd q = 9)   {x1 : Int32} {M : ap_Mem}  (h : w_X9_isAsSeen   q x1 M K) : ap_V x g 4 0 [(0, .ref (ap_ad g q)), (1, .int x1)] [] M := by
  unfold w_X9_isAsSeen at h
  refine ap_iconst (q := 1) hc dX9_isAsSeen_0 rfl ic_1 ?_
  refine ap_istore_n (q := 2) (lo2 := [(2, .int 1), (0, .ref (ap_ad g q)), (1, .int x1)]) hc dX9_isAsSeen_1 rfl rfl rfl (by decide) rfl ?_
  refine ap_iconst (q := 3) hc dX9_isAsSeen_2 rfl ic_0 ?_
  refine ap_istore_n (q := 4) (lo2 := [(3, .int 0), (2, .int 1), (0, .ref (ap_ad g q)), (1, .int x1)]) hc dX9_isAsSeen_3 rfl rfl rfl (by decide) rfl ?_
  exact ap_sub [2, 3, 1, 0] rfl (bl_X9_isAsSeen_4 hc hz  hq  _ _ _ _ _ h)
theorem ok_X9_isAsSeen {l : Launch} {g : ap_G} (hg : ap_GOK g) {q : Nat} (hq : ap_kd q = 9) {x1 : Int32} {M : ap_Mem} {K : Int32 → ap_Mem → Prop} (h : w_X9_isAsSeen q x1 M K) : ap_Ct l g yX9_isAsSeen cX9_isAsSeen 4 (some .boolean) 0 [.ref (ap_ad g q), .int x1] M (ap_Qi K) := by
  refine ap_Ct_of hg (by decide +kernel) (Nat.le_of_ble_eq_true rfl) (fun x hx hc hz => ?_)
  subst hx
  exact bl_X9_isAsSeen_0 hc hz hq h
def w_X9_areAsSeen_30   (q : Nat) (x1 : Int32) (M : ap_Mem) (K : Int32 → ap_Mem → Prop) : Prop :=
w_X9_goesBack q M (fun M_1 => ap_B x1 ∧ K x1 M_1)
theorem bl_X9_areAsSeen_30 {x : ap_X} {g : ap_G} (hc : ap_Cx x g cX9_areAsSeen RX9 3) {K : Int32 → ap_Mem → Prop} (hz : ap_Ends x g 6 (some .boolean) (ap_Qi K))   {q : Nat} (hq : ap_kd q = 9)   {x1 : Int32} {M : ap_Mem}  (h : w_X9_areAsSeen_30   q x1 M K) : ap_V x g 3 30 [(0, .ref (ap_ad g q)), (1, .int x1)] [] M := by
  have hg := hc.2.2.2.2.2.2.2.1
  unfold w_X9_areAsSeen_30 at h
  refine ap_aload_n (q := 31) hc dX9_areAsSeen_30 rfl rfl 0 rfl ?_
  refine ap_callV (q := 34) (As := []) hc (ok_X9_goesBack hg hq h) ml_RX9_158 lk_X9_goesBack lv_X9_goesBack hq rfl (ap_RmE hz (by decide)) rfl rfl (Nat.le_of_ble_eq_true rfl) dX9_areAsSeen_31 rfl (ap_kv (fun M_1 h => ?_))
  refine ap_iload_n (q := 35) hc dX9_areAsSeen_34 rfl rfl 1 rfl ?_
  exact ap_iret hc hz (ap_Bn h.1) dX9_areAsSeen_35 h.2
def w_X9_areAsSeen_4_s   (kL4 : Int32 → Int32 → ap_Mem → Prop) (q : Nat) (x1 : Int32) (x2 : Int32) (M : ap_Mem) (K : Int32 → ap_Mem → Prop) : Prop :=
(if 20 < x2 then (w_X9_areAsSeen_30   q x1 M K) else ((if x1 = 0 then (w_X9_areAsSeen_30   q x1 M K) else (w_X9_isAsSeen q x2 M (fun r_3 M_4 => w_X9_goes q M_4 (fun M_5 => ∀ x2_6 : Int32, x2_6 = x2 + 1 → kL4 r_3 x2_6 M_5))))))
def w_X9_areAsSeen_4   (q : Nat) (K : Int32 → ap_Mem → Prop) : Nat → Int32 → Int32 → ap_Mem → Prop
  | 0, _, _, _ => False
  | n + 1, x1, x2, M => w_X9_areAsSeen_4_s   (w_X9_areAsSeen_4   q K n) q x1 x2 M K
theorem bl_X9_areAsSeen_4 {x : ap_X} {g : ap_G} (hc : ap_Cx x g cX9_areAsSeen RX9 3) {K : Int32 → ap_Mem → Prop} (hz : ap_Ends x g 6 (some .boolean) (ap_Qi K))   {q : Nat} (hq : ap_kd q = 9)   : ∀ (n : Nat) (x1 : Int32) (x2 : Int32) (M : ap_Mem), w_X9_areAsSeen_4   q K n x1 x2 M → ap_V x g 3 4 [(0, .ref (ap_ad g q)), (1, .int x1), (2, .int x2)] [] M := by
  have hg := hc.2.2.2.2.2.2.2.1
  intro n
  induction n with
  | zero => intro _ _ _ h; exact h.elim
  | succ n ih =>
    intro x1 x2 M h
    replace h : w_X9_areAsSeen_4_s   (w_X9_areAsSeen_4   q K n) q x1 x2 M K := h
    unfold w_X9_areAsSeen_4_s at h
    refine ap_iload_n (q := 5) hc dX9_areAsSeen_4 rfl rfl 2 rfl ?_
    refine ap_bipush (q := 7) hc dX9_areAsSeen_5 rfl bc_20 ?_
    refine ap_icmp_gt (q := 10) (tgt := 30) hc dX9_areAsSeen_7 rfl (by decide) (fun z_1 => ?_) (fun z_1 => ?_)
    · have h := Eq.mp (if_pos z_1) h
      exact ap_sub [0, 1] rfl (bl_X9_areAsSeen_30 hc hz  hq   h)
    · have h := Eq.mp (if_neg z_1) h
      refine ap_iload_n (q := 11) hc dX9_areAsSeen_10 rfl rfl 1 rfl ?_
      refine ap_if_eq (q := 14) (tgt := 30) hc dX9_areAsSeen_11 rfl (by decide) (fun z_2 => ?_) (fun z_2 => ?_)
      · have h := Eq.mp (if_pos z_2) h
        exact ap_sub [0, 1] rfl (bl_X9_areAsSeen_30 hc hz  hq   h)
      · have h := Eq.mp (if_neg z_2) h
        refine ap_aload_n (q := 15) hc dX9_areAsSeen_14 rfl rfl 0 rfl ?_
        refine ap_iload_n (q := 16) hc dX9_areAsSeen_15 rfl rfl 2 rfl ?_
        refine ap_callV (q := 19) (As := [.int x2]) hc (ok_X9_isAsSeen hg hq h) ml_RX9_172 lk_X9_isAsSeen lv_X9_isAsSeen hq rfl (ap_RmE hz (by decide)) rfl rfl (Nat.le_of_ble_eq_true rfl) dX9_areAsSeen_16 rfl (ap_ki (fun r_3 M_4 h => ?_))
        refine ap_istore_n (q := 20) (lo2 := [(1, .int r_3), (0, .ref (ap_ad g q)), (2, .int x2)]) hc dX9_areAsSeen_19 rfl rfl rfl (by decide) rfl ?_
        refine ap_aload_n (q := 21) hc dX9_areAsSeen_20 rfl rfl 1 rfl ?_
        refine ap_callV (q := 24) (As := []) hc (ok_X9_goes hg hq h) ml_RX9_149 lk_X9_goes lv_X9_goes hq rfl (ap_RmE hz (by decide)) rfl rfl (Nat.le_of_ble_eq_true rfl) dX9_areAsSeen_21 rfl (ap_kv (fun M_5 h => ?_))
        obtain ⟨x2_6, ex2_6, h⟩ := ap_nm h
        refine ap_iinc (q := 27) (lo2 := [(2, .int x2_6), (1, .int r_3), (0, .ref (ap_ad g q))]) hc dX9_areAsSeen_24 rfl 2 rfl (by rw [ex2_6]; rfl) (by decide) rfl ?_
        refine ap_goto (q := 4) hc dX9_areAsSeen_27 (by decide) ?_
        exact ap_sub [2, 1, 0] rfl (ih _ _ _ h)
def w_X9_areAsSeen   (q : Nat)  (M : ap_Mem) (K : Int32 → ap_Mem → Prop) : Prop :=
w_X9_areAsSeen_4   q K 4096 1 0 M
theorem bl_X9_areAsSeen_0 {x : ap_X} {g : ap_G} (hc : ap_Cx x g cX9_areAsSeen RX9 3) {K : Int32 → ap_Mem → Prop} (hz : ap_Ends x g 6 (some .boolean) (ap_Qi K))   {q : Nat} (hq : ap_kd q = 9)    {M : ap_Mem}  (h : w_X9_areAsSeen   q  M K) : ap_V x g 3 0 [(0, .ref (ap_ad g q))] [] M := by
  unfold w_X9_areAsSeen at h
  refine ap_iconst (q := 1) hc dX9_areAsSeen_0 rfl ic_1 ?_
  refine ap_istore_n (q := 2) (lo2 := [(1, .int 1), (0, .ref (ap_ad g q))]) hc dX9_areAsSeen_1 rfl rfl rfl (by decide) rfl ?_
  refine ap_iconst (q := 3) hc dX9_areAsSeen_2 rfl ic_0 ?_
  refine ap_istore_n (q := 4) (lo2 := [(2, .int 0), (1, .int 1), (0, .ref (ap_ad g q))]) hc dX9_areAsSeen_3 rfl rfl rfl (by decide) rfl ?_
  exact ap_sub [2, 1, 0] rfl (bl_X9_areAsSeen_4 hc hz  hq  _ _ _ _ h)
theorem ok_X9_areAsSeen {l : Launch} {g : ap_G} (hg : ap_GOK g) {q : Nat} (hq : ap_kd q = 9)  {M : ap_Mem} {K : Int32 → ap_Mem → Prop} (h : w_X9_areAsSeen q  M K) : ap_Ct l g yX9_areAsSeen cX9_areAsSeen 3 (some .boolean) 6 [.ref (ap_ad g q)] M (ap_Qi K) := by
  refine ap_Ct_of hg (by decide +kernel) (Nat.le_of_ble_eq_true rfl) (fun x hx hc hz => ?_)
  subst hx
  exact bl_X9_areAsSeen_0 hc hz hq h
def w_X9_doors_49  (kL14 : Int32 → Int32 → Int32 → ap_Mem → Prop) (q : Nat) (x1 : Int32) (x3 : Int32) (s0 : Int32) (s1 : Int32) (M : ap_Mem) (K : Int32 → ap_Mem → Prop) : Prop :=
∀ x2_1 : Int32, x2_1 = s1 ||| s0 → ∀ x3_2 : Int32, x3_2 = x3 + 1 → kL14 x1 x2_1 x3_2 M
theorem bl_X9_doors_49 {x : ap_X} {g : ap_G} (hc : ap_Cx x g cX9_doors RX9 4) {K : Int32 → ap_Mem → Prop} (hz : ap_Ends x g 7 (some .int) (ap_Qi K))   {q : Nat} (hq : ap_kd q = 9) {kL14 : Int32 → Int32 → Int32 → ap_Mem → Prop} (hk14 : ∀ (x1 : Int32) (x2 : Int32) (x3 : Int32)  (M : ap_Mem), kL14 x1 x2 x3 M → ap_V x g 4 14 [(0, .ref (ap_ad g q)), (1, .int x1), (2, .int x2), (3, .int x3)] [] M) {x1 : Int32} {x3 : Int32} {s0 : Int32} {s1 : Int32} {M : ap_Mem}  (h : w_X9_doors_49  kL14 q x1 x3 s0 s1 M K) : ap_V x g 4 49 [(0, .ref (ap_ad g q)), (1, .int x1), (3, .int x3)] [.int s0, .int s1] M := by
  unfold w_X9_doors_49 at h
  refine ap_ior (q := 50) hc dX9_doors_49 rfl ?_
  obtain ⟨x2_1, ex2_1, h⟩ := ap_nm h
  refine ap_istore_n (q := 51) (lo2 := [(2, .int x2_1), (0, .ref (ap_ad g q)), (1, .int x1), (3, .int x3)]) hc dX9_doors_50 rfl rfl ex2_1 (by decide) rfl ?_
  obtain ⟨x3_2, ex3_2, h⟩ := ap_nm h
  refine ap_iinc (q := 54) (lo2 := [(3, .int x3_2), (2, .int x2_1), (0, .ref (ap_ad g q)), (1, .int x1)]) hc dX9_doors_51 rfl 3 rfl (by rw [ex3_2]; rfl) (by decide) rfl ?_
  refine ap_goto (q := 14) hc dX9_doors_54 (by decide) ?_
  exact ap_sub [2, 3, 1, 0] rfl (hk14 _ _ _ _ h)
def w_X9_doors_14_s   (kL14 : Int32 → Int32 → Int32 → ap_Mem → Prop) (q : Nat) (x1 : Int32) (x2 : Int32) (x3 : Int32) (M : ap_Mem) (K : Int32 → ap_Mem → Prop) : Prop :=
(if 16 ≤ x3 then (K x2 M) else (w_X9_keeps q M (fun M_2 => vp_in (18 + x1) 936 ∧ ∀ M_4 : ap_Mem, M_4 = ap_mu M_2 (q + 1) (18 + x1).toNatClampNeg x3 → w_X9_areAsSeen q M_4 (fun r_5 M_6 => (if r_5 = 0 then (w_X9_doors_49  kL14 q x1 x3 0 x2 M_6 K) else (w_X9_doors_49  kL14 q x1 x3 (1 <<< (x3 &&& 31)) x2 M_6 K))))))
def w_X9_doors_14   (q : Nat) (K : Int32 → ap_Mem → Prop) : Nat → Int32 → Int32 → Int32 → ap_Mem → Prop
  | 0, _, _, _, _ => False
  | n + 1, x1, x2, x3, M => w_X9_doors_14_s   (w_X9_doors_14   q K n) q x1 x2 x3 M K
theorem bl_X9_doors_14 {x : ap_X} {g : ap_G} (hc : ap_Cx x g cX9_doors RX9 4) {K : Int32 → ap_Mem → Prop} (hz : ap_Ends x g 7 (some .int) (ap_Qi K))   {q : Nat} (hq : ap_kd q = 9)   : ∀ (n : Nat) (x1 : Int32) (x2 : Int32) (x3 : Int32) (M : ap_Mem), w_X9_doors_14   q K n x1 x2 x3 M → ap_V x g 4 14 [(0, .ref (ap_ad g q)), (1, .int x1), (2, .int x2), (3, .int x3)] [] M := by
  have hg := hc.2.2.2.2.2.2.2.1
  intro n
  induction n with
  | zero => intro _ _ _ _ h; exact h.elim
  | succ n ih =>
    intro x1 x2 x3 M h
    replace h : w_X9_doors_14_s   (w_X9_doors_14   q K n) q x1 x2 x3 M K := h
    unfold w_X9_doors_14_s at h
    refine ap_iload_n (q := 15) hc dX9_doors_14 rfl rfl 3 rfl ?_
    refine ap_bipush (q := 17) hc dX9_doors_15 rfl bc_16 ?_
    refine ap_icmp_ge (q := 20) (tgt := 57) hc dX9_doors_17 rfl (by decide) (fun z_1 => ?_) (fun z_1 => ?_)
    · have h := Eq.mp (if_pos z_1) h
      refine ap_iload_n (q := 58) hc dX9_doors_57 rfl rfl 2 rfl ?_
      exact ap_iret hc hz rfl dX9_doors_58 h
    · have h := Eq.mp (if_neg z_1) h
      refine ap_aload_n (q := 21) hc dX9_doors_20 rfl rfl 0 rfl ?_
      refine ap_callV (q := 24) (As := []) hc (ok_X9_keeps hg hq h) ml_RX9_152 lk_X9_keeps lv_X9_keeps hq rfl (ap_RmE hz (by decide)) rfl rfl (Nat.le_of_ble_eq_true rfl) dX9_doors_21 rfl (ap_kv (fun M_2 h => ?_))
      refine ap_aload_n (q := 25) hc dX9_doors_24 rfl rfl 0 rfl ?_
      refine ap_getR (q := 28) (r := q + 1) lg_RX9_9 (by decide) hq rfl hc dX9_doors_25 rfl ?_
      refine ap_bipush (q := 30) hc dX9_doors_28 rfl bc_18 ?_
      refine ap_iload_n (q := 31) hc dX9_doors_30 rfl rfl 1 rfl ?_
      refine ap_iadd (q := 32) hc dX9_doors_31 rfl ?_
      refine ap_iload_n (q := 33) hc dX9_doors_32 rfl rfl 3 rfl ?_
      obtain ⟨g_3, h⟩ := h
      obtain ⟨M_4, eM_4, h⟩ := ap_nm h
      refine ap_iast (q := 34) (ty_9_1 hq) (tn_9_1 hq) g_3 eM_4 hc dX9_doors_33 rfl ?_
      refine ap_iload_n (q := 35) hc dX9_doors_34 rfl rfl 2 rfl ?_
      refine ap_aload_n (q := 36) hc dX9_doors_35 rfl rfl 0 rfl ?_
      refine ap_callV (q := 39) (As := []) hc (ok_X9_areAsSeen hg hq h) ml_RX9_175 lk_X9_areAsSeen lv_X9_areAsSeen hq rfl (ap_RmE hz (by decide)) rfl rfl (Nat.le_of_ble_eq_true rfl) dX9_doors_36 rfl (ap_ki (fun r_5 M_6 h => ?_))
      refine ap_if_eq (q := 42) (tgt := 48) hc dX9_doors_39 rfl (by decide) (fun z_7 => ?_) (fun z_7 => ?_)
      · have h := Eq.mp (if_pos z_7) h
        refine ap_iconst (q := 49) hc dX9_doors_48 rfl ic_0 ?_
        exact ap_sub [0, 1, 3] rfl (bl_X9_doors_49 hc hz  hq ih  h)
      · have h := Eq.mp (if_neg z_7) h
        refine ap_iconst (q := 43) hc dX9_doors_42 rfl ic_1 ?_
        refine ap_iload_n (q := 44) hc dX9_doors_43 rfl rfl 3 rfl ?_
        refine ap_ishl (q := 45) hc dX9_doors_44 rfl ?_
        refine ap_goto (q := 49) hc dX9_doors_45 (by decide) ?_
        exact ap_sub [0, 1, 3] rfl (bl_X9_doors_49 hc hz  hq ih  h)
def w_X9_doors   (q : Nat) (x1 : Int32) (M : ap_Mem) (K : Int32 → ap_Mem → Prop) : Prop :=
w_X9_isPerson q x1 M (fun r_1 M_2 => (if r_1 = 0 then (K (-1) M_2) else (w_X9_doors_14   q K 4096 x1 0 0 M_2)))
theorem bl_X9_doors_0 {x : ap_X} {g : ap_G} (hc : ap_Cx x g cX9_doors RX9 4) {K : Int32 → ap_Mem → Prop} (hz : ap_Ends x g 7 (some .int) (ap_Qi K))   {q : Nat} (hq : ap_kd q = 9)   {x1 : Int32} {M : ap_Mem}  (h : w_X9_doors   q x1 M K) : ap_V x g 4 0 [(0, .ref (ap_ad g q)), (1, .int x1)] [] M := by
  have hg := hc.2.2.2.2.2.2.2.1
  unfold w_X9_doors at h
  refine ap_aload_n (q := 1) hc dX9_doors_0 rfl rfl 0 rfl ?_
  refine ap_iload_n (q := 2) hc dX9_doors_1 rfl rfl 1 rfl ?_
  refine ap_callV (q := 5) (As := [.int x1]) hc (ok_X9_isPerson hg hq h) ml_RX9_136 lk_X9_isPerson lv_X9_isPerson hq rfl (ap_RmE hz (by decide)) rfl rfl (Nat.le_of_ble_eq_true rfl) dX9_doors_2 rfl (ap_ki (fun r_1 M_2 h => ?_))
  refine ap_if_ne (q := 8) (tgt := 10) hc dX9_doors_5 rfl (by decide) (fun z_3 => ?_) (fun z_3 => ?_)
  · have h := Eq.mp (if_neg z_3) h
    refine ap_iconst (q := 11) hc dX9_doors_10 rfl ic_0 ?_
    refine ap_istore_n (q := 12) (lo2 := [(2, .int 0), (0, .ref (ap_ad g q)), (1, .int x1)]) hc dX9_doors_11 rfl rfl rfl (by decide) rfl ?_
    refine ap_iconst (q := 13) hc dX9_doors_12 rfl ic_0 ?_
    refine ap_istore_n (q := 14) (lo2 := [(3, .int 0), (2, .int 0), (0, .ref (ap_ad g q)), (1, .int x1)]) hc dX9_doors_13 rfl rfl rfl (by decide) rfl ?_
    exact ap_sub [2, 3, 1, 0] rfl (bl_X9_doors_14 hc hz  hq  _ _ _ _ _ h)
  · have h := Eq.mp (if_pos z_3) h
    refine ap_iconst (q := 9) hc dX9_doors_8 rfl ic_m1 ?_
    exact ap_iret hc hz rfl dX9_doors_9 h
theorem ok_X9_doors {l : Launch} {g : ap_G} (hg : ap_GOK g) {q : Nat} (hq : ap_kd q = 9) {x1 : Int32} {M : ap_Mem} {K : Int32 → ap_Mem → Prop} (h : w_X9_doors q x1 M K) : ap_Ct l g yX9_doors cX9_doors 4 (some .int) 7 [.ref (ap_ad g q), .int x1] M (ap_Qi K) := by
  refine ap_Ct_of hg (by decide +kernel) (Nat.le_of_ble_eq_true rfl) (fun x hx hc hz => ?_)
  subst hx
  exact bl_X9_doors_0 hc hz hq h
def w_X9_firm_93  (kL40 : Int32 → Int32 → Int32 → Int32 → Int32 → Int32 → ap_Mem → Prop) (q : Nat) (x1 : Int32) (x2 : Int32) (x3 : Int32) (x4 : Int32) (x6 : Int32) (s0 : Int32) (M : ap_Mem) (K : Int32 → ap_Mem → Prop) : Prop :=
∀ x6_1 : Int32, x6_1 = x6 + (-1) → kL40 x1 x2 x3 x4 s0 x6_1 M
theorem bl_X9_firm_93 {x : ap_X} {g : ap_G} (hc : ap_Cx x g cX9_firm RX9 8) {K : Int32 → ap_Mem → Prop} (hz : ap_Ends x g 7 (some .int) (ap_Qi K))   {q : Nat} (hq : ap_kd q = 9) {kL40 : Int32 → Int32 → Int32 → Int32 → Int32 → Int32 → ap_Mem → Prop} (hk40 : ∀ (x1 : Int32) (x2 : Int32) (x3 : Int32) (x4 : Int32) (x5 : Int32) (x6 : Int32)  (M : ap_Mem), kL40 x1 x2 x3 x4 x5 x6 M → ap_V x g 8 40 [(0, .ref (ap_ad g q)), (1, .int x1), (2, .int x2), (3, .int x3), (4, .int x4), (5, .int x5), (6, .int x6)] [] M) {x1 : Int32} {x2 : Int32} {x3 : Int32} {x4 : Int32} {x6 : Int32} {s0 : Int32} {M : ap_Mem}  (h : w_X9_firm_93  kL40 q x1 x2 x3 x4 x6 s0 M K) : ap_V x g 8 93 [(0, .ref (ap_ad g q)), (1, .int x1), (2, .int x2), (3, .int x3), (4, .int x4), (6, .int x6)] [.int s0] M := by
  unfold w_X9_firm_93 at h
  refine ap_istore (q := 95) (lo2 := [(5, .int s0), (0, .ref (ap_ad g q)), (1, .int x1), (2, .int x2), (3, .int x3), (4, .int x4), (6, .int x6)]) hc dX9_firm_93 rfl rfl (by decide) rfl ?_
  obtain ⟨x6_1, ex6_1, h⟩ := ap_nm h
  refine ap_iinc (q := 98) (lo2 := [(6, .int x6_1), (5, .int s0), (0, .ref (ap_ad g q)), (1, .int x1), (2, .int x2), (3, .int x3), (4, .int x4)]) hc dX9_firm_95 rfl 6 rfl (by rw [ex6_1]; rfl) (by decide) rfl ?_
  refine ap_goto (q := 40) hc dX9_firm_98 (by decide) ?_
  exact ap_sub [2, 3, 4, 5, 6, 1, 0] rfl (hk40 _ _ _ _ _ _ _ h)
def w_X9_firm_78  (kL40 : Int32 → Int32 → Int32 → Int32 → Int32 → Int32 → ap_Mem → Prop) (q : Nat) (x1 : Int32) (x2 : Int32) (x3 : Int32) (x5 : Int32) (x6 : Int32) (x7 : Int32) (s0 : Int32) (s1 : Int32) (M : ap_Mem) (K : Int32 → ap_Mem → Prop) : Prop :=
∀ x4_1 : Int32, x4_1 = s1 + s0 → (if x7 = 0 then (w_X9_firm_93  kL40 q x1 x2 x3 x4_1 x6 x5 M K) else (w_X9_firm_93  kL40 q x1 x2 x3 x4_1 x6 x6 M K))
theorem bl_X9_firm_78 {x : ap_X} {g : ap_G} (hc : ap_Cx x g cX9_firm RX9 8) {K : Int32 → ap_Mem → Prop} (hz : ap_Ends x g 7 (some .int) (ap_Qi K))   {q : Nat} (hq : ap_kd q = 9) {kL40 : Int32 → Int32 → Int32 → Int32 → Int32 → Int32 → ap_Mem → Prop} (hk40 : ∀ (x1 : Int32) (x2 : Int32) (x3 : Int32) (x4 : Int32) (x5 : Int32) (x6 : Int32)  (M : ap_Mem), kL40 x1 x2 x3 x4 x5 x6 M → ap_V x g 8 40 [(0, .ref (ap_ad g q)), (1, .int x1), (2, .int x2), (3, .int x3), (4, .int x4), (5, .int x5), (6, .int x6)] [] M) {x1 : Int32} {x2 : Int32} {x3 : Int32} {x5 : Int32} {x6 : Int32} {x7 : Int32} {s0 : Int32} {s1 : Int32} {M : ap_Mem}  (h : w_X9_firm_78  kL40 q x1 x2 x3 x5 x6 x7 s0 s1 M K) : ap_V x g 8 78 [(0, .ref (ap_ad g q)), (1, .int x1), (2, .int x2), (3, .int x3), (5, .int x5), (6, .int x6), (7, .int x7)] [.int s0, .int s1] M := by
  unfold w_X9_firm_78 at h
  refine ap_iadd (q := 79) hc dX9_firm_78 rfl ?_
  obtain ⟨x4_1, ex4_1, h⟩ := ap_nm h
  refine ap_istore (q := 81) (lo2 := [(4, .int x4_1), (0, .ref (ap_ad g q)), (1, .int x1), (2, .int x2), (3, .int x3), (5, .int x5), (6, .int x6), (7, .int x7)]) hc dX9_firm_79 rfl ex4_1 (by decide) rfl ?_
  refine ap_iload (q := 83) hc dX9_firm_81 rfl 7 rfl ?_
  refine ap_if_eq (q := 86) (tgt := 91) hc dX9_firm_83 rfl (by decide) (fun z_2 => ?_) (fun z_2 => ?_)
  · have h := Eq.mp (if_pos z_2) h
    refine ap_iload (q := 93) hc dX9_firm_91 rfl 5 rfl ?_
    exact ap_sub [1, 2, 3, 4, 0, 6] rfl (bl_X9_firm_93 hc hz  hq hk40  h)
  · have h := Eq.mp (if_neg z_2) h
    refine ap_iload (q := 88) hc dX9_firm_86 rfl 6 rfl ?_
    refine ap_goto (q := 93) hc dX9_firm_88 (by decide) ?_
    exact ap_sub [1, 2, 3, 4, 0, 6] rfl (bl_X9_firm_93 hc hz  hq hk40  h)
def w_X9_firm_40_s   (kL40 : Int32 → Int32 → Int32 → Int32 → Int32 → Int32 → ap_Mem → Prop) (q : Nat) (x1 : Int32) (x2 : Int32) (x3 : Int32) (x4 : Int32) (x5 : Int32) (x6 : Int32) (M : ap_Mem) (K : Int32 → ap_Mem → Prop) : Prop :=
(if x6 < 0 then (vp_in (44 + x1) 936 ∧ ∀ M_3 : ap_Mem, M_3 = ap_mu M (q + 1) (44 + x1).toNatClampNeg x3 → (if x2 = 0 then (K x4 M_3) else (K x5 M_3))) else (w_X9_keeps q M (fun M_5 => vp_in (44 + x1) 936 ∧ ∀ M_7 : ap_Mem, M_7 = ap_mu M_5 (q + 1) (44 + x1).toNatClampNeg x6 → w_X9_areAsSeen q M_7 (fun r_8 M_9 => (if r_8 = 0 then (w_X9_firm_78  kL40 q x1 x2 x3 x5 x6 r_8 0 x4 M_9 K) else (w_X9_firm_78  kL40 q x1 x2 x3 x5 x6 r_8 1 x4 M_9 K))))))
def w_X9_firm_40   (q : Nat) (K : Int32 → ap_Mem → Prop) : Nat → Int32 → Int32 → Int32 → Int32 → Int32 → Int32 → ap_Mem → Prop
  | 0, _, _, _, _, _, _, _ => False
  | n + 1, x1, x2, x3, x4, x5, x6, M => w_X9_firm_40_s   (w_X9_firm_40   q K n) q x1 x2 x3 x4 x5 x6 M K
theorem bl_X9_firm_40 {x : ap_X} {g : ap_G} (hc : ap_Cx x g cX9_firm RX9 8) {K : Int32 → ap_Mem → Prop} (hz : ap_Ends x g 7 (some .int) (ap_Qi K))   {q : Nat} (hq : ap_kd q = 9)   : ∀ (n : Nat) (x1 : Int32) (x2 : Int32) (x3 : Int32) (x4 : Int32) (x5 : Int32) (x6 : Int32) (M : ap_Mem), w_X9_firm_40   q K n x1 x2 x3 x4 x5 x6 M → ap_V x g 8 40 [(0, .ref (ap_ad g q)), (1, .int x1), (2, .int x2), (3, .int x3), (4, .int x4), (5, .int x5), (6, .int x6)] [] M := by
  have hg := hc.2.2.2.2.2.2.2.1
  intro n
  induction n with
  | zero => intro _ _ _ _ _ _ _ h; exact h.elim
  | succ n ih =>
    intro x1 x2 x3 x4 x5 x6 M h
    replace h : w_X9_firm_40_s   (w_X9_firm_40   q K n) q x1 x2 x3 x4 x5 x6 M K := h
    unfold w_X9_firm_40_s at h
    refine ap_iload (q := 42) hc dX9_firm_40 rfl 6 rfl ?_
    refine ap_if_lt (q := 45) (tgt := 101) hc dX9_firm_42 rfl (by decide) (fun z_1 => ?_) (fun z_1 => ?_)
    · have h := Eq.mp (if_pos z_1) h
      refine ap_aload_n (q := 102) hc dX9_firm_101 rfl rfl 0 rfl ?_
      refine ap_getR (q := 105) (r := q + 1) lg_RX9_9 (by decide) hq rfl hc dX9_firm_102 rfl ?_
      refine ap_bipush (q := 107) hc dX9_firm_105 rfl bc_44 ?_
      refine ap_iload_n (q := 108) hc dX9_firm_107 rfl rfl 1 rfl ?_
      refine ap_iadd (q := 109) hc dX9_firm_108 rfl ?_
      refine ap_iload_n (q := 110) hc dX9_firm_109 rfl rfl 3 rfl ?_
      obtain ⟨g_2, h⟩ := h
      obtain ⟨M_3, eM_3, h⟩ := ap_nm h
      refine ap_iast (q := 111) (ty_9_1 hq) (tn_9_1 hq) g_2 eM_3 hc dX9_firm_110 rfl ?_
      refine ap_iload_n (q := 112) hc dX9_firm_111 rfl rfl 2 rfl ?_
      refine ap_if_ne (q := 115) (tgt := 120) hc dX9_firm_112 rfl (by decide) (fun z_4 => ?_) (fun z_4 => ?_)
      · have h := Eq.mp (if_neg z_4) h
        refine ap_iload (q := 122) hc dX9_firm_120 rfl 5 rfl ?_
        exact ap_iret hc hz rfl dX9_firm_122 h
      · have h := Eq.mp (if_pos z_4) h
        refine ap_iload (q := 117) hc dX9_firm_115 rfl 4 rfl ?_
        refine ap_goto (q := 122) hc dX9_firm_117 (by decide) ?_
        exact ap_iret hc hz rfl dX9_firm_122 h
    · have h := Eq.mp (if_neg z_1) h
      refine ap_aload_n (q := 46) hc dX9_firm_45 rfl rfl 0 rfl ?_
      refine ap_callV (q := 49) (As := []) hc (ok_X9_keeps hg hq h) ml_RX9_152 lk_X9_keeps lv_X9_keeps hq rfl (ap_RmE hz (by decide)) rfl rfl (Nat.le_of_ble_eq_true rfl) dX9_firm_46 rfl (ap_kv (fun M_5 h => ?_))
      refine ap_aload_n (q := 50) hc dX9_firm_49 rfl rfl 0 rfl ?_
      refine ap_getR (q := 53) (r := q + 1) lg_RX9_9 (by decide) hq rfl hc dX9_firm_50 rfl ?_
      refine ap_bipush (q := 55) hc dX9_firm_53 rfl bc_44 ?_
      refine ap_iload_n (q := 56) hc dX9_firm_55 rfl rfl 1 rfl ?_
      refine ap_iadd (q := 57) hc dX9_firm_56 rfl ?_
      refine ap_iload (q := 59) hc dX9_firm_57 rfl 6 rfl ?_
      obtain ⟨g_6, h⟩ := h
      obtain ⟨M_7, eM_7, h⟩ := ap_nm h
      refine ap_iast (q := 60) (ty_9_1 hq) (tn_9_1 hq) g_6 eM_7 hc dX9_firm_59 rfl ?_
      refine ap_aload_n (q := 61) hc dX9_firm_60 rfl rfl 0 rfl ?_
      refine ap_callV (q := 64) (As := []) hc (ok_X9_areAsSeen hg hq h) ml_RX9_175 lk_X9_areAsSeen lv_X9_areAsSeen hq rfl (ap_RmE hz (by decide)) rfl rfl (Nat.le_of_ble_eq_true rfl) dX9_firm_61 rfl (ap_ki (fun r_8 M_9 h => ?_))
      refine ap_istore (q := 66) (lo2 := [(7, .int r_8), (0, .ref (ap_ad g q)), (1, .int x1), (2, .int x2), (3, .int x3), (4, .int x4), (5, .int x5), (6, .int x6)]) hc dX9_firm_64 rfl rfl (by decide) rfl ?_
      refine ap_iload (q := 68) hc dX9_firm_66 rfl 5 rfl ?_
      refine ap_iload (q := 70) hc dX9_firm_68 rfl 0 rfl ?_
      refine ap_if_eq (q := 73) (tgt := 77) hc dX9_firm_70 rfl (by decide) (fun z_10 => ?_) (fun z_10 => ?_)
      · have h := Eq.mp (if_pos z_10) h
        refine ap_iconst (q := 78) hc dX9_firm_77 rfl ic_0 ?_
        exact ap_sub [1, 2, 3, 4, 6, 7, 0] rfl (bl_X9_firm_78 hc hz  hq ih  h)
      · have h := Eq.mp (if_neg z_10) h
        refine ap_iconst (q := 74) hc dX9_firm_73 rfl ic_1 ?_
        refine ap_goto (q := 78) hc dX9_firm_74 (by decide) ?_
        exact ap_sub [1, 2, 3, 4, 6, 7, 0] rfl (bl_X9_firm_78 hc hz  hq ih  h)
def w_X9_firm   (q : Nat) (x1 : Int32) (x2 : Int32) (M : ap_Mem) (K : Int32 → ap_Mem → Prop) : Prop :=
w_X9_isPerson q x1 M (fun r_1 M_2 => (if r_1 = 0 then (K (-1) M_2) else (w_X9_in x2 0 1 M_2 (fun r_4 M_5 => (if r_4 = 0 then (K (-1) M_5) else (vp_in (44 + x1) 936 ∧ ∀ x3_8 : Int32, x3_8 = M_5 (q + 1) (44 + x1).toNatClampNeg → w_X9_firm_40   q K 4096 x1 x2 x3_8 0 (-5) 9 M_5))))))
theorem bl_X9_firm_0 {x : ap_X} {g : ap_G} (hc : ap_Cx x g cX9_firm RX9 8) {K : Int32 → ap_Mem → Prop} (hz : ap_Ends x g 7 (some .int) (ap_Qi K))   {q : Nat} (hq : ap_kd q = 9)   {x1 : Int32} {x2 : Int32} {M : ap_Mem}  (h : w_X9_firm   q x1 x2 M K) : ap_V x g 8 0 [(0, .ref (ap_ad g q)), (1, .int x1), (2, .int x2)] [] M := by
  have hg := hc.2.2.2.2.2.2.2.1
  unfold w_X9_firm at h
  refine ap_aload_n (q := 1) hc dX9_firm_0 rfl rfl 0 rfl ?_
  refine ap_iload_n (q := 2) hc dX9_firm_1 rfl rfl 1 rfl ?_
  refine ap_callV (q := 5) (As := [.int x1]) hc (ok_X9_isPerson hg hq h) ml_RX9_136 lk_X9_isPerson lv_X9_isPerson hq rfl (ap_RmE hz (by decide)) rfl rfl (Nat.le_of_ble_eq_true rfl) dX9_firm_2 rfl (ap_ki (fun r_1 M_2 h => ?_))
  refine ap_if_eq (q := 8) (tgt := 17) hc dX9_firm_5 rfl (by decide) (fun z_3 => ?_) (fun z_3 => ?_)
  · have h := Eq.mp (if_pos z_3) h
    refine ap_iconst (q := 18) hc dX9_firm_17 rfl ic_m1 ?_
    exact ap_iret hc hz rfl dX9_firm_18 h
  · have h := Eq.mp (if_neg z_3) h
    refine ap_iload_n (q := 9) hc dX9_firm_8 rfl rfl 2 rfl ?_
    refine ap_iconst (q := 10) hc dX9_firm_9 rfl ic_0 ?_
    refine ap_iconst (q := 11) hc dX9_firm_10 rfl ic_1 ?_
    refine ap_callS (q := 14) (As := [.int x2, .int 0, .int 1]) hc (ok_X9_in hg  h) ml_RX9_35 lk_X9_in ls_X9_in (ap_RmE hz (by decide)) rfl rfl (Nat.le_of_ble_eq_true rfl) dX9_firm_11 rfl (ap_ki (fun r_4 M_5 h => ?_))
    refine ap_if_ne (q := 17) (tgt := 19) hc dX9_firm_14 rfl (by decide) (fun z_6 => ?_) (fun z_6 => ?_)
    · have h := Eq.mp (if_neg z_6) h
      refine ap_aload_n (q := 20) hc dX9_firm_19 rfl rfl 0 rfl ?_
      refine ap_getR (q := 23) (r := q + 1) lg_RX9_9 (by decide) hq rfl hc dX9_firm_20 rfl ?_
      refine ap_bipush (q := 25) hc dX9_firm_23 rfl bc_44 ?_
      refine ap_iload_n (q := 26) hc dX9_firm_25 rfl rfl 1 rfl ?_
      refine ap_iadd (q := 27) hc dX9_firm_26 rfl ?_
      obtain ⟨g_7, h⟩ := h
      refine ap_iald (q := 28) (ty_9_1 hq) (tn_9_1 hq) g_7 hc dX9_firm_27 rfl ?_
      obtain ⟨x3_8, ex3_8, h⟩ := ap_nm h
      refine ap_istore_n (q := 29) (lo2 := [(3, .int x3_8), (0, .ref (ap_ad g q)), (1, .int x1), (2, .int x2)]) hc dX9_firm_28 rfl rfl ex3_8 (by decide) rfl ?_
      refine ap_iconst (q := 30) hc dX9_firm_29 rfl ic_0 ?_
      refine ap_istore (q := 32) (lo2 := [(4, .int 0), (3, .int x3_8), (0, .ref (ap_ad g q)), (1, .int x1), (2, .int x2)]) hc dX9_firm_30 rfl rfl (by decide) rfl ?_
      refine ap_bipush (q := 34) hc dX9_firm_32 rfl bc_m5 ?_
      refine ap_istore (q := 36) (lo2 := [(5, .int (-5)), (4, .int 0), (3, .int x3_8), (0, .ref (ap_ad g q)), (1, .int x1), (2, .int x2)]) hc dX9_firm_34 rfl rfl (by decide) rfl ?_
      refine ap_bipush (q := 38) hc dX9_firm_36 rfl bc_9 ?_
      refine ap_istore (q := 40) (lo2 := [(6, .int 9), (5, .int (-5)), (4, .int 0), (3, .int x3_8), (0, .ref (ap_ad g q)), (1, .int x1), (2, .int x2)]) hc dX9_firm_38 rfl rfl (by decide) rfl ?_
      exact ap_sub [4, 5, 6, 3, 2, 1, 0] rfl (bl_X9_firm_40 hc hz  hq  _ _ _ _ _ _ _ _ h)
    · have h := Eq.mp (if_pos z_6) h
      refine ap_iconst (q := 18) hc dX9_firm_17 rfl ic_m1 ?_
      exact ap_iret hc hz rfl dX9_firm_18 h
theorem ok_X9_firm {l : Launch} {g : ap_G} (hg : ap_GOK g) {q : Nat} (hq : ap_kd q = 9) {x1 : Int32} {x2 : Int32} {M : ap_Mem} {K : Int32 → ap_Mem → Prop} (h : w_X9_firm q x1 x2 M K) : ap_Ct l g yX9_firm cX9_firm 8 (some .int) 7 [.ref (ap_ad g q), .int x1, .int x2] M (ap_Qi K) := by
  refine ap_Ct_of hg (by decide +kernel) (Nat.le_of_ble_eq_true rfl) (fun x hx hc hz => ?_)
  subst hx
  exact bl_X9_firm_0 hc hz hq h
def w_X9_sought_72  (kL4 : Int32 → Int32 → ap_Mem → Prop) (q : Nat) (x2 : Int32) (s0 : Int32) (s1 : Int32) (M : ap_Mem) (K : Int32 → ap_Mem → Prop) : Prop :=
∀ x1_1 : Int32, x1_1 = s1 ||| s0 → ∀ x2_2 : Int32, x2_2 = x2 + 1 → kL4 x1_1 x2_2 M
theorem bl_X9_sought_72 {x : ap_X} {g : ap_G} (hc : ap_Cx x g cX9_sought RX9 4) {K : Int32 → ap_Mem → Prop} (hz : ap_Ends x g 7 (some .int) (ap_Qi K))   {q : Nat} (hq : ap_kd q = 9) {kL4 : Int32 → Int32 → ap_Mem → Prop} (hk4 : ∀ (x1 : Int32) (x2 : Int32)  (M : ap_Mem), kL4 x1 x2 M → ap_V x g 4 4 [(0, .ref (ap_ad g q)), (1, .int x1), (2, .int x2)] [] M) {x2 : Int32} {s0 : Int32} {s1 : Int32} {M : ap_Mem}  (h : w_X9_sought_72  kL4 q x2 s0 s1 M K) : ap_V x g 4 72 [(0, .ref (ap_ad g q)), (2, .int x2)] [.int s0, .int s1] M := by
  unfold w_X9_sought_72 at h
  refine ap_ior (q := 73) hc dX9_sought_72 rfl ?_
  obtain ⟨x1_1, ex1_1, h⟩ := ap_nm h
  refine ap_istore_n (q := 74) (lo2 := [(1, .int x1_1), (0, .ref (ap_ad g q)), (2, .int x2)]) hc dX9_sought_73 rfl rfl ex1_1 (by decide) rfl ?_
  obtain ⟨x2_2, ex2_2, h⟩ := ap_nm h
  refine ap_iinc (q := 77) (lo2 := [(2, .int x2_2), (1, .int x1_1), (0, .ref (ap_ad g q))]) hc dX9_sought_74 rfl 2 rfl (by rw [ex2_2]; rfl) (by decide) rfl ?_
  refine ap_goto (q := 4) hc dX9_sought_77 (by decide) ?_
  exact ap_sub [2, 1, 0] rfl (hk4 _ _ _ h)
def w_X9_sought_50  (kL21 : Int32 → Int32 → Int32 → ap_Mem → Prop) (q : Nat) (x1 : Int32) (x2 : Int32) (x3 : Int32) (s0 : Int32) (s1 : Int32) (M : ap_Mem) (K : Int32 → ap_Mem → Prop) : Prop :=
vp_in s1 936 ∧ ∀ M_2 : ap_Mem, M_2 = ap_mu M (q + 1) s1.toNatClampNeg s0 → ∀ x3_3 : Int32, x3_3 = x3 + 1 → kL21 x1 x2 x3_3 M_2
theorem bl_X9_sought_50 {x : ap_X} {g : ap_G} (hc : ap_Cx x g cX9_sought RX9 4) {K : Int32 → ap_Mem → Prop} (hz : ap_Ends x g 7 (some .int) (ap_Qi K))   {q : Nat} (hq : ap_kd q = 9) {kL21 : Int32 → Int32 → Int32 → ap_Mem → Prop} (hk21 : ∀ (x1 : Int32) (x2 : Int32) (x3 : Int32)  (M : ap_Mem), kL21 x1 x2 x3 M → ap_V x g 4 21 [(0, .ref (ap_ad g q)), (1, .int x1), (2, .int x2), (3, .int x3)] [] M) {x1 : Int32} {x2 : Int32} {x3 : Int32} {s0 : Int32} {s1 : Int32} {M : ap_Mem}  (h : w_X9_sought_50  kL21 q x1 x2 x3 s0 s1 M K) : ap_V x g 4 50 [(0, .ref (ap_ad g q)), (1, .int x1), (2, .int x2), (3, .int x3)] [.int s0, .int s1, .ref (ap_ad g (q + 1))] M := by
  unfold w_X9_sought_50 at h
  obtain ⟨g_1, h⟩ := h
  obtain ⟨M_2, eM_2, h⟩ := ap_nm h
  refine ap_iast (q := 51) (ty_9_1 hq) (tn_9_1 hq) g_1 eM_2 hc dX9_sought_50 rfl ?_
  obtain ⟨x3_3, ex3_3, h⟩ := ap_nm h
  refine ap_iinc (q := 54) (lo2 := [(3, .int x3_3), (0, .ref (ap_ad g q)), (1, .int x1), (2, .int x2)]) hc dX9_sought_51 rfl 3 rfl (by rw [ex3_3]; rfl) (by decide) rfl ?_
  refine ap_goto (q := 21) hc dX9_sought_54 (by decide) ?_
  exact ap_sub [1, 2, 3, 0] rfl (hk21 _ _ _ _ h)
def w_X9_sought_21_s  (kL4 : Int32 → Int32 → ap_Mem → Prop) (kL21 : Int32 → Int32 → Int32 → ap_Mem → Prop) (q : Nat) (x1 : Int32) (x2 : Int32) (x3 : Int32) (M : ap_Mem) (K : Int32 → ap_Mem → Prop) : Prop :=
vp_in 30 936 ∧ (if (M (q + 1) (30 : Int32).toNatClampNeg) ≤ x3 then (w_X9_areAsSeen q M (fun r_3 M_4 => (if r_3 = 0 then (w_X9_sought_72  kL4 q x2 0 x1 M_4 K) else (w_X9_sought_72  kL4 q x2 (1 <<< (x2 &&& 31)) x1 M_4 K)))) else ((if x3 = x2 then (w_X9_sought_50  kL21 q x1 x2 x3 0 (24 + x3) M K) else (w_X9_sought_50  kL21 q x1 x2 x3 1 (24 + x3) M K))))
def w_X9_sought_21  (kL4 : Int32 → Int32 → ap_Mem → Prop) (q : Nat) (K : Int32 → ap_Mem → Prop) : Nat → Int32 → Int32 → Int32 → ap_Mem → Prop
  | 0, _, _, _, _ => False
  | n + 1, x1, x2, x3, M => w_X9_sought_21_s  kL4 (w_X9_sought_21  kL4 q K n) q x1 x2 x3 M K
theorem bl_X9_sought_21 {x : ap_X} {g : ap_G} (hc : ap_Cx x g cX9_sought RX9 4) {K : Int32 → ap_Mem → Prop} (hz : ap_Ends x g 7 (some .int) (ap_Qi K))   {q : Nat} (hq : ap_kd q = 9) {kL4 : Int32 → Int32 → ap_Mem → Prop} (hk4 : ∀ (x1 : Int32) (x2 : Int32)  (M : ap_Mem), kL4 x1 x2 M → ap_V x g 4 4 [(0, .ref (ap_ad g q)), (1, .int x1), (2, .int x2)] [] M) : ∀ (n : Nat) (x1 : Int32) (x2 : Int32) (x3 : Int32) (M : ap_Mem), w_X9_sought_21  kL4 q K n x1 x2 x3 M → ap_V x g 4 21 [(0, .ref (ap_ad g q)), (1, .int x1), (2, .int x2), (3, .int x3)] [] M := by
  have hg := hc.2.2.2.2.2.2.2.1
  intro n
  induction n with
  | zero => intro _ _ _ _ h; exact h.elim
  | succ n ih =>
    intro x1 x2 x3 M h
    replace h : w_X9_sought_21_s  kL4 (w_X9_sought_21  kL4 q K n) q x1 x2 x3 M K := h
    unfold w_X9_sought_21_s at h
    refine ap_iload_n (q := 22) hc dX9_sought_21 rfl rfl 3 rfl ?_
    refine ap_aload_n (q := 23) hc dX9_sought_22 rfl rfl 0 rfl ?_
    refine ap_getR (q := 26) (r := q + 1) lg_RX9_9 (by decide) hq rfl hc dX9_sought_23 rfl ?_
    refine ap_bipush (q := 28) hc dX9_sought_26 rfl bc_30 ?_
    obtain ⟨g_1, h⟩ := h
    refine ap_iald (q := 29) (ty_9_1 hq) (tn_9_1 hq) g_1 hc dX9_sought_28 rfl ?_
    refine ap_icmp_ge (q := 32) (tgt := 57) hc dX9_sought_29 rfl (by decide) (fun z_2 => ?_) (fun z_2 => ?_)
    · have h := Eq.mp (if_pos z_2) h
      refine ap_iload_n (q := 58) hc dX9_sought_57 rfl rfl 1 rfl ?_
      refine ap_aload_n (q := 59) hc dX9_sought_58 rfl rfl 0 rfl ?_
      refine ap_callV (q := 62) (As := []) hc (ok_X9_areAsSeen hg hq h) ml_RX9_175 lk_X9_areAsSeen lv_X9_areAsSeen hq rfl (ap_RmE hz (by decide)) rfl rfl (Nat.le_of_ble_eq_true rfl) dX9_sought_59 rfl (ap_ki (fun r_3 M_4 h => ?_))
      refine ap_if_eq (q := 65) (tgt := 71) hc dX9_sought_62 rfl (by decide) (fun z_5 => ?_) (fun z_5 => ?_)
      · have h := Eq.mp (if_pos z_5) h
        refine ap_iconst (q := 72) hc dX9_sought_71 rfl ic_0 ?_
        exact ap_sub [0, 2] rfl (bl_X9_sought_72 hc hz  hq hk4  h)
      · have h := Eq.mp (if_neg z_5) h
        refine ap_iconst (q := 66) hc dX9_sought_65 rfl ic_1 ?_
        refine ap_iload_n (q := 67) hc dX9_sought_66 rfl rfl 2 rfl ?_
        refine ap_ishl (q := 68) hc dX9_sought_67 rfl ?_
        refine ap_goto (q := 72) hc dX9_sought_68 (by decide) ?_
        exact ap_sub [0, 2] rfl (bl_X9_sought_72 hc hz  hq hk4  h)
    · have h := Eq.mp (if_neg z_2) h
      refine ap_aload_n (q := 33) hc dX9_sought_32 rfl rfl 0 rfl ?_
      refine ap_getR (q := 36) (r := q + 1) lg_RX9_9 (by decide) hq rfl hc dX9_sought_33 rfl ?_
      refine ap_bipush (q := 38) hc dX9_sought_36 rfl bc_24 ?_
      refine ap_iload_n (q := 39) hc dX9_sought_38 rfl rfl 3 rfl ?_
      refine ap_iadd (q := 40) hc dX9_sought_39 rfl ?_
      refine ap_iload_n (q := 41) hc dX9_sought_40 rfl rfl 3 rfl ?_
      refine ap_iload_n (q := 42) hc dX9_sought_41 rfl rfl 2 rfl ?_
      refine ap_icmp_ne (q := 45) (tgt := 49) hc dX9_sought_42 rfl (by decide) (fun z_6 => ?_) (fun z_6 => ?_)
      · have h := Eq.mp (if_neg z_6) h
        refine ap_iconst (q := 50) hc dX9_sought_49 rfl ic_1 ?_
        exact ap_sub [0, 1, 2, 3] rfl (bl_X9_sought_50 hc hz  hq ih  h)
      · have h := Eq.mp (if_pos z_6) h
        refine ap_iconst (q := 46) hc dX9_sought_45 rfl ic_0 ?_
        refine ap_goto (q := 50) hc dX9_sought_46 (by decide) ?_
        exact ap_sub [0, 1, 2, 3] rfl (bl_X9_sought_50 hc hz  hq ih  h)
def w_X9_sought_4_s   (kL4 : Int32 → Int32 → ap_Mem → Prop) (q : Nat) (x1 : Int32) (x2 : Int32) (M : ap_Mem) (K : Int32 → ap_Mem → Prop) : Prop :=
vp_in 30 936 ∧ (if (M (q + 1) (30 : Int32).toNatClampNeg) ≤ x2 then (K x1 M) else (w_X9_keeps q M (fun M_3 => w_X9_sought_21  kL4 q K 4096 x1 x2 0 M_3)))
def w_X9_sought_4   (q : Nat) (K : Int32 → ap_Mem → Prop) : Nat → Int32 → Int32 → ap_Mem → Prop
  | 0, _, _, _ => False
  | n + 1, x1, x2, M => w_X9_sought_4_s   (w_X9_sought_4   q K n) q x1 x2 M K
theorem bl_X9_sought_4 {x : ap_X} {g : ap_G} (hc : ap_Cx x g cX9_sought RX9 4) {K : Int32 → ap_Mem → Prop} (hz : ap_Ends x g 7 (some .int) (ap_Qi K))   {q : Nat} (hq : ap_kd q = 9)   : ∀ (n : Nat) (x1 : Int32) (x2 : Int32) (M : ap_Mem), w_X9_sought_4   q K n x1 x2 M → ap_V x g 4 4 [(0, .ref (ap_ad g q)), (1, .int x1), (2, .int x2)] [] M := by
  have hg := hc.2.2.2.2.2.2.2.1
  intro n
  induction n with
  | zero => intro _ _ _ h; exact h.elim
  | succ n ih =>
    intro x1 x2 M h
    replace h : w_X9_sought_4_s   (w_X9_sought_4   q K n) q x1 x2 M K := h
    unfold w_X9_sought_4_s at h
    refine ap_iload_n (q := 5) hc dX9_sought_4 rfl rfl 2 rfl ?_
    refine ap_aload_n (q := 6) hc dX9_sought_5 rfl rfl 0 rfl ?_
    refine ap_getR (q := 9) (r := q + 1) lg_RX9_9 (by decide) hq rfl hc dX9_sought_6 rfl ?_
    refine ap_bipush (q := 11) hc dX9_sought_9 rfl bc_30 ?_
    obtain ⟨g_1, h⟩ := h
    refine ap_iald (q := 12) (ty_9_1 hq) (tn_9_1 hq) g_1 hc dX9_sought_11 rfl ?_
    refine ap_icmp_ge (q := 15) (tgt := 80) hc dX9_sought_12 rfl (by decide) (fun z_2 => ?_) (fun z_2 => ?_)
    · have h := Eq.mp (if_pos z_2) h
      refine ap_iload_n (q := 81) hc dX9_sought_80 rfl rfl 1 rfl ?_
      exact ap_iret hc hz rfl dX9_sought_81 h
    · have h := Eq.mp (if_neg z_2) h
      refine ap_aload_n (q := 16) hc dX9_sought_15 rfl rfl 0 rfl ?_
      refine ap_callV (q := 19) (As := []) hc (ok_X9_keeps hg hq h) ml_RX9_152 lk_X9_keeps lv_X9_keeps hq rfl (ap_RmE hz (by decide)) rfl rfl (Nat.le_of_ble_eq_true rfl) dX9_sought_16 rfl (ap_kv (fun M_3 h => ?_))
      refine ap_iconst (q := 20) hc dX9_sought_19 rfl ic_0 ?_
      refine ap_istore_n (q := 21) (lo2 := [(3, .int 0), (0, .ref (ap_ad g q)), (1, .int x1), (2, .int x2)]) hc dX9_sought_20 rfl rfl rfl (by decide) rfl ?_
      exact ap_sub [1, 2, 3, 0] rfl (bl_X9_sought_21 hc hz  hq ih _ _ _ _ _ h)
def w_X9_sought   (q : Nat)  (M : ap_Mem) (K : Int32 → ap_Mem → Prop) : Prop :=
w_X9_sought_4   q K 4096 0 0 M
theorem bl_X9_sought_0 {x : ap_X} {g : ap_G} (hc : ap_Cx x g cX9_sought RX9 4) {K : Int32 → ap_Mem → Prop} (hz : ap_Ends x g 7 (some .int) (ap_Qi K))   {q : Nat} (hq : ap_kd q = 9)    {M : ap_Mem}  (h : w_X9_sought   q  M K) : ap_V x g 4 0 [(0, .ref (ap_ad g q))] [] M := by
  unfold w_X9_sought at h
  refine ap_iconst (q := 1) hc dX9_sought_0 rfl ic_0 ?_
  refine ap_istore_n (q := 2) (lo2 := [(1, .int 0), (0, .ref (ap_ad g q))]) hc dX9_sought_1 rfl rfl rfl (by decide) rfl ?_
  refine ap_iconst (q := 3) hc dX9_sought_2 rfl ic_0 ?_
  refine ap_istore_n (q := 4) (lo2 := [(2, .int 0), (1, .int 0), (0, .ref (ap_ad g q))]) hc dX9_sought_3 rfl rfl rfl (by decide) rfl ?_
  exact ap_sub [2, 1, 0] rfl (bl_X9_sought_4 hc hz  hq  _ _ _ _ h)
theorem ok_X9_sought {l : Launch} {g : ap_G} (hg : ap_GOK g) {q : Nat} (hq : ap_kd q = 9)  {M : ap_Mem} {K : Int32 → ap_Mem → Prop} (h : w_X9_sought q  M K) : ap_Ct l g yX9_sought cX9_sought 4 (some .int) 7 [.ref (ap_ad g q)] M (ap_Qi K) := by
  refine ap_Ct_of hg (by decide +kernel) (Nat.le_of_ble_eq_true rfl) (fun x hx hc hz => ?_)
  subst hx
  exact bl_X9_sought_0 hc hz hq h
def w_X9_lowest_17_s   (kL17 : Int64 → Int64 → Int32 → Int64 → Int64 → ap_Mem → Prop)  (x0 : Int64) (x2 : Int64) (x4 : Int32) (x5 : Int64) (x7 : Int64) (M : ap_Mem) (K : Int64 → ap_Mem → Prop) : Prop :=
(if (lg_cmp x7 0) = 0 then ((if x4 = 0 then ((¬ x5 = 0) ∧ K (x0 / x5) M) else ((¬ x5 = 0) ∧ K (x2 / x5) M))) else ((¬ x7 = 0) ∧ ∀ x9_6 : Int64, x9_6 = x5 - x5 / x7 * x7 → kL17 x0 x2 x4 x7 x9_6 M))
def w_X9_lowest_17    (K : Int64 → ap_Mem → Prop) : Nat → Int64 → Int64 → Int32 → Int64 → Int64 → ap_Mem → Prop
  | 0, _, _, _, _, _, _ => False
  | n + 1, x0, x2, x4, x5, x7, M => w_X9_lowest_17_s   (w_X9_lowest_17    K n)  x0 x2 x4 x5 x7 M K
theorem bl_X9_lowest_17 {x : ap_X} {g : ap_G} (hc : ap_Cx x g cX9_lowest RX9 11) {K : Int64 → ap_Mem → Prop} (hz : ap_Ends x g 0 (some .long) (ap_Ql K))       : ∀ (n : Nat) (x0 : Int64) (x2 : Int64) (x4 : Int32) (x5 : Int64) (x7 : Int64) (M : ap_Mem), w_X9_lowest_17    K n x0 x2 x4 x5 x7 M → ap_V x g 11 17 [(0, .long x0), (2, .long x2), (4, .int x4), (5, .long x5), (7, .long x7)] [] M := by
  intro n
  induction n with
  | zero => intro _ _ _ _ _ _ h; exact h.elim
  | succ n ih =>
    intro x0 x2 x4 x5 x7 M h
    replace h : w_X9_lowest_17_s   (w_X9_lowest_17    K n)  x0 x2 x4 x5 x7 M K := h
    unfold w_X9_lowest_17_s at h
    refine ap_lload (q := 19) hc dX9_lowest_17 rfl 4 rfl ?_
    refine ap_lconst (v := 0) (q := 20) hc dX9_lowest_19 rfl (by decide) ?_
    refine ap_lcmp (q := 21) hc dX9_lowest_20 rfl ?_
    refine ap_if_eq (q := 24) (tgt := 42) hc dX9_lowest_21 rfl (by decide) (fun z_1 => ?_) (fun z_1 => ?_)
    · have h := Eq.mp (if_pos z_1) h
      refine ap_iload (q := 44) hc dX9_lowest_42 rfl 2 rfl ?_
      refine ap_if_ne (q := 47) (tgt := 51) hc dX9_lowest_44 rfl (by decide) (fun z_2 => ?_) (fun z_2 => ?_)
      · have h := Eq.mp (if_neg z_2) h
        refine ap_lload_n (q := 52) hc dX9_lowest_51 rfl rfl 1 rfl ?_
        refine ap_lload (q := 54) hc dX9_lowest_52 rfl 3 rfl ?_
        obtain ⟨g_3, h⟩ := h
        refine ap_ldiv (q := 55) hc dX9_lowest_54 rfl g_3 ?_
        exact ap_lret hc hz dX9_lowest_55 h
      · have h := Eq.mp (if_pos z_2) h
        refine ap_lload_n (q := 48) hc dX9_lowest_47 rfl rfl 0 rfl ?_
        refine ap_goto (q := 52) hc dX9_lowest_48 (by decide) ?_
        refine ap_lload (q := 54) hc dX9_lowest_52 rfl 3 rfl ?_
        obtain ⟨g_4, h⟩ := h
        refine ap_ldiv (q := 55) hc dX9_lowest_54 rfl g_4 ?_
        exact ap_lret hc hz dX9_lowest_55 h
    · have h := Eq.mp (if_neg z_1) h
      refine ap_lload (q := 26) hc dX9_lowest_24 rfl 3 rfl ?_
      refine ap_lload (q := 28) hc dX9_lowest_26 rfl 4 rfl ?_
      obtain ⟨g_5, h⟩ := h
      refine ap_lrem (q := 29) hc dX9_lowest_28 rfl g_5 ?_
      obtain ⟨x9_6, ex9_6, h⟩ := ap_nm h
      refine ap_lstore (q := 31) (lo2 := [(9, .long x9_6), (0, .long x0), (2, .long x2), (4, .int x4), (5, .long x5), (7, .long x7)]) hc dX9_lowest_29 rfl ex9_6 (by decide) rfl ?_
      refine ap_lload (q := 33) hc dX9_lowest_31 rfl 5 rfl ?_
      refine ap_lstore (q := 35) (lo2 := [(5, .long x7), (9, .long x9_6), (0, .long x0), (2, .long x2), (4, .int x4), (7, .long x7)]) hc dX9_lowest_33 rfl rfl (by decide) rfl ?_
      refine ap_lload (q := 37) hc dX9_lowest_35 rfl 1 rfl ?_
      refine ap_lstore (q := 39) (lo2 := [(7, .long x9_6), (5, .long x7), (9, .long x9_6), (0, .long x0), (2, .long x2), (4, .int x4)]) hc dX9_lowest_37 rfl rfl (by decide) rfl ?_
      refine ap_goto (q := 17) hc dX9_lowest_39 (by decide) ?_
      exact ap_sub [3, 4, 5, 1, 0] rfl (ih _ _ _ _ _ _ h)
def w_X9_lowest_12    (x0 : Int64) (x2 : Int64) (x4 : Int32) (s0 : Int64) (M : ap_Mem) (K : Int64 → ap_Mem → Prop) : Prop :=
w_X9_lowest_17    K 4096 x0 x2 x4 s0 x2 M
theorem bl_X9_lowest_12 {x : ap_X} {g : ap_G} (hc : ap_Cx x g cX9_lowest RX9 11) {K : Int64 → ap_Mem → Prop} (hz : ap_Ends x g 0 (some .long) (ap_Ql K))       {x0 : Int64} {x2 : Int64} {x4 : Int32} {s0 : Int64} {M : ap_Mem}  (h : w_X9_lowest_12    x0 x2 x4 s0 M K) : ap_V x g 11 12 [(0, .long x0), (2, .long x2), (4, .int x4)] [.long s0] M := by
  unfold w_X9_lowest_12 at h
  refine ap_lstore (q := 14) (lo2 := [(5, .long s0), (0, .long x0), (2, .long x2), (4, .int x4)]) hc dX9_lowest_12 rfl rfl (by decide) rfl ?_
  refine ap_lload_n (q := 15) hc dX9_lowest_14 rfl rfl 2 rfl ?_
  refine ap_lstore (q := 17) (lo2 := [(7, .long x2), (5, .long s0), (0, .long x0), (2, .long x2), (4, .int x4)]) hc dX9_lowest_15 rfl rfl (by decide) rfl ?_
  exact ap_sub [2, 3, 4, 1, 0] rfl (bl_X9_lowest_17 hc hz    _ _ _ _ _ _ _ h)
def w_X9_lowest    (x0 : Int64) (x2 : Int64) (x4 : Int32) (M : ap_Mem) (K : Int64 → ap_Mem → Prop) : Prop :=
(if 0 ≤ (lg_cmp x0 0) then (w_X9_lowest_12    x0 x2 x4 x0 M K) else (w_X9_lowest_12    x0 x2 x4 (-x0) M K))
theorem bl_X9_lowest_0 {x : ap_X} {g : ap_G} (hc : ap_Cx x g cX9_lowest RX9 11) {K : Int64 → ap_Mem → Prop} (hz : ap_Ends x g 0 (some .long) (ap_Ql K))       {x0 : Int64} {x2 : Int64} {x4 : Int32} {M : ap_Mem}  (h : w_X9_lowest    x0 x2 x4 M K) : ap_V x g 11 0 [(0, .long x0), (2, .long x2), (4, .int x4)] [] M := by
  unfold w_X9_lowest at h
  refine ap_lload_n (q := 1) hc dX9_lowest_0 rfl rfl 0 rfl ?_
  refine ap_lconst (v := 0) (q := 2) hc dX9_lowest_1 rfl (by decide) ?_
  refine ap_lcmp (q := 3) hc dX9_lowest_2 rfl ?_
  refine ap_if_ge (q := 6) (tgt := 11) hc dX9_lowest_3 rfl (by decide) (fun z_1 => ?_) (fun z_1 => ?_)
  · have h := Eq.mp (if_pos z_1) h
    refine ap_lload_n (q := 12) hc dX9_lowest_11 rfl rfl 0 rfl ?_
    exact ap_sub [0, 1, 2] rfl (bl_X9_lowest_12 hc hz     h)
  · have h := Eq.mp (if_neg z_1) h
    refine ap_lload_n (q := 7) hc dX9_lowest_6 rfl rfl 0 rfl ?_
    refine ap_lneg (q := 8) hc dX9_lowest_7 rfl ?_
    refine ap_goto (q := 12) hc dX9_lowest_8 (by decide) ?_
    exact ap_sub [0, 1, 2] rfl (bl_X9_lowest_12 hc hz     h)
theorem ok_X9_lowest {l : Launch} {g : ap_G} (hg : ap_GOK g)   {x0 : Int64} {x2 : Int64} {x4 : Int32} {M : ap_Mem} {K : Int64 → ap_Mem → Prop} (h : w_X9_lowest  x0 x2 x4 M K) : ap_Ct l g yX9_lowest cX9_lowest 11 (some .long) 0 [.long x0, .long x2, .int x4] M (ap_Ql K) := by
  refine ap_Ct_of hg (by decide +kernel) (Nat.le_of_ble_eq_true rfl) (fun x hx hc hz => ?_)
  subst hx
  exact bl_X9_lowest_0 hc hz  h
def w_X9_odds_95  (kL46 : Int32 → Int32 → Int32 → Int64 → Int32 → ap_Mem → Prop) (q : Nat) (x1 : Int32) (x2 : Int32) (x3 : Int32) (x6 : Int32) (s0 : Int64) (s1 : Int64) (M : ap_Mem) (K : Int64 → ap_Mem → Prop) : Prop :=
∀ x4_1 : Int64, x4_1 = s1 + s0 → w_X9_goesBack q M (fun M_2 => ∀ x6_3 : Int32, x6_3 = x6 + 1 → kL46 x1 x2 x3 x4_1 x6_3 M_2)
theorem bl_X9_odds_95 {x : ap_X} {g : ap_G} (hc : ap_Cx x g cX9_odds RX9 7) {K : Int64 → ap_Mem → Prop} (hz : ap_Ends x g 7 (some .long) (ap_Ql K))   {q : Nat} (hq : ap_kd q = 9) {kL46 : Int32 → Int32 → Int32 → Int64 → Int32 → ap_Mem → Prop} (hk46 : ∀ (x1 : Int32) (x2 : Int32) (x3 : Int32) (x4 : Int64) (x6 : Int32)  (M : ap_Mem), kL46 x1 x2 x3 x4 x6 M → ap_V x g 7 46 [(0, .ref (ap_ad g q)), (1, .int x1), (2, .int x2), (3, .int x3), (4, .long x4), (6, .int x6)] [] M) {x1 : Int32} {x2 : Int32} {x3 : Int32} {x6 : Int32} {s0 : Int64} {s1 : Int64} {M : ap_Mem}  (h : w_X9_odds_95  kL46 q x1 x2 x3 x6 s0 s1 M K) : ap_V x g 7 95 [(0, .ref (ap_ad g q)), (1, .int x1), (2, .int x2), (3, .int x3), (6, .int x6)] [.long s0, .long s1] M := by
  have hg := hc.2.2.2.2.2.2.2.1
  unfold w_X9_odds_95 at h
  refine ap_ladd (q := 96) hc dX9_odds_95 rfl ?_
  obtain ⟨x4_1, ex4_1, h⟩ := ap_nm h
  refine ap_lstore (q := 98) (lo2 := [(4, .long x4_1), (0, .ref (ap_ad g q)), (1, .int x1), (2, .int x2), (3, .int x3), (6, .int x6)]) hc dX9_odds_96 rfl ex4_1 (by decide) rfl ?_
  refine ap_aload_n (q := 99) hc dX9_odds_98 rfl rfl 1 rfl ?_
  refine ap_callV (q := 102) (As := []) hc (ok_X9_goesBack hg hq h) ml_RX9_158 lk_X9_goesBack lv_X9_goesBack hq rfl (ap_RmE hz (by decide)) rfl rfl (Nat.le_of_ble_eq_true rfl) dX9_odds_99 rfl (ap_kv (fun M_2 h => ?_))
  obtain ⟨x6_3, ex6_3, h⟩ := ap_nm h
  refine ap_iinc (q := 105) (lo2 := [(6, .int x6_3), (4, .long x4_1), (0, .ref (ap_ad g q)), (1, .int x1), (2, .int x2), (3, .int x3)]) hc dX9_odds_102 rfl 5 rfl (by rw [ex6_3]; rfl) (by decide) rfl ?_
  refine ap_goto (q := 46) hc dX9_odds_105 (by decide) ?_
  exact ap_sub [2, 3, 4, 5, 1, 0] rfl (hk46 _ _ _ _ _ _ h)
def w_X9_odds_46_s   (kL46 : Int32 → Int32 → Int32 → Int64 → Int32 → ap_Mem → Prop) (q : Nat) (x1 : Int32) (x2 : Int32) (x3 : Int32) (x4 : Int64) (x6 : Int32) (M : ap_Mem) (K : Int64 → ap_Mem → Prop) : Prop :=
vp_in 30 936 ∧ (if (M (q + 1) (30 : Int32).toNatClampNeg) ≤ x6 then (vp_in 30 936 ∧ w_X9_lowest x4 (M (q + 1) (30 : Int32).toNatClampNeg).toInt64 x3 M (fun r_4 M_5 => K r_4 M_5)) else (w_X9_keeps q M (fun M_6 => vp_in (24 + x6) 936 ∧ ∀ M_8 : ap_Mem, M_8 = ap_mu M_6 (q + 1) (24 + x6).toNatClampNeg 1 → w_X9_goesOn q x2 M_8 (fun M_9 => vp_in 1 936 ∧ (if (M_9 (q + 1) (1 : Int32).toNatClampNeg) = x1 then (w_X9_odds_95  kL46 q x1 x2 x3 x6 1 x4 M_9 K) else (w_X9_odds_95  kL46 q x1 x2 x3 x6 0 x4 M_9 K))))))
def w_X9_odds_46   (q : Nat) (K : Int64 → ap_Mem → Prop) : Nat → Int32 → Int32 → Int32 → Int64 → Int32 → ap_Mem → Prop
  | 0, _, _, _, _, _, _ => False
  | n + 1, x1, x2, x3, x4, x6, M => w_X9_odds_46_s   (w_X9_odds_46   q K n) q x1 x2 x3 x4 x6 M K
theorem bl_X9_odds_46 {x : ap_X} {g : ap_G} (hc : ap_Cx x g cX9_odds RX9 7) {K : Int64 → ap_Mem → Prop} (hz : ap_Ends x g 7 (some .long) (ap_Ql K))   {q : Nat} (hq : ap_kd q = 9)   : ∀ (n : Nat) (x1 : Int32) (x2 : Int32) (x3 : Int32) (x4 : Int64) (x6 : Int32) (M : ap_Mem), w_X9_odds_46   q K n x1 x2 x3 x4 x6 M → ap_V x g 7 46 [(0, .ref (ap_ad g q)), (1, .int x1), (2, .int x2), (3, .int x3), (4, .long x4), (6, .int x6)] [] M := by
  have hg := hc.2.2.2.2.2.2.2.1
  intro n
  induction n with
  | zero => intro _ _ _ _ _ _ h; exact h.elim
  | succ n ih =>
    intro x1 x2 x3 x4 x6 M h
    replace h : w_X9_odds_46_s   (w_X9_odds_46   q K n) q x1 x2 x3 x4 x6 M K := h
    unfold w_X9_odds_46_s at h
    refine ap_iload (q := 48) hc dX9_odds_46 rfl 5 rfl ?_
    refine ap_aload_n (q := 49) hc dX9_odds_48 rfl rfl 0 rfl ?_
    refine ap_getR (q := 52) (r := q + 1) lg_RX9_9 (by decide) hq rfl hc dX9_odds_49 rfl ?_
    refine ap_bipush (q := 54) hc dX9_odds_52 rfl bc_30 ?_
    obtain ⟨g_1, h⟩ := h
    refine ap_iald (q := 55) (ty_9_1 hq) (tn_9_1 hq) g_1 hc dX9_odds_54 rfl ?_
    refine ap_icmp_ge (q := 58) (tgt := 108) hc dX9_odds_55 rfl (by decide) (fun z_2 => ?_) (fun z_2 => ?_)
    · have h := Eq.mp (if_pos z_2) h
      refine ap_lload (q := 110) hc dX9_odds_108 rfl 4 rfl ?_
      refine ap_aload_n (q := 111) hc dX9_odds_110 rfl rfl 0 rfl ?_
      refine ap_getR (q := 114) (r := q + 1) lg_RX9_9 (by decide) hq rfl hc dX9_odds_111 rfl ?_
      refine ap_bipush (q := 116) hc dX9_odds_114 rfl bc_30 ?_
      obtain ⟨g_3, h⟩ := h
      refine ap_iald (q := 117) (ty_9_1 hq) (tn_9_1 hq) g_3 hc dX9_odds_116 rfl ?_
      refine ap_i2l (q := 118) hc dX9_odds_117 rfl ?_
      refine ap_iload_n (q := 119) hc dX9_odds_118 rfl rfl 3 rfl ?_
      refine ap_callS (q := 122) (As := [.long x4, .long (M (q + 1) (30 : Int32).toNatClampNeg).toInt64, .int x3]) hc (ok_X9_lowest hg  h) ml_RX9_181 lk_X9_lowest ls_X9_lowest (ap_RmE hz (by decide)) rfl rfl (Nat.le_of_ble_eq_true rfl) dX9_odds_119 rfl (ap_kl (fun r_4 M_5 h => ?_))
      exact ap_lret hc hz dX9_odds_122 h
    · have h := Eq.mp (if_neg z_2) h
      refine ap_aload_n (q := 59) hc dX9_odds_58 rfl rfl 0 rfl ?_
      refine ap_callV (q := 62) (As := []) hc (ok_X9_keeps hg hq h) ml_RX9_152 lk_X9_keeps lv_X9_keeps hq rfl (ap_RmE hz (by decide)) rfl rfl (Nat.le_of_ble_eq_true rfl) dX9_odds_59 rfl (ap_kv (fun M_6 h => ?_))
      refine ap_aload_n (q := 63) hc dX9_odds_62 rfl rfl 0 rfl ?_
      refine ap_getR (q := 66) (r := q + 1) lg_RX9_9 (by decide) hq rfl hc dX9_odds_63 rfl ?_
      refine ap_bipush (q := 68) hc dX9_odds_66 rfl bc_24 ?_
      refine ap_iload (q := 70) hc dX9_odds_68 rfl 5 rfl ?_
      refine ap_iadd (q := 71) hc dX9_odds_70 rfl ?_
      refine ap_iconst (q := 72) hc dX9_odds_71 rfl ic_1 ?_
      obtain ⟨g_7, h⟩ := h
      obtain ⟨M_8, eM_8, h⟩ := ap_nm h
      refine ap_iast (q := 73) (ty_9_1 hq) (tn_9_1 hq) g_7 eM_8 hc dX9_odds_72 rfl ?_
      refine ap_aload_n (q := 74) hc dX9_odds_73 rfl rfl 0 rfl ?_
      refine ap_iload_n (q := 75) hc dX9_odds_74 rfl rfl 2 rfl ?_
      refine ap_callV (q := 78) (As := [.int x2]) hc (ok_X9_goesOn hg hq h) ml_RX9_155 lk_X9_goesOn lv_X9_goesOn hq rfl (ap_RmE hz (by decide)) rfl rfl (Nat.le_of_ble_eq_true rfl) dX9_odds_75 rfl (ap_kv (fun M_9 h => ?_))
      refine ap_lload (q := 80) hc dX9_odds_78 rfl 4 rfl ?_
      refine ap_aload_n (q := 81) hc dX9_odds_80 rfl rfl 0 rfl ?_
      refine ap_getR (q := 84) (r := q + 1) lg_RX9_9 (by decide) hq rfl hc dX9_odds_81 rfl ?_
      refine ap_iconst (q := 85) hc dX9_odds_84 rfl ic_1 ?_
      obtain ⟨g_10, h⟩ := h
      refine ap_iald (q := 86) (ty_9_1 hq) (tn_9_1 hq) g_10 hc dX9_odds_85 rfl ?_
      refine ap_iload_n (q := 87) hc dX9_odds_86 rfl rfl 1 rfl ?_
      refine ap_icmp_ne (q := 90) (tgt := 94) hc dX9_odds_87 rfl (by decide) (fun z_11 => ?_) (fun z_11 => ?_)
      · have h := Eq.mp (if_neg z_11) h
        refine ap_lconst (v := 0) (q := 95) hc dX9_odds_94 rfl (by decide) ?_
        exact ap_sub [0, 1, 2, 3, 5] rfl (bl_X9_odds_95 hc hz  hq ih  h)
      · have h := Eq.mp (if_pos z_11) h
        refine ap_lconst (v := 1) (q := 91) hc dX9_odds_90 rfl (by decide) ?_
        refine ap_goto (q := 95) hc dX9_odds_91 (by decide) ?_
        exact ap_sub [0, 1, 2, 3, 5] rfl (bl_X9_odds_95 hc hz  hq ih  h)
def w_X9_odds   (q : Nat) (x1 : Int32) (x2 : Int32) (x3 : Int32) (M : ap_Mem) (K : Int64 → ap_Mem → Prop) : Prop :=
w_X9_isCell x1 M (fun r_1 M_2 => (if r_1 = 0 then (K (-9223372036854775808) M_2) else (w_X9_in x2 0 60 M_2 (fun r_4 M_5 => (if r_4 = 0 then (K (-9223372036854775808) M_5) else (w_X9_in x3 0 1 M_5 (fun r_7 M_8 => (if r_7 = 0 then (K (-9223372036854775808) M_8) else (vp_in 30 936 ∧ (if (M_8 (q + 1) (30 : Int32).toNatClampNeg) = 0 then (K (-9223372036854775808) M_8) else (w_X9_odds_46   q K 4096 x1 x2 x3 0 0 M_8)))))))))))
theorem bl_X9_odds_0 {x : ap_X} {g : ap_G} (hc : ap_Cx x g cX9_odds RX9 7) {K : Int64 → ap_Mem → Prop} (hz : ap_Ends x g 7 (some .long) (ap_Ql K))   {q : Nat} (hq : ap_kd q = 9)   {x1 : Int32} {x2 : Int32} {x3 : Int32} {M : ap_Mem}  (h : w_X9_odds   q x1 x2 x3 M K) : ap_V x g 7 0 [(0, .ref (ap_ad g q)), (1, .int x1), (2, .int x2), (3, .int x3)] [] M := by
  have hg := hc.2.2.2.2.2.2.2.1
  unfold w_X9_odds at h
  refine ap_iload_n (q := 1) hc dX9_odds_0 rfl rfl 1 rfl ?_
  refine ap_callS (q := 4) (As := [.int x1]) hc (ok_X9_isCell hg  h) ml_RX9_132 lk_X9_isCell ls_X9_isCell (ap_RmE hz (by decide)) rfl rfl (Nat.le_of_ble_eq_true rfl) dX9_odds_1 rfl (ap_ki (fun r_1 M_2 h => ?_))
  refine ap_if_eq (q := 7) (tgt := 36) hc dX9_odds_4 rfl (by decide) (fun z_3 => ?_) (fun z_3 => ?_)
  · have h := Eq.mp (if_pos z_3) h
    refine ap_ldc2 (q := 39) hc dX9_odds_36 rfl ct_RX9_179 ?_
    exact ap_lret hc hz dX9_odds_39 h
  · have h := Eq.mp (if_neg z_3) h
    refine ap_iload_n (q := 8) hc dX9_odds_7 rfl rfl 2 rfl ?_
    refine ap_iconst (q := 9) hc dX9_odds_8 rfl ic_0 ?_
    refine ap_bipush (q := 11) hc dX9_odds_9 rfl bc_60 ?_
    refine ap_callS (q := 14) (As := [.int x2, .int 0, .int 60]) hc (ok_X9_in hg  h) ml_RX9_35 lk_X9_in ls_X9_in (ap_RmE hz (by decide)) rfl rfl (Nat.le_of_ble_eq_true rfl) dX9_odds_11 rfl (ap_ki (fun r_4 M_5 h => ?_))
    refine ap_if_eq (q := 17) (tgt := 36) hc dX9_odds_14 rfl (by decide) (fun z_6 => ?_) (fun z_6 => ?_)
    · have h := Eq.mp (if_pos z_6) h
      refine ap_ldc2 (q := 39) hc dX9_odds_36 rfl ct_RX9_179 ?_
      exact ap_lret hc hz dX9_odds_39 h
    · have h := Eq.mp (if_neg z_6) h
      refine ap_iload_n (q := 18) hc dX9_odds_17 rfl rfl 3 rfl ?_
      refine ap_iconst (q := 19) hc dX9_odds_18 rfl ic_0 ?_
      refine ap_iconst (q := 20) hc dX9_odds_19 rfl ic_1 ?_
      refine ap_callS (q := 23) (As := [.int x3, .int 0, .int 1]) hc (ok_X9_in hg  h) ml_RX9_35 lk_X9_in ls_X9_in (ap_RmE hz (by decide)) rfl rfl (Nat.le_of_ble_eq_true rfl) dX9_odds_20 rfl (ap_ki (fun r_7 M_8 h => ?_))
      refine ap_if_eq (q := 26) (tgt := 36) hc dX9_odds_23 rfl (by decide) (fun z_9 => ?_) (fun z_9 => ?_)
      · have h := Eq.mp (if_pos z_9) h
        refine ap_ldc2 (q := 39) hc dX9_odds_36 rfl ct_RX9_179 ?_
        exact ap_lret hc hz dX9_odds_39 h
      · have h := Eq.mp (if_neg z_9) h
        refine ap_aload_n (q := 27) hc dX9_odds_26 rfl rfl 0 rfl ?_
        refine ap_getR (q := 30) (r := q + 1) lg_RX9_9 (by decide) hq rfl hc dX9_odds_27 rfl ?_
        refine ap_bipush (q := 32) hc dX9_odds_30 rfl bc_30 ?_
        obtain ⟨g_10, h⟩ := h
        refine ap_iald (q := 33) (ty_9_1 hq) (tn_9_1 hq) g_10 hc dX9_odds_32 rfl ?_
        refine ap_if_ne (q := 36) (tgt := 40) hc dX9_odds_33 rfl (by decide) (fun z_11 => ?_) (fun z_11 => ?_)
        · have h := Eq.mp (if_neg z_11) h
          refine ap_lconst (v := 0) (q := 41) hc dX9_odds_40 rfl (by decide) ?_
          refine ap_lstore (q := 43) (lo2 := [(4, .long 0), (0, .ref (ap_ad g q)), (1, .int x1), (2, .int x2), (3, .int x3)]) hc dX9_odds_41 rfl rfl (by decide) rfl ?_
          refine ap_iconst (q := 44) hc dX9_odds_43 rfl ic_0 ?_
          refine ap_istore (q := 46) (lo2 := [(6, .int 0), (4, .long 0), (0, .ref (ap_ad g q)), (1, .int x1), (2, .int x2), (3, .int x3)]) hc dX9_odds_44 rfl rfl (by decide) rfl ?_
          exact ap_sub [2, 3, 4, 5, 1, 0] rfl (bl_X9_odds_46 hc hz  hq  _ _ _ _ _ _ _ h)
        · have h := Eq.mp (if_pos z_11) h
          refine ap_ldc2 (q := 39) hc dX9_odds_36 rfl ct_RX9_179 ?_
          exact ap_lret hc hz dX9_odds_39 h
theorem ok_X9_odds {l : Launch} {g : ap_G} (hg : ap_GOK g) {q : Nat} (hq : ap_kd q = 9) {x1 : Int32} {x2 : Int32} {x3 : Int32} {M : ap_Mem} {K : Int64 → ap_Mem → Prop} (h : w_X9_odds q x1 x2 x3 M K) : ap_Ct l g yX9_odds cX9_odds 7 (some .long) 7 [.ref (ap_ad g q), .int x1, .int x2, .int x3] M (ap_Ql K) := by
  refine ap_Ct_of hg (by decide +kernel) (Nat.le_of_ble_eq_true rfl) (fun x hx hc hz => ?_)
  subst hx
  exact bl_X9_odds_0 hc hz hq h
def w_X9_mean_36  (kL5 : Int32 → Int32 → Int32 → Int32 → ap_Mem → Prop) (q : Nat) (x1 : Int32) (x2 : Int32) (x4 : Int32) (s0 : Int32) (s1 : Int32) (M : ap_Mem) (K : Int64 → ap_Mem → Prop) : Prop :=
∀ x3_1 : Int32, x3_1 = s1 + s0 → ∀ x4_2 : Int32, x4_2 = x4 + 1 → kL5 x1 x2 x3_1 x4_2 M
theorem bl_X9_mean_36 {x : ap_X} {g : ap_G} (hc : ap_Cx x g cX9_mean RX9 7) {K : Int64 → ap_Mem → Prop} (hz : ap_Ends x g 7 (some .long) (ap_Ql K))   {q : Nat} (hq : ap_kd q = 9) {kL5 : Int32 → Int32 → Int32 → Int32 → ap_Mem → Prop} (hk5 : ∀ (x1 : Int32) (x2 : Int32) (x3 : Int32) (x4 : Int32)  (M : ap_Mem), kL5 x1 x2 x3 x4 M → ap_V x g 7 5 [(0, .ref (ap_ad g q)), (1, .int x1), (2, .int x2), (3, .int x3), (4, .int x4)] [] M) {x1 : Int32} {x2 : Int32} {x4 : Int32} {s0 : Int32} {s1 : Int32} {M : ap_Mem}  (h : w_X9_mean_36  kL5 q x1 x2 x4 s0 s1 M K) : ap_V x g 7 36 [(0, .ref (ap_ad g q)), (1, .int x1), (2, .int x2), (4, .int x4)] [.int s0, .int s1] M := by
  unfold w_X9_mean_36 at h
  refine ap_iadd (q := 37) hc dX9_mean_36 rfl ?_
  obtain ⟨x3_1, ex3_1, h⟩ := ap_nm h
  refine ap_istore_n (q := 38) (lo2 := [(3, .int x3_1), (0, .ref (ap_ad g q)), (1, .int x1), (2, .int x2), (4, .int x4)]) hc dX9_mean_37 rfl rfl ex3_1 (by decide) rfl ?_
  obtain ⟨x4_2, ex4_2, h⟩ := ap_nm h
  refine ap_iinc (q := 41) (lo2 := [(4, .int x4_2), (3, .int x3_1), (0, .ref (ap_ad g q)), (1, .int x1), (2, .int x2)]) hc dX9_mean_38 rfl 4 rfl (by rw [ex4_2]; rfl) (by decide) rfl ?_
  refine ap_goto (q := 5) hc dX9_mean_41 (by decide) ?_
  exact ap_sub [2, 3, 4, 1, 0] rfl (hk5 _ _ _ _ _ h)
def w_X9_mean_137  (kL86 : Int32 → Int32 → Int64 → Int32 → ap_Mem → Prop) (q : Nat) (x2 : Int32) (x3 : Int32) (x6 : Int32) (s0 : Int64) (s1 : Int64) (M : ap_Mem) (K : Int64 → ap_Mem → Prop) : Prop :=
∀ x4_1 : Int64, x4_1 = s1 + s0 → ∀ x6_2 : Int32, x6_2 = x6 + 1 → kL86 x2 x3 x4_1 x6_2 M
theorem bl_X9_mean_137 {x : ap_X} {g : ap_G} (hc : ap_Cx x g cX9_mean RX9 7) {K : Int64 → ap_Mem → Prop} (hz : ap_Ends x g 7 (some .long) (ap_Ql K))   {q : Nat} (hq : ap_kd q = 9) {kL86 : Int32 → Int32 → Int64 → Int32 → ap_Mem → Prop} (hk86 : ∀ (x2 : Int32) (x3 : Int32) (x4 : Int64) (x6 : Int32)  (M : ap_Mem), kL86 x2 x3 x4 x6 M → ap_V x g 7 86 [(0, .ref (ap_ad g q)), (2, .int x2), (3, .int x3), (4, .long x4), (6, .int x6)] [] M) {x2 : Int32} {x3 : Int32} {x6 : Int32} {s0 : Int64} {s1 : Int64} {M : ap_Mem}  (h : w_X9_mean_137  kL86 q x2 x3 x6 s0 s1 M K) : ap_V x g 7 137 [(0, .ref (ap_ad g q)), (2, .int x2), (3, .int x3), (6, .int x6)] [.long s0, .long s1] M := by
  unfold w_X9_mean_137 at h
  refine ap_ladd (q := 138) hc dX9_mean_137 rfl ?_
  obtain ⟨x4_1, ex4_1, h⟩ := ap_nm h
  refine ap_lstore (q := 140) (lo2 := [(4, .long x4_1), (0, .ref (ap_ad g q)), (2, .int x2), (3, .int x3), (6, .int x6)]) hc dX9_mean_138 rfl ex4_1 (by decide) rfl ?_
  obtain ⟨x6_2, ex6_2, h⟩ := ap_nm h
  refine ap_iinc (q := 143) (lo2 := [(6, .int x6_2), (4, .long x4_1), (0, .ref (ap_ad g q)), (2, .int x2), (3, .int x3)]) hc dX9_mean_140 rfl 4 rfl (by rw [ex6_2]; rfl) (by decide) rfl ?_
  refine ap_goto (q := 86) hc dX9_mean_143 (by decide) ?_
  exact ap_sub [2, 3, 4, 1, 0] rfl (hk86 _ _ _ _ _ h)
def w_X9_mean_86_s   (kL86 : Int32 → Int32 → Int64 → Int32 → ap_Mem → Prop) (q : Nat) (x2 : Int32) (x3 : Int32) (x4 : Int64) (x6 : Int32) (M : ap_Mem) (K : Int64 → ap_Mem → Prop) : Prop :=
vp_in 30 936 ∧ (if (M (q + 1) (30 : Int32).toNatClampNeg) ≤ x6 then (w_X9_goesBack q M (fun M_3 => w_X9_lowest x4 x3.toInt64 x2 M_3 (fun r_4 M_5 => K r_4 M_5))) else (vp_in (24 + x6) 936 ∧ (if (M (q + 1) (24 + x6).toNatClampNeg) = 0 then (vp_in (18 + x6) 936 ∧ vp_in 1 936 ∧ w_X9_far (M (q + 1) (18 + x6).toNatClampNeg) (M (q + 1) (1 : Int32).toNatClampNeg) M (fun r_10 M_11 => w_X9_mean_137  kL86 q x2 x3 x6 r_10.toInt64 x4 M_11 K)) else (w_X9_mean_137  kL86 q x2 x3 x6 0 x4 M K))))
def w_X9_mean_86   (q : Nat) (K : Int64 → ap_Mem → Prop) : Nat → Int32 → Int32 → Int64 → Int32 → ap_Mem → Prop
  | 0, _, _, _, _, _ => False
  | n + 1, x2, x3, x4, x6, M => w_X9_mean_86_s   (w_X9_mean_86   q K n) q x2 x3 x4 x6 M K
theorem bl_X9_mean_86 {x : ap_X} {g : ap_G} (hc : ap_Cx x g cX9_mean RX9 7) {K : Int64 → ap_Mem → Prop} (hz : ap_Ends x g 7 (some .long) (ap_Ql K))   {q : Nat} (hq : ap_kd q = 9)   : ∀ (n : Nat) (x2 : Int32) (x3 : Int32) (x4 : Int64) (x6 : Int32) (M : ap_Mem), w_X9_mean_86   q K n x2 x3 x4 x6 M → ap_V x g 7 86 [(0, .ref (ap_ad g q)), (2, .int x2), (3, .int x3), (4, .long x4), (6, .int x6)] [] M := by
  have hg := hc.2.2.2.2.2.2.2.1
  intro n
  induction n with
  | zero => intro _ _ _ _ _ h; exact h.elim
  | succ n ih =>
    intro x2 x3 x4 x6 M h
    replace h : w_X9_mean_86_s   (w_X9_mean_86   q K n) q x2 x3 x4 x6 M K := h
    unfold w_X9_mean_86_s at h
    refine ap_iload (q := 88) hc dX9_mean_86 rfl 4 rfl ?_
    refine ap_aload_n (q := 89) hc dX9_mean_88 rfl rfl 0 rfl ?_
    refine ap_getR (q := 92) (r := q + 1) lg_RX9_9 (by decide) hq rfl hc dX9_mean_89 rfl ?_
    refine ap_bipush (q := 94) hc dX9_mean_92 rfl bc_30 ?_
    obtain ⟨g_1, h⟩ := h
    refine ap_iald (q := 95) (ty_9_1 hq) (tn_9_1 hq) g_1 hc dX9_mean_94 rfl ?_
    refine ap_icmp_ge (q := 98) (tgt := 146) hc dX9_mean_95 rfl (by decide) (fun z_2 => ?_) (fun z_2 => ?_)
    · have h := Eq.mp (if_pos z_2) h
      refine ap_aload_n (q := 147) hc dX9_mean_146 rfl rfl 0 rfl ?_
      refine ap_callV (q := 150) (As := []) hc (ok_X9_goesBack hg hq h) ml_RX9_158 lk_X9_goesBack lv_X9_goesBack hq rfl (ap_RmE hz (by decide)) rfl rfl (Nat.le_of_ble_eq_true rfl) dX9_mean_147 rfl (ap_kv (fun M_3 h => ?_))
      refine ap_lload (q := 152) hc dX9_mean_150 rfl 3 rfl ?_
      refine ap_iload_n (q := 153) hc dX9_mean_152 rfl rfl 2 rfl ?_
      refine ap_i2l (q := 154) hc dX9_mean_153 rfl ?_
      refine ap_iload_n (q := 155) hc dX9_mean_154 rfl rfl 1 rfl ?_
      refine ap_callS (q := 158) (As := [.long x4, .long x3.toInt64, .int x2]) hc (ok_X9_lowest hg  h) ml_RX9_181 lk_X9_lowest ls_X9_lowest (ap_RmE hz (by decide)) rfl rfl (Nat.le_of_ble_eq_true rfl) dX9_mean_155 rfl (ap_kl (fun r_4 M_5 h => ?_))
      exact ap_lret hc hz dX9_mean_158 h
    · have h := Eq.mp (if_neg z_2) h
      refine ap_lload (q := 100) hc dX9_mean_98 rfl 3 rfl ?_
      refine ap_aload_n (q := 101) hc dX9_mean_100 rfl rfl 0 rfl ?_
      refine ap_getR (q := 104) (r := q + 1) lg_RX9_9 (by decide) hq rfl hc dX9_mean_101 rfl ?_
      refine ap_bipush (q := 106) hc dX9_mean_104 rfl bc_24 ?_
      refine ap_iload (q := 108) hc dX9_mean_106 rfl 4 rfl ?_
      refine ap_iadd (q := 109) hc dX9_mean_108 rfl ?_
      obtain ⟨g_6, h⟩ := h
      refine ap_iald (q := 110) (ty_9_1 hq) (tn_9_1 hq) g_6 hc dX9_mean_109 rfl ?_
      refine ap_if_ne (q := 113) (tgt := 136) hc dX9_mean_110 rfl (by decide) (fun z_7 => ?_) (fun z_7 => ?_)
      · have h := Eq.mp (if_neg z_7) h
        refine ap_lconst (v := 0) (q := 137) hc dX9_mean_136 rfl (by decide) ?_
        exact ap_sub [0, 1, 2, 4] rfl (bl_X9_mean_137 hc hz  hq ih  h)
      · have h := Eq.mp (if_pos z_7) h
        refine ap_aload_n (q := 114) hc dX9_mean_113 rfl rfl 0 rfl ?_
        refine ap_getR (q := 117) (r := q + 1) lg_RX9_9 (by decide) hq rfl hc dX9_mean_114 rfl ?_
        refine ap_bipush (q := 119) hc dX9_mean_117 rfl bc_18 ?_
        refine ap_iload (q := 121) hc dX9_mean_119 rfl 4 rfl ?_
        refine ap_iadd (q := 122) hc dX9_mean_121 rfl ?_
        obtain ⟨g_8, h⟩ := h
        refine ap_iald (q := 123) (ty_9_1 hq) (tn_9_1 hq) g_8 hc dX9_mean_122 rfl ?_
        refine ap_aload_n (q := 124) hc dX9_mean_123 rfl rfl 0 rfl ?_
        refine ap_getR (q := 127) (r := q + 1) lg_RX9_9 (by decide) hq rfl hc dX9_mean_124 rfl ?_
        refine ap_iconst (q := 128) hc dX9_mean_127 rfl ic_1 ?_
        obtain ⟨g_9, h⟩ := h
        refine ap_iald (q := 129) (ty_9_1 hq) (tn_9_1 hq) g_9 hc dX9_mean_128 rfl ?_
        refine ap_callS (q := 132) (As := [.int (M (q + 1) (18 + x6).toNatClampNeg), .int (M (q + 1) (1 : Int32).toNatClampNeg)]) hc (ok_X9_far hg  h) ml_RX9_119 lk_X9_far ls_X9_far (ap_RmE hz (by decide)) rfl rfl (Nat.le_of_ble_eq_true rfl) dX9_mean_129 rfl (ap_ki (fun r_10 M_11 h => ?_))
        refine ap_i2l (q := 133) hc dX9_mean_132 rfl ?_
        refine ap_goto (q := 137) hc dX9_mean_133 (by decide) ?_
        exact ap_sub [0, 1, 2, 4] rfl (bl_X9_mean_137 hc hz  hq ih  h)
def w_X9_mean_5_s   (kL5 : Int32 → Int32 → Int32 → Int32 → ap_Mem → Prop) (q : Nat) (x1 : Int32) (x2 : Int32) (x3 : Int32) (x4 : Int32) (M : ap_Mem) (K : Int64 → ap_Mem → Prop) : Prop :=
vp_in 30 936 ∧ (if (M (q + 1) (30 : Int32).toNatClampNeg) ≤ x4 then (w_X9_in x1 0 60 M (fun r_3 M_4 => (if r_3 = 0 then (K (-9223372036854775808) M_4) else (w_X9_in x2 0 1 M_4 (fun r_6 M_7 => (if r_6 = 0 then (K (-9223372036854775808) M_7) else ((if x3 = 0 then (K (-9223372036854775808) M_7) else (w_X9_keeps q M_7 (fun M_10 => w_X9_goesOn q x1 M_10 (fun M_11 => w_X9_mean_86   q K 4096 x2 x3 0 0 M_11))))))))))) else (vp_in (24 + x4) 936 ∧ (if (M (q + 1) (24 + x4).toNatClampNeg) = 0 then (w_X9_mean_36  kL5 q x1 x2 x4 1 x3 M K) else (w_X9_mean_36  kL5 q x1 x2 x4 0 x3 M K))))
def w_X9_mean_5   (q : Nat) (K : Int64 → ap_Mem → Prop) : Nat → Int32 → Int32 → Int32 → Int32 → ap_Mem → Prop
  | 0, _, _, _, _, _ => False
  | n + 1, x1, x2, x3, x4, M => w_X9_mean_5_s   (w_X9_mean_5   q K n) q x1 x2 x3 x4 M K
theorem bl_X9_mean_5 {x : ap_X} {g : ap_G} (hc : ap_Cx x g cX9_mean RX9 7) {K : Int64 → ap_Mem → Prop} (hz : ap_Ends x g 7 (some .long) (ap_Ql K))   {q : Nat} (hq : ap_kd q = 9)   : ∀ (n : Nat) (x1 : Int32) (x2 : Int32) (x3 : Int32) (x4 : Int32) (M : ap_Mem), w_X9_mean_5   q K n x1 x2 x3 x4 M → ap_V x g 7 5 [(0, .ref (ap_ad g q)), (1, .int x1), (2, .int x2), (3, .int x3), (4, .int x4)] [] M := by
  have hg := hc.2.2.2.2.2.2.2.1
  intro n
  induction n with
  | zero => intro _ _ _ _ _ h; exact h.elim
  | succ n ih =>
    intro x1 x2 x3 x4 M h
    replace h : w_X9_mean_5_s   (w_X9_mean_5   q K n) q x1 x2 x3 x4 M K := h
    unfold w_X9_mean_5_s at h
    refine ap_iload (q := 7) hc dX9_mean_5 rfl 4 rfl ?_
    refine ap_aload_n (q := 8) hc dX9_mean_7 rfl rfl 0 rfl ?_
    refine ap_getR (q := 11) (r := q + 1) lg_RX9_9 (by decide) hq rfl hc dX9_mean_8 rfl ?_
    refine ap_bipush (q := 13) hc dX9_mean_11 rfl bc_30 ?_
    obtain ⟨g_1, h⟩ := h
    refine ap_iald (q := 14) (ty_9_1 hq) (tn_9_1 hq) g_1 hc dX9_mean_13 rfl ?_
    refine ap_icmp_ge (q := 17) (tgt := 44) hc dX9_mean_14 rfl (by decide) (fun z_2 => ?_) (fun z_2 => ?_)
    · have h := Eq.mp (if_pos z_2) h
      refine ap_iload_n (q := 45) hc dX9_mean_44 rfl rfl 1 rfl ?_
      refine ap_iconst (q := 46) hc dX9_mean_45 rfl ic_0 ?_
      refine ap_bipush (q := 48) hc dX9_mean_46 rfl bc_60 ?_
      refine ap_callS (q := 51) (As := [.int x1, .int 0, .int 60]) hc (ok_X9_in hg  h) ml_RX9_35 lk_X9_in ls_X9_in (ap_RmE hz (by decide)) rfl rfl (Nat.le_of_ble_eq_true rfl) dX9_mean_48 rfl (ap_ki (fun r_3 M_4 h => ?_))
      refine ap_if_eq (q := 54) (tgt := 67) hc dX9_mean_51 rfl (by decide) (fun z_5 => ?_) (fun z_5 => ?_)
      · have h := Eq.mp (if_pos z_5) h
        refine ap_ldc2 (q := 70) hc dX9_mean_67 rfl ct_RX9_179 ?_
        exact ap_lret hc hz dX9_mean_70 h
      · have h := Eq.mp (if_neg z_5) h
        refine ap_iload_n (q := 55) hc dX9_mean_54 rfl rfl 2 rfl ?_
        refine ap_iconst (q := 56) hc dX9_mean_55 rfl ic_0 ?_
        refine ap_iconst (q := 57) hc dX9_mean_56 rfl ic_1 ?_
        refine ap_callS (q := 60) (As := [.int x2, .int 0, .int 1]) hc (ok_X9_in hg  h) ml_RX9_35 lk_X9_in ls_X9_in (ap_RmE hz (by decide)) rfl rfl (Nat.le_of_ble_eq_true rfl) dX9_mean_57 rfl (ap_ki (fun r_6 M_7 h => ?_))
        refine ap_if_eq (q := 63) (tgt := 67) hc dX9_mean_60 rfl (by decide) (fun z_8 => ?_) (fun z_8 => ?_)
        · have h := Eq.mp (if_pos z_8) h
          refine ap_ldc2 (q := 70) hc dX9_mean_67 rfl ct_RX9_179 ?_
          exact ap_lret hc hz dX9_mean_70 h
        · have h := Eq.mp (if_neg z_8) h
          refine ap_iload_n (q := 64) hc dX9_mean_63 rfl rfl 3 rfl ?_
          refine ap_if_ne (q := 67) (tgt := 71) hc dX9_mean_64 rfl (by decide) (fun z_9 => ?_) (fun z_9 => ?_)
          · have h := Eq.mp (if_neg z_9) h
            refine ap_aload_n (q := 72) hc dX9_mean_71 rfl rfl 0 rfl ?_
            refine ap_callV (q := 75) (As := []) hc (ok_X9_keeps hg hq h) ml_RX9_152 lk_X9_keeps lv_X9_keeps hq rfl (ap_RmE hz (by decide)) rfl rfl (Nat.le_of_ble_eq_true rfl) dX9_mean_72 rfl (ap_kv (fun M_10 h => ?_))
            refine ap_aload_n (q := 76) hc dX9_mean_75 rfl rfl 0 rfl ?_
            refine ap_iload_n (q := 77) hc dX9_mean_76 rfl rfl 1 rfl ?_
            refine ap_callV (q := 80) (As := [.int x1]) hc (ok_X9_goesOn hg hq h) ml_RX9_155 lk_X9_goesOn lv_X9_goesOn hq rfl (ap_RmE hz (by decide)) rfl rfl (Nat.le_of_ble_eq_true rfl) dX9_mean_77 rfl (ap_kv (fun M_11 h => ?_))
            refine ap_lconst (v := 0) (q := 81) hc dX9_mean_80 rfl (by decide) ?_
            refine ap_lstore (q := 83) (lo2 := [(4, .long 0), (0, .ref (ap_ad g q)), (1, .int x1), (2, .int x2), (3, .int x3)]) hc dX9_mean_81 rfl rfl (by decide) rfl ?_
            refine ap_iconst (q := 84) hc dX9_mean_83 rfl ic_0 ?_
            refine ap_istore (q := 86) (lo2 := [(6, .int 0), (4, .long 0), (0, .ref (ap_ad g q)), (1, .int x1), (2, .int x2), (3, .int x3)]) hc dX9_mean_84 rfl rfl (by decide) rfl ?_
            exact ap_sub [2, 4, 5, 1, 0] rfl (bl_X9_mean_86 hc hz  hq  _ _ _ _ _ _ h)
          · have h := Eq.mp (if_pos z_9) h
            refine ap_ldc2 (q := 70) hc dX9_mean_67 rfl ct_RX9_179 ?_
            exact ap_lret hc hz dX9_mean_70 h
    · have h := Eq.mp (if_neg z_2) h
      refine ap_iload_n (q := 18) hc dX9_mean_17 rfl rfl 3 rfl ?_
      refine ap_aload_n (q := 19) hc dX9_mean_18 rfl rfl 0 rfl ?_
      refine ap_getR (q := 22) (r := q + 1) lg_RX9_9 (by decide) hq rfl hc dX9_mean_19 rfl ?_
      refine ap_bipush (q := 24) hc dX9_mean_22 rfl bc_24 ?_
      refine ap_iload (q := 26) hc dX9_mean_24 rfl 4 rfl ?_
      refine ap_iadd (q := 27) hc dX9_mean_26 rfl ?_
      obtain ⟨g_12, h⟩ := h
      refine ap_iald (q := 28) (ty_9_1 hq) (tn_9_1 hq) g_12 hc dX9_mean_27 rfl ?_
      refine ap_if_ne (q := 31) (tgt := 35) hc dX9_mean_28 rfl (by decide) (fun z_13 => ?_) (fun z_13 => ?_)
      · have h := Eq.mp (if_neg z_13) h
        refine ap_iconst (q := 36) hc dX9_mean_35 rfl ic_0 ?_
        exact ap_sub [0, 1, 2, 4] rfl (bl_X9_mean_36 hc hz  hq ih  h)
      · have h := Eq.mp (if_pos z_13) h
        refine ap_iconst (q := 32) hc dX9_mean_31 rfl ic_1 ?_
        refine ap_goto (q := 36) hc dX9_mean_32 (by decide) ?_
        exact ap_sub [0, 1, 2, 4] rfl (bl_X9_mean_36 hc hz  hq ih  h)
def w_X9_mean   (q : Nat) (x1 : Int32) (x2 : Int32) (M : ap_Mem) (K : Int64 → ap_Mem → Prop) : Prop :=
w_X9_mean_5   q K 4096 x1 x2 0 0 M
theorem bl_X9_mean_0 {x : ap_X} {g : ap_G} (hc : ap_Cx x g cX9_mean RX9 7) {K : Int64 → ap_Mem → Prop} (hz : ap_Ends x g 7 (some .long) (ap_Ql K))   {q : Nat} (hq : ap_kd q = 9)   {x1 : Int32} {x2 : Int32} {M : ap_Mem}  (h : w_X9_mean   q x1 x2 M K) : ap_V x g 7 0 [(0, .ref (ap_ad g q)), (1, .int x1), (2, .int x2)] [] M := by
  unfold w_X9_mean at h
  refine ap_iconst (q := 1) hc dX9_mean_0 rfl ic_0 ?_
  refine ap_istore_n (q := 2) (lo2 := [(3, .int 0), (0, .ref (ap_ad g q)), (1, .int x1), (2, .int x2)]) hc dX9_mean_1 rfl rfl rfl (by decide) rfl ?_
  refine ap_iconst (q := 3) hc dX9_mean_2 rfl ic_0 ?_
  refine ap_istore (q := 5) (lo2 := [(4, .int 0), (3, .int 0), (0, .ref (ap_ad g q)), (1, .int x1), (2, .int x2)]) hc dX9_mean_3 rfl rfl (by decide) rfl ?_
  exact ap_sub [2, 3, 4, 1, 0] rfl (bl_X9_mean_5 hc hz  hq  _ _ _ _ _ _ h)
theorem ok_X9_mean {l : Launch} {g : ap_G} (hg : ap_GOK g) {q : Nat} (hq : ap_kd q = 9) {x1 : Int32} {x2 : Int32} {M : ap_Mem} {K : Int64 → ap_Mem → Prop} (h : w_X9_mean q x1 x2 M K) : ap_Ct l g yX9_mean cX9_mean 7 (some .long) 7 [.ref (ap_ad g q), .int x1, .int x2] M (ap_Ql K) := by
  refine ap_Ct_of hg (by decide +kernel) (Nat.le_of_ble_eq_true rfl) (fun x hx hc hz => ?_)
  subst hx
  exact bl_X9_mean_0 hc hz hq h
def w_X9_plan_55   (q : Nat) (x1 : Int32) (x2 : Int32) (M : ap_Mem) (K : Int32 → ap_Mem → Prop) : Prop :=
vp_in 34 936 ∧ (if (M (q + 1) (34 : Int32).toNatClampNeg) = 8 then (K (-4) M) else (vp_in 34 936 ∧ vp_in (94 + (M (q + 1) (34 : Int32).toNatClampNeg)) 936 ∧ ∀ M_5 : ap_Mem, M_5 = ap_mu M (q + 1) (94 + (M (q + 1) (34 : Int32).toNatClampNeg)).toNatClampNeg x1 → vp_in 34 936 ∧ vp_in (102 + (M_5 (q + 1) (34 : Int32).toNatClampNeg)) 936 ∧ ∀ M_8 : ap_Mem, M_8 = ap_mu M_5 (q + 1) (102 + (M_5 (q + 1) (34 : Int32).toNatClampNeg)).toNatClampNeg x2 → vp_in 34 936 ∧ vp_in 34 936 ∧ ∀ M_11 : ap_Mem, M_11 = ap_mu M_8 (q + 1) (34 : Int32).toNatClampNeg ((M_8 (q + 1) (34 : Int32).toNatClampNeg) + 1) → vp_in 34 936 ∧ K (M_11 (q + 1) (34 : Int32).toNatClampNeg) M_11))
theorem bl_X9_plan_55 {x : ap_X} {g : ap_G} (hc : ap_Cx x g cX9_plan RX9 3) {K : Int32 → ap_Mem → Prop} (hz : ap_Ends x g 2 (some .int) (ap_Qi K))   {q : Nat} (hq : ap_kd q = 9)   {x1 : Int32} {x2 : Int32} {M : ap_Mem}  (h : w_X9_plan_55   q x1 x2 M K) : ap_V x g 3 55 [(0, .ref (ap_ad g q)), (1, .int x1), (2, .int x2)] [] M := by
  unfold w_X9_plan_55 at h
  refine ap_aload_n (q := 56) hc dX9_plan_55 rfl rfl 0 rfl ?_
  refine ap_getR (q := 59) (r := q + 1) lg_RX9_9 (by decide) hq rfl hc dX9_plan_56 rfl ?_
  refine ap_bipush (q := 61) hc dX9_plan_59 rfl bc_34 ?_
  obtain ⟨g_1, h⟩ := h
  refine ap_iald (q := 62) (ty_9_1 hq) (tn_9_1 hq) g_1 hc dX9_plan_61 rfl ?_
  refine ap_bipush (q := 64) hc dX9_plan_62 rfl bc_8 ?_
  refine ap_icmp_ne (q := 67) (tgt := 70) hc dX9_plan_64 rfl (by decide) (fun z_2 => ?_) (fun z_2 => ?_)
  · have h := Eq.mp (if_neg z_2) h
    refine ap_aload_n (q := 71) hc dX9_plan_70 rfl rfl 0 rfl ?_
    refine ap_getR (q := 74) (r := q + 1) lg_RX9_9 (by decide) hq rfl hc dX9_plan_71 rfl ?_
    refine ap_bipush (q := 76) hc dX9_plan_74 rfl bc_94 ?_
    refine ap_aload_n (q := 77) hc dX9_plan_76 rfl rfl 0 rfl ?_
    refine ap_getR (q := 80) (r := q + 1) lg_RX9_9 (by decide) hq rfl hc dX9_plan_77 rfl ?_
    refine ap_bipush (q := 82) hc dX9_plan_80 rfl bc_34 ?_
    obtain ⟨g_3, h⟩ := h
    refine ap_iald (q := 83) (ty_9_1 hq) (tn_9_1 hq) g_3 hc dX9_plan_82 rfl ?_
    refine ap_iadd (q := 84) hc dX9_plan_83 rfl ?_
    refine ap_iload_n (q := 85) hc dX9_plan_84 rfl rfl 1 rfl ?_
    obtain ⟨g_4, h⟩ := h
    obtain ⟨M_5, eM_5, h⟩ := ap_nm h
    refine ap_iast (q := 86) (ty_9_1 hq) (tn_9_1 hq) g_4 eM_5 hc dX9_plan_85 rfl ?_
    refine ap_aload_n (q := 87) hc dX9_plan_86 rfl rfl 0 rfl ?_
    refine ap_getR (q := 90) (r := q + 1) lg_RX9_9 (by decide) hq rfl hc dX9_plan_87 rfl ?_
    refine ap_bipush (q := 92) hc dX9_plan_90 rfl bc_102 ?_
    refine ap_aload_n (q := 93) hc dX9_plan_92 rfl rfl 0 rfl ?_
    refine ap_getR (q := 96) (r := q + 1) lg_RX9_9 (by decide) hq rfl hc dX9_plan_93 rfl ?_
    refine ap_bipush (q := 98) hc dX9_plan_96 rfl bc_34 ?_
    obtain ⟨g_6, h⟩ := h
    refine ap_iald (q := 99) (ty_9_1 hq) (tn_9_1 hq) g_6 hc dX9_plan_98 rfl ?_
    refine ap_iadd (q := 100) hc dX9_plan_99 rfl ?_
    refine ap_iload_n (q := 101) hc dX9_plan_100 rfl rfl 2 rfl ?_
    obtain ⟨g_7, h⟩ := h
    obtain ⟨M_8, eM_8, h⟩ := ap_nm h
    refine ap_iast (q := 102) (ty_9_1 hq) (tn_9_1 hq) g_7 eM_8 hc dX9_plan_101 rfl ?_
    refine ap_aload_n (q := 103) hc dX9_plan_102 rfl rfl 0 rfl ?_
    refine ap_getR (q := 106) (r := q + 1) lg_RX9_9 (by decide) hq rfl hc dX9_plan_103 rfl ?_
    refine ap_bipush (q := 108) hc dX9_plan_106 rfl bc_34 ?_
    refine ap_dup2 (q := 109) hc dX9_plan_108 rfl rfl rfl ?_
    obtain ⟨g_9, h⟩ := h
    refine ap_iald (q := 110) (ty_9_1 hq) (tn_9_1 hq) g_9 hc dX9_plan_109 rfl ?_
    refine ap_iconst (q := 111) hc dX9_plan_110 rfl ic_1 ?_
    refine ap_iadd (q := 112) hc dX9_plan_111 rfl ?_
    obtain ⟨g_10, h⟩ := h
    obtain ⟨M_11, eM_11, h⟩ := ap_nm h
    refine ap_iast (q := 113) (ty_9_1 hq) (tn_9_1 hq) g_10 eM_11 hc dX9_plan_112 rfl ?_
    refine ap_aload_n (q := 114) hc dX9_plan_113 rfl rfl 0 rfl ?_
    refine ap_getR (q := 117) (r := q + 1) lg_RX9_9 (by decide) hq rfl hc dX9_plan_114 rfl ?_
    refine ap_bipush (q := 119) hc dX9_plan_117 rfl bc_34 ?_
    obtain ⟨g_12, h⟩ := h
    refine ap_iald (q := 120) (ty_9_1 hq) (tn_9_1 hq) g_12 hc dX9_plan_119 rfl ?_
    exact ap_iret hc hz rfl dX9_plan_120 h
  · have h := Eq.mp (if_pos z_2) h
    refine ap_bipush (q := 69) hc dX9_plan_67 rfl bc_m4 ?_
    exact ap_iret hc hz rfl dX9_plan_69 h
def w_X9_plan_41   (q : Nat) (x1 : Int32) (x2 : Int32) (M : ap_Mem) (K : Int32 → ap_Mem → Prop) : Prop :=
(if x1 = 3 then (w_X9_isCell x2 M (fun r_2 M_3 => (if r_2 = 0 then (K (-1) M_3) else (w_X9_plan_55   q x1 x2 M_3 K)))) else (w_X9_plan_55   q x1 x2 M K))
theorem bl_X9_plan_41 {x : ap_X} {g : ap_G} (hc : ap_Cx x g cX9_plan RX9 3) {K : Int32 → ap_Mem → Prop} (hz : ap_Ends x g 2 (some .int) (ap_Qi K))   {q : Nat} (hq : ap_kd q = 9)   {x1 : Int32} {x2 : Int32} {M : ap_Mem}  (h : w_X9_plan_41   q x1 x2 M K) : ap_V x g 3 41 [(0, .ref (ap_ad g q)), (1, .int x1), (2, .int x2)] [] M := by
  have hg := hc.2.2.2.2.2.2.2.1
  unfold w_X9_plan_41 at h
  refine ap_iload_n (q := 42) hc dX9_plan_41 rfl rfl 1 rfl ?_
  refine ap_iconst (q := 43) hc dX9_plan_42 rfl ic_3 ?_
  refine ap_icmp_ne (q := 46) (tgt := 55) hc dX9_plan_43 rfl (by decide) (fun z_1 => ?_) (fun z_1 => ?_)
  · have h := Eq.mp (if_neg z_1) h
    exact ap_sub [0, 1, 2] rfl (bl_X9_plan_55 hc hz  hq   h)
  · have h := Eq.mp (if_pos z_1) h
    refine ap_iload_n (q := 47) hc dX9_plan_46 rfl rfl 2 rfl ?_
    refine ap_callS (q := 50) (As := [.int x2]) hc (ok_X9_isCell hg  h) ml_RX9_132 lk_X9_isCell ls_X9_isCell (ap_RmE hz (by decide)) rfl rfl (Nat.le_of_ble_eq_true rfl) dX9_plan_47 rfl (ap_ki (fun r_2 M_3 h => ?_))
    refine ap_if_ne (q := 53) (tgt := 55) hc dX9_plan_50 rfl (by decide) (fun z_4 => ?_) (fun z_4 => ?_)
    · have h := Eq.mp (if_neg z_4) h
      exact ap_sub [0, 1, 2] rfl (bl_X9_plan_55 hc hz  hq   h)
    · have h := Eq.mp (if_pos z_4) h
      refine ap_iconst (q := 54) hc dX9_plan_53 rfl ic_m1 ?_
      exact ap_iret hc hz rfl dX9_plan_54 h
def w_X9_plan   (q : Nat) (x1 : Int32) (x2 : Int32) (M : ap_Mem) (K : Int32 → ap_Mem → Prop) : Prop :=
(if x1 = (-1) then (vp_in 34 936 ∧ ∀ M_12 : ap_Mem, M_12 = ap_mu M (q + 1) (34 : Int32).toNatClampNeg 0 → K 0 M_12) else (w_X9_in x1 0 3 M (fun r_2 M_3 => (if r_2 = 0 then (K (-1) M_3) else (w_X9_in x1 1 2 M_3 (fun r_5 M_6 => (if r_5 = 0 then (w_X9_plan_41   q x1 x2 M_6 K) else (w_X9_isPerson q x2 M_6 (fun r_8 M_9 => (if r_8 = 0 then (K (-1) M_9) else (w_X9_plan_41   q x1 x2 M_9 K)))))))))))
theorem bl_X9_plan_0 {x : ap_X} {g : ap_G} (hc : ap_Cx x g cX9_plan RX9 3) {K : Int32 → ap_Mem → Prop} (hz : ap_Ends x g 2 (some .int) (ap_Qi K))   {q : Nat} (hq : ap_kd q = 9)   {x1 : Int32} {x2 : Int32} {M : ap_Mem}  (h : w_X9_plan   q x1 x2 M K) : ap_V x g 3 0 [(0, .ref (ap_ad g q)), (1, .int x1), (2, .int x2)] [] M := by
  have hg := hc.2.2.2.2.2.2.2.1
  unfold w_X9_plan at h
  refine ap_iload_n (q := 1) hc dX9_plan_0 rfl rfl 1 rfl ?_
  refine ap_iconst (q := 2) hc dX9_plan_1 rfl ic_m1 ?_
  refine ap_icmp_ne (q := 5) (tgt := 15) hc dX9_plan_2 rfl (by decide) (fun z_1 => ?_) (fun z_1 => ?_)
  · have h := Eq.mp (if_neg z_1) h
    refine ap_iload_n (q := 16) hc dX9_plan_15 rfl rfl 1 rfl ?_
    refine ap_iconst (q := 17) hc dX9_plan_16 rfl ic_0 ?_
    refine ap_iconst (q := 18) hc dX9_plan_17 rfl ic_3 ?_
    refine ap_callS (q := 21) (As := [.int x1, .int 0, .int 3]) hc (ok_X9_in hg  h) ml_RX9_35 lk_X9_in ls_X9_in (ap_RmE hz (by decide)) rfl rfl (Nat.le_of_ble_eq_true rfl) dX9_plan_18 rfl (ap_ki (fun r_2 M_3 h => ?_))
    refine ap_if_eq (q := 24) (tgt := 53) hc dX9_plan_21 rfl (by decide) (fun z_4 => ?_) (fun z_4 => ?_)
    · have h := Eq.mp (if_pos z_4) h
      refine ap_iconst (q := 54) hc dX9_plan_53 rfl ic_m1 ?_
      exact ap_iret hc hz rfl dX9_plan_54 h
    · have h := Eq.mp (if_neg z_4) h
      refine ap_iload_n (q := 25) hc dX9_plan_24 rfl rfl 1 rfl ?_
      refine ap_iconst (q := 26) hc dX9_plan_25 rfl ic_1 ?_
      refine ap_iconst (q := 27) hc dX9_plan_26 rfl ic_2 ?_
      refine ap_callS (q := 30) (As := [.int x1, .int 1, .int 2]) hc (ok_X9_in hg  h) ml_RX9_35 lk_X9_in ls_X9_in (ap_RmE hz (by decide)) rfl rfl (Nat.le_of_ble_eq_true rfl) dX9_plan_27 rfl (ap_ki (fun r_5 M_6 h => ?_))
      refine ap_if_eq (q := 33) (tgt := 41) hc dX9_plan_30 rfl (by decide) (fun z_7 => ?_) (fun z_7 => ?_)
      · have h := Eq.mp (if_pos z_7) h
        exact ap_sub [0, 1, 2] rfl (bl_X9_plan_41 hc hz  hq   h)
      · have h := Eq.mp (if_neg z_7) h
        refine ap_aload_n (q := 34) hc dX9_plan_33 rfl rfl 0 rfl ?_
        refine ap_iload_n (q := 35) hc dX9_plan_34 rfl rfl 2 rfl ?_
        refine ap_callV (q := 38) (As := [.int x2]) hc (ok_X9_isPerson hg hq h) ml_RX9_136 lk_X9_isPerson lv_X9_isPerson hq rfl (ap_RmE hz (by decide)) rfl rfl (Nat.le_of_ble_eq_true rfl) dX9_plan_35 rfl (ap_ki (fun r_8 M_9 h => ?_))
        refine ap_if_eq (q := 41) (tgt := 53) hc dX9_plan_38 rfl (by decide) (fun z_10 => ?_) (fun z_10 => ?_)
        · have h := Eq.mp (if_pos z_10) h
          refine ap_iconst (q := 54) hc dX9_plan_53 rfl ic_m1 ?_
          exact ap_iret hc hz rfl dX9_plan_54 h
        · have h := Eq.mp (if_neg z_10) h
          exact ap_sub [0, 1, 2] rfl (bl_X9_plan_41 hc hz  hq   h)
  · have h := Eq.mp (if_pos z_1) h
    refine ap_aload_n (q := 6) hc dX9_plan_5 rfl rfl 0 rfl ?_
    refine ap_getR (q := 9) (r := q + 1) lg_RX9_9 (by decide) hq rfl hc dX9_plan_6 rfl ?_
    refine ap_bipush (q := 11) hc dX9_plan_9 rfl bc_34 ?_
    refine ap_iconst (q := 12) hc dX9_plan_11 rfl ic_0 ?_
    obtain ⟨g_11, h⟩ := h
    obtain ⟨M_12, eM_12, h⟩ := ap_nm h
    refine ap_iast (q := 13) (ty_9_1 hq) (tn_9_1 hq) g_11 eM_12 hc dX9_plan_12 rfl ?_
    refine ap_iconst (q := 14) hc dX9_plan_13 rfl ic_0 ?_
    exact ap_iret hc hz rfl dX9_plan_14 h
theorem ok_X9_plan {l : Launch} {g : ap_G} (hg : ap_GOK g) {q : Nat} (hq : ap_kd q = 9) {x1 : Int32} {x2 : Int32} {M : ap_Mem} {K : Int32 → ap_Mem → Prop} (h : w_X9_plan q x1 x2 M K) : ap_Ct l g yX9_plan cX9_plan 3 (some .int) 2 [.ref (ap_ad g q), .int x1, .int x2] M (ap_Qi K) := by
  refine ap_Ct_of hg (by decide +kernel) (Nat.le_of_ble_eq_true rfl) (fun x hx hc hz => ?_)
  subst hx
  exact bl_X9_plan_0 hc hz hq h
def w_X9_goesBy_44   (q : Nat) (s0 : Int32) (s1 : Int32) (M : ap_Mem) (K : ap_Mem → Prop) : Prop :=
vp_in s1 936 ∧ ∀ M_2 : ap_Mem, M_2 = ap_mu M (q + 1) s1.toNatClampNeg s0 → K M_2
theorem bl_X9_goesBy_44 {x : ap_X} {g : ap_G} (hc : ap_Cx x g cX9_goesBy RX9 3) {K : ap_Mem → Prop} (hz : ap_Ends x g 6 none (ap_Qv K))   {q : Nat} (hq : ap_kd q = 9)   {s0 : Int32} {s1 : Int32} {M : ap_Mem}  (h : w_X9_goesBy_44   q s0 s1 M K) : ap_V x g 3 44 [] [.int s0, .int s1, .ref (ap_ad g (q + 1))] M := by
  unfold w_X9_goesBy_44 at h
  obtain ⟨g_1, h⟩ := h
  obtain ⟨M_2, eM_2, h⟩ := ap_nm h
  refine ap_iast (q := 45) (ty_9_1 hq) (tn_9_1 hq) g_1 eM_2 hc dX9_goesBy_44 rfl ?_
  exact ap_vret hc hz dX9_goesBy_45 h
def w_X9_goesBy   (q : Nat) (x1 : Int32) (x2 : Int32) (M : ap_Mem) (K : ap_Mem → Prop) : Prop :=
(if x1 = 0 then (w_X9_goes q M (fun M_6 => K M_6)) else ((if x1 = 3 then (vp_in 1 936 ∧ ∀ M_5 : ap_Mem, M_5 = ap_mu M (q + 1) (1 : Int32).toNatClampNeg x2 → K M_5) else ((if x1 = 1 then (w_X9_goesBy_44   q 1 (24 + x2) M K) else (w_X9_goesBy_44   q 0 (24 + x2) M K))))))
theorem bl_X9_goesBy_0 {x : ap_X} {g : ap_G} (hc : ap_Cx x g cX9_goesBy RX9 3) {K : ap_Mem → Prop} (hz : ap_Ends x g 6 none (ap_Qv K))   {q : Nat} (hq : ap_kd q = 9)   {x1 : Int32} {x2 : Int32} {M : ap_Mem}  (h : w_X9_goesBy   q x1 x2 M K) : ap_V x g 3 0 [(0, .ref (ap_ad g q)), (1, .int x1), (2, .int x2)] [] M := by
  have hg := hc.2.2.2.2.2.2.2.1
  unfold w_X9_goesBy at h
  refine ap_iload_n (q := 1) hc dX9_goesBy_0 rfl rfl 1 rfl ?_
  refine ap_if_ne (q := 4) (tgt := 11) hc dX9_goesBy_1 rfl (by decide) (fun z_1 => ?_) (fun z_1 => ?_)
  · have h := Eq.mp (if_neg z_1) h
    refine ap_iload_n (q := 12) hc dX9_goesBy_11 rfl rfl 1 rfl ?_
    refine ap_iconst (q := 13) hc dX9_goesBy_12 rfl ic_3 ?_
    refine ap_icmp_ne (q := 16) (tgt := 26) hc dX9_goesBy_13 rfl (by decide) (fun z_2 => ?_) (fun z_2 => ?_)
    · have h := Eq.mp (if_neg z_2) h
      refine ap_aload_n (q := 27) hc dX9_goesBy_26 rfl rfl 0 rfl ?_
      refine ap_getR (q := 30) (r := q + 1) lg_RX9_9 (by decide) hq rfl hc dX9_goesBy_27 rfl ?_
      refine ap_bipush (q := 32) hc dX9_goesBy_30 rfl bc_24 ?_
      refine ap_iload_n (q := 33) hc dX9_goesBy_32 rfl rfl 2 rfl ?_
      refine ap_iadd (q := 34) hc dX9_goesBy_33 rfl ?_
      refine ap_iload_n (q := 35) hc dX9_goesBy_34 rfl rfl 1 rfl ?_
      refine ap_iconst (q := 36) hc dX9_goesBy_35 rfl ic_1 ?_
      refine ap_icmp_ne (q := 39) (tgt := 43) hc dX9_goesBy_36 rfl (by decide) (fun z_3 => ?_) (fun z_3 => ?_)
      · have h := Eq.mp (if_neg z_3) h
        refine ap_iconst (q := 44) hc dX9_goesBy_43 rfl ic_0 ?_
        exact ap_sub [] rfl (bl_X9_goesBy_44 hc hz  hq   h)
      · have h := Eq.mp (if_pos z_3) h
        refine ap_iconst (q := 40) hc dX9_goesBy_39 rfl ic_1 ?_
        refine ap_goto (q := 44) hc dX9_goesBy_40 (by decide) ?_
        exact ap_sub [] rfl (bl_X9_goesBy_44 hc hz  hq   h)
    · have h := Eq.mp (if_pos z_2) h
      refine ap_aload_n (q := 17) hc dX9_goesBy_16 rfl rfl 0 rfl ?_
      refine ap_getR (q := 20) (r := q + 1) lg_RX9_9 (by decide) hq rfl hc dX9_goesBy_17 rfl ?_
      refine ap_iconst (q := 21) hc dX9_goesBy_20 rfl ic_1 ?_
      refine ap_iload_n (q := 22) hc dX9_goesBy_21 rfl rfl 2 rfl ?_
      obtain ⟨g_4, h⟩ := h
      obtain ⟨M_5, eM_5, h⟩ := ap_nm h
      refine ap_iast (q := 23) (ty_9_1 hq) (tn_9_1 hq) g_4 eM_5 hc dX9_goesBy_22 rfl ?_
      refine ap_goto (q := 45) hc dX9_goesBy_23 (by decide) ?_
      exact ap_vret hc hz dX9_goesBy_45 h
  · have h := Eq.mp (if_pos z_1) h
    refine ap_aload_n (q := 5) hc dX9_goesBy_4 rfl rfl 0 rfl ?_
    refine ap_callV (q := 8) (As := []) hc (ok_X9_goes hg hq h) ml_RX9_149 lk_X9_goes lv_X9_goes hq rfl (ap_RmE hz (by decide)) rfl rfl (Nat.le_of_ble_eq_true rfl) dX9_goesBy_5 rfl (ap_kv (fun M_6 h => ?_))
    refine ap_goto (q := 45) hc dX9_goesBy_8 (by decide) ?_
    exact ap_vret hc hz dX9_goesBy_45 h
theorem ok_X9_goesBy {l : Launch} {g : ap_G} (hg : ap_GOK g) {q : Nat} (hq : ap_kd q = 9) {x1 : Int32} {x2 : Int32} {M : ap_Mem} {K : ap_Mem → Prop} (h : w_X9_goesBy q x1 x2 M K) : ap_Ct l g yX9_goesBy cX9_goesBy 3 none 6 [.ref (ap_ad g q), .int x1, .int x2] M (ap_Qv K) := by
  refine ap_Ct_of hg (by decide +kernel) (Nat.le_of_ble_eq_true rfl) (fun x hx hc hz => ?_)
  subst hx
  exact bl_X9_goesBy_0 hc hz hq h
def w_X9_done_73   (q : Nat) (s0 : Int32) (M : ap_Mem) (K : Int32 → ap_Mem → Prop) : Prop :=
w_X9_goesBack q M (fun M_1 => K s0 M_1)
theorem bl_X9_done_73 {x : ap_X} {g : ap_G} (hc : ap_Cx x g cX9_done RX9 3) {K : Int32 → ap_Mem → Prop} (hz : ap_Ends x g 7 (some .int) (ap_Qi K))   {q : Nat} (hq : ap_kd q = 9)   {s0 : Int32} {M : ap_Mem}  (h : w_X9_done_73   q s0 M K) : ap_V x g 3 73 [(0, .ref (ap_ad g q))] [.int s0] M := by
  have hg := hc.2.2.2.2.2.2.2.1
  unfold w_X9_done_73 at h
  refine ap_istore_n (q := 74) (lo2 := [(2, .int s0), (0, .ref (ap_ad g q))]) hc dX9_done_73 rfl rfl rfl (by decide) rfl ?_
  refine ap_aload_n (q := 75) hc dX9_done_74 rfl rfl 1 rfl ?_
  refine ap_callV (q := 78) (As := []) hc (ok_X9_goesBack hg hq h) ml_RX9_158 lk_X9_goesBack lv_X9_goesBack hq rfl (ap_RmE hz (by decide)) rfl rfl (Nat.le_of_ble_eq_true rfl) dX9_done_75 rfl (ap_kv (fun M_1 h => ?_))
  refine ap_iload_n (q := 79) hc dX9_done_78 rfl rfl 0 rfl ?_
  exact ap_iret hc hz rfl dX9_done_79 h
def w_X9_done_17_s   (kL17 : Int32 → Int32 → ap_Mem → Prop) (q : Nat) (x1 : Int32) (x2 : Int32) (M : ap_Mem) (K : Int32 → ap_Mem → Prop) : Prop :=
vp_in 34 936 ∧ (if (M (q + 1) (34 : Int32).toNatClampNeg) ≤ x2 then ((if x1 = 0 then (vp_in 1 936 ∧ w_X9_done_73   q (M (q + 1) (1 : Int32).toNatClampNeg) M K) else (w_X9_manyLain q M (fun r_4 M_5 => w_X9_done_73   q r_4 M_5 K)))) else (vp_in (94 + x2) 936 ∧ vp_in (102 + x2) 936 ∧ w_X9_goesBy q (M (q + 1) (94 + x2).toNatClampNeg) (M (q + 1) (102 + x2).toNatClampNeg) M (fun M_9 => ∀ x2_10 : Int32, x2_10 = x2 + 1 → kL17 x1 x2_10 M_9)))
def w_X9_done_17   (q : Nat) (K : Int32 → ap_Mem → Prop) : Nat → Int32 → Int32 → ap_Mem → Prop
  | 0, _, _, _ => False
  | n + 1, x1, x2, M => w_X9_done_17_s   (w_X9_done_17   q K n) q x1 x2 M K
theorem bl_X9_done_17 {x : ap_X} {g : ap_G} (hc : ap_Cx x g cX9_done RX9 3) {K : Int32 → ap_Mem → Prop} (hz : ap_Ends x g 7 (some .int) (ap_Qi K))   {q : Nat} (hq : ap_kd q = 9)   : ∀ (n : Nat) (x1 : Int32) (x2 : Int32) (M : ap_Mem), w_X9_done_17   q K n x1 x2 M → ap_V x g 3 17 [(0, .ref (ap_ad g q)), (1, .int x1), (2, .int x2)] [] M := by
  have hg := hc.2.2.2.2.2.2.2.1
  intro n
  induction n with
  | zero => intro _ _ _ h; exact h.elim
  | succ n ih =>
    intro x1 x2 M h
    replace h : w_X9_done_17_s   (w_X9_done_17   q K n) q x1 x2 M K := h
    unfold w_X9_done_17_s at h
    refine ap_iload_n (q := 18) hc dX9_done_17 rfl rfl 2 rfl ?_
    refine ap_aload_n (q := 19) hc dX9_done_18 rfl rfl 0 rfl ?_
    refine ap_getR (q := 22) (r := q + 1) lg_RX9_9 (by decide) hq rfl hc dX9_done_19 rfl ?_
    refine ap_bipush (q := 24) hc dX9_done_22 rfl bc_34 ?_
    obtain ⟨g_1, h⟩ := h
    refine ap_iald (q := 25) (ty_9_1 hq) (tn_9_1 hq) g_1 hc dX9_done_24 rfl ?_
    refine ap_icmp_ge (q := 28) (tgt := 56) hc dX9_done_25 rfl (by decide) (fun z_2 => ?_) (fun z_2 => ?_)
    · have h := Eq.mp (if_pos z_2) h
      refine ap_iload_n (q := 57) hc dX9_done_56 rfl rfl 1 rfl ?_
      refine ap_if_ne (q := 60) (tgt := 69) hc dX9_done_57 rfl (by decide) (fun z_3 => ?_) (fun z_3 => ?_)
      · have h := Eq.mp (if_neg z_3) h
        refine ap_aload_n (q := 70) hc dX9_done_69 rfl rfl 0 rfl ?_
        refine ap_callV (q := 73) (As := []) hc (ok_X9_manyLain hg hq h) ml_RX9_143 lk_X9_manyLain lv_X9_manyLain hq rfl (ap_RmE hz (by decide)) rfl rfl (Nat.le_of_ble_eq_true rfl) dX9_done_70 rfl (ap_ki (fun r_4 M_5 h => ?_))
        exact ap_sub [0] rfl (bl_X9_done_73 hc hz  hq   h)
      · have h := Eq.mp (if_pos z_3) h
        refine ap_aload_n (q := 61) hc dX9_done_60 rfl rfl 0 rfl ?_
        refine ap_getR (q := 64) (r := q + 1) lg_RX9_9 (by decide) hq rfl hc dX9_done_61 rfl ?_
        refine ap_iconst (q := 65) hc dX9_done_64 rfl ic_1 ?_
        obtain ⟨g_6, h⟩ := h
        refine ap_iald (q := 66) (ty_9_1 hq) (tn_9_1 hq) g_6 hc dX9_done_65 rfl ?_
        refine ap_goto (q := 73) hc dX9_done_66 (by decide) ?_
        exact ap_sub [0] rfl (bl_X9_done_73 hc hz  hq   h)
    · have h := Eq.mp (if_neg z_2) h
      refine ap_aload_n (q := 29) hc dX9_done_28 rfl rfl 0 rfl ?_
      refine ap_aload_n (q := 30) hc dX9_done_29 rfl rfl 0 rfl ?_
      refine ap_getR (q := 33) (r := q + 1) lg_RX9_9 (by decide) hq rfl hc dX9_done_30 rfl ?_
      refine ap_bipush (q := 35) hc dX9_done_33 rfl bc_94 ?_
      refine ap_iload_n (q := 36) hc dX9_done_35 rfl rfl 2 rfl ?_
      refine ap_iadd (q := 37) hc dX9_done_36 rfl ?_
      obtain ⟨g_7, h⟩ := h
      refine ap_iald (q := 38) (ty_9_1 hq) (tn_9_1 hq) g_7 hc dX9_done_37 rfl ?_
      refine ap_aload_n (q := 39) hc dX9_done_38 rfl rfl 0 rfl ?_
      refine ap_getR (q := 42) (r := q + 1) lg_RX9_9 (by decide) hq rfl hc dX9_done_39 rfl ?_
      refine ap_bipush (q := 44) hc dX9_done_42 rfl bc_102 ?_
      refine ap_iload_n (q := 45) hc dX9_done_44 rfl rfl 2 rfl ?_
      refine ap_iadd (q := 46) hc dX9_done_45 rfl ?_
      obtain ⟨g_8, h⟩ := h
      refine ap_iald (q := 47) (ty_9_1 hq) (tn_9_1 hq) g_8 hc dX9_done_46 rfl ?_
      refine ap_callV (q := 50) (As := [.int (M (q + 1) (94 + x2).toNatClampNeg), .int (M (q + 1) (102 + x2).toNatClampNeg)]) hc (ok_X9_goesBy hg hq h) ml_RX9_185 lk_X9_goesBy lv_X9_goesBy hq rfl (ap_RmE hz (by decide)) rfl rfl (Nat.le_of_ble_eq_true rfl) dX9_done_47 rfl (ap_kv (fun M_9 h => ?_))
      obtain ⟨x2_10, ex2_10, h⟩ := ap_nm h
      refine ap_iinc (q := 53) (lo2 := [(2, .int x2_10), (0, .ref (ap_ad g q)), (1, .int x1)]) hc dX9_done_50 rfl 2 rfl (by rw [ex2_10]; rfl) (by decide) rfl ?_
      refine ap_goto (q := 17) hc dX9_done_53 (by decide) ?_
      exact ap_sub [1, 2, 0] rfl (ih _ _ _ h)
def w_X9_done   (q : Nat) (x1 : Int32) (M : ap_Mem) (K : Int32 → ap_Mem → Prop) : Prop :=
w_X9_in x1 0 1 M (fun r_1 M_2 => (if r_1 = 0 then (K (-1) M_2) else (w_X9_keeps q M_2 (fun M_4 => w_X9_done_17   q K 4096 x1 0 M_4))))
theorem bl_X9_done_0 {x : ap_X} {g : ap_G} (hc : ap_Cx x g cX9_done RX9 3) {K : Int32 → ap_Mem → Prop} (hz : ap_Ends x g 7 (some .int) (ap_Qi K))   {q : Nat} (hq : ap_kd q = 9)   {x1 : Int32} {M : ap_Mem}  (h : w_X9_done   q x1 M K) : ap_V x g 3 0 [(0, .ref (ap_ad g q)), (1, .int x1)] [] M := by
  have hg := hc.2.2.2.2.2.2.2.1
  unfold w_X9_done at h
  refine ap_iload_n (q := 1) hc dX9_done_0 rfl rfl 1 rfl ?_
  refine ap_iconst (q := 2) hc dX9_done_1 rfl ic_0 ?_
  refine ap_iconst (q := 3) hc dX9_done_2 rfl ic_1 ?_
  refine ap_callS (q := 6) (As := [.int x1, .int 0, .int 1]) hc (ok_X9_in hg  h) ml_RX9_35 lk_X9_in ls_X9_in (ap_RmE hz (by decide)) rfl rfl (Nat.le_of_ble_eq_true rfl) dX9_done_3 rfl (ap_ki (fun r_1 M_2 h => ?_))
  refine ap_if_ne (q := 9) (tgt := 11) hc dX9_done_6 rfl (by decide) (fun z_3 => ?_) (fun z_3 => ?_)
  · have h := Eq.mp (if_neg z_3) h
    refine ap_aload_n (q := 12) hc dX9_done_11 rfl rfl 0 rfl ?_
    refine ap_callV (q := 15) (As := []) hc (ok_X9_keeps hg hq h) ml_RX9_152 lk_X9_keeps lv_X9_keeps hq rfl (ap_RmE hz (by decide)) rfl rfl (Nat.le_of_ble_eq_true rfl) dX9_done_12 rfl (ap_kv (fun M_4 h => ?_))
    refine ap_iconst (q := 16) hc dX9_done_15 rfl ic_0 ?_
    refine ap_istore_n (q := 17) (lo2 := [(2, .int 0), (0, .ref (ap_ad g q)), (1, .int x1)]) hc dX9_done_16 rfl rfl rfl (by decide) rfl ?_
    exact ap_sub [1, 2, 0] rfl (bl_X9_done_17 hc hz  hq  _ _ _ _ h)
  · have h := Eq.mp (if_pos z_3) h
    refine ap_iconst (q := 10) hc dX9_done_9 rfl ic_m1 ?_
    exact ap_iret hc hz rfl dX9_done_10 h
theorem ok_X9_done {l : Launch} {g : ap_G} (hg : ap_GOK g) {q : Nat} (hq : ap_kd q = 9) {x1 : Int32} {M : ap_Mem} {K : Int32 → ap_Mem → Prop} (h : w_X9_done q x1 M K) : ap_Ct l g yX9_done cX9_done 3 (some .int) 7 [.ref (ap_ad g q), .int x1] M (ap_Qi K) := by
  refine ap_Ct_of hg (by decide +kernel) (Nat.le_of_ble_eq_true rfl) (fun x hx hc hz => ?_)
  subst hx
  exact bl_X9_done_0 hc hz hq h
def w_X9_book   (q : Nat) (x1 : Int32) (x2 : Int32) (M : ap_Mem) (K : Int32 → ap_Mem → Prop) : Prop :=
(if x1 = (-1) then (vp_in 35 936 ∧ ∀ M_21 : ap_Mem, M_21 = ap_mu M (q + 1) (35 : Int32).toNatClampNeg 0 → K 0 M_21) else (w_X9_isCell x1 M (fun r_2 M_3 => (if r_2 = 0 then (K (-1) M_3) else (w_X9_in x2 0 99 M_3 (fun r_5 M_6 => (if r_5 = 0 then (K (-2) M_6) else (vp_in 35 936 ∧ (if (M_6 (q + 1) (35 : Int32).toNatClampNeg) = 8 then (K (-4) M_6) else (vp_in 35 936 ∧ vp_in (110 + (M_6 (q + 1) (35 : Int32).toNatClampNeg)) 936 ∧ ∀ M_12 : ap_Mem, M_12 = ap_mu M_6 (q + 1) (110 + (M_6 (q + 1) (35 : Int32).toNatClampNeg)).toNatClampNeg x1 → vp_in 35 936 ∧ vp_in (118 + (M_12 (q + 1) (35 : Int32).toNatClampNeg)) 936 ∧ ∀ M_15 : ap_Mem, M_15 = ap_mu M_12 (q + 1) (118 + (M_12 (q + 1) (35 : Int32).toNatClampNeg)).toNatClampNeg x2 → vp_in 35 936 ∧ vp_in 35 936 ∧ ∀ M_18 : ap_Mem, M_18 = ap_mu M_15 (q + 1) (35 : Int32).toNatClampNeg ((M_15 (q + 1) (35 : Int32).toNatClampNeg) + 1) → vp_in 35 936 ∧ K (M_18 (q + 1) (35 : Int32).toNatClampNeg) M_18))))))))))
theorem bl_X9_book_0 {x : ap_X} {g : ap_G} (hc : ap_Cx x g cX9_book RX9 3) {K : Int32 → ap_Mem → Prop} (hz : ap_Ends x g 2 (some .int) (ap_Qi K))   {q : Nat} (hq : ap_kd q = 9)   {x1 : Int32} {x2 : Int32} {M : ap_Mem}  (h : w_X9_book   q x1 x2 M K) : ap_V x g 3 0 [(0, .ref (ap_ad g q)), (1, .int x1), (2, .int x2)] [] M := by
  have hg := hc.2.2.2.2.2.2.2.1
  unfold w_X9_book at h
  refine ap_iload_n (q := 1) hc dX9_book_0 rfl rfl 1 rfl ?_
  refine ap_iconst (q := 2) hc dX9_book_1 rfl ic_m1 ?_
  refine ap_icmp_ne (q := 5) (tgt := 15) hc dX9_book_2 rfl (by decide) (fun z_1 => ?_) (fun z_1 => ?_)
  · have h := Eq.mp (if_neg z_1) h
    refine ap_iload_n (q := 16) hc dX9_book_15 rfl rfl 1 rfl ?_
    refine ap_callS (q := 19) (As := [.int x1]) hc (ok_X9_isCell hg  h) ml_RX9_132 lk_X9_isCell ls_X9_isCell (ap_RmE hz (by decide)) rfl rfl (Nat.le_of_ble_eq_true rfl) dX9_book_16 rfl (ap_ki (fun r_2 M_3 h => ?_))
    refine ap_if_ne (q := 22) (tgt := 24) hc dX9_book_19 rfl (by decide) (fun z_4 => ?_) (fun z_4 => ?_)
    · have h := Eq.mp (if_neg z_4) h
      refine ap_iload_n (q := 25) hc dX9_book_24 rfl rfl 2 rfl ?_
      refine ap_iconst (q := 26) hc dX9_book_25 rfl ic_0 ?_
      refine ap_bipush (q := 28) hc dX9_book_26 rfl bc_99 ?_
      refine ap_callS (q := 31) (As := [.int x2, .int 0, .int 99]) hc (ok_X9_in hg  h) ml_RX9_35 lk_X9_in ls_X9_in (ap_RmE hz (by decide)) rfl rfl (Nat.le_of_ble_eq_true rfl) dX9_book_28 rfl (ap_ki (fun r_5 M_6 h => ?_))
      refine ap_if_ne (q := 34) (tgt := 37) hc dX9_book_31 rfl (by decide) (fun z_7 => ?_) (fun z_7 => ?_)
      · have h := Eq.mp (if_neg z_7) h
        refine ap_aload_n (q := 38) hc dX9_book_37 rfl rfl 0 rfl ?_
        refine ap_getR (q := 41) (r := q + 1) lg_RX9_9 (by decide) hq rfl hc dX9_book_38 rfl ?_
        refine ap_bipush (q := 43) hc dX9_book_41 rfl bc_35 ?_
        obtain ⟨g_8, h⟩ := h
        refine ap_iald (q := 44) (ty_9_1 hq) (tn_9_1 hq) g_8 hc dX9_book_43 rfl ?_
        refine ap_bipush (q := 46) hc dX9_book_44 rfl bc_8 ?_
        refine ap_icmp_ne (q := 49) (tgt := 52) hc dX9_book_46 rfl (by decide) (fun z_9 => ?_) (fun z_9 => ?_)
        · have h := Eq.mp (if_neg z_9) h
          refine ap_aload_n (q := 53) hc dX9_book_52 rfl rfl 0 rfl ?_
          refine ap_getR (q := 56) (r := q + 1) lg_RX9_9 (by decide) hq rfl hc dX9_book_53 rfl ?_
          refine ap_bipush (q := 58) hc dX9_book_56 rfl bc_110 ?_
          refine ap_aload_n (q := 59) hc dX9_book_58 rfl rfl 0 rfl ?_
          refine ap_getR (q := 62) (r := q + 1) lg_RX9_9 (by decide) hq rfl hc dX9_book_59 rfl ?_
          refine ap_bipush (q := 64) hc dX9_book_62 rfl bc_35 ?_
          obtain ⟨g_10, h⟩ := h
          refine ap_iald (q := 65) (ty_9_1 hq) (tn_9_1 hq) g_10 hc dX9_book_64 rfl ?_
          refine ap_iadd (q := 66) hc dX9_book_65 rfl ?_
          refine ap_iload_n (q := 67) hc dX9_book_66 rfl rfl 1 rfl ?_
          obtain ⟨g_11, h⟩ := h
          obtain ⟨M_12, eM_12, h⟩ := ap_nm h
          refine ap_iast (q := 68) (ty_9_1 hq) (tn_9_1 hq) g_11 eM_12 hc dX9_book_67 rfl ?_
          refine ap_aload_n (q := 69) hc dX9_book_68 rfl rfl 0 rfl ?_
          refine ap_getR (q := 72) (r := q + 1) lg_RX9_9 (by decide) hq rfl hc dX9_book_69 rfl ?_
          refine ap_bipush (q := 74) hc dX9_book_72 rfl bc_118 ?_
          refine ap_aload_n (q := 75) hc dX9_book_74 rfl rfl 0 rfl ?_
          refine ap_getR (q := 78) (r := q + 1) lg_RX9_9 (by decide) hq rfl hc dX9_book_75 rfl ?_
          refine ap_bipush (q := 80) hc dX9_book_78 rfl bc_35 ?_
          obtain ⟨g_13, h⟩ := h
          refine ap_iald (q := 81) (ty_9_1 hq) (tn_9_1 hq) g_13 hc dX9_book_80 rfl ?_
          refine ap_iadd (q := 82) hc dX9_book_81 rfl ?_
          refine ap_iload_n (q := 83) hc dX9_book_82 rfl rfl 2 rfl ?_
          obtain ⟨g_14, h⟩ := h
          obtain ⟨M_15, eM_15, h⟩ := ap_nm h
          refine ap_iast (q := 84) (ty_9_1 hq) (tn_9_1 hq) g_14 eM_15 hc dX9_book_83 rfl ?_
          refine ap_aload_n (q := 85) hc dX9_book_84 rfl rfl 0 rfl ?_
          refine ap_getR (q := 88) (r := q + 1) lg_RX9_9 (by decide) hq rfl hc dX9_book_85 rfl ?_
          refine ap_bipush (q := 90) hc dX9_book_88 rfl bc_35 ?_
          refine ap_dup2 (q := 91) hc dX9_book_90 rfl rfl rfl ?_
          obtain ⟨g_16, h⟩ := h
          refine ap_iald (q := 92) (ty_9_1 hq) (tn_9_1 hq) g_16 hc dX9_book_91 rfl ?_
          refine ap_iconst (q := 93) hc dX9_book_92 rfl ic_1 ?_
          refine ap_iadd (q := 94) hc dX9_book_93 rfl ?_
          obtain ⟨g_17, h⟩ := h
          obtain ⟨M_18, eM_18, h⟩ := ap_nm h
          refine ap_iast (q := 95) (ty_9_1 hq) (tn_9_1 hq) g_17 eM_18 hc dX9_book_94 rfl ?_
          refine ap_aload_n (q := 96) hc dX9_book_95 rfl rfl 0 rfl ?_
          refine ap_getR (q := 99) (r := q + 1) lg_RX9_9 (by decide) hq rfl hc dX9_book_96 rfl ?_
          refine ap_bipush (q := 101) hc dX9_book_99 rfl bc_35 ?_
          obtain ⟨g_19, h⟩ := h
          refine ap_iald (q := 102) (ty_9_1 hq) (tn_9_1 hq) g_19 hc dX9_book_101 rfl ?_
          exact ap_iret hc hz rfl dX9_book_102 h
        · have h := Eq.mp (if_pos z_9) h
          refine ap_bipush (q := 51) hc dX9_book_49 rfl bc_m4 ?_
          exact ap_iret hc hz rfl dX9_book_51 h
      · have h := Eq.mp (if_pos z_7) h
        refine ap_bipush (q := 36) hc dX9_book_34 rfl bc_m2 ?_
        exact ap_iret hc hz rfl dX9_book_36 h
    · have h := Eq.mp (if_pos z_4) h
      refine ap_iconst (q := 23) hc dX9_book_22 rfl ic_m1 ?_
      exact ap_iret hc hz rfl dX9_book_23 h
  · have h := Eq.mp (if_pos z_1) h
    refine ap_aload_n (q := 6) hc dX9_book_5 rfl rfl 0 rfl ?_
    refine ap_getR (q := 9) (r := q + 1) lg_RX9_9 (by decide) hq rfl hc dX9_book_6 rfl ?_
    refine ap_bipush (q := 11) hc dX9_book_9 rfl bc_35 ?_
    refine ap_iconst (q := 12) hc dX9_book_11 rfl ic_0 ?_
    obtain ⟨g_20, h⟩ := h
    obtain ⟨M_21, eM_21, h⟩ := ap_nm h
    refine ap_iast (q := 13) (ty_9_1 hq) (tn_9_1 hq) g_20 eM_21 hc dX9_book_12 rfl ?_
    refine ap_iconst (q := 14) hc dX9_book_13 rfl ic_0 ?_
    exact ap_iret hc hz rfl dX9_book_14 h
theorem ok_X9_book {l : Launch} {g : ap_G} (hg : ap_GOK g) {q : Nat} (hq : ap_kd q = 9) {x1 : Int32} {x2 : Int32} {M : ap_Mem} {K : Int32 → ap_Mem → Prop} (h : w_X9_book q x1 x2 M K) : ap_Ct l g yX9_book cX9_book 3 (some .int) 2 [.ref (ap_ad g q), .int x1, .int x2] M (ap_Qi K) := by
  refine ap_Ct_of hg (by decide +kernel) (Nat.le_of_ble_eq_true rfl) (fun x hx hc hz => ?_)
  subst hx
  exact bl_X9_book_0 hc hz hq h
def w_X9_looked_2_s   (kL2 : Int32 → ap_Mem → Prop) (q : Nat) (x1 : Int32) (M : ap_Mem) (K : Int32 → ap_Mem → Prop) : Prop :=
vp_in 35 936 ∧ (if (M (q + 1) (35 : Int32).toNatClampNeg) ≤ x1 then (K (-5) M) else (vp_in (110 + x1) 936 ∧ vp_in (2 + (M (q + 1) (110 + x1).toNatClampNeg)) 936 ∧ vp_in (118 + x1) 936 ∧ (if (M (q + 1) (2 + (M (q + 1) (110 + x1).toNatClampNeg)).toNatClampNeg) = (M (q + 1) (118 + x1).toNatClampNeg) then (∀ x1_7 : Int32, x1_7 = x1 + 1 → kL2 x1_7 M) else (K x1 M))))
def w_X9_looked_2   (q : Nat) (K : Int32 → ap_Mem → Prop) : Nat → Int32 → ap_Mem → Prop
  | 0, _, _ => False
  | n + 1, x1, M => w_X9_looked_2_s   (w_X9_looked_2   q K n) q x1 M K
theorem bl_X9_looked_2 {x : ap_X} {g : ap_G} (hc : ap_Cx x g cX9_looked RX9 2) {K : Int32 → ap_Mem → Prop} (hz : ap_Ends x g 0 (some .int) (ap_Qi K))   {q : Nat} (hq : ap_kd q = 9)   : ∀ (n : Nat) (x1 : Int32) (M : ap_Mem), w_X9_looked_2   q K n x1 M → ap_V x g 2 2 [(0, .ref (ap_ad g q)), (1, .int x1)] [] M := by
  intro n
  induction n with
  | zero => intro _ _ h; exact h.elim
  | succ n ih =>
    intro x1 M h
    replace h : w_X9_looked_2_s   (w_X9_looked_2   q K n) q x1 M K := h
    unfold w_X9_looked_2_s at h
    refine ap_iload_n (q := 3) hc dX9_looked_2 rfl rfl 1 rfl ?_
    refine ap_aload_n (q := 4) hc dX9_looked_3 rfl rfl 0 rfl ?_
    refine ap_getR (q := 7) (r := q + 1) lg_RX9_9 (by decide) hq rfl hc dX9_looked_4 rfl ?_
    refine ap_bipush (q := 9) hc dX9_looked_7 rfl bc_35 ?_
    obtain ⟨g_1, h⟩ := h
    refine ap_iald (q := 10) (ty_9_1 hq) (tn_9_1 hq) g_1 hc dX9_looked_9 rfl ?_
    refine ap_icmp_ge (q := 13) (tgt := 49) hc dX9_looked_10 rfl (by decide) (fun z_2 => ?_) (fun z_2 => ?_)
    · have h := Eq.mp (if_pos z_2) h
      refine ap_bipush (q := 51) hc dX9_looked_49 rfl bc_m5 ?_
      exact ap_iret hc hz rfl dX9_looked_51 h
    · have h := Eq.mp (if_neg z_2) h
      refine ap_aload_n (q := 14) hc dX9_looked_13 rfl rfl 0 rfl ?_
      refine ap_getR (q := 17) (r := q + 1) lg_RX9_9 (by decide) hq rfl hc dX9_looked_14 rfl ?_
      refine ap_iconst (q := 18) hc dX9_looked_17 rfl ic_2 ?_
      refine ap_aload_n (q := 19) hc dX9_looked_18 rfl rfl 0 rfl ?_
      refine ap_getR (q := 22) (r := q + 1) lg_RX9_9 (by decide) hq rfl hc dX9_looked_19 rfl ?_
      refine ap_bipush (q := 24) hc dX9_looked_22 rfl bc_110 ?_
      refine ap_iload_n (q := 25) hc dX9_looked_24 rfl rfl 1 rfl ?_
      refine ap_iadd (q := 26) hc dX9_looked_25 rfl ?_
      obtain ⟨g_3, h⟩ := h
      refine ap_iald (q := 27) (ty_9_1 hq) (tn_9_1 hq) g_3 hc dX9_looked_26 rfl ?_
      refine ap_iadd (q := 28) hc dX9_looked_27 rfl ?_
      obtain ⟨g_4, h⟩ := h
      refine ap_iald (q := 29) (ty_9_1 hq) (tn_9_1 hq) g_4 hc dX9_looked_28 rfl ?_
      refine ap_aload_n (q := 30) hc dX9_looked_29 rfl rfl 0 rfl ?_
      refine ap_getR (q := 33) (r := q + 1) lg_RX9_9 (by decide) hq rfl hc dX9_looked_30 rfl ?_
      refine ap_bipush (q := 35) hc dX9_looked_33 rfl bc_118 ?_
      refine ap_iload_n (q := 36) hc dX9_looked_35 rfl rfl 1 rfl ?_
      refine ap_iadd (q := 37) hc dX9_looked_36 rfl ?_
      obtain ⟨g_5, h⟩ := h
      refine ap_iald (q := 38) (ty_9_1 hq) (tn_9_1 hq) g_5 hc dX9_looked_37 rfl ?_
      refine ap_icmp_eq (q := 41) (tgt := 43) hc dX9_looked_38 rfl (by decide) (fun z_6 => ?_) (fun z_6 => ?_)
      · have h := Eq.mp (if_pos z_6) h
        obtain ⟨x1_7, ex1_7, h⟩ := ap_nm h
        refine ap_iinc (q := 46) (lo2 := [(1, .int x1_7), (0, .ref (ap_ad g q))]) hc dX9_looked_43 rfl 1 rfl (by rw [ex1_7]; rfl) (by decide) rfl ?_
        refine ap_goto (q := 2) hc dX9_looked_46 (by decide) ?_
        exact ap_sub [1, 0] rfl (ih _ _ h)
      · have h := Eq.mp (if_neg z_6) h
        refine ap_iload_n (q := 42) hc dX9_looked_41 rfl rfl 1 rfl ?_
        exact ap_iret hc hz rfl dX9_looked_42 h
def w_X9_looked   (q : Nat)  (M : ap_Mem) (K : Int32 → ap_Mem → Prop) : Prop :=
w_X9_looked_2   q K 4096 0 M
theorem bl_X9_looked_0 {x : ap_X} {g : ap_G} (hc : ap_Cx x g cX9_looked RX9 2) {K : Int32 → ap_Mem → Prop} (hz : ap_Ends x g 0 (some .int) (ap_Qi K))   {q : Nat} (hq : ap_kd q = 9)    {M : ap_Mem}  (h : w_X9_looked   q  M K) : ap_V x g 2 0 [(0, .ref (ap_ad g q))] [] M := by
  unfold w_X9_looked at h
  refine ap_iconst (q := 1) hc dX9_looked_0 rfl ic_0 ?_
  refine ap_istore_n (q := 2) (lo2 := [(1, .int 0), (0, .ref (ap_ad g q))]) hc dX9_looked_1 rfl rfl rfl (by decide) rfl ?_
  exact ap_sub [1, 0] rfl (bl_X9_looked_2 hc hz  hq  _ _ _ h)
theorem ok_X9_looked {l : Launch} {g : ap_G} (hg : ap_GOK g) {q : Nat} (hq : ap_kd q = 9)  {M : ap_Mem} {K : Int32 → ap_Mem → Prop} (h : w_X9_looked q  M K) : ap_Ct l g yX9_looked cX9_looked 2 (some .int) 0 [.ref (ap_ad g q)] M (ap_Qi K) := by
  refine ap_Ct_of hg (by decide +kernel) (Nat.le_of_ble_eq_true rfl) (fun x hx hc hz => ?_)
  subst hx
  exact bl_X9_looked_0 hc hz hq h
def w_X9_ranBody_19   (q : Nat)  (M : ap_Mem) (K : ap_Mem → Prop) : Prop :=
∀ M_1 : ap_Mem, M_1 = ap_mu M q 13 ((M q 13) + 1) → K M_1
theorem bl_X9_ranBody_19 {x : ap_X} {g : ap_G} (hc : ap_Cx x g cX9_ranBody RX9 2) {K : ap_Mem → Prop} (hz : ap_Ends x g 0 none (ap_Qv K))   {q : Nat} (hq : ap_kd q = 9)    {M : ap_Mem}  (h : w_X9_ranBody_19   q  M K) : ap_V x g 2 19 [(0, .ref (ap_ad g q))] [] M := by
  unfold w_X9_ranBody_19 at h
  refine ap_aload_n (q := 20) hc dX9_ranBody_19 rfl rfl 0 rfl ?_
  refine ap_dup (q := 21) hc dX9_ranBody_20 rfl rfl ?_
  refine ap_getI (q := 24) lg_RX9_189 hq hc dX9_ranBody_21 rfl ?_
  refine ap_iconst (q := 25) hc dX9_ranBody_24 rfl ic_1 ?_
  refine ap_iadd (q := 26) hc dX9_ranBody_25 rfl ?_
  obtain ⟨M_1, eM_1, h⟩ := ap_nm h
  refine ap_putI (q := 29) lp_RX9_189 hq eM_1 hc dX9_ranBody_26 rfl ?_
  exact ap_vret hc hz dX9_ranBody_29 h
def w_X9_ranBody   (q : Nat) (x1 : Int32) (M : ap_Mem) (K : ap_Mem → Prop) : Prop :=
(if 20 ≤ (M q 13) then (w_X9_ranBody_19   q  M K) else (vp_in (M q 13) 20 ∧ ∀ M_3 : ap_Mem, M_3 = ap_mu M (q + 6) (M q 13).toNatClampNeg x1 → w_X9_ranBody_19   q  M_3 K))
theorem bl_X9_ranBody_0 {x : ap_X} {g : ap_G} (hc : ap_Cx x g cX9_ranBody RX9 2) {K : ap_Mem → Prop} (hz : ap_Ends x g 0 none (ap_Qv K))   {q : Nat} (hq : ap_kd q = 9)   {x1 : Int32} {M : ap_Mem}  (h : w_X9_ranBody   q x1 M K) : ap_V x g 2 0 [(0, .ref (ap_ad g q)), (1, .int x1)] [] M := by
  unfold w_X9_ranBody at h
  refine ap_aload_n (q := 1) hc dX9_ranBody_0 rfl rfl 0 rfl ?_
  refine ap_getI (q := 4) lg_RX9_189 hq hc dX9_ranBody_1 rfl ?_
  refine ap_bipush (q := 6) hc dX9_ranBody_4 rfl bc_20 ?_
  refine ap_icmp_ge (q := 9) (tgt := 19) hc dX9_ranBody_6 rfl (by decide) (fun z_1 => ?_) (fun z_1 => ?_)
  · have h := Eq.mp (if_pos z_1) h
    exact ap_sub [0] rfl (bl_X9_ranBody_19 hc hz  hq   h)
  · have h := Eq.mp (if_neg z_1) h
    refine ap_aload_n (q := 10) hc dX9_ranBody_9 rfl rfl 0 rfl ?_
    refine ap_getR (q := 13) (r := q + 6) lg_RX9_28 (by decide) hq rfl hc dX9_ranBody_10 rfl ?_
    refine ap_aload_n (q := 14) hc dX9_ranBody_13 rfl rfl 0 rfl ?_
    refine ap_getI (q := 17) lg_RX9_189 hq hc dX9_ranBody_14 rfl ?_
    refine ap_iload_n (q := 18) hc dX9_ranBody_17 rfl rfl 1 rfl ?_
    obtain ⟨g_2, h⟩ := h
    obtain ⟨M_3, eM_3, h⟩ := ap_nm h
    refine ap_iast (q := 19) (ty_9_6 hq) (tn_9_6 hq) g_2 eM_3 hc dX9_ranBody_18 rfl ?_
    exact ap_sub [0] rfl (bl_X9_ranBody_19 hc hz  hq   h)
theorem ok_X9_ranBody {l : Launch} {g : ap_G} (hg : ap_GOK g) {q : Nat} (hq : ap_kd q = 9) {x1 : Int32} {M : ap_Mem} {K : ap_Mem → Prop} (h : w_X9_ranBody q x1 M K) : ap_Ct l g yX9_ranBody cX9_ranBody 2 none 0 [.ref (ap_ad g q), .int x1] M (ap_Qv K) := by
  refine ap_Ct_of hg (by decide +kernel) (Nat.le_of_ble_eq_true rfl) (fun x hx hc hz => ?_)
  subst hx
  exact bl_X9_ranBody_0 hc hz hq h
def w_X9_isUnder    (x0 : Int32) (x1 : Int32) (M : ap_Mem) (K : Int32 → ap_Mem → Prop) : Prop :=
(if x1 = 0 then (K 1 M) else ((if x1 = x0 then (K 1 M) else ((if x1 ≤ 0 then (K 0 M) else ((if 4 ≤ x1 then (K 0 M) else ((if x0 = (x1 + 3) then (K 1 M) else (K 0 M))))))))))
theorem bl_X9_isUnder_0 {x : ap_X} {g : ap_G} (hc : ap_Cx x g cX9_isUnder RX9 2) {K : Int32 → ap_Mem → Prop} (hz : ap_Ends x g 0 (some .boolean) (ap_Qi K))       {x0 : Int32} {x1 : Int32} {M : ap_Mem}  (h : w_X9_isUnder    x0 x1 M K) : ap_V x g 2 0 [(0, .int x0), (1, .int x1)] [] M := by
  unfold w_X9_isUnder at h
  refine ap_iload_n (q := 1) hc dX9_isUnder_0 rfl rfl 1 rfl ?_
  refine ap_if_eq (q := 4) (tgt := 25) hc dX9_isUnder_1 rfl (by decide) (fun z_1 => ?_) (fun z_1 => ?_)
  · have h := Eq.mp (if_pos z_1) h
    refine ap_iconst (q := 26) hc dX9_isUnder_25 rfl ic_1 ?_
    refine ap_goto (q := 30) hc dX9_isUnder_26 (by decide) ?_
    exact ap_iret hc hz (ap_Bn ap_B1) dX9_isUnder_30 h
  · have h := Eq.mp (if_neg z_1) h
    refine ap_iload_n (q := 5) hc dX9_isUnder_4 rfl rfl 1 rfl ?_
    refine ap_iload_n (q := 6) hc dX9_isUnder_5 rfl rfl 0 rfl ?_
    refine ap_icmp_eq (q := 9) (tgt := 25) hc dX9_isUnder_6 rfl (by decide) (fun z_2 => ?_) (fun z_2 => ?_)
    · have h := Eq.mp (if_pos z_2) h
      refine ap_iconst (q := 26) hc dX9_isUnder_25 rfl ic_1 ?_
      refine ap_goto (q := 30) hc dX9_isUnder_26 (by decide) ?_
      exact ap_iret hc hz (ap_Bn ap_B1) dX9_isUnder_30 h
    · have h := Eq.mp (if_neg z_2) h
      refine ap_iload_n (q := 10) hc dX9_isUnder_9 rfl rfl 1 rfl ?_
      refine ap_if_le (q := 13) (tgt := 29) hc dX9_isUnder_10 rfl (by decide) (fun z_3 => ?_) (fun z_3 => ?_)
      · have h := Eq.mp (if_pos z_3) h
        refine ap_iconst (q := 30) hc dX9_isUnder_29 rfl ic_0 ?_
        exact ap_iret hc hz (ap_Bn ap_B0) dX9_isUnder_30 h
      · have h := Eq.mp (if_neg z_3) h
        refine ap_iload_n (q := 14) hc dX9_isUnder_13 rfl rfl 1 rfl ?_
        refine ap_iconst (q := 15) hc dX9_isUnder_14 rfl ic_4 ?_
        refine ap_icmp_ge (q := 18) (tgt := 29) hc dX9_isUnder_15 rfl (by decide) (fun z_4 => ?_) (fun z_4 => ?_)
        · have h := Eq.mp (if_pos z_4) h
          refine ap_iconst (q := 30) hc dX9_isUnder_29 rfl ic_0 ?_
          exact ap_iret hc hz (ap_Bn ap_B0) dX9_isUnder_30 h
        · have h := Eq.mp (if_neg z_4) h
          refine ap_iload_n (q := 19) hc dX9_isUnder_18 rfl rfl 0 rfl ?_
          refine ap_iload_n (q := 20) hc dX9_isUnder_19 rfl rfl 1 rfl ?_
          refine ap_iconst (q := 21) hc dX9_isUnder_20 rfl ic_3 ?_
          refine ap_iadd (q := 22) hc dX9_isUnder_21 rfl ?_
          refine ap_icmp_ne (q := 25) (tgt := 29) hc dX9_isUnder_22 rfl (by decide) (fun z_5 => ?_) (fun z_5 => ?_)
          · have h := Eq.mp (if_neg z_5) h
            refine ap_iconst (q := 30) hc dX9_isUnder_29 rfl ic_0 ?_
            exact ap_iret hc hz (ap_Bn ap_B0) dX9_isUnder_30 h
          · have h := Eq.mp (if_pos z_5) h
            refine ap_iconst (q := 26) hc dX9_isUnder_25 rfl ic_1 ?_
            refine ap_goto (q := 30) hc dX9_isUnder_26 (by decide) ?_
            exact ap_iret hc hz (ap_Bn ap_B1) dX9_isUnder_30 h
theorem ok_X9_isUnder {l : Launch} {g : ap_G} (hg : ap_GOK g)   {x0 : Int32} {x1 : Int32} {M : ap_Mem} {K : Int32 → ap_Mem → Prop} (h : w_X9_isUnder  x0 x1 M K) : ap_Ct l g yX9_isUnder cX9_isUnder 2 (some .boolean) 0 [.int x0, .int x1] M (ap_Qi K) := by
  refine ap_Ct_of hg (by decide +kernel) (Nat.le_of_ble_eq_true rfl) (fun x hx hc hz => ?_)
  subst hx
  exact bl_X9_isUnder_0 hc hz  h
def w_X9_plainStands   (q : Nat) (x1 : Int32) (M : ap_Mem) (K : Int32 → ap_Mem → Prop) : Prop :=
w_X9_ranBody q 1 M (fun M_1 => K (x1 + (M_1 q 15)) M_1)
theorem bl_X9_plainStands_0 {x : ap_X} {g : ap_G} (hc : ap_Cx x g cX9_plainStands RX9 2) {K : Int32 → ap_Mem → Prop} (hz : ap_Ends x g 1 (some .int) (ap_Qi K))   {q : Nat} (hq : ap_kd q = 9)   {x1 : Int32} {M : ap_Mem}  (h : w_X9_plainStands   q x1 M K) : ap_V x g 2 0 [(0, .ref (ap_ad g q)), (1, .int x1)] [] M := by
  have hg := hc.2.2.2.2.2.2.2.1
  unfold w_X9_plainStands at h
  refine ap_aload_n (q := 1) hc dX9_plainStands_0 rfl rfl 0 rfl ?_
  refine ap_iconst (q := 2) hc dX9_plainStands_1 rfl ic_1 ?_
  refine ap_callV (q := 5) (As := [.int 1]) hc (ok_X9_ranBody hg hq h) ml_RX9_192 lk_X9_ranBody lv_X9_ranBody hq rfl (ap_RmE hz (by decide)) rfl rfl (Nat.le_of_ble_eq_true rfl) dX9_plainStands_2 rfl (ap_kv (fun M_1 h => ?_))
  refine ap_iload_n (q := 6) hc dX9_plainStands_5 rfl rfl 1 rfl ?_
  refine ap_aload_n (q := 7) hc dX9_plainStands_6 rfl rfl 0 rfl ?_
  refine ap_getI (q := 10) lg_RX9_195 hq hc dX9_plainStands_7 rfl ?_
  refine ap_iadd (q := 11) hc dX9_plainStands_10 rfl ?_
  exact ap_iret hc hz rfl dX9_plainStands_11 h
theorem ok_X9_plainStands {l : Launch} {g : ap_G} (hg : ap_GOK g) {q : Nat} (hq : ap_kd q = 9) {x1 : Int32} {M : ap_Mem} {K : Int32 → ap_Mem → Prop} (h : w_X9_plainStands q x1 M K) : ap_Ct l g yX9_plainStands cX9_plainStands 2 (some .int) 1 [.ref (ap_ad g q), .int x1] M (ap_Qi K) := by
  refine ap_Ct_of hg (by decide +kernel) (Nat.le_of_ble_eq_true rfl) (fun x hx hc hz => ?_)
  subst hx
  exact bl_X9_plainStands_0 hc hz hq h
def w_X9_standsActs   (q : Nat) (x1 : Int32) (M : ap_Mem) (K : Int32 → ap_Mem → Prop) : Prop :=
w_X9_isUnder (M q 14) 1 M (fun r_1 M_2 => (if r_1 = 0 then ((if (M_2 q 14) = 5 then (w_X9_ranBody q 51 M_2 (fun M_7 => w_X9_plainStands q x1 M_7 (fun r_8 M_9 => K (r_8 ^^^ (M_9 q 15)) M_9))) else (w_X9_plainStands q x1 M_2 (fun r_5 M_6 => K r_5 M_6)))) else (w_X9_ranBody q 11 M_2 (fun M_10 => w_X9_plainStands q (x1 * 3) M_10 (fun r_11 M_12 => K r_11 M_12)))))
theorem bl_X9_standsActs_0 {x : ap_X} {g : ap_G} (hc : ap_Cx x g cX9_standsActs RX9 2) {K : Int32 → ap_Mem → Prop} (hz : ap_Ends x g 2 (some .int) (ap_Qi K))   {q : Nat} (hq : ap_kd q = 9)   {x1 : Int32} {M : ap_Mem}  (h : w_X9_standsActs   q x1 M K) : ap_V x g 2 0 [(0, .ref (ap_ad g q)), (1, .int x1)] [] M := by
  have hg := hc.2.2.2.2.2.2.2.1
  unfold w_X9_standsActs at h
  refine ap_aload_n (q := 1) hc dX9_standsActs_0 rfl rfl 0 rfl ?_
  refine ap_getI (q := 4) lg_RX9_198 hq hc dX9_standsActs_1 rfl ?_
  refine ap_iconst (q := 5) hc dX9_standsActs_4 rfl ic_1 ?_
  refine ap_callS (q := 8) (As := [.int (M q 14), .int 1]) hc (ok_X9_isUnder hg  h) ml_RX9_201 lk_X9_isUnder ls_X9_isUnder (ap_RmE hz (by decide)) rfl rfl (Nat.le_of_ble_eq_true rfl) dX9_standsActs_5 rfl (ap_ki (fun r_1 M_2 h => ?_))
  refine ap_if_eq (q := 11) (tgt := 25) hc dX9_standsActs_8 rfl (by decide) (fun z_3 => ?_) (fun z_3 => ?_)
  · have h := Eq.mp (if_pos z_3) h
    refine ap_aload_n (q := 26) hc dX9_standsActs_25 rfl rfl 0 rfl ?_
    refine ap_getI (q := 29) lg_RX9_198 hq hc dX9_standsActs_26 rfl ?_
    refine ap_iconst (q := 30) hc dX9_standsActs_29 rfl ic_5 ?_
    refine ap_icmp_ne (q := 33) (tgt := 50) hc dX9_standsActs_30 rfl (by decide) (fun z_4 => ?_) (fun z_4 => ?_)
    · have h := Eq.mp (if_neg z_4) h
      refine ap_aload_n (q := 51) hc dX9_standsActs_50 rfl rfl 0 rfl ?_
      refine ap_iload_n (q := 52) hc dX9_standsActs_51 rfl rfl 1 rfl ?_
      refine ap_callV (q := 55) (As := [.int x1]) hc (ok_X9_plainStands hg hq h) ml_RX9_204 lk_X9_plainStands lv_X9_plainStands hq rfl (ap_RmE hz (by decide)) rfl rfl (Nat.le_of_ble_eq_true rfl) dX9_standsActs_52 rfl (ap_ki (fun r_5 M_6 h => ?_))
      exact ap_iret hc hz rfl dX9_standsActs_55 h
    · have h := Eq.mp (if_pos z_4) h
      refine ap_aload_n (q := 34) hc dX9_standsActs_33 rfl rfl 0 rfl ?_
      refine ap_bipush (q := 36) hc dX9_standsActs_34 rfl bc_51 ?_
      refine ap_callV (q := 39) (As := [.int 51]) hc (ok_X9_ranBody hg hq h) ml_RX9_192 lk_X9_ranBody lv_X9_ranBody hq rfl (ap_RmE hz (by decide)) rfl rfl (Nat.le_of_ble_eq_true rfl) dX9_standsActs_36 rfl (ap_kv (fun M_7 h => ?_))
      refine ap_aload_n (q := 40) hc dX9_standsActs_39 rfl rfl 0 rfl ?_
      refine ap_iload_n (q := 41) hc dX9_standsActs_40 rfl rfl 1 rfl ?_
      refine ap_callV (q := 44) (As := [.int x1]) hc (ok_X9_plainStands hg hq h) ml_RX9_204 lk_X9_plainStands lv_X9_plainStands hq rfl (ap_RmE hz (by decide)) rfl rfl (Nat.le_of_ble_eq_true rfl) dX9_standsActs_41 rfl (ap_ki (fun r_8 M_9 h => ?_))
      refine ap_aload_n (q := 45) hc dX9_standsActs_44 rfl rfl 0 rfl ?_
      refine ap_getI (q := 48) lg_RX9_195 hq hc dX9_standsActs_45 rfl ?_
      refine ap_ixor (q := 49) hc dX9_standsActs_48 rfl ?_
      exact ap_iret hc hz rfl dX9_standsActs_49 h
  · have h := Eq.mp (if_neg z_3) h
    refine ap_aload_n (q := 12) hc dX9_standsActs_11 rfl rfl 0 rfl ?_
    refine ap_bipush (q := 14) hc dX9_standsActs_12 rfl bc_11 ?_
    refine ap_callV (q := 17) (As := [.int 11]) hc (ok_X9_ranBody hg hq h) ml_RX9_192 lk_X9_ranBody lv_X9_ranBody hq rfl (ap_RmE hz (by decide)) rfl rfl (Nat.le_of_ble_eq_true rfl) dX9_standsActs_14 rfl (ap_kv (fun M_10 h => ?_))
    refine ap_aload_n (q := 18) hc dX9_standsActs_17 rfl rfl 0 rfl ?_
    refine ap_iload_n (q := 19) hc dX9_standsActs_18 rfl rfl 1 rfl ?_
    refine ap_iconst (q := 20) hc dX9_standsActs_19 rfl ic_3 ?_
    refine ap_imul (q := 21) hc dX9_standsActs_20 rfl ?_
    refine ap_callV (q := 24) (As := [.int (x1 * 3)]) hc (ok_X9_plainStands hg hq h) ml_RX9_204 lk_X9_plainStands lv_X9_plainStands hq rfl (ap_RmE hz (by decide)) rfl rfl (Nat.le_of_ble_eq_true rfl) dX9_standsActs_21 rfl (ap_ki (fun r_11 M_12 h => ?_))
    exact ap_iret hc hz rfl dX9_standsActs_24 h
theorem ok_X9_standsActs {l : Launch} {g : ap_G} (hg : ap_GOK g) {q : Nat} (hq : ap_kd q = 9) {x1 : Int32} {M : ap_Mem} {K : Int32 → ap_Mem → Prop} (h : w_X9_standsActs q x1 M K) : ap_Ct l g yX9_standsActs cX9_standsActs 2 (some .int) 2 [.ref (ap_ad g q), .int x1] M (ap_Qi K) := by
  refine ap_Ct_of hg (by decide +kernel) (Nat.le_of_ble_eq_true rfl) (fun x hx hc hz => ?_)
  subst hx
  exact bl_X9_standsActs_0 hc hz hq h
def w_X9_plainLooks   (q : Nat) (x1 : Int32) (M : ap_Mem) (K : Int32 → ap_Mem → Prop) : Prop :=
w_X9_ranBody q 2 M (fun M_1 => w_X9_standsActs q x1 M_1 (fun r_2 M_3 => K (r_2 - (M_3 q 16)) M_3))
theorem bl_X9_plainLooks_0 {x : ap_X} {g : ap_G} (hc : ap_Cx x g cX9_plainLooks RX9 2) {K : Int32 → ap_Mem → Prop} (hz : ap_Ends x g 3 (some .int) (ap_Qi K))   {q : Nat} (hq : ap_kd q = 9)   {x1 : Int32} {M : ap_Mem}  (h : w_X9_plainLooks   q x1 M K) : ap_V x g 2 0 [(0, .ref (ap_ad g q)), (1, .int x1)] [] M := by
  have hg := hc.2.2.2.2.2.2.2.1
  unfold w_X9_plainLooks at h
  refine ap_aload_n (q := 1) hc dX9_plainLooks_0 rfl rfl 0 rfl ?_
  refine ap_iconst (q := 2) hc dX9_plainLooks_1 rfl ic_2 ?_
  refine ap_callV (q := 5) (As := [.int 2]) hc (ok_X9_ranBody hg hq h) ml_RX9_192 lk_X9_ranBody lv_X9_ranBody hq rfl (ap_RmE hz (by decide)) rfl rfl (Nat.le_of_ble_eq_true rfl) dX9_plainLooks_2 rfl (ap_kv (fun M_1 h => ?_))
  refine ap_aload_n (q := 6) hc dX9_plainLooks_5 rfl rfl 0 rfl ?_
  refine ap_iload_n (q := 7) hc dX9_plainLooks_6 rfl rfl 1 rfl ?_
  refine ap_callV (q := 10) (As := [.int x1]) hc (ok_X9_standsActs hg hq h) ml_RX9_207 lk_X9_standsActs lv_X9_standsActs hq rfl (ap_RmE hz (by decide)) rfl rfl (Nat.le_of_ble_eq_true rfl) dX9_plainLooks_7 rfl (ap_ki (fun r_2 M_3 h => ?_))
  refine ap_aload_n (q := 11) hc dX9_plainLooks_10 rfl rfl 0 rfl ?_
  refine ap_getI (q := 14) lg_RX9_210 hq hc dX9_plainLooks_11 rfl ?_
  refine ap_isub (q := 15) hc dX9_plainLooks_14 rfl ?_
  exact ap_iret hc hz rfl dX9_plainLooks_15 h
theorem ok_X9_plainLooks {l : Launch} {g : ap_G} (hg : ap_GOK g) {q : Nat} (hq : ap_kd q = 9) {x1 : Int32} {M : ap_Mem} {K : Int32 → ap_Mem → Prop} (h : w_X9_plainLooks q x1 M K) : ap_Ct l g yX9_plainLooks cX9_plainLooks 2 (some .int) 3 [.ref (ap_ad g q), .int x1] M (ap_Qi K) := by
  refine ap_Ct_of hg (by decide +kernel) (Nat.le_of_ble_eq_true rfl) (fun x hx hc hz => ?_)
  subst hx
  exact bl_X9_plainLooks_0 hc hz hq h
def w_X9_looksActs   (q : Nat) (x1 : Int32) (M : ap_Mem) (K : Int32 → ap_Mem → Prop) : Prop :=
w_X9_isUnder (M q 14) 2 M (fun r_1 M_2 => (if r_1 = 0 then ((if (M_2 q 14) = 6 then (w_X9_ranBody q 61 M_2 (fun M_7 => w_X9_plainLooks q x1 M_7 (fun r_8 M_9 => K (r_8 + (M_9 q 16)) M_9))) else (w_X9_plainLooks q x1 M_2 (fun r_5 M_6 => K r_5 M_6)))) else (w_X9_ranBody q 21 M_2 (fun M_10 => w_X9_plainLooks q x1 M_10 (fun r_11 M_12 => K (-r_11) M_12)))))
theorem bl_X9_looksActs_0 {x : ap_X} {g : ap_G} (hc : ap_Cx x g cX9_looksActs RX9 2) {K : Int32 → ap_Mem → Prop} (hz : ap_Ends x g 4 (some .int) (ap_Qi K))   {q : Nat} (hq : ap_kd q = 9)   {x1 : Int32} {M : ap_Mem}  (h : w_X9_looksActs   q x1 M K) : ap_V x g 2 0 [(0, .ref (ap_ad g q)), (1, .int x1)] [] M := by
  have hg := hc.2.2.2.2.2.2.2.1
  unfold w_X9_looksActs at h
  refine ap_aload_n (q := 1) hc dX9_looksActs_0 rfl rfl 0 rfl ?_
  refine ap_getI (q := 4) lg_RX9_198 hq hc dX9_looksActs_1 rfl ?_
  refine ap_iconst (q := 5) hc dX9_looksActs_4 rfl ic_2 ?_
  refine ap_callS (q := 8) (As := [.int (M q 14), .int 2]) hc (ok_X9_isUnder hg  h) ml_RX9_201 lk_X9_isUnder ls_X9_isUnder (ap_RmE hz (by decide)) rfl rfl (Nat.le_of_ble_eq_true rfl) dX9_looksActs_5 rfl (ap_ki (fun r_1 M_2 h => ?_))
  refine ap_if_eq (q := 11) (tgt := 24) hc dX9_looksActs_8 rfl (by decide) (fun z_3 => ?_) (fun z_3 => ?_)
  · have h := Eq.mp (if_pos z_3) h
    refine ap_aload_n (q := 25) hc dX9_looksActs_24 rfl rfl 0 rfl ?_
    refine ap_getI (q := 28) lg_RX9_198 hq hc dX9_looksActs_25 rfl ?_
    refine ap_bipush (q := 30) hc dX9_looksActs_28 rfl bc_6 ?_
    refine ap_icmp_ne (q := 33) (tgt := 50) hc dX9_looksActs_30 rfl (by decide) (fun z_4 => ?_) (fun z_4 => ?_)
    · have h := Eq.mp (if_neg z_4) h
      refine ap_aload_n (q := 51) hc dX9_looksActs_50 rfl rfl 0 rfl ?_
      refine ap_iload_n (q := 52) hc dX9_looksActs_51 rfl rfl 1 rfl ?_
      refine ap_callV (q := 55) (As := [.int x1]) hc (ok_X9_plainLooks hg hq h) ml_RX9_213 lk_X9_plainLooks lv_X9_plainLooks hq rfl (ap_RmE hz (by decide)) rfl rfl (Nat.le_of_ble_eq_true rfl) dX9_looksActs_52 rfl (ap_ki (fun r_5 M_6 h => ?_))
      exact ap_iret hc hz rfl dX9_looksActs_55 h
    · have h := Eq.mp (if_pos z_4) h
      refine ap_aload_n (q := 34) hc dX9_looksActs_33 rfl rfl 0 rfl ?_
      refine ap_bipush (q := 36) hc dX9_looksActs_34 rfl bc_61 ?_
      refine ap_callV (q := 39) (As := [.int 61]) hc (ok_X9_ranBody hg hq h) ml_RX9_192 lk_X9_ranBody lv_X9_ranBody hq rfl (ap_RmE hz (by decide)) rfl rfl (Nat.le_of_ble_eq_true rfl) dX9_looksActs_36 rfl (ap_kv (fun M_7 h => ?_))
      refine ap_aload_n (q := 40) hc dX9_looksActs_39 rfl rfl 0 rfl ?_
      refine ap_iload_n (q := 41) hc dX9_looksActs_40 rfl rfl 1 rfl ?_
      refine ap_callV (q := 44) (As := [.int x1]) hc (ok_X9_plainLooks hg hq h) ml_RX9_213 lk_X9_plainLooks lv_X9_plainLooks hq rfl (ap_RmE hz (by decide)) rfl rfl (Nat.le_of_ble_eq_true rfl) dX9_looksActs_41 rfl (ap_ki (fun r_8 M_9 h => ?_))
      refine ap_aload_n (q := 45) hc dX9_looksActs_44 rfl rfl 0 rfl ?_
      refine ap_getI (q := 48) lg_RX9_210 hq hc dX9_looksActs_45 rfl ?_
      refine ap_iadd (q := 49) hc dX9_looksActs_48 rfl ?_
      exact ap_iret hc hz rfl dX9_looksActs_49 h
  · have h := Eq.mp (if_neg z_3) h
    refine ap_aload_n (q := 12) hc dX9_looksActs_11 rfl rfl 0 rfl ?_
    refine ap_bipush (q := 14) hc dX9_looksActs_12 rfl bc_21 ?_
    refine ap_callV (q := 17) (As := [.int 21]) hc (ok_X9_ranBody hg hq h) ml_RX9_192 lk_X9_ranBody lv_X9_ranBody hq rfl (ap_RmE hz (by decide)) rfl rfl (Nat.le_of_ble_eq_true rfl) dX9_looksActs_14 rfl (ap_kv (fun M_10 h => ?_))
    refine ap_aload_n (q := 18) hc dX9_looksActs_17 rfl rfl 0 rfl ?_
    refine ap_iload_n (q := 19) hc dX9_looksActs_18 rfl rfl 1 rfl ?_
    refine ap_callV (q := 22) (As := [.int x1]) hc (ok_X9_plainLooks hg hq h) ml_RX9_213 lk_X9_plainLooks lv_X9_plainLooks hq rfl (ap_RmE hz (by decide)) rfl rfl (Nat.le_of_ble_eq_true rfl) dX9_looksActs_19 rfl (ap_ki (fun r_11 M_12 h => ?_))
    refine ap_ineg (q := 23) hc dX9_looksActs_22 rfl ?_
    exact ap_iret hc hz rfl dX9_looksActs_23 h
theorem ok_X9_looksActs {l : Launch} {g : ap_G} (hg : ap_GOK g) {q : Nat} (hq : ap_kd q = 9) {x1 : Int32} {M : ap_Mem} {K : Int32 → ap_Mem → Prop} (h : w_X9_looksActs q x1 M K) : ap_Ct l g yX9_looksActs cX9_looksActs 2 (some .int) 4 [.ref (ap_ad g q), .int x1] M (ap_Qi K) := by
  refine ap_Ct_of hg (by decide +kernel) (Nat.le_of_ble_eq_true rfl) (fun x hx hc hz => ?_)
  subst hx
  exact bl_X9_looksActs_0 hc hz hq h
def w_X9_plainTelling   (q : Nat) (x1 : Int32) (M : ap_Mem) (K : Int32 → ap_Mem → Prop) : Prop :=
w_X9_ranBody q 3 M (fun M_1 => w_X9_looksActs q x1 M_1 (fun r_2 M_3 => K (r_2 * 2) M_3))
theorem bl_X9_plainTelling_0 {x : ap_X} {g : ap_G} (hc : ap_Cx x g cX9_plainTelling RX9 2) {K : Int32 → ap_Mem → Prop} (hz : ap_Ends x g 5 (some .int) (ap_Qi K))   {q : Nat} (hq : ap_kd q = 9)   {x1 : Int32} {M : ap_Mem}  (h : w_X9_plainTelling   q x1 M K) : ap_V x g 2 0 [(0, .ref (ap_ad g q)), (1, .int x1)] [] M := by
  have hg := hc.2.2.2.2.2.2.2.1
  unfold w_X9_plainTelling at h
  refine ap_aload_n (q := 1) hc dX9_plainTelling_0 rfl rfl 0 rfl ?_
  refine ap_iconst (q := 2) hc dX9_plainTelling_1 rfl ic_3 ?_
  refine ap_callV (q := 5) (As := [.int 3]) hc (ok_X9_ranBody hg hq h) ml_RX9_192 lk_X9_ranBody lv_X9_ranBody hq rfl (ap_RmE hz (by decide)) rfl rfl (Nat.le_of_ble_eq_true rfl) dX9_plainTelling_2 rfl (ap_kv (fun M_1 h => ?_))
  refine ap_aload_n (q := 6) hc dX9_plainTelling_5 rfl rfl 0 rfl ?_
  refine ap_iload_n (q := 7) hc dX9_plainTelling_6 rfl rfl 1 rfl ?_
  refine ap_callV (q := 10) (As := [.int x1]) hc (ok_X9_looksActs hg hq h) ml_RX9_216 lk_X9_looksActs lv_X9_looksActs hq rfl (ap_RmE hz (by decide)) rfl rfl (Nat.le_of_ble_eq_true rfl) dX9_plainTelling_7 rfl (ap_ki (fun r_2 M_3 h => ?_))
  refine ap_iconst (q := 11) hc dX9_plainTelling_10 rfl ic_2 ?_
  refine ap_imul (q := 12) hc dX9_plainTelling_11 rfl ?_
  exact ap_iret hc hz rfl dX9_plainTelling_12 h
theorem ok_X9_plainTelling {l : Launch} {g : ap_G} (hg : ap_GOK g) {q : Nat} (hq : ap_kd q = 9) {x1 : Int32} {M : ap_Mem} {K : Int32 → ap_Mem → Prop} (h : w_X9_plainTelling q x1 M K) : ap_Ct l g yX9_plainTelling cX9_plainTelling 2 (some .int) 5 [.ref (ap_ad g q), .int x1] M (ap_Qi K) := by
  refine ap_Ct_of hg (by decide +kernel) (Nat.le_of_ble_eq_true rfl) (fun x hx hc hz => ?_)
  subst hx
  exact bl_X9_plainTelling_0 hc hz hq h
def w_X9_tellsActs   (q : Nat) (x1 : Int32) (M : ap_Mem) (K : Int32 → ap_Mem → Prop) : Prop :=
w_X9_isUnder (M q 14) 3 M (fun r_1 M_2 => (if r_1 = 0 then ((if (M_2 q 14) = 4 then (w_X9_ranBody q 41 M_2 (fun M_7 => w_X9_plainTelling q (x1 - 1) M_7 (fun r_8 M_9 => w_X9_standsActs q 2 M_9 (fun r_10 M_11 => K (r_8 + r_10) M_11)))) else (w_X9_plainTelling q x1 M_2 (fun r_5 M_6 => K r_5 M_6)))) else (w_X9_ranBody q 31 M_2 (fun M_12 => w_X9_plainTelling q x1 M_12 (fun r_13 M_14 => K (r_13 ^^^ 7) M_14)))))
theorem bl_X9_tellsActs_0 {x : ap_X} {g : ap_G} (hc : ap_Cx x g cX9_tellsActs RX9 3) {K : Int32 → ap_Mem → Prop} (hz : ap_Ends x g 6 (some .int) (ap_Qi K))   {q : Nat} (hq : ap_kd q = 9)   {x1 : Int32} {M : ap_Mem}  (h : w_X9_tellsActs   q x1 M K) : ap_V x g 3 0 [(0, .ref (ap_ad g q)), (1, .int x1)] [] M := by
  have hg := hc.2.2.2.2.2.2.2.1
  unfold w_X9_tellsActs at h
  refine ap_aload_n (q := 1) hc dX9_tellsActs_0 rfl rfl 0 rfl ?_
  refine ap_getI (q := 4) lg_RX9_198 hq hc dX9_tellsActs_1 rfl ?_
  refine ap_iconst (q := 5) hc dX9_tellsActs_4 rfl ic_3 ?_
  refine ap_callS (q := 8) (As := [.int (M q 14), .int 3]) hc (ok_X9_isUnder hg  h) ml_RX9_201 lk_X9_isUnder ls_X9_isUnder (ap_RmE hz (by decide)) rfl rfl (Nat.le_of_ble_eq_true rfl) dX9_tellsActs_5 rfl (ap_ki (fun r_1 M_2 h => ?_))
  refine ap_if_eq (q := 11) (tgt := 26) hc dX9_tellsActs_8 rfl (by decide) (fun z_3 => ?_) (fun z_3 => ?_)
  · have h := Eq.mp (if_pos z_3) h
    refine ap_aload_n (q := 27) hc dX9_tellsActs_26 rfl rfl 0 rfl ?_
    refine ap_getI (q := 30) lg_RX9_198 hq hc dX9_tellsActs_27 rfl ?_
    refine ap_iconst (q := 31) hc dX9_tellsActs_30 rfl ic_4 ?_
    refine ap_icmp_ne (q := 34) (tgt := 56) hc dX9_tellsActs_31 rfl (by decide) (fun z_4 => ?_) (fun z_4 => ?_)
    · have h := Eq.mp (if_neg z_4) h
      refine ap_aload_n (q := 57) hc dX9_tellsActs_56 rfl rfl 0 rfl ?_
      refine ap_iload_n (q := 58) hc dX9_tellsActs_57 rfl rfl 1 rfl ?_
      refine ap_callV (q := 61) (As := [.int x1]) hc (ok_X9_plainTelling hg hq h) ml_RX9_219 lk_X9_plainTelling lv_X9_plainTelling hq rfl (ap_RmE hz (by decide)) rfl rfl (Nat.le_of_ble_eq_true rfl) dX9_tellsActs_58 rfl (ap_ki (fun r_5 M_6 h => ?_))
      exact ap_iret hc hz rfl dX9_tellsActs_61 h
    · have h := Eq.mp (if_pos z_4) h
      refine ap_aload_n (q := 35) hc dX9_tellsActs_34 rfl rfl 0 rfl ?_
      refine ap_bipush (q := 37) hc dX9_tellsActs_35 rfl bc_41 ?_
      refine ap_callV (q := 40) (As := [.int 41]) hc (ok_X9_ranBody hg hq h) ml_RX9_192 lk_X9_ranBody lv_X9_ranBody hq rfl (ap_RmE hz (by decide)) rfl rfl (Nat.le_of_ble_eq_true rfl) dX9_tellsActs_37 rfl (ap_kv (fun M_7 h => ?_))
      refine ap_aload_n (q := 41) hc dX9_tellsActs_40 rfl rfl 0 rfl ?_
      refine ap_iload_n (q := 42) hc dX9_tellsActs_41 rfl rfl 1 rfl ?_
      refine ap_iconst (q := 43) hc dX9_tellsActs_42 rfl ic_1 ?_
      refine ap_isub (q := 44) hc dX9_tellsActs_43 rfl ?_
      refine ap_callV (q := 47) (As := [.int (x1 - 1)]) hc (ok_X9_plainTelling hg hq h) ml_RX9_219 lk_X9_plainTelling lv_X9_plainTelling hq rfl (ap_RmE hz (by decide)) rfl rfl (Nat.le_of_ble_eq_true rfl) dX9_tellsActs_44 rfl (ap_ki (fun r_8 M_9 h => ?_))
      refine ap_istore_n (q := 48) (lo2 := [(2, .int r_8), (0, .ref (ap_ad g q)), (1, .int x1)]) hc dX9_tellsActs_47 rfl rfl rfl (by decide) rfl ?_
      refine ap_iload_n (q := 49) hc dX9_tellsActs_48 rfl rfl 0 rfl ?_
      refine ap_aload_n (q := 50) hc dX9_tellsActs_49 rfl rfl 1 rfl ?_
      refine ap_iconst (q := 51) hc dX9_tellsActs_50 rfl ic_2 ?_
      refine ap_callV (q := 54) (As := [.int 2]) hc (ok_X9_standsActs hg hq h) ml_RX9_207 lk_X9_standsActs lv_X9_standsActs hq rfl (ap_RmE hz (by decide)) rfl rfl (Nat.le_of_ble_eq_true rfl) dX9_tellsActs_51 rfl (ap_ki (fun r_10 M_11 h => ?_))
      refine ap_iadd (q := 55) hc dX9_tellsActs_54 rfl ?_
      exact ap_iret hc hz rfl dX9_tellsActs_55 h
  · have h := Eq.mp (if_neg z_3) h
    refine ap_aload_n (q := 12) hc dX9_tellsActs_11 rfl rfl 0 rfl ?_
    refine ap_bipush (q := 14) hc dX9_tellsActs_12 rfl bc_31 ?_
    refine ap_callV (q := 17) (As := [.int 31]) hc (ok_X9_ranBody hg hq h) ml_RX9_192 lk_X9_ranBody lv_X9_ranBody hq rfl (ap_RmE hz (by decide)) rfl rfl (Nat.le_of_ble_eq_true rfl) dX9_tellsActs_14 rfl (ap_kv (fun M_12 h => ?_))
    refine ap_aload_n (q := 18) hc dX9_tellsActs_17 rfl rfl 0 rfl ?_
    refine ap_iload_n (q := 19) hc dX9_tellsActs_18 rfl rfl 1 rfl ?_
    refine ap_callV (q := 22) (As := [.int x1]) hc (ok_X9_plainTelling hg hq h) ml_RX9_219 lk_X9_plainTelling lv_X9_plainTelling hq rfl (ap_RmE hz (by decide)) rfl rfl (Nat.le_of_ble_eq_true rfl) dX9_tellsActs_19 rfl (ap_ki (fun r_13 M_14 h => ?_))
    refine ap_bipush (q := 24) hc dX9_tellsActs_22 rfl bc_7 ?_
    refine ap_ixor (q := 25) hc dX9_tellsActs_24 rfl ?_
    exact ap_iret hc hz rfl dX9_tellsActs_25 h
theorem ok_X9_tellsActs {l : Launch} {g : ap_G} (hg : ap_GOK g) {q : Nat} (hq : ap_kd q = 9) {x1 : Int32} {M : ap_Mem} {K : Int32 → ap_Mem → Prop} (h : w_X9_tellsActs q x1 M K) : ap_Ct l g yX9_tellsActs cX9_tellsActs 3 (some .int) 6 [.ref (ap_ad g q), .int x1] M (ap_Qi K) := by
  refine ap_Ct_of hg (by decide +kernel) (Nat.le_of_ble_eq_true rfl) (fun x hx hc hz => ?_)
  subst hx
  exact bl_X9_tellsActs_0 hc hz hq h
def w_X9_act   (q : Nat) (x1 : Int32) (x2 : Int32) (x3 : Int32) (M : ap_Mem) (K : Int32 → ap_Mem → Prop) : Prop :=
∀ M_1 : ap_Mem, M_1 = ap_mu M q 13 0 → w_X9_isPerson q x1 M_1 (fun r_2 M_3 => (if r_2 = 0 then (K 0 M_3) else (w_X9_in x2 0 2 M_3 (fun r_5 M_6 => (if r_5 = 0 then (K 0 M_6) else (vp_in (38 + x1) 936 ∧ ∀ M_9 : ap_Mem, M_9 = ap_mu M_6 q 14 (M_6 (q + 1) (38 + x1).toNatClampNeg) → ∀ M_10 : ap_Mem, M_10 = ap_mu M_9 q 15 x1 → vp_in (44 + x1) 936 ∧ ∀ M_12 : ap_Mem, M_12 = ap_mu M_10 q 16 (M_10 (q + 1) (44 + x1).toNatClampNeg) → (if x2 = 0 then (w_X9_standsActs q x3 M_12 (fun r_19 M_20 => K r_19 M_20)) else ((if x2 = 1 then (w_X9_looksActs q x3 M_12 (fun r_17 M_18 => K r_17 M_18)) else (w_X9_tellsActs q x3 M_12 (fun r_15 M_16 => K r_15 M_16)))))))))))
theorem bl_X9_act_0 {x : ap_X} {g : ap_G} (hc : ap_Cx x g cX9_act RX9 4) {K : Int32 → ap_Mem → Prop} (hz : ap_Ends x g 7 (some .int) (ap_Qi K))   {q : Nat} (hq : ap_kd q = 9)   {x1 : Int32} {x2 : Int32} {x3 : Int32} {M : ap_Mem}  (h : w_X9_act   q x1 x2 x3 M K) : ap_V x g 4 0 [(0, .ref (ap_ad g q)), (1, .int x1), (2, .int x2), (3, .int x3)] [] M := by
  have hg := hc.2.2.2.2.2.2.2.1
  unfold w_X9_act at h
  refine ap_aload_n (q := 1) hc dX9_act_0 rfl rfl 0 rfl ?_
  refine ap_iconst (q := 2) hc dX9_act_1 rfl ic_0 ?_
  obtain ⟨M_1, eM_1, h⟩ := ap_nm h
  refine ap_putI (q := 5) lp_RX9_189 hq eM_1 hc dX9_act_2 rfl ?_
  refine ap_aload_n (q := 6) hc dX9_act_5 rfl rfl 0 rfl ?_
  refine ap_iload_n (q := 7) hc dX9_act_6 rfl rfl 1 rfl ?_
  refine ap_callV (q := 10) (As := [.int x1]) hc (ok_X9_isPerson hg hq h) ml_RX9_136 lk_X9_isPerson lv_X9_isPerson hq rfl (ap_RmE hz (by decide)) rfl rfl (Nat.le_of_ble_eq_true rfl) dX9_act_7 rfl (ap_ki (fun r_2 M_3 h => ?_))
  refine ap_if_eq (q := 13) (tgt := 22) hc dX9_act_10 rfl (by decide) (fun z_4 => ?_) (fun z_4 => ?_)
  · have h := Eq.mp (if_pos z_4) h
    refine ap_iconst (q := 23) hc dX9_act_22 rfl ic_0 ?_
    exact ap_iret hc hz rfl dX9_act_23 h
  · have h := Eq.mp (if_neg z_4) h
    refine ap_iload_n (q := 14) hc dX9_act_13 rfl rfl 2 rfl ?_
    refine ap_iconst (q := 15) hc dX9_act_14 rfl ic_0 ?_
    refine ap_iconst (q := 16) hc dX9_act_15 rfl ic_2 ?_
    refine ap_callS (q := 19) (As := [.int x2, .int 0, .int 2]) hc (ok_X9_in hg  h) ml_RX9_35 lk_X9_in ls_X9_in (ap_RmE hz (by decide)) rfl rfl (Nat.le_of_ble_eq_true rfl) dX9_act_16 rfl (ap_ki (fun r_5 M_6 h => ?_))
    refine ap_if_ne (q := 22) (tgt := 24) hc dX9_act_19 rfl (by decide) (fun z_7 => ?_) (fun z_7 => ?_)
    · have h := Eq.mp (if_neg z_7) h
      refine ap_aload_n (q := 25) hc dX9_act_24 rfl rfl 0 rfl ?_
      refine ap_aload_n (q := 26) hc dX9_act_25 rfl rfl 0 rfl ?_
      refine ap_getR (q := 29) (r := q + 1) lg_RX9_9 (by decide) hq rfl hc dX9_act_26 rfl ?_
      refine ap_bipush (q := 31) hc dX9_act_29 rfl bc_38 ?_
      refine ap_iload_n (q := 32) hc dX9_act_31 rfl rfl 1 rfl ?_
      refine ap_iadd (q := 33) hc dX9_act_32 rfl ?_
      obtain ⟨g_8, h⟩ := h
      refine ap_iald (q := 34) (ty_9_1 hq) (tn_9_1 hq) g_8 hc dX9_act_33 rfl ?_
      obtain ⟨M_9, eM_9, h⟩ := ap_nm h
      refine ap_putI (q := 37) lp_RX9_198 hq eM_9 hc dX9_act_34 rfl ?_
      refine ap_aload_n (q := 38) hc dX9_act_37 rfl rfl 0 rfl ?_
      refine ap_iload_n (q := 39) hc dX9_act_38 rfl rfl 1 rfl ?_
      obtain ⟨M_10, eM_10, h⟩ := ap_nm h
      refine ap_putI (q := 42) lp_RX9_195 hq eM_10 hc dX9_act_39 rfl ?_
      refine ap_aload_n (q := 43) hc dX9_act_42 rfl rfl 0 rfl ?_
      refine ap_aload_n (q := 44) hc dX9_act_43 rfl rfl 0 rfl ?_
      refine ap_getR (q := 47) (r := q + 1) lg_RX9_9 (by decide) hq rfl hc dX9_act_44 rfl ?_
      refine ap_bipush (q := 49) hc dX9_act_47 rfl bc_44 ?_
      refine ap_iload_n (q := 50) hc dX9_act_49 rfl rfl 1 rfl ?_
      refine ap_iadd (q := 51) hc dX9_act_50 rfl ?_
      obtain ⟨g_11, h⟩ := h
      refine ap_iald (q := 52) (ty_9_1 hq) (tn_9_1 hq) g_11 hc dX9_act_51 rfl ?_
      obtain ⟨M_12, eM_12, h⟩ := ap_nm h
      refine ap_putI (q := 55) lp_RX9_210 hq eM_12 hc dX9_act_52 rfl ?_
      refine ap_iload_n (q := 56) hc dX9_act_55 rfl rfl 2 rfl ?_
      refine ap_if_ne (q := 59) (tgt := 67) hc dX9_act_56 rfl (by decide) (fun z_13 => ?_) (fun z_13 => ?_)
      · have h := Eq.mp (if_neg z_13) h
        refine ap_iload_n (q := 68) hc dX9_act_67 rfl rfl 2 rfl ?_
        refine ap_iconst (q := 69) hc dX9_act_68 rfl ic_1 ?_
        refine ap_icmp_ne (q := 72) (tgt := 80) hc dX9_act_69 rfl (by decide) (fun z_14 => ?_) (fun z_14 => ?_)
        · have h := Eq.mp (if_neg z_14) h
          refine ap_aload_n (q := 81) hc dX9_act_80 rfl rfl 0 rfl ?_
          refine ap_iload_n (q := 82) hc dX9_act_81 rfl rfl 3 rfl ?_
          refine ap_callV (q := 85) (As := [.int x3]) hc (ok_X9_tellsActs hg hq h) ml_RX9_222 lk_X9_tellsActs lv_X9_tellsActs hq rfl (ap_RmE hz (by decide)) rfl rfl (Nat.le_of_ble_eq_true rfl) dX9_act_82 rfl (ap_ki (fun r_15 M_16 h => ?_))
          exact ap_iret hc hz rfl dX9_act_85 h
        · have h := Eq.mp (if_pos z_14) h
          refine ap_aload_n (q := 73) hc dX9_act_72 rfl rfl 0 rfl ?_
          refine ap_iload_n (q := 74) hc dX9_act_73 rfl rfl 3 rfl ?_
          refine ap_callV (q := 77) (As := [.int x3]) hc (ok_X9_looksActs hg hq h) ml_RX9_216 lk_X9_looksActs lv_X9_looksActs hq rfl (ap_RmE hz (by decide)) rfl rfl (Nat.le_of_ble_eq_true rfl) dX9_act_74 rfl (ap_ki (fun r_17 M_18 h => ?_))
          refine ap_goto (q := 85) hc dX9_act_77 (by decide) ?_
          exact ap_iret hc hz rfl dX9_act_85 h
      · have h := Eq.mp (if_pos z_13) h
        refine ap_aload_n (q := 60) hc dX9_act_59 rfl rfl 0 rfl ?_
        refine ap_iload_n (q := 61) hc dX9_act_60 rfl rfl 3 rfl ?_
        refine ap_callV (q := 64) (As := [.int x3]) hc (ok_X9_standsActs hg hq h) ml_RX9_207 lk_X9_standsActs lv_X9_standsActs hq rfl (ap_RmE hz (by decide)) rfl rfl (Nat.le_of_ble_eq_true rfl) dX9_act_61 rfl (ap_ki (fun r_19 M_20 h => ?_))
        refine ap_goto (q := 85) hc dX9_act_64 (by decide) ?_
        exact ap_iret hc hz rfl dX9_act_85 h
    · have h := Eq.mp (if_pos z_7) h
      refine ap_iconst (q := 23) hc dX9_act_22 rfl ic_0 ?_
      exact ap_iret hc hz rfl dX9_act_23 h
theorem ok_X9_act {l : Launch} {g : ap_G} (hg : ap_GOK g) {q : Nat} (hq : ap_kd q = 9) {x1 : Int32} {x2 : Int32} {x3 : Int32} {M : ap_Mem} {K : Int32 → ap_Mem → Prop} (h : w_X9_act q x1 x2 x3 M K) : ap_Ct l g yX9_act cX9_act 4 (some .int) 7 [.ref (ap_ad g q), .int x1, .int x2, .int x3] M (ap_Qi K) := by
  refine ap_Ct_of hg (by decide +kernel) (Nat.le_of_ble_eq_true rfl) (fun x hx hc hz => ?_)
  subst hx
  exact bl_X9_act_0 hc hz hq h
def w_X9_trace_20   (q : Nat) (x1 : Int32) (s0 : Int32) (s1 : Int32) (s2 : Int32) (M : ap_Mem) (K : Int32 → ap_Mem → Prop) : Prop :=
w_X9_in s2 s1 (s0 - 1) M (fun r_1 M_2 => (if r_1 = 0 then (K (-1) M_2) else (vp_in x1 20 ∧ K (M_2 (q + 6) x1.toNatClampNeg) M_2)))
theorem bl_X9_trace_20 {x : ap_X} {g : ap_G} (hc : ap_Cx x g cX9_trace RX9 2) {K : Int32 → ap_Mem → Prop} (hz : ap_Ends x g 1 (some .int) (ap_Qi K))   {q : Nat} (hq : ap_kd q = 9)   {x1 : Int32} {s0 : Int32} {s1 : Int32} {s2 : Int32} {M : ap_Mem}  (h : w_X9_trace_20   q x1 s0 s1 s2 M K) : ap_V x g 2 20 [(0, .ref (ap_ad g q)), (1, .int x1)] [.int s0, .int s1, .int s2] M := by
  have hg := hc.2.2.2.2.2.2.2.1
  unfold w_X9_trace_20 at h
  refine ap_iconst (q := 21) hc dX9_trace_20 rfl ic_1 ?_
  refine ap_isub (q := 22) hc dX9_trace_21 rfl ?_
  refine ap_callS (q := 25) (As := [.int s2, .int s1, .int (s0 - 1)]) hc (ok_X9_in hg  h) ml_RX9_35 lk_X9_in ls_X9_in (ap_RmE hz (by decide)) rfl rfl (Nat.le_of_ble_eq_true rfl) dX9_trace_22 rfl (ap_ki (fun r_1 M_2 h => ?_))
  refine ap_if_eq (q := 28) (tgt := 37) hc dX9_trace_25 rfl (by decide) (fun z_3 => ?_) (fun z_3 => ?_)
  · have h := Eq.mp (if_pos z_3) h
    refine ap_iconst (q := 38) hc dX9_trace_37 rfl ic_m1 ?_
    exact ap_iret hc hz rfl dX9_trace_38 h
  · have h := Eq.mp (if_neg z_3) h
    refine ap_aload_n (q := 29) hc dX9_trace_28 rfl rfl 0 rfl ?_
    refine ap_getR (q := 32) (r := q + 6) lg_RX9_28 (by decide) hq rfl hc dX9_trace_29 rfl ?_
    refine ap_iload_n (q := 33) hc dX9_trace_32 rfl rfl 1 rfl ?_
    obtain ⟨g_4, h⟩ := h
    refine ap_iald (q := 34) (ty_9_6 hq) (tn_9_6 hq) g_4 hc dX9_trace_33 rfl ?_
    refine ap_goto (q := 38) hc dX9_trace_34 (by decide) ?_
    exact ap_iret hc hz rfl dX9_trace_38 h
def w_X9_trace   (q : Nat) (x1 : Int32) (M : ap_Mem) (K : Int32 → ap_Mem → Prop) : Prop :=
(if 20 ≤ (M q 13) then (w_X9_trace_20   q x1 20 0 x1 M K) else (w_X9_trace_20   q x1 (M q 13) 0 x1 M K))
theorem bl_X9_trace_0 {x : ap_X} {g : ap_G} (hc : ap_Cx x g cX9_trace RX9 2) {K : Int32 → ap_Mem → Prop} (hz : ap_Ends x g 1 (some .int) (ap_Qi K))   {q : Nat} (hq : ap_kd q = 9)   {x1 : Int32} {M : ap_Mem}  (h : w_X9_trace   q x1 M K) : ap_V x g 2 0 [(0, .ref (ap_ad g q)), (1, .int x1)] [] M := by
  unfold w_X9_trace at h
  refine ap_iload_n (q := 1) hc dX9_trace_0 rfl rfl 1 rfl ?_
  refine ap_iconst (q := 2) hc dX9_trace_1 rfl ic_0 ?_
  refine ap_aload_n (q := 3) hc dX9_trace_2 rfl rfl 0 rfl ?_
  refine ap_getI (q := 6) lg_RX9_189 hq hc dX9_trace_3 rfl ?_
  refine ap_bipush (q := 8) hc dX9_trace_6 rfl bc_20 ?_
  refine ap_icmp_ge (q := 11) (tgt := 18) hc dX9_trace_8 rfl (by decide) (fun z_1 => ?_) (fun z_1 => ?_)
  · have h := Eq.mp (if_pos z_1) h
    refine ap_bipush (q := 20) hc dX9_trace_18 rfl bc_20 ?_
    exact ap_sub [0, 1] rfl (bl_X9_trace_20 hc hz  hq   h)
  · have h := Eq.mp (if_neg z_1) h
    refine ap_aload_n (q := 12) hc dX9_trace_11 rfl rfl 0 rfl ?_
    refine ap_getI (q := 15) lg_RX9_189 hq hc dX9_trace_12 rfl ?_
    refine ap_goto (q := 20) hc dX9_trace_15 (by decide) ?_
    exact ap_sub [0, 1] rfl (bl_X9_trace_20 hc hz  hq   h)
theorem ok_X9_trace {l : Launch} {g : ap_G} (hg : ap_GOK g) {q : Nat} (hq : ap_kd q = 9) {x1 : Int32} {M : ap_Mem} {K : Int32 → ap_Mem → Prop} (h : w_X9_trace q x1 M K) : ap_Ct l g yX9_trace cX9_trace 2 (some .int) 1 [.ref (ap_ad g q), .int x1] M (ap_Qi K) := by
  refine ap_Ct_of hg (by decide +kernel) (Nat.le_of_ble_eq_true rfl) (fun x hx hc hz => ?_)
  subst hx
  exact bl_X9_trace_0 hc hz hq h
def w_X9_as   (q : Nat) (x1 : Int32) (x2 : Int32) (M : ap_Mem) (K : Int32 → ap_Mem → Prop) : Prop :=
w_X9_isPerson q x1 M (fun r_1 M_2 => (if r_1 = 0 then (K (-1) M_2) else (w_X9_in x2 0 6 M_2 (fun r_4 M_5 => (if r_4 = 0 then (K (-1) M_5) else (vp_in (38 + x1) 936 ∧ w_X9_isUnder (M_5 (q + 1) (38 + x1).toNatClampNeg) x2 M_5 (fun r_8 M_9 => (if r_8 = 0 then (K (-6) M_9) else (vp_in (44 + x1) 936 ∧ K (M_9 (q + 1) (44 + x1).toNatClampNeg) M_9)))))))))
theorem bl_X9_as_0 {x : ap_X} {g : ap_G} (hc : ap_Cx x g cX9_as RX9 3) {K : Int32 → ap_Mem → Prop} (hz : ap_Ends x g 2 (some .int) (ap_Qi K))   {q : Nat} (hq : ap_kd q = 9)   {x1 : Int32} {x2 : Int32} {M : ap_Mem}  (h : w_X9_as   q x1 x2 M K) : ap_V x g 3 0 [(0, .ref (ap_ad g q)), (1, .int x1), (2, .int x2)] [] M := by
  have hg := hc.2.2.2.2.2.2.2.1
  unfold w_X9_as at h
  refine ap_aload_n (q := 1) hc dX9_as_0 rfl rfl 0 rfl ?_
  refine ap_iload_n (q := 2) hc dX9_as_1 rfl rfl 1 rfl ?_
  refine ap_callV (q := 5) (As := [.int x1]) hc (ok_X9_isPerson hg hq h) ml_RX9_136 lk_X9_isPerson lv_X9_isPerson hq rfl (ap_RmE hz (by decide)) rfl rfl (Nat.le_of_ble_eq_true rfl) dX9_as_2 rfl (ap_ki (fun r_1 M_2 h => ?_))
  refine ap_if_eq (q := 8) (tgt := 18) hc dX9_as_5 rfl (by decide) (fun z_3 => ?_) (fun z_3 => ?_)
  · have h := Eq.mp (if_pos z_3) h
    refine ap_iconst (q := 19) hc dX9_as_18 rfl ic_m1 ?_
    exact ap_iret hc hz rfl dX9_as_19 h
  · have h := Eq.mp (if_neg z_3) h
    refine ap_iload_n (q := 9) hc dX9_as_8 rfl rfl 2 rfl ?_
    refine ap_iconst (q := 10) hc dX9_as_9 rfl ic_0 ?_
    refine ap_bipush (q := 12) hc dX9_as_10 rfl bc_6 ?_
    refine ap_callS (q := 15) (As := [.int x2, .int 0, .int 6]) hc (ok_X9_in hg  h) ml_RX9_35 lk_X9_in ls_X9_in (ap_RmE hz (by decide)) rfl rfl (Nat.le_of_ble_eq_true rfl) dX9_as_12 rfl (ap_ki (fun r_4 M_5 h => ?_))
    refine ap_if_ne (q := 18) (tgt := 20) hc dX9_as_15 rfl (by decide) (fun z_6 => ?_) (fun z_6 => ?_)
    · have h := Eq.mp (if_neg z_6) h
      refine ap_aload_n (q := 21) hc dX9_as_20 rfl rfl 0 rfl ?_
      refine ap_getR (q := 24) (r := q + 1) lg_RX9_9 (by decide) hq rfl hc dX9_as_21 rfl ?_
      refine ap_bipush (q := 26) hc dX9_as_24 rfl bc_38 ?_
      refine ap_iload_n (q := 27) hc dX9_as_26 rfl rfl 1 rfl ?_
      refine ap_iadd (q := 28) hc dX9_as_27 rfl ?_
      obtain ⟨g_7, h⟩ := h
      refine ap_iald (q := 29) (ty_9_1 hq) (tn_9_1 hq) g_7 hc dX9_as_28 rfl ?_
      refine ap_iload_n (q := 30) hc dX9_as_29 rfl rfl 2 rfl ?_
      refine ap_callS (q := 33) (As := [.int (M_5 (q + 1) (38 + x1).toNatClampNeg), .int x2]) hc (ok_X9_isUnder hg  h) ml_RX9_201 lk_X9_isUnder ls_X9_isUnder (ap_RmE hz (by decide)) rfl rfl (Nat.le_of_ble_eq_true rfl) dX9_as_30 rfl (ap_ki (fun r_8 M_9 h => ?_))
      refine ap_if_eq (q := 36) (tgt := 48) hc dX9_as_33 rfl (by decide) (fun z_10 => ?_) (fun z_10 => ?_)
      · have h := Eq.mp (if_pos z_10) h
        refine ap_bipush (q := 50) hc dX9_as_48 rfl bc_m6 ?_
        exact ap_iret hc hz rfl dX9_as_50 h
      · have h := Eq.mp (if_neg z_10) h
        refine ap_aload_n (q := 37) hc dX9_as_36 rfl rfl 0 rfl ?_
        refine ap_getR (q := 40) (r := q + 1) lg_RX9_9 (by decide) hq rfl hc dX9_as_37 rfl ?_
        refine ap_bipush (q := 42) hc dX9_as_40 rfl bc_44 ?_
        refine ap_iload_n (q := 43) hc dX9_as_42 rfl rfl 1 rfl ?_
        refine ap_iadd (q := 44) hc dX9_as_43 rfl ?_
        obtain ⟨g_11, h⟩ := h
        refine ap_iald (q := 45) (ty_9_1 hq) (tn_9_1 hq) g_11 hc dX9_as_44 rfl ?_
        refine ap_goto (q := 50) hc dX9_as_45 (by decide) ?_
        exact ap_iret hc hz rfl dX9_as_50 h
    · have h := Eq.mp (if_pos z_6) h
      refine ap_iconst (q := 19) hc dX9_as_18 rfl ic_m1 ?_
      exact ap_iret hc hz rfl dX9_as_19 h
theorem ok_X9_as {l : Launch} {g : ap_G} (hg : ap_GOK g) {q : Nat} (hq : ap_kd q = 9) {x1 : Int32} {x2 : Int32} {M : ap_Mem} {K : Int32 → ap_Mem → Prop} (h : w_X9_as q x1 x2 M K) : ap_Ct l g yX9_as cX9_as 3 (some .int) 2 [.ref (ap_ad g q), .int x1, .int x2] M (ap_Qi K) := by
  refine ap_Ct_of hg (by decide +kernel) (Nat.le_of_ble_eq_true rfl) (fun x hx hc hz => ?_)
  subst hx
  exact bl_X9_as_0 hc hz hq h
def w_X9_image_2_s   (kL2 : Int32 → ap_Mem → Prop) (q : Nat) (x1 : Int32) (M : ap_Mem) (K : Int32 → ap_Mem → Prop) : Prop :=
(if 936 ≤ x1 then (∀ M_2 : ap_Mem, M_2 = ap_mu M q 4 1 → vp_in 30 936 ∧ K (M_2 (q + 1) (30 : Int32).toNatClampNeg) M_2) else (vp_in x1 936 ∧ vp_in x1 936 ∧ ∀ M_6 : ap_Mem, M_6 = ap_mu M (q + 2) x1.toNatClampNeg (M (q + 1) x1.toNatClampNeg) → ∀ x1_7 : Int32, x1_7 = x1 + 1 → kL2 x1_7 M_6))
def w_X9_image_2   (q : Nat) (K : Int32 → ap_Mem → Prop) : Nat → Int32 → ap_Mem → Prop
  | 0, _, _ => False
  | n + 1, x1, M => w_X9_image_2_s   (w_X9_image_2   q K n) q x1 M K
theorem bl_X9_image_2 {x : ap_X} {g : ap_G} (hc : ap_Cx x g cX9_image RX9 2) {K : Int32 → ap_Mem → Prop} (hz : ap_Ends x g 0 (some .int) (ap_Qi K))   {q : Nat} (hq : ap_kd q = 9)   : ∀ (n : Nat) (x1 : Int32) (M : ap_Mem), w_X9_image_2   q K n x1 M → ap_V x g 2 2 [(0, .ref (ap_ad g q)), (1, .int x1)] [] M := by
  intro n
  induction n with
  | zero => intro _ _ h; exact h.elim
  | succ n ih =>
    intro x1 M h
    replace h : w_X9_image_2_s   (w_X9_image_2   q K n) q x1 M K := h
    unfold w_X9_image_2_s at h
    refine ap_iload_n (q := 3) hc dX9_image_2 rfl rfl 1 rfl ?_
    refine ap_sipush (q := 6) hc dX9_image_3 rfl sc_936 ?_
    refine ap_icmp_ge (q := 9) (tgt := 27) hc dX9_image_6 rfl (by decide) (fun z_1 => ?_) (fun z_1 => ?_)
    · have h := Eq.mp (if_pos z_1) h
      refine ap_aload_n (q := 28) hc dX9_image_27 rfl rfl 0 rfl ?_
      refine ap_iconst (q := 29) hc dX9_image_28 rfl ic_1 ?_
      obtain ⟨M_2, eM_2, h⟩ := ap_nm h
      refine ap_putZ (q := 32) lp_RX9_225 hq ap_B1 eM_2 hc dX9_image_29 rfl ?_
      refine ap_aload_n (q := 33) hc dX9_image_32 rfl rfl 0 rfl ?_
      refine ap_getR (q := 36) (r := q + 1) lg_RX9_9 (by decide) hq rfl hc dX9_image_33 rfl ?_
      refine ap_bipush (q := 38) hc dX9_image_36 rfl bc_30 ?_
      obtain ⟨g_3, h⟩ := h
      refine ap_iald (q := 39) (ty_9_1 hq) (tn_9_1 hq) g_3 hc dX9_image_38 rfl ?_
      exact ap_iret hc hz rfl dX9_image_39 h
    · have h := Eq.mp (if_neg z_1) h
      refine ap_aload_n (q := 10) hc dX9_image_9 rfl rfl 0 rfl ?_
      refine ap_getR (q := 13) (r := q + 2) lg_RX9_15 (by decide) hq rfl hc dX9_image_10 rfl ?_
      refine ap_iload_n (q := 14) hc dX9_image_13 rfl rfl 1 rfl ?_
      refine ap_aload_n (q := 15) hc dX9_image_14 rfl rfl 0 rfl ?_
      refine ap_getR (q := 18) (r := q + 1) lg_RX9_9 (by decide) hq rfl hc dX9_image_15 rfl ?_
      refine ap_iload_n (q := 19) hc dX9_image_18 rfl rfl 1 rfl ?_
      obtain ⟨g_4, h⟩ := h
      refine ap_iald (q := 20) (ty_9_1 hq) (tn_9_1 hq) g_4 hc dX9_image_19 rfl ?_
      obtain ⟨g_5, h⟩ := h
      obtain ⟨M_6, eM_6, h⟩ := ap_nm h
      refine ap_iast (q := 21) (ty_9_2 hq) (tn_9_2 hq) g_5 eM_6 hc dX9_image_20 rfl ?_
      obtain ⟨x1_7, ex1_7, h⟩ := ap_nm h
      refine ap_iinc (q := 24) (lo2 := [(1, .int x1_7), (0, .ref (ap_ad g q))]) hc dX9_image_21 rfl 1 rfl (by rw [ex1_7]; rfl) (by decide) rfl ?_
      refine ap_goto (q := 2) hc dX9_image_24 (by decide) ?_
      exact ap_sub [1, 0] rfl (ih _ _ h)
def w_X9_image   (q : Nat)  (M : ap_Mem) (K : Int32 → ap_Mem → Prop) : Prop :=
w_X9_image_2   q K 4096 0 M
theorem bl_X9_image_0 {x : ap_X} {g : ap_G} (hc : ap_Cx x g cX9_image RX9 2) {K : Int32 → ap_Mem → Prop} (hz : ap_Ends x g 0 (some .int) (ap_Qi K))   {q : Nat} (hq : ap_kd q = 9)    {M : ap_Mem}  (h : w_X9_image   q  M K) : ap_V x g 2 0 [(0, .ref (ap_ad g q))] [] M := by
  unfold w_X9_image at h
  refine ap_iconst (q := 1) hc dX9_image_0 rfl ic_0 ?_
  refine ap_istore_n (q := 2) (lo2 := [(1, .int 0), (0, .ref (ap_ad g q))]) hc dX9_image_1 rfl rfl rfl (by decide) rfl ?_
  exact ap_sub [1, 0] rfl (bl_X9_image_2 hc hz  hq  _ _ _ h)
theorem ok_X9_image {l : Launch} {g : ap_G} (hg : ap_GOK g) {q : Nat} (hq : ap_kd q = 9)  {M : ap_Mem} {K : Int32 → ap_Mem → Prop} (h : w_X9_image q  M K) : ap_Ct l g yX9_image cX9_image 2 (some .int) 0 [.ref (ap_ad g q)] M (ap_Qi K) := by
  refine ap_Ct_of hg (by decide +kernel) (Nat.le_of_ble_eq_true rfl) (fun x hx hc hz => ?_)
  subst hx
  exact bl_X9_image_0 hc hz hq h
def w_X9_undo_12_s   (kL12 : Int32 → ap_Mem → Prop) (q : Nat) (x1 : Int32) (M : ap_Mem) (K : Int32 → ap_Mem → Prop) : Prop :=
(if 936 ≤ x1 then (vp_in 30 936 ∧ K (M (q + 1) (30 : Int32).toNatClampNeg) M) else (vp_in x1 936 ∧ vp_in x1 936 ∧ ∀ M_5 : ap_Mem, M_5 = ap_mu M (q + 1) x1.toNatClampNeg (M (q + 2) x1.toNatClampNeg) → ∀ x1_6 : Int32, x1_6 = x1 + 1 → kL12 x1_6 M_5))
def w_X9_undo_12   (q : Nat) (K : Int32 → ap_Mem → Prop) : Nat → Int32 → ap_Mem → Prop
  | 0, _, _ => False
  | n + 1, x1, M => w_X9_undo_12_s   (w_X9_undo_12   q K n) q x1 M K
theorem bl_X9_undo_12 {x : ap_X} {g : ap_G} (hc : ap_Cx x g cX9_undo RX9 2) {K : Int32 → ap_Mem → Prop} (hz : ap_Ends x g 0 (some .int) (ap_Qi K))   {q : Nat} (hq : ap_kd q = 9)   : ∀ (n : Nat) (x1 : Int32) (M : ap_Mem), w_X9_undo_12   q K n x1 M → ap_V x g 2 12 [(0, .ref (ap_ad g q)), (1, .int x1)] [] M := by
  intro n
  induction n with
  | zero => intro _ _ h; exact h.elim
  | succ n ih =>
    intro x1 M h
    replace h : w_X9_undo_12_s   (w_X9_undo_12   q K n) q x1 M K := h
    unfold w_X9_undo_12_s at h
    refine ap_iload_n (q := 13) hc dX9_undo_12 rfl rfl 1 rfl ?_
    refine ap_sipush (q := 16) hc dX9_undo_13 rfl sc_936 ?_
    refine ap_icmp_ge (q := 19) (tgt := 37) hc dX9_undo_16 rfl (by decide) (fun z_1 => ?_) (fun z_1 => ?_)
    · have h := Eq.mp (if_pos z_1) h
      refine ap_aload_n (q := 38) hc dX9_undo_37 rfl rfl 0 rfl ?_
      refine ap_getR (q := 41) (r := q + 1) lg_RX9_9 (by decide) hq rfl hc dX9_undo_38 rfl ?_
      refine ap_bipush (q := 43) hc dX9_undo_41 rfl bc_30 ?_
      obtain ⟨g_2, h⟩ := h
      refine ap_iald (q := 44) (ty_9_1 hq) (tn_9_1 hq) g_2 hc dX9_undo_43 rfl ?_
      exact ap_iret hc hz rfl dX9_undo_44 h
    · have h := Eq.mp (if_neg z_1) h
      refine ap_aload_n (q := 20) hc dX9_undo_19 rfl rfl 0 rfl ?_
      refine ap_getR (q := 23) (r := q + 1) lg_RX9_9 (by decide) hq rfl hc dX9_undo_20 rfl ?_
      refine ap_iload_n (q := 24) hc dX9_undo_23 rfl rfl 1 rfl ?_
      refine ap_aload_n (q := 25) hc dX9_undo_24 rfl rfl 0 rfl ?_
      refine ap_getR (q := 28) (r := q + 2) lg_RX9_15 (by decide) hq rfl hc dX9_undo_25 rfl ?_
      refine ap_iload_n (q := 29) hc dX9_undo_28 rfl rfl 1 rfl ?_
      obtain ⟨g_3, h⟩ := h
      refine ap_iald (q := 30) (ty_9_2 hq) (tn_9_2 hq) g_3 hc dX9_undo_29 rfl ?_
      obtain ⟨g_4, h⟩ := h
      obtain ⟨M_5, eM_5, h⟩ := ap_nm h
      refine ap_iast (q := 31) (ty_9_1 hq) (tn_9_1 hq) g_4 eM_5 hc dX9_undo_30 rfl ?_
      obtain ⟨x1_6, ex1_6, h⟩ := ap_nm h
      refine ap_iinc (q := 34) (lo2 := [(1, .int x1_6), (0, .ref (ap_ad g q))]) hc dX9_undo_31 rfl 1 rfl (by rw [ex1_6]; rfl) (by decide) rfl ?_
      refine ap_goto (q := 12) hc dX9_undo_34 (by decide) ?_
      exact ap_sub [1, 0] rfl (ih _ _ h)
def w_X9_undo   (q : Nat)  (M : ap_Mem) (K : Int32 → ap_Mem → Prop) : Prop :=
(if (M q 4) = 0 then (K (-3) M) else (w_X9_undo_12   q K 4096 0 M))
theorem bl_X9_undo_0 {x : ap_X} {g : ap_G} (hc : ap_Cx x g cX9_undo RX9 2) {K : Int32 → ap_Mem → Prop} (hz : ap_Ends x g 0 (some .int) (ap_Qi K))   {q : Nat} (hq : ap_kd q = 9)    {M : ap_Mem}  (h : w_X9_undo   q  M K) : ap_V x g 2 0 [(0, .ref (ap_ad g q))] [] M := by
  unfold w_X9_undo at h
  refine ap_aload_n (q := 1) hc dX9_undo_0 rfl rfl 0 rfl ?_
  refine ap_getI (q := 4) lg_RX9_225 hq hc dX9_undo_1 rfl ?_
  refine ap_if_ne (q := 7) (tgt := 10) hc dX9_undo_4 rfl (by decide) (fun z_1 => ?_) (fun z_1 => ?_)
  · have h := Eq.mp (if_neg z_1) h
    refine ap_iconst (q := 11) hc dX9_undo_10 rfl ic_0 ?_
    refine ap_istore_n (q := 12) (lo2 := [(1, .int 0), (0, .ref (ap_ad g q))]) hc dX9_undo_11 rfl rfl rfl (by decide) rfl ?_
    exact ap_sub [1, 0] rfl (bl_X9_undo_12 hc hz  hq  _ _ _ h)
  · have h := Eq.mp (if_pos z_1) h
    refine ap_bipush (q := 9) hc dX9_undo_7 rfl bc_m3 ?_
    exact ap_iret hc hz rfl dX9_undo_9 h
theorem ok_X9_undo {l : Launch} {g : ap_G} (hg : ap_GOK g) {q : Nat} (hq : ap_kd q = 9)  {M : ap_Mem} {K : Int32 → ap_Mem → Prop} (h : w_X9_undo q  M K) : ap_Ct l g yX9_undo cX9_undo 2 (some .int) 0 [.ref (ap_ad g q)] M (ap_Qi K) := by
  refine ap_Ct_of hg (by decide +kernel) (Nat.le_of_ble_eq_true rfl) (fun x hx hc hz => ?_)
  subst hx
  exact bl_X9_undo_0 hc hz hq h
def w_X9_count   (q : Nat) (x1 : Int32) (M : ap_Mem) (K : Int32 → ap_Mem → Prop) : Prop :=
(if x1 = 7 then (K (M q 13) M) else (w_X9_in x1 0 6 M (fun r_2 M_3 => (if r_2 = 0 then (K (-1) M_3) else (vp_in (30 + x1) 936 ∧ K (M_3 (q + 1) (30 + x1).toNatClampNeg) M_3)))))
theorem bl_X9_count_0 {x : ap_X} {g : ap_G} (hc : ap_Cx x g cX9_count RX9 2) {K : Int32 → ap_Mem → Prop} (hz : ap_Ends x g 1 (some .int) (ap_Qi K))   {q : Nat} (hq : ap_kd q = 9)   {x1 : Int32} {M : ap_Mem}  (h : w_X9_count   q x1 M K) : ap_V x g 2 0 [(0, .ref (ap_ad g q)), (1, .int x1)] [] M := by
  have hg := hc.2.2.2.2.2.2.2.1
  unfold w_X9_count at h
  refine ap_iload_n (q := 1) hc dX9_count_0 rfl rfl 1 rfl ?_
  refine ap_bipush (q := 3) hc dX9_count_1 rfl bc_7 ?_
  refine ap_icmp_ne (q := 6) (tgt := 13) hc dX9_count_3 rfl (by decide) (fun z_1 => ?_) (fun z_1 => ?_)
  · have h := Eq.mp (if_neg z_1) h
    refine ap_iload_n (q := 14) hc dX9_count_13 rfl rfl 1 rfl ?_
    refine ap_iconst (q := 15) hc dX9_count_14 rfl ic_0 ?_
    refine ap_bipush (q := 17) hc dX9_count_15 rfl bc_6 ?_
    refine ap_callS (q := 20) (As := [.int x1, .int 0, .int 6]) hc (ok_X9_in hg  h) ml_RX9_35 lk_X9_in ls_X9_in (ap_RmE hz (by decide)) rfl rfl (Nat.le_of_ble_eq_true rfl) dX9_count_17 rfl (ap_ki (fun r_2 M_3 h => ?_))
    refine ap_if_eq (q := 23) (tgt := 35) hc dX9_count_20 rfl (by decide) (fun z_4 => ?_) (fun z_4 => ?_)
    · have h := Eq.mp (if_pos z_4) h
      refine ap_iconst (q := 36) hc dX9_count_35 rfl ic_m1 ?_
      exact ap_iret hc hz rfl dX9_count_36 h
    · have h := Eq.mp (if_neg z_4) h
      refine ap_aload_n (q := 24) hc dX9_count_23 rfl rfl 0 rfl ?_
      refine ap_getR (q := 27) (r := q + 1) lg_RX9_9 (by decide) hq rfl hc dX9_count_24 rfl ?_
      refine ap_bipush (q := 29) hc dX9_count_27 rfl bc_30 ?_
      refine ap_iload_n (q := 30) hc dX9_count_29 rfl rfl 1 rfl ?_
      refine ap_iadd (q := 31) hc dX9_count_30 rfl ?_
      obtain ⟨g_5, h⟩ := h
      refine ap_iald (q := 32) (ty_9_1 hq) (tn_9_1 hq) g_5 hc dX9_count_31 rfl ?_
      refine ap_goto (q := 36) hc dX9_count_32 (by decide) ?_
      exact ap_iret hc hz rfl dX9_count_36 h
  · have h := Eq.mp (if_pos z_1) h
    refine ap_aload_n (q := 7) hc dX9_count_6 rfl rfl 0 rfl ?_
    refine ap_getI (q := 10) lg_RX9_189 hq hc dX9_count_7 rfl ?_
    refine ap_goto (q := 36) hc dX9_count_10 (by decide) ?_
    exact ap_iret hc hz rfl dX9_count_36 h
theorem ok_X9_count {l : Launch} {g : ap_G} (hg : ap_GOK g) {q : Nat} (hq : ap_kd q = 9) {x1 : Int32} {M : ap_Mem} {K : Int32 → ap_Mem → Prop} (h : w_X9_count q x1 M K) : ap_Ct l g yX9_count cX9_count 2 (some .int) 1 [.ref (ap_ad g q), .int x1] M (ap_Qi K) := by
  refine ap_Ct_of hg (by decide +kernel) (Nat.le_of_ble_eq_true rfl) (fun x hx hc hz => ?_)
  subst hx
  exact bl_X9_count_0 hc hz hq h
