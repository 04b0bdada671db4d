theorem dX8_act_0 : decode cX8_act 0 = .ok (.aload_n 0, 1) := by decide +kernel
theorem dX8_act_1 : decode cX8_act 1 = .ok (.getfield 42, 3) := by decide +kernel
theorem dX8_act_4 : decode cX8_act 4 = .ok (.iconst 0, 1) := by decide +kernel
theorem dX8_act_5 : decode cX8_act 5 = .ok (.putfield 240, 3) := by decide +kernel
theorem dX8_act_8 : decode cX8_act 8 = .ok (.aload_n 0, 1) := by decide +kernel
theorem dX8_act_9 : decode cX8_act 9 = .ok (.getfield 12, 3) := by decide +kernel
theorem dX8_act_12 : decode cX8_act 12 = .ok (.getfield 94, 3) := by decide +kernel
theorem dX8_act_15 : decode cX8_act 15 = .ok (.iload_n 1, 1) := by decide +kernel
theorem dX8_act_16 : decode cX8_act 16 = .ok (.invokevirtual 103, 3) := by decide +kernel
theorem dX8_act_19 : decode cX8_act 19 = .ok (.ifCond .eq 12, 3) := by decide +kernel
theorem dX8_act_22 : decode cX8_act 22 = .ok (.iload_n 2, 1) := by decide +kernel
theorem dX8_act_23 : decode cX8_act 23 = .ok (.ifCond .lt 8, 3) := by decide +kernel
theorem dX8_act_26 : decode cX8_act 26 = .ok (.iload_n 2, 1) := by decide +kernel
theorem dX8_act_27 : decode cX8_act 27 = .ok (.iconst 3, 1) := by decide +kernel
theorem dX8_act_28 : decode cX8_act 28 = .ok (.if_icmp .lt 5, 3) := by decide +kernel
theorem dX8_act_31 : decode cX8_act 31 = .ok (.iconst 0, 1) := by decide +kernel
theorem dX8_act_32 : decode cX8_act 32 = .ok (.ireturn, 1) := by decide +kernel
theorem dX8_act_33 : decode cX8_act 33 = .ok (.aload_n 0, 1) := by decide +kernel
theorem dX8_act_34 : decode cX8_act 34 = .ok (.getfield 42, 3) := by decide +kernel
theorem dX8_act_37 : decode cX8_act 37 = .ok (.aload_n 0, 1) := by decide +kernel
theorem dX8_act_38 : decode cX8_act 38 = .ok (.getfield 12, 3) := by decide +kernel
theorem dX8_act_41 : decode cX8_act 41 = .ok (.getfield 94, 3) := by decide +kernel
theorem dX8_act_44 : decode cX8_act 44 = .ok (.iload_n 1, 1) := by decide +kernel
theorem dX8_act_45 : decode cX8_act 45 = .ok (.iload_n 2, 1) := by decide +kernel
theorem dX8_act_46 : decode cX8_act 46 = .ok (.iload_n 3, 1) := by decide +kernel
theorem dX8_act_47 : decode cX8_act 47 = .ok (.invokevirtual 243, 3) := by decide +kernel
theorem dX8_act_50 : decode cX8_act 50 = .ok (.ireturn, 1) := by decide +kernel
theorem dX8_as_0 : decode cX8_as 0 = .ok (.aload_n 0, 1) := by decide +kernel
theorem dX8_as_1 : decode cX8_as 1 = .ok (.getfield 12, 3) := by decide +kernel
theorem dX8_as_4 : decode cX8_as 4 = .ok (.getfield 94, 3) := by decide +kernel
theorem dX8_as_7 : decode cX8_as 7 = .ok (.iload_n 1, 1) := by decide +kernel
theorem dX8_as_8 : decode cX8_as 8 = .ok (.invokevirtual 103, 3) := by decide +kernel
theorem dX8_as_11 : decode cX8_as 11 = .ok (.ifCond .eq 10, 3) := by decide +kernel
theorem dX8_as_14 : decode cX8_as 14 = .ok (.iload_n 2, 1) := by decide +kernel
theorem dX8_as_15 : decode cX8_as 15 = .ok (.invokestatic 84, 3) := by decide +kernel
theorem dX8_as_18 : decode cX8_as 18 = .ok (.ifCond .ne 5, 3) := by decide +kernel
theorem dX8_as_21 : decode cX8_as 21 = .ok (.iconst (-1), 1) := by decide +kernel
theorem dX8_as_22 : decode cX8_as 22 = .ok (.ireturn, 1) := by decide +kernel
theorem dX8_as_23 : decode cX8_as 23 = .ok (.aload_n 0, 1) := by decide +kernel
theorem dX8_as_24 : decode cX8_as 24 = .ok (.getfield 12, 3) := by decide +kernel
theorem dX8_as_27 : decode cX8_as 27 = .ok (.getfield 94, 3) := by decide +kernel
theorem dX8_as_30 : decode cX8_as 30 = .ok (.getfield 107, 3) := by decide +kernel
theorem dX8_as_33 : decode cX8_as 33 = .ok (.iload_n 1, 1) := by decide +kernel
theorem dX8_as_34 : decode cX8_as 34 = .ok (.iaload, 1) := by decide +kernel
theorem dX8_as_35 : decode cX8_as 35 = .ok (.istore_n 3, 1) := by decide +kernel
theorem dX8_as_36 : decode cX8_as 36 = .ok (.iload_n 3, 1) := by decide +kernel
theorem dX8_as_37 : decode cX8_as 37 = .ok (.iload_n 2, 1) := by decide +kernel
theorem dX8_as_38 : decode cX8_as 38 = .ok (.if_icmp .eq 25, 3) := by decide +kernel
theorem dX8_as_41 : decode cX8_as 41 = .ok (.getstatic 253, 3) := by decide +kernel
theorem dX8_as_44 : decode cX8_as 44 = .ok (.iload_n 3, 1) := by decide +kernel
theorem dX8_as_45 : decode cX8_as 45 = .ok (.iaload, 1) := by decide +kernel
theorem dX8_as_46 : decode cX8_as 46 = .ok (.iload_n 2, 1) := by decide +kernel
theorem dX8_as_47 : decode cX8_as 47 = .ok (.if_icmp .eq 16, 3) := by decide +kernel
theorem dX8_as_50 : decode cX8_as 50 = .ok (.getstatic 253, 3) := by decide +kernel
theorem dX8_as_53 : decode cX8_as 53 = .ok (.getstatic 253, 3) := by decide +kernel
theorem dX8_as_56 : decode cX8_as 56 = .ok (.iload_n 3, 1) := by decide +kernel
theorem dX8_as_57 : decode cX8_as 57 = .ok (.iaload, 1) := by decide +kernel
theorem dX8_as_58 : decode cX8_as 58 = .ok (.iaload, 1) := by decide +kernel
theorem dX8_as_59 : decode cX8_as 59 = .ok (.iload_n 2, 1) := by decide +kernel
theorem dX8_as_60 : decode cX8_as 60 = .ok (.if_icmp .ne 7, 3) := by decide +kernel
theorem dX8_as_63 : decode cX8_as 63 = .ok (.iconst 1, 1) := by decide +kernel
theorem dX8_as_64 : decode cX8_as 64 = .ok (.goto 4, 3) := by decide +kernel
theorem dX8_as_67 : decode cX8_as 67 = .ok (.iconst 0, 1) := by decide +kernel
theorem dX8_as_68 : decode cX8_as 68 = .ok (.istore 4, 2) := by decide +kernel
theorem dX8_as_70 : decode cX8_as 70 = .ok (.iload 4, 2) := by decide +kernel
theorem dX8_as_72 : decode cX8_as 72 = .ok (.ifCond .eq 18, 3) := by decide +kernel
theorem dX8_as_75 : decode cX8_as 75 = .ok (.aload_n 0, 1) := by decide +kernel
theorem dX8_as_76 : decode cX8_as 76 = .ok (.getfield 12, 3) := by decide +kernel
theorem dX8_as_79 : decode cX8_as 79 = .ok (.getfield 94, 3) := by decide +kernel
theorem dX8_as_82 : decode cX8_as 82 = .ok (.getfield 111, 3) := by decide +kernel
theorem dX8_as_85 : decode cX8_as 85 = .ok (.iload_n 1, 1) := by decide +kernel
theorem dX8_as_86 : decode cX8_as 86 = .ok (.iaload, 1) := by decide +kernel
theorem dX8_as_87 : decode cX8_as 87 = .ok (.goto 5, 3) := by decide +kernel
theorem dX8_as_90 : decode cX8_as 90 = .ok (.bipush (-6), 2) := by decide +kernel
theorem dX8_as_92 : decode cX8_as 92 = .ok (.ireturn, 1) := by decide +kernel
theorem dX8_away_0 : decode cX8_away 0 = .ok (.aload_n 0, 1) := by decide +kernel
theorem dX8_away_1 : decode cX8_away 1 = .ok (.getfield 12, 3) := by decide +kernel
theorem dX8_away_4 : decode cX8_away 4 = .ok (.getfield 94, 3) := by decide +kernel
theorem dX8_away_7 : decode cX8_away 7 = .ok (.iload_n 1, 1) := by decide +kernel
theorem dX8_away_8 : decode cX8_away 8 = .ok (.invokevirtual 103, 3) := by decide +kernel
theorem dX8_away_11 : decode cX8_away 11 = .ok (.ifCond .ne 5, 3) := by decide +kernel
theorem dX8_away_14 : decode cX8_away 14 = .ok (.iconst (-1), 1) := by decide +kernel
theorem dX8_away_15 : decode cX8_away 15 = .ok (.ireturn, 1) := by decide +kernel
theorem dX8_away_16 : decode cX8_away 16 = .ok (.aload_n 0, 1) := by decide +kernel
theorem dX8_away_17 : decode cX8_away 17 = .ok (.getfield 12, 3) := by decide +kernel
theorem dX8_away_20 : decode cX8_away 20 = .ok (.getfield 94, 3) := by decide +kernel
theorem dX8_away_23 : decode cX8_away 23 = .ok (.iload_n 1, 1) := by decide +kernel
theorem dX8_away_24 : decode cX8_away 24 = .ok (.invokevirtual 117, 3) := by decide +kernel
theorem dX8_away_27 : decode cX8_away 27 = .ok (.istore_n 3, 1) := by decide +kernel
theorem dX8_away_28 : decode cX8_away 28 = .ok (.aload_n 0, 1) := by decide +kernel
theorem dX8_away_29 : decode cX8_away 29 = .ok (.getfield 12, 3) := by decide +kernel
theorem dX8_away_32 : decode cX8_away 32 = .ok (.getfield 94, 3) := by decide +kernel
theorem dX8_away_35 : decode cX8_away 35 = .ok (.iload_n 1, 1) := by decide +kernel
theorem dX8_away_36 : decode cX8_away 36 = .ok (.iload_n 2, 1) := by decide +kernel
theorem dX8_away_37 : decode cX8_away 37 = .ok (.invokevirtual 136, 3) := by decide +kernel
theorem dX8_away_40 : decode cX8_away 40 = .ok (.iload_n 3, 1) := by decide +kernel
theorem dX8_away_41 : decode cX8_away 41 = .ok (.ifCond .eq 7, 3) := by decide +kernel
theorem dX8_away_44 : decode cX8_away 44 = .ok (.iconst 1, 1) := by decide +kernel
theorem dX8_away_45 : decode cX8_away 45 = .ok (.goto 4, 3) := by decide +kernel
theorem dX8_away_48 : decode cX8_away 48 = .ok (.iconst 0, 1) := by decide +kernel
theorem dX8_away_49 : decode cX8_away 49 = .ok (.ireturn, 1) := by decide +kernel
theorem dX8_book_0 : decode cX8_book 0 = .ok (.iload_n 1, 1) := by decide +kernel
theorem dX8_book_1 : decode cX8_book 1 = .ok (.iconst (-1), 1) := by decide +kernel
theorem dX8_book_2 : decode cX8_book 2 = .ok (.if_icmp .ne 14, 3) := by decide +kernel
theorem dX8_book_5 : decode cX8_book 5 = .ok (.aload_n 0, 1) := by decide +kernel
theorem dX8_book_6 : decode cX8_book 6 = .ok (.getfield 12, 3) := by decide +kernel
theorem dX8_book_9 : decode cX8_book 9 = .ok (.getfield 237, 3) := by decide +kernel
theorem dX8_book_12 : decode cX8_book 12 = .ok (.invokevirtual 64, 3) := by decide +kernel
theorem dX8_book_15 : decode cX8_book 15 = .ok (.ireturn, 1) := by decide +kernel
theorem dX8_book_16 : decode cX8_book 16 = .ok (.iload_n 1, 1) := by decide +kernel
theorem dX8_book_17 : decode cX8_book 17 = .ok (.invokestatic 88, 3) := by decide +kernel
theorem dX8_book_20 : decode cX8_book 20 = .ok (.ifCond .ne 5, 3) := by decide +kernel
theorem dX8_book_23 : decode cX8_book 23 = .ok (.iconst (-1), 1) := by decide +kernel
theorem dX8_book_24 : decode cX8_book 24 = .ok (.ireturn, 1) := by decide +kernel
theorem dX8_book_25 : decode cX8_book 25 = .ok (.iload_n 2, 1) := by decide +kernel
theorem dX8_book_26 : decode cX8_book 26 = .ok (.ifCond .lt 9, 3) := by decide +kernel
theorem dX8_book_29 : decode cX8_book 29 = .ok (.iload_n 2, 1) := by decide +kernel
theorem dX8_book_30 : decode cX8_book 30 = .ok (.bipush 99, 2) := by decide +kernel
theorem dX8_book_32 : decode cX8_book 32 = .ok (.if_icmp .le 6, 3) := by decide +kernel
theorem dX8_book_35 : decode cX8_book 35 = .ok (.bipush (-2), 2) := by decide +kernel
theorem dX8_book_37 : decode cX8_book 37 = .ok (.ireturn, 1) := by decide +kernel
theorem dX8_book_38 : decode cX8_book 38 = .ok (.aload_n 0, 1) := by decide +kernel
theorem dX8_book_39 : decode cX8_book 39 = .ok (.getfield 12, 3) := by decide +kernel
theorem dX8_book_42 : decode cX8_book 42 = .ok (.getfield 237, 3) := by decide +kernel
theorem dX8_book_45 : decode cX8_book 45 = .ok (.iload_n 1, 1) := by decide +kernel
theorem dX8_book_46 : decode cX8_book 46 = .ok (.iload_n 2, 1) := by decide +kernel
theorem dX8_book_47 : decode cX8_book 47 = .ok (.invokevirtual 50, 3) := by decide +kernel
theorem dX8_book_50 : decode cX8_book 50 = .ok (.ireturn, 1) := by decide +kernel
theorem dX8_call_0 : decode cX8_call 0 = .ok (.iload_n 1, 1) := by decide +kernel
theorem dX8_call_1 : decode cX8_call 1 = .ok (.invokestatic 88, 3) := by decide +kernel
theorem dX8_call_4 : decode cX8_call 4 = .ok (.ifCond .ne 5, 3) := by decide +kernel
theorem dX8_call_7 : decode cX8_call 7 = .ok (.iconst (-1), 1) := by decide +kernel
theorem dX8_call_8 : decode cX8_call 8 = .ok (.ireturn, 1) := by decide +kernel
theorem dX8_call_9 : decode cX8_call 9 = .ok (.aload_n 0, 1) := by decide +kernel
theorem dX8_call_10 : decode cX8_call 10 = .ok (.getfield 35, 3) := by decide +kernel
theorem dX8_call_13 : decode cX8_call 13 = .ok (.aload_n 0, 1) := by decide +kernel
theorem dX8_call_14 : decode cX8_call 14 = .ok (.getfield 12, 3) := by decide +kernel
theorem dX8_call_17 : decode cX8_call 17 = .ok (.invokevirtual 120, 3) := by decide +kernel
theorem dX8_call_20 : decode cX8_call 20 = .ok (.aload_n 0, 1) := by decide +kernel
theorem dX8_call_21 : decode cX8_call 21 = .ok (.getfield 35, 3) := by decide +kernel
theorem dX8_call_24 : decode cX8_call 24 = .ok (.iload_n 1, 1) := by decide +kernel
theorem dX8_call_25 : decode cX8_call 25 = .ok (.bipush 30, 2) := by decide +kernel
theorem dX8_call_27 : decode cX8_call 27 = .ok (.invokevirtual 178, 3) := by decide +kernel
theorem dX8_call_30 : decode cX8_call 30 = .ok (.istore_n 2, 1) := by decide +kernel
theorem dX8_call_31 : decode cX8_call 31 = .ok (.iload_n 2, 1) := by decide +kernel
theorem dX8_call_32 : decode cX8_call 32 = .ok (.ifCond .ge 8, 3) := by decide +kernel
theorem dX8_call_35 : decode cX8_call 35 = .ok (.bipush 31, 2) := by decide +kernel
theorem dX8_call_37 : decode cX8_call 37 = .ok (.goto 4, 3) := by decide +kernel
theorem dX8_call_40 : decode cX8_call 40 = .ok (.iload_n 2, 1) := by decide +kernel
theorem dX8_call_41 : decode cX8_call 41 = .ok (.istore_n 3, 1) := by decide +kernel
theorem dX8_call_42 : decode cX8_call 42 = .ok (.bipush (-5), 2) := by decide +kernel
theorem dX8_call_44 : decode cX8_call 44 = .ok (.istore 4, 2) := by decide +kernel
theorem dX8_call_46 : decode cX8_call 46 = .ok (.iconst 0, 1) := by decide +kernel
theorem dX8_call_47 : decode cX8_call 47 = .ok (.istore 5, 2) := by decide +kernel
theorem dX8_call_49 : decode cX8_call 49 = .ok (.iload 5, 2) := by decide +kernel
theorem dX8_call_51 : decode cX8_call 51 = .ok (.aload_n 0, 1) := by decide +kernel
theorem dX8_call_52 : decode cX8_call 52 = .ok (.getfield 12, 3) := by decide +kernel
theorem dX8_call_55 : decode cX8_call 55 = .ok (.getfield 94, 3) := by decide +kernel
theorem dX8_call_58 : decode cX8_call 58 = .ok (.getfield 187, 3) := by decide +kernel
theorem dX8_call_61 : decode cX8_call 61 = .ok (.if_icmp .ge 111, 3) := by decide +kernel
theorem dX8_call_64 : decode cX8_call 64 = .ok (.iconst 0, 1) := by decide +kernel
theorem dX8_call_65 : decode cX8_call 65 = .ok (.istore 6, 2) := by decide +kernel
theorem dX8_call_67 : decode cX8_call 67 = .ok (.iload 6, 2) := by decide +kernel
theorem dX8_call_69 : decode cX8_call 69 = .ok (.bipush 16, 2) := by decide +kernel
theorem dX8_call_71 : decode cX8_call 71 = .ok (.if_icmp .ge 73, 3) := by decide +kernel
theorem dX8_call_74 : decode cX8_call 74 = .ok (.aload_n 0, 1) := by decide +kernel
theorem dX8_call_75 : decode cX8_call 75 = .ok (.getfield 12, 3) := by decide +kernel
theorem dX8_call_78 : decode cX8_call 78 = .ok (.getfield 94, 3) := by decide +kernel
theorem dX8_call_81 : decode cX8_call 81 = .ok (.iload 5, 2) := by decide +kernel
theorem dX8_call_83 : decode cX8_call 83 = .ok (.invokevirtual 117, 3) := by decide +kernel
theorem dX8_call_86 : decode cX8_call 86 = .ok (.ifCond .ne 58, 3) := by decide +kernel
theorem dX8_call_89 : decode cX8_call 89 = .ok (.aload_n 0, 1) := by decide +kernel
theorem dX8_call_90 : decode cX8_call 90 = .ok (.getfield 35, 3) := by decide +kernel
theorem dX8_call_93 : decode cX8_call 93 = .ok (.invokevirtual 184, 3) := by decide +kernel
theorem dX8_call_96 : decode cX8_call 96 = .ok (.aload_n 0, 1) := by decide +kernel
theorem dX8_call_97 : decode cX8_call 97 = .ok (.getfield 35, 3) := by decide +kernel
theorem dX8_call_100 : decode cX8_call 100 = .ok (.iload 5, 2) := by decide +kernel
theorem dX8_call_102 : decode cX8_call 102 = .ok (.iload 6, 2) := by decide +kernel
theorem dX8_call_104 : decode cX8_call 104 = .ok (.invokevirtual 190, 3) := by decide +kernel
theorem dX8_call_107 : decode cX8_call 107 = .ok (.aload_n 0, 1) := by decide +kernel
theorem dX8_call_108 : decode cX8_call 108 = .ok (.getfield 35, 3) := by decide +kernel
theorem dX8_call_111 : decode cX8_call 111 = .ok (.iload_n 1, 1) := by decide +kernel
theorem dX8_call_112 : decode cX8_call 112 = .ok (.iload_n 3, 1) := by decide +kernel
theorem dX8_call_113 : decode cX8_call 113 = .ok (.iconst 1, 1) := by decide +kernel
theorem dX8_call_114 : decode cX8_call 114 = .ok (.isub, 1) := by decide +kernel
theorem dX8_call_115 : decode cX8_call 115 = .ok (.invokevirtual 178, 3) := by decide +kernel
theorem dX8_call_118 : decode cX8_call 118 = .ok (.istore 7, 2) := by decide +kernel
theorem dX8_call_120 : decode cX8_call 120 = .ok (.iload 7, 2) := by decide +kernel
theorem dX8_call_122 : decode cX8_call 122 = .ok (.ifCond .lt 16, 3) := by decide +kernel
theorem dX8_call_125 : decode cX8_call 125 = .ok (.iload 7, 2) := by decide +kernel
theorem dX8_call_127 : decode cX8_call 127 = .ok (.istore_n 3, 1) := by decide +kernel
theorem dX8_call_128 : decode cX8_call 128 = .ok (.bipush 100, 2) := by decide +kernel
theorem dX8_call_130 : decode cX8_call 130 = .ok (.iload 5, 2) := by decide +kernel
theorem dX8_call_132 : decode cX8_call 132 = .ok (.imul, 1) := by decide +kernel
theorem dX8_call_133 : decode cX8_call 133 = .ok (.iload 6, 2) := by decide +kernel
theorem dX8_call_135 : decode cX8_call 135 = .ok (.iadd, 1) := by decide +kernel
theorem dX8_call_136 : decode cX8_call 136 = .ok (.istore 4, 2) := by decide +kernel
theorem dX8_call_138 : decode cX8_call 138 = .ok (.iinc 6 1, 3) := by decide +kernel
theorem dX8_call_141 : decode cX8_call 141 = .ok (.goto (-74), 3) := by decide +kernel
theorem dX8_call_144 : decode cX8_call 144 = .ok (.aload_n 0, 1) := by decide +kernel
theorem dX8_call_145 : decode cX8_call 145 = .ok (.getfield 35, 3) := by decide +kernel
theorem dX8_call_148 : decode cX8_call 148 = .ok (.iload 5, 2) := by decide +kernel
theorem dX8_call_150 : decode cX8_call 150 = .ok (.aload_n 0, 1) := by decide +kernel
theorem dX8_call_151 : decode cX8_call 151 = .ok (.getfield 12, 3) := by decide +kernel
theorem dX8_call_154 : decode cX8_call 154 = .ok (.getfield 94, 3) := by decide +kernel
theorem dX8_call_157 : decode cX8_call 157 = .ok (.getfield 114, 3) := by decide +kernel
theorem dX8_call_160 : decode cX8_call 160 = .ok (.iload 5, 2) := by decide +kernel
theorem dX8_call_162 : decode cX8_call 162 = .ok (.iaload, 1) := by decide +kernel
theorem dX8_call_163 : decode cX8_call 163 = .ok (.invokevirtual 190, 3) := by decide +kernel
theorem dX8_call_166 : decode cX8_call 166 = .ok (.iinc 5 1, 3) := by decide +kernel
theorem dX8_call_169 : decode cX8_call 169 = .ok (.goto (-120), 3) := by decide +kernel
theorem dX8_call_172 : decode cX8_call 172 = .ok (.iload 4, 2) := by decide +kernel
theorem dX8_call_174 : decode cX8_call 174 = .ok (.ireturn, 1) := by decide +kernel
theorem dX8_count_0 : decode cX8_count 0 = .ok (.iload_n 1, 1) := by decide +kernel
theorem dX8_count_1 : decode cX8_count 1 = .ok (.tableswitch 129 0 7 #[47, 58, 66, 77, 88, 99, 110, 121], 47) := by decide +kernel
theorem dX8_count_48 : decode cX8_count 48 = .ok (.aload_n 0, 1) := by decide +kernel
theorem dX8_count_49 : decode cX8_count 49 = .ok (.getfield 12, 3) := by decide +kernel
theorem dX8_count_52 : decode cX8_count 52 = .ok (.getfield 94, 3) := by decide +kernel
theorem dX8_count_55 : decode cX8_count 55 = .ok (.getfield 187, 3) := by decide +kernel
theorem dX8_count_58 : decode cX8_count 58 = .ok (.ireturn, 1) := by decide +kernel
theorem dX8_count_59 : decode cX8_count 59 = .ok (.aload_n 0, 1) := by decide +kernel
theorem dX8_count_60 : decode cX8_count 60 = .ok (.getfield 12, 3) := by decide +kernel
theorem dX8_count_63 : decode cX8_count 63 = .ok (.getfield 56, 3) := by decide +kernel
theorem dX8_count_66 : decode cX8_count 66 = .ok (.ireturn, 1) := by decide +kernel
theorem dX8_count_67 : decode cX8_count 67 = .ok (.aload_n 0, 1) := by decide +kernel
theorem dX8_count_68 : decode cX8_count 68 = .ok (.getfield 12, 3) := by decide +kernel
theorem dX8_count_71 : decode cX8_count 71 = .ok (.getfield 203, 3) := by decide +kernel
theorem dX8_count_74 : decode cX8_count 74 = .ok (.getfield 206, 3) := by decide +kernel
theorem dX8_count_77 : decode cX8_count 77 = .ok (.ireturn, 1) := by decide +kernel
theorem dX8_count_78 : decode cX8_count 78 = .ok (.aload_n 0, 1) := by decide +kernel
theorem dX8_count_79 : decode cX8_count 79 = .ok (.getfield 12, 3) := by decide +kernel
theorem dX8_count_82 : decode cX8_count 82 = .ok (.getfield 210, 3) := by decide +kernel
theorem dX8_count_85 : decode cX8_count 85 = .ok (.getfield 206, 3) := by decide +kernel
theorem dX8_count_88 : decode cX8_count 88 = .ok (.ireturn, 1) := by decide +kernel
theorem dX8_count_89 : decode cX8_count 89 = .ok (.aload_n 0, 1) := by decide +kernel
theorem dX8_count_90 : decode cX8_count 90 = .ok (.getfield 12, 3) := by decide +kernel
theorem dX8_count_93 : decode cX8_count 93 = .ok (.getfield 228, 3) := by decide +kernel
theorem dX8_count_96 : decode cX8_count 96 = .ok (.getfield 206, 3) := by decide +kernel
theorem dX8_count_99 : decode cX8_count 99 = .ok (.ireturn, 1) := by decide +kernel
theorem dX8_count_100 : decode cX8_count 100 = .ok (.aload_n 0, 1) := by decide +kernel
theorem dX8_count_101 : decode cX8_count 101 = .ok (.getfield 12, 3) := by decide +kernel
theorem dX8_count_104 : decode cX8_count 104 = .ok (.getfield 237, 3) := by decide +kernel
theorem dX8_count_107 : decode cX8_count 107 = .ok (.getfield 206, 3) := by decide +kernel
theorem dX8_count_110 : decode cX8_count 110 = .ok (.ireturn, 1) := by decide +kernel
theorem dX8_count_111 : decode cX8_count 111 = .ok (.aload_n 0, 1) := by decide +kernel
theorem dX8_count_112 : decode cX8_count 112 = .ok (.getfield 12, 3) := by decide +kernel
theorem dX8_count_115 : decode cX8_count 115 = .ok (.getfield 46, 3) := by decide +kernel
theorem dX8_count_118 : decode cX8_count 118 = .ok (.getfield 206, 3) := by decide +kernel
theorem dX8_count_121 : decode cX8_count 121 = .ok (.ireturn, 1) := by decide +kernel
theorem dX8_count_122 : decode cX8_count 122 = .ok (.aload_n 0, 1) := by decide +kernel
theorem dX8_count_123 : decode cX8_count 123 = .ok (.getfield 42, 3) := by decide +kernel
theorem dX8_count_126 : decode cX8_count 126 = .ok (.getfield 240, 3) := by decide +kernel
theorem dX8_count_129 : decode cX8_count 129 = .ok (.ireturn, 1) := by decide +kernel
theorem dX8_count_130 : decode cX8_count 130 = .ok (.iconst (-1), 1) := by decide +kernel
theorem dX8_count_131 : decode cX8_count 131 = .ok (.ireturn, 1) := by decide +kernel
theorem dX8_done_0 : decode cX8_done 0 = .ok (.iload_n 1, 1) := by decide +kernel
theorem dX8_done_1 : decode cX8_done 1 = .ok (.invokestatic 181, 3) := by decide +kernel
theorem dX8_done_4 : decode cX8_done 4 = .ok (.ifCond .ne 5, 3) := by decide +kernel
theorem dX8_done_7 : decode cX8_done 7 = .ok (.iconst (-1), 1) := by decide +kernel
theorem dX8_done_8 : decode cX8_done 8 = .ok (.ireturn, 1) := by decide +kernel
theorem dX8_done_9 : decode cX8_done 9 = .ok (.aload_n 0, 1) := by decide +kernel
theorem dX8_done_10 : decode cX8_done 10 = .ok (.getfield 35, 3) := by decide +kernel
theorem dX8_done_13 : decode cX8_done 13 = .ok (.aload_n 0, 1) := by decide +kernel
theorem dX8_done_14 : decode cX8_done 14 = .ok (.getfield 12, 3) := by decide +kernel
theorem dX8_done_17 : decode cX8_done 17 = .ok (.invokevirtual 120, 3) := by decide +kernel
theorem dX8_done_20 : decode cX8_done 20 = .ok (.iconst 0, 1) := by decide +kernel
theorem dX8_done_21 : decode cX8_done 21 = .ok (.istore_n 2, 1) := by decide +kernel
theorem dX8_done_22 : decode cX8_done 22 = .ok (.iload_n 2, 1) := by decide +kernel
theorem dX8_done_23 : decode cX8_done 23 = .ok (.aload_n 0, 1) := by decide +kernel
theorem dX8_done_24 : decode cX8_done 24 = .ok (.getfield 12, 3) := by decide +kernel
theorem dX8_done_27 : decode cX8_done 27 = .ok (.getfield 228, 3) := by decide +kernel
theorem dX8_done_30 : decode cX8_done 30 = .ok (.getfield 206, 3) := by decide +kernel
theorem dX8_done_33 : decode cX8_done 33 = .ok (.if_icmp .ge 40, 3) := by decide +kernel
theorem dX8_done_36 : decode cX8_done 36 = .ok (.aload_n 0, 1) := by decide +kernel
theorem dX8_done_37 : decode cX8_done 37 = .ok (.getfield 35, 3) := by decide +kernel
theorem dX8_done_40 : decode cX8_done 40 = .ok (.aload_n 0, 1) := by decide +kernel
theorem dX8_done_41 : decode cX8_done 41 = .ok (.getfield 12, 3) := by decide +kernel
theorem dX8_done_44 : decode cX8_done 44 = .ok (.getfield 228, 3) := by decide +kernel
theorem dX8_done_47 : decode cX8_done 47 = .ok (.getfield 207, 3) := by decide +kernel
theorem dX8_done_50 : decode cX8_done 50 = .ok (.iload_n 2, 1) := by decide +kernel
theorem dX8_done_51 : decode cX8_done 51 = .ok (.iaload, 1) := by decide +kernel
theorem dX8_done_52 : decode cX8_done 52 = .ok (.aload_n 0, 1) := by decide +kernel
theorem dX8_done_53 : decode cX8_done 53 = .ok (.getfield 12, 3) := by decide +kernel
theorem dX8_done_56 : decode cX8_done 56 = .ok (.getfield 228, 3) := by decide +kernel
theorem dX8_done_59 : decode cX8_done 59 = .ok (.getfield 231, 3) := by decide +kernel
theorem dX8_done_62 : decode cX8_done 62 = .ok (.iload_n 2, 1) := by decide +kernel
theorem dX8_done_63 : decode cX8_done 63 = .ok (.iaload, 1) := by decide +kernel
theorem dX8_done_64 : decode cX8_done 64 = .ok (.invokevirtual 234, 3) := by decide +kernel
theorem dX8_done_67 : decode cX8_done 67 = .ok (.iinc 2 1, 3) := by decide +kernel
theorem dX8_done_70 : decode cX8_done 70 = .ok (.goto (-48), 3) := by decide +kernel
theorem dX8_done_73 : decode cX8_done 73 = .ok (.iload_n 1, 1) := by decide +kernel
theorem dX8_done_74 : decode cX8_done 74 = .ok (.ifCond .ne 16, 3) := by decide +kernel
theorem dX8_done_77 : decode cX8_done 77 = .ok (.aload_n 0, 1) := by decide +kernel
theorem dX8_done_78 : decode cX8_done 78 = .ok (.getfield 35, 3) := by decide +kernel
theorem dX8_done_81 : decode cX8_done 81 = .ok (.getfield 171, 3) := by decide +kernel
theorem dX8_done_84 : decode cX8_done 84 = .ok (.getfield 144, 3) := by decide +kernel
theorem dX8_done_87 : decode cX8_done 87 = .ok (.goto 13, 3) := by decide +kernel
theorem dX8_done_90 : decode cX8_done 90 = .ok (.aload_n 0, 1) := by decide +kernel
theorem dX8_done_91 : decode cX8_done 91 = .ok (.getfield 35, 3) := by decide +kernel
theorem dX8_done_94 : decode cX8_done 94 = .ok (.getfield 171, 3) := by decide +kernel
theorem dX8_done_97 : decode cX8_done 97 = .ok (.invokevirtual 154, 3) := by decide +kernel
theorem dX8_done_100 : decode cX8_done 100 = .ok (.ireturn, 1) := by decide +kernel
theorem dX8_doors_0 : decode cX8_doors 0 = .ok (.aload_n 0, 1) := by decide +kernel
theorem dX8_doors_1 : decode cX8_doors 1 = .ok (.getfield 12, 3) := by decide +kernel
theorem dX8_doors_4 : decode cX8_doors 4 = .ok (.getfield 94, 3) := by decide +kernel
theorem dX8_doors_7 : decode cX8_doors 7 = .ok (.iload_n 1, 1) := by decide +kernel
theorem dX8_doors_8 : decode cX8_doors 8 = .ok (.invokevirtual 103, 3) := by decide +kernel
theorem dX8_doors_11 : decode cX8_doors 11 = .ok (.ifCond .ne 5, 3) := by decide +kernel
theorem dX8_doors_14 : decode cX8_doors 14 = .ok (.iconst (-1), 1) := by decide +kernel
theorem dX8_doors_15 : decode cX8_doors 15 = .ok (.ireturn, 1) := by decide +kernel
theorem dX8_doors_16 : decode cX8_doors 16 = .ok (.aload_n 0, 1) := by decide +kernel
theorem dX8_doors_17 : decode cX8_doors 17 = .ok (.getfield 35, 3) := by decide +kernel
theorem dX8_doors_20 : decode cX8_doors 20 = .ok (.aload_n 0, 1) := by decide +kernel
theorem dX8_doors_21 : decode cX8_doors 21 = .ok (.getfield 12, 3) := by decide +kernel
theorem dX8_doors_24 : decode cX8_doors 24 = .ok (.invokevirtual 120, 3) := by decide +kernel
theorem dX8_doors_27 : decode cX8_doors 27 = .ok (.iconst 0, 1) := by decide +kernel
theorem dX8_doors_28 : decode cX8_doors 28 = .ok (.istore_n 2, 1) := by decide +kernel
theorem dX8_doors_29 : decode cX8_doors 29 = .ok (.iconst 0, 1) := by decide +kernel
theorem dX8_doors_30 : decode cX8_doors 30 = .ok (.istore_n 3, 1) := by decide +kernel
theorem dX8_doors_31 : decode cX8_doors 31 = .ok (.iload_n 3, 1) := by decide +kernel
theorem dX8_doors_32 : decode cX8_doors 32 = .ok (.bipush 16, 2) := by decide +kernel
theorem dX8_doors_34 : decode cX8_doors 34 = .ok (.if_icmp .ge 41, 3) := by decide +kernel
theorem dX8_doors_37 : decode cX8_doors 37 = .ok (.aload_n 0, 1) := by decide +kernel
theorem dX8_doors_38 : decode cX8_doors 38 = .ok (.getfield 35, 3) := by decide +kernel
theorem dX8_doors_41 : decode cX8_doors 41 = .ok (.iload_n 1, 1) := by decide +kernel
theorem dX8_doors_42 : decode cX8_doors 42 = .ok (.iload_n 3, 1) := by decide +kernel
theorem dX8_doors_43 : decode cX8_doors 43 = .ok (.invokevirtual 190, 3) := by decide +kernel
theorem dX8_doors_46 : decode cX8_doors 46 = .ok (.aload_n 0, 1) := by decide +kernel
theorem dX8_doors_47 : decode cX8_doors 47 = .ok (.getfield 35, 3) := by decide +kernel
theorem dX8_doors_50 : decode cX8_doors 50 = .ok (.aload_n 0, 1) := by decide +kernel
theorem dX8_doors_51 : decode cX8_doors 51 = .ok (.getfield 12, 3) := by decide +kernel
theorem dX8_doors_54 : decode cX8_doors 54 = .ok (.getfield 210, 3) := by decide +kernel
theorem dX8_doors_57 : decode cX8_doors 57 = .ok (.invokevirtual 213, 3) := by decide +kernel
theorem dX8_doors_60 : decode cX8_doors 60 = .ok (.ifCond .eq 9, 3) := by decide +kernel
theorem dX8_doors_63 : decode cX8_doors 63 = .ok (.iload_n 2, 1) := by decide +kernel
theorem dX8_doors_64 : decode cX8_doors 64 = .ok (.iconst 1, 1) := by decide +kernel
theorem dX8_doors_65 : decode cX8_doors 65 = .ok (.iload_n 3, 1) := by decide +kernel
theorem dX8_doors_66 : decode cX8_doors 66 = .ok (.ishl, 1) := by decide +kernel
theorem dX8_doors_67 : decode cX8_doors 67 = .ok (.ior, 1) := by decide +kernel
theorem dX8_doors_68 : decode cX8_doors 68 = .ok (.istore_n 2, 1) := by decide +kernel
theorem dX8_doors_69 : decode cX8_doors 69 = .ok (.iinc 3 1, 3) := by decide +kernel
theorem dX8_doors_72 : decode cX8_doors 72 = .ok (.goto (-41), 3) := by decide +kernel
theorem dX8_doors_75 : decode cX8_doors 75 = .ok (.iload_n 2, 1) := by decide +kernel
theorem dX8_doors_76 : decode cX8_doors 76 = .ok (.ireturn, 1) := by decide +kernel
theorem dX8_feed_0 : decode cX8_feed 0 = .ok (.iload_n 1, 1) := by decide +kernel
theorem dX8_feed_1 : decode cX8_feed 1 = .ok (.ifCond .lt 9, 3) := by decide +kernel
theorem dX8_feed_4 : decode cX8_feed 4 = .ok (.iload_n 1, 1) := by decide +kernel
theorem dX8_feed_5 : decode cX8_feed 5 = .ok (.bipush 127, 2) := by decide +kernel
theorem dX8_feed_7 : decode cX8_feed 7 = .ok (.if_icmp .le 6, 3) := by decide +kernel
theorem dX8_feed_10 : decode cX8_feed 10 = .ok (.bipush (-2), 2) := by decide +kernel
theorem dX8_feed_12 : decode cX8_feed 12 = .ok (.ireturn, 1) := by decide +kernel
theorem dX8_feed_13 : decode cX8_feed 13 = .ok (.aload_n 0, 1) := by decide +kernel
theorem dX8_feed_14 : decode cX8_feed 14 = .ok (.getfield 12, 3) := by decide +kernel
theorem dX8_feed_17 : decode cX8_feed 17 = .ok (.getfield 46, 3) := by decide +kernel
theorem dX8_feed_20 : decode cX8_feed 20 = .ok (.iload_n 1, 1) := by decide +kernel
theorem dX8_feed_21 : decode cX8_feed 21 = .ok (.iconst 0, 1) := by decide +kernel
theorem dX8_feed_22 : decode cX8_feed 22 = .ok (.invokevirtual 50, 3) := by decide +kernel
theorem dX8_feed_25 : decode cX8_feed 25 = .ok (.ireturn, 1) := by decide +kernel
theorem dX8_finds_0 : decode cX8_finds 0 = .ok (.aload_n 0, 1) := by decide +kernel
theorem dX8_finds_1 : decode cX8_finds 1 = .ok (.getfield 12, 3) := by decide +kernel
theorem dX8_finds_4 : decode cX8_finds 4 = .ok (.getfield 94, 3) := by decide +kernel
theorem dX8_finds_7 : decode cX8_finds 7 = .ok (.iload_n 1, 1) := by decide +kernel
theorem dX8_finds_8 : decode cX8_finds 8 = .ok (.invokevirtual 103, 3) := by decide +kernel
theorem dX8_finds_11 : decode cX8_finds 11 = .ok (.ifCond .ne 5, 3) := by decide +kernel
theorem dX8_finds_14 : decode cX8_finds 14 = .ok (.iconst (-1), 1) := by decide +kernel
theorem dX8_finds_15 : decode cX8_finds 15 = .ok (.ireturn, 1) := by decide +kernel
theorem dX8_finds_16 : decode cX8_finds 16 = .ok (.aload_n 0, 1) := by decide +kernel
theorem dX8_finds_17 : decode cX8_finds 17 = .ok (.getfield 35, 3) := by decide +kernel
theorem dX8_finds_20 : decode cX8_finds 20 = .ok (.aload_n 0, 1) := by decide +kernel
theorem dX8_finds_21 : decode cX8_finds 21 = .ok (.getfield 12, 3) := by decide +kernel
theorem dX8_finds_24 : decode cX8_finds 24 = .ok (.invokevirtual 120, 3) := by decide +kernel
theorem dX8_finds_27 : decode cX8_finds 27 = .ok (.aload_n 0, 1) := by decide +kernel
theorem dX8_finds_28 : decode cX8_finds 28 = .ok (.getfield 35, 3) := by decide +kernel
theorem dX8_finds_31 : decode cX8_finds 31 = .ok (.aload_n 0, 1) := by decide +kernel
theorem dX8_finds_32 : decode cX8_finds 32 = .ok (.getfield 12, 3) := by decide +kernel
theorem dX8_finds_35 : decode cX8_finds 35 = .ok (.getfield 94, 3) := by decide +kernel
theorem dX8_finds_38 : decode cX8_finds 38 = .ok (.getfield 114, 3) := by decide +kernel
theorem dX8_finds_41 : decode cX8_finds 41 = .ok (.iload_n 1, 1) := by decide +kernel
theorem dX8_finds_42 : decode cX8_finds 42 = .ok (.iaload, 1) := by decide +kernel
theorem dX8_finds_43 : decode cX8_finds 43 = .ok (.bipush 60, 2) := by decide +kernel
theorem dX8_finds_45 : decode cX8_finds 45 = .ok (.invokevirtual 178, 3) := by decide +kernel
theorem dX8_finds_48 : decode cX8_finds 48 = .ok (.ireturn, 1) := by decide +kernel
theorem dX8_firm_0 : decode cX8_firm 0 = .ok (.aload_n 0, 1) := by decide +kernel
theorem dX8_firm_1 : decode cX8_firm 1 = .ok (.getfield 12, 3) := by decide +kernel
theorem dX8_firm_4 : decode cX8_firm 4 = .ok (.getfield 94, 3) := by decide +kernel
theorem dX8_firm_7 : decode cX8_firm 7 = .ok (.iload_n 1, 1) := by decide +kernel
theorem dX8_firm_8 : decode cX8_firm 8 = .ok (.invokevirtual 103, 3) := by decide +kernel
theorem dX8_firm_11 : decode cX8_firm 11 = .ok (.ifCond .eq 10, 3) := by decide +kernel
theorem dX8_firm_14 : decode cX8_firm 14 = .ok (.iload_n 2, 1) := by decide +kernel
theorem dX8_firm_15 : decode cX8_firm 15 = .ok (.invokestatic 181, 3) := by decide +kernel
theorem dX8_firm_18 : decode cX8_firm 18 = .ok (.ifCond .ne 5, 3) := by decide +kernel
theorem dX8_firm_21 : decode cX8_firm 21 = .ok (.iconst (-1), 1) := by decide +kernel
theorem dX8_firm_22 : decode cX8_firm 22 = .ok (.ireturn, 1) := by decide +kernel
theorem dX8_firm_23 : decode cX8_firm 23 = .ok (.aload_n 0, 1) := by decide +kernel
theorem dX8_firm_24 : decode cX8_firm 24 = .ok (.getfield 35, 3) := by decide +kernel
theorem dX8_firm_27 : decode cX8_firm 27 = .ok (.aload_n 0, 1) := by decide +kernel
theorem dX8_firm_28 : decode cX8_firm 28 = .ok (.getfield 12, 3) := by decide +kernel
theorem dX8_firm_31 : decode cX8_firm 31 = .ok (.invokevirtual 120, 3) := by decide +kernel
theorem dX8_firm_34 : decode cX8_firm 34 = .ok (.bipush (-5), 2) := by decide +kernel
theorem dX8_firm_36 : decode cX8_firm 36 = .ok (.istore_n 3, 1) := by decide +kernel
theorem dX8_firm_37 : decode cX8_firm 37 = .ok (.iconst 0, 1) := by decide +kernel
theorem dX8_firm_38 : decode cX8_firm 38 = .ok (.istore 4, 2) := by decide +kernel
theorem dX8_firm_40 : decode cX8_firm 40 = .ok (.bipush 9, 2) := by decide +kernel
theorem dX8_firm_42 : decode cX8_firm 42 = .ok (.istore 5, 2) := by decide +kernel
theorem dX8_firm_44 : decode cX8_firm 44 = .ok (.iload 5, 2) := by decide +kernel
theorem dX8_firm_46 : decode cX8_firm 46 = .ok (.ifCond .lt 42, 3) := by decide +kernel
theorem dX8_firm_49 : decode cX8_firm 49 = .ok (.aload_n 0, 1) := by decide +kernel
theorem dX8_firm_50 : decode cX8_firm 50 = .ok (.getfield 35, 3) := by decide +kernel
theorem dX8_firm_53 : decode cX8_firm 53 = .ok (.iload_n 1, 1) := by decide +kernel
theorem dX8_firm_54 : decode cX8_firm 54 = .ok (.iload 5, 2) := by decide +kernel
theorem dX8_firm_56 : decode cX8_firm 56 = .ok (.invokevirtual 216, 3) := by decide +kernel
theorem dX8_firm_59 : decode cX8_firm 59 = .ok (.aload_n 0, 1) := by decide +kernel
theorem dX8_firm_60 : decode cX8_firm 60 = .ok (.getfield 35, 3) := by decide +kernel
theorem dX8_firm_63 : decode cX8_firm 63 = .ok (.aload_n 0, 1) := by decide +kernel
theorem dX8_firm_64 : decode cX8_firm 64 = .ok (.getfield 12, 3) := by decide +kernel
theorem dX8_firm_67 : decode cX8_firm 67 = .ok (.getfield 210, 3) := by decide +kernel
theorem dX8_firm_70 : decode cX8_firm 70 = .ok (.invokevirtual 213, 3) := by decide +kernel
theorem dX8_firm_73 : decode cX8_firm 73 = .ok (.ifCond .eq 9, 3) := by decide +kernel
theorem dX8_firm_76 : decode cX8_firm 76 = .ok (.iload 5, 2) := by decide +kernel
theorem dX8_firm_78 : decode cX8_firm 78 = .ok (.istore_n 3, 1) := by decide +kernel
theorem dX8_firm_79 : decode cX8_firm 79 = .ok (.iinc 4 1, 3) := by decide +kernel
theorem dX8_firm_82 : decode cX8_firm 82 = .ok (.iinc 5 (-1), 3) := by decide +kernel
theorem dX8_firm_85 : decode cX8_firm 85 = .ok (.goto (-41), 3) := by decide +kernel
theorem dX8_firm_88 : decode cX8_firm 88 = .ok (.iload_n 2, 1) := by decide +kernel
theorem dX8_firm_89 : decode cX8_firm 89 = .ok (.ifCond .ne 8, 3) := by decide +kernel
theorem dX8_firm_92 : decode cX8_firm 92 = .ok (.iload 4, 2) := by decide +kernel
theorem dX8_firm_94 : decode cX8_firm 94 = .ok (.goto 4, 3) := by decide +kernel
theorem dX8_firm_97 : decode cX8_firm 97 = .ok (.iload_n 3, 1) := by decide +kernel
theorem dX8_firm_98 : decode cX8_firm 98 = .ok (.ireturn, 1) := by decide +kernel
theorem dX8_image_0 : decode cX8_image 0 = .ok (.aload_n 0, 1) := by decide +kernel
theorem dX8_image_1 : decode cX8_image 1 = .ok (.getfield 18, 3) := by decide +kernel
theorem dX8_image_4 : decode cX8_image 4 = .ok (.aload_n 0, 1) := by decide +kernel
theorem dX8_image_5 : decode cX8_image 5 = .ok (.getfield 12, 3) := by decide +kernel
theorem dX8_image_8 : decode cX8_image 8 = .ok (.invokevirtual 256, 3) := by decide +kernel
theorem dX8_image_11 : decode cX8_image 11 = .ok (.aload_n 0, 1) := by decide +kernel
theorem dX8_image_12 : decode cX8_image 12 = .ok (.iconst 1, 1) := by decide +kernel
theorem dX8_image_13 : decode cX8_image 13 = .ok (.putfield 21, 3) := by decide +kernel
theorem dX8_image_16 : decode cX8_image 16 = .ok (.aload_n 0, 1) := by decide +kernel
theorem dX8_image_17 : decode cX8_image 17 = .ok (.getfield 12, 3) := by decide +kernel
theorem dX8_image_20 : decode cX8_image 20 = .ok (.getfield 94, 3) := by decide +kernel
theorem dX8_image_23 : decode cX8_image 23 = .ok (.getfield 187, 3) := by decide +kernel
theorem dX8_image_26 : decode cX8_image 26 = .ok (.ireturn, 1) := by decide +kernel
theorem dX8_kept_0 : decode cX8_kept 0 = .ok (.iload_n 1, 1) := by decide +kernel
theorem dX8_kept_1 : decode cX8_kept 1 = .ok (.invokestatic 88, 3) := by decide +kernel
theorem dX8_kept_4 : decode cX8_kept 4 = .ok (.ifCond .ne 5, 3) := by decide +kernel
theorem dX8_kept_7 : decode cX8_kept 7 = .ok (.iconst (-1), 1) := by decide +kernel
theorem dX8_kept_8 : decode cX8_kept 8 = .ok (.ireturn, 1) := by decide +kernel
theorem dX8_kept_9 : decode cX8_kept 9 = .ok (.aload_n 0, 1) := by decide +kernel
theorem dX8_kept_10 : decode cX8_kept 10 = .ok (.getfield 35, 3) := by decide +kernel
theorem dX8_kept_13 : decode cX8_kept 13 = .ok (.aload_n 0, 1) := by decide +kernel
theorem dX8_kept_14 : decode cX8_kept 14 = .ok (.getfield 12, 3) := by decide +kernel
theorem dX8_kept_17 : decode cX8_kept 17 = .ok (.invokevirtual 120, 3) := by decide +kernel
theorem dX8_kept_20 : decode cX8_kept 20 = .ok (.bipush (-5), 2) := by decide +kernel
theorem dX8_kept_22 : decode cX8_kept 22 = .ok (.istore_n 2, 1) := by decide +kernel
theorem dX8_kept_23 : decode cX8_kept 23 = .ok (.bipush 7, 2) := by decide +kernel
theorem dX8_kept_25 : decode cX8_kept 25 = .ok (.istore_n 3, 1) := by decide +kernel
theorem dX8_kept_26 : decode cX8_kept 26 = .ok (.iconst 0, 1) := by decide +kernel
theorem dX8_kept_27 : decode cX8_kept 27 = .ok (.istore 4, 2) := by decide +kernel
theorem dX8_kept_29 : decode cX8_kept 29 = .ok (.iload 4, 2) := by decide +kernel
theorem dX8_kept_31 : decode cX8_kept 31 = .ok (.iconst 1, 1) := by decide +kernel
theorem dX8_kept_32 : decode cX8_kept 32 = .ok (.aload_n 0, 1) := by decide +kernel
theorem dX8_kept_33 : decode cX8_kept 33 = .ok (.getfield 12, 3) := by decide +kernel
theorem dX8_kept_36 : decode cX8_kept 36 = .ok (.getfield 94, 3) := by decide +kernel
theorem dX8_kept_39 : decode cX8_kept 39 = .ok (.getfield 187, 3) := by decide +kernel
theorem dX8_kept_42 : decode cX8_kept 42 = .ok (.ishl, 1) := by decide +kernel
theorem dX8_kept_43 : decode cX8_kept 43 = .ok (.if_icmp .ge 81, 3) := by decide +kernel
theorem dX8_kept_46 : decode cX8_kept 46 = .ok (.iload 4, 2) := by decide +kernel
theorem dX8_kept_48 : decode cX8_kept 48 = .ok (.invokestatic 194, 3) := by decide +kernel
theorem dX8_kept_51 : decode cX8_kept 51 = .ok (.iload_n 3, 1) := by decide +kernel
theorem dX8_kept_52 : decode cX8_kept 52 = .ok (.if_icmp .lt 6, 3) := by decide +kernel
theorem dX8_kept_55 : decode cX8_kept 55 = .ok (.goto 63, 3) := by decide +kernel
theorem dX8_kept_58 : decode cX8_kept 58 = .ok (.aload_n 0, 1) := by decide +kernel
theorem dX8_kept_59 : decode cX8_kept 59 = .ok (.getfield 35, 3) := by decide +kernel
theorem dX8_kept_62 : decode cX8_kept 62 = .ok (.invokevirtual 184, 3) := by decide +kernel
theorem dX8_kept_65 : decode cX8_kept 65 = .ok (.aload_n 0, 1) := by decide +kernel
theorem dX8_kept_66 : decode cX8_kept 66 = .ok (.getfield 35, 3) := by decide +kernel
theorem dX8_kept_69 : decode cX8_kept 69 = .ok (.getfield 199, 3) := by decide +kernel
theorem dX8_kept_72 : decode cX8_kept 72 = .ok (.aload_n 0, 1) := by decide +kernel
theorem dX8_kept_73 : decode cX8_kept 73 = .ok (.getfield 12, 3) := by decide +kernel
theorem dX8_kept_76 : decode cX8_kept 76 = .ok (.getfield 94, 3) := by decide +kernel
theorem dX8_kept_79 : decode cX8_kept 79 = .ok (.getfield 200, 3) := by decide +kernel
theorem dX8_kept_82 : decode cX8_kept 82 = .ok (.iload 4, 2) := by decide +kernel
theorem dX8_kept_84 : decode cX8_kept 84 = .ok (.ior, 1) := by decide +kernel
theorem dX8_kept_85 : decode cX8_kept 85 = .ok (.putfield 200, 3) := by decide +kernel
theorem dX8_kept_88 : decode cX8_kept 88 = .ok (.aload_n 0, 1) := by decide +kernel
theorem dX8_kept_89 : decode cX8_kept 89 = .ok (.getfield 35, 3) := by decide +kernel
theorem dX8_kept_92 : decode cX8_kept 92 = .ok (.iconst 1, 1) := by decide +kernel
theorem dX8_kept_93 : decode cX8_kept 93 = .ok (.invokevirtual 175, 3) := by decide +kernel
theorem dX8_kept_96 : decode cX8_kept 96 = .ok (.aload_n 0, 1) := by decide +kernel
theorem dX8_kept_97 : decode cX8_kept 97 = .ok (.getfield 35, 3) := by decide +kernel
theorem dX8_kept_100 : decode cX8_kept 100 = .ok (.iload_n 1, 1) := by decide +kernel
theorem dX8_kept_101 : decode cX8_kept 101 = .ok (.bipush 29, 2) := by decide +kernel
theorem dX8_kept_103 : decode cX8_kept 103 = .ok (.invokevirtual 178, 3) := by decide +kernel
theorem dX8_kept_106 : decode cX8_kept 106 = .ok (.ifCond .ge 12, 3) := by decide +kernel
theorem dX8_kept_109 : decode cX8_kept 109 = .ok (.iload 4, 2) := by decide +kernel
theorem dX8_kept_111 : decode cX8_kept 111 = .ok (.istore_n 2, 1) := by decide +kernel
theorem dX8_kept_112 : decode cX8_kept 112 = .ok (.iload 4, 2) := by decide +kernel
theorem dX8_kept_114 : decode cX8_kept 114 = .ok (.invokestatic 194, 3) := by decide +kernel
theorem dX8_kept_117 : decode cX8_kept 117 = .ok (.istore_n 3, 1) := by decide +kernel
theorem dX8_kept_118 : decode cX8_kept 118 = .ok (.iinc 4 1, 3) := by decide +kernel
theorem dX8_kept_121 : decode cX8_kept 121 = .ok (.goto (-92), 3) := by decide +kernel
theorem dX8_kept_124 : decode cX8_kept 124 = .ok (.iload_n 2, 1) := by decide +kernel
theorem dX8_kept_125 : decode cX8_kept 125 = .ok (.ireturn, 1) := by decide +kernel
theorem dX8_lay_0 : decode cX8_lay 0 = .ok (.iload_n 1, 1) := by decide +kernel
theorem dX8_lay_1 : decode cX8_lay 1 = .ok (.invokestatic 88, 3) := by decide +kernel
theorem dX8_lay_4 : decode cX8_lay 4 = .ok (.ifCond .ne 5, 3) := by decide +kernel
theorem dX8_lay_7 : decode cX8_lay 7 = .ok (.iconst (-1), 1) := by decide +kernel
theorem dX8_lay_8 : decode cX8_lay 8 = .ok (.ireturn, 1) := by decide +kernel
theorem dX8_lay_9 : decode cX8_lay 9 = .ok (.aload_n 0, 1) := by decide +kernel
theorem dX8_lay_10 : decode cX8_lay 10 = .ok (.getfield 12, 3) := by decide +kernel
theorem dX8_lay_13 : decode cX8_lay 13 = .ok (.getfield 140, 3) := by decide +kernel
theorem dX8_lay_16 : decode cX8_lay 16 = .ok (.getfield 144, 3) := by decide +kernel
theorem dX8_lay_19 : decode cX8_lay 19 = .ok (.istore_n 2, 1) := by decide +kernel
theorem dX8_lay_20 : decode cX8_lay 20 = .ok (.aload_n 0, 1) := by decide +kernel
theorem dX8_lay_21 : decode cX8_lay 21 = .ok (.getfield 12, 3) := by decide +kernel
theorem dX8_lay_24 : decode cX8_lay 24 = .ok (.getfield 140, 3) := by decide +kernel
theorem dX8_lay_27 : decode cX8_lay 27 = .ok (.iload_n 1, 1) := by decide +kernel
theorem dX8_lay_28 : decode cX8_lay 28 = .ok (.putfield 144, 3) := by decide +kernel
theorem dX8_lay_31 : decode cX8_lay 31 = .ok (.iload_n 2, 1) := by decide +kernel
theorem dX8_lay_32 : decode cX8_lay 32 = .ok (.ireturn, 1) := by decide +kernel
theorem dX8_line_0 : decode cX8_line 0 = .ok (.aload_n 0, 1) := by decide +kernel
theorem dX8_line_1 : decode cX8_line 1 = .ok (.getfield 12, 3) := by decide +kernel
theorem dX8_line_4 : decode cX8_line 4 = .ok (.getfield 94, 3) := by decide +kernel
theorem dX8_line_7 : decode cX8_line 7 = .ok (.iload_n 1, 1) := by decide +kernel
theorem dX8_line_8 : decode cX8_line 8 = .ok (.invokevirtual 103, 3) := by decide +kernel
theorem dX8_line_11 : decode cX8_line 11 = .ok (.ifCond .eq 12, 3) := by decide +kernel
theorem dX8_line_14 : decode cX8_line 14 = .ok (.iload_n 2, 1) := by decide +kernel
theorem dX8_line_15 : decode cX8_line 15 = .ok (.ifCond .lt 8, 3) := by decide +kernel
theorem dX8_line_18 : decode cX8_line 18 = .ok (.iload_n 2, 1) := by decide +kernel
theorem dX8_line_19 : decode cX8_line 19 = .ok (.iconst 4, 1) := by decide +kernel
theorem dX8_line_20 : decode cX8_line 20 = .ok (.if_icmp .lt 5, 3) := by decide +kernel
theorem dX8_line_23 : decode cX8_line 23 = .ok (.iconst (-1), 1) := by decide +kernel
theorem dX8_line_24 : decode cX8_line 24 = .ok (.ireturn, 1) := by decide +kernel
theorem dX8_line_25 : decode cX8_line 25 = .ok (.iload_n 3, 1) := by decide +kernel
theorem dX8_line_26 : decode cX8_line 26 = .ok (.invokestatic 91, 3) := by decide +kernel
theorem dX8_line_29 : decode cX8_line 29 = .ok (.ifCond .ne 6, 3) := by decide +kernel
theorem dX8_line_32 : decode cX8_line 32 = .ok (.bipush (-2), 2) := by decide +kernel
theorem dX8_line_34 : decode cX8_line 34 = .ok (.ireturn, 1) := by decide +kernel
theorem dX8_line_35 : decode cX8_line 35 = .ok (.aload_n 0, 1) := by decide +kernel
theorem dX8_line_36 : decode cX8_line 36 = .ok (.getfield 12, 3) := by decide +kernel
theorem dX8_line_39 : decode cX8_line 39 = .ok (.getfield 94, 3) := by decide +kernel
theorem dX8_line_42 : decode cX8_line 42 = .ok (.getfield 107, 3) := by decide +kernel
theorem dX8_line_45 : decode cX8_line 45 = .ok (.iload_n 1, 1) := by decide +kernel
theorem dX8_line_46 : decode cX8_line 46 = .ok (.iaload, 1) := by decide +kernel
theorem dX8_line_47 : decode cX8_line 47 = .ok (.bipush 6, 2) := by decide +kernel
theorem dX8_line_49 : decode cX8_line 49 = .ok (.if_icmp .eq 6, 3) := by decide +kernel
theorem dX8_line_52 : decode cX8_line 52 = .ok (.bipush (-3), 2) := by decide +kernel
theorem dX8_line_54 : decode cX8_line 54 = .ok (.ireturn, 1) := by decide +kernel
theorem dX8_line_55 : decode cX8_line 55 = .ok (.aload_n 0, 1) := by decide +kernel
theorem dX8_line_56 : decode cX8_line 56 = .ok (.getfield 12, 3) := by decide +kernel
theorem dX8_line_59 : decode cX8_line 59 = .ok (.getfield 94, 3) := by decide +kernel
theorem dX8_line_62 : decode cX8_line 62 = .ok (.getfield 133, 3) := by decide +kernel
theorem dX8_line_65 : decode cX8_line 65 = .ok (.iload_n 1, 1) := by decide +kernel
theorem dX8_line_66 : decode cX8_line 66 = .ok (.iconst 4, 1) := by decide +kernel
theorem dX8_line_67 : decode cX8_line 67 = .ok (.imul, 1) := by decide +kernel
theorem dX8_line_68 : decode cX8_line 68 = .ok (.iload_n 2, 1) := by decide +kernel
theorem dX8_line_69 : decode cX8_line 69 = .ok (.iadd, 1) := by decide +kernel
theorem dX8_line_70 : decode cX8_line 70 = .ok (.iaload, 1) := by decide +kernel
theorem dX8_line_71 : decode cX8_line 71 = .ok (.istore 4, 2) := by decide +kernel
theorem dX8_line_73 : decode cX8_line 73 = .ok (.aload_n 0, 1) := by decide +kernel
theorem dX8_line_74 : decode cX8_line 74 = .ok (.getfield 12, 3) := by decide +kernel
theorem dX8_line_77 : decode cX8_line 77 = .ok (.getfield 94, 3) := by decide +kernel
theorem dX8_line_80 : decode cX8_line 80 = .ok (.getfield 133, 3) := by decide +kernel
theorem dX8_line_83 : decode cX8_line 83 = .ok (.iload_n 1, 1) := by decide +kernel
theorem dX8_line_84 : decode cX8_line 84 = .ok (.iconst 4, 1) := by decide +kernel
theorem dX8_line_85 : decode cX8_line 85 = .ok (.imul, 1) := by decide +kernel
theorem dX8_line_86 : decode cX8_line 86 = .ok (.iload_n 2, 1) := by decide +kernel
theorem dX8_line_87 : decode cX8_line 87 = .ok (.iadd, 1) := by decide +kernel
theorem dX8_line_88 : decode cX8_line 88 = .ok (.iload_n 3, 1) := by decide +kernel
theorem dX8_line_89 : decode cX8_line 89 = .ok (.iastore, 1) := by decide +kernel
theorem dX8_line_90 : decode cX8_line 90 = .ok (.iload 4, 2) := by decide +kernel
theorem dX8_line_92 : decode cX8_line 92 = .ok (.ireturn, 1) := by decide +kernel
theorem dX8_looked_0 : decode cX8_looked 0 = .ok (.iconst 0, 1) := by decide +kernel
theorem dX8_looked_1 : decode cX8_looked 1 = .ok (.istore_n 1, 1) := by decide +kernel
theorem dX8_looked_2 : decode cX8_looked 2 = .ok (.iload_n 1, 1) := by decide +kernel
theorem dX8_looked_3 : decode cX8_looked 3 = .ok (.aload_n 0, 1) := by decide +kernel
theorem dX8_looked_4 : decode cX8_looked 4 = .ok (.getfield 12, 3) := by decide +kernel
theorem dX8_looked_7 : decode cX8_looked 7 = .ok (.getfield 237, 3) := by decide +kernel
theorem dX8_looked_10 : decode cX8_looked 10 = .ok (.getfield 206, 3) := by decide +kernel
theorem dX8_looked_13 : decode cX8_looked 13 = .ok (.if_icmp .ge 49, 3) := by decide +kernel
theorem dX8_looked_16 : decode cX8_looked 16 = .ok (.aload_n 0, 1) := by decide +kernel
theorem dX8_looked_17 : decode cX8_looked 17 = .ok (.getfield 12, 3) := by decide +kernel
theorem dX8_looked_20 : decode cX8_looked 20 = .ok (.getfield 140, 3) := by decide +kernel
theorem dX8_looked_23 : decode cX8_looked 23 = .ok (.getfield 161, 3) := by decide +kernel
theorem dX8_looked_26 : decode cX8_looked 26 = .ok (.aload_n 0, 1) := by decide +kernel
theorem dX8_looked_27 : decode cX8_looked 27 = .ok (.getfield 12, 3) := by decide +kernel
theorem dX8_looked_30 : decode cX8_looked 30 = .ok (.getfield 237, 3) := by decide +kernel
theorem dX8_looked_33 : decode cX8_looked 33 = .ok (.getfield 207, 3) := by decide +kernel
theorem dX8_looked_36 : decode cX8_looked 36 = .ok (.iload_n 1, 1) := by decide +kernel
theorem dX8_looked_37 : decode cX8_looked 37 = .ok (.iaload, 1) := by decide +kernel
theorem dX8_looked_38 : decode cX8_looked 38 = .ok (.iaload, 1) := by decide +kernel
theorem dX8_looked_39 : decode cX8_looked 39 = .ok (.aload_n 0, 1) := by decide +kernel
theorem dX8_looked_40 : decode cX8_looked 40 = .ok (.getfield 12, 3) := by decide +kernel
theorem dX8_looked_43 : decode cX8_looked 43 = .ok (.getfield 237, 3) := by decide +kernel
theorem dX8_looked_46 : decode cX8_looked 46 = .ok (.getfield 231, 3) := by decide +kernel
theorem dX8_looked_49 : decode cX8_looked 49 = .ok (.iload_n 1, 1) := by decide +kernel
theorem dX8_looked_50 : decode cX8_looked 50 = .ok (.iaload, 1) := by decide +kernel
theorem dX8_looked_51 : decode cX8_looked 51 = .ok (.if_icmp .eq 5, 3) := by decide +kernel
theorem dX8_looked_54 : decode cX8_looked 54 = .ok (.iload_n 1, 1) := by decide +kernel
theorem dX8_looked_55 : decode cX8_looked 55 = .ok (.ireturn, 1) := by decide +kernel
theorem dX8_looked_56 : decode cX8_looked 56 = .ok (.iinc 1 1, 3) := by decide +kernel
theorem dX8_looked_59 : decode cX8_looked 59 = .ok (.goto (-57), 3) := by decide +kernel
theorem dX8_looked_62 : decode cX8_looked 62 = .ok (.bipush (-5), 2) := by decide +kernel
theorem dX8_looked_64 : decode cX8_looked 64 = .ok (.ireturn, 1) := by decide +kernel
theorem dX8_mean_0 : decode cX8_mean 0 = .ok (.iload_n 1, 1) := by decide +kernel
theorem dX8_mean_1 : decode cX8_mean 1 = .ok (.invokestatic 164, 3) := by decide +kernel
theorem dX8_mean_4 : decode cX8_mean 4 = .ok (.ifCond .eq 10, 3) := by decide +kernel
theorem dX8_mean_7 : decode cX8_mean 7 = .ok (.iload_n 2, 1) := by decide +kernel
theorem dX8_mean_8 : decode cX8_mean 8 = .ok (.invokestatic 181, 3) := by decide +kernel
theorem dX8_mean_11 : decode cX8_mean 11 = .ok (.ifCond .ne 7, 3) := by decide +kernel
theorem dX8_mean_14 : decode cX8_mean 14 = .ok (.ldc2_w 219, 3) := by decide +kernel
theorem dX8_mean_17 : decode cX8_mean 17 = .ok (.lreturn, 1) := by decide +kernel
theorem dX8_mean_18 : decode cX8_mean 18 = .ok (.aload_n 0, 1) := by decide +kernel
theorem dX8_mean_19 : decode cX8_mean 19 = .ok (.getfield 35, 3) := by decide +kernel
theorem dX8_mean_22 : decode cX8_mean 22 = .ok (.aload_n 0, 1) := by decide +kernel
theorem dX8_mean_23 : decode cX8_mean 23 = .ok (.getfield 12, 3) := by decide +kernel
theorem dX8_mean_26 : decode cX8_mean 26 = .ok (.invokevirtual 120, 3) := by decide +kernel
theorem dX8_mean_29 : decode cX8_mean 29 = .ok (.aload_n 0, 1) := by decide +kernel
theorem dX8_mean_30 : decode cX8_mean 30 = .ok (.getfield 35, 3) := by decide +kernel
theorem dX8_mean_33 : decode cX8_mean 33 = .ok (.iload_n 1, 1) := by decide +kernel
theorem dX8_mean_34 : decode cX8_mean 34 = .ok (.invokevirtual 175, 3) := by decide +kernel
theorem dX8_mean_37 : decode cX8_mean 37 = .ok (.iconst 0, 1) := by decide +kernel
theorem dX8_mean_38 : decode cX8_mean 38 = .ok (.istore_n 3, 1) := by decide +kernel
theorem dX8_mean_39 : decode cX8_mean 39 = .ok (.iconst 0, 1) := by decide +kernel
theorem dX8_mean_40 : decode cX8_mean 40 = .ok (.istore 4, 2) := by decide +kernel
theorem dX8_mean_42 : decode cX8_mean 42 = .ok (.iconst 0, 1) := by decide +kernel
theorem dX8_mean_43 : decode cX8_mean 43 = .ok (.istore 5, 2) := by decide +kernel
theorem dX8_mean_45 : decode cX8_mean 45 = .ok (.iload 5, 2) := by decide +kernel
theorem dX8_mean_47 : decode cX8_mean 47 = .ok (.aload_n 0, 1) := by decide +kernel
theorem dX8_mean_48 : decode cX8_mean 48 = .ok (.getfield 12, 3) := by decide +kernel
theorem dX8_mean_51 : decode cX8_mean 51 = .ok (.getfield 94, 3) := by decide +kernel
theorem dX8_mean_54 : decode cX8_mean 54 = .ok (.getfield 187, 3) := by decide +kernel
theorem dX8_mean_57 : decode cX8_mean 57 = .ok (.if_icmp .ge 56, 3) := by decide +kernel
theorem dX8_mean_60 : decode cX8_mean 60 = .ok (.aload_n 0, 1) := by decide +kernel
theorem dX8_mean_61 : decode cX8_mean 61 = .ok (.getfield 12, 3) := by decide +kernel
theorem dX8_mean_64 : decode cX8_mean 64 = .ok (.getfield 94, 3) := by decide +kernel
theorem dX8_mean_67 : decode cX8_mean 67 = .ok (.iload 5, 2) := by decide +kernel
theorem dX8_mean_69 : decode cX8_mean 69 = .ok (.invokevirtual 117, 3) := by decide +kernel
theorem dX8_mean_72 : decode cX8_mean 72 = .ok (.ifCond .ne 35, 3) := by decide +kernel
theorem dX8_mean_75 : decode cX8_mean 75 = .ok (.iload_n 3, 1) := by decide +kernel
theorem dX8_mean_76 : decode cX8_mean 76 = .ok (.aload_n 0, 1) := by decide +kernel
theorem dX8_mean_77 : decode cX8_mean 77 = .ok (.getfield 35, 3) := by decide +kernel
theorem dX8_mean_80 : decode cX8_mean 80 = .ok (.getfield 171, 3) := by decide +kernel
theorem dX8_mean_83 : decode cX8_mean 83 = .ok (.getfield 144, 3) := by decide +kernel
theorem dX8_mean_86 : decode cX8_mean 86 = .ok (.aload_n 0, 1) := by decide +kernel
theorem dX8_mean_87 : decode cX8_mean 87 = .ok (.getfield 12, 3) := by decide +kernel
theorem dX8_mean_90 : decode cX8_mean 90 = .ok (.getfield 94, 3) := by decide +kernel
theorem dX8_mean_93 : decode cX8_mean 93 = .ok (.getfield 114, 3) := by decide +kernel
theorem dX8_mean_96 : decode cX8_mean 96 = .ok (.iload 5, 2) := by decide +kernel
theorem dX8_mean_98 : decode cX8_mean 98 = .ok (.iaload, 1) := by decide +kernel
theorem dX8_mean_99 : decode cX8_mean 99 = .ok (.invokestatic 225, 3) := by decide +kernel
theorem dX8_mean_102 : decode cX8_mean 102 = .ok (.iadd, 1) := by decide +kernel
theorem dX8_mean_103 : decode cX8_mean 103 = .ok (.istore_n 3, 1) := by decide +kernel
theorem dX8_mean_104 : decode cX8_mean 104 = .ok (.iinc 4 1, 3) := by decide +kernel
theorem dX8_mean_107 : decode cX8_mean 107 = .ok (.iinc 5 1, 3) := by decide +kernel
theorem dX8_mean_110 : decode cX8_mean 110 = .ok (.goto (-65), 3) := by decide +kernel
theorem dX8_mean_113 : decode cX8_mean 113 = .ok (.iload 4, 2) := by decide +kernel
theorem dX8_mean_115 : decode cX8_mean 115 = .ok (.ifCond .ne 9, 3) := by decide +kernel
theorem dX8_mean_118 : decode cX8_mean 118 = .ok (.ldc2_w 219, 3) := by decide +kernel
theorem dX8_mean_121 : decode cX8_mean 121 = .ok (.goto 10, 3) := by decide +kernel
theorem dX8_mean_124 : decode cX8_mean 124 = .ok (.iload_n 3, 1) := by decide +kernel
theorem dX8_mean_125 : decode cX8_mean 125 = .ok (.iload 4, 2) := by decide +kernel
theorem dX8_mean_127 : decode cX8_mean 127 = .ok (.iload_n 2, 1) := by decide +kernel
theorem dX8_mean_128 : decode cX8_mean 128 = .ok (.invokestatic 221, 3) := by decide +kernel
theorem dX8_mean_131 : decode cX8_mean 131 = .ok (.lreturn, 1) := by decide +kernel
theorem dX8_met_0 : decode cX8_met 0 = .ok (.iload_n 1, 1) := by decide +kernel
theorem dX8_met_1 : decode cX8_met 1 = .ok (.invokestatic 181, 3) := by decide +kernel
theorem dX8_met_4 : decode cX8_met 4 = .ok (.ifCond .ne 5, 3) := by decide +kernel
theorem dX8_met_7 : decode cX8_met 7 = .ok (.iconst (-1), 1) := by decide +kernel
theorem dX8_met_8 : decode cX8_met 8 = .ok (.ireturn, 1) := by decide +kernel
theorem dX8_met_9 : decode cX8_met 9 = .ok (.aload_n 0, 1) := by decide +kernel
theorem dX8_met_10 : decode cX8_met 10 = .ok (.getfield 35, 3) := by decide +kernel
theorem dX8_met_13 : decode cX8_met 13 = .ok (.aload_n 0, 1) := by decide +kernel
theorem dX8_met_14 : decode cX8_met 14 = .ok (.getfield 12, 3) := by decide +kernel
theorem dX8_met_17 : decode cX8_met 17 = .ok (.invokevirtual 120, 3) := by decide +kernel
theorem dX8_met_20 : decode cX8_met 20 = .ok (.iconst 0, 1) := by decide +kernel
theorem dX8_met_21 : decode cX8_met 21 = .ok (.istore_n 2, 1) := by decide +kernel
theorem dX8_met_22 : decode cX8_met 22 = .ok (.iload_n 2, 1) := by decide +kernel
theorem dX8_met_23 : decode cX8_met 23 = .ok (.aload_n 0, 1) := by decide +kernel
theorem dX8_met_24 : decode cX8_met 24 = .ok (.getfield 12, 3) := by decide +kernel
theorem dX8_met_27 : decode cX8_met 27 = .ok (.getfield 203, 3) := by decide +kernel
theorem dX8_met_30 : decode cX8_met 30 = .ok (.getfield 206, 3) := by decide +kernel
theorem dX8_met_33 : decode cX8_met 33 = .ok (.iload_n 1, 1) := by decide +kernel
theorem dX8_met_34 : decode cX8_met 34 = .ok (.iadd, 1) := by decide +kernel
theorem dX8_met_35 : decode cX8_met 35 = .ok (.if_icmp .ge 51, 3) := by decide +kernel
theorem dX8_met_38 : decode cX8_met 38 = .ok (.iload_n 2, 1) := by decide +kernel
theorem dX8_met_39 : decode cX8_met 39 = .ok (.iload_n 1, 1) := by decide +kernel
theorem dX8_met_40 : decode cX8_met 40 = .ok (.if_icmp .lt 32, 3) := by decide +kernel
theorem dX8_met_43 : decode cX8_met 43 = .ok (.aload_n 0, 1) := by decide +kernel
theorem dX8_met_44 : decode cX8_met 44 = .ok (.getfield 12, 3) := by decide +kernel
theorem dX8_met_47 : decode cX8_met 47 = .ok (.getfield 203, 3) := by decide +kernel
theorem dX8_met_50 : decode cX8_met 50 = .ok (.getfield 207, 3) := by decide +kernel
theorem dX8_met_53 : decode cX8_met 53 = .ok (.iload_n 2, 1) := by decide +kernel
theorem dX8_met_54 : decode cX8_met 54 = .ok (.iload_n 1, 1) := by decide +kernel
theorem dX8_met_55 : decode cX8_met 55 = .ok (.isub, 1) := by decide +kernel
theorem dX8_met_56 : decode cX8_met 56 = .ok (.iaload, 1) := by decide +kernel
theorem dX8_met_57 : decode cX8_met 57 = .ok (.aload_n 0, 1) := by decide +kernel
theorem dX8_met_58 : decode cX8_met 58 = .ok (.getfield 35, 3) := by decide +kernel
theorem dX8_met_61 : decode cX8_met 61 = .ok (.getfield 171, 3) := by decide +kernel
theorem dX8_met_64 : decode cX8_met 64 = .ok (.getfield 144, 3) := by decide +kernel
theorem dX8_met_67 : decode cX8_met 67 = .ok (.if_icmp .ne 5, 3) := by decide +kernel
theorem dX8_met_70 : decode cX8_met 70 = .ok (.iload_n 2, 1) := by decide +kernel
theorem dX8_met_71 : decode cX8_met 71 = .ok (.ireturn, 1) := by decide +kernel
theorem dX8_met_72 : decode cX8_met 72 = .ok (.aload_n 0, 1) := by decide +kernel
theorem dX8_met_73 : decode cX8_met 73 = .ok (.getfield 35, 3) := by decide +kernel
theorem dX8_met_76 : decode cX8_met 76 = .ok (.iconst 1, 1) := by decide +kernel
theorem dX8_met_77 : decode cX8_met 77 = .ok (.invokevirtual 175, 3) := by decide +kernel
theorem dX8_met_80 : decode cX8_met 80 = .ok (.iinc 2 1, 3) := by decide +kernel
theorem dX8_met_83 : decode cX8_met 83 = .ok (.goto (-61), 3) := by decide +kernel
theorem dX8_met_86 : decode cX8_met 86 = .ok (.bipush (-5), 2) := by decide +kernel
theorem dX8_met_88 : decode cX8_met 88 = .ok (.ireturn, 1) := by decide +kernel
theorem dX8_move_0 : decode cX8_move 0 = .ok (.aload_n 0, 1) := by decide +kernel
theorem dX8_move_1 : decode cX8_move 1 = .ok (.getfield 12, 3) := by decide +kernel
theorem dX8_move_4 : decode cX8_move 4 = .ok (.getfield 94, 3) := by decide +kernel
theorem dX8_move_7 : decode cX8_move 7 = .ok (.iload_n 1, 1) := by decide +kernel
theorem dX8_move_8 : decode cX8_move 8 = .ok (.invokevirtual 103, 3) := by decide +kernel
theorem dX8_move_11 : decode cX8_move 11 = .ok (.ifCond .eq 10, 3) := by decide +kernel
theorem dX8_move_14 : decode cX8_move 14 = .ok (.iload_n 2, 1) := by decide +kernel
theorem dX8_move_15 : decode cX8_move 15 = .ok (.invokestatic 88, 3) := by decide +kernel
theorem dX8_move_18 : decode cX8_move 18 = .ok (.ifCond .ne 5, 3) := by decide +kernel
theorem dX8_move_21 : decode cX8_move 21 = .ok (.iconst (-1), 1) := by decide +kernel
theorem dX8_move_22 : decode cX8_move 22 = .ok (.ireturn, 1) := by decide +kernel
theorem dX8_move_23 : decode cX8_move 23 = .ok (.aload_n 0, 1) := by decide +kernel
theorem dX8_move_24 : decode cX8_move 24 = .ok (.getfield 12, 3) := by decide +kernel
theorem dX8_move_27 : decode cX8_move 27 = .ok (.getfield 94, 3) := by decide +kernel
theorem dX8_move_30 : decode cX8_move 30 = .ok (.getfield 114, 3) := by decide +kernel
theorem dX8_move_33 : decode cX8_move 33 = .ok (.iload_n 1, 1) := by decide +kernel
theorem dX8_move_34 : decode cX8_move 34 = .ok (.iaload, 1) := by decide +kernel
theorem dX8_move_35 : decode cX8_move 35 = .ok (.istore_n 3, 1) := by decide +kernel
theorem dX8_move_36 : decode cX8_move 36 = .ok (.aload_n 0, 1) := by decide +kernel
theorem dX8_move_37 : decode cX8_move 37 = .ok (.getfield 12, 3) := by decide +kernel
theorem dX8_move_40 : decode cX8_move 40 = .ok (.getfield 94, 3) := by decide +kernel
theorem dX8_move_43 : decode cX8_move 43 = .ok (.getfield 114, 3) := by decide +kernel
theorem dX8_move_46 : decode cX8_move 46 = .ok (.iload_n 1, 1) := by decide +kernel
theorem dX8_move_47 : decode cX8_move 47 = .ok (.iload_n 2, 1) := by decide +kernel
theorem dX8_move_48 : decode cX8_move 48 = .ok (.iastore, 1) := by decide +kernel
theorem dX8_move_49 : decode cX8_move 49 = .ok (.iload_n 3, 1) := by decide +kernel
theorem dX8_move_50 : decode cX8_move 50 = .ok (.ireturn, 1) := by decide +kernel
theorem dX8_odds_0 : decode cX8_odds 0 = .ok (.iload_n 1, 1) := by decide +kernel
theorem dX8_odds_1 : decode cX8_odds 1 = .ok (.invokestatic 88, 3) := by decide +kernel
theorem dX8_odds_4 : decode cX8_odds 4 = .ok (.ifCond .eq 30, 3) := by decide +kernel
theorem dX8_odds_7 : decode cX8_odds 7 = .ok (.iload_n 2, 1) := by decide +kernel
theorem dX8_odds_8 : decode cX8_odds 8 = .ok (.invokestatic 164, 3) := by decide +kernel
theorem dX8_odds_11 : decode cX8_odds 11 = .ok (.ifCond .eq 23, 3) := by decide +kernel
theorem dX8_odds_14 : decode cX8_odds 14 = .ok (.iload_n 3, 1) := by decide +kernel
theorem dX8_odds_15 : decode cX8_odds 15 = .ok (.invokestatic 181, 3) := by decide +kernel
theorem dX8_odds_18 : decode cX8_odds 18 = .ok (.ifCond .eq 16, 3) := by decide +kernel
theorem dX8_odds_21 : decode cX8_odds 21 = .ok (.aload_n 0, 1) := by decide +kernel
theorem dX8_odds_22 : decode cX8_odds 22 = .ok (.getfield 12, 3) := by decide +kernel
theorem dX8_odds_25 : decode cX8_odds 25 = .ok (.getfield 94, 3) := by decide +kernel
theorem dX8_odds_28 : decode cX8_odds 28 = .ok (.getfield 187, 3) := by decide +kernel
theorem dX8_odds_31 : decode cX8_odds 31 = .ok (.ifCond .ne 7, 3) := by decide +kernel
theorem dX8_odds_34 : decode cX8_odds 34 = .ok (.ldc2_w 219, 3) := by decide +kernel
theorem dX8_odds_37 : decode cX8_odds 37 = .ok (.lreturn, 1) := by decide +kernel
theorem dX8_odds_38 : decode cX8_odds 38 = .ok (.aload_n 0, 1) := by decide +kernel
theorem dX8_odds_39 : decode cX8_odds 39 = .ok (.getfield 35, 3) := by decide +kernel
theorem dX8_odds_42 : decode cX8_odds 42 = .ok (.aload_n 0, 1) := by decide +kernel
theorem dX8_odds_43 : decode cX8_odds 43 = .ok (.getfield 12, 3) := by decide +kernel
theorem dX8_odds_46 : decode cX8_odds 46 = .ok (.invokevirtual 120, 3) := by decide +kernel
theorem dX8_odds_49 : decode cX8_odds 49 = .ok (.iconst 0, 1) := by decide +kernel
theorem dX8_odds_50 : decode cX8_odds 50 = .ok (.istore 4, 2) := by decide +kernel
theorem dX8_odds_52 : decode cX8_odds 52 = .ok (.iconst 0, 1) := by decide +kernel
theorem dX8_odds_53 : decode cX8_odds 53 = .ok (.istore 5, 2) := by decide +kernel
theorem dX8_odds_55 : decode cX8_odds 55 = .ok (.iload 5, 2) := by decide +kernel
theorem dX8_odds_57 : decode cX8_odds 57 = .ok (.aload_n 0, 1) := by decide +kernel
theorem dX8_odds_58 : decode cX8_odds 58 = .ok (.getfield 12, 3) := by decide +kernel
theorem dX8_odds_61 : decode cX8_odds 61 = .ok (.getfield 94, 3) := by decide +kernel
theorem dX8_odds_64 : decode cX8_odds 64 = .ok (.getfield 187, 3) := by decide +kernel
theorem dX8_odds_67 : decode cX8_odds 67 = .ok (.if_icmp .ge 66, 3) := by decide +kernel
theorem dX8_odds_70 : decode cX8_odds 70 = .ok (.aload_n 0, 1) := by decide +kernel
theorem dX8_odds_71 : decode cX8_odds 71 = .ok (.getfield 35, 3) := by decide +kernel
theorem dX8_odds_74 : decode cX8_odds 74 = .ok (.invokevirtual 184, 3) := by decide +kernel
theorem dX8_odds_77 : decode cX8_odds 77 = .ok (.aload_n 0, 1) := by decide +kernel
theorem dX8_odds_78 : decode cX8_odds 78 = .ok (.getfield 35, 3) := by decide +kernel
theorem dX8_odds_81 : decode cX8_odds 81 = .ok (.getfield 199, 3) := by decide +kernel
theorem dX8_odds_84 : decode cX8_odds 84 = .ok (.aload_n 0, 1) := by decide +kernel
theorem dX8_odds_85 : decode cX8_odds 85 = .ok (.getfield 12, 3) := by decide +kernel
theorem dX8_odds_88 : decode cX8_odds 88 = .ok (.getfield 94, 3) := by decide +kernel
theorem dX8_odds_91 : decode cX8_odds 91 = .ok (.getfield 200, 3) := by decide +kernel
theorem dX8_odds_94 : decode cX8_odds 94 = .ok (.iconst 1, 1) := by decide +kernel
theorem dX8_odds_95 : decode cX8_odds 95 = .ok (.iload 5, 2) := by decide +kernel
theorem dX8_odds_97 : decode cX8_odds 97 = .ok (.ishl, 1) := by decide +kernel
theorem dX8_odds_98 : decode cX8_odds 98 = .ok (.ior, 1) := by decide +kernel
theorem dX8_odds_99 : decode cX8_odds 99 = .ok (.putfield 200, 3) := by decide +kernel
theorem dX8_odds_102 : decode cX8_odds 102 = .ok (.aload_n 0, 1) := by decide +kernel
theorem dX8_odds_103 : decode cX8_odds 103 = .ok (.getfield 35, 3) := by decide +kernel
theorem dX8_odds_106 : decode cX8_odds 106 = .ok (.iload_n 2, 1) := by decide +kernel
theorem dX8_odds_107 : decode cX8_odds 107 = .ok (.invokevirtual 175, 3) := by decide +kernel
theorem dX8_odds_110 : decode cX8_odds 110 = .ok (.aload_n 0, 1) := by decide +kernel
theorem dX8_odds_111 : decode cX8_odds 111 = .ok (.getfield 35, 3) := by decide +kernel
theorem dX8_odds_114 : decode cX8_odds 114 = .ok (.getfield 171, 3) := by decide +kernel
theorem dX8_odds_117 : decode cX8_odds 117 = .ok (.getfield 144, 3) := by decide +kernel
theorem dX8_odds_120 : decode cX8_odds 120 = .ok (.iload_n 1, 1) := by decide +kernel
theorem dX8_odds_121 : decode cX8_odds 121 = .ok (.if_icmp .ne 6, 3) := by decide +kernel
theorem dX8_odds_124 : decode cX8_odds 124 = .ok (.iinc 4 1, 3) := by decide +kernel
theorem dX8_odds_127 : decode cX8_odds 127 = .ok (.iinc 5 1, 3) := by decide +kernel
theorem dX8_odds_130 : decode cX8_odds 130 = .ok (.goto (-75), 3) := by decide +kernel
theorem dX8_odds_133 : decode cX8_odds 133 = .ok (.iload 4, 2) := by decide +kernel
theorem dX8_odds_135 : decode cX8_odds 135 = .ok (.aload_n 0, 1) := by decide +kernel
theorem dX8_odds_136 : decode cX8_odds 136 = .ok (.getfield 12, 3) := by decide +kernel
theorem dX8_odds_139 : decode cX8_odds 139 = .ok (.getfield 94, 3) := by decide +kernel
theorem dX8_odds_142 : decode cX8_odds 142 = .ok (.getfield 187, 3) := by decide +kernel
theorem dX8_odds_145 : decode cX8_odds 145 = .ok (.iload_n 3, 1) := by decide +kernel
theorem dX8_odds_146 : decode cX8_odds 146 = .ok (.invokestatic 221, 3) := by decide +kernel
theorem dX8_odds_149 : decode cX8_odds 149 = .ok (.lreturn, 1) := by decide +kernel
theorem dX8_of_0 : decode cX8_of 0 = .ok (.aload_n 0, 1) := by decide +kernel
theorem dX8_of_1 : decode cX8_of 1 = .ok (.getfield 12, 3) := by decide +kernel
theorem dX8_of_4 : decode cX8_of 4 = .ok (.getfield 94, 3) := by decide +kernel
theorem dX8_of_7 : decode cX8_of 7 = .ok (.iload_n 1, 1) := by decide +kernel
theorem dX8_of_8 : decode cX8_of 8 = .ok (.invokevirtual 103, 3) := by decide +kernel
theorem dX8_of_11 : decode cX8_of 11 = .ok (.ifCond .ne 6, 3) := by decide +kernel
theorem dX8_of_14 : decode cX8_of 14 = .ok (.ldc 106, 2) := by decide +kernel
theorem dX8_of_16 : decode cX8_of 16 = .ok (.ireturn, 1) := by decide +kernel
theorem dX8_of_17 : decode cX8_of 17 = .ok (.iload_n 2, 1) := by decide +kernel
theorem dX8_of_18 : decode cX8_of 18 = .ok (.tableswitch 89 0 3 #[30, 43, 56, 69], 30) := by decide +kernel
theorem dX8_of_48 : decode cX8_of 48 = .ok (.aload_n 0, 1) := by decide +kernel
theorem dX8_of_49 : decode cX8_of 49 = .ok (.getfield 12, 3) := by decide +kernel
theorem dX8_of_52 : decode cX8_of 52 = .ok (.getfield 94, 3) := by decide +kernel
theorem dX8_of_55 : decode cX8_of 55 = .ok (.getfield 107, 3) := by decide +kernel
theorem dX8_of_58 : decode cX8_of 58 = .ok (.iload_n 1, 1) := by decide +kernel
theorem dX8_of_59 : decode cX8_of 59 = .ok (.iaload, 1) := by decide +kernel
theorem dX8_of_60 : decode cX8_of 60 = .ok (.ireturn, 1) := by decide +kernel
theorem dX8_of_61 : decode cX8_of 61 = .ok (.aload_n 0, 1) := by decide +kernel
theorem dX8_of_62 : decode cX8_of 62 = .ok (.getfield 12, 3) := by decide +kernel
theorem dX8_of_65 : decode cX8_of 65 = .ok (.getfield 94, 3) := by decide +kernel
theorem dX8_of_68 : decode cX8_of 68 = .ok (.getfield 111, 3) := by decide +kernel
theorem dX8_of_71 : decode cX8_of 71 = .ok (.iload_n 1, 1) := by decide +kernel
theorem dX8_of_72 : decode cX8_of 72 = .ok (.iaload, 1) := by decide +kernel
theorem dX8_of_73 : decode cX8_of 73 = .ok (.ireturn, 1) := by decide +kernel
theorem dX8_of_74 : decode cX8_of 74 = .ok (.aload_n 0, 1) := by decide +kernel
theorem dX8_of_75 : decode cX8_of 75 = .ok (.getfield 12, 3) := by decide +kernel
theorem dX8_of_78 : decode cX8_of 78 = .ok (.getfield 94, 3) := by decide +kernel
theorem dX8_of_81 : decode cX8_of 81 = .ok (.getfield 114, 3) := by decide +kernel
theorem dX8_of_84 : decode cX8_of 84 = .ok (.iload_n 1, 1) := by decide +kernel
theorem dX8_of_85 : decode cX8_of 85 = .ok (.iaload, 1) := by decide +kernel
theorem dX8_of_86 : decode cX8_of 86 = .ok (.ireturn, 1) := by decide +kernel
theorem dX8_of_87 : decode cX8_of 87 = .ok (.aload_n 0, 1) := by decide +kernel
theorem dX8_of_88 : decode cX8_of 88 = .ok (.getfield 12, 3) := by decide +kernel
theorem dX8_of_91 : decode cX8_of 91 = .ok (.getfield 94, 3) := by decide +kernel
theorem dX8_of_94 : decode cX8_of 94 = .ok (.iload_n 1, 1) := by decide +kernel
theorem dX8_of_95 : decode cX8_of 95 = .ok (.invokevirtual 117, 3) := by decide +kernel
theorem dX8_of_98 : decode cX8_of 98 = .ok (.ifCond .eq 7, 3) := by decide +kernel
theorem dX8_of_101 : decode cX8_of 101 = .ok (.iconst 1, 1) := by decide +kernel
theorem dX8_of_102 : decode cX8_of 102 = .ok (.goto 4, 3) := by decide +kernel
theorem dX8_of_105 : decode cX8_of 105 = .ok (.iconst 0, 1) := by decide +kernel
theorem dX8_of_106 : decode cX8_of 106 = .ok (.ireturn, 1) := by decide +kernel
theorem dX8_of_107 : decode cX8_of 107 = .ok (.iload_n 2, 1) := by decide +kernel
theorem dX8_of_108 : decode cX8_of 108 = .ok (.bipush 10, 2) := by decide +kernel
theorem dX8_of_110 : decode cX8_of 110 = .ok (.isub, 1) := by decide +kernel
theorem dX8_of_111 : decode cX8_of 111 = .ok (.invokestatic 88, 3) := by decide +kernel
theorem dX8_of_114 : decode cX8_of 114 = .ok (.ifCond .eq 27, 3) := by decide +kernel
theorem dX8_of_117 : decode cX8_of 117 = .ok (.aload_n 0, 1) := by decide +kernel
theorem dX8_of_118 : decode cX8_of 118 = .ok (.getfield 35, 3) := by decide +kernel
theorem dX8_of_121 : decode cX8_of 121 = .ok (.aload_n 0, 1) := by decide +kernel
theorem dX8_of_122 : decode cX8_of 122 = .ok (.getfield 12, 3) := by decide +kernel
theorem dX8_of_125 : decode cX8_of 125 = .ok (.invokevirtual 120, 3) := by decide +kernel
theorem dX8_of_128 : decode cX8_of 128 = .ok (.aload_n 0, 1) := by decide +kernel
theorem dX8_of_129 : decode cX8_of 129 = .ok (.getfield 35, 3) := by decide +kernel
theorem dX8_of_132 : decode cX8_of 132 = .ok (.iload_n 1, 1) := by decide +kernel
theorem dX8_of_133 : decode cX8_of 133 = .ok (.iload_n 2, 1) := by decide +kernel
theorem dX8_of_134 : decode cX8_of 134 = .ok (.bipush 10, 2) := by decide +kernel
theorem dX8_of_136 : decode cX8_of 136 = .ok (.isub, 1) := by decide +kernel
theorem dX8_of_137 : decode cX8_of 137 = .ok (.invokevirtual 124, 3) := by decide +kernel
theorem dX8_of_140 : decode cX8_of 140 = .ok (.ireturn, 1) := by decide +kernel
theorem dX8_of_141 : decode cX8_of 141 = .ok (.iload_n 2, 1) := by decide +kernel
theorem dX8_of_142 : decode cX8_of 142 = .ok (.bipush 30, 2) := by decide +kernel
theorem dX8_of_144 : decode cX8_of 144 = .ok (.isub, 1) := by decide +kernel
theorem dX8_of_145 : decode cX8_of 145 = .ok (.invokestatic 88, 3) := by decide +kernel
theorem dX8_of_148 : decode cX8_of 148 = .ok (.ifCond .eq 34, 3) := by decide +kernel
theorem dX8_of_151 : decode cX8_of 151 = .ok (.aload_n 0, 1) := by decide +kernel
theorem dX8_of_152 : decode cX8_of 152 = .ok (.getfield 35, 3) := by decide +kernel
theorem dX8_of_155 : decode cX8_of 155 = .ok (.aload_n 0, 1) := by decide +kernel
theorem dX8_of_156 : decode cX8_of 156 = .ok (.getfield 12, 3) := by decide +kernel
theorem dX8_of_159 : decode cX8_of 159 = .ok (.invokevirtual 120, 3) := by decide +kernel
theorem dX8_of_162 : decode cX8_of 162 = .ok (.aload_n 0, 1) := by decide +kernel
theorem dX8_of_163 : decode cX8_of 163 = .ok (.getfield 35, 3) := by decide +kernel
theorem dX8_of_166 : decode cX8_of 166 = .ok (.invokevirtual 127, 3) := by decide +kernel
theorem dX8_of_169 : decode cX8_of 169 = .ok (.aload_n 0, 1) := by decide +kernel
theorem dX8_of_170 : decode cX8_of 170 = .ok (.getfield 35, 3) := by decide +kernel
theorem dX8_of_173 : decode cX8_of 173 = .ok (.iload_n 1, 1) := by decide +kernel
theorem dX8_of_174 : decode cX8_of 174 = .ok (.iload_n 2, 1) := by decide +kernel
theorem dX8_of_175 : decode cX8_of 175 = .ok (.bipush 30, 2) := by decide +kernel
theorem dX8_of_177 : decode cX8_of 177 = .ok (.isub, 1) := by decide +kernel
theorem dX8_of_178 : decode cX8_of 178 = .ok (.invokevirtual 130, 3) := by decide +kernel
theorem dX8_of_181 : decode cX8_of 181 = .ok (.ireturn, 1) := by decide +kernel
theorem dX8_of_182 : decode cX8_of 182 = .ok (.ldc 106, 2) := by decide +kernel
theorem dX8_of_184 : decode cX8_of 184 = .ok (.ireturn, 1) := by decide +kernel
theorem dX8_on_0 : decode cX8_on 0 = .ok (.iload_n 2, 1) := by decide +kernel
theorem dX8_on_1 : decode cX8_on 1 = .ok (.bipush 10, 2) := by decide +kernel
theorem dX8_on_3 : decode cX8_on 3 = .ok (.isub, 1) := by decide +kernel
theorem dX8_on_4 : decode cX8_on 4 = .ok (.invokestatic 88, 3) := by decide +kernel
theorem dX8_on_7 : decode cX8_on 7 = .ok (.istore_n 3, 1) := by decide +kernel
theorem dX8_on_8 : decode cX8_on 8 = .ok (.iload_n 2, 1) := by decide +kernel
theorem dX8_on_9 : decode cX8_on 9 = .ok (.ifCond .eq 14, 3) := by decide +kernel
theorem dX8_on_12 : decode cX8_on 12 = .ok (.iload_n 2, 1) := by decide +kernel
theorem dX8_on_13 : decode cX8_on 13 = .ok (.iconst 1, 1) := by decide +kernel
theorem dX8_on_14 : decode cX8_on 14 = .ok (.if_icmp .eq 9, 3) := by decide +kernel
theorem dX8_on_17 : decode cX8_on 17 = .ok (.iload_n 3, 1) := by decide +kernel
theorem dX8_on_18 : decode cX8_on 18 = .ok (.ifCond .ne 5, 3) := by decide +kernel
theorem dX8_on_21 : decode cX8_on 21 = .ok (.iconst (-1), 1) := by decide +kernel
theorem dX8_on_22 : decode cX8_on 22 = .ok (.ireturn, 1) := by decide +kernel
theorem dX8_on_23 : decode cX8_on 23 = .ok (.iload_n 1, 1) := by decide +kernel
theorem dX8_on_24 : decode cX8_on 24 = .ok (.invokestatic 164, 3) := by decide +kernel
theorem dX8_on_27 : decode cX8_on 27 = .ok (.ifCond .ne 6, 3) := by decide +kernel
theorem dX8_on_30 : decode cX8_on 30 = .ok (.bipush (-2), 2) := by decide +kernel
theorem dX8_on_32 : decode cX8_on 32 = .ok (.ireturn, 1) := by decide +kernel
theorem dX8_on_33 : decode cX8_on 33 = .ok (.aload_n 0, 1) := by decide +kernel
theorem dX8_on_34 : decode cX8_on 34 = .ok (.getfield 35, 3) := by decide +kernel
theorem dX8_on_37 : decode cX8_on 37 = .ok (.aload_n 0, 1) := by decide +kernel
theorem dX8_on_38 : decode cX8_on 38 = .ok (.getfield 12, 3) := by decide +kernel
theorem dX8_on_41 : decode cX8_on 41 = .ok (.invokevirtual 120, 3) := by decide +kernel
theorem dX8_on_44 : decode cX8_on 44 = .ok (.aload_n 0, 1) := by decide +kernel
theorem dX8_on_45 : decode cX8_on 45 = .ok (.getfield 35, 3) := by decide +kernel
theorem dX8_on_48 : decode cX8_on 48 = .ok (.iload_n 1, 1) := by decide +kernel
theorem dX8_on_49 : decode cX8_on 49 = .ok (.invokevirtual 175, 3) := by decide +kernel
theorem dX8_on_52 : decode cX8_on 52 = .ok (.iload_n 3, 1) := by decide +kernel
theorem dX8_on_53 : decode cX8_on 53 = .ok (.ifCond .eq 19, 3) := by decide +kernel
theorem dX8_on_56 : decode cX8_on 56 = .ok (.aload_n 0, 1) := by decide +kernel
theorem dX8_on_57 : decode cX8_on 57 = .ok (.getfield 35, 3) := by decide +kernel
theorem dX8_on_60 : decode cX8_on 60 = .ok (.getfield 171, 3) := by decide +kernel
theorem dX8_on_63 : decode cX8_on 63 = .ok (.getfield 161, 3) := by decide +kernel
theorem dX8_on_66 : decode cX8_on 66 = .ok (.iload_n 2, 1) := by decide +kernel
theorem dX8_on_67 : decode cX8_on 67 = .ok (.bipush 10, 2) := by decide +kernel
theorem dX8_on_69 : decode cX8_on 69 = .ok (.isub, 1) := by decide +kernel
theorem dX8_on_70 : decode cX8_on 70 = .ok (.iaload, 1) := by decide +kernel
theorem dX8_on_71 : decode cX8_on 71 = .ok (.ireturn, 1) := by decide +kernel
theorem dX8_on_72 : decode cX8_on 72 = .ok (.iload_n 2, 1) := by decide +kernel
theorem dX8_on_73 : decode cX8_on 73 = .ok (.ifCond .ne 16, 3) := by decide +kernel
theorem dX8_on_76 : decode cX8_on 76 = .ok (.aload_n 0, 1) := by decide +kernel
theorem dX8_on_77 : decode cX8_on 77 = .ok (.getfield 35, 3) := by decide +kernel
theorem dX8_on_80 : decode cX8_on 80 = .ok (.getfield 171, 3) := by decide +kernel
theorem dX8_on_83 : decode cX8_on 83 = .ok (.getfield 144, 3) := by decide +kernel
theorem dX8_on_86 : decode cX8_on 86 = .ok (.goto 13, 3) := by decide +kernel
theorem dX8_on_89 : decode cX8_on 89 = .ok (.aload_n 0, 1) := by decide +kernel
theorem dX8_on_90 : decode cX8_on 90 = .ok (.getfield 35, 3) := by decide +kernel
theorem dX8_on_93 : decode cX8_on 93 = .ok (.getfield 171, 3) := by decide +kernel
theorem dX8_on_96 : decode cX8_on 96 = .ok (.invokevirtual 154, 3) := by decide +kernel
theorem dX8_on_99 : decode cX8_on 99 = .ok (.ireturn, 1) := by decide +kernel
theorem dX8_pass_0 : decode cX8_pass 0 = .ok (.iload_n 1, 1) := by decide +kernel
theorem dX8_pass_1 : decode cX8_pass 1 = .ok (.invokestatic 164, 3) := by decide +kernel
theorem dX8_pass_4 : decode cX8_pass 4 = .ok (.ifCond .ne 6, 3) := by decide +kernel
theorem dX8_pass_7 : decode cX8_pass 7 = .ok (.bipush (-2), 2) := by decide +kernel
theorem dX8_pass_9 : decode cX8_pass 9 = .ok (.ireturn, 1) := by decide +kernel
theorem dX8_pass_10 : decode cX8_pass 10 = .ok (.aload_n 0, 1) := by decide +kernel
theorem dX8_pass_11 : decode cX8_pass 11 = .ok (.getfield 12, 3) := by decide +kernel
theorem dX8_pass_14 : decode cX8_pass 14 = .ok (.getfield 140, 3) := by decide +kernel
theorem dX8_pass_17 : decode cX8_pass 17 = .ok (.getfield 148, 3) := by decide +kernel
theorem dX8_pass_20 : decode cX8_pass 20 = .ok (.iload_n 1, 1) := by decide +kernel
theorem dX8_pass_21 : decode cX8_pass 21 = .ok (.iadd, 1) := by decide +kernel
theorem dX8_pass_22 : decode cX8_pass 22 = .ok (.sipush 9999, 3) := by decide +kernel
theorem dX8_pass_25 : decode cX8_pass 25 = .ok (.if_icmp .le 6, 3) := by decide +kernel
theorem dX8_pass_28 : decode cX8_pass 28 = .ok (.bipush (-3), 2) := by decide +kernel
theorem dX8_pass_30 : decode cX8_pass 30 = .ok (.ireturn, 1) := by decide +kernel
theorem dX8_pass_31 : decode cX8_pass 31 = .ok (.aload_n 0, 1) := by decide +kernel
theorem dX8_pass_32 : decode cX8_pass 32 = .ok (.getfield 35, 3) := by decide +kernel
theorem dX8_pass_35 : decode cX8_pass 35 = .ok (.aload_n 0, 1) := by decide +kernel
theorem dX8_pass_36 : decode cX8_pass 36 = .ok (.getfield 12, 3) := by decide +kernel
theorem dX8_pass_39 : decode cX8_pass 39 = .ok (.invokevirtual 120, 3) := by decide +kernel
theorem dX8_pass_42 : decode cX8_pass 42 = .ok (.iconst 0, 1) := by decide +kernel
theorem dX8_pass_43 : decode cX8_pass 43 = .ok (.istore_n 2, 1) := by decide +kernel
theorem dX8_pass_44 : decode cX8_pass 44 = .ok (.iload_n 2, 1) := by decide +kernel
theorem dX8_pass_45 : decode cX8_pass 45 = .ok (.iload_n 1, 1) := by decide +kernel
theorem dX8_pass_46 : decode cX8_pass 46 = .ok (.if_icmp .ge 18, 3) := by decide +kernel
theorem dX8_pass_49 : decode cX8_pass 49 = .ok (.aload_n 0, 1) := by decide +kernel
theorem dX8_pass_50 : decode cX8_pass 50 = .ok (.getfield 35, 3) := by decide +kernel
theorem dX8_pass_53 : decode cX8_pass 53 = .ok (.bipush 99, 2) := by decide +kernel
theorem dX8_pass_55 : decode cX8_pass 55 = .ok (.invokevirtual 167, 3) := by decide +kernel
theorem dX8_pass_58 : decode cX8_pass 58 = .ok (.iinc 2 1, 3) := by decide +kernel
theorem dX8_pass_61 : decode cX8_pass 61 = .ok (.goto (-17), 3) := by decide +kernel
theorem dX8_pass_64 : decode cX8_pass 64 = .ok (.aload_n 0, 1) := by decide +kernel
theorem dX8_pass_65 : decode cX8_pass 65 = .ok (.getfield 12, 3) := by decide +kernel
theorem dX8_pass_68 : decode cX8_pass 68 = .ok (.getfield 140, 3) := by decide +kernel
theorem dX8_pass_71 : decode cX8_pass 71 = .ok (.aload_n 0, 1) := by decide +kernel
theorem dX8_pass_72 : decode cX8_pass 72 = .ok (.getfield 35, 3) := by decide +kernel
theorem dX8_pass_75 : decode cX8_pass 75 = .ok (.getfield 171, 3) := by decide +kernel
theorem dX8_pass_78 : decode cX8_pass 78 = .ok (.invokevirtual 172, 3) := by decide +kernel
theorem dX8_pass_81 : decode cX8_pass 81 = .ok (.aload_n 0, 1) := by decide +kernel
theorem dX8_pass_82 : decode cX8_pass 82 = .ok (.getfield 12, 3) := by decide +kernel
theorem dX8_pass_85 : decode cX8_pass 85 = .ok (.getfield 140, 3) := by decide +kernel
theorem dX8_pass_88 : decode cX8_pass 88 = .ok (.getfield 144, 3) := by decide +kernel
theorem dX8_pass_91 : decode cX8_pass 91 = .ok (.ireturn, 1) := by decide +kernel
theorem dX8_person_0 : decode cX8_person 0 = .ok (.iload_n 1, 1) := by decide +kernel
theorem dX8_person_1 : decode cX8_person 1 = .ok (.invokestatic 84, 3) := by decide +kernel
theorem dX8_person_4 : decode cX8_person 4 = .ok (.ifCond .eq 10, 3) := by decide +kernel
theorem dX8_person_7 : decode cX8_person 7 = .ok (.iload_n 3, 1) := by decide +kernel
theorem dX8_person_8 : decode cX8_person 8 = .ok (.invokestatic 88, 3) := by decide +kernel
theorem dX8_person_11 : decode cX8_person 11 = .ok (.ifCond .ne 5, 3) := by decide +kernel
theorem dX8_person_14 : decode cX8_person 14 = .ok (.iconst (-1), 1) := by decide +kernel
theorem dX8_person_15 : decode cX8_person 15 = .ok (.ireturn, 1) := by decide +kernel
theorem dX8_person_16 : decode cX8_person 16 = .ok (.iload_n 2, 1) := by decide +kernel
theorem dX8_person_17 : decode cX8_person 17 = .ok (.invokestatic 91, 3) := by decide +kernel
theorem dX8_person_20 : decode cX8_person 20 = .ok (.ifCond .ne 6, 3) := by decide +kernel
theorem dX8_person_23 : decode cX8_person 23 = .ok (.bipush (-2), 2) := by decide +kernel
theorem dX8_person_25 : decode cX8_person 25 = .ok (.ireturn, 1) := by decide +kernel
theorem dX8_person_26 : decode cX8_person 26 = .ok (.aload_n 0, 1) := by decide +kernel
theorem dX8_person_27 : decode cX8_person 27 = .ok (.getfield 12, 3) := by decide +kernel
theorem dX8_person_30 : decode cX8_person 30 = .ok (.getfield 94, 3) := by decide +kernel
theorem dX8_person_33 : decode cX8_person 33 = .ok (.iload_n 1, 1) := by decide +kernel
theorem dX8_person_34 : decode cX8_person 34 = .ok (.iload_n 2, 1) := by decide +kernel
theorem dX8_person_35 : decode cX8_person 35 = .ok (.iload_n 3, 1) := by decide +kernel
theorem dX8_person_36 : decode cX8_person 36 = .ok (.invokevirtual 98, 3) := by decide +kernel
theorem dX8_person_39 : decode cX8_person 39 = .ok (.ireturn, 1) := by decide +kernel
theorem dX8_plan_0 : decode cX8_plan 0 = .ok (.iload_n 1, 1) := by decide +kernel
theorem dX8_plan_1 : decode cX8_plan 1 = .ok (.iconst (-1), 1) := by decide +kernel
theorem dX8_plan_2 : decode cX8_plan 2 = .ok (.if_icmp .ne 14, 3) := by decide +kernel
theorem dX8_plan_5 : decode cX8_plan 5 = .ok (.aload_n 0, 1) := by decide +kernel
theorem dX8_plan_6 : decode cX8_plan 6 = .ok (.getfield 12, 3) := by decide +kernel
theorem dX8_plan_9 : decode cX8_plan 9 = .ok (.getfield 228, 3) := by decide +kernel
theorem dX8_plan_12 : decode cX8_plan 12 = .ok (.invokevirtual 64, 3) := by decide +kernel
theorem dX8_plan_15 : decode cX8_plan 15 = .ok (.ireturn, 1) := by decide +kernel
theorem dX8_plan_16 : decode cX8_plan 16 = .ok (.iload_n 1, 1) := by decide +kernel
theorem dX8_plan_17 : decode cX8_plan 17 = .ok (.tableswitch 99 0 3 #[31, 44, 44, 75], 31) := by decide +kernel
theorem dX8_plan_48 : decode cX8_plan 48 = .ok (.aload_n 0, 1) := by decide +kernel
theorem dX8_plan_49 : decode cX8_plan 49 = .ok (.getfield 12, 3) := by decide +kernel
theorem dX8_plan_52 : decode cX8_plan 52 = .ok (.getfield 228, 3) := by decide +kernel
theorem dX8_plan_55 : decode cX8_plan 55 = .ok (.iload_n 1, 1) := by decide +kernel
theorem dX8_plan_56 : decode cX8_plan 56 = .ok (.iload_n 2, 1) := by decide +kernel
theorem dX8_plan_57 : decode cX8_plan 57 = .ok (.invokevirtual 50, 3) := by decide +kernel
theorem dX8_plan_60 : decode cX8_plan 60 = .ok (.ireturn, 1) := by decide +kernel
theorem dX8_plan_61 : decode cX8_plan 61 = .ok (.aload_n 0, 1) := by decide +kernel
theorem dX8_plan_62 : decode cX8_plan 62 = .ok (.getfield 12, 3) := by decide +kernel
theorem dX8_plan_65 : decode cX8_plan 65 = .ok (.getfield 94, 3) := by decide +kernel
theorem dX8_plan_68 : decode cX8_plan 68 = .ok (.iload_n 2, 1) := by decide +kernel
theorem dX8_plan_69 : decode cX8_plan 69 = .ok (.invokevirtual 103, 3) := by decide +kernel
theorem dX8_plan_72 : decode cX8_plan 72 = .ok (.ifCond .eq 18, 3) := by decide +kernel
theorem dX8_plan_75 : decode cX8_plan 75 = .ok (.aload_n 0, 1) := by decide +kernel
theorem dX8_plan_76 : decode cX8_plan 76 = .ok (.getfield 12, 3) := by decide +kernel
theorem dX8_plan_79 : decode cX8_plan 79 = .ok (.getfield 228, 3) := by decide +kernel
theorem dX8_plan_82 : decode cX8_plan 82 = .ok (.iload_n 1, 1) := by decide +kernel
theorem dX8_plan_83 : decode cX8_plan 83 = .ok (.iload_n 2, 1) := by decide +kernel
theorem dX8_plan_84 : decode cX8_plan 84 = .ok (.invokevirtual 50, 3) := by decide +kernel
theorem dX8_plan_87 : decode cX8_plan 87 = .ok (.goto 4, 3) := by decide +kernel
theorem dX8_plan_90 : decode cX8_plan 90 = .ok (.iconst (-1), 1) := by decide +kernel
theorem dX8_plan_91 : decode cX8_plan 91 = .ok (.ireturn, 1) := by decide +kernel
theorem dX8_plan_92 : decode cX8_plan 92 = .ok (.iload_n 2, 1) := by decide +kernel
theorem dX8_plan_93 : decode cX8_plan 93 = .ok (.invokestatic 88, 3) := by decide +kernel
theorem dX8_plan_96 : decode cX8_plan 96 = .ok (.ifCond .eq 18, 3) := by decide +kernel
theorem dX8_plan_99 : decode cX8_plan 99 = .ok (.aload_n 0, 1) := by decide +kernel
theorem dX8_plan_100 : decode cX8_plan 100 = .ok (.getfield 12, 3) := by decide +kernel
theorem dX8_plan_103 : decode cX8_plan 103 = .ok (.getfield 228, 3) := by decide +kernel
theorem dX8_plan_106 : decode cX8_plan 106 = .ok (.iload_n 1, 1) := by decide +kernel
theorem dX8_plan_107 : decode cX8_plan 107 = .ok (.iload_n 2, 1) := by decide +kernel
theorem dX8_plan_108 : decode cX8_plan 108 = .ok (.invokevirtual 50, 3) := by decide +kernel
theorem dX8_plan_111 : decode cX8_plan 111 = .ok (.goto 4, 3) := by decide +kernel
theorem dX8_plan_114 : decode cX8_plan 114 = .ok (.iconst (-1), 1) := by decide +kernel
theorem dX8_plan_115 : decode cX8_plan 115 = .ok (.ireturn, 1) := by decide +kernel
theorem dX8_plan_116 : decode cX8_plan 116 = .ok (.iconst (-1), 1) := by decide +kernel
theorem dX8_plan_117 : decode cX8_plan 117 = .ok (.ireturn, 1) := by decide +kernel
theorem dX8_see_0 : decode cX8_see 0 = .ok (.iload_n 1, 1) := by decide +kernel
theorem dX8_see_1 : decode cX8_see 1 = .ok (.iconst (-1), 1) := by decide +kernel
theorem dX8_see_2 : decode cX8_see 2 = .ok (.if_icmp .ne 14, 3) := by decide +kernel
theorem dX8_see_5 : decode cX8_see 5 = .ok (.aload_n 0, 1) := by decide +kernel
theorem dX8_see_6 : decode cX8_see 6 = .ok (.getfield 12, 3) := by decide +kernel
theorem dX8_see_9 : decode cX8_see 9 = .ok (.getfield 210, 3) := by decide +kernel
theorem dX8_see_12 : decode cX8_see 12 = .ok (.invokevirtual 64, 3) := by decide +kernel
theorem dX8_see_15 : decode cX8_see 15 = .ok (.ireturn, 1) := by decide +kernel
theorem dX8_see_16 : decode cX8_see 16 = .ok (.iload_n 1, 1) := by decide +kernel
theorem dX8_see_17 : decode cX8_see 17 = .ok (.invokestatic 88, 3) := by decide +kernel
theorem dX8_see_20 : decode cX8_see 20 = .ok (.ifCond .ne 5, 3) := by decide +kernel
theorem dX8_see_23 : decode cX8_see 23 = .ok (.iconst (-1), 1) := by decide +kernel
theorem dX8_see_24 : decode cX8_see 24 = .ok (.ireturn, 1) := by decide +kernel
theorem dX8_see_25 : decode cX8_see 25 = .ok (.iload_n 2, 1) := by decide +kernel
theorem dX8_see_26 : decode cX8_see 26 = .ok (.ifCond .lt 9, 3) := by decide +kernel
theorem dX8_see_29 : decode cX8_see 29 = .ok (.iload_n 2, 1) := by decide +kernel
theorem dX8_see_30 : decode cX8_see 30 = .ok (.bipush 20, 2) := by decide +kernel
theorem dX8_see_32 : decode cX8_see 32 = .ok (.if_icmp .le 6, 3) := by decide +kernel
theorem dX8_see_35 : decode cX8_see 35 = .ok (.bipush (-2), 2) := by decide +kernel
theorem dX8_see_37 : decode cX8_see 37 = .ok (.ireturn, 1) := by decide +kernel
theorem dX8_see_38 : decode cX8_see 38 = .ok (.aload_n 0, 1) := by decide +kernel
theorem dX8_see_39 : decode cX8_see 39 = .ok (.getfield 12, 3) := by decide +kernel
theorem dX8_see_42 : decode cX8_see 42 = .ok (.getfield 210, 3) := by decide +kernel
theorem dX8_see_45 : decode cX8_see 45 = .ok (.iload_n 1, 1) := by decide +kernel
theorem dX8_see_46 : decode cX8_see 46 = .ok (.iload_n 2, 1) := by decide +kernel
theorem dX8_see_47 : decode cX8_see 47 = .ok (.invokevirtual 50, 3) := by decide +kernel
theorem dX8_see_50 : decode cX8_see 50 = .ok (.ireturn, 1) := by decide +kernel
theorem dX8_soonest_0 : decode cX8_soonest 0 = .ok (.iload_n 1, 1) := by decide +kernel
theorem dX8_soonest_1 : decode cX8_soonest 1 = .ok (.invokestatic 88, 3) := by decide +kernel
theorem dX8_soonest_4 : decode cX8_soonest 4 = .ok (.ifCond .eq 10, 3) := by decide +kernel
theorem dX8_soonest_7 : decode cX8_soonest 7 = .ok (.iload_n 2, 1) := by decide +kernel
theorem dX8_soonest_8 : decode cX8_soonest 8 = .ok (.invokestatic 181, 3) := by decide +kernel
theorem dX8_soonest_11 : decode cX8_soonest 11 = .ok (.ifCond .ne 5, 3) := by decide +kernel
theorem dX8_soonest_14 : decode cX8_soonest 14 = .ok (.iconst (-1), 1) := by decide +kernel
theorem dX8_soonest_15 : decode cX8_soonest 15 = .ok (.ireturn, 1) := by decide +kernel
theorem dX8_soonest_16 : decode cX8_soonest 16 = .ok (.aload_n 0, 1) := by decide +kernel
theorem dX8_soonest_17 : decode cX8_soonest 17 = .ok (.getfield 35, 3) := by decide +kernel
theorem dX8_soonest_20 : decode cX8_soonest 20 = .ok (.aload_n 0, 1) := by decide +kernel
theorem dX8_soonest_21 : decode cX8_soonest 21 = .ok (.getfield 12, 3) := by decide +kernel
theorem dX8_soonest_24 : decode cX8_soonest 24 = .ok (.invokevirtual 120, 3) := by decide +kernel
theorem dX8_soonest_27 : decode cX8_soonest 27 = .ok (.bipush (-5), 2) := by decide +kernel
theorem dX8_soonest_29 : decode cX8_soonest 29 = .ok (.istore_n 3, 1) := by decide +kernel
theorem dX8_soonest_30 : decode cX8_soonest 30 = .ok (.bipush 31, 2) := by decide +kernel
theorem dX8_soonest_32 : decode cX8_soonest 32 = .ok (.istore 4, 2) := by decide +kernel
theorem dX8_soonest_34 : decode cX8_soonest 34 = .ok (.iconst 0, 1) := by decide +kernel
theorem dX8_soonest_35 : decode cX8_soonest 35 = .ok (.istore 5, 2) := by decide +kernel
theorem dX8_soonest_37 : decode cX8_soonest 37 = .ok (.iload 5, 2) := by decide +kernel
theorem dX8_soonest_39 : decode cX8_soonest 39 = .ok (.bipush 16, 2) := by decide +kernel
theorem dX8_soonest_41 : decode cX8_soonest 41 = .ok (.if_icmp .ge 63, 3) := by decide +kernel
theorem dX8_soonest_44 : decode cX8_soonest 44 = .ok (.iload 5, 2) := by decide +kernel
theorem dX8_soonest_46 : decode cX8_soonest 46 = .ok (.iload_n 1, 1) := by decide +kernel
theorem dX8_soonest_47 : decode cX8_soonest 47 = .ok (.if_icmp .ne 6, 3) := by decide +kernel
theorem dX8_soonest_50 : decode cX8_soonest 50 = .ok (.goto 48, 3) := by decide +kernel
theorem dX8_soonest_53 : decode cX8_soonest 53 = .ok (.aload_n 0, 1) := by decide +kernel
theorem dX8_soonest_54 : decode cX8_soonest 54 = .ok (.getfield 35, 3) := by decide +kernel
theorem dX8_soonest_57 : decode cX8_soonest 57 = .ok (.invokevirtual 184, 3) := by decide +kernel
theorem dX8_soonest_60 : decode cX8_soonest 60 = .ok (.aload_n 0, 1) := by decide +kernel
theorem dX8_soonest_61 : decode cX8_soonest 61 = .ok (.getfield 35, 3) := by decide +kernel
theorem dX8_soonest_64 : decode cX8_soonest 64 = .ok (.getfield 171, 3) := by decide +kernel
theorem dX8_soonest_67 : decode cX8_soonest 67 = .ok (.iload 5, 2) := by decide +kernel
theorem dX8_soonest_69 : decode cX8_soonest 69 = .ok (.putfield 144, 3) := by decide +kernel
theorem dX8_soonest_72 : decode cX8_soonest 72 = .ok (.aload_n 0, 1) := by decide +kernel
theorem dX8_soonest_73 : decode cX8_soonest 73 = .ok (.getfield 35, 3) := by decide +kernel
theorem dX8_soonest_76 : decode cX8_soonest 76 = .ok (.iload_n 1, 1) := by decide +kernel
theorem dX8_soonest_77 : decode cX8_soonest 77 = .ok (.iload 4, 2) := by decide +kernel
theorem dX8_soonest_79 : decode cX8_soonest 79 = .ok (.iconst 1, 1) := by decide +kernel
theorem dX8_soonest_80 : decode cX8_soonest 80 = .ok (.isub, 1) := by decide +kernel
theorem dX8_soonest_81 : decode cX8_soonest 81 = .ok (.invokevirtual 178, 3) := by decide +kernel
theorem dX8_soonest_84 : decode cX8_soonest 84 = .ok (.istore 6, 2) := by decide +kernel
theorem dX8_soonest_86 : decode cX8_soonest 86 = .ok (.iload 6, 2) := by decide +kernel
theorem dX8_soonest_88 : decode cX8_soonest 88 = .ok (.ifCond .lt 10, 3) := by decide +kernel
theorem dX8_soonest_91 : decode cX8_soonest 91 = .ok (.iload 6, 2) := by decide +kernel
theorem dX8_soonest_93 : decode cX8_soonest 93 = .ok (.istore 4, 2) := by decide +kernel
theorem dX8_soonest_95 : decode cX8_soonest 95 = .ok (.iload 5, 2) := by decide +kernel
theorem dX8_soonest_97 : decode cX8_soonest 97 = .ok (.istore_n 3, 1) := by decide +kernel
theorem dX8_soonest_98 : decode cX8_soonest 98 = .ok (.iinc 5 1, 3) := by decide +kernel
theorem dX8_soonest_101 : decode cX8_soonest 101 = .ok (.goto (-64), 3) := by decide +kernel
theorem dX8_soonest_104 : decode cX8_soonest 104 = .ok (.iload_n 2, 1) := by decide +kernel
theorem dX8_soonest_105 : decode cX8_soonest 105 = .ok (.ifCond .eq 7, 3) := by decide +kernel
theorem dX8_soonest_108 : decode cX8_soonest 108 = .ok (.iload_n 3, 1) := by decide +kernel
theorem dX8_soonest_109 : decode cX8_soonest 109 = .ok (.ifCond .ge 7, 3) := by decide +kernel
theorem dX8_soonest_112 : decode cX8_soonest 112 = .ok (.iload_n 3, 1) := by decide +kernel
theorem dX8_soonest_113 : decode cX8_soonest 113 = .ok (.goto 5, 3) := by decide +kernel
theorem dX8_soonest_116 : decode cX8_soonest 116 = .ok (.iload 4, 2) := by decide +kernel
theorem dX8_soonest_118 : decode cX8_soonest 118 = .ok (.ireturn, 1) := by decide +kernel
theorem dX8_sought_0 : decode cX8_sought 0 = .ok (.aload_n 0, 1) := by decide +kernel
theorem dX8_sought_1 : decode cX8_sought 1 = .ok (.getfield 35, 3) := by decide +kernel
theorem dX8_sought_4 : decode cX8_sought 4 = .ok (.aload_n 0, 1) := by decide +kernel
theorem dX8_sought_5 : decode cX8_sought 5 = .ok (.getfield 12, 3) := by decide +kernel
theorem dX8_sought_8 : decode cX8_sought 8 = .ok (.invokevirtual 120, 3) := by decide +kernel
theorem dX8_sought_11 : decode cX8_sought 11 = .ok (.iconst 1, 1) := by decide +kernel
theorem dX8_sought_12 : decode cX8_sought 12 = .ok (.aload_n 0, 1) := by decide +kernel
theorem dX8_sought_13 : decode cX8_sought 13 = .ok (.getfield 12, 3) := by decide +kernel
theorem dX8_sought_16 : decode cX8_sought 16 = .ok (.getfield 94, 3) := by decide +kernel
theorem dX8_sought_19 : decode cX8_sought 19 = .ok (.getfield 187, 3) := by decide +kernel
theorem dX8_sought_22 : decode cX8_sought 22 = .ok (.ishl, 1) := by decide +kernel
theorem dX8_sought_23 : decode cX8_sought 23 = .ok (.iconst 1, 1) := by decide +kernel
theorem dX8_sought_24 : decode cX8_sought 24 = .ok (.isub, 1) := by decide +kernel
theorem dX8_sought_25 : decode cX8_sought 25 = .ok (.istore_n 1, 1) := by decide +kernel
theorem dX8_sought_26 : decode cX8_sought 26 = .ok (.iconst 0, 1) := by decide +kernel
theorem dX8_sought_27 : decode cX8_sought 27 = .ok (.istore_n 2, 1) := by decide +kernel
theorem dX8_sought_28 : decode cX8_sought 28 = .ok (.iconst 0, 1) := by decide +kernel
theorem dX8_sought_29 : decode cX8_sought 29 = .ok (.istore_n 3, 1) := by decide +kernel
theorem dX8_sought_30 : decode cX8_sought 30 = .ok (.iload_n 3, 1) := by decide +kernel
theorem dX8_sought_31 : decode cX8_sought 31 = .ok (.aload_n 0, 1) := by decide +kernel
theorem dX8_sought_32 : decode cX8_sought 32 = .ok (.getfield 12, 3) := by decide +kernel
theorem dX8_sought_35 : decode cX8_sought 35 = .ok (.getfield 94, 3) := by decide +kernel
theorem dX8_sought_38 : decode cX8_sought 38 = .ok (.getfield 187, 3) := by decide +kernel
theorem dX8_sought_41 : decode cX8_sought 41 = .ok (.if_icmp .ge 47, 3) := by decide +kernel
theorem dX8_sought_44 : decode cX8_sought 44 = .ok (.aload_n 0, 1) := by decide +kernel
theorem dX8_sought_45 : decode cX8_sought 45 = .ok (.getfield 35, 3) := by decide +kernel
theorem dX8_sought_48 : decode cX8_sought 48 = .ok (.getfield 199, 3) := by decide +kernel
theorem dX8_sought_51 : decode cX8_sought 51 = .ok (.iload_n 1, 1) := by decide +kernel
theorem dX8_sought_52 : decode cX8_sought 52 = .ok (.iconst 1, 1) := by decide +kernel
theorem dX8_sought_53 : decode cX8_sought 53 = .ok (.iload_n 3, 1) := by decide +kernel
theorem dX8_sought_54 : decode cX8_sought 54 = .ok (.ishl, 1) := by decide +kernel
theorem dX8_sought_55 : decode cX8_sought 55 = .ok (.ixor, 1) := by decide +kernel
theorem dX8_sought_56 : decode cX8_sought 56 = .ok (.putfield 200, 3) := by decide +kernel
theorem dX8_sought_59 : decode cX8_sought 59 = .ok (.aload_n 0, 1) := by decide +kernel
theorem dX8_sought_60 : decode cX8_sought 60 = .ok (.getfield 35, 3) := by decide +kernel
theorem dX8_sought_63 : decode cX8_sought 63 = .ok (.aload_n 0, 1) := by decide +kernel
theorem dX8_sought_64 : decode cX8_sought 64 = .ok (.getfield 12, 3) := by decide +kernel
theorem dX8_sought_67 : decode cX8_sought 67 = .ok (.getfield 210, 3) := by decide +kernel
theorem dX8_sought_70 : decode cX8_sought 70 = .ok (.invokevirtual 213, 3) := by decide +kernel
theorem dX8_sought_73 : decode cX8_sought 73 = .ok (.ifCond .eq 9, 3) := by decide +kernel
theorem dX8_sought_76 : decode cX8_sought 76 = .ok (.iload_n 2, 1) := by decide +kernel
theorem dX8_sought_77 : decode cX8_sought 77 = .ok (.iconst 1, 1) := by decide +kernel
theorem dX8_sought_78 : decode cX8_sought 78 = .ok (.iload_n 3, 1) := by decide +kernel
theorem dX8_sought_79 : decode cX8_sought 79 = .ok (.ishl, 1) := by decide +kernel
theorem dX8_sought_80 : decode cX8_sought 80 = .ok (.ior, 1) := by decide +kernel
theorem dX8_sought_81 : decode cX8_sought 81 = .ok (.istore_n 2, 1) := by decide +kernel
theorem dX8_sought_82 : decode cX8_sought 82 = .ok (.iinc 3 1, 3) := by decide +kernel
theorem dX8_sought_85 : decode cX8_sought 85 = .ok (.goto (-55), 3) := by decide +kernel
theorem dX8_sought_88 : decode cX8_sought 88 = .ok (.iload_n 2, 1) := by decide +kernel
theorem dX8_sought_89 : decode cX8_sought 89 = .ok (.ireturn, 1) := by decide +kernel
theorem dX8_told_0 : decode cX8_told 0 = .ok (.iload_n 1, 1) := by decide +kernel
theorem dX8_told_1 : decode cX8_told 1 = .ok (.tableswitch 75 0 3 #[31, 42, 53, 64], 31) := by decide +kernel
theorem dX8_told_32 : decode cX8_told 32 = .ok (.aload_n 0, 1) := by decide +kernel
theorem dX8_told_33 : decode cX8_told 33 = .ok (.getfield 12, 3) := by decide +kernel
theorem dX8_told_36 : decode cX8_told 36 = .ok (.getfield 140, 3) := by decide +kernel
theorem dX8_told_39 : decode cX8_told 39 = .ok (.getfield 148, 3) := by decide +kernel
theorem dX8_told_42 : decode cX8_told 42 = .ok (.ireturn, 1) := by decide +kernel
theorem dX8_told_43 : decode cX8_told 43 = .ok (.aload_n 0, 1) := by decide +kernel
theorem dX8_told_44 : decode cX8_told 44 = .ok (.getfield 12, 3) := by decide +kernel
theorem dX8_told_47 : decode cX8_told 47 = .ok (.getfield 71, 3) := by decide +kernel
theorem dX8_told_50 : decode cX8_told 50 = .ok (.getfield 151, 3) := by decide +kernel
theorem dX8_told_53 : decode cX8_told 53 = .ok (.ireturn, 1) := by decide +kernel
theorem dX8_told_54 : decode cX8_told 54 = .ok (.aload_n 0, 1) := by decide +kernel
theorem dX8_told_55 : decode cX8_told 55 = .ok (.getfield 12, 3) := by decide +kernel
theorem dX8_told_58 : decode cX8_told 58 = .ok (.getfield 140, 3) := by decide +kernel
theorem dX8_told_61 : decode cX8_told 61 = .ok (.getfield 144, 3) := by decide +kernel
theorem dX8_told_64 : decode cX8_told 64 = .ok (.ireturn, 1) := by decide +kernel
theorem dX8_told_65 : decode cX8_told 65 = .ok (.aload_n 0, 1) := by decide +kernel
theorem dX8_told_66 : decode cX8_told 66 = .ok (.getfield 12, 3) := by decide +kernel
theorem dX8_told_69 : decode cX8_told 69 = .ok (.getfield 140, 3) := by decide +kernel
theorem dX8_told_72 : decode cX8_told 72 = .ok (.invokevirtual 154, 3) := by decide +kernel
theorem dX8_told_75 : decode cX8_told 75 = .ok (.ireturn, 1) := by decide +kernel
theorem dX8_told_76 : decode cX8_told 76 = .ok (.iload_n 1, 1) := by decide +kernel
theorem dX8_told_77 : decode cX8_told 77 = .ok (.bipush 10, 2) := by decide +kernel
theorem dX8_told_79 : decode cX8_told 79 = .ok (.isub, 1) := by decide +kernel
theorem dX8_told_80 : decode cX8_told 80 = .ok (.invokestatic 88, 3) := by decide +kernel
theorem dX8_told_83 : decode cX8_told 83 = .ok (.ifCond .eq 33, 3) := by decide +kernel
theorem dX8_told_86 : decode cX8_told 86 = .ok (.aload_n 0, 1) := by decide +kernel
theorem dX8_told_87 : decode cX8_told 87 = .ok (.getfield 35, 3) := by decide +kernel
theorem dX8_told_90 : decode cX8_told 90 = .ok (.aload_n 0, 1) := by decide +kernel
theorem dX8_told_91 : decode cX8_told 91 = .ok (.getfield 12, 3) := by decide +kernel
theorem dX8_told_94 : decode cX8_told 94 = .ok (.invokevirtual 120, 3) := by decide +kernel
theorem dX8_told_97 : decode cX8_told 97 = .ok (.aload_n 0, 1) := by decide +kernel
theorem dX8_told_98 : decode cX8_told 98 = .ok (.getfield 35, 3) := by decide +kernel
theorem dX8_told_101 : decode cX8_told 101 = .ok (.invokevirtual 127, 3) := by decide +kernel
theorem dX8_told_104 : decode cX8_told 104 = .ok (.aload_n 0, 1) := by decide +kernel
theorem dX8_told_105 : decode cX8_told 105 = .ok (.getfield 35, 3) := by decide +kernel
theorem dX8_told_108 : decode cX8_told 108 = .ok (.iload_n 1, 1) := by decide +kernel
theorem dX8_told_109 : decode cX8_told 109 = .ok (.bipush 10, 2) := by decide +kernel
theorem dX8_told_111 : decode cX8_told 111 = .ok (.isub, 1) := by decide +kernel
theorem dX8_told_112 : decode cX8_told 112 = .ok (.invokevirtual 157, 3) := by decide +kernel
theorem dX8_told_115 : decode cX8_told 115 = .ok (.ireturn, 1) := by decide +kernel
theorem dX8_told_116 : decode cX8_told 116 = .ok (.iload_n 1, 1) := by decide +kernel
theorem dX8_told_117 : decode cX8_told 117 = .ok (.bipush 30, 2) := by decide +kernel
theorem dX8_told_119 : decode cX8_told 119 = .ok (.isub, 1) := by decide +kernel
theorem dX8_told_120 : decode cX8_told 120 = .ok (.invokestatic 88, 3) := by decide +kernel
theorem dX8_told_123 : decode cX8_told 123 = .ok (.ifCond .eq 19, 3) := by decide +kernel
theorem dX8_told_126 : decode cX8_told 126 = .ok (.aload_n 0, 1) := by decide +kernel
theorem dX8_told_127 : decode cX8_told 127 = .ok (.getfield 12, 3) := by decide +kernel
theorem dX8_told_130 : decode cX8_told 130 = .ok (.getfield 140, 3) := by decide +kernel
theorem dX8_told_133 : decode cX8_told 133 = .ok (.getfield 161, 3) := by decide +kernel
theorem dX8_told_136 : decode cX8_told 136 = .ok (.iload_n 1, 1) := by decide +kernel
theorem dX8_told_137 : decode cX8_told 137 = .ok (.bipush 30, 2) := by decide +kernel
theorem dX8_told_139 : decode cX8_told 139 = .ok (.isub, 1) := by decide +kernel
theorem dX8_told_140 : decode cX8_told 140 = .ok (.iaload, 1) := by decide +kernel
theorem dX8_told_141 : decode cX8_told 141 = .ok (.ireturn, 1) := by decide +kernel
theorem dX8_told_142 : decode cX8_told 142 = .ok (.ldc 106, 2) := by decide +kernel
theorem dX8_told_144 : decode cX8_told 144 = .ok (.ireturn, 1) := by decide +kernel
theorem dX8_town_0 : decode cX8_town 0 = .ok (.aload_n 0, 1) := by decide +kernel
theorem dX8_town_1 : decode cX8_town 1 = .ok (.getfield 12, 3) := by decide +kernel
theorem dX8_town_4 : decode cX8_town 4 = .ok (.getfield 56, 3) := by decide +kernel
theorem dX8_town_7 : decode cX8_town 7 = .ok (.iconst 5, 1) := by decide +kernel
theorem dX8_town_8 : decode cX8_town 8 = .ok (.if_icmp .lt 6, 3) := by decide +kernel
theorem dX8_town_11 : decode cX8_town 11 = .ok (.bipush (-4), 2) := by decide +kernel
theorem dX8_town_13 : decode cX8_town 13 = .ok (.ireturn, 1) := by decide +kernel
theorem dX8_town_14 : decode cX8_town 14 = .ok (.aload_n 0, 1) := by decide +kernel
theorem dX8_town_15 : decode cX8_town 15 = .ok (.getfield 28, 3) := by decide +kernel
theorem dX8_town_18 : decode cX8_town 18 = .ok (.aload_n 0, 1) := by decide +kernel
theorem dX8_town_19 : decode cX8_town 19 = .ok (.getfield 12, 3) := by decide +kernel
theorem dX8_town_22 : decode cX8_town 22 = .ok (.getfield 46, 3) := by decide +kernel
theorem dX8_town_25 : decode cX8_town 25 = .ok (.invokevirtual 60, 3) := by decide +kernel
theorem dX8_town_28 : decode cX8_town 28 = .ok (.istore_n 1, 1) := by decide +kernel
theorem dX8_town_29 : decode cX8_town 29 = .ok (.aload_n 0, 1) := by decide +kernel
theorem dX8_town_30 : decode cX8_town 30 = .ok (.getfield 12, 3) := by decide +kernel
theorem dX8_town_33 : decode cX8_town 33 = .ok (.getfield 46, 3) := by decide +kernel
theorem dX8_town_36 : decode cX8_town 36 = .ok (.invokevirtual 64, 3) := by decide +kernel
theorem dX8_town_39 : decode cX8_town 39 = .ok (.pop, 1) := by decide +kernel
theorem dX8_town_40 : decode cX8_town 40 = .ok (.iload_n 1, 1) := by decide +kernel
theorem dX8_town_41 : decode cX8_town 41 = .ok (.ifCond .ne 14, 3) := by decide +kernel
theorem dX8_town_44 : decode cX8_town 44 = .ok (.bipush (-10), 2) := by decide +kernel
theorem dX8_town_46 : decode cX8_town 46 = .ok (.aload_n 0, 1) := by decide +kernel
theorem dX8_town_47 : decode cX8_town 47 = .ok (.getfield 28, 3) := by decide +kernel
theorem dX8_town_50 : decode cX8_town 50 = .ok (.getfield 68, 3) := by decide +kernel
theorem dX8_town_53 : decode cX8_town 53 = .ok (.isub, 1) := by decide +kernel
theorem dX8_town_54 : decode cX8_town 54 = .ok (.ireturn, 1) := by decide +kernel
theorem dX8_town_55 : decode cX8_town 55 = .ok (.aload_n 0, 1) := by decide +kernel
theorem dX8_town_56 : decode cX8_town 56 = .ok (.getfield 12, 3) := by decide +kernel
theorem dX8_town_59 : decode cX8_town 59 = .ok (.getfield 71, 3) := by decide +kernel
theorem dX8_town_62 : decode cX8_town 62 = .ok (.aload_n 0, 1) := by decide +kernel
theorem dX8_town_63 : decode cX8_town 63 = .ok (.getfield 28, 3) := by decide +kernel
theorem dX8_town_66 : decode cX8_town 66 = .ok (.getfield 75, 3) := by decide +kernel
theorem dX8_town_69 : decode cX8_town 69 = .ok (.invokevirtual 78, 3) := by decide +kernel
theorem dX8_town_72 : decode cX8_town 72 = .ok (.aload_n 0, 1) := by decide +kernel
theorem dX8_town_73 : decode cX8_town 73 = .ok (.getfield 12, 3) := by decide +kernel
theorem dX8_town_76 : decode cX8_town 76 = .ok (.dup, 1) := by decide +kernel
theorem dX8_town_77 : decode cX8_town 77 = .ok (.getfield 56, 3) := by decide +kernel
theorem dX8_town_80 : decode cX8_town 80 = .ok (.iconst 1, 1) := by decide +kernel
theorem dX8_town_81 : decode cX8_town 81 = .ok (.iadd, 1) := by decide +kernel
theorem dX8_town_82 : decode cX8_town 82 = .ok (.putfield 56, 3) := by decide +kernel
theorem dX8_town_85 : decode cX8_town 85 = .ok (.aload_n 0, 1) := by decide +kernel
theorem dX8_town_86 : decode cX8_town 86 = .ok (.getfield 12, 3) := by decide +kernel
theorem dX8_town_89 : decode cX8_town 89 = .ok (.getfield 56, 3) := by decide +kernel
theorem dX8_town_92 : decode cX8_town 92 = .ok (.iconst 1, 1) := by decide +kernel
theorem dX8_town_93 : decode cX8_town 93 = .ok (.isub, 1) := by decide +kernel
theorem dX8_town_94 : decode cX8_town 94 = .ok (.ireturn, 1) := by decide +kernel
theorem dX8_trace_0 : decode cX8_trace 0 = .ok (.iload_n 1, 1) := by decide +kernel
theorem dX8_trace_1 : decode cX8_trace 1 = .ok (.ifCond .lt 14, 3) := by decide +kernel
theorem dX8_trace_4 : decode cX8_trace 4 = .ok (.iload_n 1, 1) := by decide +kernel
theorem dX8_trace_5 : decode cX8_trace 5 = .ok (.aload_n 0, 1) := by decide +kernel
theorem dX8_trace_6 : decode cX8_trace 6 = .ok (.getfield 42, 3) := by decide +kernel
theorem dX8_trace_9 : decode cX8_trace 9 = .ok (.invokevirtual 247, 3) := by decide +kernel
theorem dX8_trace_12 : decode cX8_trace 12 = .ok (.if_icmp .lt 5, 3) := by decide +kernel
theorem dX8_trace_15 : decode cX8_trace 15 = .ok (.iconst (-1), 1) := by decide +kernel
theorem dX8_trace_16 : decode cX8_trace 16 = .ok (.ireturn, 1) := by decide +kernel
theorem dX8_trace_17 : decode cX8_trace 17 = .ok (.aload_n 0, 1) := by decide +kernel
theorem dX8_trace_18 : decode cX8_trace 18 = .ok (.getfield 42, 3) := by decide +kernel
theorem dX8_trace_21 : decode cX8_trace 21 = .ok (.getfield 250, 3) := by decide +kernel
theorem dX8_trace_24 : decode cX8_trace 24 = .ok (.iload_n 1, 1) := by decide +kernel
theorem dX8_trace_25 : decode cX8_trace 25 = .ok (.iaload, 1) := by decide +kernel
theorem dX8_trace_26 : decode cX8_trace 26 = .ok (.ireturn, 1) := by decide +kernel
theorem dX8_undo_0 : decode cX8_undo 0 = .ok (.aload_n 0, 1) := by decide +kernel
theorem dX8_undo_1 : decode cX8_undo 1 = .ok (.getfield 21, 3) := by decide +kernel
theorem dX8_undo_4 : decode cX8_undo 4 = .ok (.ifCond .ne 6, 3) := by decide +kernel
theorem dX8_undo_7 : decode cX8_undo 7 = .ok (.bipush (-3), 2) := by decide +kernel
theorem dX8_undo_9 : decode cX8_undo 9 = .ok (.ireturn, 1) := by decide +kernel
theorem dX8_undo_10 : decode cX8_undo 10 = .ok (.aload_n 0, 1) := by decide +kernel
theorem dX8_undo_11 : decode cX8_undo 11 = .ok (.getfield 12, 3) := by decide +kernel
theorem dX8_undo_14 : decode cX8_undo 14 = .ok (.aload_n 0, 1) := by decide +kernel
theorem dX8_undo_15 : decode cX8_undo 15 = .ok (.getfield 18, 3) := by decide +kernel
theorem dX8_undo_18 : decode cX8_undo 18 = .ok (.invokevirtual 256, 3) := by decide +kernel
theorem dX8_undo_21 : decode cX8_undo 21 = .ok (.aload_n 0, 1) := by decide +kernel
theorem dX8_undo_22 : decode cX8_undo 22 = .ok (.getfield 12, 3) := by decide +kernel
theorem dX8_undo_25 : decode cX8_undo 25 = .ok (.getfield 94, 3) := by decide +kernel
theorem dX8_undo_28 : decode cX8_undo 28 = .ok (.getfield 187, 3) := by decide +kernel
theorem dX8_undo_31 : decode cX8_undo 31 = .ok (.ireturn, 1) := by decide +kernel
theorem dX8_walk_0 : decode cX8_walk 0 = .ok (.iload_n 1, 1) := by decide +kernel
theorem dX8_walk_1 : decode cX8_walk 1 = .ok (.iconst (-1), 1) := by decide +kernel
theorem dX8_walk_2 : decode cX8_walk 2 = .ok (.if_icmp .ne 14, 3) := by decide +kernel
theorem dX8_walk_5 : decode cX8_walk 5 = .ok (.aload_n 0, 1) := by decide +kernel
theorem dX8_walk_6 : decode cX8_walk 6 = .ok (.getfield 12, 3) := by decide +kernel
theorem dX8_walk_9 : decode cX8_walk 9 = .ok (.getfield 203, 3) := by decide +kernel
theorem dX8_walk_12 : decode cX8_walk 12 = .ok (.invokevirtual 64, 3) := by decide +kernel
theorem dX8_walk_15 : decode cX8_walk 15 = .ok (.ireturn, 1) := by decide +kernel
theorem dX8_walk_16 : decode cX8_walk 16 = .ok (.iload_n 1, 1) := by decide +kernel
theorem dX8_walk_17 : decode cX8_walk 17 = .ok (.invokestatic 88, 3) := by decide +kernel
theorem dX8_walk_20 : decode cX8_walk 20 = .ok (.ifCond .ne 5, 3) := by decide +kernel
theorem dX8_walk_23 : decode cX8_walk 23 = .ok (.iconst (-1), 1) := by decide +kernel
theorem dX8_walk_24 : decode cX8_walk 24 = .ok (.ireturn, 1) := by decide +kernel
theorem dX8_walk_25 : decode cX8_walk 25 = .ok (.aload_n 0, 1) := by decide +kernel
theorem dX8_walk_26 : decode cX8_walk 26 = .ok (.getfield 12, 3) := by decide +kernel
theorem dX8_walk_29 : decode cX8_walk 29 = .ok (.getfield 203, 3) := by decide +kernel
theorem dX8_walk_32 : decode cX8_walk 32 = .ok (.iload_n 1, 1) := by decide +kernel
theorem dX8_walk_33 : decode cX8_walk 33 = .ok (.iconst 0, 1) := by decide +kernel
theorem dX8_walk_34 : decode cX8_walk 34 = .ok (.invokevirtual 50, 3) := by decide +kernel
theorem dX8_walk_37 : decode cX8_walk 37 = .ok (.ireturn, 1) := by decide +kernel
def w_X8_feed   (q : Nat) (x1 : Int32) (M : ap_Mem) (K : Int32 → ap_Mem → Prop) : Prop :=
(if x1 < 0 then (K (-2) M) else ((if x1 ≤ 127 then (w_X5_add (q + 2) x1 0 M (fun r_3 M_4 => K r_3 M_4)) else (K (-2) M))))
theorem bl_X8_feed_0 {x : ap_X} {g : ap_G} (hc : ap_Cx x g cX8_feed RX8 2) {K : Int32 → ap_Mem → Prop} (hz : ap_Ends x g 1 (some .int) (ap_Qi K))   {q : Nat} (hq : ap_kd q = 8)   {x1 : Int32} {M : ap_Mem}  (h : w_X8_feed   q x1 M K) : ap_V x g 2 0 [(0, .ref (ap_ad g q)), (1, .int x1)] [] M := by
  have hg := hc.2.2.2.2.2.2.2.1
  unfold w_X8_feed at h
  refine ap_iload_n (q := 1) hc dX8_feed_0 rfl rfl 1 rfl ?_
  refine ap_if_lt (q := 4) (tgt := 10) hc dX8_feed_1 rfl (by decide) (fun z_1 => ?_) (fun z_1 => ?_)
  · have h := Eq.mp (if_pos z_1) h
    refine ap_bipush (q := 12) hc dX8_feed_10 rfl bc_m2 ?_
    exact ap_iret hc hz rfl dX8_feed_12 h
  · have h := Eq.mp (if_neg z_1) h
    refine ap_iload_n (q := 5) hc dX8_feed_4 rfl rfl 1 rfl ?_
    refine ap_bipush (q := 7) hc dX8_feed_5 rfl bc_127 ?_
    refine ap_icmp_le (q := 10) (tgt := 13) hc dX8_feed_7 rfl (by decide) (fun z_2 => ?_) (fun z_2 => ?_)
    · have h := Eq.mp (if_pos z_2) h
      refine ap_aload_n (q := 14) hc dX8_feed_13 rfl rfl 0 rfl ?_
      refine ap_getR (q := 17) (r := q + 1) lg_RX8_12 (by decide) hq rfl hc dX8_feed_14 rfl ?_
      refine ap_getR (q := 20) (r := q + 2) lg_RX8_46 (by decide) (ty_8_1 hq) rfl hc dX8_feed_17 rfl ?_
      refine ap_iload_n (q := 21) hc dX8_feed_20 rfl rfl 1 rfl ?_
      refine ap_iconst (q := 22) hc dX8_feed_21 rfl ic_0 ?_
      refine ap_callV (q := 25) (As := [.int x1, .int 0]) hc (ok_X5_add hg (ty_8_2 hq) h) ml_RX8_50 lk_X5_add lv_X5_add (ty_8_2 hq) rfl (ap_RmE hz (by decide)) rfl rfl (Nat.le_of_ble_eq_true rfl) dX8_feed_22 rfl (ap_ki (fun r_3 M_4 h => ?_))
      exact ap_iret hc hz rfl dX8_feed_25 h
    · have h := Eq.mp (if_neg z_2) h
      refine ap_bipush (q := 12) hc dX8_feed_10 rfl bc_m2 ?_
      exact ap_iret hc hz rfl dX8_feed_12 h
theorem ok_X8_feed {l : Launch} {g : ap_G} (hg : ap_GOK g) {q : Nat} (hq : ap_kd q = 8) {x1 : Int32} {M : ap_Mem} {K : Int32 → ap_Mem → Prop} (h : w_X8_feed q x1 M K) : ap_Ct l g yX8_feed cX8_feed 2 (some .int) 1 [.ref (ap_ad g q), .int x1] M (ap_Qi K) := by
  refine ap_Ct_of hg (by decide +kernel) (Nat.le_of_ble_eq_true rfl) (fun x hx hc hz => ?_)
  subst hx
  exact bl_X8_feed_0 hc hz hq h
def w_X8_town   (q : Nat)  (M : ap_Mem) (K : Int32 → ap_Mem → Prop) : Prop :=
(if (M (q + 1) 2) < 5 then (w_X4_reads (q + 63) (q + 2) M (fun r_2 M_3 => w_X5_clear (q + 2) M_3 (fun r_4 M_5 => (if r_2 = 0 then (K ((-10) - (M_5 (q + 63) 1)) M_5) else (w_X7_copyFrom (q + 5) (q + 64) M_5 (fun M_7 => ∀ M_8 : ap_Mem, M_8 = ap_mu M_7 (q + 1) 2 ((M_7 (q + 1) 2) + 1) → K ((M_8 (q + 1) 2) - 1) M_8)))))) else (K (-4) M))
theorem bl_X8_town_0 {x : ap_X} {g : ap_G} (hc : ap_Cx x g cX8_town RX8 2) {K : Int32 → ap_Mem → Prop} (hz : ap_Ends x g 10 (some .int) (ap_Qi K))   {q : Nat} (hq : ap_kd q = 8)    {M : ap_Mem}  (h : w_X8_town   q  M K) : ap_V x g 2 0 [(0, .ref (ap_ad g q))] [] M := by
  have hg := hc.2.2.2.2.2.2.2.1
  unfold w_X8_town at h
  refine ap_aload_n (q := 1) hc dX8_town_0 rfl rfl 0 rfl ?_
  refine ap_getR (q := 4) (r := q + 1) lg_RX8_12 (by decide) hq rfl hc dX8_town_1 rfl ?_
  refine ap_getI (q := 7) lg_RX8_56 (ty_8_1 hq) hc dX8_town_4 rfl ?_
  refine ap_iconst (q := 8) hc dX8_town_7 rfl ic_5 ?_
  refine ap_icmp_lt (q := 11) (tgt := 14) hc dX8_town_8 rfl (by decide) (fun z_1 => ?_) (fun z_1 => ?_)
  · have h := Eq.mp (if_pos z_1) h
    refine ap_aload_n (q := 15) hc dX8_town_14 rfl rfl 0 rfl ?_
    refine ap_getR (q := 18) (r := q + 63) lg_RX8_28 (by decide) hq rfl hc dX8_town_15 rfl ?_
    refine ap_aload_n (q := 19) hc dX8_town_18 rfl rfl 0 rfl ?_
    refine ap_getR (q := 22) (r := q + 1) lg_RX8_12 (by decide) hq rfl hc dX8_town_19 rfl ?_
    refine ap_getR (q := 25) (r := q + 2) lg_RX8_46 (by decide) (ty_8_1 hq) rfl hc dX8_town_22 rfl ?_
    refine ap_callV (q := 28) (As := [.ref (ap_ad g (q + 2))]) hc (ok_X4_reads hg (ty_8_63 hq) (ty_8_2 hq) h) ml_RX8_60 lk_X4_reads lv_X4_reads (ty_8_63 hq) rfl (ap_RmE hz (by decide)) rfl rfl (Nat.le_of_ble_eq_true rfl) dX8_town_25 rfl (ap_ki (fun r_2 M_3 h => ?_))
    refine ap_istore_n (q := 29) (lo2 := [(1, .int r_2), (0, .ref (ap_ad g q))]) hc dX8_town_28 rfl rfl rfl (by decide) rfl ?_
    refine ap_aload_n (q := 30) hc dX8_town_29 rfl rfl 1 rfl ?_
    refine ap_getR (q := 33) (r := q + 1) lg_RX8_12 (by decide) hq rfl hc dX8_town_30 rfl ?_
    refine ap_getR (q := 36) (r := q + 2) lg_RX8_46 (by decide) (ty_8_1 hq) rfl hc dX8_town_33 rfl ?_
    refine ap_callV (q := 39) (As := []) hc (ok_X5_clear hg (ty_8_2 hq) h) ml_RX8_64 lk_X5_clear lv_X5_clear (ty_8_2 hq) rfl (ap_RmE hz (by decide)) rfl rfl (Nat.le_of_ble_eq_true rfl) dX8_town_36 rfl (ap_ki (fun r_4 M_5 h => ?_))
    refine ap_pop (q := 40) hc dX8_town_39 rfl rfl ?_
    refine ap_iload_n (q := 41) hc dX8_town_40 rfl rfl 0 rfl ?_
    refine ap_if_ne (q := 44) (tgt := 55) hc dX8_town_41 rfl (by decide) (fun z_6 => ?_) (fun z_6 => ?_)
    · have h := Eq.mp (if_neg z_6) h
      refine ap_aload_n (q := 56) hc dX8_town_55 rfl rfl 1 rfl ?_
      refine ap_getR (q := 59) (r := q + 1) lg_RX8_12 (by decide) hq rfl hc dX8_town_56 rfl ?_
      refine ap_getR (q := 62) (r := q + 5) lg_RX8_71 (by decide) (ty_8_1 hq) rfl hc dX8_town_59 rfl ?_
      refine ap_aload_n (q := 63) hc dX8_town_62 rfl rfl 1 rfl ?_
      refine ap_getR (q := 66) (r := q + 63) lg_RX8_28 (by decide) hq rfl hc dX8_town_63 rfl ?_
      refine ap_getR (q := 69) (r := q + 64) lg_RX8_75 (by decide) (ty_8_63 hq) rfl hc dX8_town_66 rfl ?_
      refine ap_callV (q := 72) (As := [.ref (ap_ad g (q + 64))]) hc (ok_X7_copyFrom hg (ty_8_5 hq) (ty_8_64 hq) h) ml_RX8_78 lk_X7_copyFrom lv_X7_copyFrom (ty_8_5 hq) rfl (ap_RmE hz (by decide)) rfl rfl (Nat.le_of_ble_eq_true rfl) dX8_town_69 rfl (ap_kv (fun M_7 h => ?_))
      refine ap_aload_n (q := 73) hc dX8_town_72 rfl rfl 1 rfl ?_
      refine ap_getR (q := 76) (r := q + 1) lg_RX8_12 (by decide) hq rfl hc dX8_town_73 rfl ?_
      refine ap_dup (q := 77) hc dX8_town_76 rfl rfl ?_
      refine ap_getI (q := 80) lg_RX8_56 (ty_8_1 hq) hc dX8_town_77 rfl ?_
      refine ap_iconst (q := 81) hc dX8_town_80 rfl ic_1 ?_
      refine ap_iadd (q := 82) hc dX8_town_81 rfl ?_
      obtain ⟨M_8, eM_8, h⟩ := ap_nm h
      refine ap_putI (q := 85) lp_RX8_56 (ty_8_1 hq) eM_8 hc dX8_town_82 rfl ?_
      refine ap_aload_n (q := 86) hc dX8_town_85 rfl rfl 1 rfl ?_
      refine ap_getR (q := 89) (r := q + 1) lg_RX8_12 (by decide) hq rfl hc dX8_town_86 rfl ?_
      refine ap_getI (q := 92) lg_RX8_56 (ty_8_1 hq) hc dX8_town_89 rfl ?_
      refine ap_iconst (q := 93) hc dX8_town_92 rfl ic_1 ?_
      refine ap_isub (q := 94) hc dX8_town_93 rfl ?_
      exact ap_iret hc hz rfl dX8_town_94 h
    · have h := Eq.mp (if_pos z_6) h
      refine ap_bipush (q := 46) hc dX8_town_44 rfl bc_m10 ?_
      refine ap_aload_n (q := 47) hc dX8_town_46 rfl rfl 1 rfl ?_
      refine ap_getR (q := 50) (r := q + 63) lg_RX8_28 (by decide) hq rfl hc dX8_town_47 rfl ?_
      refine ap_getI (q := 53) lg_RX8_68 (ty_8_63 hq) hc dX8_town_50 rfl ?_
      refine ap_isub (q := 54) hc dX8_town_53 rfl ?_
      exact ap_iret hc hz rfl dX8_town_54 h
  · have h := Eq.mp (if_neg z_1) h
    refine ap_bipush (q := 13) hc dX8_town_11 rfl bc_m4 ?_
    exact ap_iret hc hz rfl dX8_town_13 h
theorem ok_X8_town {l : Launch} {g : ap_G} (hg : ap_GOK g) {q : Nat} (hq : ap_kd q = 8)  {M : ap_Mem} {K : Int32 → ap_Mem → Prop} (h : w_X8_town q  M K) : ap_Ct l g yX8_town cX8_town 2 (some .int) 10 [.ref (ap_ad g q)] M (ap_Qi K) := by
  refine ap_Ct_of hg (by decide +kernel) (Nat.le_of_ble_eq_true rfl) (fun x hx hc hz => ?_)
  subst hx
  exact bl_X8_town_0 hc hz hq h
def w_X8_person   (q : Nat) (x1 : Int32) (x2 : Int32) (x3 : Int32) (M : ap_Mem) (K : Int32 → ap_Mem → Prop) : Prop :=
w_X8_isKind x1 M (fun r_1 M_2 => (if r_1 = 0 then (K (-1) M_2) else (w_X8_isCell x3 M_2 (fun r_4 M_5 => (if r_4 = 0 then (K (-1) M_5) else (w_X8_isDigit x2 M_5 (fun r_7 M_8 => (if r_7 = 0 then (K (-2) M_8) else (w_X3_add (q + 13) x1 x2 x3 M_8 (fun r_10 M_11 => K r_10 M_11))))))))))
theorem bl_X8_person_0 {x : ap_X} {g : ap_G} (hc : ap_Cx x g cX8_person RX8 4) {K : Int32 → ap_Mem → Prop} (hz : ap_Ends x g 2 (some .int) (ap_Qi K))   {q : Nat} (hq : ap_kd q = 8)   {x1 : Int32} {x2 : Int32} {x3 : Int32} {M : ap_Mem}  (h : w_X8_person   q x1 x2 x3 M K) : ap_V x g 4 0 [(0, .ref (ap_ad g q)), (1, .int x1), (2, .int x2), (3, .int x3)] [] M := by
  have hg := hc.2.2.2.2.2.2.2.1
  unfold w_X8_person at h
  refine ap_iload_n (q := 1) hc dX8_person_0 rfl rfl 1 rfl ?_
  refine ap_callS (q := 4) (As := [.int x1]) hc (ok_X8_isKind hg  h) ml_RX8_84 lk_X8_isKind ls_X8_isKind (ap_RmE hz (by decide)) rfl rfl (Nat.le_of_ble_eq_true rfl) dX8_person_1 rfl (ap_ki (fun r_1 M_2 h => ?_))
  refine ap_if_eq (q := 7) (tgt := 14) hc dX8_person_4 rfl (by decide) (fun z_3 => ?_) (fun z_3 => ?_)
  · have h := Eq.mp (if_pos z_3) h
    refine ap_iconst (q := 15) hc dX8_person_14 rfl ic_m1 ?_
    exact ap_iret hc hz rfl dX8_person_15 h
  · have h := Eq.mp (if_neg z_3) h
    refine ap_iload_n (q := 8) hc dX8_person_7 rfl rfl 3 rfl ?_
    refine ap_callS (q := 11) (As := [.int x3]) hc (ok_X8_isCell hg  h) ml_RX8_88 lk_X8_isCell ls_X8_isCell (ap_RmE hz (by decide)) rfl rfl (Nat.le_of_ble_eq_true rfl) dX8_person_8 rfl (ap_ki (fun r_4 M_5 h => ?_))
    refine ap_if_ne (q := 14) (tgt := 16) hc dX8_person_11 rfl (by decide) (fun z_6 => ?_) (fun z_6 => ?_)
    · have h := Eq.mp (if_neg z_6) h
      refine ap_iload_n (q := 17) hc dX8_person_16 rfl rfl 2 rfl ?_
      refine ap_callS (q := 20) (As := [.int x2]) hc (ok_X8_isDigit hg  h) ml_RX8_91 lk_X8_isDigit ls_X8_isDigit (ap_RmE hz (by decide)) rfl rfl (Nat.le_of_ble_eq_true rfl) dX8_person_17 rfl (ap_ki (fun r_7 M_8 h => ?_))
      refine ap_if_ne (q := 23) (tgt := 26) hc dX8_person_20 rfl (by decide) (fun z_9 => ?_) (fun z_9 => ?_)
      · have h := Eq.mp (if_neg z_9) h
        refine ap_aload_n (q := 27) hc dX8_person_26 rfl rfl 0 rfl ?_
        refine ap_getR (q := 30) (r := q + 1) lg_RX8_12 (by decide) hq rfl hc dX8_person_27 rfl ?_
        refine ap_getR (q := 33) (r := q + 13) lg_RX8_94 (by decide) (ty_8_1 hq) rfl hc dX8_person_30 rfl ?_
        refine ap_iload_n (q := 34) hc dX8_person_33 rfl rfl 1 rfl ?_
        refine ap_iload_n (q := 35) hc dX8_person_34 rfl rfl 2 rfl ?_
        refine ap_iload_n (q := 36) hc dX8_person_35 rfl rfl 3 rfl ?_
        refine ap_callV (q := 39) (As := [.int x1, .int x2, .int x3]) hc (ok_X3_add hg (ty_8_13 hq) h) ml_RX8_98 lk_X3_add lv_X3_add (ty_8_13 hq) rfl (ap_RmE hz (by decide)) rfl rfl (Nat.le_of_ble_eq_true rfl) dX8_person_36 rfl (ap_ki (fun r_10 M_11 h => ?_))
        exact ap_iret hc hz rfl dX8_person_39 h
      · have h := Eq.mp (if_pos z_9) h
        refine ap_bipush (q := 25) hc dX8_person_23 rfl bc_m2 ?_
        exact ap_iret hc hz rfl dX8_person_25 h
    · have h := Eq.mp (if_pos z_6) h
      refine ap_iconst (q := 15) hc dX8_person_14 rfl ic_m1 ?_
      exact ap_iret hc hz rfl dX8_person_15 h
theorem ok_X8_person {l : Launch} {g : ap_G} (hg : ap_GOK g) {q : Nat} (hq : ap_kd q = 8) {x1 : Int32} {x2 : Int32} {x3 : Int32} {M : ap_Mem} {K : Int32 → ap_Mem → Prop} (h : w_X8_person q x1 x2 x3 M K) : ap_Ct l g yX8_person cX8_person 4 (some .int) 2 [.ref (ap_ad g q), .int x1, .int x2, .int x3] M (ap_Qi K) := by
  refine ap_Ct_of hg (by decide +kernel) (Nat.le_of_ble_eq_true rfl) (fun x hx hc hz => ?_)
  subst hx
  exact bl_X8_person_0 hc hz hq h
def w_X8_of   (q : Nat) (x1 : Int32) (x2 : Int32) (M : ap_Mem) (K : Int32 → ap_Mem → Prop) : Prop :=
w_X3_has (q + 13) x1 M (fun r_1 M_2 => (if r_1 = 0 then (K (-999999) M_2) else ((if x2 = 0 then (vp_in x1 6 ∧ K (M_2 (q + 14) x1.toNatClampNeg) M_2) else (if x2 = 1 then (vp_in x1 6 ∧ K (M_2 (q + 15) x1.toNatClampNeg) M_2) else (if x2 = 2 then (vp_in x1 6 ∧ K (M_2 (q + 16) x1.toNatClampNeg) M_2) else (if x2 = 3 then (w_X3_isAway (q + 13) x1 M_2 (fun r_11 M_12 => (if r_11 = 0 then (K 0 M_12) else (K 1 M_12)))) else (w_X8_isCell (x2 - 10) M_2 (fun r_14 M_15 => (if r_14 = 0 then (w_X8_isCell (x2 - 30) M_15 (fun r_17 M_18 => (if r_17 = 0 then (K (-999999) M_18) else (w_X2_begin (q + 76) (q + 1) M_18 (fun M_20 => w_X2_reckon (q + 76) M_20 (fun M_21 => w_X2_tug (q + 76) x1 (x2 - 30) M_21 (fun r_22 M_23 => K r_22 M_23))))))) else (w_X2_begin (q + 76) (q + 1) M_15 (fun M_24 => w_X2_lure (q + 76) x1 (x2 - 10) M_24 (fun r_25 M_26 => K r_25 M_26)))))))))))))
theorem bl_X8_of_0 {x : ap_X} {g : ap_G} (hc : ap_Cx x g cX8_of RX8 3) {K : Int32 → ap_Mem → Prop} (hz : ap_Ends x g 4 (some .int) (ap_Qi K))   {q : Nat} (hq : ap_kd q = 8)   {x1 : Int32} {x2 : Int32} {M : ap_Mem}  (h : w_X8_of   q x1 x2 M K) : ap_V x g 3 0 [(0, .ref (ap_ad g q)), (1, .int x1), (2, .int x2)] [] M := by
  have hg := hc.2.2.2.2.2.2.2.1
  unfold w_X8_of at h
  refine ap_aload_n (q := 1) hc dX8_of_0 rfl rfl 0 rfl ?_
  refine ap_getR (q := 4) (r := q + 1) lg_RX8_12 (by decide) hq rfl hc dX8_of_1 rfl ?_
  refine ap_getR (q := 7) (r := q + 13) lg_RX8_94 (by decide) (ty_8_1 hq) rfl hc dX8_of_4 rfl ?_
  refine ap_iload_n (q := 8) hc dX8_of_7 rfl rfl 1 rfl ?_
  refine ap_callV (q := 11) (As := [.int x1]) hc (ok_X3_has hg (ty_8_13 hq) h) ml_RX8_103 lk_X3_has lv_X3_has (ty_8_13 hq) rfl (ap_RmE hz (by decide)) rfl rfl (Nat.le_of_ble_eq_true rfl) dX8_of_8 rfl (ap_ki (fun r_1 M_2 h => ?_))
  refine ap_if_ne (q := 14) (tgt := 17) hc dX8_of_11 rfl (by decide) (fun z_3 => ?_) (fun z_3 => ?_)
  · have h := Eq.mp (if_neg z_3) h
    refine ap_iload_n (q := 18) hc dX8_of_17 rfl rfl 2 rfl ?_
    by_cases z_4 : x2 = 0
    · have h := Eq.mp (if_pos z_4) h
      refine ap_tabIn (tgt := 48) (off := 30) (v := 0) hc dX8_of_18 z_4 (by decide) (by decide) (by decide +kernel) (by decide) ?_
      refine ap_aload_n (q := 49) hc dX8_of_48 rfl rfl 0 rfl ?_
      refine ap_getR (q := 52) (r := q + 1) lg_RX8_12 (by decide) hq rfl hc dX8_of_49 rfl ?_
      refine ap_getR (q := 55) (r := q + 13) lg_RX8_94 (by decide) (ty_8_1 hq) rfl hc dX8_of_52 rfl ?_
      refine ap_getR (q := 58) (r := q + 14) lg_RX8_107 (by decide) (ty_8_13 hq) rfl hc dX8_of_55 rfl ?_
      refine ap_iload_n (q := 59) hc dX8_of_58 rfl rfl 1 rfl ?_
      obtain ⟨g_5, h⟩ := h
      refine ap_iald (q := 60) (ty_8_14 hq) (tn_8_14 hq) g_5 hc dX8_of_59 rfl ?_
      exact ap_iret hc hz rfl dX8_of_60 h
    · have h := Eq.mp (if_neg z_4) h
      by_cases z_6 : x2 = 1
      · have h := Eq.mp (if_pos z_6) h
        refine ap_tabIn (tgt := 61) (off := 43) (v := 1) hc dX8_of_18 z_6 (by decide) (by decide) (by decide +kernel) (by decide) ?_
        refine ap_aload_n (q := 62) hc dX8_of_61 rfl rfl 0 rfl ?_
        refine ap_getR (q := 65) (r := q + 1) lg_RX8_12 (by decide) hq rfl hc dX8_of_62 rfl ?_
        refine ap_getR (q := 68) (r := q + 13) lg_RX8_94 (by decide) (ty_8_1 hq) rfl hc dX8_of_65 rfl ?_
        refine ap_getR (q := 71) (r := q + 15) lg_RX8_111 (by decide) (ty_8_13 hq) rfl hc dX8_of_68 rfl ?_
        refine ap_iload_n (q := 72) hc dX8_of_71 rfl rfl 1 rfl ?_
        obtain ⟨g_7, h⟩ := h
        refine ap_iald (q := 73) (ty_8_15 hq) (tn_8_15 hq) g_7 hc dX8_of_72 rfl ?_
        exact ap_iret hc hz rfl dX8_of_73 h
      · have h := Eq.mp (if_neg z_6) h
        by_cases z_8 : x2 = 2
        · have h := Eq.mp (if_pos z_8) h
          refine ap_tabIn (tgt := 74) (off := 56) (v := 2) hc dX8_of_18 z_8 (by decide) (by decide) (by decide +kernel) (by decide) ?_
          refine ap_aload_n (q := 75) hc dX8_of_74 rfl rfl 0 rfl ?_
          refine ap_getR (q := 78) (r := q + 1) lg_RX8_12 (by decide) hq rfl hc dX8_of_75 rfl ?_
          refine ap_getR (q := 81) (r := q + 13) lg_RX8_94 (by decide) (ty_8_1 hq) rfl hc dX8_of_78 rfl ?_
          refine ap_getR (q := 84) (r := q + 16) lg_RX8_114 (by decide) (ty_8_13 hq) rfl hc dX8_of_81 rfl ?_
          refine ap_iload_n (q := 85) hc dX8_of_84 rfl rfl 1 rfl ?_
          obtain ⟨g_9, h⟩ := h
          refine ap_iald (q := 86) (ty_8_16 hq) (tn_8_16 hq) g_9 hc dX8_of_85 rfl ?_
          exact ap_iret hc hz rfl dX8_of_86 h
        · have h := Eq.mp (if_neg z_8) h
          by_cases z_10 : x2 = 3
          · have h := Eq.mp (if_pos z_10) h
            refine ap_tabIn (tgt := 87) (off := 69) (v := 3) hc dX8_of_18 z_10 (by decide) (by decide) (by decide +kernel) (by decide) ?_
            refine ap_aload_n (q := 88) hc dX8_of_87 rfl rfl 0 rfl ?_
            refine ap_getR (q := 91) (r := q + 1) lg_RX8_12 (by decide) hq rfl hc dX8_of_88 rfl ?_
            refine ap_getR (q := 94) (r := q + 13) lg_RX8_94 (by decide) (ty_8_1 hq) rfl hc dX8_of_91 rfl ?_
            refine ap_iload_n (q := 95) hc dX8_of_94 rfl rfl 1 rfl ?_
            refine ap_callV (q := 98) (As := [.int x1]) hc (ok_X3_isAway hg (ty_8_13 hq) h) ml_RX8_117 lk_X3_isAway lv_X3_isAway (ty_8_13 hq) rfl (ap_RmE hz (by decide)) rfl rfl (Nat.le_of_ble_eq_true rfl) dX8_of_95 rfl (ap_ki (fun r_11 M_12 h => ?_))
            refine ap_if_eq (q := 101) (tgt := 105) hc dX8_of_98 rfl (by decide) (fun z_13 => ?_) (fun z_13 => ?_)
            · have h := Eq.mp (if_pos z_13) h
              refine ap_iconst (q := 106) hc dX8_of_105 rfl ic_0 ?_
              exact ap_iret hc hz rfl dX8_of_106 h
            · have h := Eq.mp (if_neg z_13) h
              refine ap_iconst (q := 102) hc dX8_of_101 rfl ic_1 ?_
              refine ap_goto (q := 106) hc dX8_of_102 (by decide) ?_
              exact ap_iret hc hz rfl dX8_of_106 h
          · have h := Eq.mp (if_neg z_10) h
            refine ap_tabOut (tgt := 107) hc dX8_of_18 (ap_tabNo 4 (by decide) (by decide) (by decide) (fun j hj hjj => ?_)) (by decide) ?_
            · rcases (by omega : j = 0 ∨ j = 1 ∨ j = 2 ∨ j = 3) with rfl | rfl | rfl | rfl
              · exact z_4
              · exact z_6
              · exact z_8
              · exact z_10
            refine ap_iload_n (q := 108) hc dX8_of_107 rfl rfl 2 rfl ?_
            refine ap_bipush (q := 110) hc dX8_of_108 rfl bc_10 ?_
            refine ap_isub (q := 111) hc dX8_of_110 rfl ?_
            refine ap_callS (q := 114) (As := [.int (x2 - 10)]) hc (ok_X8_isCell hg  h) ml_RX8_88 lk_X8_isCell ls_X8_isCell (ap_RmE hz (by decide)) rfl rfl (Nat.le_of_ble_eq_true rfl) dX8_of_111 rfl (ap_ki (fun r_14 M_15 h => ?_))
            refine ap_if_eq (q := 117) (tgt := 141) hc dX8_of_114 rfl (by decide) (fun z_16 => ?_) (fun z_16 => ?_)
            · have h := Eq.mp (if_pos z_16) h
              refine ap_iload_n (q := 142) hc dX8_of_141 rfl rfl 2 rfl ?_
              refine ap_bipush (q := 144) hc dX8_of_142 rfl bc_30 ?_
              refine ap_isub (q := 145) hc dX8_of_144 rfl ?_
              refine ap_callS (q := 148) (As := [.int (x2 - 30)]) hc (ok_X8_isCell hg  h) ml_RX8_88 lk_X8_isCell ls_X8_isCell (ap_RmE hz (by decide)) rfl rfl (Nat.le_of_ble_eq_true rfl) dX8_of_145 rfl (ap_ki (fun r_17 M_18 h => ?_))
              refine ap_if_eq (q := 151) (tgt := 182) hc dX8_of_148 rfl (by decide) (fun z_19 => ?_) (fun z_19 => ?_)
              · have h := Eq.mp (if_pos z_19) h
                refine ap_ldc (q := 184) hc dX8_of_182 rfl ct_RX8_106 ?_
                exact ap_iret hc hz rfl dX8_of_184 h
              · have h := Eq.mp (if_neg z_19) h
                refine ap_aload_n (q := 152) hc dX8_of_151 rfl rfl 0 rfl ?_
                refine ap_getR (q := 155) (r := q + 76) lg_RX8_35 (by decide) hq rfl hc dX8_of_152 rfl ?_
                refine ap_aload_n (q := 156) hc dX8_of_155 rfl rfl 0 rfl ?_
                refine ap_getR (q := 159) (r := q + 1) lg_RX8_12 (by decide) hq rfl hc dX8_of_156 rfl ?_
                refine ap_callV (q := 162) (As := [.ref (ap_ad g (q + 1))]) hc (ok_X2_begin hg (ty_8_76 hq) (ty_8_1 hq) h) ml_RX8_120 lk_X2_begin lv_X2_begin (ty_8_76 hq) rfl (ap_RmE hz (by decide)) rfl rfl (Nat.le_of_ble_eq_true rfl) dX8_of_159 rfl (ap_kv (fun M_20 h => ?_))
                refine ap_aload_n (q := 163) hc dX8_of_162 rfl rfl 0 rfl ?_
                refine ap_getR (q := 166) (r := q + 76) lg_RX8_35 (by decide) hq rfl hc dX8_of_163 rfl ?_
                refine ap_callV (q := 169) (As := []) hc (ok_X2_reckon hg (ty_8_76 hq) h) ml_RX8_127 lk_X2_reckon lv_X2_reckon (ty_8_76 hq) rfl (ap_RmE hz (by decide)) rfl rfl (Nat.le_of_ble_eq_true rfl) dX8_of_166 rfl (ap_kv (fun M_21 h => ?_))
                refine ap_aload_n (q := 170) hc dX8_of_169 rfl rfl 0 rfl ?_
                refine ap_getR (q := 173) (r := q + 76) lg_RX8_35 (by decide) hq rfl hc dX8_of_170 rfl ?_
                refine ap_iload_n (q := 174) hc dX8_of_173 rfl rfl 1 rfl ?_
                refine ap_iload_n (q := 175) hc dX8_of_174 rfl rfl 2 rfl ?_
                refine ap_bipush (q := 177) hc dX8_of_175 rfl bc_30 ?_
                refine ap_isub (q := 178) hc dX8_of_177 rfl ?_
                refine ap_callV (q := 181) (As := [.int x1, .int (x2 - 30)]) hc (ok_X2_tug hg (ty_8_76 hq) h) ml_RX8_130 lk_X2_tug lv_X2_tug (ty_8_76 hq) rfl (ap_RmE hz (by decide)) rfl rfl (Nat.le_of_ble_eq_true rfl) dX8_of_178 rfl (ap_ki (fun r_22 M_23 h => ?_))
                exact ap_iret hc hz rfl dX8_of_181 h
            · have h := Eq.mp (if_neg z_16) h
              refine ap_aload_n (q := 118) hc dX8_of_117 rfl rfl 0 rfl ?_
              refine ap_getR (q := 121) (r := q + 76) lg_RX8_35 (by decide) hq rfl hc dX8_of_118 rfl ?_
              refine ap_aload_n (q := 122) hc dX8_of_121 rfl rfl 0 rfl ?_
              refine ap_getR (q := 125) (r := q + 1) lg_RX8_12 (by decide) hq rfl hc dX8_of_122 rfl ?_
              refine ap_callV (q := 128) (As := [.ref (ap_ad g (q + 1))]) hc (ok_X2_begin hg (ty_8_76 hq) (ty_8_1 hq) h) ml_RX8_120 lk_X2_begin lv_X2_begin (ty_8_76 hq) rfl (ap_RmE hz (by decide)) rfl rfl (Nat.le_of_ble_eq_true rfl) dX8_of_125 rfl (ap_kv (fun M_24 h => ?_))
              refine ap_aload_n (q := 129) hc dX8_of_128 rfl rfl 0 rfl ?_
              refine ap_getR (q := 132) (r := q + 76) lg_RX8_35 (by decide) hq rfl hc dX8_of_129 rfl ?_
              refine ap_iload_n (q := 133) hc dX8_of_132 rfl rfl 1 rfl ?_
              refine ap_iload_n (q := 134) hc dX8_of_133 rfl rfl 2 rfl ?_
              refine ap_bipush (q := 136) hc dX8_of_134 rfl bc_10 ?_
              refine ap_isub (q := 137) hc dX8_of_136 rfl ?_
              refine ap_callV (q := 140) (As := [.int x1, .int (x2 - 10)]) hc (ok_X2_lure hg (ty_8_76 hq) h) ml_RX8_124 lk_X2_lure lv_X2_lure (ty_8_76 hq) rfl (ap_RmE hz (by decide)) rfl rfl (Nat.le_of_ble_eq_true rfl) dX8_of_137 rfl (ap_ki (fun r_25 M_26 h => ?_))
              exact ap_iret hc hz rfl dX8_of_140 h
  · have h := Eq.mp (if_pos z_3) h
    refine ap_ldc (q := 16) hc dX8_of_14 rfl ct_RX8_106 ?_
    exact ap_iret hc hz rfl dX8_of_16 h
theorem ok_X8_of {l : Launch} {g : ap_G} (hg : ap_GOK g) {q : Nat} (hq : ap_kd q = 8) {x1 : Int32} {x2 : Int32} {M : ap_Mem} {K : Int32 → ap_Mem → Prop} (h : w_X8_of q x1 x2 M K) : ap_Ct l g yX8_of cX8_of 3 (some .int) 4 [.ref (ap_ad g q), .int x1, .int x2] M (ap_Qi K) := by
  refine ap_Ct_of hg (by decide +kernel) (Nat.le_of_ble_eq_true rfl) (fun x hx hc hz => ?_)
  subst hx
  exact bl_X8_of_0 hc hz hq h
def w_X8_line   (q : Nat) (x1 : Int32) (x2 : Int32) (x3 : Int32) (M : ap_Mem) (K : Int32 → ap_Mem → Prop) : Prop :=
w_X3_has (q + 13) x1 M (fun r_1 M_2 => (if r_1 = 0 then (K (-1) M_2) else ((if x2 < 0 then (K (-1) M_2) else ((if x2 < 4 then (w_X8_isDigit x3 M_2 (fun r_6 M_7 => (if r_6 = 0 then (K (-2) M_7) else (vp_in x1 6 ∧ (if (M_7 (q + 14) x1.toNatClampNeg) = 6 then (vp_in ((x1 * 4) + x2) 24 ∧ ∀ x4_12 : Int32, x4_12 = M_7 (q + 17) ((x1 * 4) + x2).toNatClampNeg → vp_in ((x1 * 4) + x2) 24 ∧ ∀ M_14 : ap_Mem, M_14 = ap_mu M_7 (q + 17) ((x1 * 4) + x2).toNatClampNeg x3 → K x4_12 M_14) else (K (-3) M_7)))))) else (K (-1) M_2)))))))
theorem bl_X8_line_0 {x : ap_X} {g : ap_G} (hc : ap_Cx x g cX8_line RX8 5) {K : Int32 → ap_Mem → Prop} (hz : ap_Ends x g 1 (some .int) (ap_Qi K))   {q : Nat} (hq : ap_kd q = 8)   {x1 : Int32} {x2 : Int32} {x3 : Int32} {M : ap_Mem}  (h : w_X8_line   q x1 x2 x3 M K) : ap_V x g 5 0 [(0, .ref (ap_ad g q)), (1, .int x1), (2, .int x2), (3, .int x3)] [] M := by
  have hg := hc.2.2.2.2.2.2.2.1
  unfold w_X8_line at h
  refine ap_aload_n (q := 1) hc dX8_line_0 rfl rfl 0 rfl ?_
  refine ap_getR (q := 4) (r := q + 1) lg_RX8_12 (by decide) hq rfl hc dX8_line_1 rfl ?_
  refine ap_getR (q := 7) (r := q + 13) lg_RX8_94 (by decide) (ty_8_1 hq) rfl hc dX8_line_4 rfl ?_
  refine ap_iload_n (q := 8) hc dX8_line_7 rfl rfl 1 rfl ?_
  refine ap_callV (q := 11) (As := [.int x1]) hc (ok_X3_has hg (ty_8_13 hq) h) ml_RX8_103 lk_X3_has lv_X3_has (ty_8_13 hq) rfl (ap_RmE hz (by decide)) rfl rfl (Nat.le_of_ble_eq_true rfl) dX8_line_8 rfl (ap_ki (fun r_1 M_2 h => ?_))
  refine ap_if_eq (q := 14) (tgt := 23) hc dX8_line_11 rfl (by decide) (fun z_3 => ?_) (fun z_3 => ?_)
  · have h := Eq.mp (if_pos z_3) h
    refine ap_iconst (q := 24) hc dX8_line_23 rfl ic_m1 ?_
    exact ap_iret hc hz rfl dX8_line_24 h
  · have h := Eq.mp (if_neg z_3) h
    refine ap_iload_n (q := 15) hc dX8_line_14 rfl rfl 2 rfl ?_
    refine ap_if_lt (q := 18) (tgt := 23) hc dX8_line_15 rfl (by decide) (fun z_4 => ?_) (fun z_4 => ?_)
    · have h := Eq.mp (if_pos z_4) h
      refine ap_iconst (q := 24) hc dX8_line_23 rfl ic_m1 ?_
      exact ap_iret hc hz rfl dX8_line_24 h
    · have h := Eq.mp (if_neg z_4) h
      refine ap_iload_n (q := 19) hc dX8_line_18 rfl rfl 2 rfl ?_
      refine ap_iconst (q := 20) hc dX8_line_19 rfl ic_4 ?_
      refine ap_icmp_lt (q := 23) (tgt := 25) hc dX8_line_20 rfl (by decide) (fun z_5 => ?_) (fun z_5 => ?_)
      · have h := Eq.mp (if_pos z_5) h
        refine ap_iload_n (q := 26) hc dX8_line_25 rfl rfl 3 rfl ?_
        refine ap_callS (q := 29) (As := [.int x3]) hc (ok_X8_isDigit hg  h) ml_RX8_91 lk_X8_isDigit ls_X8_isDigit (ap_RmE hz (by decide)) rfl rfl (Nat.le_of_ble_eq_true rfl) dX8_line_26 rfl (ap_ki (fun r_6 M_7 h => ?_))
        refine ap_if_ne (q := 32) (tgt := 35) hc dX8_line_29 rfl (by decide) (fun z_8 => ?_) (fun z_8 => ?_)
        · have h := Eq.mp (if_neg z_8) h
          refine ap_aload_n (q := 36) hc dX8_line_35 rfl rfl 0 rfl ?_
          refine ap_getR (q := 39) (r := q + 1) lg_RX8_12 (by decide) hq rfl hc dX8_line_36 rfl ?_
          refine ap_getR (q := 42) (r := q + 13) lg_RX8_94 (by decide) (ty_8_1 hq) rfl hc dX8_line_39 rfl ?_
          refine ap_getR (q := 45) (r := q + 14) lg_RX8_107 (by decide) (ty_8_13 hq) rfl hc dX8_line_42 rfl ?_
          refine ap_iload_n (q := 46) hc dX8_line_45 rfl rfl 1 rfl ?_
          obtain ⟨g_9, h⟩ := h
          refine ap_iald (q := 47) (ty_8_14 hq) (tn_8_14 hq) g_9 hc dX8_line_46 rfl ?_
          refine ap_bipush (q := 49) hc dX8_line_47 rfl bc_6 ?_
          refine ap_icmp_eq (q := 52) (tgt := 55) hc dX8_line_49 rfl (by decide) (fun z_10 => ?_) (fun z_10 => ?_)
          · have h := Eq.mp (if_pos z_10) h
            refine ap_aload_n (q := 56) hc dX8_line_55 rfl rfl 0 rfl ?_
            refine ap_getR (q := 59) (r := q + 1) lg_RX8_12 (by decide) hq rfl hc dX8_line_56 rfl ?_
            refine ap_getR (q := 62) (r := q + 13) lg_RX8_94 (by decide) (ty_8_1 hq) rfl hc dX8_line_59 rfl ?_
            refine ap_getR (q := 65) (r := q + 17) lg_RX8_133 (by decide) (ty_8_13 hq) rfl hc dX8_line_62 rfl ?_
            refine ap_iload_n (q := 66) hc dX8_line_65 rfl rfl 1 rfl ?_
            refine ap_iconst (q := 67) hc dX8_line_66 rfl ic_4 ?_
            refine ap_imul (q := 68) hc dX8_line_67 rfl ?_
            refine ap_iload_n (q := 69) hc dX8_line_68 rfl rfl 2 rfl ?_
            refine ap_iadd (q := 70) hc dX8_line_69 rfl ?_
            obtain ⟨g_11, h⟩ := h
            refine ap_iald (q := 71) (ty_8_17 hq) (tn_8_17 hq) g_11 hc dX8_line_70 rfl ?_
            obtain ⟨x4_12, ex4_12, h⟩ := ap_nm h
            refine ap_istore (q := 73) (lo2 := [(4, .int x4_12), (0, .ref (ap_ad g q)), (1, .int x1), (2, .int x2), (3, .int x3)]) hc dX8_line_71 rfl ex4_12 (by decide) rfl ?_
            refine ap_aload_n (q := 74) hc dX8_line_73 rfl rfl 1 rfl ?_
            refine ap_getR (q := 77) (r := q + 1) lg_RX8_12 (by decide) hq rfl hc dX8_line_74 rfl ?_
            refine ap_getR (q := 80) (r := q + 13) lg_RX8_94 (by decide) (ty_8_1 hq) rfl hc dX8_line_77 rfl ?_
            refine ap_getR (q := 83) (r := q + 17) lg_RX8_133 (by decide) (ty_8_13 hq) rfl hc dX8_line_80 rfl ?_
            refine ap_iload_n (q := 84) hc dX8_line_83 rfl rfl 2 rfl ?_
            refine ap_iconst (q := 85) hc dX8_line_84 rfl ic_4 ?_
            refine ap_imul (q := 86) hc dX8_line_85 rfl ?_
            refine ap_iload_n (q := 87) hc dX8_line_86 rfl rfl 3 rfl ?_
            refine ap_iadd (q := 88) hc dX8_line_87 rfl ?_
            refine ap_iload_n (q := 89) hc dX8_line_88 rfl rfl 4 rfl ?_
            obtain ⟨g_13, h⟩ := h
            obtain ⟨M_14, eM_14, h⟩ := ap_nm h
            refine ap_iast (q := 90) (ty_8_17 hq) (tn_8_17 hq) g_13 eM_14 hc dX8_line_89 rfl ?_
            refine ap_iload (q := 92) hc dX8_line_90 rfl 0 rfl ?_
            exact ap_iret hc hz rfl dX8_line_92 h
          · have h := Eq.mp (if_neg z_10) h
            refine ap_bipush (q := 54) hc dX8_line_52 rfl bc_m3 ?_
            exact ap_iret hc hz rfl dX8_line_54 h
        · have h := Eq.mp (if_pos z_8) h
          refine ap_bipush (q := 34) hc dX8_line_32 rfl bc_m2 ?_
          exact ap_iret hc hz rfl dX8_line_34 h
      · have h := Eq.mp (if_neg z_5) h
        refine ap_iconst (q := 24) hc dX8_line_23 rfl ic_m1 ?_
        exact ap_iret hc hz rfl dX8_line_24 h
theorem ok_X8_line {l : Launch} {g : ap_G} (hg : ap_GOK g) {q : Nat} (hq : ap_kd q = 8) {x1 : Int32} {x2 : Int32} {x3 : Int32} {M : ap_Mem} {K : Int32 → ap_Mem → Prop} (h : w_X8_line q x1 x2 x3 M K) : ap_Ct l g yX8_line cX8_line 5 (some .int) 1 [.ref (ap_ad g q), .int x1, .int x2, .int x3] M (ap_Qi K) := by
  refine ap_Ct_of hg (by decide +kernel) (Nat.le_of_ble_eq_true rfl) (fun x hx hc hz => ?_)
  subst hx
  exact bl_X8_line_0 hc hz hq h
def w_X8_move   (q : Nat) (x1 : Int32) (x2 : Int32) (M : ap_Mem) (K : Int32 → ap_Mem → Prop) : Prop :=
w_X3_has (q + 13) x1 M (fun r_1 M_2 => (if r_1 = 0 then (K (-1) M_2) else (w_X8_isCell x2 M_2 (fun r_4 M_5 => (if r_4 = 0 then (K (-1) M_5) else (vp_in x1 6 ∧ ∀ x3_8 : Int32, x3_8 = M_5 (q + 16) x1.toNatClampNeg → vp_in x1 6 ∧ ∀ M_10 : ap_Mem, M_10 = ap_mu M_5 (q + 16) x1.toNatClampNeg x2 → K x3_8 M_10))))))
theorem bl_X8_move_0 {x : ap_X} {g : ap_G} (hc : ap_Cx x g cX8_move RX8 4) {K : Int32 → ap_Mem → Prop} (hz : ap_Ends x g 1 (some .int) (ap_Qi K))   {q : Nat} (hq : ap_kd q = 8)   {x1 : Int32} {x2 : Int32} {M : ap_Mem}  (h : w_X8_move   q x1 x2 M K) : ap_V x g 4 0 [(0, .ref (ap_ad g q)), (1, .int x1), (2, .int x2)] [] M := by
  have hg := hc.2.2.2.2.2.2.2.1
  unfold w_X8_move at h
  refine ap_aload_n (q := 1) hc dX8_move_0 rfl rfl 0 rfl ?_
  refine ap_getR (q := 4) (r := q + 1) lg_RX8_12 (by decide) hq rfl hc dX8_move_1 rfl ?_
  refine ap_getR (q := 7) (r := q + 13) lg_RX8_94 (by decide) (ty_8_1 hq) rfl hc dX8_move_4 rfl ?_
  refine ap_iload_n (q := 8) hc dX8_move_7 rfl rfl 1 rfl ?_
  refine ap_callV (q := 11) (As := [.int x1]) hc (ok_X3_has hg (ty_8_13 hq) h) ml_RX8_103 lk_X3_has lv_X3_has (ty_8_13 hq) rfl (ap_RmE hz (by decide)) rfl rfl (Nat.le_of_ble_eq_true rfl) dX8_move_8 rfl (ap_ki (fun r_1 M_2 h => ?_))
  refine ap_if_eq (q := 14) (tgt := 21) hc dX8_move_11 rfl (by decide) (fun z_3 => ?_) (fun z_3 => ?_)
  · have h := Eq.mp (if_pos z_3) h
    refine ap_iconst (q := 22) hc dX8_move_21 rfl ic_m1 ?_
    exact ap_iret hc hz rfl dX8_move_22 h
  · have h := Eq.mp (if_neg z_3) h
    refine ap_iload_n (q := 15) hc dX8_move_14 rfl rfl 2 rfl ?_
    refine ap_callS (q := 18) (As := [.int x2]) hc (ok_X8_isCell hg  h) ml_RX8_88 lk_X8_isCell ls_X8_isCell (ap_RmE hz (by decide)) rfl rfl (Nat.le_of_ble_eq_true rfl) dX8_move_15 rfl (ap_ki (fun r_4 M_5 h => ?_))
    refine ap_if_ne (q := 21) (tgt := 23) hc dX8_move_18 rfl (by decide) (fun z_6 => ?_) (fun z_6 => ?_)
    · have h := Eq.mp (if_neg z_6) h
      refine ap_aload_n (q := 24) hc dX8_move_23 rfl rfl 0 rfl ?_
      refine ap_getR (q := 27) (r := q + 1) lg_RX8_12 (by decide) hq rfl hc dX8_move_24 rfl ?_
      refine ap_getR (q := 30) (r := q + 13) lg_RX8_94 (by decide) (ty_8_1 hq) rfl hc dX8_move_27 rfl ?_
      refine ap_getR (q := 33) (r := q + 16) lg_RX8_114 (by decide) (ty_8_13 hq) rfl hc dX8_move_30 rfl ?_
      refine ap_iload_n (q := 34) hc dX8_move_33 rfl rfl 1 rfl ?_
      obtain ⟨g_7, h⟩ := h
      refine ap_iald (q := 35) (ty_8_16 hq) (tn_8_16 hq) g_7 hc dX8_move_34 rfl ?_
      obtain ⟨x3_8, ex3_8, h⟩ := ap_nm h
      refine ap_istore_n (q := 36) (lo2 := [(3, .int x3_8), (0, .ref (ap_ad g q)), (1, .int x1), (2, .int x2)]) hc dX8_move_35 rfl rfl ex3_8 (by decide) rfl ?_
      refine ap_aload_n (q := 37) hc dX8_move_36 rfl rfl 1 rfl ?_
      refine ap_getR (q := 40) (r := q + 1) lg_RX8_12 (by decide) hq rfl hc dX8_move_37 rfl ?_
      refine ap_getR (q := 43) (r := q + 13) lg_RX8_94 (by decide) (ty_8_1 hq) rfl hc dX8_move_40 rfl ?_
      refine ap_getR (q := 46) (r := q + 16) lg_RX8_114 (by decide) (ty_8_13 hq) rfl hc dX8_move_43 rfl ?_
      refine ap_iload_n (q := 47) hc dX8_move_46 rfl rfl 2 rfl ?_
      refine ap_iload_n (q := 48) hc dX8_move_47 rfl rfl 3 rfl ?_
      obtain ⟨g_9, h⟩ := h
      obtain ⟨M_10, eM_10, h⟩ := ap_nm h
      refine ap_iast (q := 49) (ty_8_16 hq) (tn_8_16 hq) g_9 eM_10 hc dX8_move_48 rfl ?_
      refine ap_iload_n (q := 50) hc dX8_move_49 rfl rfl 0 rfl ?_
      exact ap_iret hc hz rfl dX8_move_50 h
    · have h := Eq.mp (if_pos z_6) h
      refine ap_iconst (q := 22) hc dX8_move_21 rfl ic_m1 ?_
      exact ap_iret hc hz rfl dX8_move_22 h
theorem ok_X8_move {l : Launch} {g : ap_G} (hg : ap_GOK g) {q : Nat} (hq : ap_kd q = 8) {x1 : Int32} {x2 : Int32} {M : ap_Mem} {K : Int32 → ap_Mem → Prop} (h : w_X8_move q x1 x2 M K) : ap_Ct l g yX8_move cX8_move 4 (some .int) 1 [.ref (ap_ad g q), .int x1, .int x2] M (ap_Qi K) := by
  refine ap_Ct_of hg (by decide +kernel) (Nat.le_of_ble_eq_true rfl) (fun x hx hc hz => ?_)
  subst hx
  exact bl_X8_move_0 hc hz hq h
def w_X8_away   (q : Nat) (x1 : Int32) (x2 : Int32) (M : ap_Mem) (K : Int32 → ap_Mem → Prop) : Prop :=
w_X3_has (q + 13) x1 M (fun r_1 M_2 => (if r_1 = 0 then (K (-1) M_2) else (w_X3_isAway (q + 13) x1 M_2 (fun r_4 M_5 => w_X3_setAway (q + 13) x1 x2 M_5 (fun M_6 => (if r_4 = 0 then (K 0 M_6) else (K 1 M_6)))))))
theorem bl_X8_away_0 {x : ap_X} {g : ap_G} (hc : ap_Cx x g cX8_away RX8 4) {K : Int32 → ap_Mem → Prop} (hz : ap_Ends x g 1 (some .int) (ap_Qi K))   {q : Nat} (hq : ap_kd q = 8)   {x1 : Int32} {x2 : Int32} {M : ap_Mem}  (h : w_X8_away   q x1 x2 M K) : ap_V x g 4 0 [(0, .ref (ap_ad g q)), (1, .int x1), (2, .int x2)] [] M := by
  have hg := hc.2.2.2.2.2.2.2.1
  unfold w_X8_away at h
  refine ap_aload_n (q := 1) hc dX8_away_0 rfl rfl 0 rfl ?_
  refine ap_getR (q := 4) (r := q + 1) lg_RX8_12 (by decide) hq rfl hc dX8_away_1 rfl ?_
  refine ap_getR (q := 7) (r := q + 13) lg_RX8_94 (by decide) (ty_8_1 hq) rfl hc dX8_away_4 rfl ?_
  refine ap_iload_n (q := 8) hc dX8_away_7 rfl rfl 1 rfl ?_
  refine ap_callV (q := 11) (As := [.int x1]) hc (ok_X3_has hg (ty_8_13 hq) h) ml_RX8_103 lk_X3_has lv_X3_has (ty_8_13 hq) rfl (ap_RmE hz (by decide)) rfl rfl (Nat.le_of_ble_eq_true rfl) dX8_away_8 rfl (ap_ki (fun r_1 M_2 h => ?_))
  refine ap_if_ne (q := 14) (tgt := 16) hc dX8_away_11 rfl (by decide) (fun z_3 => ?_) (fun z_3 => ?_)
  · have h := Eq.mp (if_neg z_3) h
    refine ap_aload_n (q := 17) hc dX8_away_16 rfl rfl 0 rfl ?_
    refine ap_getR (q := 20) (r := q + 1) lg_RX8_12 (by decide) hq rfl hc dX8_away_17 rfl ?_
    refine ap_getR (q := 23) (r := q + 13) lg_RX8_94 (by decide) (ty_8_1 hq) rfl hc dX8_away_20 rfl ?_
    refine ap_iload_n (q := 24) hc dX8_away_23 rfl rfl 1 rfl ?_
    refine ap_callV (q := 27) (As := [.int x1]) hc (ok_X3_isAway hg (ty_8_13 hq) h) ml_RX8_117 lk_X3_isAway lv_X3_isAway (ty_8_13 hq) rfl (ap_RmE hz (by decide)) rfl rfl (Nat.le_of_ble_eq_true rfl) dX8_away_24 rfl (ap_ki (fun r_4 M_5 h => ?_))
    refine ap_istore_n (q := 28) (lo2 := [(3, .int r_4), (0, .ref (ap_ad g q)), (1, .int x1), (2, .int x2)]) hc dX8_away_27 rfl rfl rfl (by decide) rfl ?_
    refine ap_aload_n (q := 29) hc dX8_away_28 rfl rfl 1 rfl ?_
    refine ap_getR (q := 32) (r := q + 1) lg_RX8_12 (by decide) hq rfl hc dX8_away_29 rfl ?_
    refine ap_getR (q := 35) (r := q + 13) lg_RX8_94 (by decide) (ty_8_1 hq) rfl hc dX8_away_32 rfl ?_
    refine ap_iload_n (q := 36) hc dX8_away_35 rfl rfl 2 rfl ?_
    refine ap_iload_n (q := 37) hc dX8_away_36 rfl rfl 3 rfl ?_
    refine ap_callV (q := 40) (As := [.int x1, .int x2]) hc (ok_X3_setAway hg (ty_8_13 hq) h) ml_RX8_136 lk_X3_setAway lv_X3_setAway (ty_8_13 hq) rfl (ap_RmE hz (by decide)) rfl rfl (Nat.le_of_ble_eq_true rfl) dX8_away_37 rfl (ap_kv (fun M_6 h => ?_))
    refine ap_iload_n (q := 41) hc dX8_away_40 rfl rfl 0 rfl ?_
    refine ap_if_eq (q := 44) (tgt := 48) hc dX8_away_41 rfl (by decide) (fun z_7 => ?_) (fun z_7 => ?_)
    · have h := Eq.mp (if_pos z_7) h
      refine ap_iconst (q := 49) hc dX8_away_48 rfl ic_0 ?_
      exact ap_iret hc hz rfl dX8_away_49 h
    · have h := Eq.mp (if_neg z_7) h
      refine ap_iconst (q := 45) hc dX8_away_44 rfl ic_1 ?_
      refine ap_goto (q := 49) hc dX8_away_45 (by decide) ?_
      exact ap_iret hc hz rfl dX8_away_49 h
  · have h := Eq.mp (if_pos z_3) h
    refine ap_iconst (q := 15) hc dX8_away_14 rfl ic_m1 ?_
    exact ap_iret hc hz rfl dX8_away_15 h
theorem ok_X8_away {l : Launch} {g : ap_G} (hg : ap_GOK g) {q : Nat} (hq : ap_kd q = 8) {x1 : Int32} {x2 : Int32} {M : ap_Mem} {K : Int32 → ap_Mem → Prop} (h : w_X8_away q x1 x2 M K) : ap_Ct l g yX8_away cX8_away 4 (some .int) 1 [.ref (ap_ad g q), .int x1, .int x2] M (ap_Qi K) := by
  refine ap_Ct_of hg (by decide +kernel) (Nat.le_of_ble_eq_true rfl) (fun x hx hc hz => ?_)
  subst hx
  exact bl_X8_away_0 hc hz hq h
def w_X8_lay   (q : Nat) (x1 : Int32) (M : ap_Mem) (K : Int32 → ap_Mem → Prop) : Prop :=
w_X8_isCell x1 M (fun r_1 M_2 => (if r_1 = 0 then (K (-1) M_2) else (∀ x2_4 : Int32, x2_4 = M_2 (q + 18) 1 → ∀ M_5 : ap_Mem, M_5 = ap_mu M_2 (q + 18) 1 x1 → K x2_4 M_5)))
theorem bl_X8_lay_0 {x : ap_X} {g : ap_G} (hc : ap_Cx x g cX8_lay RX8 3) {K : Int32 → ap_Mem → Prop} (hz : ap_Ends x g 1 (some .int) (ap_Qi K))   {q : Nat} (hq : ap_kd q = 8)   {x1 : Int32} {M : ap_Mem}  (h : w_X8_lay   q x1 M K) : ap_V x g 3 0 [(0, .ref (ap_ad g q)), (1, .int x1)] [] M := by
  have hg := hc.2.2.2.2.2.2.2.1
  unfold w_X8_lay at h
  refine ap_iload_n (q := 1) hc dX8_lay_0 rfl rfl 1 rfl ?_
  refine ap_callS (q := 4) (As := [.int x1]) hc (ok_X8_isCell hg  h) ml_RX8_88 lk_X8_isCell ls_X8_isCell (ap_RmE hz (by decide)) rfl rfl (Nat.le_of_ble_eq_true rfl) dX8_lay_1 rfl (ap_ki (fun r_1 M_2 h => ?_))
  refine ap_if_ne (q := 7) (tgt := 9) hc dX8_lay_4 rfl (by decide) (fun z_3 => ?_) (fun z_3 => ?_)
  · have h := Eq.mp (if_neg z_3) h
    refine ap_aload_n (q := 10) hc dX8_lay_9 rfl rfl 0 rfl ?_
    refine ap_getR (q := 13) (r := q + 1) lg_RX8_12 (by decide) hq rfl hc dX8_lay_10 rfl ?_
    refine ap_getR (q := 16) (r := q + 18) lg_RX8_140 (by decide) (ty_8_1 hq) rfl hc dX8_lay_13 rfl ?_
    refine ap_getI (q := 19) lg_RX8_144 (ty_8_18 hq) hc dX8_lay_16 rfl ?_
    obtain ⟨x2_4, ex2_4, h⟩ := ap_nm h
    refine ap_istore_n (q := 20) (lo2 := [(2, .int x2_4), (0, .ref (ap_ad g q)), (1, .int x1)]) hc dX8_lay_19 rfl rfl ex2_4 (by decide) rfl ?_
    refine ap_aload_n (q := 21) hc dX8_lay_20 rfl rfl 1 rfl ?_
    refine ap_getR (q := 24) (r := q + 1) lg_RX8_12 (by decide) hq rfl hc dX8_lay_21 rfl ?_
    refine ap_getR (q := 27) (r := q + 18) lg_RX8_140 (by decide) (ty_8_1 hq) rfl hc dX8_lay_24 rfl ?_
    refine ap_iload_n (q := 28) hc dX8_lay_27 rfl rfl 2 rfl ?_
    obtain ⟨M_5, eM_5, h⟩ := ap_nm h
    refine ap_putI (q := 31) lp_RX8_144 (ty_8_18 hq) eM_5 hc dX8_lay_28 rfl ?_
    refine ap_iload_n (q := 32) hc dX8_lay_31 rfl rfl 0 rfl ?_
    exact ap_iret hc hz rfl dX8_lay_32 h
  · have h := Eq.mp (if_pos z_3) h
    refine ap_iconst (q := 8) hc dX8_lay_7 rfl ic_m1 ?_
    exact ap_iret hc hz rfl dX8_lay_8 h
theorem ok_X8_lay {l : Launch} {g : ap_G} (hg : ap_GOK g) {q : Nat} (hq : ap_kd q = 8) {x1 : Int32} {M : ap_Mem} {K : Int32 → ap_Mem → Prop} (h : w_X8_lay q x1 M K) : ap_Ct l g yX8_lay cX8_lay 3 (some .int) 1 [.ref (ap_ad g q), .int x1] M (ap_Qi K) := by
  refine ap_Ct_of hg (by decide +kernel) (Nat.le_of_ble_eq_true rfl) (fun x hx hc hz => ?_)
  subst hx
  exact bl_X8_lay_0 hc hz hq h
def w_X8_told   (q : Nat) (x1 : Int32) (M : ap_Mem) (K : Int32 → ap_Mem → Prop) : Prop :=
(if x1 = 0 then (K (M (q + 18) 2) M) else (if x1 = 1 then (K (M (q + 5) 6) M) else (if x1 = 2 then (K (M (q + 18) 1) M) else (if x1 = 3 then (w_X1_cellsLainOn (q + 18) M (fun r_5 M_6 => K r_5 M_6)) else (w_X8_isCell (x1 - 10) M (fun r_7 M_8 => (if r_7 = 0 then (w_X8_isCell (x1 - 30) M_8 (fun r_10 M_11 => (if r_10 = 0 then (K (-999999) M_11) else (vp_in (x1 - 30) 16 ∧ K (M_11 (q + 19) (x1 - 30).toNatClampNeg) M_11)))) else (w_X2_begin (q + 76) (q + 1) M_8 (fun M_14 => w_X2_reckon (q + 76) M_14 (fun M_15 => w_X2_draw (q + 76) (x1 - 10) M_15 (fun r_16 M_17 => K r_16 M_17)))))))))))
theorem bl_X8_told_0 {x : ap_X} {g : ap_G} (hc : ap_Cx x g cX8_told RX8 2) {K : Int32 → ap_Mem → Prop} (hz : ap_Ends x g 4 (some .int) (ap_Qi K))   {q : Nat} (hq : ap_kd q = 8)   {x1 : Int32} {M : ap_Mem}  (h : w_X8_told   q x1 M K) : ap_V x g 2 0 [(0, .ref (ap_ad g q)), (1, .int x1)] [] M := by
  have hg := hc.2.2.2.2.2.2.2.1
  unfold w_X8_told at h
  refine ap_iload_n (q := 1) hc dX8_told_0 rfl rfl 1 rfl ?_
  by_cases z_1 : x1 = 0
  · have h := Eq.mp (if_pos z_1) h
    refine ap_tabIn (tgt := 32) (off := 31) (v := 0) hc dX8_told_1 z_1 (by decide) (by decide) (by decide +kernel) (by decide) ?_
    refine ap_aload_n (q := 33) hc dX8_told_32 rfl rfl 0 rfl ?_
    refine ap_getR (q := 36) (r := q + 1) lg_RX8_12 (by decide) hq rfl hc dX8_told_33 rfl ?_
    refine ap_getR (q := 39) (r := q + 18) lg_RX8_140 (by decide) (ty_8_1 hq) rfl hc dX8_told_36 rfl ?_
    refine ap_getI (q := 42) lg_RX8_148 (ty_8_18 hq) hc dX8_told_39 rfl ?_
    exact ap_iret hc hz rfl dX8_told_42 h
  · have h := Eq.mp (if_neg z_1) h
    by_cases z_2 : x1 = 1
    · have h := Eq.mp (if_pos z_2) h
      refine ap_tabIn (tgt := 43) (off := 42) (v := 1) hc dX8_told_1 z_2 (by decide) (by decide) (by decide +kernel) (by decide) ?_
      refine ap_aload_n (q := 44) hc dX8_told_43 rfl rfl 0 rfl ?_
      refine ap_getR (q := 47) (r := q + 1) lg_RX8_12 (by decide) hq rfl hc dX8_told_44 rfl ?_
      refine ap_getR (q := 50) (r := q + 5) lg_RX8_71 (by decide) (ty_8_1 hq) rfl hc dX8_told_47 rfl ?_
      refine ap_getI (q := 53) lg_RX8_151 (ty_8_5 hq) hc dX8_told_50 rfl ?_
      exact ap_iret hc hz rfl dX8_told_53 h
    · have h := Eq.mp (if_neg z_2) h
      by_cases z_3 : x1 = 2
      · have h := Eq.mp (if_pos z_3) h
        refine ap_tabIn (tgt := 54) (off := 53) (v := 2) hc dX8_told_1 z_3 (by decide) (by decide) (by decide +kernel) (by decide) ?_
        refine ap_aload_n (q := 55) hc dX8_told_54 rfl rfl 0 rfl ?_
        refine ap_getR (q := 58) (r := q + 1) lg_RX8_12 (by decide) hq rfl hc dX8_told_55 rfl ?_
        refine ap_getR (q := 61) (r := q + 18) lg_RX8_140 (by decide) (ty_8_1 hq) rfl hc dX8_told_58 rfl ?_
        refine ap_getI (q := 64) lg_RX8_144 (ty_8_18 hq) hc dX8_told_61 rfl ?_
        exact ap_iret hc hz rfl dX8_told_64 h
      · have h := Eq.mp (if_neg z_3) h
        by_cases z_4 : x1 = 3
        · have h := Eq.mp (if_pos z_4) h
          refine ap_tabIn (tgt := 65) (off := 64) (v := 3) hc dX8_told_1 z_4 (by decide) (by decide) (by decide +kernel) (by decide) ?_
          refine ap_aload_n (q := 66) hc dX8_told_65 rfl rfl 0 rfl ?_
          refine ap_getR (q := 69) (r := q + 1) lg_RX8_12 (by decide) hq rfl hc dX8_told_66 rfl ?_
          refine ap_getR (q := 72) (r := q + 18) lg_RX8_140 (by decide) (ty_8_1 hq) rfl hc dX8_told_69 rfl ?_
          refine ap_callV (q := 75) (As := []) hc (ok_X1_cellsLainOn hg (ty_8_18 hq) h) ml_RX8_154 lk_X1_cellsLainOn lv_X1_cellsLainOn (ty_8_18 hq) rfl (ap_RmE hz (by decide)) rfl rfl (Nat.le_of_ble_eq_true rfl) dX8_told_72 rfl (ap_ki (fun r_5 M_6 h => ?_))
          exact ap_iret hc hz rfl dX8_told_75 h
        · have h := Eq.mp (if_neg z_4) h
          refine ap_tabOut (tgt := 76) hc dX8_told_1 (ap_tabNo 4 (by decide) (by decide) (by decide) (fun j hj hjj => ?_)) (by decide) ?_
          · rcases (by omega : j = 0 ∨ j = 1 ∨ j = 2 ∨ j = 3) with rfl | rfl | rfl | rfl
            · exact z_1
            · exact z_2
            · exact z_3
            · exact z_4
          refine ap_iload_n (q := 77) hc dX8_told_76 rfl rfl 1 rfl ?_
          refine ap_bipush (q := 79) hc dX8_told_77 rfl bc_10 ?_
          refine ap_isub (q := 80) hc dX8_told_79 rfl ?_
          refine ap_callS (q := 83) (As := [.int (x1 - 10)]) hc (ok_X8_isCell hg  h) ml_RX8_88 lk_X8_isCell ls_X8_isCell (ap_RmE hz (by decide)) rfl rfl (Nat.le_of_ble_eq_true rfl) dX8_told_80 rfl (ap_ki (fun r_7 M_8 h => ?_))
          refine ap_if_eq (q := 86) (tgt := 116) hc dX8_told_83 rfl (by decide) (fun z_9 => ?_) (fun z_9 => ?_)
          · have h := Eq.mp (if_pos z_9) h
            refine ap_iload_n (q := 117) hc dX8_told_116 rfl rfl 1 rfl ?_
            refine ap_bipush (q := 119) hc dX8_told_117 rfl bc_30 ?_
            refine ap_isub (q := 120) hc dX8_told_119 rfl ?_
            refine ap_callS (q := 123) (As := [.int (x1 - 30)]) hc (ok_X8_isCell hg  h) ml_RX8_88 lk_X8_isCell ls_X8_isCell (ap_RmE hz (by decide)) rfl rfl (Nat.le_of_ble_eq_true rfl) dX8_told_120 rfl (ap_ki (fun r_10 M_11 h => ?_))
            refine ap_if_eq (q := 126) (tgt := 142) hc dX8_told_123 rfl (by decide) (fun z_12 => ?_) (fun z_12 => ?_)
            · have h := Eq.mp (if_pos z_12) h
              refine ap_ldc (q := 144) hc dX8_told_142 rfl ct_RX8_106 ?_
              exact ap_iret hc hz rfl dX8_told_144 h
            · have h := Eq.mp (if_neg z_12) h
              refine ap_aload_n (q := 127) hc dX8_told_126 rfl rfl 0 rfl ?_
              refine ap_getR (q := 130) (r := q + 1) lg_RX8_12 (by decide) hq rfl hc dX8_told_127 rfl ?_
              refine ap_getR (q := 133) (r := q + 18) lg_RX8_140 (by decide) (ty_8_1 hq) rfl hc dX8_told_130 rfl ?_
              refine ap_getR (q := 136) (r := q + 19) lg_RX8_161 (by decide) (ty_8_18 hq) rfl hc dX8_told_133 rfl ?_
              refine ap_iload_n (q := 137) hc dX8_told_136 rfl rfl 1 rfl ?_
              refine ap_bipush (q := 139) hc dX8_told_137 rfl bc_30 ?_
              refine ap_isub (q := 140) hc dX8_told_139 rfl ?_
              obtain ⟨g_13, h⟩ := h
              refine ap_iald (q := 141) (ty_8_19 hq) (tn_8_19 hq) g_13 hc dX8_told_140 rfl ?_
              exact ap_iret hc hz rfl dX8_told_141 h
          · have h := Eq.mp (if_neg z_9) h
            refine ap_aload_n (q := 87) hc dX8_told_86 rfl rfl 0 rfl ?_
            refine ap_getR (q := 90) (r := q + 76) lg_RX8_35 (by decide) hq rfl hc dX8_told_87 rfl ?_
            refine ap_aload_n (q := 91) hc dX8_told_90 rfl rfl 0 rfl ?_
            refine ap_getR (q := 94) (r := q + 1) lg_RX8_12 (by decide) hq rfl hc dX8_told_91 rfl ?_
            refine ap_callV (q := 97) (As := [.ref (ap_ad g (q + 1))]) hc (ok_X2_begin hg (ty_8_76 hq) (ty_8_1 hq) h) ml_RX8_120 lk_X2_begin lv_X2_begin (ty_8_76 hq) rfl (ap_RmE hz (by decide)) rfl rfl (Nat.le_of_ble_eq_true rfl) dX8_told_94 rfl (ap_kv (fun M_14 h => ?_))
            refine ap_aload_n (q := 98) hc dX8_told_97 rfl rfl 0 rfl ?_
            refine ap_getR (q := 101) (r := q + 76) lg_RX8_35 (by decide) hq rfl hc dX8_told_98 rfl ?_
            refine ap_callV (q := 104) (As := []) hc (ok_X2_reckon hg (ty_8_76 hq) h) ml_RX8_127 lk_X2_reckon lv_X2_reckon (ty_8_76 hq) rfl (ap_RmE hz (by decide)) rfl rfl (Nat.le_of_ble_eq_true rfl) dX8_told_101 rfl (ap_kv (fun M_15 h => ?_))
            refine ap_aload_n (q := 105) hc dX8_told_104 rfl rfl 0 rfl ?_
            refine ap_getR (q := 108) (r := q + 76) lg_RX8_35 (by decide) hq rfl hc dX8_told_105 rfl ?_
            refine ap_iload_n (q := 109) hc dX8_told_108 rfl rfl 1 rfl ?_
            refine ap_bipush (q := 111) hc dX8_told_109 rfl bc_10 ?_
            refine ap_isub (q := 112) hc dX8_told_111 rfl ?_
            refine ap_callV (q := 115) (As := [.int (x1 - 10)]) hc (ok_X2_draw hg (ty_8_76 hq) h) ml_RX8_157 lk_X2_draw lv_X2_draw (ty_8_76 hq) rfl (ap_RmE hz (by decide)) rfl rfl (Nat.le_of_ble_eq_true rfl) dX8_told_112 rfl (ap_ki (fun r_16 M_17 h => ?_))
            exact ap_iret hc hz rfl dX8_told_115 h
theorem ok_X8_told {l : Launch} {g : ap_G} (hg : ap_GOK g) {q : Nat} (hq : ap_kd q = 8) {x1 : Int32} {M : ap_Mem} {K : Int32 → ap_Mem → Prop} (h : w_X8_told q x1 M K) : ap_Ct l g yX8_told cX8_told 2 (some .int) 4 [.ref (ap_ad g q), .int x1] M (ap_Qi K) := by
  refine ap_Ct_of hg (by decide +kernel) (Nat.le_of_ble_eq_true rfl) (fun x hx hc hz => ?_)
  subst hx
  exact bl_X8_told_0 hc hz hq h
def w_X8_pass_44_s   (kL44 : Int32 → Int32 → ap_Mem → Prop) (q : Nat) (x1 : Int32) (x2 : Int32) (M : ap_Mem) (K : Int32 → ap_Mem → Prop) : Prop :=
(if x1 ≤ x2 then (w_X1_copyFrom (q + 18) (q + 82) M (fun M_2 => K (M_2 (q + 18) 1) M_2)) else (w_X2_go (q + 76) 99 M (fun M_3 => ∀ x2_4 : Int32, x2_4 = x2 + 1 → kL44 x1 x2_4 M_3)))
def w_X8_pass_44   (q : Nat) (K : Int32 → ap_Mem → Prop) : Nat → Int32 → Int32 → ap_Mem → Prop
  | 0, _, _, _ => False
  | n + 1, x1, x2, M => w_X8_pass_44_s   (w_X8_pass_44   q K n) q x1 x2 M K
theorem bl_X8_pass_44 {x : ap_X} {g : ap_G} (hc : ap_Cx x g cX8_pass RX8 3) {K : Int32 → ap_Mem → Prop} (hz : ap_Ends x g 5 (some .int) (ap_Qi K))   {q : Nat} (hq : ap_kd q = 8)   : ∀ (n : Nat) (x1 : Int32) (x2 : Int32) (M : ap_Mem), w_X8_pass_44   q K n x1 x2 M → ap_V x g 3 44 [(0, .ref (ap_ad g q)), (1, .int x1), (2, .int x2)] [] M := by
  have hg := hc.2.2.2.2.2.2.2.1
  intro n
  induction n with
  | zero => intro _ _ _ h; exact h.elim
  | succ n ih =>
    intro x1 x2 M h
    replace h : w_X8_pass_44_s   (w_X8_pass_44   q K n) q x1 x2 M K := h
    unfold w_X8_pass_44_s at h
    refine ap_iload_n (q := 45) hc dX8_pass_44 rfl rfl 2 rfl ?_
    refine ap_iload_n (q := 46) hc dX8_pass_45 rfl rfl 1 rfl ?_
    refine ap_icmp_ge (q := 49) (tgt := 64) hc dX8_pass_46 rfl (by decide) (fun z_1 => ?_) (fun z_1 => ?_)
    · have h := Eq.mp (if_pos z_1) h
      refine ap_aload_n (q := 65) hc dX8_pass_64 rfl rfl 0 rfl ?_
      refine ap_getR (q := 68) (r := q + 1) lg_RX8_12 (by decide) hq rfl hc dX8_pass_65 rfl ?_
      refine ap_getR (q := 71) (r := q + 18) lg_RX8_140 (by decide) (ty_8_1 hq) rfl hc dX8_pass_68 rfl ?_
      refine ap_aload_n (q := 72) hc dX8_pass_71 rfl rfl 0 rfl ?_
      refine ap_getR (q := 75) (r := q + 76) lg_RX8_35 (by decide) hq rfl hc dX8_pass_72 rfl ?_
      refine ap_getR (q := 78) (r := q + 82) lg_RX8_171 (by decide) (ty_8_76 hq) rfl hc dX8_pass_75 rfl ?_
      refine ap_callV (q := 81) (As := [.ref (ap_ad g (q + 82))]) hc (ok_X1_copyFrom hg (ty_8_18 hq) (ty_8_82 hq) h) ml_RX8_172 lk_X1_copyFrom lv_X1_copyFrom (ty_8_18 hq) rfl (ap_RmE hz (by decide)) rfl rfl (Nat.le_of_ble_eq_true rfl) dX8_pass_78 rfl (ap_kv (fun M_2 h => ?_))
      refine ap_aload_n (q := 82) hc dX8_pass_81 rfl rfl 0 rfl ?_
      refine ap_getR (q := 85) (r := q + 1) lg_RX8_12 (by decide) hq rfl hc dX8_pass_82 rfl ?_
      refine ap_getR (q := 88) (r := q + 18) lg_RX8_140 (by decide) (ty_8_1 hq) rfl hc dX8_pass_85 rfl ?_
      refine ap_getI (q := 91) lg_RX8_144 (ty_8_18 hq) hc dX8_pass_88 rfl ?_
      exact ap_iret hc hz rfl dX8_pass_91 h
    · have h := Eq.mp (if_neg z_1) h
      refine ap_aload_n (q := 50) hc dX8_pass_49 rfl rfl 0 rfl ?_
      refine ap_getR (q := 53) (r := q + 76) lg_RX8_35 (by decide) hq rfl hc dX8_pass_50 rfl ?_
      refine ap_bipush (q := 55) hc dX8_pass_53 rfl bc_99 ?_
      refine ap_callV (q := 58) (As := [.int 99]) hc (ok_X2_go hg (ty_8_76 hq) h) ml_RX8_167 lk_X2_go lv_X2_go (ty_8_76 hq) rfl (ap_RmE hz (by decide)) rfl rfl (Nat.le_of_ble_eq_true rfl) dX8_pass_55 rfl (ap_kv (fun M_3 h => ?_))
      obtain ⟨x2_4, ex2_4, h⟩ := ap_nm h
      refine ap_iinc (q := 61) (lo2 := [(2, .int x2_4), (0, .ref (ap_ad g q)), (1, .int x1)]) hc dX8_pass_58 rfl 2 rfl (by rw [ex2_4]; rfl) (by decide) rfl ?_
      refine ap_goto (q := 44) hc dX8_pass_61 (by decide) ?_
      exact ap_sub [1, 2, 0] rfl (ih _ _ _ h)
def w_X8_pass   (q : Nat) (x1 : Int32) (M : ap_Mem) (K : Int32 → ap_Mem → Prop) : Prop :=
w_X8_isFuture x1 M (fun r_1 M_2 => (if r_1 = 0 then (K (-2) M_2) else ((if ((M_2 (q + 18) 2) + x1) ≤ 9999 then (w_X2_begin (q + 76) (q + 1) M_2 (fun M_5 => w_X8_pass_44   q K 4096 x1 0 M_5)) else (K (-3) M_2)))))
theorem bl_X8_pass_0 {x : ap_X} {g : ap_G} (hc : ap_Cx x g cX8_pass RX8 3) {K : Int32 → ap_Mem → Prop} (hz : ap_Ends x g 5 (some .int) (ap_Qi K))   {q : Nat} (hq : ap_kd q = 8)   {x1 : Int32} {M : ap_Mem}  (h : w_X8_pass   q x1 M K) : ap_V x g 3 0 [(0, .ref (ap_ad g q)), (1, .int x1)] [] M := by
  have hg := hc.2.2.2.2.2.2.2.1
  unfold w_X8_pass at h
  refine ap_iload_n (q := 1) hc dX8_pass_0 rfl rfl 1 rfl ?_
  refine ap_callS (q := 4) (As := [.int x1]) hc (ok_X8_isFuture hg  h) ml_RX8_164 lk_X8_isFuture ls_X8_isFuture (ap_RmE hz (by decide)) rfl rfl (Nat.le_of_ble_eq_true rfl) dX8_pass_1 rfl (ap_ki (fun r_1 M_2 h => ?_))
  refine ap_if_ne (q := 7) (tgt := 10) hc dX8_pass_4 rfl (by decide) (fun z_3 => ?_) (fun z_3 => ?_)
  · have h := Eq.mp (if_neg z_3) h
    refine ap_aload_n (q := 11) hc dX8_pass_10 rfl rfl 0 rfl ?_
    refine ap_getR (q := 14) (r := q + 1) lg_RX8_12 (by decide) hq rfl hc dX8_pass_11 rfl ?_
    refine ap_getR (q := 17) (r := q + 18) lg_RX8_140 (by decide) (ty_8_1 hq) rfl hc dX8_pass_14 rfl ?_
    refine ap_getI (q := 20) lg_RX8_148 (ty_8_18 hq) hc dX8_pass_17 rfl ?_
    refine ap_iload_n (q := 21) hc dX8_pass_20 rfl rfl 1 rfl ?_
    refine ap_iadd (q := 22) hc dX8_pass_21 rfl ?_
    refine ap_sipush (q := 25) hc dX8_pass_22 rfl sc_9999 ?_
    refine ap_icmp_le (q := 28) (tgt := 31) hc dX8_pass_25 rfl (by decide) (fun z_4 => ?_) (fun z_4 => ?_)
    · have h := Eq.mp (if_pos z_4) h
      refine ap_aload_n (q := 32) hc dX8_pass_31 rfl rfl 0 rfl ?_
      refine ap_getR (q := 35) (r := q + 76) lg_RX8_35 (by decide) hq rfl hc dX8_pass_32 rfl ?_
      refine ap_aload_n (q := 36) hc dX8_pass_35 rfl rfl 0 rfl ?_
      refine ap_getR (q := 39) (r := q + 1) lg_RX8_12 (by decide) hq rfl hc dX8_pass_36 rfl ?_
      refine ap_callV (q := 42) (As := [.ref (ap_ad g (q + 1))]) hc (ok_X2_begin hg (ty_8_76 hq) (ty_8_1 hq) h) ml_RX8_120 lk_X2_begin lv_X2_begin (ty_8_76 hq) rfl (ap_RmE hz (by decide)) rfl rfl (Nat.le_of_ble_eq_true rfl) dX8_pass_39 rfl (ap_kv (fun M_5 h => ?_))
      refine ap_iconst (q := 43) hc dX8_pass_42 rfl ic_0 ?_
      refine ap_istore_n (q := 44) (lo2 := [(2, .int 0), (0, .ref (ap_ad g q)), (1, .int x1)]) hc dX8_pass_43 rfl rfl rfl (by decide) rfl ?_
      exact ap_sub [1, 2, 0] rfl (bl_X8_pass_44 hc hz  hq  _ _ _ _ h)
    · have h := Eq.mp (if_neg z_4) h
      refine ap_bipush (q := 30) hc dX8_pass_28 rfl bc_m3 ?_
      exact ap_iret hc hz rfl dX8_pass_30 h
  · have h := Eq.mp (if_pos z_3) h
    refine ap_bipush (q := 9) hc dX8_pass_7 rfl bc_m2 ?_
    exact ap_iret hc hz rfl dX8_pass_9 h
theorem ok_X8_pass {l : Launch} {g : ap_G} (hg : ap_GOK g) {q : Nat} (hq : ap_kd q = 8) {x1 : Int32} {M : ap_Mem} {K : Int32 → ap_Mem → Prop} (h : w_X8_pass q x1 M K) : ap_Ct l g yX8_pass cX8_pass 3 (some .int) 5 [.ref (ap_ad g q), .int x1] M (ap_Qi K) := by
  refine ap_Ct_of hg (by decide +kernel) (Nat.le_of_ble_eq_true rfl) (fun x hx hc hz => ?_)
  subst hx
  exact bl_X8_pass_0 hc hz hq h
def w_X8_on_23   (q : Nat) (x1 : Int32) (x2 : Int32) (x3 : Int32) (M : ap_Mem) (K : Int32 → ap_Mem → Prop) : Prop :=
w_X8_isFuture x1 M (fun r_1 M_2 => (if r_1 = 0 then (K (-2) M_2) else (w_X2_begin (q + 76) (q + 1) M_2 (fun M_4 => w_X2_goSteps (q + 76) x1 M_4 (fun M_5 => (if x3 = 0 then ((if x2 = 0 then (K (M_5 (q + 82) 1) M_5) else (w_X1_cellsLainOn (q + 82) M_5 (fun r_8 M_9 => K r_8 M_9)))) else (vp_in (x2 - 10) 16 ∧ K (M_5 (q + 83) (x2 - 10).toNatClampNeg) M_5)))))))
theorem bl_X8_on_23 {x : ap_X} {g : ap_G} (hc : ap_Cx x g cX8_on RX8 4) {K : Int32 → ap_Mem → Prop} (hz : ap_Ends x g 6 (some .int) (ap_Qi K))   {q : Nat} (hq : ap_kd q = 8)   {x1 : Int32} {x2 : Int32} {x3 : Int32} {M : ap_Mem}  (h : w_X8_on_23   q x1 x2 x3 M K) : ap_V x g 4 23 [(0, .ref (ap_ad g q)), (1, .int x1), (2, .int x2), (3, .int x3)] [] M := by
  have hg := hc.2.2.2.2.2.2.2.1
  unfold w_X8_on_23 at h
  refine ap_iload_n (q := 24) hc dX8_on_23 rfl rfl 1 rfl ?_
  refine ap_callS (q := 27) (As := [.int x1]) hc (ok_X8_isFuture hg  h) ml_RX8_164 lk_X8_isFuture ls_X8_isFuture (ap_RmE hz (by decide)) rfl rfl (Nat.le_of_ble_eq_true rfl) dX8_on_24 rfl (ap_ki (fun r_1 M_2 h => ?_))
  refine ap_if_ne (q := 30) (tgt := 33) hc dX8_on_27 rfl (by decide) (fun z_3 => ?_) (fun z_3 => ?_)
  · have h := Eq.mp (if_neg z_3) h
    refine ap_aload_n (q := 34) hc dX8_on_33 rfl rfl 0 rfl ?_
    refine ap_getR (q := 37) (r := q + 76) lg_RX8_35 (by decide) hq rfl hc dX8_on_34 rfl ?_
    refine ap_aload_n (q := 38) hc dX8_on_37 rfl rfl 0 rfl ?_
    refine ap_getR (q := 41) (r := q + 1) lg_RX8_12 (by decide) hq rfl hc dX8_on_38 rfl ?_
    refine ap_callV (q := 44) (As := [.ref (ap_ad g (q + 1))]) hc (ok_X2_begin hg (ty_8_76 hq) (ty_8_1 hq) h) ml_RX8_120 lk_X2_begin lv_X2_begin (ty_8_76 hq) rfl (ap_RmE hz (by decide)) rfl rfl (Nat.le_of_ble_eq_true rfl) dX8_on_41 rfl (ap_kv (fun M_4 h => ?_))
    refine ap_aload_n (q := 45) hc dX8_on_44 rfl rfl 0 rfl ?_
    refine ap_getR (q := 48) (r := q + 76) lg_RX8_35 (by decide) hq rfl hc dX8_on_45 rfl ?_
    refine ap_iload_n (q := 49) hc dX8_on_48 rfl rfl 1 rfl ?_
    refine ap_callV (q := 52) (As := [.int x1]) hc (ok_X2_goSteps hg (ty_8_76 hq) h) ml_RX8_175 lk_X2_goSteps lv_X2_goSteps (ty_8_76 hq) rfl (ap_RmE hz (by decide)) rfl rfl (Nat.le_of_ble_eq_true rfl) dX8_on_49 rfl (ap_kv (fun M_5 h => ?_))
    refine ap_iload_n (q := 53) hc dX8_on_52 rfl rfl 3 rfl ?_
    refine ap_if_eq (q := 56) (tgt := 72) hc dX8_on_53 rfl (by decide) (fun z_6 => ?_) (fun z_6 => ?_)
    · have h := Eq.mp (if_pos z_6) h
      refine ap_iload_n (q := 73) hc dX8_on_72 rfl rfl 2 rfl ?_
      refine ap_if_ne (q := 76) (tgt := 89) hc dX8_on_73 rfl (by decide) (fun z_7 => ?_) (fun z_7 => ?_)
      · have h := Eq.mp (if_neg z_7) h
        refine ap_aload_n (q := 90) hc dX8_on_89 rfl rfl 0 rfl ?_
        refine ap_getR (q := 93) (r := q + 76) lg_RX8_35 (by decide) hq rfl hc dX8_on_90 rfl ?_
        refine ap_getR (q := 96) (r := q + 82) lg_RX8_171 (by decide) (ty_8_76 hq) rfl hc dX8_on_93 rfl ?_
        refine ap_callV (q := 99) (As := []) hc (ok_X1_cellsLainOn hg (ty_8_82 hq) h) ml_RX8_154 lk_X1_cellsLainOn lv_X1_cellsLainOn (ty_8_82 hq) rfl (ap_RmE hz (by decide)) rfl rfl (Nat.le_of_ble_eq_true rfl) dX8_on_96 rfl (ap_ki (fun r_8 M_9 h => ?_))
        exact ap_iret hc hz rfl dX8_on_99 h
      · have h := Eq.mp (if_pos z_7) h
        refine ap_aload_n (q := 77) hc dX8_on_76 rfl rfl 0 rfl ?_
        refine ap_getR (q := 80) (r := q + 76) lg_RX8_35 (by decide) hq rfl hc dX8_on_77 rfl ?_
        refine ap_getR (q := 83) (r := q + 82) lg_RX8_171 (by decide) (ty_8_76 hq) rfl hc dX8_on_80 rfl ?_
        refine ap_getI (q := 86) lg_RX8_144 (ty_8_82 hq) hc dX8_on_83 rfl ?_
        refine ap_goto (q := 99) hc dX8_on_86 (by decide) ?_
        exact ap_iret hc hz rfl dX8_on_99 h
    · have h := Eq.mp (if_neg z_6) h
      refine ap_aload_n (q := 57) hc dX8_on_56 rfl rfl 0 rfl ?_
      refine ap_getR (q := 60) (r := q + 76) lg_RX8_35 (by decide) hq rfl hc dX8_on_57 rfl ?_
      refine ap_getR (q := 63) (r := q + 82) lg_RX8_171 (by decide) (ty_8_76 hq) rfl hc dX8_on_60 rfl ?_
      refine ap_getR (q := 66) (r := q + 83) lg_RX8_161 (by decide) (ty_8_82 hq) rfl hc dX8_on_63 rfl ?_
      refine ap_iload_n (q := 67) hc dX8_on_66 rfl rfl 2 rfl ?_
      refine ap_bipush (q := 69) hc dX8_on_67 rfl bc_10 ?_
      refine ap_isub (q := 70) hc dX8_on_69 rfl ?_
      obtain ⟨g_10, h⟩ := h
      refine ap_iald (q := 71) (ty_8_83 hq) (tn_8_83 hq) g_10 hc dX8_on_70 rfl ?_
      exact ap_iret hc hz rfl dX8_on_71 h
  · have h := Eq.mp (if_pos z_3) h
    refine ap_bipush (q := 32) hc dX8_on_30 rfl bc_m2 ?_
    exact ap_iret hc hz rfl dX8_on_32 h
def w_X8_on   (q : Nat) (x1 : Int32) (x2 : Int32) (M : ap_Mem) (K : Int32 → ap_Mem → Prop) : Prop :=
w_X8_isCell (x2 - 10) M (fun r_1 M_2 => (if x2 = 0 then (w_X8_on_23   q x1 x2 r_1 M_2 K) else ((if x2 = 1 then (w_X8_on_23   q x1 x2 r_1 M_2 K) else ((if r_1 = 0 then (K (-1) M_2) else (w_X8_on_23   q x1 x2 r_1 M_2 K)))))))
theorem bl_X8_on_0 {x : ap_X} {g : ap_G} (hc : ap_Cx x g cX8_on RX8 4) {K : Int32 → ap_Mem → Prop} (hz : ap_Ends x g 6 (some .int) (ap_Qi K))   {q : Nat} (hq : ap_kd q = 8)   {x1 : Int32} {x2 : Int32} {M : ap_Mem}  (h : w_X8_on   q x1 x2 M K) : ap_V x g 4 0 [(0, .ref (ap_ad g q)), (1, .int x1), (2, .int x2)] [] M := by
  have hg := hc.2.2.2.2.2.2.2.1
  unfold w_X8_on at h
  refine ap_iload_n (q := 1) hc dX8_on_0 rfl rfl 2 rfl ?_
  refine ap_bipush (q := 3) hc dX8_on_1 rfl bc_10 ?_
  refine ap_isub (q := 4) hc dX8_on_3 rfl ?_
  refine ap_callS (q := 7) (As := [.int (x2 - 10)]) hc (ok_X8_isCell hg  h) ml_RX8_88 lk_X8_isCell ls_X8_isCell (ap_RmE hz (by decide)) rfl rfl (Nat.le_of_ble_eq_true rfl) dX8_on_4 rfl (ap_ki (fun r_1 M_2 h => ?_))
  refine ap_istore_n (q := 8) (lo2 := [(3, .int r_1), (0, .ref (ap_ad g q)), (1, .int x1), (2, .int x2)]) hc dX8_on_7 rfl rfl rfl (by decide) rfl ?_
  refine ap_iload_n (q := 9) hc dX8_on_8 rfl rfl 3 rfl ?_
  refine ap_if_eq (q := 12) (tgt := 23) hc dX8_on_9 rfl (by decide) (fun z_3 => ?_) (fun z_3 => ?_)
  · have h := Eq.mp (if_pos z_3) h
    exact ap_sub [1, 2, 3, 0] rfl (bl_X8_on_23 hc hz  hq   h)
  · have h := Eq.mp (if_neg z_3) h
    refine ap_iload_n (q := 13) hc dX8_on_12 rfl rfl 3 rfl ?_
    refine ap_iconst (q := 14) hc dX8_on_13 rfl ic_1 ?_
    refine ap_icmp_eq (q := 17) (tgt := 23) hc dX8_on_14 rfl (by decide) (fun z_4 => ?_) (fun z_4 => ?_)
    · have h := Eq.mp (if_pos z_4) h
      exact ap_sub [1, 2, 3, 0] rfl (bl_X8_on_23 hc hz  hq   h)
    · have h := Eq.mp (if_neg z_4) h
      refine ap_iload_n (q := 18) hc dX8_on_17 rfl rfl 0 rfl ?_
      refine ap_if_ne (q := 21) (tgt := 23) hc dX8_on_18 rfl (by decide) (fun z_5 => ?_) (fun z_5 => ?_)
      · have h := Eq.mp (if_neg z_5) h
        exact ap_sub [1, 2, 3, 0] rfl (bl_X8_on_23 hc hz  hq   h)
      · have h := Eq.mp (if_pos z_5) h
        refine ap_iconst (q := 22) hc dX8_on_21 rfl ic_m1 ?_
        exact ap_iret hc hz rfl dX8_on_22 h
theorem ok_X8_on {l : Launch} {g : ap_G} (hg : ap_GOK g) {q : Nat} (hq : ap_kd q = 8) {x1 : Int32} {x2 : Int32} {M : ap_Mem} {K : Int32 → ap_Mem → Prop} (h : w_X8_on q x1 x2 M K) : ap_Ct l g yX8_on cX8_on 4 (some .int) 6 [.ref (ap_ad g q), .int x1, .int x2] M (ap_Qi K) := by
  refine ap_Ct_of hg (by decide +kernel) (Nat.le_of_ble_eq_true rfl) (fun x hx hc hz => ?_)
  subst hx
  exact bl_X8_on_0 hc hz hq h
def w_X8_finds   (q : Nat) (x1 : Int32) (M : ap_Mem) (K : Int32 → ap_Mem → Prop) : Prop :=
w_X3_has (q + 13) x1 M (fun r_1 M_2 => (if r_1 = 0 then (K (-1) M_2) else (w_X2_begin (q + 76) (q + 1) M_2 (fun M_4 => vp_in x1 6 ∧ w_X2_comesTo (q + 76) (M_4 (q + 16) x1.toNatClampNeg) 60 M_4 (fun r_6 M_7 => K r_6 M_7)))))
theorem bl_X8_finds_0 {x : ap_X} {g : ap_G} (hc : ap_Cx x g cX8_finds RX8 2) {K : Int32 → ap_Mem → Prop} (hz : ap_Ends x g 6 (some .int) (ap_Qi K))   {q : Nat} (hq : ap_kd q = 8)   {x1 : Int32} {M : ap_Mem}  (h : w_X8_finds   q x1 M K) : ap_V x g 2 0 [(0, .ref (ap_ad g q)), (1, .int x1)] [] M := by
  have hg := hc.2.2.2.2.2.2.2.1
  unfold w_X8_finds at h
  refine ap_aload_n (q := 1) hc dX8_finds_0 rfl rfl 0 rfl ?_
  refine ap_getR (q := 4) (r := q + 1) lg_RX8_12 (by decide) hq rfl hc dX8_finds_1 rfl ?_
  refine ap_getR (q := 7) (r := q + 13) lg_RX8_94 (by decide) (ty_8_1 hq) rfl hc dX8_finds_4 rfl ?_
  refine ap_iload_n (q := 8) hc dX8_finds_7 rfl rfl 1 rfl ?_
  refine ap_callV (q := 11) (As := [.int x1]) hc (ok_X3_has hg (ty_8_13 hq) h) ml_RX8_103 lk_X3_has lv_X3_has (ty_8_13 hq) rfl (ap_RmE hz (by decide)) rfl rfl (Nat.le_of_ble_eq_true rfl) dX8_finds_8 rfl (ap_ki (fun r_1 M_2 h => ?_))
  refine ap_if_ne (q := 14) (tgt := 16) hc dX8_finds_11 rfl (by decide) (fun z_3 => ?_) (fun z_3 => ?_)
  · have h := Eq.mp (if_neg z_3) h
    refine ap_aload_n (q := 17) hc dX8_finds_16 rfl rfl 0 rfl ?_
    refine ap_getR (q := 20) (r := q + 76) lg_RX8_35 (by decide) hq rfl hc dX8_finds_17 rfl ?_
    refine ap_aload_n (q := 21) hc dX8_finds_20 rfl rfl 0 rfl ?_
    refine ap_getR (q := 24) (r := q + 1) lg_RX8_12 (by decide) hq rfl hc dX8_finds_21 rfl ?_
    refine ap_callV (q := 27) (As := [.ref (ap_ad g (q + 1))]) hc (ok_X2_begin hg (ty_8_76 hq) (ty_8_1 hq) h) ml_RX8_120 lk_X2_begin lv_X2_begin (ty_8_76 hq) rfl (ap_RmE hz (by decide)) rfl rfl (Nat.le_of_ble_eq_true rfl) dX8_finds_24 rfl (ap_kv (fun M_4 h => ?_))
    refine ap_aload_n (q := 28) hc dX8_finds_27 rfl rfl 0 rfl ?_
    refine ap_getR (q := 31) (r := q + 76) lg_RX8_35 (by decide) hq rfl hc dX8_finds_28 rfl ?_
    refine ap_aload_n (q := 32) hc dX8_finds_31 rfl rfl 0 rfl ?_
    refine ap_getR (q := 35) (r := q + 1) lg_RX8_12 (by decide) hq rfl hc dX8_finds_32 rfl ?_
    refine ap_getR (q := 38) (r := q + 13) lg_RX8_94 (by decide) (ty_8_1 hq) rfl hc dX8_finds_35 rfl ?_
    refine ap_getR (q := 41) (r := q + 16) lg_RX8_114 (by decide) (ty_8_13 hq) rfl hc dX8_finds_38 rfl ?_
    refine ap_iload_n (q := 42) hc dX8_finds_41 rfl rfl 1 rfl ?_
    obtain ⟨g_5, h⟩ := h
    refine ap_iald (q := 43) (ty_8_16 hq) (tn_8_16 hq) g_5 hc dX8_finds_42 rfl ?_
    refine ap_bipush (q := 45) hc dX8_finds_43 rfl bc_60 ?_
    refine ap_callV (q := 48) (As := [.int (M_4 (q + 16) x1.toNatClampNeg), .int 60]) hc (ok_X2_comesTo hg (ty_8_76 hq) h) ml_RX8_178 lk_X2_comesTo lv_X2_comesTo (ty_8_76 hq) rfl (ap_RmE hz (by decide)) rfl rfl (Nat.le_of_ble_eq_true rfl) dX8_finds_45 rfl (ap_ki (fun r_6 M_7 h => ?_))
    exact ap_iret hc hz rfl dX8_finds_48 h
  · have h := Eq.mp (if_pos z_3) h
    refine ap_iconst (q := 15) hc dX8_finds_14 rfl ic_m1 ?_
    exact ap_iret hc hz rfl dX8_finds_15 h
theorem ok_X8_finds {l : Launch} {g : ap_G} (hg : ap_GOK g) {q : Nat} (hq : ap_kd q = 8) {x1 : Int32} {M : ap_Mem} {K : Int32 → ap_Mem → Prop} (h : w_X8_finds q x1 M K) : ap_Ct l g yX8_finds cX8_finds 2 (some .int) 6 [.ref (ap_ad g q), .int x1] M (ap_Qi K) := by
  refine ap_Ct_of hg (by decide +kernel) (Nat.le_of_ble_eq_true rfl) (fun x hx hc hz => ?_)
  subst hx
  exact bl_X8_finds_0 hc hz hq h
def w_X8_soonest_98  (kL37 : Int32 → Int32 → Int32 → Int32 → Int32 → ap_Mem → Prop) (q : Nat) (x1 : Int32) (x2 : Int32) (x3 : Int32) (x4 : Int32) (x5 : Int32) (M : ap_Mem) (K : Int32 → ap_Mem → Prop) : Prop :=
∀ x5_1 : Int32, x5_1 = x5 + 1 → kL37 x1 x2 x3 x4 x5_1 M
theorem bl_X8_soonest_98 {x : ap_X} {g : ap_G} (hc : ap_Cx x g cX8_soonest RX8 7) {K : Int32 → ap_Mem → Prop} (hz : ap_Ends x g 6 (some .int) (ap_Qi K))   {q : Nat} (hq : ap_kd q = 8) {kL37 : Int32 → Int32 → Int32 → Int32 → Int32 → ap_Mem → Prop} (hk37 : ∀ (x1 : Int32) (x2 : Int32) (x3 : Int32) (x4 : Int32) (x5 : Int32)  (M : ap_Mem), kL37 x1 x2 x3 x4 x5 M → ap_V x g 7 37 [(0, .ref (ap_ad g q)), (1, .int x1), (2, .int x2), (3, .int x3), (4, .int x4), (5, .int x5)] [] M) {x1 : Int32} {x2 : Int32} {x3 : Int32} {x4 : Int32} {x5 : Int32} {M : ap_Mem}  (h : w_X8_soonest_98  kL37 q x1 x2 x3 x4 x5 M K) : ap_V x g 7 98 [(0, .ref (ap_ad g q)), (1, .int x1), (2, .int x2), (3, .int x3), (4, .int x4), (5, .int x5)] [] M := by
  unfold w_X8_soonest_98 at h
  obtain ⟨x5_1, ex5_1, h⟩ := ap_nm h
  refine ap_iinc (q := 101) (lo2 := [(5, .int x5_1), (0, .ref (ap_ad g q)), (1, .int x1), (2, .int x2), (3, .int x3), (4, .int x4)]) hc dX8_soonest_98 rfl 5 rfl (by rw [ex5_1]; rfl) (by decide) rfl ?_
  refine ap_goto (q := 37) hc dX8_soonest_101 (by decide) ?_
  exact ap_sub [1, 2, 3, 4, 5, 0] rfl (hk37 _ _ _ _ _ _ h)
def w_X8_soonest_37_s   (kL37 : Int32 → Int32 → Int32 → Int32 → Int32 → ap_Mem → Prop) (q : Nat) (x1 : Int32) (x2 : Int32) (x3 : Int32) (x4 : Int32) (x5 : Int32) (M : ap_Mem) (K : Int32 → ap_Mem → Prop) : Prop :=
(if 16 ≤ x5 then ((if x2 = 0 then (K x3 M) else ((if 0 ≤ x3 then (K x4 M) else (K x3 M))))) else ((if x5 = x1 then (w_X8_soonest_98  kL37 q x1 x2 x3 x4 x5 M K) else (w_X2_again (q + 76) M (fun M_5 => ∀ M_6 : ap_Mem, M_6 = ap_mu M_5 (q + 82) 1 x5 → w_X2_comesTo (q + 76) x1 (x4 - 1) M_6 (fun r_7 M_8 => (if r_7 < 0 then (w_X8_soonest_98  kL37 q x1 x2 x3 x4 x5 M_8 K) else (w_X8_soonest_98  kL37 q x1 x2 x5 r_7 x5 M_8 K))))))))
def w_X8_soonest_37   (q : Nat) (K : Int32 → ap_Mem → Prop) : Nat → Int32 → Int32 → Int32 → Int32 → Int32 → ap_Mem → Prop
  | 0, _, _, _, _, _, _ => False
  | n + 1, x1, x2, x3, x4, x5, M => w_X8_soonest_37_s   (w_X8_soonest_37   q K n) q x1 x2 x3 x4 x5 M K
theorem bl_X8_soonest_37 {x : ap_X} {g : ap_G} (hc : ap_Cx x g cX8_soonest RX8 7) {K : Int32 → ap_Mem → Prop} (hz : ap_Ends x g 6 (some .int) (ap_Qi K))   {q : Nat} (hq : ap_kd q = 8)   : ∀ (n : Nat) (x1 : Int32) (x2 : Int32) (x3 : Int32) (x4 : Int32) (x5 : Int32) (M : ap_Mem), w_X8_soonest_37   q K n x1 x2 x3 x4 x5 M → ap_V x g 7 37 [(0, .ref (ap_ad g q)), (1, .int x1), (2, .int x2), (3, .int x3), (4, .int x4), (5, .int x5)] [] M := by
  have hg := hc.2.2.2.2.2.2.2.1
  intro n
  induction n with
  | zero => intro _ _ _ _ _ _ h; exact h.elim
  | succ n ih =>
    intro x1 x2 x3 x4 x5 M h
    replace h : w_X8_soonest_37_s   (w_X8_soonest_37   q K n) q x1 x2 x3 x4 x5 M K := h
    unfold w_X8_soonest_37_s at h
    refine ap_iload (q := 39) hc dX8_soonest_37 rfl 5 rfl ?_
    refine ap_bipush (q := 41) hc dX8_soonest_39 rfl bc_16 ?_
    refine ap_icmp_ge (q := 44) (tgt := 104) hc dX8_soonest_41 rfl (by decide) (fun z_1 => ?_) (fun z_1 => ?_)
    · have h := Eq.mp (if_pos z_1) h
      refine ap_iload_n (q := 105) hc dX8_soonest_104 rfl rfl 2 rfl ?_
      refine ap_if_eq (q := 108) (tgt := 112) hc dX8_soonest_105 rfl (by decide) (fun z_2 => ?_) (fun z_2 => ?_)
      · have h := Eq.mp (if_pos z_2) h
        refine ap_iload_n (q := 113) hc dX8_soonest_112 rfl rfl 3 rfl ?_
        refine ap_goto (q := 118) hc dX8_soonest_113 (by decide) ?_
        exact ap_iret hc hz rfl dX8_soonest_118 h
      · have h := Eq.mp (if_neg z_2) h
        refine ap_iload_n (q := 109) hc dX8_soonest_108 rfl rfl 3 rfl ?_
        refine ap_if_ge (q := 112) (tgt := 116) hc dX8_soonest_109 rfl (by decide) (fun z_3 => ?_) (fun z_3 => ?_)
        · have h := Eq.mp (if_pos z_3) h
          refine ap_iload (q := 118) hc dX8_soonest_116 rfl 4 rfl ?_
          exact ap_iret hc hz rfl dX8_soonest_118 h
        · have h := Eq.mp (if_neg z_3) h
          refine ap_iload_n (q := 113) hc dX8_soonest_112 rfl rfl 3 rfl ?_
          refine ap_goto (q := 118) hc dX8_soonest_113 (by decide) ?_
          exact ap_iret hc hz rfl dX8_soonest_118 h
    · have h := Eq.mp (if_neg z_1) h
      refine ap_iload (q := 46) hc dX8_soonest_44 rfl 5 rfl ?_
      refine ap_iload_n (q := 47) hc dX8_soonest_46 rfl rfl 1 rfl ?_
      refine ap_icmp_ne (q := 50) (tgt := 53) hc dX8_soonest_47 rfl (by decide) (fun z_4 => ?_) (fun z_4 => ?_)
      · have h := Eq.mp (if_neg z_4) h
        refine ap_aload_n (q := 54) hc dX8_soonest_53 rfl rfl 0 rfl ?_
        refine ap_getR (q := 57) (r := q + 76) lg_RX8_35 (by decide) hq rfl hc dX8_soonest_54 rfl ?_
        refine ap_callV (q := 60) (As := []) hc (ok_X2_again hg (ty_8_76 hq) h) ml_RX8_184 lk_X2_again lv_X2_again (ty_8_76 hq) rfl (ap_RmE hz (by decide)) rfl rfl (Nat.le_of_ble_eq_true rfl) dX8_soonest_57 rfl (ap_kv (fun M_5 h => ?_))
        refine ap_aload_n (q := 61) hc dX8_soonest_60 rfl rfl 0 rfl ?_
        refine ap_getR (q := 64) (r := q + 76) lg_RX8_35 (by decide) hq rfl hc dX8_soonest_61 rfl ?_
        refine ap_getR (q := 67) (r := q + 82) lg_RX8_171 (by decide) (ty_8_76 hq) rfl hc dX8_soonest_64 rfl ?_
        refine ap_iload (q := 69) hc dX8_soonest_67 rfl 5 rfl ?_
        obtain ⟨M_6, eM_6, h⟩ := ap_nm h
        refine ap_putI (q := 72) lp_RX8_144 (ty_8_82 hq) eM_6 hc dX8_soonest_69 rfl ?_
        refine ap_aload_n (q := 73) hc dX8_soonest_72 rfl rfl 0 rfl ?_
        refine ap_getR (q := 76) (r := q + 76) lg_RX8_35 (by decide) hq rfl hc dX8_soonest_73 rfl ?_
        refine ap_iload_n (q := 77) hc dX8_soonest_76 rfl rfl 1 rfl ?_
        refine ap_iload (q := 79) hc dX8_soonest_77 rfl 4 rfl ?_
        refine ap_iconst (q := 80) hc dX8_soonest_79 rfl ic_1 ?_
        refine ap_isub (q := 81) hc dX8_soonest_80 rfl ?_
        refine ap_callV (q := 84) (As := [.int x1, .int (x4 - 1)]) hc (ok_X2_comesTo hg (ty_8_76 hq) h) ml_RX8_178 lk_X2_comesTo lv_X2_comesTo (ty_8_76 hq) rfl (ap_RmE hz (by decide)) rfl rfl (Nat.le_of_ble_eq_true rfl) dX8_soonest_81 rfl (ap_ki (fun r_7 M_8 h => ?_))
        refine ap_istore (q := 86) (lo2 := [(6, .int r_7), (0, .ref (ap_ad g q)), (1, .int x1), (2, .int x2), (3, .int x3), (4, .int x4), (5, .int x5)]) hc dX8_soonest_84 rfl rfl (by decide) rfl ?_
        refine ap_iload (q := 88) hc dX8_soonest_86 rfl 0 rfl ?_
        refine ap_if_lt (q := 91) (tgt := 98) hc dX8_soonest_88 rfl (by decide) (fun z_9 => ?_) (fun z_9 => ?_)
        · have h := Eq.mp (if_pos z_9) h
          exact ap_sub [1, 2, 3, 4, 5, 6] rfl (bl_X8_soonest_98 hc hz  hq ih  h)
        · have h := Eq.mp (if_neg z_9) h
          refine ap_iload (q := 93) hc dX8_soonest_91 rfl 0 rfl ?_
          refine ap_istore (q := 95) (lo2 := [(4, .int r_7), (6, .int r_7), (0, .ref (ap_ad g q)), (1, .int x1), (2, .int x2), (3, .int x3), (5, .int x5)]) hc dX8_soonest_93 rfl rfl (by decide) rfl ?_
          refine ap_iload (q := 97) hc dX8_soonest_95 rfl 6 rfl ?_
          refine ap_istore_n (q := 98) (lo2 := [(3, .int x5), (4, .int r_7), (6, .int r_7), (0, .ref (ap_ad g q)), (1, .int x1), (2, .int x2), (5, .int x5)]) hc dX8_soonest_97 rfl rfl rfl (by decide) rfl ?_
          exact ap_sub [3, 4, 5, 0, 1, 6] rfl (bl_X8_soonest_98 hc hz  hq ih  h)
      · have h := Eq.mp (if_pos z_4) h
        refine ap_goto (q := 98) hc dX8_soonest_50 (by decide) ?_
        exact ap_sub [0, 1, 2, 3, 4, 5] rfl (bl_X8_soonest_98 hc hz  hq ih  h)
def w_X8_soonest   (q : Nat) (x1 : Int32) (x2 : Int32) (M : ap_Mem) (K : Int32 → ap_Mem → Prop) : Prop :=
w_X8_isCell x1 M (fun r_1 M_2 => (if r_1 = 0 then (K (-1) M_2) else (w_X8_isEither x2 M_2 (fun r_4 M_5 => (if r_4 = 0 then (K (-1) M_5) else (w_X2_begin (q + 76) (q + 1) M_5 (fun M_7 => w_X8_soonest_37   q K 4096 x1 x2 (-5) 31 0 M_7)))))))
theorem bl_X8_soonest_0 {x : ap_X} {g : ap_G} (hc : ap_Cx x g cX8_soonest RX8 7) {K : Int32 → ap_Mem → Prop} (hz : ap_Ends x g 6 (some .int) (ap_Qi K))   {q : Nat} (hq : ap_kd q = 8)   {x1 : Int32} {x2 : Int32} {M : ap_Mem}  (h : w_X8_soonest   q x1 x2 M K) : ap_V x g 7 0 [(0, .ref (ap_ad g q)), (1, .int x1), (2, .int x2)] [] M := by
  have hg := hc.2.2.2.2.2.2.2.1
  unfold w_X8_soonest at h
  refine ap_iload_n (q := 1) hc dX8_soonest_0 rfl rfl 1 rfl ?_
  refine ap_callS (q := 4) (As := [.int x1]) hc (ok_X8_isCell hg  h) ml_RX8_88 lk_X8_isCell ls_X8_isCell (ap_RmE hz (by decide)) rfl rfl (Nat.le_of_ble_eq_true rfl) dX8_soonest_1 rfl (ap_ki (fun r_1 M_2 h => ?_))
  refine ap_if_eq (q := 7) (tgt := 14) hc dX8_soonest_4 rfl (by decide) (fun z_3 => ?_) (fun z_3 => ?_)
  · have h := Eq.mp (if_pos z_3) h
    refine ap_iconst (q := 15) hc dX8_soonest_14 rfl ic_m1 ?_
    exact ap_iret hc hz rfl dX8_soonest_15 h
  · have h := Eq.mp (if_neg z_3) h
    refine ap_iload_n (q := 8) hc dX8_soonest_7 rfl rfl 2 rfl ?_
    refine ap_callS (q := 11) (As := [.int x2]) hc (ok_X8_isEither hg  h) ml_RX8_181 lk_X8_isEither ls_X8_isEither (ap_RmE hz (by decide)) rfl rfl (Nat.le_of_ble_eq_true rfl) dX8_soonest_8 rfl (ap_ki (fun r_4 M_5 h => ?_))
    refine ap_if_ne (q := 14) (tgt := 16) hc dX8_soonest_11 rfl (by decide) (fun z_6 => ?_) (fun z_6 => ?_)
    · have h := Eq.mp (if_neg z_6) h
      refine ap_aload_n (q := 17) hc dX8_soonest_16 rfl rfl 0 rfl ?_
      refine ap_getR (q := 20) (r := q + 76) lg_RX8_35 (by decide) hq rfl hc dX8_soonest_17 rfl ?_
      refine ap_aload_n (q := 21) hc dX8_soonest_20 rfl rfl 0 rfl ?_
      refine ap_getR (q := 24) (r := q + 1) lg_RX8_12 (by decide) hq rfl hc dX8_soonest_21 rfl ?_
      refine ap_callV (q := 27) (As := [.ref (ap_ad g (q + 1))]) hc (ok_X2_begin hg (ty_8_76 hq) (ty_8_1 hq) h) ml_RX8_120 lk_X2_begin lv_X2_begin (ty_8_76 hq) rfl (ap_RmE hz (by decide)) rfl rfl (Nat.le_of_ble_eq_true rfl) dX8_soonest_24 rfl (ap_kv (fun M_7 h => ?_))
      refine ap_bipush (q := 29) hc dX8_soonest_27 rfl bc_m5 ?_
      refine ap_istore_n (q := 30) (lo2 := [(3, .int (-5)), (0, .ref (ap_ad g q)), (1, .int x1), (2, .int x2)]) hc dX8_soonest_29 rfl rfl rfl (by decide) rfl ?_
      refine ap_bipush (q := 32) hc dX8_soonest_30 rfl bc_31 ?_
      refine ap_istore (q := 34) (lo2 := [(4, .int 31), (3, .int (-5)), (0, .ref (ap_ad g q)), (1, .int x1), (2, .int x2)]) hc dX8_soonest_32 rfl rfl (by decide) rfl ?_
      refine ap_iconst (q := 35) hc dX8_soonest_34 rfl ic_0 ?_
      refine ap_istore (q := 37) (lo2 := [(5, .int 0), (4, .int 31), (3, .int (-5)), (0, .ref (ap_ad g q)), (1, .int x1), (2, .int x2)]) hc dX8_soonest_35 rfl rfl (by decide) rfl ?_
      exact ap_sub [3, 4, 5, 2, 1, 0] rfl (bl_X8_soonest_37 hc hz  hq  _ _ _ _ _ _ _ h)
    · have h := Eq.mp (if_pos z_6) h
      refine ap_iconst (q := 15) hc dX8_soonest_14 rfl ic_m1 ?_
      exact ap_iret hc hz rfl dX8_soonest_15 h
theorem ok_X8_soonest {l : Launch} {g : ap_G} (hg : ap_GOK g) {q : Nat} (hq : ap_kd q = 8) {x1 : Int32} {x2 : Int32} {M : ap_Mem} {K : Int32 → ap_Mem → Prop} (h : w_X8_soonest q x1 x2 M K) : ap_Ct l g yX8_soonest cX8_soonest 7 (some .int) 6 [.ref (ap_ad g q), .int x1, .int x2] M (ap_Qi K) := by
  refine ap_Ct_of hg (by decide +kernel) (Nat.le_of_ble_eq_true rfl) (fun x hx hc hz => ?_)
  subst hx
  exact bl_X8_soonest_0 hc hz hq h
def w_X8_call_138  (kL67 : Int32 → Int32 → Int32 → Int32 → Int32 → ap_Mem → Prop) (q : Nat) (x1 : Int32) (x3 : Int32) (x4 : Int32) (x5 : Int32) (x6 : Int32) (M : ap_Mem) (K : Int32 → ap_Mem → Prop) : Prop :=
∀ x6_1 : Int32, x6_1 = x6 + 1 → kL67 x1 x3 x4 x5 x6_1 M
theorem bl_X8_call_138 {x : ap_X} {g : ap_G} (hc : ap_Cx x g cX8_call RX8 8) {K : Int32 → ap_Mem → Prop} (hz : ap_Ends x g 6 (some .int) (ap_Qi K))   {q : Nat} (hq : ap_kd q = 8) {kL67 : Int32 → Int32 → Int32 → Int32 → Int32 → ap_Mem → Prop} (hk67 : ∀ (x1 : Int32) (x3 : Int32) (x4 : Int32) (x5 : Int32) (x6 : Int32)  (M : ap_Mem), kL67 x1 x3 x4 x5 x6 M → ap_V x g 8 67 [(0, .ref (ap_ad g q)), (1, .int x1), (3, .int x3), (4, .int x4), (5, .int x5), (6, .int x6)] [] M) {x1 : Int32} {x3 : Int32} {x4 : Int32} {x5 : Int32} {x6 : Int32} {M : ap_Mem}  (h : w_X8_call_138  kL67 q x1 x3 x4 x5 x6 M K) : ap_V x g 8 138 [(0, .ref (ap_ad g q)), (1, .int x1), (3, .int x3), (4, .int x4), (5, .int x5), (6, .int x6)] [] M := by
  unfold w_X8_call_138 at h
  obtain ⟨x6_1, ex6_1, h⟩ := ap_nm h
  refine ap_iinc (q := 141) (lo2 := [(6, .int x6_1), (0, .ref (ap_ad g q)), (1, .int x1), (3, .int x3), (4, .int x4), (5, .int x5)]) hc dX8_call_138 rfl 5 rfl (by rw [ex6_1]; rfl) (by decide) rfl ?_
  refine ap_goto (q := 67) hc dX8_call_141 (by decide) ?_
  exact ap_sub [1, 2, 3, 4, 5, 0] rfl (hk67 _ _ _ _ _ _ h)
def w_X8_call_144  (kL49 : Int32 → Int32 → Int32 → Int32 → ap_Mem → Prop) (q : Nat) (x1 : Int32) (x3 : Int32) (x4 : Int32) (x5 : Int32) (M : ap_Mem) (K : Int32 → ap_Mem → Prop) : Prop :=
vp_in x5 6 ∧ w_X2_putPerson (q + 76) x5 (M (q + 16) x5.toNatClampNeg) M (fun M_2 => ∀ x5_3 : Int32, x5_3 = x5 + 1 → kL49 x1 x3 x4 x5_3 M_2)
theorem bl_X8_call_144 {x : ap_X} {g : ap_G} (hc : ap_Cx x g cX8_call RX8 8) {K : Int32 → ap_Mem → Prop} (hz : ap_Ends x g 6 (some .int) (ap_Qi K))   {q : Nat} (hq : ap_kd q = 8) {kL49 : Int32 → Int32 → Int32 → Int32 → ap_Mem → Prop} (hk49 : ∀ (x1 : Int32) (x3 : Int32) (x4 : Int32) (x5 : Int32)  (M : ap_Mem), kL49 x1 x3 x4 x5 M → ap_V x g 8 49 [(0, .ref (ap_ad g q)), (1, .int x1), (3, .int x3), (4, .int x4), (5, .int x5)] [] M) {x1 : Int32} {x3 : Int32} {x4 : Int32} {x5 : Int32} {M : ap_Mem}  (h : w_X8_call_144  kL49 q x1 x3 x4 x5 M K) : ap_V x g 8 144 [(0, .ref (ap_ad g q)), (1, .int x1), (3, .int x3), (4, .int x4), (5, .int x5)] [] M := by
  have hg := hc.2.2.2.2.2.2.2.1
  unfold w_X8_call_144 at h
  refine ap_aload_n (q := 145) hc dX8_call_144 rfl rfl 0 rfl ?_
  refine ap_getR (q := 148) (r := q + 76) lg_RX8_35 (by decide) hq rfl hc dX8_call_145 rfl ?_
  refine ap_iload (q := 150) hc dX8_call_148 rfl 4 rfl ?_
  refine ap_aload_n (q := 151) hc dX8_call_150 rfl rfl 0 rfl ?_
  refine ap_getR (q := 154) (r := q + 1) lg_RX8_12 (by decide) hq rfl hc dX8_call_151 rfl ?_
  refine ap_getR (q := 157) (r := q + 13) lg_RX8_94 (by decide) (ty_8_1 hq) rfl hc dX8_call_154 rfl ?_
  refine ap_getR (q := 160) (r := q + 16) lg_RX8_114 (by decide) (ty_8_13 hq) rfl hc dX8_call_157 rfl ?_
  refine ap_iload (q := 162) hc dX8_call_160 rfl 4 rfl ?_
  obtain ⟨g_1, h⟩ := h
  refine ap_iald (q := 163) (ty_8_16 hq) (tn_8_16 hq) g_1 hc dX8_call_162 rfl ?_
  refine ap_callV (q := 166) (As := [.int x5, .int (M (q + 16) x5.toNatClampNeg)]) hc (ok_X2_putPerson hg (ty_8_76 hq) h) ml_RX8_190 lk_X2_putPerson lv_X2_putPerson (ty_8_76 hq) rfl (ap_RmE hz (by decide)) rfl rfl (Nat.le_of_ble_eq_true rfl) dX8_call_163 rfl (ap_kv (fun M_2 h => ?_))
  obtain ⟨x5_3, ex5_3, h⟩ := ap_nm h
  refine ap_iinc (q := 169) (lo2 := [(5, .int x5_3), (0, .ref (ap_ad g q)), (1, .int x1), (3, .int x3), (4, .int x4)]) hc dX8_call_166 rfl 4 rfl (by rw [ex5_3]; rfl) (by decide) rfl ?_
  refine ap_goto (q := 49) hc dX8_call_169 (by decide) ?_
  exact ap_sub [1, 2, 3, 4, 0] rfl (hk49 _ _ _ _ _ h)
def w_X8_call_67_s  (kL49 : Int32 → Int32 → Int32 → Int32 → ap_Mem → Prop) (kL67 : Int32 → Int32 → Int32 → Int32 → Int32 → ap_Mem → Prop) (q : Nat) (x1 : Int32) (x3 : Int32) (x4 : Int32) (x5 : Int32) (x6 : Int32) (M : ap_Mem) (K : Int32 → ap_Mem → Prop) : Prop :=
(if 16 ≤ x6 then (w_X8_call_144  kL49 q x1 x3 x4 x5 M K) else (w_X3_isAway (q + 13) x5 M (fun r_2 M_3 => (if r_2 = 0 then (w_X2_again (q + 76) M_3 (fun M_5 => w_X2_putPerson (q + 76) x5 x6 M_5 (fun M_6 => w_X2_comesTo (q + 76) x1 (x3 - 1) M_6 (fun r_7 M_8 => (if r_7 < 0 then (w_X8_call_138  kL67 q x1 x3 x4 x5 x6 M_8 K) else (∀ x4_10 : Int32, x4_10 = (100 * x5) + x6 → w_X8_call_138  kL67 q x1 r_7 x4_10 x5 x6 M_8 K)))))) else (w_X8_call_144  kL49 q x1 x3 x4 x5 M_3 K)))))
def w_X8_call_67  (kL49 : Int32 → Int32 → Int32 → Int32 → ap_Mem → Prop) (q : Nat) (K : Int32 → ap_Mem → Prop) : Nat → Int32 → Int32 → Int32 → Int32 → Int32 → ap_Mem → Prop
  | 0, _, _, _, _, _, _ => False
  | n + 1, x1, x3, x4, x5, x6, M => w_X8_call_67_s  kL49 (w_X8_call_67  kL49 q K n) q x1 x3 x4 x5 x6 M K
theorem bl_X8_call_67 {x : ap_X} {g : ap_G} (hc : ap_Cx x g cX8_call RX8 8) {K : Int32 → ap_Mem → Prop} (hz : ap_Ends x g 6 (some .int) (ap_Qi K))   {q : Nat} (hq : ap_kd q = 8) {kL49 : Int32 → Int32 → Int32 → Int32 → ap_Mem → Prop} (hk49 : ∀ (x1 : Int32) (x3 : Int32) (x4 : Int32) (x5 : Int32)  (M : ap_Mem), kL49 x1 x3 x4 x5 M → ap_V x g 8 49 [(0, .ref (ap_ad g q)), (1, .int x1), (3, .int x3), (4, .int x4), (5, .int x5)] [] M) : ∀ (n : Nat) (x1 : Int32) (x3 : Int32) (x4 : Int32) (x5 : Int32) (x6 : Int32) (M : ap_Mem), w_X8_call_67  kL49 q K n x1 x3 x4 x5 x6 M → ap_V x g 8 67 [(0, .ref (ap_ad g q)), (1, .int x1), (3, .int x3), (4, .int x4), (5, .int x5), (6, .int x6)] [] M := by
  have hg := hc.2.2.2.2.2.2.2.1
  intro n
  induction n with
  | zero => intro _ _ _ _ _ _ h; exact h.elim
  | succ n ih =>
    intro x1 x3 x4 x5 x6 M h
    replace h : w_X8_call_67_s  kL49 (w_X8_call_67  kL49 q K n) q x1 x3 x4 x5 x6 M K := h
    unfold w_X8_call_67_s at h
    refine ap_iload (q := 69) hc dX8_call_67 rfl 5 rfl ?_
    refine ap_bipush (q := 71) hc dX8_call_69 rfl bc_16 ?_
    refine ap_icmp_ge (q := 74) (tgt := 144) hc dX8_call_71 rfl (by decide) (fun z_1 => ?_) (fun z_1 => ?_)
    · have h := Eq.mp (if_pos z_1) h
      exact ap_sub [0, 1, 2, 3, 4] rfl (bl_X8_call_144 hc hz  hq hk49  h)
    · have h := Eq.mp (if_neg z_1) h
      refine ap_aload_n (q := 75) hc dX8_call_74 rfl rfl 0 rfl ?_
      refine ap_getR (q := 78) (r := q + 1) lg_RX8_12 (by decide) hq rfl hc dX8_call_75 rfl ?_
      refine ap_getR (q := 81) (r := q + 13) lg_RX8_94 (by decide) (ty_8_1 hq) rfl hc dX8_call_78 rfl ?_
      refine ap_iload (q := 83) hc dX8_call_81 rfl 4 rfl ?_
      refine ap_callV (q := 86) (As := [.int x5]) hc (ok_X3_isAway hg (ty_8_13 hq) h) ml_RX8_117 lk_X3_isAway lv_X3_isAway (ty_8_13 hq) rfl (ap_RmE hz (by decide)) rfl rfl (Nat.le_of_ble_eq_true rfl) dX8_call_83 rfl (ap_ki (fun r_2 M_3 h => ?_))
      refine ap_if_ne (q := 89) (tgt := 144) hc dX8_call_86 rfl (by decide) (fun z_4 => ?_) (fun z_4 => ?_)
      · have h := Eq.mp (if_neg z_4) h
        exact ap_sub [0, 1, 2, 3, 4] rfl (bl_X8_call_144 hc hz  hq hk49  h)
      · have h := Eq.mp (if_pos z_4) h
        refine ap_aload_n (q := 90) hc dX8_call_89 rfl rfl 0 rfl ?_
        refine ap_getR (q := 93) (r := q + 76) lg_RX8_35 (by decide) hq rfl hc dX8_call_90 rfl ?_
        refine ap_callV (q := 96) (As := []) hc (ok_X2_again hg (ty_8_76 hq) h) ml_RX8_184 lk_X2_again lv_X2_again (ty_8_76 hq) rfl (ap_RmE hz (by decide)) rfl rfl (Nat.le_of_ble_eq_true rfl) dX8_call_93 rfl (ap_kv (fun M_5 h => ?_))
        refine ap_aload_n (q := 97) hc dX8_call_96 rfl rfl 0 rfl ?_
        refine ap_getR (q := 100) (r := q + 76) lg_RX8_35 (by decide) hq rfl hc dX8_call_97 rfl ?_
        refine ap_iload (q := 102) hc dX8_call_100 rfl 4 rfl ?_
        refine ap_iload (q := 104) hc dX8_call_102 rfl 5 rfl ?_
        refine ap_callV (q := 107) (As := [.int x5, .int x6]) hc (ok_X2_putPerson hg (ty_8_76 hq) h) ml_RX8_190 lk_X2_putPerson lv_X2_putPerson (ty_8_76 hq) rfl (ap_RmE hz (by decide)) rfl rfl (Nat.le_of_ble_eq_true rfl) dX8_call_104 rfl (ap_kv (fun M_6 h => ?_))
        refine ap_aload_n (q := 108) hc dX8_call_107 rfl rfl 0 rfl ?_
        refine ap_getR (q := 111) (r := q + 76) lg_RX8_35 (by decide) hq rfl hc dX8_call_108 rfl ?_
        refine ap_iload_n (q := 112) hc dX8_call_111 rfl rfl 1 rfl ?_
        refine ap_iload_n (q := 113) hc dX8_call_112 rfl rfl 2 rfl ?_
        refine ap_iconst (q := 114) hc dX8_call_113 rfl ic_1 ?_
        refine ap_isub (q := 115) hc dX8_call_114 rfl ?_
        refine ap_callV (q := 118) (As := [.int x1, .int (x3 - 1)]) hc (ok_X2_comesTo hg (ty_8_76 hq) h) ml_RX8_178 lk_X2_comesTo lv_X2_comesTo (ty_8_76 hq) rfl (ap_RmE hz (by decide)) rfl rfl (Nat.le_of_ble_eq_true rfl) dX8_call_115 rfl (ap_ki (fun r_7 M_8 h => ?_))
        refine ap_istore (q := 120) (lo2 := [(7, .int r_7), (0, .ref (ap_ad g q)), (1, .int x1), (3, .int x3), (4, .int x4), (5, .int x5), (6, .int x6)]) hc dX8_call_118 rfl rfl (by decide) rfl ?_
        refine ap_iload (q := 122) hc dX8_call_120 rfl 0 rfl ?_
        refine ap_if_lt (q := 125) (tgt := 138) hc dX8_call_122 rfl (by decide) (fun z_9 => ?_) (fun z_9 => ?_)
        · have h := Eq.mp (if_pos z_9) h
          exact ap_sub [1, 2, 3, 4, 5, 6] rfl (bl_X8_call_138 hc hz  hq ih  h)
        · have h := Eq.mp (if_neg z_9) h
          refine ap_iload (q := 127) hc dX8_call_125 rfl 0 rfl ?_
          refine ap_istore_n (q := 128) (lo2 := [(3, .int r_7), (7, .int r_7), (0, .ref (ap_ad g q)), (1, .int x1), (4, .int x4), (5, .int x5), (6, .int x6)]) hc dX8_call_127 rfl rfl rfl (by decide) rfl ?_
          refine ap_bipush (q := 130) hc dX8_call_128 rfl bc_100 ?_
          refine ap_iload (q := 132) hc dX8_call_130 rfl 5 rfl ?_
          refine ap_imul (q := 133) hc dX8_call_132 rfl ?_
          refine ap_iload (q := 135) hc dX8_call_133 rfl 6 rfl ?_
          refine ap_iadd (q := 136) hc dX8_call_135 rfl ?_
          obtain ⟨x4_10, ex4_10, h⟩ := ap_nm h
          refine ap_istore (q := 138) (lo2 := [(4, .int x4_10), (3, .int r_7), (7, .int r_7), (0, .ref (ap_ad g q)), (1, .int x1), (5, .int x5), (6, .int x6)]) hc dX8_call_136 rfl ex4_10 (by decide) rfl ?_
          exact ap_sub [3, 4, 1, 0, 5, 6] rfl (bl_X8_call_138 hc hz  hq ih  h)
def w_X8_call_49_s   (kL49 : Int32 → Int32 → Int32 → Int32 → ap_Mem → Prop) (q : Nat) (x1 : Int32) (x3 : Int32) (x4 : Int32) (x5 : Int32) (M : ap_Mem) (K : Int32 → ap_Mem → Prop) : Prop :=
(if (M (q + 13) 5) ≤ x5 then (K x4 M) else (w_X8_call_67  kL49 q K 4096 x1 x3 x4 x5 0 M))
def w_X8_call_49   (q : Nat) (K : Int32 → ap_Mem → Prop) : Nat → Int32 → Int32 → Int32 → Int32 → ap_Mem → Prop
  | 0, _, _, _, _, _ => False
  | n + 1, x1, x3, x4, x5, M => w_X8_call_49_s   (w_X8_call_49   q K n) q x1 x3 x4 x5 M K
theorem bl_X8_call_49 {x : ap_X} {g : ap_G} (hc : ap_Cx x g cX8_call RX8 8) {K : Int32 → ap_Mem → Prop} (hz : ap_Ends x g 6 (some .int) (ap_Qi K))   {q : Nat} (hq : ap_kd q = 8)   : ∀ (n : Nat) (x1 : Int32) (x3 : Int32) (x4 : Int32) (x5 : Int32) (M : ap_Mem), w_X8_call_49   q K n x1 x3 x4 x5 M → ap_V x g 8 49 [(0, .ref (ap_ad g q)), (1, .int x1), (3, .int x3), (4, .int x4), (5, .int x5)] [] M := by
  intro n
  induction n with
  | zero => intro _ _ _ _ _ h; exact h.elim
  | succ n ih =>
    intro x1 x3 x4 x5 M h
    replace h : w_X8_call_49_s   (w_X8_call_49   q K n) q x1 x3 x4 x5 M K := h
    unfold w_X8_call_49_s at h
    refine ap_iload (q := 51) hc dX8_call_49 rfl 4 rfl ?_
    refine ap_aload_n (q := 52) hc dX8_call_51 rfl rfl 0 rfl ?_
    refine ap_getR (q := 55) (r := q + 1) lg_RX8_12 (by decide) hq rfl hc dX8_call_52 rfl ?_
    refine ap_getR (q := 58) (r := q + 13) lg_RX8_94 (by decide) (ty_8_1 hq) rfl hc dX8_call_55 rfl ?_
    refine ap_getI (q := 61) lg_RX8_187 (ty_8_13 hq) hc dX8_call_58 rfl ?_
    refine ap_icmp_ge (q := 64) (tgt := 172) hc dX8_call_61 rfl (by decide) (fun z_1 => ?_) (fun z_1 => ?_)
    · have h := Eq.mp (if_pos z_1) h
      refine ap_iload (q := 174) hc dX8_call_172 rfl 3 rfl ?_
      exact ap_iret hc hz rfl dX8_call_174 h
    · have h := Eq.mp (if_neg z_1) h
      refine ap_iconst (q := 65) hc dX8_call_64 rfl ic_0 ?_
      refine ap_istore (q := 67) (lo2 := [(6, .int 0), (0, .ref (ap_ad g q)), (1, .int x1), (3, .int x3), (4, .int x4), (5, .int x5)]) hc dX8_call_65 rfl rfl (by decide) rfl ?_
      exact ap_sub [1, 2, 3, 4, 5, 0] rfl (bl_X8_call_67 hc hz  hq ih _ _ _ _ _ _ _ h)
def w_X8_call_41   (q : Nat) (x1 : Int32) (s0 : Int32) (M : ap_Mem) (K : Int32 → ap_Mem → Prop) : Prop :=
w_X8_call_49   q K 4096 x1 s0 (-5) 0 M
theorem bl_X8_call_41 {x : ap_X} {g : ap_G} (hc : ap_Cx x g cX8_call RX8 8) {K : Int32 → ap_Mem → Prop} (hz : ap_Ends x g 6 (some .int) (ap_Qi K))   {q : Nat} (hq : ap_kd q = 8)   {x1 : Int32} {s0 : Int32} {M : ap_Mem}  (h : w_X8_call_41   q x1 s0 M K) : ap_V x g 8 41 [(0, .ref (ap_ad g q)), (1, .int x1)] [.int s0] M := by
  unfold w_X8_call_41 at h
  refine ap_istore_n (q := 42) (lo2 := [(3, .int s0), (0, .ref (ap_ad g q)), (1, .int x1)]) hc dX8_call_41 rfl rfl rfl (by decide) rfl ?_
  refine ap_bipush (q := 44) hc dX8_call_42 rfl bc_m5 ?_
  refine ap_istore (q := 46) (lo2 := [(4, .int (-5)), (3, .int s0), (0, .ref (ap_ad g q)), (1, .int x1)]) hc dX8_call_44 rfl rfl (by decide) rfl ?_
  refine ap_iconst (q := 47) hc dX8_call_46 rfl ic_0 ?_
  refine ap_istore (q := 49) (lo2 := [(5, .int 0), (4, .int (-5)), (3, .int s0), (0, .ref (ap_ad g q)), (1, .int x1)]) hc dX8_call_47 rfl rfl (by decide) rfl ?_
  exact ap_sub [3, 4, 2, 1, 0] rfl (bl_X8_call_49 hc hz  hq  _ _ _ _ _ _ h)
def w_X8_call   (q : Nat) (x1 : Int32) (M : ap_Mem) (K : Int32 → ap_Mem → Prop) : Prop :=
w_X8_isCell x1 M (fun r_1 M_2 => (if r_1 = 0 then (K (-1) M_2) else (w_X2_begin (q + 76) (q + 1) M_2 (fun M_4 => w_X2_comesTo (q + 76) x1 30 M_4 (fun r_5 M_6 => (if 0 ≤ r_5 then (w_X8_call_41   q x1 r_5 M_6 K) else (w_X8_call_41   q x1 31 M_6 K)))))))
theorem bl_X8_call_0 {x : ap_X} {g : ap_G} (hc : ap_Cx x g cX8_call RX8 8) {K : Int32 → ap_Mem → Prop} (hz : ap_Ends x g 6 (some .int) (ap_Qi K))   {q : Nat} (hq : ap_kd q = 8)   {x1 : Int32} {M : ap_Mem}  (h : w_X8_call   q x1 M K) : ap_V x g 8 0 [(0, .ref (ap_ad g q)), (1, .int x1)] [] M := by
  have hg := hc.2.2.2.2.2.2.2.1
  unfold w_X8_call at h
  refine ap_iload_n (q := 1) hc dX8_call_0 rfl rfl 1 rfl ?_
  refine ap_callS (q := 4) (As := [.int x1]) hc (ok_X8_isCell hg  h) ml_RX8_88 lk_X8_isCell ls_X8_isCell (ap_RmE hz (by decide)) rfl rfl (Nat.le_of_ble_eq_true rfl) dX8_call_1 rfl (ap_ki (fun r_1 M_2 h => ?_))
  refine ap_if_ne (q := 7) (tgt := 9) hc dX8_call_4 rfl (by decide) (fun z_3 => ?_) (fun z_3 => ?_)
  · have h := Eq.mp (if_neg z_3) h
    refine ap_aload_n (q := 10) hc dX8_call_9 rfl rfl 0 rfl ?_
    refine ap_getR (q := 13) (r := q + 76) lg_RX8_35 (by decide) hq rfl hc dX8_call_10 rfl ?_
    refine ap_aload_n (q := 14) hc dX8_call_13 rfl rfl 0 rfl ?_
    refine ap_getR (q := 17) (r := q + 1) lg_RX8_12 (by decide) hq rfl hc dX8_call_14 rfl ?_
    refine ap_callV (q := 20) (As := [.ref (ap_ad g (q + 1))]) hc (ok_X2_begin hg (ty_8_76 hq) (ty_8_1 hq) h) ml_RX8_120 lk_X2_begin lv_X2_begin (ty_8_76 hq) rfl (ap_RmE hz (by decide)) rfl rfl (Nat.le_of_ble_eq_true rfl) dX8_call_17 rfl (ap_kv (fun M_4 h => ?_))
    refine ap_aload_n (q := 21) hc dX8_call_20 rfl rfl 0 rfl ?_
    refine ap_getR (q := 24) (r := q + 76) lg_RX8_35 (by decide) hq rfl hc dX8_call_21 rfl ?_
    refine ap_iload_n (q := 25) hc dX8_call_24 rfl rfl 1 rfl ?_
    refine ap_bipush (q := 27) hc dX8_call_25 rfl bc_30 ?_
    refine ap_callV (q := 30) (As := [.int x1, .int 30]) hc (ok_X2_comesTo hg (ty_8_76 hq) h) ml_RX8_178 lk_X2_comesTo lv_X2_comesTo (ty_8_76 hq) rfl (ap_RmE hz (by decide)) rfl rfl (Nat.le_of_ble_eq_true rfl) dX8_call_27 rfl (ap_ki (fun r_5 M_6 h => ?_))
    refine ap_istore_n (q := 31) (lo2 := [(2, .int r_5), (0, .ref (ap_ad g q)), (1, .int x1)]) hc dX8_call_30 rfl rfl rfl (by decide) rfl ?_
    refine ap_iload_n (q := 32) hc dX8_call_31 rfl rfl 0 rfl ?_
    refine ap_if_ge (q := 35) (tgt := 40) hc dX8_call_32 rfl (by decide) (fun z_7 => ?_) (fun z_7 => ?_)
    · have h := Eq.mp (if_pos z_7) h
      refine ap_iload_n (q := 41) hc dX8_call_40 rfl rfl 0 rfl ?_
      exact ap_sub [1, 2] rfl (bl_X8_call_41 hc hz  hq   h)
    · have h := Eq.mp (if_neg z_7) h
      refine ap_bipush (q := 37) hc dX8_call_35 rfl bc_31 ?_
      refine ap_goto (q := 41) hc dX8_call_37 (by decide) ?_
      exact ap_sub [1, 2] rfl (bl_X8_call_41 hc hz  hq   h)
  · have h := Eq.mp (if_pos z_3) h
    refine ap_iconst (q := 8) hc dX8_call_7 rfl ic_m1 ?_
    exact ap_iret hc hz rfl dX8_call_8 h
theorem ok_X8_call {l : Launch} {g : ap_G} (hg : ap_GOK g) {q : Nat} (hq : ap_kd q = 8) {x1 : Int32} {M : ap_Mem} {K : Int32 → ap_Mem → Prop} (h : w_X8_call q x1 M K) : ap_Ct l g yX8_call cX8_call 8 (some .int) 6 [.ref (ap_ad g q), .int x1] M (ap_Qi K) := by
  refine ap_Ct_of hg (by decide +kernel) (Nat.le_of_ble_eq_true rfl) (fun x hx hc hz => ?_)
  subst hx
  exact bl_X8_call_0 hc hz hq h
def w_X8_kept_118  (kL29 : Int32 → Int32 → Int32 → Int32 → ap_Mem → Prop) (q : Nat) (x1 : Int32) (x2 : Int32) (x3 : Int32) (x4 : Int32) (M : ap_Mem) (K : Int32 → ap_Mem → Prop) : Prop :=
∀ x4_1 : Int32, x4_1 = x4 + 1 → kL29 x1 x2 x3 x4_1 M
theorem bl_X8_kept_118 {x : ap_X} {g : ap_G} (hc : ap_Cx x g cX8_kept RX8 5) {K : Int32 → ap_Mem → Prop} (hz : ap_Ends x g 6 (some .int) (ap_Qi K))   {q : Nat} (hq : ap_kd q = 8) {kL29 : Int32 → Int32 → Int32 → Int32 → ap_Mem → Prop} (hk29 : ∀ (x1 : Int32) (x2 : Int32) (x3 : Int32) (x4 : Int32)  (M : ap_Mem), kL29 x1 x2 x3 x4 M → ap_V x g 5 29 [(0, .ref (ap_ad g q)), (1, .int x1), (2, .int x2), (3, .int x3), (4, .int x4)] [] M) {x1 : Int32} {x2 : Int32} {x3 : Int32} {x4 : Int32} {M : ap_Mem}  (h : w_X8_kept_118  kL29 q x1 x2 x3 x4 M K) : ap_V x g 5 118 [(0, .ref (ap_ad g q)), (1, .int x1), (2, .int x2), (3, .int x3), (4, .int x4)] [] M := by
  unfold w_X8_kept_118 at h
  obtain ⟨x4_1, ex4_1, h⟩ := ap_nm h
  refine ap_iinc (q := 121) (lo2 := [(4, .int x4_1), (0, .ref (ap_ad g q)), (1, .int x1), (2, .int x2), (3, .int x3)]) hc dX8_kept_118 rfl 4 rfl (by rw [ex4_1]; rfl) (by decide) rfl ?_
  refine ap_goto (q := 29) hc dX8_kept_121 (by decide) ?_
  exact ap_sub [1, 2, 3, 4, 0] rfl (hk29 _ _ _ _ _ h)
def w_X8_kept_29_s   (kL29 : Int32 → Int32 → Int32 → Int32 → ap_Mem → Prop) (q : Nat) (x1 : Int32) (x2 : Int32) (x3 : Int32) (x4 : Int32) (M : ap_Mem) (K : Int32 → ap_Mem → Prop) : Prop :=
(if (1 <<< ((M (q + 13) 5) &&& 31)) ≤ x4 then (K x2 M) else (w_J6_bitCount_0f7a4 x4 M (fun r_2 M_3 => (if r_2 < x3 then (w_X2_again (q + 76) M_3 (fun M_5 => ∀ M_6 : ap_Mem, M_6 = ap_mu M_5 (q + 77) 4 ((M_5 (q + 13) 4) ||| x4) → w_X2_goSteps (q + 76) 1 M_6 (fun M_7 => w_X2_comesTo (q + 76) x1 29 M_7 (fun r_8 M_9 => (if 0 ≤ r_8 then (w_X8_kept_118  kL29 q x1 x2 x3 x4 M_9 K) else (w_J6_bitCount_0f7a4 x4 M_9 (fun r_11 M_12 => w_X8_kept_118  kL29 q x1 x4 r_11 x4 M_12 K))))))) else (w_X8_kept_118  kL29 q x1 x2 x3 x4 M_3 K)))))
def w_X8_kept_29   (q : Nat) (K : Int32 → ap_Mem → Prop) : Nat → Int32 → Int32 → Int32 → Int32 → ap_Mem → Prop
  | 0, _, _, _, _, _ => False
  | n + 1, x1, x2, x3, x4, M => w_X8_kept_29_s   (w_X8_kept_29   q K n) q x1 x2 x3 x4 M K
theorem bl_X8_kept_29 {x : ap_X} {g : ap_G} (hc : ap_Cx x g cX8_kept RX8 5) {K : Int32 → ap_Mem → Prop} (hz : ap_Ends x g 6 (some .int) (ap_Qi K))   {q : Nat} (hq : ap_kd q = 8)   : ∀ (n : Nat) (x1 : Int32) (x2 : Int32) (x3 : Int32) (x4 : Int32) (M : ap_Mem), w_X8_kept_29   q K n x1 x2 x3 x4 M → ap_V x g 5 29 [(0, .ref (ap_ad g q)), (1, .int x1), (2, .int x2), (3, .int x3), (4, .int x4)] [] M := by
  have hg := hc.2.2.2.2.2.2.2.1
  intro n
  induction n with
  | zero => intro _ _ _ _ _ h; exact h.elim
  | succ n ih =>
    intro x1 x2 x3 x4 M h
    replace h : w_X8_kept_29_s   (w_X8_kept_29   q K n) q x1 x2 x3 x4 M K := h
    unfold w_X8_kept_29_s at h
    refine ap_iload (q := 31) hc dX8_kept_29 rfl 4 rfl ?_
    refine ap_iconst (q := 32) hc dX8_kept_31 rfl ic_1 ?_
    refine ap_aload_n (q := 33) hc dX8_kept_32 rfl rfl 0 rfl ?_
    refine ap_getR (q := 36) (r := q + 1) lg_RX8_12 (by decide) hq rfl hc dX8_kept_33 rfl ?_
    refine ap_getR (q := 39) (r := q + 13) lg_RX8_94 (by decide) (ty_8_1 hq) rfl hc dX8_kept_36 rfl ?_
    refine ap_getI (q := 42) lg_RX8_187 (ty_8_13 hq) hc dX8_kept_39 rfl ?_
    refine ap_ishl (q := 43) hc dX8_kept_42 rfl ?_
    refine ap_icmp_ge (q := 46) (tgt := 124) hc dX8_kept_43 rfl (by decide) (fun z_1 => ?_) (fun z_1 => ?_)
    · have h := Eq.mp (if_pos z_1) h
      refine ap_iload_n (q := 125) hc dX8_kept_124 rfl rfl 2 rfl ?_
      exact ap_iret hc hz rfl dX8_kept_125 h
    · have h := Eq.mp (if_neg z_1) h
      refine ap_iload (q := 48) hc dX8_kept_46 rfl 4 rfl ?_
      refine ap_callS (q := 51) (As := [.int x4]) hc (ok_J6_bitCount_0f7a4 hg  h) ml_RX8_194 lk_J6_bitCount_0f7a4 ls_J6_bitCount_0f7a4 (ap_RmE hz (by decide)) rfl rfl (Nat.le_of_ble_eq_true rfl) dX8_kept_48 rfl (ap_ki (fun r_2 M_3 h => ?_))
      refine ap_iload_n (q := 52) hc dX8_kept_51 rfl rfl 3 rfl ?_
      refine ap_icmp_lt (q := 55) (tgt := 58) hc dX8_kept_52 rfl (by decide) (fun z_4 => ?_) (fun z_4 => ?_)
      · have h := Eq.mp (if_pos z_4) h
        refine ap_aload_n (q := 59) hc dX8_kept_58 rfl rfl 0 rfl ?_
        refine ap_getR (q := 62) (r := q + 76) lg_RX8_35 (by decide) hq rfl hc dX8_kept_59 rfl ?_
        refine ap_callV (q := 65) (As := []) hc (ok_X2_again hg (ty_8_76 hq) h) ml_RX8_184 lk_X2_again lv_X2_again (ty_8_76 hq) rfl (ap_RmE hz (by decide)) rfl rfl (Nat.le_of_ble_eq_true rfl) dX8_kept_62 rfl (ap_kv (fun M_5 h => ?_))
        refine ap_aload_n (q := 66) hc dX8_kept_65 rfl rfl 0 rfl ?_
        refine ap_getR (q := 69) (r := q + 76) lg_RX8_35 (by decide) hq rfl hc dX8_kept_66 rfl ?_
        refine ap_getR (q := 72) (r := q + 77) lg_RX8_199 (by decide) (ty_8_76 hq) rfl hc dX8_kept_69 rfl ?_
        refine ap_aload_n (q := 73) hc dX8_kept_72 rfl rfl 0 rfl ?_
        refine ap_getR (q := 76) (r := q + 1) lg_RX8_12 (by decide) hq rfl hc dX8_kept_73 rfl ?_
        refine ap_getR (q := 79) (r := q + 13) lg_RX8_94 (by decide) (ty_8_1 hq) rfl hc dX8_kept_76 rfl ?_
        refine ap_getI (q := 82) lg_RX8_200 (ty_8_13 hq) hc dX8_kept_79 rfl ?_
        refine ap_iload (q := 84) hc dX8_kept_82 rfl 4 rfl ?_
        refine ap_ior (q := 85) hc dX8_kept_84 rfl ?_
        obtain ⟨M_6, eM_6, h⟩ := ap_nm h
        refine ap_putI (q := 88) lp_RX8_200 (ty_8_77 hq) eM_6 hc dX8_kept_85 rfl ?_
        refine ap_aload_n (q := 89) hc dX8_kept_88 rfl rfl 0 rfl ?_
        refine ap_getR (q := 92) (r := q + 76) lg_RX8_35 (by decide) hq rfl hc dX8_kept_89 rfl ?_
        refine ap_iconst (q := 93) hc dX8_kept_92 rfl ic_1 ?_
        refine ap_callV (q := 96) (As := [.int 1]) hc (ok_X2_goSteps hg (ty_8_76 hq) h) ml_RX8_175 lk_X2_goSteps lv_X2_goSteps (ty_8_76 hq) rfl (ap_RmE hz (by decide)) rfl rfl (Nat.le_of_ble_eq_true rfl) dX8_kept_93 rfl (ap_kv (fun M_7 h => ?_))
        refine ap_aload_n (q := 97) hc dX8_kept_96 rfl rfl 0 rfl ?_
        refine ap_getR (q := 100) (r := q + 76) lg_RX8_35 (by decide) hq rfl hc dX8_kept_97 rfl ?_
        refine ap_iload_n (q := 101) hc dX8_kept_100 rfl rfl 1 rfl ?_
        refine ap_bipush (q := 103) hc dX8_kept_101 rfl bc_29 ?_
        refine ap_callV (q := 106) (As := [.int x1, .int 29]) hc (ok_X2_comesTo hg (ty_8_76 hq) h) ml_RX8_178 lk_X2_comesTo lv_X2_comesTo (ty_8_76 hq) rfl (ap_RmE hz (by decide)) rfl rfl (Nat.le_of_ble_eq_true rfl) dX8_kept_103 rfl (ap_ki (fun r_8 M_9 h => ?_))
        refine ap_if_ge (q := 109) (tgt := 118) hc dX8_kept_106 rfl (by decide) (fun z_10 => ?_) (fun z_10 => ?_)
        · have h := Eq.mp (if_pos z_10) h
          exact ap_sub [0, 1, 2, 3, 4] rfl (bl_X8_kept_118 hc hz  hq ih  h)
        · have h := Eq.mp (if_neg z_10) h
          refine ap_iload (q := 111) hc dX8_kept_109 rfl 4 rfl ?_
          refine ap_istore_n (q := 112) (lo2 := [(2, .int x4), (0, .ref (ap_ad g q)), (1, .int x1), (3, .int x3), (4, .int x4)]) hc dX8_kept_111 rfl rfl rfl (by decide) rfl ?_
          refine ap_iload (q := 114) hc dX8_kept_112 rfl 4 rfl ?_
          refine ap_callS (q := 117) (As := [.int x4]) hc (ok_J6_bitCount_0f7a4 hg  h) ml_RX8_194 lk_J6_bitCount_0f7a4 ls_J6_bitCount_0f7a4 (ap_RmE hz (by decide)) rfl rfl (Nat.le_of_ble_eq_true rfl) dX8_kept_114 rfl (ap_ki (fun r_11 M_12 h => ?_))
          refine ap_istore_n (q := 118) (lo2 := [(3, .int r_11), (2, .int x4), (0, .ref (ap_ad g q)), (1, .int x1), (4, .int x4)]) hc dX8_kept_117 rfl rfl rfl (by decide) rfl ?_
          exact ap_sub [2, 3, 1, 0, 4] rfl (bl_X8_kept_118 hc hz  hq ih  h)
      · have h := Eq.mp (if_neg z_4) h
        refine ap_goto (q := 118) hc dX8_kept_55 (by decide) ?_
        exact ap_sub [0, 1, 2, 3, 4] rfl (bl_X8_kept_118 hc hz  hq ih  h)
def w_X8_kept   (q : Nat) (x1 : Int32) (M : ap_Mem) (K : Int32 → ap_Mem → Prop) : Prop :=
w_X8_isCell x1 M (fun r_1 M_2 => (if r_1 = 0 then (K (-1) M_2) else (w_X2_begin (q + 76) (q + 1) M_2 (fun M_4 => w_X8_kept_29   q K 4096 x1 (-5) 7 0 M_4))))
theorem bl_X8_kept_0 {x : ap_X} {g : ap_G} (hc : ap_Cx x g cX8_kept RX8 5) {K : Int32 → ap_Mem → Prop} (hz : ap_Ends x g 6 (some .int) (ap_Qi K))   {q : Nat} (hq : ap_kd q = 8)   {x1 : Int32} {M : ap_Mem}  (h : w_X8_kept   q x1 M K) : ap_V x g 5 0 [(0, .ref (ap_ad g q)), (1, .int x1)] [] M := by
  have hg := hc.2.2.2.2.2.2.2.1
  unfold w_X8_kept at h
  refine ap_iload_n (q := 1) hc dX8_kept_0 rfl rfl 1 rfl ?_
  refine ap_callS (q := 4) (As := [.int x1]) hc (ok_X8_isCell hg  h) ml_RX8_88 lk_X8_isCell ls_X8_isCell (ap_RmE hz (by decide)) rfl rfl (Nat.le_of_ble_eq_true rfl) dX8_kept_1 rfl (ap_ki (fun r_1 M_2 h => ?_))
  refine ap_if_ne (q := 7) (tgt := 9) hc dX8_kept_4 rfl (by decide) (fun z_3 => ?_) (fun z_3 => ?_)
  · have h := Eq.mp (if_neg z_3) h
    refine ap_aload_n (q := 10) hc dX8_kept_9 rfl rfl 0 rfl ?_
    refine ap_getR (q := 13) (r := q + 76) lg_RX8_35 (by decide) hq rfl hc dX8_kept_10 rfl ?_
    refine ap_aload_n (q := 14) hc dX8_kept_13 rfl rfl 0 rfl ?_
    refine ap_getR (q := 17) (r := q + 1) lg_RX8_12 (by decide) hq rfl hc dX8_kept_14 rfl ?_
    refine ap_callV (q := 20) (As := [.ref (ap_ad g (q + 1))]) hc (ok_X2_begin hg (ty_8_76 hq) (ty_8_1 hq) h) ml_RX8_120 lk_X2_begin lv_X2_begin (ty_8_76 hq) rfl (ap_RmE hz (by decide)) rfl rfl (Nat.le_of_ble_eq_true rfl) dX8_kept_17 rfl (ap_kv (fun M_4 h => ?_))
    refine ap_bipush (q := 22) hc dX8_kept_20 rfl bc_m5 ?_
    refine ap_istore_n (q := 23) (lo2 := [(2, .int (-5)), (0, .ref (ap_ad g q)), (1, .int x1)]) hc dX8_kept_22 rfl rfl rfl (by decide) rfl ?_
    refine ap_bipush (q := 25) hc dX8_kept_23 rfl bc_7 ?_
    refine ap_istore_n (q := 26) (lo2 := [(3, .int 7), (2, .int (-5)), (0, .ref (ap_ad g q)), (1, .int x1)]) hc dX8_kept_25 rfl rfl rfl (by decide) rfl ?_
    refine ap_iconst (q := 27) hc dX8_kept_26 rfl ic_0 ?_
    refine ap_istore (q := 29) (lo2 := [(4, .int 0), (3, .int 7), (2, .int (-5)), (0, .ref (ap_ad g q)), (1, .int x1)]) hc dX8_kept_27 rfl rfl (by decide) rfl ?_
    exact ap_sub [3, 4, 2, 1, 0] rfl (bl_X8_kept_29 hc hz  hq  _ _ _ _ _ _ h)
  · have h := Eq.mp (if_pos z_3) h
    refine ap_iconst (q := 8) hc dX8_kept_7 rfl ic_m1 ?_
    exact ap_iret hc hz rfl dX8_kept_8 h
theorem ok_X8_kept {l : Launch} {g : ap_G} (hg : ap_GOK g) {q : Nat} (hq : ap_kd q = 8) {x1 : Int32} {M : ap_Mem} {K : Int32 → ap_Mem → Prop} (h : w_X8_kept q x1 M K) : ap_Ct l g yX8_kept cX8_kept 5 (some .int) 6 [.ref (ap_ad g q), .int x1] M (ap_Qi K) := by
  refine ap_Ct_of hg (by decide +kernel) (Nat.le_of_ble_eq_true rfl) (fun x hx hc hz => ?_)
  subst hx
  exact bl_X8_kept_0 hc hz hq h
def w_X8_walk   (q : Nat) (x1 : Int32) (M : ap_Mem) (K : Int32 → ap_Mem → Prop) : Prop :=
(if x1 = (-1) then (w_X5_clear (q + 20) M (fun r_7 M_8 => K r_7 M_8)) else (w_X8_isCell x1 M (fun r_2 M_3 => (if r_2 = 0 then (K (-1) M_3) else (w_X5_add (q + 20) x1 0 M_3 (fun r_5 M_6 => K r_5 M_6))))))
theorem bl_X8_walk_0 {x : ap_X} {g : ap_G} (hc : ap_Cx x g cX8_walk RX8 2) {K : Int32 → ap_Mem → Prop} (hz : ap_Ends x g 1 (some .int) (ap_Qi K))   {q : Nat} (hq : ap_kd q = 8)   {x1 : Int32} {M : ap_Mem}  (h : w_X8_walk   q x1 M K) : ap_V x g 2 0 [(0, .ref (ap_ad g q)), (1, .int x1)] [] M := by
  have hg := hc.2.2.2.2.2.2.2.1
  unfold w_X8_walk at h
  refine ap_iload_n (q := 1) hc dX8_walk_0 rfl rfl 1 rfl ?_
  refine ap_iconst (q := 2) hc dX8_walk_1 rfl ic_m1 ?_
  refine ap_icmp_ne (q := 5) (tgt := 16) hc dX8_walk_2 rfl (by decide) (fun z_1 => ?_) (fun z_1 => ?_)
  · have h := Eq.mp (if_neg z_1) h
    refine ap_iload_n (q := 17) hc dX8_walk_16 rfl rfl 1 rfl ?_
    refine ap_callS (q := 20) (As := [.int x1]) hc (ok_X8_isCell hg  h) ml_RX8_88 lk_X8_isCell ls_X8_isCell (ap_RmE hz (by decide)) rfl rfl (Nat.le_of_ble_eq_true rfl) dX8_walk_17 rfl (ap_ki (fun r_2 M_3 h => ?_))
    refine ap_if_ne (q := 23) (tgt := 25) hc dX8_walk_20 rfl (by decide) (fun z_4 => ?_) (fun z_4 => ?_)
    · have h := Eq.mp (if_neg z_4) h
      refine ap_aload_n (q := 26) hc dX8_walk_25 rfl rfl 0 rfl ?_
      refine ap_getR (q := 29) (r := q + 1) lg_RX8_12 (by decide) hq rfl hc dX8_walk_26 rfl ?_
      refine ap_getR (q := 32) (r := q + 20) lg_RX8_203 (by decide) (ty_8_1 hq) rfl hc dX8_walk_29 rfl ?_
      refine ap_iload_n (q := 33) hc dX8_walk_32 rfl rfl 1 rfl ?_
      refine ap_iconst (q := 34) hc dX8_walk_33 rfl ic_0 ?_
      refine ap_callV (q := 37) (As := [.int x1, .int 0]) hc (ok_X5_add hg (ty_8_20 hq) h) ml_RX8_50 lk_X5_add lv_X5_add (ty_8_20 hq) rfl (ap_RmE hz (by decide)) rfl rfl (Nat.le_of_ble_eq_true rfl) dX8_walk_34 rfl (ap_ki (fun r_5 M_6 h => ?_))
      exact ap_iret hc hz rfl dX8_walk_37 h
    · have h := Eq.mp (if_pos z_4) h
      refine ap_iconst (q := 24) hc dX8_walk_23 rfl ic_m1 ?_
      exact ap_iret hc hz rfl dX8_walk_24 h
  · have h := Eq.mp (if_pos z_1) h
    refine ap_aload_n (q := 6) hc dX8_walk_5 rfl rfl 0 rfl ?_
    refine ap_getR (q := 9) (r := q + 1) lg_RX8_12 (by decide) hq rfl hc dX8_walk_6 rfl ?_
    refine ap_getR (q := 12) (r := q + 20) lg_RX8_203 (by decide) (ty_8_1 hq) rfl hc dX8_walk_9 rfl ?_
    refine ap_callV (q := 15) (As := []) hc (ok_X5_clear hg (ty_8_20 hq) h) ml_RX8_64 lk_X5_clear lv_X5_clear (ty_8_20 hq) rfl (ap_RmE hz (by decide)) rfl rfl (Nat.le_of_ble_eq_true rfl) dX8_walk_12 rfl (ap_ki (fun r_7 M_8 h => ?_))
    exact ap_iret hc hz rfl dX8_walk_15 h
theorem ok_X8_walk {l : Launch} {g : ap_G} (hg : ap_GOK g) {q : Nat} (hq : ap_kd q = 8) {x1 : Int32} {M : ap_Mem} {K : Int32 → ap_Mem → Prop} (h : w_X8_walk q x1 M K) : ap_Ct l g yX8_walk cX8_walk 2 (some .int) 1 [.ref (ap_ad g q), .int x1] M (ap_Qi K) := by
  refine ap_Ct_of hg (by decide +kernel) (Nat.le_of_ble_eq_true rfl) (fun x hx hc hz => ?_)
  subst hx
  exact bl_X8_walk_0 hc hz hq h
def w_X8_met_72  (kL22 : Int32 → Int32 → ap_Mem → Prop) (q : Nat) (x1 : Int32) (x2 : Int32) (M : ap_Mem) (K : Int32 → ap_Mem → Prop) : Prop :=
w_X2_goSteps (q + 76) 1 M (fun M_1 => ∀ x2_2 : Int32, x2_2 = x2 + 1 → kL22 x1 x2_2 M_1)
theorem bl_X8_met_72 {x : ap_X} {g : ap_G} (hc : ap_Cx x g cX8_met RX8 3) {K : Int32 → ap_Mem → Prop} (hz : ap_Ends x g 6 (some .int) (ap_Qi K))   {q : Nat} (hq : ap_kd q = 8) {kL22 : Int32 → Int32 → ap_Mem → Prop} (hk22 : ∀ (x1 : Int32) (x2 : Int32)  (M : ap_Mem), kL22 x1 x2 M → ap_V x g 3 22 [(0, .ref (ap_ad g q)), (1, .int x1), (2, .int x2)] [] M) {x1 : Int32} {x2 : Int32} {M : ap_Mem}  (h : w_X8_met_72  kL22 q x1 x2 M K) : ap_V x g 3 72 [(0, .ref (ap_ad g q)), (1, .int x1), (2, .int x2)] [] M := by
  have hg := hc.2.2.2.2.2.2.2.1
  unfold w_X8_met_72 at h
  refine ap_aload_n (q := 73) hc dX8_met_72 rfl rfl 0 rfl ?_
  refine ap_getR (q := 76) (r := q + 76) lg_RX8_35 (by decide) hq rfl hc dX8_met_73 rfl ?_
  refine ap_iconst (q := 77) hc dX8_met_76 rfl ic_1 ?_
  refine ap_callV (q := 80) (As := [.int 1]) hc (ok_X2_goSteps hg (ty_8_76 hq) h) ml_RX8_175 lk_X2_goSteps lv_X2_goSteps (ty_8_76 hq) rfl (ap_RmE hz (by decide)) rfl rfl (Nat.le_of_ble_eq_true rfl) dX8_met_77 rfl (ap_kv (fun M_1 h => ?_))
  obtain ⟨x2_2, ex2_2, h⟩ := ap_nm h
  refine ap_iinc (q := 83) (lo2 := [(2, .int x2_2), (0, .ref (ap_ad g q)), (1, .int x1)]) hc dX8_met_80 rfl 2 rfl (by rw [ex2_2]; rfl) (by decide) rfl ?_
  refine ap_goto (q := 22) hc dX8_met_83 (by decide) ?_
  exact ap_sub [1, 2, 0] rfl (hk22 _ _ _ h)
def w_X8_met_22_s   (kL22 : Int32 → Int32 → ap_Mem → Prop) (q : Nat) (x1 : Int32) (x2 : Int32) (M : ap_Mem) (K : Int32 → ap_Mem → Prop) : Prop :=
(if ((M (q + 20) 2) + x1) ≤ x2 then (K (-5) M) else ((if x2 < x1 then (w_X8_met_72  kL22 q x1 x2 M K) else (vp_in (x2 - x1) 10 ∧ (if (M (q + 21) (x2 - x1).toNatClampNeg) = (M (q + 82) 1) then (K x2 M) else (w_X8_met_72  kL22 q x1 x2 M K))))))
def w_X8_met_22   (q : Nat) (K : Int32 → ap_Mem → Prop) : Nat → Int32 → Int32 → ap_Mem → Prop
  | 0, _, _, _ => False
  | n + 1, x1, x2, M => w_X8_met_22_s   (w_X8_met_22   q K n) q x1 x2 M K
theorem bl_X8_met_22 {x : ap_X} {g : ap_G} (hc : ap_Cx x g cX8_met RX8 3) {K : Int32 → ap_Mem → Prop} (hz : ap_Ends x g 6 (some .int) (ap_Qi K))   {q : Nat} (hq : ap_kd q = 8)   : ∀ (n : Nat) (x1 : Int32) (x2 : Int32) (M : ap_Mem), w_X8_met_22   q K n x1 x2 M → ap_V x g 3 22 [(0, .ref (ap_ad g q)), (1, .int x1), (2, .int x2)] [] M := by
  intro n
  induction n with
  | zero => intro _ _ _ h; exact h.elim
  | succ n ih =>
    intro x1 x2 M h
    replace h : w_X8_met_22_s   (w_X8_met_22   q K n) q x1 x2 M K := h
    unfold w_X8_met_22_s at h
    refine ap_iload_n (q := 23) hc dX8_met_22 rfl rfl 2 rfl ?_
    refine ap_aload_n (q := 24) hc dX8_met_23 rfl rfl 0 rfl ?_
    refine ap_getR (q := 27) (r := q + 1) lg_RX8_12 (by decide) hq rfl hc dX8_met_24 rfl ?_
    refine ap_getR (q := 30) (r := q + 20) lg_RX8_203 (by decide) (ty_8_1 hq) rfl hc dX8_met_27 rfl ?_
    refine ap_getI (q := 33) lg_RX8_206 (ty_8_20 hq) hc dX8_met_30 rfl ?_
    refine ap_iload_n (q := 34) hc dX8_met_33 rfl rfl 1 rfl ?_
    refine ap_iadd (q := 35) hc dX8_met_34 rfl ?_
    refine ap_icmp_ge (q := 38) (tgt := 86) hc dX8_met_35 rfl (by decide) (fun z_1 => ?_) (fun z_1 => ?_)
    · have h := Eq.mp (if_pos z_1) h
      refine ap_bipush (q := 88) hc dX8_met_86 rfl bc_m5 ?_
      exact ap_iret hc hz rfl dX8_met_88 h
    · have h := Eq.mp (if_neg z_1) h
      refine ap_iload_n (q := 39) hc dX8_met_38 rfl rfl 2 rfl ?_
      refine ap_iload_n (q := 40) hc dX8_met_39 rfl rfl 1 rfl ?_
      refine ap_icmp_lt (q := 43) (tgt := 72) hc dX8_met_40 rfl (by decide) (fun z_2 => ?_) (fun z_2 => ?_)
      · have h := Eq.mp (if_pos z_2) h
        exact ap_sub [0, 1, 2] rfl (bl_X8_met_72 hc hz  hq ih  h)
      · have h := Eq.mp (if_neg z_2) h
        refine ap_aload_n (q := 44) hc dX8_met_43 rfl rfl 0 rfl ?_
        refine ap_getR (q := 47) (r := q + 1) lg_RX8_12 (by decide) hq rfl hc dX8_met_44 rfl ?_
        refine ap_getR (q := 50) (r := q + 20) lg_RX8_203 (by decide) (ty_8_1 hq) rfl hc dX8_met_47 rfl ?_
        refine ap_getR (q := 53) (r := q + 21) lg_RX8_207 (by decide) (ty_8_20 hq) rfl hc dX8_met_50 rfl ?_
        refine ap_iload_n (q := 54) hc dX8_met_53 rfl rfl 2 rfl ?_
        refine ap_iload_n (q := 55) hc dX8_met_54 rfl rfl 1 rfl ?_
        refine ap_isub (q := 56) hc dX8_met_55 rfl ?_
        obtain ⟨g_3, h⟩ := h
        refine ap_iald (q := 57) (ty_8_21 hq) (tn_8_21 hq) g_3 hc dX8_met_56 rfl ?_
        refine ap_aload_n (q := 58) hc dX8_met_57 rfl rfl 0 rfl ?_
        refine ap_getR (q := 61) (r := q + 76) lg_RX8_35 (by decide) hq rfl hc dX8_met_58 rfl ?_
        refine ap_getR (q := 64) (r := q + 82) lg_RX8_171 (by decide) (ty_8_76 hq) rfl hc dX8_met_61 rfl ?_
        refine ap_getI (q := 67) lg_RX8_144 (ty_8_82 hq) hc dX8_met_64 rfl ?_
        refine ap_icmp_ne (q := 70) (tgt := 72) hc dX8_met_67 rfl (by decide) (fun z_4 => ?_) (fun z_4 => ?_)
        · have h := Eq.mp (if_neg z_4) h
          exact ap_sub [0, 1, 2] rfl (bl_X8_met_72 hc hz  hq ih  h)
        · have h := Eq.mp (if_pos z_4) h
          refine ap_iload_n (q := 71) hc dX8_met_70 rfl rfl 2 rfl ?_
          exact ap_iret hc hz rfl dX8_met_71 h
def w_X8_met   (q : Nat) (x1 : Int32) (M : ap_Mem) (K : Int32 → ap_Mem → Prop) : Prop :=
w_X8_isEither x1 M (fun r_1 M_2 => (if r_1 = 0 then (K (-1) M_2) else (w_X2_begin (q + 76) (q + 1) M_2 (fun M_4 => w_X8_met_22   q K 4096 x1 0 M_4))))
theorem bl_X8_met_0 {x : ap_X} {g : ap_G} (hc : ap_Cx x g cX8_met RX8 3) {K : Int32 → ap_Mem → Prop} (hz : ap_Ends x g 6 (some .int) (ap_Qi K))   {q : Nat} (hq : ap_kd q = 8)   {x1 : Int32} {M : ap_Mem}  (h : w_X8_met   q x1 M K) : ap_V x g 3 0 [(0, .ref (ap_ad g q)), (1, .int x1)] [] M := by
  have hg := hc.2.2.2.2.2.2.2.1
  unfold w_X8_met at h
  refine ap_iload_n (q := 1) hc dX8_met_0 rfl rfl 1 rfl ?_
  refine ap_callS (q := 4) (As := [.int x1]) hc (ok_X8_isEither hg  h) ml_RX8_181 lk_X8_isEither ls_X8_isEither (ap_RmE hz (by decide)) rfl rfl (Nat.le_of_ble_eq_true rfl) dX8_met_1 rfl (ap_ki (fun r_1 M_2 h => ?_))
  refine ap_if_ne (q := 7) (tgt := 9) hc dX8_met_4 rfl (by decide) (fun z_3 => ?_) (fun z_3 => ?_)
  · have h := Eq.mp (if_neg z_3) h
    refine ap_aload_n (q := 10) hc dX8_met_9 rfl rfl 0 rfl ?_
    refine ap_getR (q := 13) (r := q + 76) lg_RX8_35 (by decide) hq rfl hc dX8_met_10 rfl ?_
    refine ap_aload_n (q := 14) hc dX8_met_13 rfl rfl 0 rfl ?_
    refine ap_getR (q := 17) (r := q + 1) lg_RX8_12 (by decide) hq rfl hc dX8_met_14 rfl ?_
    refine ap_callV (q := 20) (As := [.ref (ap_ad g (q + 1))]) hc (ok_X2_begin hg (ty_8_76 hq) (ty_8_1 hq) h) ml_RX8_120 lk_X2_begin lv_X2_begin (ty_8_76 hq) rfl (ap_RmE hz (by decide)) rfl rfl (Nat.le_of_ble_eq_true rfl) dX8_met_17 rfl (ap_kv (fun M_4 h => ?_))
    refine ap_iconst (q := 21) hc dX8_met_20 rfl ic_0 ?_
    refine ap_istore_n (q := 22) (lo2 := [(2, .int 0), (0, .ref (ap_ad g q)), (1, .int x1)]) hc dX8_met_21 rfl rfl rfl (by decide) rfl ?_
    exact ap_sub [1, 2, 0] rfl (bl_X8_met_22 hc hz  hq  _ _ _ _ h)
  · have h := Eq.mp (if_pos z_3) h
    refine ap_iconst (q := 8) hc dX8_met_7 rfl ic_m1 ?_
    exact ap_iret hc hz rfl dX8_met_8 h
theorem ok_X8_met {l : Launch} {g : ap_G} (hg : ap_GOK g) {q : Nat} (hq : ap_kd q = 8) {x1 : Int32} {M : ap_Mem} {K : Int32 → ap_Mem → Prop} (h : w_X8_met q x1 M K) : ap_Ct l g yX8_met cX8_met 3 (some .int) 6 [.ref (ap_ad g q), .int x1] M (ap_Qi K) := by
  refine ap_Ct_of hg (by decide +kernel) (Nat.le_of_ble_eq_true rfl) (fun x hx hc hz => ?_)
  subst hx
  exact bl_X8_met_0 hc hz hq h
def w_X8_see   (q : Nat) (x1 : Int32) (x2 : Int32) (M : ap_Mem) (K : Int32 → ap_Mem → Prop) : Prop :=
(if x1 = (-1) then (w_X5_clear (q + 23) M (fun r_9 M_10 => K r_9 M_10)) else (w_X8_isCell x1 M (fun r_2 M_3 => (if r_2 = 0 then (K (-1) M_3) else ((if x2 < 0 then (K (-2) M_3) else ((if x2 ≤ 20 then (w_X5_add (q + 23) x1 x2 M_3 (fun r_7 M_8 => K r_7 M_8)) else (K (-2) M_3)))))))))
theorem bl_X8_see_0 {x : ap_X} {g : ap_G} (hc : ap_Cx x g cX8_see RX8 3) {K : Int32 → ap_Mem → Prop} (hz : ap_Ends x g 1 (some .int) (ap_Qi K))   {q : Nat} (hq : ap_kd q = 8)   {x1 : Int32} {x2 : Int32} {M : ap_Mem}  (h : w_X8_see   q x1 x2 M K) : ap_V x g 3 0 [(0, .ref (ap_ad g q)), (1, .int x1), (2, .int x2)] [] M := by
  have hg := hc.2.2.2.2.2.2.2.1
  unfold w_X8_see at h
  refine ap_iload_n (q := 1) hc dX8_see_0 rfl rfl 1 rfl ?_
  refine ap_iconst (q := 2) hc dX8_see_1 rfl ic_m1 ?_
  refine ap_icmp_ne (q := 5) (tgt := 16) hc dX8_see_2 rfl (by decide) (fun z_1 => ?_) (fun z_1 => ?_)
  · have h := Eq.mp (if_neg z_1) h
    refine ap_iload_n (q := 17) hc dX8_see_16 rfl rfl 1 rfl ?_
    refine ap_callS (q := 20) (As := [.int x1]) hc (ok_X8_isCell hg  h) ml_RX8_88 lk_X8_isCell ls_X8_isCell (ap_RmE hz (by decide)) rfl rfl (Nat.le_of_ble_eq_true rfl) dX8_see_17 rfl (ap_ki (fun r_2 M_3 h => ?_))
    refine ap_if_ne (q := 23) (tgt := 25) hc dX8_see_20 rfl (by decide) (fun z_4 => ?_) (fun z_4 => ?_)
    · have h := Eq.mp (if_neg z_4) h
      refine ap_iload_n (q := 26) hc dX8_see_25 rfl rfl 2 rfl ?_
      refine ap_if_lt (q := 29) (tgt := 35) hc dX8_see_26 rfl (by decide) (fun z_5 => ?_) (fun z_5 => ?_)
      · have h := Eq.mp (if_pos z_5) h
        refine ap_bipush (q := 37) hc dX8_see_35 rfl bc_m2 ?_
        exact ap_iret hc hz rfl dX8_see_37 h
      · have h := Eq.mp (if_neg z_5) h
        refine ap_iload_n (q := 30) hc dX8_see_29 rfl rfl 2 rfl ?_
        refine ap_bipush (q := 32) hc dX8_see_30 rfl bc_20 ?_
        refine ap_icmp_le (q := 35) (tgt := 38) hc dX8_see_32 rfl (by decide) (fun z_6 => ?_) (fun z_6 => ?_)
        · have h := Eq.mp (if_pos z_6) h
          refine ap_aload_n (q := 39) hc dX8_see_38 rfl rfl 0 rfl ?_
          refine ap_getR (q := 42) (r := q + 1) lg_RX8_12 (by decide) hq rfl hc dX8_see_39 rfl ?_
          refine ap_getR (q := 45) (r := q + 23) lg_RX8_210 (by decide) (ty_8_1 hq) rfl hc dX8_see_42 rfl ?_
          refine ap_iload_n (q := 46) hc dX8_see_45 rfl rfl 1 rfl ?_
          refine ap_iload_n (q := 47) hc dX8_see_46 rfl rfl 2 rfl ?_
          refine ap_callV (q := 50) (As := [.int x1, .int x2]) hc (ok_X5_add hg (ty_8_23 hq) h) ml_RX8_50 lk_X5_add lv_X5_add (ty_8_23 hq) rfl (ap_RmE hz (by decide)) rfl rfl (Nat.le_of_ble_eq_true rfl) dX8_see_47 rfl (ap_ki (fun r_7 M_8 h => ?_))
          exact ap_iret hc hz rfl dX8_see_50 h
        · have h := Eq.mp (if_neg z_6) h
          refine ap_bipush (q := 37) hc dX8_see_35 rfl bc_m2 ?_
          exact ap_iret hc hz rfl dX8_see_37 h
    · have h := Eq.mp (if_pos z_4) h
      refine ap_iconst (q := 24) hc dX8_see_23 rfl ic_m1 ?_
      exact ap_iret hc hz rfl dX8_see_24 h
  · have h := Eq.mp (if_pos z_1) h
    refine ap_aload_n (q := 6) hc dX8_see_5 rfl rfl 0 rfl ?_
    refine ap_getR (q := 9) (r := q + 1) lg_RX8_12 (by decide) hq rfl hc dX8_see_6 rfl ?_
    refine ap_getR (q := 12) (r := q + 23) lg_RX8_210 (by decide) (ty_8_1 hq) rfl hc dX8_see_9 rfl ?_
    refine ap_callV (q := 15) (As := []) hc (ok_X5_clear hg (ty_8_23 hq) h) ml_RX8_64 lk_X5_clear lv_X5_clear (ty_8_23 hq) rfl (ap_RmE hz (by decide)) rfl rfl (Nat.le_of_ble_eq_true rfl) dX8_see_12 rfl (ap_ki (fun r_9 M_10 h => ?_))
    exact ap_iret hc hz rfl dX8_see_15 h
theorem ok_X8_see {l : Launch} {g : ap_G} (hg : ap_GOK g) {q : Nat} (hq : ap_kd q = 8) {x1 : Int32} {x2 : Int32} {M : ap_Mem} {K : Int32 → ap_Mem → Prop} (h : w_X8_see q x1 x2 M K) : ap_Ct l g yX8_see cX8_see 3 (some .int) 1 [.ref (ap_ad g q), .int x1, .int x2] M (ap_Qi K) := by
  refine ap_Ct_of hg (by decide +kernel) (Nat.le_of_ble_eq_true rfl) (fun x hx hc hz => ?_)
  subst hx
  exact bl_X8_see_0 hc hz hq h
def w_X8_doors_69  (kL31 : Int32 → Int32 → Int32 → ap_Mem → Prop) (q : Nat) (x1 : Int32) (x2 : Int32) (x3 : Int32) (M : ap_Mem) (K : Int32 → ap_Mem → Prop) : Prop :=
∀ x3_1 : Int32, x3_1 = x3 + 1 → kL31 x1 x2 x3_1 M
theorem bl_X8_doors_69 {x : ap_X} {g : ap_G} (hc : ap_Cx x g cX8_doors RX8 4) {K : Int32 → ap_Mem → Prop} (hz : ap_Ends x g 6 (some .int) (ap_Qi K))   {q : Nat} (hq : ap_kd q = 8) {kL31 : Int32 → Int32 → Int32 → ap_Mem → Prop} (hk31 : ∀ (x1 : Int32) (x2 : Int32) (x3 : Int32)  (M : ap_Mem), kL31 x1 x2 x3 M → ap_V x g 4 31 [(0, .ref (ap_ad g q)), (1, .int x1), (2, .int x2), (3, .int x3)] [] M) {x1 : Int32} {x2 : Int32} {x3 : Int32} {M : ap_Mem}  (h : w_X8_doors_69  kL31 q x1 x2 x3 M K) : ap_V x g 4 69 [(0, .ref (ap_ad g q)), (1, .int x1), (2, .int x2), (3, .int x3)] [] M := by
  unfold w_X8_doors_69 at h
  obtain ⟨x3_1, ex3_1, h⟩ := ap_nm h
  refine ap_iinc (q := 72) (lo2 := [(3, .int x3_1), (0, .ref (ap_ad g q)), (1, .int x1), (2, .int x2)]) hc dX8_doors_69 rfl 3 rfl (by rw [ex3_1]; rfl) (by decide) rfl ?_
  refine ap_goto (q := 31) hc dX8_doors_72 (by decide) ?_
  exact ap_sub [1, 2, 3, 0] rfl (hk31 _ _ _ _ h)
def w_X8_doors_31_s   (kL31 : Int32 → Int32 → Int32 → ap_Mem → Prop) (q : Nat) (x1 : Int32) (x2 : Int32) (x3 : Int32) (M : ap_Mem) (K : Int32 → ap_Mem → Prop) : Prop :=
(if 16 ≤ x3 then (K x2 M) else (w_X2_putPerson (q + 76) x1 x3 M (fun M_2 => w_X2_isAsSeen (q + 76) (q + 23) M_2 (fun r_3 M_4 => (if r_3 = 0 then (w_X8_doors_69  kL31 q x1 x2 x3 M_4 K) else (∀ x2_6 : Int32, x2_6 = x2 ||| (1 <<< (x3 &&& 31)) → w_X8_doors_69  kL31 q x1 x2_6 x3 M_4 K))))))
def w_X8_doors_31   (q : Nat) (K : Int32 → ap_Mem → Prop) : Nat → Int32 → Int32 → Int32 → ap_Mem → Prop
  | 0, _, _, _, _ => False
  | n + 1, x1, x2, x3, M => w_X8_doors_31_s   (w_X8_doors_31   q K n) q x1 x2 x3 M K
theorem bl_X8_doors_31 {x : ap_X} {g : ap_G} (hc : ap_Cx x g cX8_doors RX8 4) {K : Int32 → ap_Mem → Prop} (hz : ap_Ends x g 6 (some .int) (ap_Qi K))   {q : Nat} (hq : ap_kd q = 8)   : ∀ (n : Nat) (x1 : Int32) (x2 : Int32) (x3 : Int32) (M : ap_Mem), w_X8_doors_31   q K n x1 x2 x3 M → ap_V x g 4 31 [(0, .ref (ap_ad g q)), (1, .int x1), (2, .int x2), (3, .int x3)] [] M := by
  have hg := hc.2.2.2.2.2.2.2.1
  intro n
  induction n with
  | zero => intro _ _ _ _ h; exact h.elim
  | succ n ih =>
    intro x1 x2 x3 M h
    replace h : w_X8_doors_31_s   (w_X8_doors_31   q K n) q x1 x2 x3 M K := h
    unfold w_X8_doors_31_s at h
    refine ap_iload_n (q := 32) hc dX8_doors_31 rfl rfl 3 rfl ?_
    refine ap_bipush (q := 34) hc dX8_doors_32 rfl bc_16 ?_
    refine ap_icmp_ge (q := 37) (tgt := 75) hc dX8_doors_34 rfl (by decide) (fun z_1 => ?_) (fun z_1 => ?_)
    · have h := Eq.mp (if_pos z_1) h
      refine ap_iload_n (q := 76) hc dX8_doors_75 rfl rfl 2 rfl ?_
      exact ap_iret hc hz rfl dX8_doors_76 h
    · have h := Eq.mp (if_neg z_1) h
      refine ap_aload_n (q := 38) hc dX8_doors_37 rfl rfl 0 rfl ?_
      refine ap_getR (q := 41) (r := q + 76) lg_RX8_35 (by decide) hq rfl hc dX8_doors_38 rfl ?_
      refine ap_iload_n (q := 42) hc dX8_doors_41 rfl rfl 1 rfl ?_
      refine ap_iload_n (q := 43) hc dX8_doors_42 rfl rfl 3 rfl ?_
      refine ap_callV (q := 46) (As := [.int x1, .int x3]) hc (ok_X2_putPerson hg (ty_8_76 hq) h) ml_RX8_190 lk_X2_putPerson lv_X2_putPerson (ty_8_76 hq) rfl (ap_RmE hz (by decide)) rfl rfl (Nat.le_of_ble_eq_true rfl) dX8_doors_43 rfl (ap_kv (fun M_2 h => ?_))
      refine ap_aload_n (q := 47) hc dX8_doors_46 rfl rfl 0 rfl ?_
      refine ap_getR (q := 50) (r := q + 76) lg_RX8_35 (by decide) hq rfl hc dX8_doors_47 rfl ?_
      refine ap_aload_n (q := 51) hc dX8_doors_50 rfl rfl 0 rfl ?_
      refine ap_getR (q := 54) (r := q + 1) lg_RX8_12 (by decide) hq rfl hc dX8_doors_51 rfl ?_
      refine ap_getR (q := 57) (r := q + 23) lg_RX8_210 (by decide) (ty_8_1 hq) rfl hc dX8_doors_54 rfl ?_
      refine ap_callV (q := 60) (As := [.ref (ap_ad g (q + 23))]) hc (ok_X2_isAsSeen hg (ty_8_76 hq) (ty_8_23 hq) h) ml_RX8_213 lk_X2_isAsSeen lv_X2_isAsSeen (ty_8_76 hq) rfl (ap_RmE hz (by decide)) rfl rfl (Nat.le_of_ble_eq_true rfl) dX8_doors_57 rfl (ap_ki (fun r_3 M_4 h => ?_))
      refine ap_if_eq (q := 63) (tgt := 69) hc dX8_doors_60 rfl (by decide) (fun z_5 => ?_) (fun z_5 => ?_)
      · have h := Eq.mp (if_pos z_5) h
        exact ap_sub [0, 1, 2, 3] rfl (bl_X8_doors_69 hc hz  hq ih  h)
      · have h := Eq.mp (if_neg z_5) h
        refine ap_iload_n (q := 64) hc dX8_doors_63 rfl rfl 2 rfl ?_
        refine ap_iconst (q := 65) hc dX8_doors_64 rfl ic_1 ?_
        refine ap_iload_n (q := 66) hc dX8_doors_65 rfl rfl 3 rfl ?_
        refine ap_ishl (q := 67) hc dX8_doors_66 rfl ?_
        refine ap_ior (q := 68) hc dX8_doors_67 rfl ?_
        obtain ⟨x2_6, ex2_6, h⟩ := ap_nm h
        refine ap_istore_n (q := 69) (lo2 := [(2, .int x2_6), (0, .ref (ap_ad g q)), (1, .int x1), (3, .int x3)]) hc dX8_doors_68 rfl rfl ex2_6 (by decide) rfl ?_
        exact ap_sub [1, 2, 0, 3] rfl (bl_X8_doors_69 hc hz  hq ih  h)
def w_X8_doors   (q : Nat) (x1 : Int32) (M : ap_Mem) (K : Int32 → ap_Mem → Prop) : Prop :=
w_X3_has (q + 13) x1 M (fun r_1 M_2 => (if r_1 = 0 then (K (-1) M_2) else (w_X2_begin (q + 76) (q + 1) M_2 (fun M_4 => w_X8_doors_31   q K 4096 x1 0 0 M_4))))
theorem bl_X8_doors_0 {x : ap_X} {g : ap_G} (hc : ap_Cx x g cX8_doors RX8 4) {K : Int32 → ap_Mem → Prop} (hz : ap_Ends x g 6 (some .int) (ap_Qi K))   {q : Nat} (hq : ap_kd q = 8)   {x1 : Int32} {M : ap_Mem}  (h : w_X8_doors   q x1 M K) : ap_V x g 4 0 [(0, .ref (ap_ad g q)), (1, .int x1)] [] M := by
  have hg := hc.2.2.2.2.2.2.2.1
  unfold w_X8_doors at h
  refine ap_aload_n (q := 1) hc dX8_doors_0 rfl rfl 0 rfl ?_
  refine ap_getR (q := 4) (r := q + 1) lg_RX8_12 (by decide) hq rfl hc dX8_doors_1 rfl ?_
  refine ap_getR (q := 7) (r := q + 13) lg_RX8_94 (by decide) (ty_8_1 hq) rfl hc dX8_doors_4 rfl ?_
  refine ap_iload_n (q := 8) hc dX8_doors_7 rfl rfl 1 rfl ?_
  refine ap_callV (q := 11) (As := [.int x1]) hc (ok_X3_has hg (ty_8_13 hq) h) ml_RX8_103 lk_X3_has lv_X3_has (ty_8_13 hq) rfl (ap_RmE hz (by decide)) rfl rfl (Nat.le_of_ble_eq_true rfl) dX8_doors_8 rfl (ap_ki (fun r_1 M_2 h => ?_))
  refine ap_if_ne (q := 14) (tgt := 16) hc dX8_doors_11 rfl (by decide) (fun z_3 => ?_) (fun z_3 => ?_)
  · have h := Eq.mp (if_neg z_3) h
    refine ap_aload_n (q := 17) hc dX8_doors_16 rfl rfl 0 rfl ?_
    refine ap_getR (q := 20) (r := q + 76) lg_RX8_35 (by decide) hq rfl hc dX8_doors_17 rfl ?_
    refine ap_aload_n (q := 21) hc dX8_doors_20 rfl rfl 0 rfl ?_
    refine ap_getR (q := 24) (r := q + 1) lg_RX8_12 (by decide) hq rfl hc dX8_doors_21 rfl ?_
    refine ap_callV (q := 27) (As := [.ref (ap_ad g (q + 1))]) hc (ok_X2_begin hg (ty_8_76 hq) (ty_8_1 hq) h) ml_RX8_120 lk_X2_begin lv_X2_begin (ty_8_76 hq) rfl (ap_RmE hz (by decide)) rfl rfl (Nat.le_of_ble_eq_true rfl) dX8_doors_24 rfl (ap_kv (fun M_4 h => ?_))
    refine ap_iconst (q := 28) hc dX8_doors_27 rfl ic_0 ?_
    refine ap_istore_n (q := 29) (lo2 := [(2, .int 0), (0, .ref (ap_ad g q)), (1, .int x1)]) hc dX8_doors_28 rfl rfl rfl (by decide) rfl ?_
    refine ap_iconst (q := 30) hc dX8_doors_29 rfl ic_0 ?_
    refine ap_istore_n (q := 31) (lo2 := [(3, .int 0), (2, .int 0), (0, .ref (ap_ad g q)), (1, .int x1)]) hc dX8_doors_30 rfl rfl rfl (by decide) rfl ?_
    exact ap_sub [2, 3, 1, 0] rfl (bl_X8_doors_31 hc hz  hq  _ _ _ _ _ h)
  · have h := Eq.mp (if_pos z_3) h
    refine ap_iconst (q := 15) hc dX8_doors_14 rfl ic_m1 ?_
    exact ap_iret hc hz rfl dX8_doors_15 h
theorem ok_X8_doors {l : Launch} {g : ap_G} (hg : ap_GOK g) {q : Nat} (hq : ap_kd q = 8) {x1 : Int32} {M : ap_Mem} {K : Int32 → ap_Mem → Prop} (h : w_X8_doors q x1 M K) : ap_Ct l g yX8_doors cX8_doors 4 (some .int) 6 [.ref (ap_ad g q), .int x1] M (ap_Qi K) := by
  refine ap_Ct_of hg (by decide +kernel) (Nat.le_of_ble_eq_true rfl) (fun x hx hc hz => ?_)
  subst hx
  exact bl_X8_doors_0 hc hz hq h
def w_X8_firm_82  (kL44 : Int32 → Int32 → Int32 → Int32 → Int32 → ap_Mem → Prop) (q : Nat) (x1 : Int32) (x2 : Int32) (x3 : Int32) (x4 : Int32) (x5 : Int32) (M : ap_Mem) (K : Int32 → ap_Mem → Prop) : Prop :=
∀ x5_1 : Int32, x5_1 = x5 + (-1) → kL44 x1 x2 x3 x4 x5_1 M
theorem bl_X8_firm_82 {x : ap_X} {g : ap_G} (hc : ap_Cx x g cX8_firm RX8 6) {K : Int32 → ap_Mem → Prop} (hz : ap_Ends x g 6 (some .int) (ap_Qi K))   {q : Nat} (hq : ap_kd q = 8) {kL44 : Int32 → Int32 → Int32 → Int32 → Int32 → ap_Mem → Prop} (hk44 : ∀ (x1 : Int32) (x2 : Int32) (x3 : Int32) (x4 : Int32) (x5 : Int32)  (M : ap_Mem), kL44 x1 x2 x3 x4 x5 M → ap_V x g 6 44 [(0, .ref (ap_ad g q)), (1, .int x1), (2, .int x2), (3, .int x3), (4, .int x4), (5, .int x5)] [] M) {x1 : Int32} {x2 : Int32} {x3 : Int32} {x4 : Int32} {x5 : Int32} {M : ap_Mem}  (h : w_X8_firm_82  kL44 q x1 x2 x3 x4 x5 M K) : ap_V x g 6 82 [(0, .ref (ap_ad g q)), (1, .int x1), (2, .int x2), (3, .int x3), (4, .int x4), (5, .int x5)] [] M := by
  unfold w_X8_firm_82 at h
  obtain ⟨x5_1, ex5_1, h⟩ := ap_nm h
  refine ap_iinc (q := 85) (lo2 := [(5, .int x5_1), (0, .ref (ap_ad g q)), (1, .int x1), (2, .int x2), (3, .int x3), (4, .int x4)]) hc dX8_firm_82 rfl 5 rfl (by rw [ex5_1]; rfl) (by decide) rfl ?_
  refine ap_goto (q := 44) hc dX8_firm_85 (by decide) ?_
  exact ap_sub [1, 2, 3, 4, 5, 0] rfl (hk44 _ _ _ _ _ _ h)
def w_X8_firm_44_s   (kL44 : Int32 → Int32 → Int32 → Int32 → Int32 → ap_Mem → Prop) (q : Nat) (x1 : Int32) (x2 : Int32) (x3 : Int32) (x4 : Int32) (x5 : Int32) (M : ap_Mem) (K : Int32 → ap_Mem → Prop) : Prop :=
(if x5 < 0 then ((if x2 = 0 then (K x4 M) else (K x3 M))) else (w_X2_makePerson (q + 76) x1 x5 M (fun M_3 => w_X2_isAsSeen (q + 76) (q + 23) M_3 (fun r_4 M_5 => (if r_4 = 0 then (w_X8_firm_82  kL44 q x1 x2 x3 x4 x5 M_5 K) else (∀ x4_7 : Int32, x4_7 = x4 + 1 → w_X8_firm_82  kL44 q x1 x2 x5 x4_7 x5 M_5 K))))))
def w_X8_firm_44   (q : Nat) (K : Int32 → ap_Mem → Prop) : Nat → Int32 → Int32 → Int32 → Int32 → Int32 → ap_Mem → Prop
  | 0, _, _, _, _, _, _ => False
  | n + 1, x1, x2, x3, x4, x5, M => w_X8_firm_44_s   (w_X8_firm_44   q K n) q x1 x2 x3 x4 x5 M K
theorem bl_X8_firm_44 {x : ap_X} {g : ap_G} (hc : ap_Cx x g cX8_firm RX8 6) {K : Int32 → ap_Mem → Prop} (hz : ap_Ends x g 6 (some .int) (ap_Qi K))   {q : Nat} (hq : ap_kd q = 8)   : ∀ (n : Nat) (x1 : Int32) (x2 : Int32) (x3 : Int32) (x4 : Int32) (x5 : Int32) (M : ap_Mem), w_X8_firm_44   q K n x1 x2 x3 x4 x5 M → ap_V x g 6 44 [(0, .ref (ap_ad g q)), (1, .int x1), (2, .int x2), (3, .int x3), (4, .int x4), (5, .int x5)] [] M := by
  have hg := hc.2.2.2.2.2.2.2.1
  intro n
  induction n with
  | zero => intro _ _ _ _ _ _ h; exact h.elim
  | succ n ih =>
    intro x1 x2 x3 x4 x5 M h
    replace h : w_X8_firm_44_s   (w_X8_firm_44   q K n) q x1 x2 x3 x4 x5 M K := h
    unfold w_X8_firm_44_s at h
    refine ap_iload (q := 46) hc dX8_firm_44 rfl 5 rfl ?_
    refine ap_if_lt (q := 49) (tgt := 88) hc dX8_firm_46 rfl (by decide) (fun z_1 => ?_) (fun z_1 => ?_)
    · have h := Eq.mp (if_pos z_1) h
      refine ap_iload_n (q := 89) hc dX8_firm_88 rfl rfl 2 rfl ?_
      refine ap_if_ne (q := 92) (tgt := 97) hc dX8_firm_89 rfl (by decide) (fun z_2 => ?_) (fun z_2 => ?_)
      · have h := Eq.mp (if_neg z_2) h
        refine ap_iload_n (q := 98) hc dX8_firm_97 rfl rfl 3 rfl ?_
        exact ap_iret hc hz rfl dX8_firm_98 h
      · have h := Eq.mp (if_pos z_2) h
        refine ap_iload (q := 94) hc dX8_firm_92 rfl 4 rfl ?_
        refine ap_goto (q := 98) hc dX8_firm_94 (by decide) ?_
        exact ap_iret hc hz rfl dX8_firm_98 h
    · have h := Eq.mp (if_neg z_1) h
      refine ap_aload_n (q := 50) hc dX8_firm_49 rfl rfl 0 rfl ?_
      refine ap_getR (q := 53) (r := q + 76) lg_RX8_35 (by decide) hq rfl hc dX8_firm_50 rfl ?_
      refine ap_iload_n (q := 54) hc dX8_firm_53 rfl rfl 1 rfl ?_
      refine ap_iload (q := 56) hc dX8_firm_54 rfl 5 rfl ?_
      refine ap_callV (q := 59) (As := [.int x1, .int x5]) hc (ok_X2_makePerson hg (ty_8_76 hq) h) ml_RX8_216 lk_X2_makePerson lv_X2_makePerson (ty_8_76 hq) rfl (ap_RmE hz (by decide)) rfl rfl (Nat.le_of_ble_eq_true rfl) dX8_firm_56 rfl (ap_kv (fun M_3 h => ?_))
      refine ap_aload_n (q := 60) hc dX8_firm_59 rfl rfl 0 rfl ?_
      refine ap_getR (q := 63) (r := q + 76) lg_RX8_35 (by decide) hq rfl hc dX8_firm_60 rfl ?_
      refine ap_aload_n (q := 64) hc dX8_firm_63 rfl rfl 0 rfl ?_
      refine ap_getR (q := 67) (r := q + 1) lg_RX8_12 (by decide) hq rfl hc dX8_firm_64 rfl ?_
      refine ap_getR (q := 70) (r := q + 23) lg_RX8_210 (by decide) (ty_8_1 hq) rfl hc dX8_firm_67 rfl ?_
      refine ap_callV (q := 73) (As := [.ref (ap_ad g (q + 23))]) hc (ok_X2_isAsSeen hg (ty_8_76 hq) (ty_8_23 hq) h) ml_RX8_213 lk_X2_isAsSeen lv_X2_isAsSeen (ty_8_76 hq) rfl (ap_RmE hz (by decide)) rfl rfl (Nat.le_of_ble_eq_true rfl) dX8_firm_70 rfl (ap_ki (fun r_4 M_5 h => ?_))
      refine ap_if_eq (q := 76) (tgt := 82) hc dX8_firm_73 rfl (by decide) (fun z_6 => ?_) (fun z_6 => ?_)
      · have h := Eq.mp (if_pos z_6) h
        exact ap_sub [0, 1, 2, 3, 4, 5] rfl (bl_X8_firm_82 hc hz  hq ih  h)
      · have h := Eq.mp (if_neg z_6) h
        refine ap_iload (q := 78) hc dX8_firm_76 rfl 5 rfl ?_
        refine ap_istore_n (q := 79) (lo2 := [(3, .int x5), (0, .ref (ap_ad g q)), (1, .int x1), (2, .int x2), (4, .int x4), (5, .int x5)]) hc dX8_firm_78 rfl rfl rfl (by decide) rfl ?_
        obtain ⟨x4_7, ex4_7, h⟩ := ap_nm h
        refine ap_iinc (q := 82) (lo2 := [(4, .int x4_7), (3, .int x5), (0, .ref (ap_ad g q)), (1, .int x1), (2, .int x2), (5, .int x5)]) hc dX8_firm_79 rfl 4 rfl (by rw [ex4_7]; rfl) (by decide) rfl ?_
        exact ap_sub [2, 3, 4, 1, 0, 5] rfl (bl_X8_firm_82 hc hz  hq ih  h)
def w_X8_firm   (q : Nat) (x1 : Int32) (x2 : Int32) (M : ap_Mem) (K : Int32 → ap_Mem → Prop) : Prop :=
w_X3_has (q + 13) x1 M (fun r_1 M_2 => (if r_1 = 0 then (K (-1) M_2) else (w_X8_isEither x2 M_2 (fun r_4 M_5 => (if r_4 = 0 then (K (-1) M_5) else (w_X2_begin (q + 76) (q + 1) M_5 (fun M_7 => w_X8_firm_44   q K 4096 x1 x2 (-5) 0 9 M_7)))))))
theorem bl_X8_firm_0 {x : ap_X} {g : ap_G} (hc : ap_Cx x g cX8_firm RX8 6) {K : Int32 → ap_Mem → Prop} (hz : ap_Ends x g 6 (some .int) (ap_Qi K))   {q : Nat} (hq : ap_kd q = 8)   {x1 : Int32} {x2 : Int32} {M : ap_Mem}  (h : w_X8_firm   q x1 x2 M K) : ap_V x g 6 0 [(0, .ref (ap_ad g q)), (1, .int x1), (2, .int x2)] [] M := by
  have hg := hc.2.2.2.2.2.2.2.1
  unfold w_X8_firm at h
  refine ap_aload_n (q := 1) hc dX8_firm_0 rfl rfl 0 rfl ?_
  refine ap_getR (q := 4) (r := q + 1) lg_RX8_12 (by decide) hq rfl hc dX8_firm_1 rfl ?_
  refine ap_getR (q := 7) (r := q + 13) lg_RX8_94 (by decide) (ty_8_1 hq) rfl hc dX8_firm_4 rfl ?_
  refine ap_iload_n (q := 8) hc dX8_firm_7 rfl rfl 1 rfl ?_
  refine ap_callV (q := 11) (As := [.int x1]) hc (ok_X3_has hg (ty_8_13 hq) h) ml_RX8_103 lk_X3_has lv_X3_has (ty_8_13 hq) rfl (ap_RmE hz (by decide)) rfl rfl (Nat.le_of_ble_eq_true rfl) dX8_firm_8 rfl (ap_ki (fun r_1 M_2 h => ?_))
  refine ap_if_eq (q := 14) (tgt := 21) hc dX8_firm_11 rfl (by decide) (fun z_3 => ?_) (fun z_3 => ?_)
  · have h := Eq.mp (if_pos z_3) h
    refine ap_iconst (q := 22) hc dX8_firm_21 rfl ic_m1 ?_
    exact ap_iret hc hz rfl dX8_firm_22 h
  · have h := Eq.mp (if_neg z_3) h
    refine ap_iload_n (q := 15) hc dX8_firm_14 rfl rfl 2 rfl ?_
    refine ap_callS (q := 18) (As := [.int x2]) hc (ok_X8_isEither hg  h) ml_RX8_181 lk_X8_isEither ls_X8_isEither (ap_RmE hz (by decide)) rfl rfl (Nat.le_of_ble_eq_true rfl) dX8_firm_15 rfl (ap_ki (fun r_4 M_5 h => ?_))
    refine ap_if_ne (q := 21) (tgt := 23) hc dX8_firm_18 rfl (by decide) (fun z_6 => ?_) (fun z_6 => ?_)
    · have h := Eq.mp (if_neg z_6) h
      refine ap_aload_n (q := 24) hc dX8_firm_23 rfl rfl 0 rfl ?_
      refine ap_getR (q := 27) (r := q + 76) lg_RX8_35 (by decide) hq rfl hc dX8_firm_24 rfl ?_
      refine ap_aload_n (q := 28) hc dX8_firm_27 rfl rfl 0 rfl ?_
      refine ap_getR (q := 31) (r := q + 1) lg_RX8_12 (by decide) hq rfl hc dX8_firm_28 rfl ?_
      refine ap_callV (q := 34) (As := [.ref (ap_ad g (q + 1))]) hc (ok_X2_begin hg (ty_8_76 hq) (ty_8_1 hq) h) ml_RX8_120 lk_X2_begin lv_X2_begin (ty_8_76 hq) rfl (ap_RmE hz (by decide)) rfl rfl (Nat.le_of_ble_eq_true rfl) dX8_firm_31 rfl (ap_kv (fun M_7 h => ?_))
      refine ap_bipush (q := 36) hc dX8_firm_34 rfl bc_m5 ?_
      refine ap_istore_n (q := 37) (lo2 := [(3, .int (-5)), (0, .ref (ap_ad g q)), (1, .int x1), (2, .int x2)]) hc dX8_firm_36 rfl rfl rfl (by decide) rfl ?_
      refine ap_iconst (q := 38) hc dX8_firm_37 rfl ic_0 ?_
      refine ap_istore (q := 40) (lo2 := [(4, .int 0), (3, .int (-5)), (0, .ref (ap_ad g q)), (1, .int x1), (2, .int x2)]) hc dX8_firm_38 rfl rfl (by decide) rfl ?_
      refine ap_bipush (q := 42) hc dX8_firm_40 rfl bc_9 ?_
      refine ap_istore (q := 44) (lo2 := [(5, .int 9), (4, .int 0), (3, .int (-5)), (0, .ref (ap_ad g q)), (1, .int x1), (2, .int x2)]) hc dX8_firm_42 rfl rfl (by decide) rfl ?_
      exact ap_sub [3, 4, 5, 2, 1, 0] rfl (bl_X8_firm_44 hc hz  hq  _ _ _ _ _ _ _ h)
    · have h := Eq.mp (if_pos z_6) h
      refine ap_iconst (q := 22) hc dX8_firm_21 rfl ic_m1 ?_
      exact ap_iret hc hz rfl dX8_firm_22 h
theorem ok_X8_firm {l : Launch} {g : ap_G} (hg : ap_GOK g) {q : Nat} (hq : ap_kd q = 8) {x1 : Int32} {x2 : Int32} {M : ap_Mem} {K : Int32 → ap_Mem → Prop} (h : w_X8_firm q x1 x2 M K) : ap_Ct l g yX8_firm cX8_firm 6 (some .int) 6 [.ref (ap_ad g q), .int x1, .int x2] M (ap_Qi K) := by
  refine ap_Ct_of hg (by decide +kernel) (Nat.le_of_ble_eq_true rfl) (fun x hx hc hz => ?_)
  subst hx
  exact bl_X8_firm_0 hc hz hq h
def w_X8_sought_82  (kL30 : Int32 → Int32 → Int32 → ap_Mem → Prop) (q : Nat) (x1 : Int32) (x2 : Int32) (x3 : Int32) (M : ap_Mem) (K : Int32 → ap_Mem → Prop) : Prop :=
∀ x3_1 : Int32, x3_1 = x3 + 1 → kL30 x1 x2 x3_1 M
theorem bl_X8_sought_82 {x : ap_X} {g : ap_G} (hc : ap_Cx x g cX8_sought RX8 4) {K : Int32 → ap_Mem → Prop} (hz : ap_Ends x g 6 (some .int) (ap_Qi K))   {q : Nat} (hq : ap_kd q = 8) {kL30 : Int32 → Int32 → Int32 → ap_Mem → Prop} (hk30 : ∀ (x1 : Int32) (x2 : Int32) (x3 : Int32)  (M : ap_Mem), kL30 x1 x2 x3 M → ap_V x g 4 30 [(0, .ref (ap_ad g q)), (1, .int x1), (2, .int x2), (3, .int x3)] [] M) {x1 : Int32} {x2 : Int32} {x3 : Int32} {M : ap_Mem}  (h : w_X8_sought_82  kL30 q x1 x2 x3 M K) : ap_V x g 4 82 [(0, .ref (ap_ad g q)), (1, .int x1), (2, .int x2), (3, .int x3)] [] M := by
  unfold w_X8_sought_82 at h
  obtain ⟨x3_1, ex3_1, h⟩ := ap_nm h
  refine ap_iinc (q := 85) (lo2 := [(3, .int x3_1), (0, .ref (ap_ad g q)), (1, .int x1), (2, .int x2)]) hc dX8_sought_82 rfl 3 rfl (by rw [ex3_1]; rfl) (by decide) rfl ?_
  refine ap_goto (q := 30) hc dX8_sought_85 (by decide) ?_
  exact ap_sub [1, 2, 3, 0] rfl (hk30 _ _ _ _ h)
def w_X8_sought_30_s   (kL30 : Int32 → Int32 → Int32 → ap_Mem → Prop) (q : Nat) (x1 : Int32) (x2 : Int32) (x3 : Int32) (M : ap_Mem) (K : Int32 → ap_Mem → Prop) : Prop :=
(if (M (q + 13) 5) ≤ x3 then (K x2 M) else (∀ M_2 : ap_Mem, M_2 = ap_mu M (q + 77) 4 (x1 ^^^ (1 <<< (x3 &&& 31))) → w_X2_isAsSeen (q + 76) (q + 23) M_2 (fun r_3 M_4 => (if r_3 = 0 then (w_X8_sought_82  kL30 q x1 x2 x3 M_4 K) else (∀ x2_6 : Int32, x2_6 = x2 ||| (1 <<< (x3 &&& 31)) → w_X8_sought_82  kL30 q x1 x2_6 x3 M_4 K)))))
def w_X8_sought_30   (q : Nat) (K : Int32 → ap_Mem → Prop) : Nat → Int32 → Int32 → Int32 → ap_Mem → Prop
  | 0, _, _, _, _ => False
  | n + 1, x1, x2, x3, M => w_X8_sought_30_s   (w_X8_sought_30   q K n) q x1 x2 x3 M K
theorem bl_X8_sought_30 {x : ap_X} {g : ap_G} (hc : ap_Cx x g cX8_sought RX8 4) {K : Int32 → ap_Mem → Prop} (hz : ap_Ends x g 6 (some .int) (ap_Qi K))   {q : Nat} (hq : ap_kd q = 8)   : ∀ (n : Nat) (x1 : Int32) (x2 : Int32) (x3 : Int32) (M : ap_Mem), w_X8_sought_30   q K n x1 x2 x3 M → ap_V x g 4 30 [(0, .ref (ap_ad g q)), (1, .int x1), (2, .int x2), (3, .int x3)] [] M := by
  have hg := hc.2.2.2.2.2.2.2.1
  intro n
  induction n with
  | zero => intro _ _ _ _ h; exact h.elim
  | succ n ih =>
    intro x1 x2 x3 M h
    replace h : w_X8_sought_30_s   (w_X8_sought_30   q K n) q x1 x2 x3 M K := h
    unfold w_X8_sought_30_s at h
    refine ap_iload_n (q := 31) hc dX8_sought_30 rfl rfl 3 rfl ?_
    refine ap_aload_n (q := 32) hc dX8_sought_31 rfl rfl 0 rfl ?_
    refine ap_getR (q := 35) (r := q + 1) lg_RX8_12 (by decide) hq rfl hc dX8_sought_32 rfl ?_
    refine ap_getR (q := 38) (r := q + 13) lg_RX8_94 (by decide) (ty_8_1 hq) rfl hc dX8_sought_35 rfl ?_
    refine ap_getI (q := 41) lg_RX8_187 (ty_8_13 hq) hc dX8_sought_38 rfl ?_
    refine ap_icmp_ge (q := 44) (tgt := 88) hc dX8_sought_41 rfl (by decide) (fun z_1 => ?_) (fun z_1 => ?_)
    · have h := Eq.mp (if_pos z_1) h
      refine ap_iload_n (q := 89) hc dX8_sought_88 rfl rfl 2 rfl ?_
      exact ap_iret hc hz rfl dX8_sought_89 h
    · have h := Eq.mp (if_neg z_1) h
      refine ap_aload_n (q := 45) hc dX8_sought_44 rfl rfl 0 rfl ?_
      refine ap_getR (q := 48) (r := q + 76) lg_RX8_35 (by decide) hq rfl hc dX8_sought_45 rfl ?_
      refine ap_getR (q := 51) (r := q + 77) lg_RX8_199 (by decide) (ty_8_76 hq) rfl hc dX8_sought_48 rfl ?_
      refine ap_iload_n (q := 52) hc dX8_sought_51 rfl rfl 1 rfl ?_
      refine ap_iconst (q := 53) hc dX8_sought_52 rfl ic_1 ?_
      refine ap_iload_n (q := 54) hc dX8_sought_53 rfl rfl 3 rfl ?_
      refine ap_ishl (q := 55) hc dX8_sought_54 rfl ?_
      refine ap_ixor (q := 56) hc dX8_sought_55 rfl ?_
      obtain ⟨M_2, eM_2, h⟩ := ap_nm h
      refine ap_putI (q := 59) lp_RX8_200 (ty_8_77 hq) eM_2 hc dX8_sought_56 rfl ?_
      refine ap_aload_n (q := 60) hc dX8_sought_59 rfl rfl 0 rfl ?_
      refine ap_getR (q := 63) (r := q + 76) lg_RX8_35 (by decide) hq rfl hc dX8_sought_60 rfl ?_
      refine ap_aload_n (q := 64) hc dX8_sought_63 rfl rfl 0 rfl ?_
      refine ap_getR (q := 67) (r := q + 1) lg_RX8_12 (by decide) hq rfl hc dX8_sought_64 rfl ?_
      refine ap_getR (q := 70) (r := q + 23) lg_RX8_210 (by decide) (ty_8_1 hq) rfl hc dX8_sought_67 rfl ?_
      refine ap_callV (q := 73) (As := [.ref (ap_ad g (q + 23))]) hc (ok_X2_isAsSeen hg (ty_8_76 hq) (ty_8_23 hq) h) ml_RX8_213 lk_X2_isAsSeen lv_X2_isAsSeen (ty_8_76 hq) rfl (ap_RmE hz (by decide)) rfl rfl (Nat.le_of_ble_eq_true rfl) dX8_sought_70 rfl (ap_ki (fun r_3 M_4 h => ?_))
      refine ap_if_eq (q := 76) (tgt := 82) hc dX8_sought_73 rfl (by decide) (fun z_5 => ?_) (fun z_5 => ?_)
      · have h := Eq.mp (if_pos z_5) h
        exact ap_sub [0, 1, 2, 3] rfl (bl_X8_sought_82 hc hz  hq ih  h)
      · have h := Eq.mp (if_neg z_5) h
        refine ap_iload_n (q := 77) hc dX8_sought_76 rfl rfl 2 rfl ?_
        refine ap_iconst (q := 78) hc dX8_sought_77 rfl ic_1 ?_
        refine ap_iload_n (q := 79) hc dX8_sought_78 rfl rfl 3 rfl ?_
        refine ap_ishl (q := 80) hc dX8_sought_79 rfl ?_
        refine ap_ior (q := 81) hc dX8_sought_80 rfl ?_
        obtain ⟨x2_6, ex2_6, h⟩ := ap_nm h
        refine ap_istore_n (q := 82) (lo2 := [(2, .int x2_6), (0, .ref (ap_ad g q)), (1, .int x1), (3, .int x3)]) hc dX8_sought_81 rfl rfl ex2_6 (by decide) rfl ?_
        exact ap_sub [1, 2, 0, 3] rfl (bl_X8_sought_82 hc hz  hq ih  h)
def w_X8_sought   (q : Nat)  (M : ap_Mem) (K : Int32 → ap_Mem → Prop) : Prop :=
w_X2_begin (q + 76) (q + 1) M (fun M_1 => ∀ x1_2 : Int32, x1_2 = (1 <<< ((M_1 (q + 13) 5) &&& 31)) - 1 → w_X8_sought_30   q K 4096 x1_2 0 0 M_1)
theorem bl_X8_sought_0 {x : ap_X} {g : ap_G} (hc : ap_Cx x g cX8_sought RX8 4) {K : Int32 → ap_Mem → Prop} (hz : ap_Ends x g 6 (some .int) (ap_Qi K))   {q : Nat} (hq : ap_kd q = 8)    {M : ap_Mem}  (h : w_X8_sought   q  M K) : ap_V x g 4 0 [(0, .ref (ap_ad g q))] [] M := by
  have hg := hc.2.2.2.2.2.2.2.1
  unfold w_X8_sought at h
  refine ap_aload_n (q := 1) hc dX8_sought_0 rfl rfl 0 rfl ?_
  refine ap_getR (q := 4) (r := q + 76) lg_RX8_35 (by decide) hq rfl hc dX8_sought_1 rfl ?_
  refine ap_aload_n (q := 5) hc dX8_sought_4 rfl rfl 0 rfl ?_
  refine ap_getR (q := 8) (r := q + 1) lg_RX8_12 (by decide) hq rfl hc dX8_sought_5 rfl ?_
  refine ap_callV (q := 11) (As := [.ref (ap_ad g (q + 1))]) hc (ok_X2_begin hg (ty_8_76 hq) (ty_8_1 hq) h) ml_RX8_120 lk_X2_begin lv_X2_begin (ty_8_76 hq) rfl (ap_RmE hz (by decide)) rfl rfl (Nat.le_of_ble_eq_true rfl) dX8_sought_8 rfl (ap_kv (fun M_1 h => ?_))
  refine ap_iconst (q := 12) hc dX8_sought_11 rfl ic_1 ?_
  refine ap_aload_n (q := 13) hc dX8_sought_12 rfl rfl 0 rfl ?_
  refine ap_getR (q := 16) (r := q + 1) lg_RX8_12 (by decide) hq rfl hc dX8_sought_13 rfl ?_
  refine ap_getR (q := 19) (r := q + 13) lg_RX8_94 (by decide) (ty_8_1 hq) rfl hc dX8_sought_16 rfl ?_
  refine ap_getI (q := 22) lg_RX8_187 (ty_8_13 hq) hc dX8_sought_19 rfl ?_
  refine ap_ishl (q := 23) hc dX8_sought_22 rfl ?_
  refine ap_iconst (q := 24) hc dX8_sought_23 rfl ic_1 ?_
  refine ap_isub (q := 25) hc dX8_sought_24 rfl ?_
  obtain ⟨x1_2, ex1_2, h⟩ := ap_nm h
  refine ap_istore_n (q := 26) (lo2 := [(1, .int x1_2), (0, .ref (ap_ad g q))]) hc dX8_sought_25 rfl rfl ex1_2 (by decide) rfl ?_
  refine ap_iconst (q := 27) hc dX8_sought_26 rfl ic_0 ?_
  refine ap_istore_n (q := 28) (lo2 := [(2, .int 0), (1, .int x1_2), (0, .ref (ap_ad g q))]) hc dX8_sought_27 rfl rfl rfl (by decide) rfl ?_
  refine ap_iconst (q := 29) hc dX8_sought_28 rfl ic_0 ?_
  refine ap_istore_n (q := 30) (lo2 := [(3, .int 0), (2, .int 0), (1, .int x1_2), (0, .ref (ap_ad g q))]) hc dX8_sought_29 rfl rfl rfl (by decide) rfl ?_
  exact ap_sub [3, 2, 1, 0] rfl (bl_X8_sought_30 hc hz  hq  _ _ _ _ _ h)
theorem ok_X8_sought {l : Launch} {g : ap_G} (hg : ap_GOK g) {q : Nat} (hq : ap_kd q = 8)  {M : ap_Mem} {K : Int32 → ap_Mem → Prop} (h : w_X8_sought q  M K) : ap_Ct l g yX8_sought cX8_sought 4 (some .int) 6 [.ref (ap_ad g q)] M (ap_Qi K) := by
  refine ap_Ct_of hg (by decide +kernel) (Nat.le_of_ble_eq_true rfl) (fun x hx hc hz => ?_)
  subst hx
  exact bl_X8_sought_0 hc hz hq h
def w_X8_odds_127  (kL55 : Int32 → Int32 → Int32 → Int32 → Int32 → ap_Mem → Prop) (q : Nat) (x1 : Int32) (x2 : Int32) (x3 : Int32) (x4 : Int32) (x5 : Int32) (M : ap_Mem) (K : Int64 → ap_Mem → Prop) : Prop :=
∀ x5_1 : Int32, x5_1 = x5 + 1 → kL55 x1 x2 x3 x4 x5_1 M
theorem bl_X8_odds_127 {x : ap_X} {g : ap_G} (hc : ap_Cx x g cX8_odds RX8 6) {K : Int64 → ap_Mem → Prop} (hz : ap_Ends x g 6 (some .long) (ap_Ql K))   {q : Nat} (hq : ap_kd q = 8) {kL55 : Int32 → Int32 → Int32 → Int32 → Int32 → ap_Mem → Prop} (hk55 : ∀ (x1 : Int32) (x2 : Int32) (x3 : Int32) (x4 : Int32) (x5 : Int32)  (M : ap_Mem), kL55 x1 x2 x3 x4 x5 M → ap_V x g 6 55 [(0, .ref (ap_ad g q)), (1, .int x1), (2, .int x2), (3, .int x3), (4, .int x4), (5, .int x5)] [] M) {x1 : Int32} {x2 : Int32} {x3 : Int32} {x4 : Int32} {x5 : Int32} {M : ap_Mem}  (h : w_X8_odds_127  kL55 q x1 x2 x3 x4 x5 M K) : ap_V x g 6 127 [(0, .ref (ap_ad g q)), (1, .int x1), (2, .int x2), (3, .int x3), (4, .int x4), (5, .int x5)] [] M := by
  unfold w_X8_odds_127 at h
  obtain ⟨x5_1, ex5_1, h⟩ := ap_nm h
  refine ap_iinc (q := 130) (lo2 := [(5, .int x5_1), (0, .ref (ap_ad g q)), (1, .int x1), (2, .int x2), (3, .int x3), (4, .int x4)]) hc dX8_odds_127 rfl 5 rfl (by rw [ex5_1]; rfl) (by decide) rfl ?_
  refine ap_goto (q := 55) hc dX8_odds_130 (by decide) ?_
  exact ap_sub [1, 2, 3, 4, 5, 0] rfl (hk55 _ _ _ _ _ _ h)
def w_X8_odds_55_s   (kL55 : Int32 → Int32 → Int32 → Int32 → Int32 → ap_Mem → Prop) (q : Nat) (x1 : Int32) (x2 : Int32) (x3 : Int32) (x4 : Int32) (x5 : Int32) (M : ap_Mem) (K : Int64 → ap_Mem → Prop) : Prop :=
(if (M (q + 13) 5) ≤ x5 then (w_X8_inLowestTerms x4 (M (q + 13) 5) x3 M (fun r_2 M_3 => K r_2 M_3)) else (w_X2_again (q + 76) M (fun M_4 => ∀ M_5 : ap_Mem, M_5 = ap_mu M_4 (q + 77) 4 ((M_4 (q + 13) 4) ||| (1 <<< (x5 &&& 31))) → w_X2_goSteps (q + 76) x2 M_5 (fun M_6 => (if (M_6 (q + 82) 1) = x1 then (∀ x4_8 : Int32, x4_8 = x4 + 1 → w_X8_odds_127  kL55 q x1 x2 x3 x4_8 x5 M_6 K) else (w_X8_odds_127  kL55 q x1 x2 x3 x4 x5 M_6 K))))))
def w_X8_odds_55   (q : Nat) (K : Int64 → ap_Mem → Prop) : Nat → Int32 → Int32 → Int32 → Int32 → Int32 → ap_Mem → Prop
  | 0, _, _, _, _, _, _ => False
  | n + 1, x1, x2, x3, x4, x5, M => w_X8_odds_55_s   (w_X8_odds_55   q K n) q x1 x2 x3 x4 x5 M K
theorem bl_X8_odds_55 {x : ap_X} {g : ap_G} (hc : ap_Cx x g cX8_odds RX8 6) {K : Int64 → ap_Mem → Prop} (hz : ap_Ends x g 6 (some .long) (ap_Ql K))   {q : Nat} (hq : ap_kd q = 8)   : ∀ (n : Nat) (x1 : Int32) (x2 : Int32) (x3 : Int32) (x4 : Int32) (x5 : Int32) (M : ap_Mem), w_X8_odds_55   q K n x1 x2 x3 x4 x5 M → ap_V x g 6 55 [(0, .ref (ap_ad g q)), (1, .int x1), (2, .int x2), (3, .int x3), (4, .int x4), (5, .int x5)] [] M := by
  have hg := hc.2.2.2.2.2.2.2.1
  intro n
  induction n with
  | zero => intro _ _ _ _ _ _ h; exact h.elim
  | succ n ih =>
    intro x1 x2 x3 x4 x5 M h
    replace h : w_X8_odds_55_s   (w_X8_odds_55   q K n) q x1 x2 x3 x4 x5 M K := h
    unfold w_X8_odds_55_s at h
    refine ap_iload (q := 57) hc dX8_odds_55 rfl 5 rfl ?_
    refine ap_aload_n (q := 58) hc dX8_odds_57 rfl rfl 0 rfl ?_
    refine ap_getR (q := 61) (r := q + 1) lg_RX8_12 (by decide) hq rfl hc dX8_odds_58 rfl ?_
    refine ap_getR (q := 64) (r := q + 13) lg_RX8_94 (by decide) (ty_8_1 hq) rfl hc dX8_odds_61 rfl ?_
    refine ap_getI (q := 67) lg_RX8_187 (ty_8_13 hq) hc dX8_odds_64 rfl ?_
    refine ap_icmp_ge (q := 70) (tgt := 133) hc dX8_odds_67 rfl (by decide) (fun z_1 => ?_) (fun z_1 => ?_)
    · have h := Eq.mp (if_pos z_1) h
      refine ap_iload (q := 135) hc dX8_odds_133 rfl 4 rfl ?_
      refine ap_aload_n (q := 136) hc dX8_odds_135 rfl rfl 0 rfl ?_
      refine ap_getR (q := 139) (r := q + 1) lg_RX8_12 (by decide) hq rfl hc dX8_odds_136 rfl ?_
      refine ap_getR (q := 142) (r := q + 13) lg_RX8_94 (by decide) (ty_8_1 hq) rfl hc dX8_odds_139 rfl ?_
      refine ap_getI (q := 145) lg_RX8_187 (ty_8_13 hq) hc dX8_odds_142 rfl ?_
      refine ap_iload_n (q := 146) hc dX8_odds_145 rfl rfl 3 rfl ?_
      refine ap_callS (q := 149) (As := [.int x4, .int (M (q + 13) 5), .int x3]) hc (ok_X8_inLowestTerms hg  h) ml_RX8_221 lk_X8_inLowestTerms ls_X8_inLowestTerms (ap_RmE hz (by decide)) rfl rfl (Nat.le_of_ble_eq_true rfl) dX8_odds_146 rfl (ap_kl (fun r_2 M_3 h => ?_))
      exact ap_lret hc hz dX8_odds_149 h
    · have h := Eq.mp (if_neg z_1) h
      refine ap_aload_n (q := 71) hc dX8_odds_70 rfl rfl 0 rfl ?_
      refine ap_getR (q := 74) (r := q + 76) lg_RX8_35 (by decide) hq rfl hc dX8_odds_71 rfl ?_
      refine ap_callV (q := 77) (As := []) hc (ok_X2_again hg (ty_8_76 hq) h) ml_RX8_184 lk_X2_again lv_X2_again (ty_8_76 hq) rfl (ap_RmE hz (by decide)) rfl rfl (Nat.le_of_ble_eq_true rfl) dX8_odds_74 rfl (ap_kv (fun M_4 h => ?_))
      refine ap_aload_n (q := 78) hc dX8_odds_77 rfl rfl 0 rfl ?_
      refine ap_getR (q := 81) (r := q + 76) lg_RX8_35 (by decide) hq rfl hc dX8_odds_78 rfl ?_
      refine ap_getR (q := 84) (r := q + 77) lg_RX8_199 (by decide) (ty_8_76 hq) rfl hc dX8_odds_81 rfl ?_
      refine ap_aload_n (q := 85) hc dX8_odds_84 rfl rfl 0 rfl ?_
      refine ap_getR (q := 88) (r := q + 1) lg_RX8_12 (by decide) hq rfl hc dX8_odds_85 rfl ?_
      refine ap_getR (q := 91) (r := q + 13) lg_RX8_94 (by decide) (ty_8_1 hq) rfl hc dX8_odds_88 rfl ?_
      refine ap_getI (q := 94) lg_RX8_200 (ty_8_13 hq) hc dX8_odds_91 rfl ?_
      refine ap_iconst (q := 95) hc dX8_odds_94 rfl ic_1 ?_
      refine ap_iload (q := 97) hc dX8_odds_95 rfl 5 rfl ?_
      refine ap_ishl (q := 98) hc dX8_odds_97 rfl ?_
      refine ap_ior (q := 99) hc dX8_odds_98 rfl ?_
      obtain ⟨M_5, eM_5, h⟩ := ap_nm h
      refine ap_putI (q := 102) lp_RX8_200 (ty_8_77 hq) eM_5 hc dX8_odds_99 rfl ?_
      refine ap_aload_n (q := 103) hc dX8_odds_102 rfl rfl 0 rfl ?_
      refine ap_getR (q := 106) (r := q + 76) lg_RX8_35 (by decide) hq rfl hc dX8_odds_103 rfl ?_
      refine ap_iload_n (q := 107) hc dX8_odds_106 rfl rfl 2 rfl ?_
      refine ap_callV (q := 110) (As := [.int x2]) hc (ok_X2_goSteps hg (ty_8_76 hq) h) ml_RX8_175 lk_X2_goSteps lv_X2_goSteps (ty_8_76 hq) rfl (ap_RmE hz (by decide)) rfl rfl (Nat.le_of_ble_eq_true rfl) dX8_odds_107 rfl (ap_kv (fun M_6 h => ?_))
      refine ap_aload_n (q := 111) hc dX8_odds_110 rfl rfl 0 rfl ?_
      refine ap_getR (q := 114) (r := q + 76) lg_RX8_35 (by decide) hq rfl hc dX8_odds_111 rfl ?_
      refine ap_getR (q := 117) (r := q + 82) lg_RX8_171 (by decide) (ty_8_76 hq) rfl hc dX8_odds_114 rfl ?_
      refine ap_getI (q := 120) lg_RX8_144 (ty_8_82 hq) hc dX8_odds_117 rfl ?_
      refine ap_iload_n (q := 121) hc dX8_odds_120 rfl rfl 1 rfl ?_
      refine ap_icmp_ne (q := 124) (tgt := 127) hc dX8_odds_121 rfl (by decide) (fun z_7 => ?_) (fun z_7 => ?_)
      · have h := Eq.mp (if_neg z_7) h
        exact ap_sub [0, 1, 2, 3, 4, 5] rfl (bl_X8_odds_127 hc hz  hq ih  h)
      · have h := Eq.mp (if_pos z_7) h
        obtain ⟨x4_8, ex4_8, h⟩ := ap_nm h
        refine ap_iinc (q := 127) (lo2 := [(4, .int x4_8), (0, .ref (ap_ad g q)), (1, .int x1), (2, .int x2), (3, .int x3), (5, .int x5)]) hc dX8_odds_124 rfl 4 rfl (by rw [ex4_8]; rfl) (by decide) rfl ?_
        exact ap_sub [1, 2, 3, 4, 0, 5] rfl (bl_X8_odds_127 hc hz  hq ih  h)
def w_X8_odds   (q : Nat) (x1 : Int32) (x2 : Int32) (x3 : Int32) (M : ap_Mem) (K : Int64 → ap_Mem → Prop) : Prop :=
w_X8_isCell x1 M (fun r_1 M_2 => (if r_1 = 0 then (K (-9223372036854775808) M_2) else (w_X8_isFuture x2 M_2 (fun r_4 M_5 => (if r_4 = 0 then (K (-9223372036854775808) M_5) else (w_X8_isEither x3 M_5 (fun r_7 M_8 => (if r_7 = 0 then (K (-9223372036854775808) M_8) else ((if (M_8 (q + 13) 5) = 0 then (K (-9223372036854775808) M_8) else (w_X2_begin (q + 76) (q + 1) M_8 (fun M_11 => w_X8_odds_55   q K 4096 x1 x2 x3 0 0 M_11))))))))))))
theorem bl_X8_odds_0 {x : ap_X} {g : ap_G} (hc : ap_Cx x g cX8_odds RX8 6) {K : Int64 → ap_Mem → Prop} (hz : ap_Ends x g 6 (some .long) (ap_Ql K))   {q : Nat} (hq : ap_kd q = 8)   {x1 : Int32} {x2 : Int32} {x3 : Int32} {M : ap_Mem}  (h : w_X8_odds   q x1 x2 x3 M K) : ap_V x g 6 0 [(0, .ref (ap_ad g q)), (1, .int x1), (2, .int x2), (3, .int x3)] [] M := by
  have hg := hc.2.2.2.2.2.2.2.1
  unfold w_X8_odds at h
  refine ap_iload_n (q := 1) hc dX8_odds_0 rfl rfl 1 rfl ?_
  refine ap_callS (q := 4) (As := [.int x1]) hc (ok_X8_isCell hg  h) ml_RX8_88 lk_X8_isCell ls_X8_isCell (ap_RmE hz (by decide)) rfl rfl (Nat.le_of_ble_eq_true rfl) dX8_odds_1 rfl (ap_ki (fun r_1 M_2 h => ?_))
  refine ap_if_eq (q := 7) (tgt := 34) hc dX8_odds_4 rfl (by decide) (fun z_3 => ?_) (fun z_3 => ?_)
  · have h := Eq.mp (if_pos z_3) h
    refine ap_ldc2 (q := 37) hc dX8_odds_34 rfl ct_RX8_219 ?_
    exact ap_lret hc hz dX8_odds_37 h
  · have h := Eq.mp (if_neg z_3) h
    refine ap_iload_n (q := 8) hc dX8_odds_7 rfl rfl 2 rfl ?_
    refine ap_callS (q := 11) (As := [.int x2]) hc (ok_X8_isFuture hg  h) ml_RX8_164 lk_X8_isFuture ls_X8_isFuture (ap_RmE hz (by decide)) rfl rfl (Nat.le_of_ble_eq_true rfl) dX8_odds_8 rfl (ap_ki (fun r_4 M_5 h => ?_))
    refine ap_if_eq (q := 14) (tgt := 34) hc dX8_odds_11 rfl (by decide) (fun z_6 => ?_) (fun z_6 => ?_)
    · have h := Eq.mp (if_pos z_6) h
      refine ap_ldc2 (q := 37) hc dX8_odds_34 rfl ct_RX8_219 ?_
      exact ap_lret hc hz dX8_odds_37 h
    · have h := Eq.mp (if_neg z_6) h
      refine ap_iload_n (q := 15) hc dX8_odds_14 rfl rfl 3 rfl ?_
      refine ap_callS (q := 18) (As := [.int x3]) hc (ok_X8_isEither hg  h) ml_RX8_181 lk_X8_isEither ls_X8_isEither (ap_RmE hz (by decide)) rfl rfl (Nat.le_of_ble_eq_true rfl) dX8_odds_15 rfl (ap_ki (fun r_7 M_8 h => ?_))
      refine ap_if_eq (q := 21) (tgt := 34) hc dX8_odds_18 rfl (by decide) (fun z_9 => ?_) (fun z_9 => ?_)
      · have h := Eq.mp (if_pos z_9) h
        refine ap_ldc2 (q := 37) hc dX8_odds_34 rfl ct_RX8_219 ?_
        exact ap_lret hc hz dX8_odds_37 h
      · have h := Eq.mp (if_neg z_9) h
        refine ap_aload_n (q := 22) hc dX8_odds_21 rfl rfl 0 rfl ?_
        refine ap_getR (q := 25) (r := q + 1) lg_RX8_12 (by decide) hq rfl hc dX8_odds_22 rfl ?_
        refine ap_getR (q := 28) (r := q + 13) lg_RX8_94 (by decide) (ty_8_1 hq) rfl hc dX8_odds_25 rfl ?_
        refine ap_getI (q := 31) lg_RX8_187 (ty_8_13 hq) hc dX8_odds_28 rfl ?_
        refine ap_if_ne (q := 34) (tgt := 38) hc dX8_odds_31 rfl (by decide) (fun z_10 => ?_) (fun z_10 => ?_)
        · have h := Eq.mp (if_neg z_10) h
          refine ap_aload_n (q := 39) hc dX8_odds_38 rfl rfl 0 rfl ?_
          refine ap_getR (q := 42) (r := q + 76) lg_RX8_35 (by decide) hq rfl hc dX8_odds_39 rfl ?_
          refine ap_aload_n (q := 43) hc dX8_odds_42 rfl rfl 0 rfl ?_
          refine ap_getR (q := 46) (r := q + 1) lg_RX8_12 (by decide) hq rfl hc dX8_odds_43 rfl ?_
          refine ap_callV (q := 49) (As := [.ref (ap_ad g (q + 1))]) hc (ok_X2_begin hg (ty_8_76 hq) (ty_8_1 hq) h) ml_RX8_120 lk_X2_begin lv_X2_begin (ty_8_76 hq) rfl (ap_RmE hz (by decide)) rfl rfl (Nat.le_of_ble_eq_true rfl) dX8_odds_46 rfl (ap_kv (fun M_11 h => ?_))
          refine ap_iconst (q := 50) hc dX8_odds_49 rfl ic_0 ?_
          refine ap_istore (q := 52) (lo2 := [(4, .int 0), (0, .ref (ap_ad g q)), (1, .int x1), (2, .int x2), (3, .int x3)]) hc dX8_odds_50 rfl rfl (by decide) rfl ?_
          refine ap_iconst (q := 53) hc dX8_odds_52 rfl ic_0 ?_
          refine ap_istore (q := 55) (lo2 := [(5, .int 0), (4, .int 0), (0, .ref (ap_ad g q)), (1, .int x1), (2, .int x2), (3, .int x3)]) hc dX8_odds_53 rfl rfl (by decide) rfl ?_
          exact ap_sub [2, 3, 4, 5, 1, 0] rfl (bl_X8_odds_55 hc hz  hq  _ _ _ _ _ _ _ h)
        · have h := Eq.mp (if_pos z_10) h
          refine ap_ldc2 (q := 37) hc dX8_odds_34 rfl ct_RX8_219 ?_
          exact ap_lret hc hz dX8_odds_37 h
theorem ok_X8_odds {l : Launch} {g : ap_G} (hg : ap_GOK g) {q : Nat} (hq : ap_kd q = 8) {x1 : Int32} {x2 : Int32} {x3 : Int32} {M : ap_Mem} {K : Int64 → ap_Mem → Prop} (h : w_X8_odds q x1 x2 x3 M K) : ap_Ct l g yX8_odds cX8_odds 6 (some .long) 6 [.ref (ap_ad g q), .int x1, .int x2, .int x3] M (ap_Ql K) := by
  refine ap_Ct_of hg (by decide +kernel) (Nat.le_of_ble_eq_true rfl) (fun x hx hc hz => ?_)
  subst hx
  exact bl_X8_odds_0 hc hz hq h
def w_X8_mean_107  (kL45 : Int32 → Int32 → Int32 → Int32 → ap_Mem → Prop) (q : Nat) (x2 : Int32) (x3 : Int32) (x4 : Int32) (x5 : Int32) (M : ap_Mem) (K : Int64 → ap_Mem → Prop) : Prop :=
∀ x5_1 : Int32, x5_1 = x5 + 1 → kL45 x2 x3 x4 x5_1 M
theorem bl_X8_mean_107 {x : ap_X} {g : ap_G} (hc : ap_Cx x g cX8_mean RX8 6) {K : Int64 → ap_Mem → Prop} (hz : ap_Ends x g 6 (some .long) (ap_Ql K))   {q : Nat} (hq : ap_kd q = 8) {kL45 : Int32 → Int32 → Int32 → Int32 → ap_Mem → Prop} (hk45 : ∀ (x2 : Int32) (x3 : Int32) (x4 : Int32) (x5 : Int32)  (M : ap_Mem), kL45 x2 x3 x4 x5 M → ap_V x g 6 45 [(0, .ref (ap_ad g q)), (2, .int x2), (3, .int x3), (4, .int x4), (5, .int x5)] [] M) {x2 : Int32} {x3 : Int32} {x4 : Int32} {x5 : Int32} {M : ap_Mem}  (h : w_X8_mean_107  kL45 q x2 x3 x4 x5 M K) : ap_V x g 6 107 [(0, .ref (ap_ad g q)), (2, .int x2), (3, .int x3), (4, .int x4), (5, .int x5)] [] M := by
  unfold w_X8_mean_107 at h
  obtain ⟨x5_1, ex5_1, h⟩ := ap_nm h
  refine ap_iinc (q := 110) (lo2 := [(5, .int x5_1), (0, .ref (ap_ad g q)), (2, .int x2), (3, .int x3), (4, .int x4)]) hc dX8_mean_107 rfl 4 rfl (by rw [ex5_1]; rfl) (by decide) rfl ?_
  refine ap_goto (q := 45) hc dX8_mean_110 (by decide) ?_
  exact ap_sub [1, 2, 3, 4, 0] rfl (hk45 _ _ _ _ _ h)
def w_X8_mean_45_s   (kL45 : Int32 → Int32 → Int32 → Int32 → ap_Mem → Prop) (q : Nat) (x2 : Int32) (x3 : Int32) (x4 : Int32) (x5 : Int32) (M : ap_Mem) (K : Int64 → ap_Mem → Prop) : Prop :=
(if (M (q + 13) 5) ≤ x5 then ((if x4 = 0 then (K (-9223372036854775808) M) else (w_X8_inLowestTerms x3 x4 x2 M (fun r_3 M_4 => K r_3 M_4)))) else (w_X3_isAway (q + 13) x5 M (fun r_5 M_6 => (if r_5 = 0 then (vp_in x5 6 ∧ w_X8_far (M_6 (q + 82) 1) (M_6 (q + 16) x5.toNatClampNeg) M_6 (fun r_9 M_10 => ∀ x3_11 : Int32, x3_11 = x3 + r_9 → ∀ x4_12 : Int32, x4_12 = x4 + 1 → w_X8_mean_107  kL45 q x2 x3_11 x4_12 x5 M_10 K)) else (w_X8_mean_107  kL45 q x2 x3 x4 x5 M_6 K)))))
def w_X8_mean_45   (q : Nat) (K : Int64 → ap_Mem → Prop) : Nat → Int32 → Int32 → Int32 → Int32 → ap_Mem → Prop
  | 0, _, _, _, _, _ => False
  | n + 1, x2, x3, x4, x5, M => w_X8_mean_45_s   (w_X8_mean_45   q K n) q x2 x3 x4 x5 M K
theorem bl_X8_mean_45 {x : ap_X} {g : ap_G} (hc : ap_Cx x g cX8_mean RX8 6) {K : Int64 → ap_Mem → Prop} (hz : ap_Ends x g 6 (some .long) (ap_Ql K))   {q : Nat} (hq : ap_kd q = 8)   : ∀ (n : Nat) (x2 : Int32) (x3 : Int32) (x4 : Int32) (x5 : Int32) (M : ap_Mem), w_X8_mean_45   q K n x2 x3 x4 x5 M → ap_V x g 6 45 [(0, .ref (ap_ad g q)), (2, .int x2), (3, .int x3), (4, .int x4), (5, .int x5)] [] M := by
  have hg := hc.2.2.2.2.2.2.2.1
  intro n
  induction n with
  | zero => intro _ _ _ _ _ h; exact h.elim
  | succ n ih =>
    intro x2 x3 x4 x5 M h
    replace h : w_X8_mean_45_s   (w_X8_mean_45   q K n) q x2 x3 x4 x5 M K := h
    unfold w_X8_mean_45_s at h
    refine ap_iload (q := 47) hc dX8_mean_45 rfl 4 rfl ?_
    refine ap_aload_n (q := 48) hc dX8_mean_47 rfl rfl 0 rfl ?_
    refine ap_getR (q := 51) (r := q + 1) lg_RX8_12 (by decide) hq rfl hc dX8_mean_48 rfl ?_
    refine ap_getR (q := 54) (r := q + 13) lg_RX8_94 (by decide) (ty_8_1 hq) rfl hc dX8_mean_51 rfl ?_
    refine ap_getI (q := 57) lg_RX8_187 (ty_8_13 hq) hc dX8_mean_54 rfl ?_
    refine ap_icmp_ge (q := 60) (tgt := 113) hc dX8_mean_57 rfl (by decide) (fun z_1 => ?_) (fun z_1 => ?_)
    · have h := Eq.mp (if_pos z_1) h
      refine ap_iload (q := 115) hc dX8_mean_113 rfl 3 rfl ?_
      refine ap_if_ne (q := 118) (tgt := 124) hc dX8_mean_115 rfl (by decide) (fun z_2 => ?_) (fun z_2 => ?_)
      · have h := Eq.mp (if_neg z_2) h
        refine ap_iload_n (q := 125) hc dX8_mean_124 rfl rfl 2 rfl ?_
        refine ap_iload (q := 127) hc dX8_mean_125 rfl 3 rfl ?_
        refine ap_iload_n (q := 128) hc dX8_mean_127 rfl rfl 1 rfl ?_
        refine ap_callS (q := 131) (As := [.int x3, .int x4, .int x2]) hc (ok_X8_inLowestTerms hg  h) ml_RX8_221 lk_X8_inLowestTerms ls_X8_inLowestTerms (ap_RmE hz (by decide)) rfl rfl (Nat.le_of_ble_eq_true rfl) dX8_mean_128 rfl (ap_kl (fun r_3 M_4 h => ?_))
        exact ap_lret hc hz dX8_mean_131 h
      · have h := Eq.mp (if_pos z_2) h
        refine ap_ldc2 (q := 121) hc dX8_mean_118 rfl ct_RX8_219 ?_
        refine ap_goto (q := 131) hc dX8_mean_121 (by decide) ?_
        exact ap_lret hc hz dX8_mean_131 h
    · have h := Eq.mp (if_neg z_1) h
      refine ap_aload_n (q := 61) hc dX8_mean_60 rfl rfl 0 rfl ?_
      refine ap_getR (q := 64) (r := q + 1) lg_RX8_12 (by decide) hq rfl hc dX8_mean_61 rfl ?_
      refine ap_getR (q := 67) (r := q + 13) lg_RX8_94 (by decide) (ty_8_1 hq) rfl hc dX8_mean_64 rfl ?_
      refine ap_iload (q := 69) hc dX8_mean_67 rfl 4 rfl ?_
      refine ap_callV (q := 72) (As := [.int x5]) hc (ok_X3_isAway hg (ty_8_13 hq) h) ml_RX8_117 lk_X3_isAway lv_X3_isAway (ty_8_13 hq) rfl (ap_RmE hz (by decide)) rfl rfl (Nat.le_of_ble_eq_true rfl) dX8_mean_69 rfl (ap_ki (fun r_5 M_6 h => ?_))
      refine ap_if_ne (q := 75) (tgt := 107) hc dX8_mean_72 rfl (by decide) (fun z_7 => ?_) (fun z_7 => ?_)
      · have h := Eq.mp (if_neg z_7) h
        exact ap_sub [0, 1, 2, 3, 4] rfl (bl_X8_mean_107 hc hz  hq ih  h)
      · have h := Eq.mp (if_pos z_7) h
        refine ap_iload_n (q := 76) hc dX8_mean_75 rfl rfl 2 rfl ?_
        refine ap_aload_n (q := 77) hc dX8_mean_76 rfl rfl 0 rfl ?_
        refine ap_getR (q := 80) (r := q + 76) lg_RX8_35 (by decide) hq rfl hc dX8_mean_77 rfl ?_
        refine ap_getR (q := 83) (r := q + 82) lg_RX8_171 (by decide) (ty_8_76 hq) rfl hc dX8_mean_80 rfl ?_
        refine ap_getI (q := 86) lg_RX8_144 (ty_8_82 hq) hc dX8_mean_83 rfl ?_
        refine ap_aload_n (q := 87) hc dX8_mean_86 rfl rfl 0 rfl ?_
        refine ap_getR (q := 90) (r := q + 1) lg_RX8_12 (by decide) hq rfl hc dX8_mean_87 rfl ?_
        refine ap_getR (q := 93) (r := q + 13) lg_RX8_94 (by decide) (ty_8_1 hq) rfl hc dX8_mean_90 rfl ?_
        refine ap_getR (q := 96) (r := q + 16) lg_RX8_114 (by decide) (ty_8_13 hq) rfl hc dX8_mean_93 rfl ?_
        refine ap_iload (q := 98) hc dX8_mean_96 rfl 4 rfl ?_
        obtain ⟨g_8, h⟩ := h
        refine ap_iald (q := 99) (ty_8_16 hq) (tn_8_16 hq) g_8 hc dX8_mean_98 rfl ?_
        refine ap_callS (q := 102) (As := [.int (M_6 (q + 82) 1), .int (M_6 (q + 16) x5.toNatClampNeg)]) hc (ok_X8_far hg  h) ml_RX8_225 lk_X8_far ls_X8_far (ap_RmE hz (by decide)) rfl rfl (Nat.le_of_ble_eq_true rfl) dX8_mean_99 rfl (ap_ki (fun r_9 M_10 h => ?_))
        refine ap_iadd (q := 103) hc dX8_mean_102 rfl ?_
        obtain ⟨x3_11, ex3_11, h⟩ := ap_nm h
        refine ap_istore_n (q := 104) (lo2 := [(3, .int x3_11), (0, .ref (ap_ad g q)), (2, .int x2), (4, .int x4), (5, .int x5)]) hc dX8_mean_103 rfl rfl ex3_11 (by decide) rfl ?_
        obtain ⟨x4_12, ex4_12, h⟩ := ap_nm h
        refine ap_iinc (q := 107) (lo2 := [(4, .int x4_12), (3, .int x3_11), (0, .ref (ap_ad g q)), (2, .int x2), (5, .int x5)]) hc dX8_mean_104 rfl 3 rfl (by rw [ex4_12]; rfl) (by decide) rfl ?_
        exact ap_sub [2, 3, 1, 0, 4] rfl (bl_X8_mean_107 hc hz  hq ih  h)
def w_X8_mean   (q : Nat) (x1 : Int32) (x2 : Int32) (M : ap_Mem) (K : Int64 → ap_Mem → Prop) : Prop :=
w_X8_isFuture x1 M (fun r_1 M_2 => (if r_1 = 0 then (K (-9223372036854775808) M_2) else (w_X8_isEither x2 M_2 (fun r_4 M_5 => (if r_4 = 0 then (K (-9223372036854775808) M_5) else (w_X2_begin (q + 76) (q + 1) M_5 (fun M_7 => w_X2_goSteps (q + 76) x1 M_7 (fun M_8 => w_X8_mean_45   q K 4096 x2 0 0 0 M_8))))))))
theorem bl_X8_mean_0 {x : ap_X} {g : ap_G} (hc : ap_Cx x g cX8_mean RX8 6) {K : Int64 → ap_Mem → Prop} (hz : ap_Ends x g 6 (some .long) (ap_Ql K))   {q : Nat} (hq : ap_kd q = 8)   {x1 : Int32} {x2 : Int32} {M : ap_Mem}  (h : w_X8_mean   q x1 x2 M K) : ap_V x g 6 0 [(0, .ref (ap_ad g q)), (1, .int x1), (2, .int x2)] [] M := by
  have hg := hc.2.2.2.2.2.2.2.1
  unfold w_X8_mean at h
  refine ap_iload_n (q := 1) hc dX8_mean_0 rfl rfl 1 rfl ?_
  refine ap_callS (q := 4) (As := [.int x1]) hc (ok_X8_isFuture hg  h) ml_RX8_164 lk_X8_isFuture ls_X8_isFuture (ap_RmE hz (by decide)) rfl rfl (Nat.le_of_ble_eq_true rfl) dX8_mean_1 rfl (ap_ki (fun r_1 M_2 h => ?_))
  refine ap_if_eq (q := 7) (tgt := 14) hc dX8_mean_4 rfl (by decide) (fun z_3 => ?_) (fun z_3 => ?_)
  · have h := Eq.mp (if_pos z_3) h
    refine ap_ldc2 (q := 17) hc dX8_mean_14 rfl ct_RX8_219 ?_
    exact ap_lret hc hz dX8_mean_17 h
  · have h := Eq.mp (if_neg z_3) h
    refine ap_iload_n (q := 8) hc dX8_mean_7 rfl rfl 2 rfl ?_
    refine ap_callS (q := 11) (As := [.int x2]) hc (ok_X8_isEither hg  h) ml_RX8_181 lk_X8_isEither ls_X8_isEither (ap_RmE hz (by decide)) rfl rfl (Nat.le_of_ble_eq_true rfl) dX8_mean_8 rfl (ap_ki (fun r_4 M_5 h => ?_))
    refine ap_if_ne (q := 14) (tgt := 18) hc dX8_mean_11 rfl (by decide) (fun z_6 => ?_) (fun z_6 => ?_)
    · have h := Eq.mp (if_neg z_6) h
      refine ap_aload_n (q := 19) hc dX8_mean_18 rfl rfl 0 rfl ?_
      refine ap_getR (q := 22) (r := q + 76) lg_RX8_35 (by decide) hq rfl hc dX8_mean_19 rfl ?_
      refine ap_aload_n (q := 23) hc dX8_mean_22 rfl rfl 0 rfl ?_
      refine ap_getR (q := 26) (r := q + 1) lg_RX8_12 (by decide) hq rfl hc dX8_mean_23 rfl ?_
      refine ap_callV (q := 29) (As := [.ref (ap_ad g (q + 1))]) hc (ok_X2_begin hg (ty_8_76 hq) (ty_8_1 hq) h) ml_RX8_120 lk_X2_begin lv_X2_begin (ty_8_76 hq) rfl (ap_RmE hz (by decide)) rfl rfl (Nat.le_of_ble_eq_true rfl) dX8_mean_26 rfl (ap_kv (fun M_7 h => ?_))
      refine ap_aload_n (q := 30) hc dX8_mean_29 rfl rfl 0 rfl ?_
      refine ap_getR (q := 33) (r := q + 76) lg_RX8_35 (by decide) hq rfl hc dX8_mean_30 rfl ?_
      refine ap_iload_n (q := 34) hc dX8_mean_33 rfl rfl 1 rfl ?_
      refine ap_callV (q := 37) (As := [.int x1]) hc (ok_X2_goSteps hg (ty_8_76 hq) h) ml_RX8_175 lk_X2_goSteps lv_X2_goSteps (ty_8_76 hq) rfl (ap_RmE hz (by decide)) rfl rfl (Nat.le_of_ble_eq_true rfl) dX8_mean_34 rfl (ap_kv (fun M_8 h => ?_))
      refine ap_iconst (q := 38) hc dX8_mean_37 rfl ic_0 ?_
      refine ap_istore_n (q := 39) (lo2 := [(3, .int 0), (0, .ref (ap_ad g q)), (1, .int x1), (2, .int x2)]) hc dX8_mean_38 rfl rfl rfl (by decide) rfl ?_
      refine ap_iconst (q := 40) hc dX8_mean_39 rfl ic_0 ?_
      refine ap_istore (q := 42) (lo2 := [(4, .int 0), (3, .int 0), (0, .ref (ap_ad g q)), (1, .int x1), (2, .int x2)]) hc dX8_mean_40 rfl rfl (by decide) rfl ?_
      refine ap_iconst (q := 43) hc dX8_mean_42 rfl ic_0 ?_
      refine ap_istore (q := 45) (lo2 := [(5, .int 0), (4, .int 0), (3, .int 0), (0, .ref (ap_ad g q)), (1, .int x1), (2, .int x2)]) hc dX8_mean_43 rfl rfl (by decide) rfl ?_
      exact ap_sub [3, 5, 2, 1, 0] rfl (bl_X8_mean_45 hc hz  hq  _ _ _ _ _ _ h)
    · have h := Eq.mp (if_pos z_6) h
      refine ap_ldc2 (q := 17) hc dX8_mean_14 rfl ct_RX8_219 ?_
      exact ap_lret hc hz dX8_mean_17 h
theorem ok_X8_mean {l : Launch} {g : ap_G} (hg : ap_GOK g) {q : Nat} (hq : ap_kd q = 8) {x1 : Int32} {x2 : Int32} {M : ap_Mem} {K : Int64 → ap_Mem → Prop} (h : w_X8_mean q x1 x2 M K) : ap_Ct l g yX8_mean cX8_mean 6 (some .long) 6 [.ref (ap_ad g q), .int x1, .int x2] M (ap_Ql K) := by
  refine ap_Ct_of hg (by decide +kernel) (Nat.le_of_ble_eq_true rfl) (fun x hx hc hz => ?_)
  subst hx
  exact bl_X8_mean_0 hc hz hq h
def w_X8_plan   (q : Nat) (x1 : Int32) (x2 : Int32) (M : ap_Mem) (K : Int32 → ap_Mem → Prop) : Prop :=
(if x1 = (-1) then (w_X5_clear (q + 26) M (fun r_23 M_24 => K r_23 M_24)) else ((if x1 = 0 then (w_X5_add (q + 26) x1 x2 M (fun r_3 M_4 => K r_3 M_4)) else (if x1 = 1 then (w_X3_has (q + 13) x2 M (fun r_6 M_7 => (if r_6 = 0 then (K (-1) M_7) else (w_X5_add (q + 26) x1 x2 M_7 (fun r_9 M_10 => K r_9 M_10))))) else (if x1 = 2 then (w_X3_has (q + 13) x2 M (fun r_12 M_13 => (if r_12 = 0 then (K (-1) M_13) else (w_X5_add (q + 26) x1 x2 M_13 (fun r_15 M_16 => K r_15 M_16))))) else (if x1 = 3 then (w_X8_isCell x2 M (fun r_18 M_19 => (if r_18 = 0 then (K (-1) M_19) else (w_X5_add (q + 26) x1 x2 M_19 (fun r_21 M_22 => K r_21 M_22))))) else (K (-1) M)))))))
theorem bl_X8_plan_0 {x : ap_X} {g : ap_G} (hc : ap_Cx x g cX8_plan RX8 3) {K : Int32 → ap_Mem → Prop} (hz : ap_Ends x g 1 (some .int) (ap_Qi K))   {q : Nat} (hq : ap_kd q = 8)   {x1 : Int32} {x2 : Int32} {M : ap_Mem}  (h : w_X8_plan   q x1 x2 M K) : ap_V x g 3 0 [(0, .ref (ap_ad g q)), (1, .int x1), (2, .int x2)] [] M := by
  have hg := hc.2.2.2.2.2.2.2.1
  unfold w_X8_plan at h
  refine ap_iload_n (q := 1) hc dX8_plan_0 rfl rfl 1 rfl ?_
  refine ap_iconst (q := 2) hc dX8_plan_1 rfl ic_m1 ?_
  refine ap_icmp_ne (q := 5) (tgt := 16) hc dX8_plan_2 rfl (by decide) (fun z_1 => ?_) (fun z_1 => ?_)
  · have h := Eq.mp (if_neg z_1) h
    refine ap_iload_n (q := 17) hc dX8_plan_16 rfl rfl 1 rfl ?_
    by_cases z_2 : x1 = 0
    · have h := Eq.mp (if_pos z_2) h
      refine ap_tabIn (tgt := 48) (off := 31) (v := 0) hc dX8_plan_17 z_2 (by decide) (by decide) (by decide +kernel) (by decide) ?_
      refine ap_aload_n (q := 49) hc dX8_plan_48 rfl rfl 0 rfl ?_
      refine ap_getR (q := 52) (r := q + 1) lg_RX8_12 (by decide) hq rfl hc dX8_plan_49 rfl ?_
      refine ap_getR (q := 55) (r := q + 26) lg_RX8_228 (by decide) (ty_8_1 hq) rfl hc dX8_plan_52 rfl ?_
      refine ap_iload_n (q := 56) hc dX8_plan_55 rfl rfl 1 rfl ?_
      refine ap_iload_n (q := 57) hc dX8_plan_56 rfl rfl 2 rfl ?_
      refine ap_callV (q := 60) (As := [.int x1, .int x2]) hc (ok_X5_add hg (ty_8_26 hq) h) ml_RX8_50 lk_X5_add lv_X5_add (ty_8_26 hq) rfl (ap_RmE hz (by decide)) rfl rfl (Nat.le_of_ble_eq_true rfl) dX8_plan_57 rfl (ap_ki (fun r_3 M_4 h => ?_))
      exact ap_iret hc hz rfl dX8_plan_60 h
    · have h := Eq.mp (if_neg z_2) h
      by_cases z_5 : x1 = 1
      · have h := Eq.mp (if_pos z_5) h
        refine ap_tabIn (tgt := 61) (off := 44) (v := 1) hc dX8_plan_17 z_5 (by decide) (by decide) (by decide +kernel) (by decide) ?_
        refine ap_aload_n (q := 62) hc dX8_plan_61 rfl rfl 0 rfl ?_
        refine ap_getR (q := 65) (r := q + 1) lg_RX8_12 (by decide) hq rfl hc dX8_plan_62 rfl ?_
        refine ap_getR (q := 68) (r := q + 13) lg_RX8_94 (by decide) (ty_8_1 hq) rfl hc dX8_plan_65 rfl ?_
        refine ap_iload_n (q := 69) hc dX8_plan_68 rfl rfl 2 rfl ?_
        refine ap_callV (q := 72) (As := [.int x2]) hc (ok_X3_has hg (ty_8_13 hq) h) ml_RX8_103 lk_X3_has lv_X3_has (ty_8_13 hq) rfl (ap_RmE hz (by decide)) rfl rfl (Nat.le_of_ble_eq_true rfl) dX8_plan_69 rfl (ap_ki (fun r_6 M_7 h => ?_))
        refine ap_if_eq (q := 75) (tgt := 90) hc dX8_plan_72 rfl (by decide) (fun z_8 => ?_) (fun z_8 => ?_)
        · have h := Eq.mp (if_pos z_8) h
          refine ap_iconst (q := 91) hc dX8_plan_90 rfl ic_m1 ?_
          exact ap_iret hc hz rfl dX8_plan_91 h
        · have h := Eq.mp (if_neg z_8) h
          refine ap_aload_n (q := 76) hc dX8_plan_75 rfl rfl 0 rfl ?_
          refine ap_getR (q := 79) (r := q + 1) lg_RX8_12 (by decide) hq rfl hc dX8_plan_76 rfl ?_
          refine ap_getR (q := 82) (r := q + 26) lg_RX8_228 (by decide) (ty_8_1 hq) rfl hc dX8_plan_79 rfl ?_
          refine ap_iload_n (q := 83) hc dX8_plan_82 rfl rfl 1 rfl ?_
          refine ap_iload_n (q := 84) hc dX8_plan_83 rfl rfl 2 rfl ?_
          refine ap_callV (q := 87) (As := [.int x1, .int x2]) hc (ok_X5_add hg (ty_8_26 hq) h) ml_RX8_50 lk_X5_add lv_X5_add (ty_8_26 hq) rfl (ap_RmE hz (by decide)) rfl rfl (Nat.le_of_ble_eq_true rfl) dX8_plan_84 rfl (ap_ki (fun r_9 M_10 h => ?_))
          refine ap_goto (q := 91) hc dX8_plan_87 (by decide) ?_
          exact ap_iret hc hz rfl dX8_plan_91 h
      · have h := Eq.mp (if_neg z_5) h
        by_cases z_11 : x1 = 2
        · have h := Eq.mp (if_pos z_11) h
          refine ap_tabIn (tgt := 61) (off := 44) (v := 2) hc dX8_plan_17 z_11 (by decide) (by decide) (by decide +kernel) (by decide) ?_
          refine ap_aload_n (q := 62) hc dX8_plan_61 rfl rfl 0 rfl ?_
          refine ap_getR (q := 65) (r := q + 1) lg_RX8_12 (by decide) hq rfl hc dX8_plan_62 rfl ?_
          refine ap_getR (q := 68) (r := q + 13) lg_RX8_94 (by decide) (ty_8_1 hq) rfl hc dX8_plan_65 rfl ?_
          refine ap_iload_n (q := 69) hc dX8_plan_68 rfl rfl 2 rfl ?_
          refine ap_callV (q := 72) (As := [.int x2]) hc (ok_X3_has hg (ty_8_13 hq) h) ml_RX8_103 lk_X3_has lv_X3_has (ty_8_13 hq) rfl (ap_RmE hz (by decide)) rfl rfl (Nat.le_of_ble_eq_true rfl) dX8_plan_69 rfl (ap_ki (fun r_12 M_13 h => ?_))
          refine ap_if_eq (q := 75) (tgt := 90) hc dX8_plan_72 rfl (by decide) (fun z_14 => ?_) (fun z_14 => ?_)
          · have h := Eq.mp (if_pos z_14) h
            refine ap_iconst (q := 91) hc dX8_plan_90 rfl ic_m1 ?_
            exact ap_iret hc hz rfl dX8_plan_91 h
          · have h := Eq.mp (if_neg z_14) h
            refine ap_aload_n (q := 76) hc dX8_plan_75 rfl rfl 0 rfl ?_
            refine ap_getR (q := 79) (r := q + 1) lg_RX8_12 (by decide) hq rfl hc dX8_plan_76 rfl ?_
            refine ap_getR (q := 82) (r := q + 26) lg_RX8_228 (by decide) (ty_8_1 hq) rfl hc dX8_plan_79 rfl ?_
            refine ap_iload_n (q := 83) hc dX8_plan_82 rfl rfl 1 rfl ?_
            refine ap_iload_n (q := 84) hc dX8_plan_83 rfl rfl 2 rfl ?_
            refine ap_callV (q := 87) (As := [.int x1, .int x2]) hc (ok_X5_add hg (ty_8_26 hq) h) ml_RX8_50 lk_X5_add lv_X5_add (ty_8_26 hq) rfl (ap_RmE hz (by decide)) rfl rfl (Nat.le_of_ble_eq_true rfl) dX8_plan_84 rfl (ap_ki (fun r_15 M_16 h => ?_))
            refine ap_goto (q := 91) hc dX8_plan_87 (by decide) ?_
            exact ap_iret hc hz rfl dX8_plan_91 h
        · have h := Eq.mp (if_neg z_11) h
          by_cases z_17 : x1 = 3
          · have h := Eq.mp (if_pos z_17) h
            refine ap_tabIn (tgt := 92) (off := 75) (v := 3) hc dX8_plan_17 z_17 (by decide) (by decide) (by decide +kernel) (by decide) ?_
            refine ap_iload_n (q := 93) hc dX8_plan_92 rfl rfl 2 rfl ?_
            refine ap_callS (q := 96) (As := [.int x2]) hc (ok_X8_isCell hg  h) ml_RX8_88 lk_X8_isCell ls_X8_isCell (ap_RmE hz (by decide)) rfl rfl (Nat.le_of_ble_eq_true rfl) dX8_plan_93 rfl (ap_ki (fun r_18 M_19 h => ?_))
            refine ap_if_eq (q := 99) (tgt := 114) hc dX8_plan_96 rfl (by decide) (fun z_20 => ?_) (fun z_20 => ?_)
            · have h := Eq.mp (if_pos z_20) h
              refine ap_iconst (q := 115) hc dX8_plan_114 rfl ic_m1 ?_
              exact ap_iret hc hz rfl dX8_plan_115 h
            · have h := Eq.mp (if_neg z_20) h
              refine ap_aload_n (q := 100) hc dX8_plan_99 rfl rfl 0 rfl ?_
              refine ap_getR (q := 103) (r := q + 1) lg_RX8_12 (by decide) hq rfl hc dX8_plan_100 rfl ?_
              refine ap_getR (q := 106) (r := q + 26) lg_RX8_228 (by decide) (ty_8_1 hq) rfl hc dX8_plan_103 rfl ?_
              refine ap_iload_n (q := 107) hc dX8_plan_106 rfl rfl 1 rfl ?_
              refine ap_iload_n (q := 108) hc dX8_plan_107 rfl rfl 2 rfl ?_
              refine ap_callV (q := 111) (As := [.int x1, .int x2]) hc (ok_X5_add hg (ty_8_26 hq) h) ml_RX8_50 lk_X5_add lv_X5_add (ty_8_26 hq) rfl (ap_RmE hz (by decide)) rfl rfl (Nat.le_of_ble_eq_true rfl) dX8_plan_108 rfl (ap_ki (fun r_21 M_22 h => ?_))
              refine ap_goto (q := 115) hc dX8_plan_111 (by decide) ?_
              exact ap_iret hc hz rfl dX8_plan_115 h
          · have h := Eq.mp (if_neg z_17) h
            refine ap_tabOut (tgt := 116) hc dX8_plan_17 (ap_tabNo 4 (by decide) (by decide) (by decide) (fun j hj hjj => ?_)) (by decide) ?_
            · rcases (by omega : j = 0 ∨ j = 1 ∨ j = 2 ∨ j = 3) with rfl | rfl | rfl | rfl
              · exact z_2
              · exact z_5
              · exact z_11
              · exact z_17
            refine ap_iconst (q := 117) hc dX8_plan_116 rfl ic_m1 ?_
            exact ap_iret hc hz rfl dX8_plan_117 h
  · have h := Eq.mp (if_pos z_1) h
    refine ap_aload_n (q := 6) hc dX8_plan_5 rfl rfl 0 rfl ?_
    refine ap_getR (q := 9) (r := q + 1) lg_RX8_12 (by decide) hq rfl hc dX8_plan_6 rfl ?_
    refine ap_getR (q := 12) (r := q + 26) lg_RX8_228 (by decide) (ty_8_1 hq) rfl hc dX8_plan_9 rfl ?_
    refine ap_callV (q := 15) (As := []) hc (ok_X5_clear hg (ty_8_26 hq) h) ml_RX8_64 lk_X5_clear lv_X5_clear (ty_8_26 hq) rfl (ap_RmE hz (by decide)) rfl rfl (Nat.le_of_ble_eq_true rfl) dX8_plan_12 rfl (ap_ki (fun r_23 M_24 h => ?_))
    exact ap_iret hc hz rfl dX8_plan_15 h
theorem ok_X8_plan {l : Launch} {g : ap_G} (hg : ap_GOK g) {q : Nat} (hq : ap_kd q = 8) {x1 : Int32} {x2 : Int32} {M : ap_Mem} {K : Int32 → ap_Mem → Prop} (h : w_X8_plan q x1 x2 M K) : ap_Ct l g yX8_plan cX8_plan 3 (some .int) 1 [.ref (ap_ad g q), .int x1, .int x2] M (ap_Qi K) := by
  refine ap_Ct_of hg (by decide +kernel) (Nat.le_of_ble_eq_true rfl) (fun x hx hc hz => ?_)
  subst hx
  exact bl_X8_plan_0 hc hz hq h
def w_X8_done_22_s   (kL22 : Int32 → Int32 → ap_Mem → Prop) (q : Nat) (x1 : Int32) (x2 : Int32) (M : ap_Mem) (K : Int32 → ap_Mem → Prop) : Prop :=
(if (M (q + 26) 2) ≤ x2 then ((if x1 = 0 then (K (M (q + 82) 1) M) else (w_X1_cellsLainOn (q + 82) M (fun r_3 M_4 => K r_3 M_4)))) else (vp_in x2 8 ∧ vp_in x2 8 ∧ w_X2_follow (q + 76) (M (q + 27) x2.toNatClampNeg) (M (q + 28) x2.toNatClampNeg) M (fun M_7 => ∀ x2_8 : Int32, x2_8 = x2 + 1 → kL22 x1 x2_8 M_7)))
def w_X8_done_22   (q : Nat) (K : Int32 → ap_Mem → Prop) : Nat → Int32 → Int32 → ap_Mem → Prop
  | 0, _, _, _ => False
  | n + 1, x1, x2, M => w_X8_done_22_s   (w_X8_done_22   q K n) q x1 x2 M K
theorem bl_X8_done_22 {x : ap_X} {g : ap_G} (hc : ap_Cx x g cX8_done RX8 3) {K : Int32 → ap_Mem → Prop} (hz : ap_Ends x g 6 (some .int) (ap_Qi K))   {q : Nat} (hq : ap_kd q = 8)   : ∀ (n : Nat) (x1 : Int32) (x2 : Int32) (M : ap_Mem), w_X8_done_22   q K n x1 x2 M → ap_V x g 3 22 [(0, .ref (ap_ad g q)), (1, .int x1), (2, .int x2)] [] M := by
  have hg := hc.2.2.2.2.2.2.2.1
  intro n
  induction n with
  | zero => intro _ _ _ h; exact h.elim
  | succ n ih =>
    intro x1 x2 M h
    replace h : w_X8_done_22_s   (w_X8_done_22   q K n) q x1 x2 M K := h
    unfold w_X8_done_22_s at h
    refine ap_iload_n (q := 23) hc dX8_done_22 rfl rfl 2 rfl ?_
    refine ap_aload_n (q := 24) hc dX8_done_23 rfl rfl 0 rfl ?_
    refine ap_getR (q := 27) (r := q + 1) lg_RX8_12 (by decide) hq rfl hc dX8_done_24 rfl ?_
    refine ap_getR (q := 30) (r := q + 26) lg_RX8_228 (by decide) (ty_8_1 hq) rfl hc dX8_done_27 rfl ?_
    refine ap_getI (q := 33) lg_RX8_206 (ty_8_26 hq) hc dX8_done_30 rfl ?_
    refine ap_icmp_ge (q := 36) (tgt := 73) hc dX8_done_33 rfl (by decide) (fun z_1 => ?_) (fun z_1 => ?_)
    · have h := Eq.mp (if_pos z_1) h
      refine ap_iload_n (q := 74) hc dX8_done_73 rfl rfl 1 rfl ?_
      refine ap_if_ne (q := 77) (tgt := 90) hc dX8_done_74 rfl (by decide) (fun z_2 => ?_) (fun z_2 => ?_)
      · have h := Eq.mp (if_neg z_2) h
        refine ap_aload_n (q := 91) hc dX8_done_90 rfl rfl 0 rfl ?_
        refine ap_getR (q := 94) (r := q + 76) lg_RX8_35 (by decide) hq rfl hc dX8_done_91 rfl ?_
        refine ap_getR (q := 97) (r := q + 82) lg_RX8_171 (by decide) (ty_8_76 hq) rfl hc dX8_done_94 rfl ?_
        refine ap_callV (q := 100) (As := []) hc (ok_X1_cellsLainOn hg (ty_8_82 hq) h) ml_RX8_154 lk_X1_cellsLainOn lv_X1_cellsLainOn (ty_8_82 hq) rfl (ap_RmE hz (by decide)) rfl rfl (Nat.le_of_ble_eq_true rfl) dX8_done_97 rfl (ap_ki (fun r_3 M_4 h => ?_))
        exact ap_iret hc hz rfl dX8_done_100 h
      · have h := Eq.mp (if_pos z_2) h
        refine ap_aload_n (q := 78) hc dX8_done_77 rfl rfl 0 rfl ?_
        refine ap_getR (q := 81) (r := q + 76) lg_RX8_35 (by decide) hq rfl hc dX8_done_78 rfl ?_
        refine ap_getR (q := 84) (r := q + 82) lg_RX8_171 (by decide) (ty_8_76 hq) rfl hc dX8_done_81 rfl ?_
        refine ap_getI (q := 87) lg_RX8_144 (ty_8_82 hq) hc dX8_done_84 rfl ?_
        refine ap_goto (q := 100) hc dX8_done_87 (by decide) ?_
        exact ap_iret hc hz rfl dX8_done_100 h
    · have h := Eq.mp (if_neg z_1) h
      refine ap_aload_n (q := 37) hc dX8_done_36 rfl rfl 0 rfl ?_
      refine ap_getR (q := 40) (r := q + 76) lg_RX8_35 (by decide) hq rfl hc dX8_done_37 rfl ?_
      refine ap_aload_n (q := 41) hc dX8_done_40 rfl rfl 0 rfl ?_
      refine ap_getR (q := 44) (r := q + 1) lg_RX8_12 (by decide) hq rfl hc dX8_done_41 rfl ?_
      refine ap_getR (q := 47) (r := q + 26) lg_RX8_228 (by decide) (ty_8_1 hq) rfl hc dX8_done_44 rfl ?_
      refine ap_getR (q := 50) (r := q + 27) lg_RX8_207 (by decide) (ty_8_26 hq) rfl hc dX8_done_47 rfl ?_
      refine ap_iload_n (q := 51) hc dX8_done_50 rfl rfl 2 rfl ?_
      obtain ⟨g_5, h⟩ := h
      refine ap_iald (q := 52) (ty_8_27 hq) (tn_8_27 hq) g_5 hc dX8_done_51 rfl ?_
      refine ap_aload_n (q := 53) hc dX8_done_52 rfl rfl 0 rfl ?_
      refine ap_getR (q := 56) (r := q + 1) lg_RX8_12 (by decide) hq rfl hc dX8_done_53 rfl ?_
      refine ap_getR (q := 59) (r := q + 26) lg_RX8_228 (by decide) (ty_8_1 hq) rfl hc dX8_done_56 rfl ?_
      refine ap_getR (q := 62) (r := q + 28) lg_RX8_231 (by decide) (ty_8_26 hq) rfl hc dX8_done_59 rfl ?_
      refine ap_iload_n (q := 63) hc dX8_done_62 rfl rfl 2 rfl ?_
      obtain ⟨g_6, h⟩ := h
      refine ap_iald (q := 64) (ty_8_28 hq) (tn_8_28 hq) g_6 hc dX8_done_63 rfl ?_
      refine ap_callV (q := 67) (As := [.int (M (q + 27) x2.toNatClampNeg), .int (M (q + 28) x2.toNatClampNeg)]) hc (ok_X2_follow hg (ty_8_76 hq) h) ml_RX8_234 lk_X2_follow lv_X2_follow (ty_8_76 hq) rfl (ap_RmE hz (by decide)) rfl rfl (Nat.le_of_ble_eq_true rfl) dX8_done_64 rfl (ap_kv (fun M_7 h => ?_))
      obtain ⟨x2_8, ex2_8, h⟩ := ap_nm h
      refine ap_iinc (q := 70) (lo2 := [(2, .int x2_8), (0, .ref (ap_ad g q)), (1, .int x1)]) hc dX8_done_67 rfl 2 rfl (by rw [ex2_8]; rfl) (by decide) rfl ?_
      refine ap_goto (q := 22) hc dX8_done_70 (by decide) ?_
      exact ap_sub [1, 2, 0] rfl (ih _ _ _ h)
def w_X8_done   (q : Nat) (x1 : Int32) (M : ap_Mem) (K : Int32 → ap_Mem → Prop) : Prop :=
w_X8_isEither x1 M (fun r_1 M_2 => (if r_1 = 0 then (K (-1) M_2) else (w_X2_begin (q + 76) (q + 1) M_2 (fun M_4 => w_X8_done_22   q K 4096 x1 0 M_4))))
theorem bl_X8_done_0 {x : ap_X} {g : ap_G} (hc : ap_Cx x g cX8_done RX8 3) {K : Int32 → ap_Mem → Prop} (hz : ap_Ends x g 6 (some .int) (ap_Qi K))   {q : Nat} (hq : ap_kd q = 8)   {x1 : Int32} {M : ap_Mem}  (h : w_X8_done   q x1 M K) : ap_V x g 3 0 [(0, .ref (ap_ad g q)), (1, .int x1)] [] M := by
  have hg := hc.2.2.2.2.2.2.2.1
  unfold w_X8_done at h
  refine ap_iload_n (q := 1) hc dX8_done_0 rfl rfl 1 rfl ?_
  refine ap_callS (q := 4) (As := [.int x1]) hc (ok_X8_isEither hg  h) ml_RX8_181 lk_X8_isEither ls_X8_isEither (ap_RmE hz (by decide)) rfl rfl (Nat.le_of_ble_eq_true rfl) dX8_done_1 rfl (ap_ki (fun r_1 M_2 h => ?_))
  refine ap_if_ne (q := 7) (tgt := 9) hc dX8_done_4 rfl (by decide) (fun z_3 => ?_) (fun z_3 => ?_)
  · have h := Eq.mp (if_neg z_3) h
    refine ap_aload_n (q := 10) hc dX8_done_9 rfl rfl 0 rfl ?_
    refine ap_getR (q := 13) (r := q + 76) lg_RX8_35 (by decide) hq rfl hc dX8_done_10 rfl ?_
    refine ap_aload_n (q := 14) hc dX8_done_13 rfl rfl 0 rfl ?_
    refine ap_getR (q := 17) (r := q + 1) lg_RX8_12 (by decide) hq rfl hc dX8_done_14 rfl ?_
    refine ap_callV (q := 20) (As := [.ref (ap_ad g (q + 1))]) hc (ok_X2_begin hg (ty_8_76 hq) (ty_8_1 hq) h) ml_RX8_120 lk_X2_begin lv_X2_begin (ty_8_76 hq) rfl (ap_RmE hz (by decide)) rfl rfl (Nat.le_of_ble_eq_true rfl) dX8_done_17 rfl (ap_kv (fun M_4 h => ?_))
    refine ap_iconst (q := 21) hc dX8_done_20 rfl ic_0 ?_
    refine ap_istore_n (q := 22) (lo2 := [(2, .int 0), (0, .ref (ap_ad g q)), (1, .int x1)]) hc dX8_done_21 rfl rfl rfl (by decide) rfl ?_
    exact ap_sub [1, 2, 0] rfl (bl_X8_done_22 hc hz  hq  _ _ _ _ h)
  · have h := Eq.mp (if_pos z_3) h
    refine ap_iconst (q := 8) hc dX8_done_7 rfl ic_m1 ?_
    exact ap_iret hc hz rfl dX8_done_8 h
theorem ok_X8_done {l : Launch} {g : ap_G} (hg : ap_GOK g) {q : Nat} (hq : ap_kd q = 8) {x1 : Int32} {M : ap_Mem} {K : Int32 → ap_Mem → Prop} (h : w_X8_done q x1 M K) : ap_Ct l g yX8_done cX8_done 3 (some .int) 6 [.ref (ap_ad g q), .int x1] M (ap_Qi K) := by
  refine ap_Ct_of hg (by decide +kernel) (Nat.le_of_ble_eq_true rfl) (fun x hx hc hz => ?_)
  subst hx
  exact bl_X8_done_0 hc hz hq h
def w_X8_book   (q : Nat) (x1 : Int32) (x2 : Int32) (M : ap_Mem) (K : Int32 → ap_Mem → Prop) : Prop :=
(if x1 = (-1) then (w_X5_clear (q + 29) M (fun r_9 M_10 => K r_9 M_10)) else (w_X8_isCell x1 M (fun r_2 M_3 => (if r_2 = 0 then (K (-1) M_3) else ((if x2 < 0 then (K (-2) M_3) else ((if x2 ≤ 99 then (w_X5_add (q + 29) x1 x2 M_3 (fun r_7 M_8 => K r_7 M_8)) else (K (-2) M_3)))))))))
theorem bl_X8_book_0 {x : ap_X} {g : ap_G} (hc : ap_Cx x g cX8_book RX8 3) {K : Int32 → ap_Mem → Prop} (hz : ap_Ends x g 1 (some .int) (ap_Qi K))   {q : Nat} (hq : ap_kd q = 8)   {x1 : Int32} {x2 : Int32} {M : ap_Mem}  (h : w_X8_book   q x1 x2 M K) : ap_V x g 3 0 [(0, .ref (ap_ad g q)), (1, .int x1), (2, .int x2)] [] M := by
  have hg := hc.2.2.2.2.2.2.2.1
  unfold w_X8_book at h
  refine ap_iload_n (q := 1) hc dX8_book_0 rfl rfl 1 rfl ?_
  refine ap_iconst (q := 2) hc dX8_book_1 rfl ic_m1 ?_
  refine ap_icmp_ne (q := 5) (tgt := 16) hc dX8_book_2 rfl (by decide) (fun z_1 => ?_) (fun z_1 => ?_)
  · have h := Eq.mp (if_neg z_1) h
    refine ap_iload_n (q := 17) hc dX8_book_16 rfl rfl 1 rfl ?_
    refine ap_callS (q := 20) (As := [.int x1]) hc (ok_X8_isCell hg  h) ml_RX8_88 lk_X8_isCell ls_X8_isCell (ap_RmE hz (by decide)) rfl rfl (Nat.le_of_ble_eq_true rfl) dX8_book_17 rfl (ap_ki (fun r_2 M_3 h => ?_))
    refine ap_if_ne (q := 23) (tgt := 25) hc dX8_book_20 rfl (by decide) (fun z_4 => ?_) (fun z_4 => ?_)
    · have h := Eq.mp (if_neg z_4) h
      refine ap_iload_n (q := 26) hc dX8_book_25 rfl rfl 2 rfl ?_
      refine ap_if_lt (q := 29) (tgt := 35) hc dX8_book_26 rfl (by decide) (fun z_5 => ?_) (fun z_5 => ?_)
      · have h := Eq.mp (if_pos z_5) h
        refine ap_bipush (q := 37) hc dX8_book_35 rfl bc_m2 ?_
        exact ap_iret hc hz rfl dX8_book_37 h
      · have h := Eq.mp (if_neg z_5) h
        refine ap_iload_n (q := 30) hc dX8_book_29 rfl rfl 2 rfl ?_
        refine ap_bipush (q := 32) hc dX8_book_30 rfl bc_99 ?_
        refine ap_icmp_le (q := 35) (tgt := 38) hc dX8_book_32 rfl (by decide) (fun z_6 => ?_) (fun z_6 => ?_)
        · have h := Eq.mp (if_pos z_6) h
          refine ap_aload_n (q := 39) hc dX8_book_38 rfl rfl 0 rfl ?_
          refine ap_getR (q := 42) (r := q + 1) lg_RX8_12 (by decide) hq rfl hc dX8_book_39 rfl ?_
          refine ap_getR (q := 45) (r := q + 29) lg_RX8_237 (by decide) (ty_8_1 hq) rfl hc dX8_book_42 rfl ?_
          refine ap_iload_n (q := 46) hc dX8_book_45 rfl rfl 1 rfl ?_
          refine ap_iload_n (q := 47) hc dX8_book_46 rfl rfl 2 rfl ?_
          refine ap_callV (q := 50) (As := [.int x1, .int x2]) hc (ok_X5_add hg (ty_8_29 hq) h) ml_RX8_50 lk_X5_add lv_X5_add (ty_8_29 hq) rfl (ap_RmE hz (by decide)) rfl rfl (Nat.le_of_ble_eq_true rfl) dX8_book_47 rfl (ap_ki (fun r_7 M_8 h => ?_))
          exact ap_iret hc hz rfl dX8_book_50 h
        · have h := Eq.mp (if_neg z_6) h
          refine ap_bipush (q := 37) hc dX8_book_35 rfl bc_m2 ?_
          exact ap_iret hc hz rfl dX8_book_37 h
    · have h := Eq.mp (if_pos z_4) h
      refine ap_iconst (q := 24) hc dX8_book_23 rfl ic_m1 ?_
      exact ap_iret hc hz rfl dX8_book_24 h
  · have h := Eq.mp (if_pos z_1) h
    refine ap_aload_n (q := 6) hc dX8_book_5 rfl rfl 0 rfl ?_
    refine ap_getR (q := 9) (r := q + 1) lg_RX8_12 (by decide) hq rfl hc dX8_book_6 rfl ?_
    refine ap_getR (q := 12) (r := q + 29) lg_RX8_237 (by decide) (ty_8_1 hq) rfl hc dX8_book_9 rfl ?_
    refine ap_callV (q := 15) (As := []) hc (ok_X5_clear hg (ty_8_29 hq) h) ml_RX8_64 lk_X5_clear lv_X5_clear (ty_8_29 hq) rfl (ap_RmE hz (by decide)) rfl rfl (Nat.le_of_ble_eq_true rfl) dX8_book_12 rfl (ap_ki (fun r_9 M_10 h => ?_))
    exact ap_iret hc hz rfl dX8_book_15 h
theorem ok_X8_book {l : Launch} {g : ap_G} (hg : ap_GOK g) {q : Nat} (hq : ap_kd q = 8) {x1 : Int32} {x2 : Int32} {M : ap_Mem} {K : Int32 → ap_Mem → Prop} (h : w_X8_book q x1 x2 M K) : ap_Ct l g yX8_book cX8_book 3 (some .int) 1 [.ref (ap_ad g q), .int x1, .int x2] M (ap_Qi K) := by
  refine ap_Ct_of hg (by decide +kernel) (Nat.le_of_ble_eq_true rfl) (fun x hx hc hz => ?_)
  subst hx
  exact bl_X8_book_0 hc hz hq h
def w_X8_looked_2_s   (kL2 : Int32 → ap_Mem → Prop) (q : Nat) (x1 : Int32) (M : ap_Mem) (K : Int32 → ap_Mem → Prop) : Prop :=
(if (M (q + 29) 2) ≤ x1 then (K (-5) M) else (vp_in x1 8 ∧ vp_in (M (q + 30) x1.toNatClampNeg) 16 ∧ vp_in x1 8 ∧ (if (M (q + 19) (M (q + 30) x1.toNatClampNeg).toNatClampNeg) = (M (q + 31) x1.toNatClampNeg) then (∀ x1_6 : Int32, x1_6 = x1 + 1 → kL2 x1_6 M) else (K x1 M))))
def w_X8_looked_2   (q : Nat) (K : Int32 → ap_Mem → Prop) : Nat → Int32 → ap_Mem → Prop
  | 0, _, _ => False
  | n + 1, x1, M => w_X8_looked_2_s   (w_X8_looked_2   q K n) q x1 M K
theorem bl_X8_looked_2 {x : ap_X} {g : ap_G} (hc : ap_Cx x g cX8_looked RX8 2) {K : Int32 → ap_Mem → Prop} (hz : ap_Ends x g 0 (some .int) (ap_Qi K))   {q : Nat} (hq : ap_kd q = 8)   : ∀ (n : Nat) (x1 : Int32) (M : ap_Mem), w_X8_looked_2   q K n x1 M → ap_V x g 2 2 [(0, .ref (ap_ad g q)), (1, .int x1)] [] M := by
  intro n
  induction n with
  | zero => intro _ _ h; exact h.elim
  | succ n ih =>
    intro x1 M h
    replace h : w_X8_looked_2_s   (w_X8_looked_2   q K n) q x1 M K := h
    unfold w_X8_looked_2_s at h
    refine ap_iload_n (q := 3) hc dX8_looked_2 rfl rfl 1 rfl ?_
    refine ap_aload_n (q := 4) hc dX8_looked_3 rfl rfl 0 rfl ?_
    refine ap_getR (q := 7) (r := q + 1) lg_RX8_12 (by decide) hq rfl hc dX8_looked_4 rfl ?_
    refine ap_getR (q := 10) (r := q + 29) lg_RX8_237 (by decide) (ty_8_1 hq) rfl hc dX8_looked_7 rfl ?_
    refine ap_getI (q := 13) lg_RX8_206 (ty_8_29 hq) hc dX8_looked_10 rfl ?_
    refine ap_icmp_ge (q := 16) (tgt := 62) hc dX8_looked_13 rfl (by decide) (fun z_1 => ?_) (fun z_1 => ?_)
    · have h := Eq.mp (if_pos z_1) h
      refine ap_bipush (q := 64) hc dX8_looked_62 rfl bc_m5 ?_
      exact ap_iret hc hz rfl dX8_looked_64 h
    · have h := Eq.mp (if_neg z_1) h
      refine ap_aload_n (q := 17) hc dX8_looked_16 rfl rfl 0 rfl ?_
      refine ap_getR (q := 20) (r := q + 1) lg_RX8_12 (by decide) hq rfl hc dX8_looked_17 rfl ?_
      refine ap_getR (q := 23) (r := q + 18) lg_RX8_140 (by decide) (ty_8_1 hq) rfl hc dX8_looked_20 rfl ?_
      refine ap_getR (q := 26) (r := q + 19) lg_RX8_161 (by decide) (ty_8_18 hq) rfl hc dX8_looked_23 rfl ?_
      refine ap_aload_n (q := 27) hc dX8_looked_26 rfl rfl 0 rfl ?_
      refine ap_getR (q := 30) (r := q + 1) lg_RX8_12 (by decide) hq rfl hc dX8_looked_27 rfl ?_
      refine ap_getR (q := 33) (r := q + 29) lg_RX8_237 (by decide) (ty_8_1 hq) rfl hc dX8_looked_30 rfl ?_
      refine ap_getR (q := 36) (r := q + 30) lg_RX8_207 (by decide) (ty_8_29 hq) rfl hc dX8_looked_33 rfl ?_
      refine ap_iload_n (q := 37) hc dX8_looked_36 rfl rfl 1 rfl ?_
      obtain ⟨g_2, h⟩ := h
      refine ap_iald (q := 38) (ty_8_30 hq) (tn_8_30 hq) g_2 hc dX8_looked_37 rfl ?_
      obtain ⟨g_3, h⟩ := h
      refine ap_iald (q := 39) (ty_8_19 hq) (tn_8_19 hq) g_3 hc dX8_looked_38 rfl ?_
      refine ap_aload_n (q := 40) hc dX8_looked_39 rfl rfl 0 rfl ?_
      refine ap_getR (q := 43) (r := q + 1) lg_RX8_12 (by decide) hq rfl hc dX8_looked_40 rfl ?_
      refine ap_getR (q := 46) (r := q + 29) lg_RX8_237 (by decide) (ty_8_1 hq) rfl hc dX8_looked_43 rfl ?_
      refine ap_getR (q := 49) (r := q + 31) lg_RX8_231 (by decide) (ty_8_29 hq) rfl hc dX8_looked_46 rfl ?_
      refine ap_iload_n (q := 50) hc dX8_looked_49 rfl rfl 1 rfl ?_
      obtain ⟨g_4, h⟩ := h
      refine ap_iald (q := 51) (ty_8_31 hq) (tn_8_31 hq) g_4 hc dX8_looked_50 rfl ?_
      refine ap_icmp_eq (q := 54) (tgt := 56) hc dX8_looked_51 rfl (by decide) (fun z_5 => ?_) (fun z_5 => ?_)
      · have h := Eq.mp (if_pos z_5) h
        obtain ⟨x1_6, ex1_6, h⟩ := ap_nm h
        refine ap_iinc (q := 59) (lo2 := [(1, .int x1_6), (0, .ref (ap_ad g q))]) hc dX8_looked_56 rfl 1 rfl (by rw [ex1_6]; rfl) (by decide) rfl ?_
        refine ap_goto (q := 2) hc dX8_looked_59 (by decide) ?_
        exact ap_sub [1, 0] rfl (ih _ _ h)
      · have h := Eq.mp (if_neg z_5) h
        refine ap_iload_n (q := 55) hc dX8_looked_54 rfl rfl 1 rfl ?_
        exact ap_iret hc hz rfl dX8_looked_55 h
def w_X8_looked   (q : Nat)  (M : ap_Mem) (K : Int32 → ap_Mem → Prop) : Prop :=
w_X8_looked_2   q K 4096 0 M
theorem bl_X8_looked_0 {x : ap_X} {g : ap_G} (hc : ap_Cx x g cX8_looked RX8 2) {K : Int32 → ap_Mem → Prop} (hz : ap_Ends x g 0 (some .int) (ap_Qi K))   {q : Nat} (hq : ap_kd q = 8)    {M : ap_Mem}  (h : w_X8_looked   q  M K) : ap_V x g 2 0 [(0, .ref (ap_ad g q))] [] M := by
  unfold w_X8_looked at h
  refine ap_iconst (q := 1) hc dX8_looked_0 rfl ic_0 ?_
  refine ap_istore_n (q := 2) (lo2 := [(1, .int 0), (0, .ref (ap_ad g q))]) hc dX8_looked_1 rfl rfl rfl (by decide) rfl ?_
  exact ap_sub [1, 0] rfl (bl_X8_looked_2 hc hz  hq  _ _ _ h)
theorem ok_X8_looked {l : Launch} {g : ap_G} (hg : ap_GOK g) {q : Nat} (hq : ap_kd q = 8)  {M : ap_Mem} {K : Int32 → ap_Mem → Prop} (h : w_X8_looked q  M K) : ap_Ct l g yX8_looked cX8_looked 2 (some .int) 0 [.ref (ap_ad g q)] M (ap_Qi K) := by
  refine ap_Ct_of hg (by decide +kernel) (Nat.le_of_ble_eq_true rfl) (fun x hx hc hz => ?_)
  subst hx
  exact bl_X8_looked_0 hc hz hq h
def w_X8_act   (q : Nat) (x1 : Int32) (x2 : Int32) (x3 : Int32) (M : ap_Mem) (K : Int32 → ap_Mem → Prop) : Prop :=
∀ M_1 : ap_Mem, M_1 = ap_mu M (q + 96) 1 0 → w_X3_has (q + 13) x1 M_1 (fun r_2 M_3 => (if r_2 = 0 then (K 0 M_3) else ((if x2 < 0 then (K 0 M_3) else ((if x2 < 3 then (w_X0_start (q + 96) (q + 13) x1 x2 x3 M_3 (fun r_7 M_8 => K r_7 M_8)) else (K 0 M_3)))))))
theorem bl_X8_act_0 {x : ap_X} {g : ap_G} (hc : ap_Cx x g cX8_act RX8 4) {K : Int32 → ap_Mem → Prop} (hz : ap_Ends x g 19 (some .int) (ap_Qi K))   {q : Nat} (hq : ap_kd q = 8)   {x1 : Int32} {x2 : Int32} {x3 : Int32} {M : ap_Mem}  (h : w_X8_act   q x1 x2 x3 M K) : ap_V x g 4 0 [(0, .ref (ap_ad g q)), (1, .int x1), (2, .int x2), (3, .int x3)] [] M := by
  have hg := hc.2.2.2.2.2.2.2.1
  unfold w_X8_act at h
  refine ap_aload_n (q := 1) hc dX8_act_0 rfl rfl 0 rfl ?_
  refine ap_getR (q := 4) (r := q + 96) lg_RX8_42 (by decide) hq rfl hc dX8_act_1 rfl ?_
  refine ap_iconst (q := 5) hc dX8_act_4 rfl ic_0 ?_
  obtain ⟨M_1, eM_1, h⟩ := ap_nm h
  refine ap_putI (q := 8) lp_RX8_240 (ty_8_96 hq) eM_1 hc dX8_act_5 rfl ?_
  refine ap_aload_n (q := 9) hc dX8_act_8 rfl rfl 0 rfl ?_
  refine ap_getR (q := 12) (r := q + 1) lg_RX8_12 (by decide) hq rfl hc dX8_act_9 rfl ?_
  refine ap_getR (q := 15) (r := q + 13) lg_RX8_94 (by decide) (ty_8_1 hq) rfl hc dX8_act_12 rfl ?_
  refine ap_iload_n (q := 16) hc dX8_act_15 rfl rfl 1 rfl ?_
  refine ap_callV (q := 19) (As := [.int x1]) hc (ok_X3_has hg (ty_8_13 hq) h) ml_RX8_103 lk_X3_has lv_X3_has (ty_8_13 hq) rfl (ap_RmE hz (by decide)) rfl rfl (Nat.le_of_ble_eq_true rfl) dX8_act_16 rfl (ap_ki (fun r_2 M_3 h => ?_))
  refine ap_if_eq (q := 22) (tgt := 31) hc dX8_act_19 rfl (by decide) (fun z_4 => ?_) (fun z_4 => ?_)
  · have h := Eq.mp (if_pos z_4) h
    refine ap_iconst (q := 32) hc dX8_act_31 rfl ic_0 ?_
    exact ap_iret hc hz rfl dX8_act_32 h
  · have h := Eq.mp (if_neg z_4) h
    refine ap_iload_n (q := 23) hc dX8_act_22 rfl rfl 2 rfl ?_
    refine ap_if_lt (q := 26) (tgt := 31) hc dX8_act_23 rfl (by decide) (fun z_5 => ?_) (fun z_5 => ?_)
    · have h := Eq.mp (if_pos z_5) h
      refine ap_iconst (q := 32) hc dX8_act_31 rfl ic_0 ?_
      exact ap_iret hc hz rfl dX8_act_32 h
    · have h := Eq.mp (if_neg z_5) h
      refine ap_iload_n (q := 27) hc dX8_act_26 rfl rfl 2 rfl ?_
      refine ap_iconst (q := 28) hc dX8_act_27 rfl ic_3 ?_
      refine ap_icmp_lt (q := 31) (tgt := 33) hc dX8_act_28 rfl (by decide) (fun z_6 => ?_) (fun z_6 => ?_)
      · have h := Eq.mp (if_pos z_6) h
        refine ap_aload_n (q := 34) hc dX8_act_33 rfl rfl 0 rfl ?_
        refine ap_getR (q := 37) (r := q + 96) lg_RX8_42 (by decide) hq rfl hc dX8_act_34 rfl ?_
        refine ap_aload_n (q := 38) hc dX8_act_37 rfl rfl 0 rfl ?_
        refine ap_getR (q := 41) (r := q + 1) lg_RX8_12 (by decide) hq rfl hc dX8_act_38 rfl ?_
        refine ap_getR (q := 44) (r := q + 13) lg_RX8_94 (by decide) (ty_8_1 hq) rfl hc dX8_act_41 rfl ?_
        refine ap_iload_n (q := 45) hc dX8_act_44 rfl rfl 1 rfl ?_
        refine ap_iload_n (q := 46) hc dX8_act_45 rfl rfl 2 rfl ?_
        refine ap_iload_n (q := 47) hc dX8_act_46 rfl rfl 3 rfl ?_
        refine ap_callV (q := 50) (As := [.ref (ap_ad g (q + 13)), .int x1, .int x2, .int x3]) hc (ok_X0_start hg (ty_8_96 hq) (ty_8_13 hq) h) ml_RX8_243 lk_X0_start lv_X0_start (ty_8_96 hq) rfl (ap_RmE hz (by decide)) rfl rfl (Nat.le_of_ble_eq_true rfl) dX8_act_47 rfl (ap_ki (fun r_7 M_8 h => ?_))
        exact ap_iret hc hz rfl dX8_act_50 h
      · have h := Eq.mp (if_neg z_6) h
        refine ap_iconst (q := 32) hc dX8_act_31 rfl ic_0 ?_
        exact ap_iret hc hz rfl dX8_act_32 h
theorem ok_X8_act {l : Launch} {g : ap_G} (hg : ap_GOK g) {q : Nat} (hq : ap_kd q = 8) {x1 : Int32} {x2 : Int32} {x3 : Int32} {M : ap_Mem} {K : Int32 → ap_Mem → Prop} (h : w_X8_act q x1 x2 x3 M K) : ap_Ct l g yX8_act cX8_act 4 (some .int) 19 [.ref (ap_ad g q), .int x1, .int x2, .int x3] M (ap_Qi K) := by
  refine ap_Ct_of hg (by decide +kernel) (Nat.le_of_ble_eq_true rfl) (fun x hx hc hz => ?_)
  subst hx
  exact bl_X8_act_0 hc hz hq h
def w_X8_trace   (q : Nat) (x1 : Int32) (M : ap_Mem) (K : Int32 → ap_Mem → Prop) : Prop :=
(if x1 < 0 then (K (-1) M) else (w_X0_inTrace (q + 96) M (fun r_2 M_3 => (if x1 < r_2 then (vp_in x1 20 ∧ K (M_3 (q + 97) x1.toNatClampNeg) M_3) else (K (-1) M_3)))))
theorem bl_X8_trace_0 {x : ap_X} {g : ap_G} (hc : ap_Cx x g cX8_trace RX8 2) {K : Int32 → ap_Mem → Prop} (hz : ap_Ends x g 2 (some .int) (ap_Qi K))   {q : Nat} (hq : ap_kd q = 8)   {x1 : Int32} {M : ap_Mem}  (h : w_X8_trace   q x1 M K) : ap_V x g 2 0 [(0, .ref (ap_ad g q)), (1, .int x1)] [] M := by
  have hg := hc.2.2.2.2.2.2.2.1
  unfold w_X8_trace at h
  refine ap_iload_n (q := 1) hc dX8_trace_0 rfl rfl 1 rfl ?_
  refine ap_if_lt (q := 4) (tgt := 15) hc dX8_trace_1 rfl (by decide) (fun z_1 => ?_) (fun z_1 => ?_)
  · have h := Eq.mp (if_pos z_1) h
    refine ap_iconst (q := 16) hc dX8_trace_15 rfl ic_m1 ?_
    exact ap_iret hc hz rfl dX8_trace_16 h
  · have h := Eq.mp (if_neg z_1) h
    refine ap_iload_n (q := 5) hc dX8_trace_4 rfl rfl 1 rfl ?_
    refine ap_aload_n (q := 6) hc dX8_trace_5 rfl rfl 0 rfl ?_
    refine ap_getR (q := 9) (r := q + 96) lg_RX8_42 (by decide) hq rfl hc dX8_trace_6 rfl ?_
    refine ap_callV (q := 12) (As := []) hc (ok_X0_inTrace hg (ty_8_96 hq) h) ml_RX8_247 lk_X0_inTrace lv_X0_inTrace (ty_8_96 hq) rfl (ap_RmE hz (by decide)) rfl rfl (Nat.le_of_ble_eq_true rfl) dX8_trace_9 rfl (ap_ki (fun r_2 M_3 h => ?_))
    refine ap_icmp_lt (q := 15) (tgt := 17) hc dX8_trace_12 rfl (by decide) (fun z_4 => ?_) (fun z_4 => ?_)
    · have h := Eq.mp (if_pos z_4) h
      refine ap_aload_n (q := 18) hc dX8_trace_17 rfl rfl 0 rfl ?_
      refine ap_getR (q := 21) (r := q + 96) lg_RX8_42 (by decide) hq rfl hc dX8_trace_18 rfl ?_
      refine ap_getR (q := 24) (r := q + 97) lg_RX8_250 (by decide) (ty_8_96 hq) rfl hc dX8_trace_21 rfl ?_
      refine ap_iload_n (q := 25) hc dX8_trace_24 rfl rfl 1 rfl ?_
      obtain ⟨g_5, h⟩ := h
      refine ap_iald (q := 26) (ty_8_97 hq) (tn_8_97 hq) g_5 hc dX8_trace_25 rfl ?_
      exact ap_iret hc hz rfl dX8_trace_26 h
    · have h := Eq.mp (if_neg z_4) h
      refine ap_iconst (q := 16) hc dX8_trace_15 rfl ic_m1 ?_
      exact ap_iret hc hz rfl dX8_trace_16 h
theorem ok_X8_trace {l : Launch} {g : ap_G} (hg : ap_GOK g) {q : Nat} (hq : ap_kd q = 8) {x1 : Int32} {M : ap_Mem} {K : Int32 → ap_Mem → Prop} (h : w_X8_trace q x1 M K) : ap_Ct l g yX8_trace cX8_trace 2 (some .int) 2 [.ref (ap_ad g q), .int x1] M (ap_Qi K) := by
  refine ap_Ct_of hg (by decide +kernel) (Nat.le_of_ble_eq_true rfl) (fun x hx hc hz => ?_)
  subst hx
  exact bl_X8_trace_0 hc hz hq h
def w_X8_as_68   (q : Nat) (x1 : Int32) (s0 : Int32) (M : ap_Mem) (K : Int32 → ap_Mem → Prop) : Prop :=
(if s0 = 0 then (K (-6) M) else (vp_in x1 6 ∧ K (M (q + 15) x1.toNatClampNeg) M))
theorem bl_X8_as_68 {x : ap_X} {g : ap_G} (hc : ap_Cx x g cX8_as RX8 5) {K : Int32 → ap_Mem → Prop} (hz : ap_Ends x g 1 (some .int) (ap_Qi K))   {q : Nat} (hq : ap_kd q = 8)   {x1 : Int32} {s0 : Int32} {M : ap_Mem}  (h : w_X8_as_68   q x1 s0 M K) : ap_V x g 5 68 [(0, .ref (ap_ad g q)), (1, .int x1)] [.int s0] M := by
  unfold w_X8_as_68 at h
  refine ap_istore (q := 70) (lo2 := [(4, .int s0), (0, .ref (ap_ad g q)), (1, .int x1)]) hc dX8_as_68 rfl rfl (by decide) rfl ?_
  refine ap_iload (q := 72) hc dX8_as_70 rfl 0 rfl ?_
  refine ap_if_eq (q := 75) (tgt := 90) hc dX8_as_72 rfl (by decide) (fun z_1 => ?_) (fun z_1 => ?_)
  · have h := Eq.mp (if_pos z_1) h
    refine ap_bipush (q := 92) hc dX8_as_90 rfl bc_m6 ?_
    exact ap_iret hc hz rfl dX8_as_92 h
  · have h := Eq.mp (if_neg z_1) h
    refine ap_aload_n (q := 76) hc dX8_as_75 rfl rfl 1 rfl ?_
    refine ap_getR (q := 79) (r := q + 1) lg_RX8_12 (by decide) hq rfl hc dX8_as_76 rfl ?_
    refine ap_getR (q := 82) (r := q + 13) lg_RX8_94 (by decide) (ty_8_1 hq) rfl hc dX8_as_79 rfl ?_
    refine ap_getR (q := 85) (r := q + 15) lg_RX8_111 (by decide) (ty_8_13 hq) rfl hc dX8_as_82 rfl ?_
    refine ap_iload_n (q := 86) hc dX8_as_85 rfl rfl 2 rfl ?_
    obtain ⟨g_2, h⟩ := h
    refine ap_iald (q := 87) (ty_8_15 hq) (tn_8_15 hq) g_2 hc dX8_as_86 rfl ?_
    refine ap_goto (q := 92) hc dX8_as_87 (by decide) ?_
    exact ap_iret hc hz rfl dX8_as_92 h
def w_X8_as_63   (q : Nat) (x1 : Int32) (M : ap_Mem) (K : Int32 → ap_Mem → Prop) : Prop :=
w_X8_as_68   q x1 1 M K
theorem bl_X8_as_63 {x : ap_X} {g : ap_G} (hc : ap_Cx x g cX8_as RX8 5) {K : Int32 → ap_Mem → Prop} (hz : ap_Ends x g 1 (some .int) (ap_Qi K))   {q : Nat} (hq : ap_kd q = 8)   {x1 : Int32} {M : ap_Mem}  (h : w_X8_as_63   q x1 M K) : ap_V x g 5 63 [(0, .ref (ap_ad g q)), (1, .int x1)] [] M := by
  unfold w_X8_as_63 at h
  refine ap_iconst (q := 64) hc dX8_as_63 rfl ic_1 ?_
  refine ap_goto (q := 68) hc dX8_as_64 (by decide) ?_
  exact ap_sub [0, 1] rfl (bl_X8_as_68 hc hz  hq   h)
def w_X8_as   (q : Nat) (x1 : Int32) (x2 : Int32) (M : ap_Mem) (K : Int32 → ap_Mem → Prop) : Prop :=
w_X3_has (q + 13) x1 M (fun r_1 M_2 => (if r_1 = 0 then (K (-1) M_2) else (w_X8_isKind x2 M_2 (fun r_4 M_5 => (if r_4 = 0 then (K (-1) M_5) else (vp_in x1 6 ∧ ∀ x3_8 : Int32, x3_8 = M_5 (q + 14) x1.toNatClampNeg → (if x3_8 = x2 then (w_X8_as_63   q x1 M_5 K) else (vp_in x3_8 7 ∧ (if (ap_kT 0 x3_8.toNatClampNeg) = x2 then (w_X8_as_63   q x1 M_5 K) else (vp_in x3_8 7 ∧ vp_in (ap_kT 0 x3_8.toNatClampNeg) 7 ∧ (if (ap_kT 0 (ap_kT 0 x3_8.toNatClampNeg).toNatClampNeg) = x2 then (w_X8_as_63   q x1 M_5 K) else (w_X8_as_68   q x1 0 M_5 K))))))))))))
theorem bl_X8_as_0 {x : ap_X} {g : ap_G} (hc : ap_Cx x g cX8_as RX8 5) {K : Int32 → ap_Mem → Prop} (hz : ap_Ends x g 1 (some .int) (ap_Qi K))   {q : Nat} (hq : ap_kd q = 8)   {x1 : Int32} {x2 : Int32} {M : ap_Mem}  (h : w_X8_as   q x1 x2 M K) : ap_V x g 5 0 [(0, .ref (ap_ad g q)), (1, .int x1), (2, .int x2)] [] M := by
  have hg := hc.2.2.2.2.2.2.2.1
  unfold w_X8_as at h
  refine ap_aload_n (q := 1) hc dX8_as_0 rfl rfl 0 rfl ?_
  refine ap_getR (q := 4) (r := q + 1) lg_RX8_12 (by decide) hq rfl hc dX8_as_1 rfl ?_
  refine ap_getR (q := 7) (r := q + 13) lg_RX8_94 (by decide) (ty_8_1 hq) rfl hc dX8_as_4 rfl ?_
  refine ap_iload_n (q := 8) hc dX8_as_7 rfl rfl 1 rfl ?_
  refine ap_callV (q := 11) (As := [.int x1]) hc (ok_X3_has hg (ty_8_13 hq) h) ml_RX8_103 lk_X3_has lv_X3_has (ty_8_13 hq) rfl (ap_RmE hz (by decide)) rfl rfl (Nat.le_of_ble_eq_true rfl) dX8_as_8 rfl (ap_ki (fun r_1 M_2 h => ?_))
  refine ap_if_eq (q := 14) (tgt := 21) hc dX8_as_11 rfl (by decide) (fun z_3 => ?_) (fun z_3 => ?_)
  · have h := Eq.mp (if_pos z_3) h
    refine ap_iconst (q := 22) hc dX8_as_21 rfl ic_m1 ?_
    exact ap_iret hc hz rfl dX8_as_22 h
  · have h := Eq.mp (if_neg z_3) h
    refine ap_iload_n (q := 15) hc dX8_as_14 rfl rfl 2 rfl ?_
    refine ap_callS (q := 18) (As := [.int x2]) hc (ok_X8_isKind hg  h) ml_RX8_84 lk_X8_isKind ls_X8_isKind (ap_RmE hz (by decide)) rfl rfl (Nat.le_of_ble_eq_true rfl) dX8_as_15 rfl (ap_ki (fun r_4 M_5 h => ?_))
    refine ap_if_ne (q := 21) (tgt := 23) hc dX8_as_18 rfl (by decide) (fun z_6 => ?_) (fun z_6 => ?_)
    · have h := Eq.mp (if_neg z_6) h
      refine ap_aload_n (q := 24) hc dX8_as_23 rfl rfl 0 rfl ?_
      refine ap_getR (q := 27) (r := q + 1) lg_RX8_12 (by decide) hq rfl hc dX8_as_24 rfl ?_
      refine ap_getR (q := 30) (r := q + 13) lg_RX8_94 (by decide) (ty_8_1 hq) rfl hc dX8_as_27 rfl ?_
      refine ap_getR (q := 33) (r := q + 14) lg_RX8_107 (by decide) (ty_8_13 hq) rfl hc dX8_as_30 rfl ?_
      refine ap_iload_n (q := 34) hc dX8_as_33 rfl rfl 1 rfl ?_
      obtain ⟨g_7, h⟩ := h
      refine ap_iald (q := 35) (ty_8_14 hq) (tn_8_14 hq) g_7 hc dX8_as_34 rfl ?_
      obtain ⟨x3_8, ex3_8, h⟩ := ap_nm h
      refine ap_istore_n (q := 36) (lo2 := [(3, .int x3_8), (0, .ref (ap_ad g q)), (1, .int x1), (2, .int x2)]) hc dX8_as_35 rfl rfl ex3_8 (by decide) rfl ?_
      refine ap_iload_n (q := 37) hc dX8_as_36 rfl rfl 0 rfl ?_
      refine ap_iload_n (q := 38) hc dX8_as_37 rfl rfl 3 rfl ?_
      refine ap_icmp_eq (q := 41) (tgt := 63) hc dX8_as_38 rfl (by decide) (fun z_9 => ?_) (fun z_9 => ?_)
      · have h := Eq.mp (if_pos z_9) h
        exact ap_sub [1, 2] rfl (bl_X8_as_63 hc hz  hq   h)
      · have h := Eq.mp (if_neg z_9) h
        refine ap_gets0 (q := 44) fl_RX8_253 hc dX8_as_41 rfl ?_
        refine ap_iload_n (q := 45) hc dX8_as_44 rfl rfl 0 rfl ?_
        obtain ⟨g_10, h⟩ := h
        refine ap_kald (q := 46) (by decide) rfl g_10 hc dX8_as_45 rfl ?_
        refine ap_iload_n (q := 47) hc dX8_as_46 rfl rfl 3 rfl ?_
        refine ap_icmp_eq (q := 50) (tgt := 63) hc dX8_as_47 rfl (by decide) (fun z_11 => ?_) (fun z_11 => ?_)
        · have h := Eq.mp (if_pos z_11) h
          exact ap_sub [1, 2] rfl (bl_X8_as_63 hc hz  hq   h)
        · have h := Eq.mp (if_neg z_11) h
          refine ap_gets0 (q := 53) fl_RX8_253 hc dX8_as_50 rfl ?_
          refine ap_gets0 (q := 56) fl_RX8_253 hc dX8_as_53 rfl ?_
          refine ap_iload_n (q := 57) hc dX8_as_56 rfl rfl 0 rfl ?_
          obtain ⟨g_12, h⟩ := h
          refine ap_kald (q := 58) (by decide) rfl g_12 hc dX8_as_57 rfl ?_
          obtain ⟨g_13, h⟩ := h
          refine ap_kald (q := 59) (by decide) rfl g_13 hc dX8_as_58 rfl ?_
          refine ap_iload_n (q := 60) hc dX8_as_59 rfl rfl 3 rfl ?_
          refine ap_icmp_ne (q := 63) (tgt := 67) hc dX8_as_60 rfl (by decide) (fun z_14 => ?_) (fun z_14 => ?_)
          · have h := Eq.mp (if_neg z_14) h
            refine ap_iconst (q := 68) hc dX8_as_67 rfl ic_0 ?_
            exact ap_sub [1, 2] rfl (bl_X8_as_68 hc hz  hq   h)
          · have h := Eq.mp (if_pos z_14) h
            exact ap_sub [1, 2] rfl (bl_X8_as_63 hc hz  hq   h)
    · have h := Eq.mp (if_pos z_6) h
      refine ap_iconst (q := 22) hc dX8_as_21 rfl ic_m1 ?_
      exact ap_iret hc hz rfl dX8_as_22 h
theorem ok_X8_as {l : Launch} {g : ap_G} (hg : ap_GOK g) {q : Nat} (hq : ap_kd q = 8) {x1 : Int32} {x2 : Int32} {M : ap_Mem} {K : Int32 → ap_Mem → Prop} (h : w_X8_as q x1 x2 M K) : ap_Ct l g yX8_as cX8_as 5 (some .int) 1 [.ref (ap_ad g q), .int x1, .int x2] M (ap_Qi K) := by
  refine ap_Ct_of hg (by decide +kernel) (Nat.le_of_ble_eq_true rfl) (fun x hx hc hz => ?_)
  subst hx
  exact bl_X8_as_0 hc hz hq h
def w_X8_image   (q : Nat)  (M : ap_Mem) (K : Int32 → ap_Mem → Prop) : Prop :=
w_X6_copyFrom (q + 32) (q + 1) M (fun M_1 => ∀ M_2 : ap_Mem, M_2 = ap_mu M_1 q 2 1 → K (M_2 (q + 13) 5) M_2)
theorem bl_X8_image_0 {x : ap_X} {g : ap_G} (hc : ap_Cx x g cX8_image RX8 1) {K : Int32 → ap_Mem → Prop} (hz : ap_Ends x g 3 (some .int) (ap_Qi K))   {q : Nat} (hq : ap_kd q = 8)    {M : ap_Mem}  (h : w_X8_image   q  M K) : ap_V x g 1 0 [(0, .ref (ap_ad g q))] [] M := by
  have hg := hc.2.2.2.2.2.2.2.1
  unfold w_X8_image at h
  refine ap_aload_n (q := 1) hc dX8_image_0 rfl rfl 0 rfl ?_
  refine ap_getR (q := 4) (r := q + 32) lg_RX8_18 (by decide) hq rfl hc dX8_image_1 rfl ?_
  refine ap_aload_n (q := 5) hc dX8_image_4 rfl rfl 0 rfl ?_
  refine ap_getR (q := 8) (r := q + 1) lg_RX8_12 (by decide) hq rfl hc dX8_image_5 rfl ?_
  refine ap_callV (q := 11) (As := [.ref (ap_ad g (q + 1))]) hc (ok_X6_copyFrom hg (ty_8_32 hq) (ty_8_1 hq) h) ml_RX8_256 lk_X6_copyFrom lv_X6_copyFrom (ty_8_32 hq) rfl (ap_RmE hz (by decide)) rfl rfl (Nat.le_of_ble_eq_true rfl) dX8_image_8 rfl (ap_kv (fun M_1 h => ?_))
  refine ap_aload_n (q := 12) hc dX8_image_11 rfl rfl 0 rfl ?_
  refine ap_iconst (q := 13) hc dX8_image_12 rfl ic_1 ?_
  obtain ⟨M_2, eM_2, h⟩ := ap_nm h
  refine ap_putZ (q := 16) lp_RX8_21 hq ap_B1 eM_2 hc dX8_image_13 rfl ?_
  refine ap_aload_n (q := 17) hc dX8_image_16 rfl rfl 0 rfl ?_
  refine ap_getR (q := 20) (r := q + 1) lg_RX8_12 (by decide) hq rfl hc dX8_image_17 rfl ?_
  refine ap_getR (q := 23) (r := q + 13) lg_RX8_94 (by decide) (ty_8_1 hq) rfl hc dX8_image_20 rfl ?_
  refine ap_getI (q := 26) lg_RX8_187 (ty_8_13 hq) hc dX8_image_23 rfl ?_
  exact ap_iret hc hz rfl dX8_image_26 h
theorem ok_X8_image {l : Launch} {g : ap_G} (hg : ap_GOK g) {q : Nat} (hq : ap_kd q = 8)  {M : ap_Mem} {K : Int32 → ap_Mem → Prop} (h : w_X8_image q  M K) : ap_Ct l g yX8_image cX8_image 1 (some .int) 3 [.ref (ap_ad g q)] M (ap_Qi K) := by
  refine ap_Ct_of hg (by decide +kernel) (Nat.le_of_ble_eq_true rfl) (fun x hx hc hz => ?_)
  subst hx
  exact bl_X8_image_0 hc hz hq h
def w_X8_undo   (q : Nat)  (M : ap_Mem) (K : Int32 → ap_Mem → Prop) : Prop :=
(if (M q 2) = 0 then (K (-3) M) else (w_X6_copyFrom (q + 1) (q + 32) M (fun M_2 => K (M_2 (q + 13) 5) M_2)))
theorem bl_X8_undo_0 {x : ap_X} {g : ap_G} (hc : ap_Cx x g cX8_undo RX8 1) {K : Int32 → ap_Mem → Prop} (hz : ap_Ends x g 3 (some .int) (ap_Qi K))   {q : Nat} (hq : ap_kd q = 8)    {M : ap_Mem}  (h : w_X8_undo   q  M K) : ap_V x g 1 0 [(0, .ref (ap_ad g q))] [] M := by
  have hg := hc.2.2.2.2.2.2.2.1
  unfold w_X8_undo at h
  refine ap_aload_n (q := 1) hc dX8_undo_0 rfl rfl 0 rfl ?_
  refine ap_getI (q := 4) lg_RX8_21 hq hc dX8_undo_1 rfl ?_
  refine ap_if_ne (q := 7) (tgt := 10) hc dX8_undo_4 rfl (by decide) (fun z_1 => ?_) (fun z_1 => ?_)
  · have h := Eq.mp (if_neg z_1) h
    refine ap_aload_n (q := 11) hc dX8_undo_10 rfl rfl 0 rfl ?_
    refine ap_getR (q := 14) (r := q + 1) lg_RX8_12 (by decide) hq rfl hc dX8_undo_11 rfl ?_
    refine ap_aload_n (q := 15) hc dX8_undo_14 rfl rfl 0 rfl ?_
    refine ap_getR (q := 18) (r := q + 32) lg_RX8_18 (by decide) hq rfl hc dX8_undo_15 rfl ?_
    refine ap_callV (q := 21) (As := [.ref (ap_ad g (q + 32))]) hc (ok_X6_copyFrom hg (ty_8_1 hq) (ty_8_32 hq) h) ml_RX8_256 lk_X6_copyFrom lv_X6_copyFrom (ty_8_1 hq) rfl (ap_RmE hz (by decide)) rfl rfl (Nat.le_of_ble_eq_true rfl) dX8_undo_18 rfl (ap_kv (fun M_2 h => ?_))
    refine ap_aload_n (q := 22) hc dX8_undo_21 rfl rfl 0 rfl ?_
    refine ap_getR (q := 25) (r := q + 1) lg_RX8_12 (by decide) hq rfl hc dX8_undo_22 rfl ?_
    refine ap_getR (q := 28) (r := q + 13) lg_RX8_94 (by decide) (ty_8_1 hq) rfl hc dX8_undo_25 rfl ?_
    refine ap_getI (q := 31) lg_RX8_187 (ty_8_13 hq) hc dX8_undo_28 rfl ?_
    exact ap_iret hc hz rfl dX8_undo_31 h
  · have h := Eq.mp (if_pos z_1) h
    refine ap_bipush (q := 9) hc dX8_undo_7 rfl bc_m3 ?_
    exact ap_iret hc hz rfl dX8_undo_9 h
theorem ok_X8_undo {l : Launch} {g : ap_G} (hg : ap_GOK g) {q : Nat} (hq : ap_kd q = 8)  {M : ap_Mem} {K : Int32 → ap_Mem → Prop} (h : w_X8_undo q  M K) : ap_Ct l g yX8_undo cX8_undo 1 (some .int) 3 [.ref (ap_ad g q)] M (ap_Qi K) := by
  refine ap_Ct_of hg (by decide +kernel) (Nat.le_of_ble_eq_true rfl) (fun x hx hc hz => ?_)
  subst hx
  exact bl_X8_undo_0 hc hz hq h
def w_X8_count   (q : Nat) (x1 : Int32) (M : ap_Mem) (K : Int32 → ap_Mem → Prop) : Prop :=
(if x1 = 0 then (K (M (q + 13) 5) M) else (if x1 = 1 then (K (M (q + 1) 2) M) else (if x1 = 2 then (K (M (q + 20) 2) M) else (if x1 = 3 then (K (M (q + 23) 2) M) else (if x1 = 4 then (K (M (q + 26) 2) M) else (if x1 = 5 then (K (M (q + 29) 2) M) else (if x1 = 6 then (K (M (q + 2) 2) M) else (if x1 = 7 then (K (M (q + 96) 1) M) else (K (-1) M)))))))))
theorem bl_X8_count_0 {x : ap_X} {g : ap_G} (hc : ap_Cx x g cX8_count RX8 2) {K : Int32 → ap_Mem → Prop} (hz : ap_Ends x g 0 (some .int) (ap_Qi K))   {q : Nat} (hq : ap_kd q = 8)   {x1 : Int32} {M : ap_Mem}  (h : w_X8_count   q x1 M K) : ap_V x g 2 0 [(0, .ref (ap_ad g q)), (1, .int x1)] [] M := by
  unfold w_X8_count at h
  refine ap_iload_n (q := 1) hc dX8_count_0 rfl rfl 1 rfl ?_
  by_cases z_1 : x1 = 0
  · have h := Eq.mp (if_pos z_1) h
    refine ap_tabIn (tgt := 48) (off := 47) (v := 0) hc dX8_count_1 z_1 (by decide) (by decide) (by decide +kernel) (by decide) ?_
    refine ap_aload_n (q := 49) hc dX8_count_48 rfl rfl 0 rfl ?_
    refine ap_getR (q := 52) (r := q + 1) lg_RX8_12 (by decide) hq rfl hc dX8_count_49 rfl ?_
    refine ap_getR (q := 55) (r := q + 13) lg_RX8_94 (by decide) (ty_8_1 hq) rfl hc dX8_count_52 rfl ?_
    refine ap_getI (q := 58) lg_RX8_187 (ty_8_13 hq) hc dX8_count_55 rfl ?_
    exact ap_iret hc hz rfl dX8_count_58 h
  · have h := Eq.mp (if_neg z_1) h
    by_cases z_2 : x1 = 1
    · have h := Eq.mp (if_pos z_2) h
      refine ap_tabIn (tgt := 59) (off := 58) (v := 1) hc dX8_count_1 z_2 (by decide) (by decide) (by decide +kernel) (by decide) ?_
      refine ap_aload_n (q := 60) hc dX8_count_59 rfl rfl 0 rfl ?_
      refine ap_getR (q := 63) (r := q + 1) lg_RX8_12 (by decide) hq rfl hc dX8_count_60 rfl ?_
      refine ap_getI (q := 66) lg_RX8_56 (ty_8_1 hq) hc dX8_count_63 rfl ?_
      exact ap_iret hc hz rfl dX8_count_66 h
    · have h := Eq.mp (if_neg z_2) h
      by_cases z_3 : x1 = 2
      · have h := Eq.mp (if_pos z_3) h
        refine ap_tabIn (tgt := 67) (off := 66) (v := 2) hc dX8_count_1 z_3 (by decide) (by decide) (by decide +kernel) (by decide) ?_
        refine ap_aload_n (q := 68) hc dX8_count_67 rfl rfl 0 rfl ?_
        refine ap_getR (q := 71) (r := q + 1) lg_RX8_12 (by decide) hq rfl hc dX8_count_68 rfl ?_
        refine ap_getR (q := 74) (r := q + 20) lg_RX8_203 (by decide) (ty_8_1 hq) rfl hc dX8_count_71 rfl ?_
        refine ap_getI (q := 77) lg_RX8_206 (ty_8_20 hq) hc dX8_count_74 rfl ?_
        exact ap_iret hc hz rfl dX8_count_77 h
      · have h := Eq.mp (if_neg z_3) h
        by_cases z_4 : x1 = 3
        · have h := Eq.mp (if_pos z_4) h
          refine ap_tabIn (tgt := 78) (off := 77) (v := 3) hc dX8_count_1 z_4 (by decide) (by decide) (by decide +kernel) (by decide) ?_
          refine ap_aload_n (q := 79) hc dX8_count_78 rfl rfl 0 rfl ?_
          refine ap_getR (q := 82) (r := q + 1) lg_RX8_12 (by decide) hq rfl hc dX8_count_79 rfl ?_
          refine ap_getR (q := 85) (r := q + 23) lg_RX8_210 (by decide) (ty_8_1 hq) rfl hc dX8_count_82 rfl ?_
          refine ap_getI (q := 88) lg_RX8_206 (ty_8_23 hq) hc dX8_count_85 rfl ?_
          exact ap_iret hc hz rfl dX8_count_88 h
        · have h := Eq.mp (if_neg z_4) h
          by_cases z_5 : x1 = 4
          · have h := Eq.mp (if_pos z_5) h
            refine ap_tabIn (tgt := 89) (off := 88) (v := 4) hc dX8_count_1 z_5 (by decide) (by decide) (by decide +kernel) (by decide) ?_
            refine ap_aload_n (q := 90) hc dX8_count_89 rfl rfl 0 rfl ?_
            refine ap_getR (q := 93) (r := q + 1) lg_RX8_12 (by decide) hq rfl hc dX8_count_90 rfl ?_
            refine ap_getR (q := 96) (r := q + 26) lg_RX8_228 (by decide) (ty_8_1 hq) rfl hc dX8_count_93 rfl ?_
            refine ap_getI (q := 99) lg_RX8_206 (ty_8_26 hq) hc dX8_count_96 rfl ?_
            exact ap_iret hc hz rfl dX8_count_99 h
          · have h := Eq.mp (if_neg z_5) h
            by_cases z_6 : x1 = 5
            · have h := Eq.mp (if_pos z_6) h
              refine ap_tabIn (tgt := 100) (off := 99) (v := 5) hc dX8_count_1 z_6 (by decide) (by decide) (by decide +kernel) (by decide) ?_
              refine ap_aload_n (q := 101) hc dX8_count_100 rfl rfl 0 rfl ?_
              refine ap_getR (q := 104) (r := q + 1) lg_RX8_12 (by decide) hq rfl hc dX8_count_101 rfl ?_
              refine ap_getR (q := 107) (r := q + 29) lg_RX8_237 (by decide) (ty_8_1 hq) rfl hc dX8_count_104 rfl ?_
              refine ap_getI (q := 110) lg_RX8_206 (ty_8_29 hq) hc dX8_count_107 rfl ?_
              exact ap_iret hc hz rfl dX8_count_110 h
            · have h := Eq.mp (if_neg z_6) h
              by_cases z_7 : x1 = 6
              · have h := Eq.mp (if_pos z_7) h
                refine ap_tabIn (tgt := 111) (off := 110) (v := 6) hc dX8_count_1 z_7 (by decide) (by decide) (by decide +kernel) (by decide) ?_
                refine ap_aload_n (q := 112) hc dX8_count_111 rfl rfl 0 rfl ?_
                refine ap_getR (q := 115) (r := q + 1) lg_RX8_12 (by decide) hq rfl hc dX8_count_112 rfl ?_
                refine ap_getR (q := 118) (r := q + 2) lg_RX8_46 (by decide) (ty_8_1 hq) rfl hc dX8_count_115 rfl ?_
                refine ap_getI (q := 121) lg_RX8_206 (ty_8_2 hq) hc dX8_count_118 rfl ?_
                exact ap_iret hc hz rfl dX8_count_121 h
              · have h := Eq.mp (if_neg z_7) h
                by_cases z_8 : x1 = 7
                · have h := Eq.mp (if_pos z_8) h
                  refine ap_tabIn (tgt := 122) (off := 121) (v := 7) hc dX8_count_1 z_8 (by decide) (by decide) (by decide +kernel) (by decide) ?_
                  refine ap_aload_n (q := 123) hc dX8_count_122 rfl rfl 0 rfl ?_
                  refine ap_getR (q := 126) (r := q + 96) lg_RX8_42 (by decide) hq rfl hc dX8_count_123 rfl ?_
                  refine ap_getI (q := 129) lg_RX8_240 (ty_8_96 hq) hc dX8_count_126 rfl ?_
                  exact ap_iret hc hz rfl dX8_count_129 h
                · have h := Eq.mp (if_neg z_8) h
                  refine ap_tabOut (tgt := 130) hc dX8_count_1 (ap_tabNo 8 (by decide) (by decide) (by decide) (fun j hj hjj => ?_)) (by decide) ?_
                  · rcases (by omega : j = 0 ∨ j = 1 ∨ j = 2 ∨ j = 3 ∨ j = 4 ∨ j = 5 ∨ j = 6 ∨ j = 7) with rfl | rfl | rfl | rfl | rfl | rfl | rfl | rfl
                    · exact z_1
                    · exact z_2
                    · exact z_3
                    · exact z_4
                    · exact z_5
                    · exact z_6
                    · exact z_7
                    · exact z_8
                  refine ap_iconst (q := 131) hc dX8_count_130 rfl ic_m1 ?_
                  exact ap_iret hc hz rfl dX8_count_131 h
theorem ok_X8_count {l : Launch} {g : ap_G} (hg : ap_GOK g) {q : Nat} (hq : ap_kd q = 8) {x1 : Int32} {M : ap_Mem} {K : Int32 → ap_Mem → Prop} (h : w_X8_count q x1 M K) : ap_Ct l g yX8_count cX8_count 2 (some .int) 0 [.ref (ap_ad g q), .int x1] M (ap_Qi K) := by
  refine ap_Ct_of hg (by decide +kernel) (Nat.le_of_ble_eq_true rfl) (fun x hx hc hz => ?_)
  subst hx
  exact bl_X8_count_0 hc hz hq h
