theorem dX2_again_0 : decode cX2_again 0 = .ok (.aload_n 0, 1) := by decide +kernel
theorem dX2_again_1 : decode cX2_again 1 = .ok (.getfield 21, 3) := by decide +kernel
theorem dX2_again_4 : decode cX2_again 4 = .ok (.aload_n 0, 1) := by decide +kernel
theorem dX2_again_5 : decode cX2_again 5 = .ok (.getfield 25, 3) := by decide +kernel
theorem dX2_again_8 : decode cX2_again 8 = .ok (.invokevirtual 54, 3) := by decide +kernel
theorem dX2_again_11 : decode cX2_again 11 = .ok (.return_, 1) := by decide +kernel
theorem dX2_begin_0 : decode cX2_begin 0 = .ok (.aload_n 0, 1) := by decide +kernel
theorem dX2_begin_1 : decode cX2_begin 1 = .ok (.getfield 12, 3) := by decide +kernel
theorem dX2_begin_4 : decode cX2_begin 4 = .ok (.aload_n 1, 1) := by decide +kernel
theorem dX2_begin_5 : decode cX2_begin 5 = .ok (.getfield 42, 3) := by decide +kernel
theorem dX2_begin_8 : decode cX2_begin 8 = .ok (.invokevirtual 45, 3) := by decide +kernel
theorem dX2_begin_11 : decode cX2_begin 11 = .ok (.aload_n 0, 1) := by decide +kernel
theorem dX2_begin_12 : decode cX2_begin 12 = .ok (.getfield 31, 3) := by decide +kernel
theorem dX2_begin_15 : decode cX2_begin 15 = .ok (.aload_n 1, 1) := by decide +kernel
theorem dX2_begin_16 : decode cX2_begin 16 = .ok (.getfield 49, 3) := by decide +kernel
theorem dX2_begin_19 : decode cX2_begin 19 = .ok (.invokevirtual 50, 3) := by decide +kernel
theorem dX2_begin_22 : decode cX2_begin 22 = .ok (.aload_n 0, 1) := by decide +kernel
theorem dX2_begin_23 : decode cX2_begin 23 = .ok (.getfield 25, 3) := by decide +kernel
theorem dX2_begin_26 : decode cX2_begin 26 = .ok (.aload_n 1, 1) := by decide +kernel
theorem dX2_begin_27 : decode cX2_begin 27 = .ok (.getfield 53, 3) := by decide +kernel
theorem dX2_begin_30 : decode cX2_begin 30 = .ok (.invokevirtual 54, 3) := by decide +kernel
theorem dX2_begin_33 : decode cX2_begin 33 = .ok (.iconst 0, 1) := by decide +kernel
theorem dX2_begin_34 : decode cX2_begin 34 = .ok (.istore_n 2, 1) := by decide +kernel
theorem dX2_begin_35 : decode cX2_begin 35 = .ok (.iload_n 2, 1) := by decide +kernel
theorem dX2_begin_36 : decode cX2_begin 36 = .ok (.bipush 6, 2) := by decide +kernel
theorem dX2_begin_38 : decode cX2_begin 38 = .ok (.if_icmp .ge 16, 3) := by decide +kernel
theorem dX2_begin_41 : decode cX2_begin 41 = .ok (.aload_n 0, 1) := by decide +kernel
theorem dX2_begin_42 : decode cX2_begin 42 = .ok (.getfield 39, 3) := by decide +kernel
theorem dX2_begin_45 : decode cX2_begin 45 = .ok (.iload_n 2, 1) := by decide +kernel
theorem dX2_begin_46 : decode cX2_begin 46 = .ok (.iconst 0, 1) := by decide +kernel
theorem dX2_begin_47 : decode cX2_begin 47 = .ok (.iastore, 1) := by decide +kernel
theorem dX2_begin_48 : decode cX2_begin 48 = .ok (.iinc 2 1, 3) := by decide +kernel
theorem dX2_begin_51 : decode cX2_begin 51 = .ok (.goto (-16), 3) := by decide +kernel
theorem dX2_begin_54 : decode cX2_begin 54 = .ok (.aload_n 0, 1) := by decide +kernel
theorem dX2_begin_55 : decode cX2_begin 55 = .ok (.invokevirtual 57, 3) := by decide +kernel
theorem dX2_begin_58 : decode cX2_begin 58 = .ok (.return_, 1) := by decide +kernel
theorem dX2_comesTo_0 : decode cX2_comesTo 0 = .ok (.iconst 0, 1) := by decide +kernel
theorem dX2_comesTo_1 : decode cX2_comesTo 1 = .ok (.istore_n 3, 1) := by decide +kernel
theorem dX2_comesTo_2 : decode cX2_comesTo 2 = .ok (.iload_n 3, 1) := by decide +kernel
theorem dX2_comesTo_3 : decode cX2_comesTo 3 = .ok (.iload_n 2, 1) := by decide +kernel
theorem dX2_comesTo_4 : decode cX2_comesTo 4 = .ok (.if_icmp .gt 28, 3) := by decide +kernel
theorem dX2_comesTo_7 : decode cX2_comesTo 7 = .ok (.aload_n 0, 1) := by decide +kernel
theorem dX2_comesTo_8 : decode cX2_comesTo 8 = .ok (.getfield 21, 3) := by decide +kernel
theorem dX2_comesTo_11 : decode cX2_comesTo 11 = .ok (.getfield 71, 3) := by decide +kernel
theorem dX2_comesTo_14 : decode cX2_comesTo 14 = .ok (.iload_n 1, 1) := by decide +kernel
theorem dX2_comesTo_15 : decode cX2_comesTo 15 = .ok (.if_icmp .ne 5, 3) := by decide +kernel
theorem dX2_comesTo_18 : decode cX2_comesTo 18 = .ok (.iload_n 3, 1) := by decide +kernel
theorem dX2_comesTo_19 : decode cX2_comesTo 19 = .ok (.ireturn, 1) := by decide +kernel
theorem dX2_comesTo_20 : decode cX2_comesTo 20 = .ok (.aload_n 0, 1) := by decide +kernel
theorem dX2_comesTo_21 : decode cX2_comesTo 21 = .ok (.ldc 66, 2) := by decide +kernel
theorem dX2_comesTo_23 : decode cX2_comesTo 23 = .ok (.invokevirtual 67, 3) := by decide +kernel
theorem dX2_comesTo_26 : decode cX2_comesTo 26 = .ok (.iinc 3 1, 3) := by decide +kernel
theorem dX2_comesTo_29 : decode cX2_comesTo 29 = .ok (.goto (-27), 3) := by decide +kernel
theorem dX2_comesTo_32 : decode cX2_comesTo 32 = .ok (.bipush (-5), 2) := by decide +kernel
theorem dX2_comesTo_34 : decode cX2_comesTo 34 = .ok (.ireturn, 1) := by decide +kernel
theorem dX2_draw_0 : decode cX2_draw 0 = .ok (.aload_n 0, 1) := by decide +kernel
theorem dX2_draw_1 : decode cX2_draw 1 = .ok (.getfield 31, 3) := by decide +kernel
theorem dX2_draw_4 : decode cX2_draw 4 = .ok (.getfield 129, 3) := by decide +kernel
theorem dX2_draw_7 : decode cX2_draw 7 = .ok (.ineg, 1) := by decide +kernel
theorem dX2_draw_8 : decode cX2_draw 8 = .ok (.aload_n 0, 1) := by decide +kernel
theorem dX2_draw_9 : decode cX2_draw 9 = .ok (.getfield 21, 3) := by decide +kernel
theorem dX2_draw_12 : decode cX2_draw 12 = .ok (.getfield 112, 3) := by decide +kernel
theorem dX2_draw_15 : decode cX2_draw 15 = .ok (.iload_n 1, 1) := by decide +kernel
theorem dX2_draw_16 : decode cX2_draw 16 = .ok (.iaload, 1) := by decide +kernel
theorem dX2_draw_17 : decode cX2_draw 17 = .ok (.imul, 1) := by decide +kernel
theorem dX2_draw_18 : decode cX2_draw 18 = .ok (.istore_n 2, 1) := by decide +kernel
theorem dX2_draw_19 : decode cX2_draw 19 = .ok (.iconst 0, 1) := by decide +kernel
theorem dX2_draw_20 : decode cX2_draw 20 = .ok (.istore_n 3, 1) := by decide +kernel
theorem dX2_draw_21 : decode cX2_draw 21 = .ok (.iload_n 3, 1) := by decide +kernel
theorem dX2_draw_22 : decode cX2_draw 22 = .ok (.aload_n 0, 1) := by decide +kernel
theorem dX2_draw_23 : decode cX2_draw 23 = .ok (.getfield 12, 3) := by decide +kernel
theorem dX2_draw_26 : decode cX2_draw 26 = .ok (.getfield 132, 3) := by decide +kernel
theorem dX2_draw_29 : decode cX2_draw 29 = .ok (.if_icmp .ge 18, 3) := by decide +kernel
theorem dX2_draw_32 : decode cX2_draw 32 = .ok (.iload_n 2, 1) := by decide +kernel
theorem dX2_draw_33 : decode cX2_draw 33 = .ok (.aload_n 0, 1) := by decide +kernel
theorem dX2_draw_34 : decode cX2_draw 34 = .ok (.iload_n 3, 1) := by decide +kernel
theorem dX2_draw_35 : decode cX2_draw 35 = .ok (.iload_n 1, 1) := by decide +kernel
theorem dX2_draw_36 : decode cX2_draw 36 = .ok (.invokevirtual 133, 3) := by decide +kernel
theorem dX2_draw_39 : decode cX2_draw 39 = .ok (.iadd, 1) := by decide +kernel
theorem dX2_draw_40 : decode cX2_draw 40 = .ok (.istore_n 2, 1) := by decide +kernel
theorem dX2_draw_41 : decode cX2_draw 41 = .ok (.iinc 3 1, 3) := by decide +kernel
theorem dX2_draw_44 : decode cX2_draw 44 = .ok (.goto (-23), 3) := by decide +kernel
theorem dX2_draw_47 : decode cX2_draw 47 = .ok (.iload_n 2, 1) := by decide +kernel
theorem dX2_draw_48 : decode cX2_draw 48 = .ok (.ireturn, 1) := by decide +kernel
theorem dX2_follow_0 : decode cX2_follow 0 = .ok (.iload_n 1, 1) := by decide +kernel
theorem dX2_follow_1 : decode cX2_follow 1 = .ok (.ifCond .ne 12, 3) := by decide +kernel
theorem dX2_follow_4 : decode cX2_follow 4 = .ok (.aload_n 0, 1) := by decide +kernel
theorem dX2_follow_5 : decode cX2_follow 5 = .ok (.ldc 66, 2) := by decide +kernel
theorem dX2_follow_7 : decode cX2_follow 7 = .ok (.invokevirtual 67, 3) := by decide +kernel
theorem dX2_follow_10 : decode cX2_follow 10 = .ok (.goto 37, 3) := by decide +kernel
theorem dX2_follow_13 : decode cX2_follow 13 = .ok (.iload_n 1, 1) := by decide +kernel
theorem dX2_follow_14 : decode cX2_follow 14 = .ok (.iconst 3, 1) := by decide +kernel
theorem dX2_follow_15 : decode cX2_follow 15 = .ok (.if_icmp .ne 14, 3) := by decide +kernel
theorem dX2_follow_18 : decode cX2_follow 18 = .ok (.aload_n 0, 1) := by decide +kernel
theorem dX2_follow_19 : decode cX2_follow 19 = .ok (.getfield 21, 3) := by decide +kernel
theorem dX2_follow_22 : decode cX2_follow 22 = .ok (.iload_n 2, 1) := by decide +kernel
theorem dX2_follow_23 : decode cX2_follow 23 = .ok (.putfield 71, 3) := by decide +kernel
theorem dX2_follow_26 : decode cX2_follow 26 = .ok (.goto 21, 3) := by decide +kernel
theorem dX2_follow_29 : decode cX2_follow 29 = .ok (.aload_n 0, 1) := by decide +kernel
theorem dX2_follow_30 : decode cX2_follow 30 = .ok (.getfield 12, 3) := by decide +kernel
theorem dX2_follow_33 : decode cX2_follow 33 = .ok (.iload_n 2, 1) := by decide +kernel
theorem dX2_follow_34 : decode cX2_follow 34 = .ok (.iload_n 1, 1) := by decide +kernel
theorem dX2_follow_35 : decode cX2_follow 35 = .ok (.iconst 1, 1) := by decide +kernel
theorem dX2_follow_36 : decode cX2_follow 36 = .ok (.if_icmp .ne 7, 3) := by decide +kernel
theorem dX2_follow_39 : decode cX2_follow 39 = .ok (.iconst 1, 1) := by decide +kernel
theorem dX2_follow_40 : decode cX2_follow 40 = .ok (.goto 4, 3) := by decide +kernel
theorem dX2_follow_43 : decode cX2_follow 43 = .ok (.iconst 0, 1) := by decide +kernel
theorem dX2_follow_44 : decode cX2_follow 44 = .ok (.invokevirtual 74, 3) := by decide +kernel
theorem dX2_follow_47 : decode cX2_follow 47 = .ok (.return_, 1) := by decide +kernel
theorem dX2_go_0 : decode cX2_go 0 = .ok (.aload_n 0, 1) := by decide +kernel
theorem dX2_go_1 : decode cX2_go 1 = .ok (.invokevirtual 95, 3) := by decide +kernel
theorem dX2_go_4 : decode cX2_go 4 = .ok (.aload_n 0, 1) := by decide +kernel
theorem dX2_go_5 : decode cX2_go 5 = .ok (.getfield 21, 3) := by decide +kernel
theorem dX2_go_8 : decode cX2_go 8 = .ok (.getfield 71, 3) := by decide +kernel
theorem dX2_go_11 : decode cX2_go 11 = .ok (.istore_n 2, 1) := by decide +kernel
theorem dX2_go_12 : decode cX2_go 12 = .ok (.aload_n 0, 1) := by decide +kernel
theorem dX2_go_13 : decode cX2_go 13 = .ok (.iload_n 2, 1) := by decide +kernel
theorem dX2_go_14 : decode cX2_go 14 = .ok (.invokevirtual 98, 3) := by decide +kernel
theorem dX2_go_17 : decode cX2_go 17 = .ok (.istore_n 3, 1) := by decide +kernel
theorem dX2_go_18 : decode cX2_go 18 = .ok (.iconst 0, 1) := by decide +kernel
theorem dX2_go_19 : decode cX2_go 19 = .ok (.istore 4, 2) := by decide +kernel
theorem dX2_go_21 : decode cX2_go 21 = .ok (.iload 4, 2) := by decide +kernel
theorem dX2_go_23 : decode cX2_go 23 = .ok (.getstatic 102, 3) := by decide +kernel
theorem dX2_go_26 : decode cX2_go 26 = .ok (.arraylength, 1) := by decide +kernel
theorem dX2_go_27 : decode cX2_go 27 = .ok (.if_icmp .ge 84, 3) := by decide +kernel
theorem dX2_go_30 : decode cX2_go 30 = .ok (.aload_n 0, 1) := by decide +kernel
theorem dX2_go_31 : decode cX2_go 31 = .ok (.getfield 21, 3) := by decide +kernel
theorem dX2_go_34 : decode cX2_go 34 = .ok (.getfield 71, 3) := by decide +kernel
theorem dX2_go_37 : decode cX2_go 37 = .ok (.getstatic 102, 3) := by decide +kernel
theorem dX2_go_40 : decode cX2_go 40 = .ok (.iload 4, 2) := by decide +kernel
theorem dX2_go_42 : decode cX2_go 42 = .ok (.iaload, 1) := by decide +kernel
theorem dX2_go_43 : decode cX2_go 43 = .ok (.iadd, 1) := by decide +kernel
theorem dX2_go_44 : decode cX2_go 44 = .ok (.istore 5, 2) := by decide +kernel
theorem dX2_go_46 : decode cX2_go 46 = .ok (.iload 5, 2) := by decide +kernel
theorem dX2_go_48 : decode cX2_go 48 = .ok (.invokestatic 105, 3) := by decide +kernel
theorem dX2_go_51 : decode cX2_go 51 = .ok (.ifCond .eq 54, 3) := by decide +kernel
theorem dX2_go_54 : decode cX2_go 54 = .ok (.aload_n 0, 1) := by decide +kernel
theorem dX2_go_55 : decode cX2_go 55 = .ok (.getfield 21, 3) := by decide +kernel
theorem dX2_go_58 : decode cX2_go 58 = .ok (.getfield 71, 3) := by decide +kernel
theorem dX2_go_61 : decode cX2_go 61 = .ok (.iload 5, 2) := by decide +kernel
theorem dX2_go_63 : decode cX2_go 63 = .ok (.invokestatic 109, 3) := by decide +kernel
theorem dX2_go_66 : decode cX2_go 66 = .ok (.iconst 1, 1) := by decide +kernel
theorem dX2_go_67 : decode cX2_go 67 = .ok (.if_icmp .eq 6, 3) := by decide +kernel
theorem dX2_go_70 : decode cX2_go 70 = .ok (.goto 35, 3) := by decide +kernel
theorem dX2_go_73 : decode cX2_go 73 = .ok (.aload_n 0, 1) := by decide +kernel
theorem dX2_go_74 : decode cX2_go 74 = .ok (.iload 5, 2) := by decide +kernel
theorem dX2_go_76 : decode cX2_go 76 = .ok (.invokevirtual 98, 3) := by decide +kernel
theorem dX2_go_79 : decode cX2_go 79 = .ok (.istore 6, 2) := by decide +kernel
theorem dX2_go_81 : decode cX2_go 81 = .ok (.iload 6, 2) := by decide +kernel
theorem dX2_go_83 : decode cX2_go 83 = .ok (.iload_n 3, 1) := by decide +kernel
theorem dX2_go_84 : decode cX2_go 84 = .ok (.if_icmp .gt 15, 3) := by decide +kernel
theorem dX2_go_87 : decode cX2_go 87 = .ok (.iload 6, 2) := by decide +kernel
theorem dX2_go_89 : decode cX2_go 89 = .ok (.iload_n 3, 1) := by decide +kernel
theorem dX2_go_90 : decode cX2_go 90 = .ok (.if_icmp .ne 15, 3) := by decide +kernel
theorem dX2_go_93 : decode cX2_go 93 = .ok (.iload 5, 2) := by decide +kernel
theorem dX2_go_95 : decode cX2_go 95 = .ok (.iload_n 2, 1) := by decide +kernel
theorem dX2_go_96 : decode cX2_go 96 = .ok (.if_icmp .ge 9, 3) := by decide +kernel
theorem dX2_go_99 : decode cX2_go 99 = .ok (.iload 6, 2) := by decide +kernel
theorem dX2_go_101 : decode cX2_go 101 = .ok (.istore_n 3, 1) := by decide +kernel
theorem dX2_go_102 : decode cX2_go 102 = .ok (.iload 5, 2) := by decide +kernel
theorem dX2_go_104 : decode cX2_go 104 = .ok (.istore_n 2, 1) := by decide +kernel
theorem dX2_go_105 : decode cX2_go 105 = .ok (.iinc 4 1, 3) := by decide +kernel
theorem dX2_go_108 : decode cX2_go 108 = .ok (.goto (-87), 3) := by decide +kernel
theorem dX2_go_111 : decode cX2_go 111 = .ok (.aload_n 0, 1) := by decide +kernel
theorem dX2_go_112 : decode cX2_go 112 = .ok (.getfield 21, 3) := by decide +kernel
theorem dX2_go_115 : decode cX2_go 115 = .ok (.iload_n 2, 1) := by decide +kernel
theorem dX2_go_116 : decode cX2_go 116 = .ok (.putfield 71, 3) := by decide +kernel
theorem dX2_go_119 : decode cX2_go 119 = .ok (.aload_n 0, 1) := by decide +kernel
theorem dX2_go_120 : decode cX2_go 120 = .ok (.getfield 21, 3) := by decide +kernel
theorem dX2_go_123 : decode cX2_go 123 = .ok (.getfield 112, 3) := by decide +kernel
theorem dX2_go_126 : decode cX2_go 126 = .ok (.iload_n 2, 1) := by decide +kernel
theorem dX2_go_127 : decode cX2_go 127 = .ok (.iaload, 1) := by decide +kernel
theorem dX2_go_128 : decode cX2_go 128 = .ok (.iload_n 1, 1) := by decide +kernel
theorem dX2_go_129 : decode cX2_go 129 = .ok (.if_icmp .ge 16, 3) := by decide +kernel
theorem dX2_go_132 : decode cX2_go 132 = .ok (.aload_n 0, 1) := by decide +kernel
theorem dX2_go_133 : decode cX2_go 133 = .ok (.getfield 21, 3) := by decide +kernel
theorem dX2_go_136 : decode cX2_go 136 = .ok (.getfield 112, 3) := by decide +kernel
theorem dX2_go_139 : decode cX2_go 139 = .ok (.iload_n 2, 1) := by decide +kernel
theorem dX2_go_140 : decode cX2_go 140 = .ok (.dup2, 1) := by decide +kernel
theorem dX2_go_141 : decode cX2_go 141 = .ok (.iaload, 1) := by decide +kernel
theorem dX2_go_142 : decode cX2_go 142 = .ok (.iconst 1, 1) := by decide +kernel
theorem dX2_go_143 : decode cX2_go 143 = .ok (.iadd, 1) := by decide +kernel
theorem dX2_go_144 : decode cX2_go 144 = .ok (.iastore, 1) := by decide +kernel
theorem dX2_go_145 : decode cX2_go 145 = .ok (.aload_n 0, 1) := by decide +kernel
theorem dX2_go_146 : decode cX2_go 146 = .ok (.getfield 21, 3) := by decide +kernel
theorem dX2_go_149 : decode cX2_go 149 = .ok (.dup, 1) := by decide +kernel
theorem dX2_go_150 : decode cX2_go 150 = .ok (.getfield 115, 3) := by decide +kernel
theorem dX2_go_153 : decode cX2_go 153 = .ok (.iconst 1, 1) := by decide +kernel
theorem dX2_go_154 : decode cX2_go 154 = .ok (.iadd, 1) := by decide +kernel
theorem dX2_go_155 : decode cX2_go 155 = .ok (.putfield 115, 3) := by decide +kernel
theorem dX2_go_158 : decode cX2_go 158 = .ok (.return_, 1) := by decide +kernel
theorem dX2_goSteps_0 : decode cX2_goSteps 0 = .ok (.iconst 0, 1) := by decide +kernel
theorem dX2_goSteps_1 : decode cX2_goSteps 1 = .ok (.istore_n 2, 1) := by decide +kernel
theorem dX2_goSteps_2 : decode cX2_goSteps 2 = .ok (.iload_n 2, 1) := by decide +kernel
theorem dX2_goSteps_3 : decode cX2_goSteps 3 = .ok (.iload_n 1, 1) := by decide +kernel
theorem dX2_goSteps_4 : decode cX2_goSteps 4 = .ok (.if_icmp .ge 15, 3) := by decide +kernel
theorem dX2_goSteps_7 : decode cX2_goSteps 7 = .ok (.aload_n 0, 1) := by decide +kernel
theorem dX2_goSteps_8 : decode cX2_goSteps 8 = .ok (.ldc 66, 2) := by decide +kernel
theorem dX2_goSteps_10 : decode cX2_goSteps 10 = .ok (.invokevirtual 67, 3) := by decide +kernel
theorem dX2_goSteps_13 : decode cX2_goSteps 13 = .ok (.iinc 2 1, 3) := by decide +kernel
theorem dX2_goSteps_16 : decode cX2_goSteps 16 = .ok (.goto (-14), 3) := by decide +kernel
theorem dX2_goSteps_19 : decode cX2_goSteps 19 = .ok (.return_, 1) := by decide +kernel
theorem dX2_isAsSeen_0 : decode cX2_isAsSeen 0 = .ok (.iconst 0, 1) := by decide +kernel
theorem dX2_isAsSeen_1 : decode cX2_isAsSeen 1 = .ok (.istore_n 2, 1) := by decide +kernel
theorem dX2_isAsSeen_2 : decode cX2_isAsSeen 2 = .ok (.iconst 0, 1) := by decide +kernel
theorem dX2_isAsSeen_3 : decode cX2_isAsSeen 3 = .ok (.istore_n 3, 1) := by decide +kernel
theorem dX2_isAsSeen_4 : decode cX2_isAsSeen 4 = .ok (.iload_n 3, 1) := by decide +kernel
theorem dX2_isAsSeen_5 : decode cX2_isAsSeen 5 = .ok (.aload_n 1, 1) := by decide +kernel
theorem dX2_isAsSeen_6 : decode cX2_isAsSeen 6 = .ok (.getfield 78, 3) := by decide +kernel
theorem dX2_isAsSeen_9 : decode cX2_isAsSeen 9 = .ok (.if_icmp .ge 20, 3) := by decide +kernel
theorem dX2_isAsSeen_12 : decode cX2_isAsSeen 12 = .ok (.iload_n 2, 1) := by decide +kernel
theorem dX2_isAsSeen_13 : decode cX2_isAsSeen 13 = .ok (.aload_n 1, 1) := by decide +kernel
theorem dX2_isAsSeen_14 : decode cX2_isAsSeen 14 = .ok (.getfield 83, 3) := by decide +kernel
theorem dX2_isAsSeen_17 : decode cX2_isAsSeen 17 = .ok (.iload_n 3, 1) := by decide +kernel
theorem dX2_isAsSeen_18 : decode cX2_isAsSeen 18 = .ok (.iaload, 1) := by decide +kernel
theorem dX2_isAsSeen_19 : decode cX2_isAsSeen 19 = .ok (.invokestatic 86, 3) := by decide +kernel
theorem dX2_isAsSeen_22 : decode cX2_isAsSeen 22 = .ok (.istore_n 2, 1) := by decide +kernel
theorem dX2_isAsSeen_23 : decode cX2_isAsSeen 23 = .ok (.iinc 3 1, 3) := by decide +kernel
theorem dX2_isAsSeen_26 : decode cX2_isAsSeen 26 = .ok (.goto (-22), 3) := by decide +kernel
theorem dX2_isAsSeen_29 : decode cX2_isAsSeen 29 = .ok (.aload_n 0, 1) := by decide +kernel
theorem dX2_isAsSeen_30 : decode cX2_isAsSeen 30 = .ok (.invokevirtual 57, 3) := by decide +kernel
theorem dX2_isAsSeen_33 : decode cX2_isAsSeen 33 = .ok (.iconst 0, 1) := by decide +kernel
theorem dX2_isAsSeen_34 : decode cX2_isAsSeen 34 = .ok (.istore_n 3, 1) := by decide +kernel
theorem dX2_isAsSeen_35 : decode cX2_isAsSeen 35 = .ok (.iload_n 3, 1) := by decide +kernel
theorem dX2_isAsSeen_36 : decode cX2_isAsSeen 36 = .ok (.iload_n 2, 1) := by decide +kernel
theorem dX2_isAsSeen_37 : decode cX2_isAsSeen 37 = .ok (.if_icmp .gt 63, 3) := by decide +kernel
theorem dX2_isAsSeen_40 : decode cX2_isAsSeen 40 = .ok (.iconst 0, 1) := by decide +kernel
theorem dX2_isAsSeen_41 : decode cX2_isAsSeen 41 = .ok (.istore 4, 2) := by decide +kernel
theorem dX2_isAsSeen_43 : decode cX2_isAsSeen 43 = .ok (.iload 4, 2) := by decide +kernel
theorem dX2_isAsSeen_45 : decode cX2_isAsSeen 45 = .ok (.aload_n 1, 1) := by decide +kernel
theorem dX2_isAsSeen_46 : decode cX2_isAsSeen 46 = .ok (.getfield 78, 3) := by decide +kernel
theorem dX2_isAsSeen_49 : decode cX2_isAsSeen 49 = .ok (.if_icmp .ge 39, 3) := by decide +kernel
theorem dX2_isAsSeen_52 : decode cX2_isAsSeen 52 = .ok (.aload_n 1, 1) := by decide +kernel
theorem dX2_isAsSeen_53 : decode cX2_isAsSeen 53 = .ok (.getfield 83, 3) := by decide +kernel
theorem dX2_isAsSeen_56 : decode cX2_isAsSeen 56 = .ok (.iload 4, 2) := by decide +kernel
theorem dX2_isAsSeen_58 : decode cX2_isAsSeen 58 = .ok (.iaload, 1) := by decide +kernel
theorem dX2_isAsSeen_59 : decode cX2_isAsSeen 59 = .ok (.iload_n 3, 1) := by decide +kernel
theorem dX2_isAsSeen_60 : decode cX2_isAsSeen 60 = .ok (.if_icmp .ne 22, 3) := by decide +kernel
theorem dX2_isAsSeen_63 : decode cX2_isAsSeen 63 = .ok (.aload_n 1, 1) := by decide +kernel
theorem dX2_isAsSeen_64 : decode cX2_isAsSeen 64 = .ok (.getfield 92, 3) := by decide +kernel
theorem dX2_isAsSeen_67 : decode cX2_isAsSeen 67 = .ok (.iload 4, 2) := by decide +kernel
theorem dX2_isAsSeen_69 : decode cX2_isAsSeen 69 = .ok (.iaload, 1) := by decide +kernel
theorem dX2_isAsSeen_70 : decode cX2_isAsSeen 70 = .ok (.aload_n 0, 1) := by decide +kernel
theorem dX2_isAsSeen_71 : decode cX2_isAsSeen 71 = .ok (.getfield 21, 3) := by decide +kernel
theorem dX2_isAsSeen_74 : decode cX2_isAsSeen 74 = .ok (.getfield 71, 3) := by decide +kernel
theorem dX2_isAsSeen_77 : decode cX2_isAsSeen 77 = .ok (.if_icmp .eq 5, 3) := by decide +kernel
theorem dX2_isAsSeen_80 : decode cX2_isAsSeen 80 = .ok (.iconst 0, 1) := by decide +kernel
theorem dX2_isAsSeen_81 : decode cX2_isAsSeen 81 = .ok (.ireturn, 1) := by decide +kernel
theorem dX2_isAsSeen_82 : decode cX2_isAsSeen 82 = .ok (.iinc 4 1, 3) := by decide +kernel
theorem dX2_isAsSeen_85 : decode cX2_isAsSeen 85 = .ok (.goto (-42), 3) := by decide +kernel
theorem dX2_isAsSeen_88 : decode cX2_isAsSeen 88 = .ok (.aload_n 0, 1) := by decide +kernel
theorem dX2_isAsSeen_89 : decode cX2_isAsSeen 89 = .ok (.ldc 66, 2) := by decide +kernel
theorem dX2_isAsSeen_91 : decode cX2_isAsSeen 91 = .ok (.invokevirtual 67, 3) := by decide +kernel
theorem dX2_isAsSeen_94 : decode cX2_isAsSeen 94 = .ok (.iinc 3 1, 3) := by decide +kernel
theorem dX2_isAsSeen_97 : decode cX2_isAsSeen 97 = .ok (.goto (-62), 3) := by decide +kernel
theorem dX2_isAsSeen_100 : decode cX2_isAsSeen 100 = .ok (.iconst 1, 1) := by decide +kernel
theorem dX2_isAsSeen_101 : decode cX2_isAsSeen 101 = .ok (.ireturn, 1) := by decide +kernel
theorem dX2_lure_0 : decode cX2_lure 0 = .ok (.aload_n 0, 1) := by decide +kernel
theorem dX2_lure_1 : decode cX2_lure 1 = .ok (.getfield 31, 3) := by decide +kernel
theorem dX2_lure_4 : decode cX2_lure 4 = .ok (.aload_n 0, 1) := by decide +kernel
theorem dX2_lure_5 : decode cX2_lure 5 = .ok (.getfield 12, 3) := by decide +kernel
theorem dX2_lure_8 : decode cX2_lure 8 = .ok (.iload_n 1, 1) := by decide +kernel
theorem dX2_lure_9 : decode cX2_lure 9 = .ok (.aload_n 0, 1) := by decide +kernel
theorem dX2_lure_10 : decode cX2_lure 10 = .ok (.invokevirtual 118, 3) := by decide +kernel
theorem dX2_lure_13 : decode cX2_lure 13 = .ok (.invokevirtual 122, 3) := by decide +kernel
theorem dX2_lure_16 : decode cX2_lure 16 = .ok (.aload_n 0, 1) := by decide +kernel
theorem dX2_lure_17 : decode cX2_lure 17 = .ok (.getfield 31, 3) := by decide +kernel
theorem dX2_lure_20 : decode cX2_lure 20 = .ok (.getfield 126, 3) := by decide +kernel
theorem dX2_lure_23 : decode cX2_lure 23 = .ok (.iload_n 2, 1) := by decide +kernel
theorem dX2_lure_24 : decode cX2_lure 24 = .ok (.iaload, 1) := by decide +kernel
theorem dX2_lure_25 : decode cX2_lure 25 = .ok (.ireturn, 1) := by decide +kernel
theorem dX2_makePerson_0 : decode cX2_makePerson 0 = .ok (.aload_n 0, 1) := by decide +kernel
theorem dX2_makePerson_1 : decode cX2_makePerson 1 = .ok (.getfield 12, 3) := by decide +kernel
theorem dX2_makePerson_4 : decode cX2_makePerson 4 = .ok (.getfield 63, 3) := by decide +kernel
theorem dX2_makePerson_7 : decode cX2_makePerson 7 = .ok (.iload_n 1, 1) := by decide +kernel
theorem dX2_makePerson_8 : decode cX2_makePerson 8 = .ok (.iload_n 2, 1) := by decide +kernel
theorem dX2_makePerson_9 : decode cX2_makePerson 9 = .ok (.iastore, 1) := by decide +kernel
theorem dX2_makePerson_10 : decode cX2_makePerson 10 = .ok (.aload_n 0, 1) := by decide +kernel
theorem dX2_makePerson_11 : decode cX2_makePerson 11 = .ok (.getfield 39, 3) := by decide +kernel
theorem dX2_makePerson_14 : decode cX2_makePerson 14 = .ok (.iload_n 1, 1) := by decide +kernel
theorem dX2_makePerson_15 : decode cX2_makePerson 15 = .ok (.iconst 0, 1) := by decide +kernel
theorem dX2_makePerson_16 : decode cX2_makePerson 16 = .ok (.iastore, 1) := by decide +kernel
theorem dX2_makePerson_17 : decode cX2_makePerson 17 = .ok (.return_, 1) := by decide +kernel
theorem dX2_phase_0 : decode cX2_phase 0 = .ok (.aload_n 0, 1) := by decide +kernel
theorem dX2_phase_1 : decode cX2_phase 1 = .ok (.getfield 31, 3) := by decide +kernel
theorem dX2_phase_4 : decode cX2_phase 4 = .ok (.getfield 152, 3) := by decide +kernel
theorem dX2_phase_7 : decode cX2_phase 7 = .ok (.ifCond .eq 16, 3) := by decide +kernel
theorem dX2_phase_10 : decode cX2_phase 10 = .ok (.aload_n 0, 1) := by decide +kernel
theorem dX2_phase_11 : decode cX2_phase 11 = .ok (.getfield 21, 3) := by decide +kernel
theorem dX2_phase_14 : decode cX2_phase 14 = .ok (.getfield 115, 3) := by decide +kernel
theorem dX2_phase_17 : decode cX2_phase 17 = .ok (.bipush 10, 2) := by decide +kernel
theorem dX2_phase_19 : decode cX2_phase 19 = .ok (.irem, 1) := by decide +kernel
theorem dX2_phase_20 : decode cX2_phase 20 = .ok (.goto 4, 3) := by decide +kernel
theorem dX2_phase_23 : decode cX2_phase 23 = .ok (.iconst 0, 1) := by decide +kernel
theorem dX2_phase_24 : decode cX2_phase 24 = .ok (.ireturn, 1) := by decide +kernel
theorem dX2_putPerson_0 : decode cX2_putPerson 0 = .ok (.aload_n 0, 1) := by decide +kernel
theorem dX2_putPerson_1 : decode cX2_putPerson 1 = .ok (.getfield 12, 3) := by decide +kernel
theorem dX2_putPerson_4 : decode cX2_putPerson 4 = .ok (.getfield 60, 3) := by decide +kernel
theorem dX2_putPerson_7 : decode cX2_putPerson 7 = .ok (.iload_n 1, 1) := by decide +kernel
theorem dX2_putPerson_8 : decode cX2_putPerson 8 = .ok (.iload_n 2, 1) := by decide +kernel
theorem dX2_putPerson_9 : decode cX2_putPerson 9 = .ok (.iastore, 1) := by decide +kernel
theorem dX2_putPerson_10 : decode cX2_putPerson 10 = .ok (.aload_n 0, 1) := by decide +kernel
theorem dX2_putPerson_11 : decode cX2_putPerson 11 = .ok (.getfield 39, 3) := by decide +kernel
theorem dX2_putPerson_14 : decode cX2_putPerson 14 = .ok (.iload_n 1, 1) := by decide +kernel
theorem dX2_putPerson_15 : decode cX2_putPerson 15 = .ok (.iconst 0, 1) := by decide +kernel
theorem dX2_putPerson_16 : decode cX2_putPerson 16 = .ok (.iastore, 1) := by decide +kernel
theorem dX2_putPerson_17 : decode cX2_putPerson 17 = .ok (.return_, 1) := by decide +kernel
theorem dX2_reckon_0 : decode cX2_reckon 0 = .ok (.aload_n 0, 1) := by decide +kernel
theorem dX2_reckon_1 : decode cX2_reckon 1 = .ok (.invokevirtual 118, 3) := by decide +kernel
theorem dX2_reckon_4 : decode cX2_reckon 4 = .ok (.istore_n 1, 1) := by decide +kernel
theorem dX2_reckon_5 : decode cX2_reckon 5 = .ok (.iconst 0, 1) := by decide +kernel
theorem dX2_reckon_6 : decode cX2_reckon 6 = .ok (.istore_n 2, 1) := by decide +kernel
theorem dX2_reckon_7 : decode cX2_reckon 7 = .ok (.iload_n 2, 1) := by decide +kernel
theorem dX2_reckon_8 : decode cX2_reckon 8 = .ok (.aload_n 0, 1) := by decide +kernel
theorem dX2_reckon_9 : decode cX2_reckon 9 = .ok (.getfield 12, 3) := by decide +kernel
theorem dX2_reckon_12 : decode cX2_reckon 12 = .ok (.getfield 132, 3) := by decide +kernel
theorem dX2_reckon_15 : decode cX2_reckon 15 = .ok (.if_icmp .ge 138, 3) := by decide +kernel
theorem dX2_reckon_18 : decode cX2_reckon 18 = .ok (.aload_n 0, 1) := by decide +kernel
theorem dX2_reckon_19 : decode cX2_reckon 19 = .ok (.getfield 12, 3) := by decide +kernel
theorem dX2_reckon_22 : decode cX2_reckon 22 = .ok (.iload_n 2, 1) := by decide +kernel
theorem dX2_reckon_23 : decode cX2_reckon 23 = .ok (.invokevirtual 136, 3) := by decide +kernel
theorem dX2_reckon_26 : decode cX2_reckon 26 = .ok (.ifCond .ne 121, 3) := by decide +kernel
theorem dX2_reckon_29 : decode cX2_reckon 29 = .ok (.aload_n 0, 1) := by decide +kernel
theorem dX2_reckon_30 : decode cX2_reckon 30 = .ok (.getfield 39, 3) := by decide +kernel
theorem dX2_reckon_33 : decode cX2_reckon 33 = .ok (.iload_n 2, 1) := by decide +kernel
theorem dX2_reckon_34 : decode cX2_reckon 34 = .ok (.iaload, 1) := by decide +kernel
theorem dX2_reckon_35 : decode cX2_reckon 35 = .ok (.iload_n 1, 1) := by decide +kernel
theorem dX2_reckon_36 : decode cX2_reckon 36 = .ok (.ishr, 1) := by decide +kernel
theorem dX2_reckon_37 : decode cX2_reckon 37 = .ok (.iconst 1, 1) := by decide +kernel
theorem dX2_reckon_38 : decode cX2_reckon 38 = .ok (.iand, 1) := by decide +kernel
theorem dX2_reckon_39 : decode cX2_reckon 39 = .ok (.iconst 1, 1) := by decide +kernel
theorem dX2_reckon_40 : decode cX2_reckon 40 = .ok (.if_icmp .ne 6, 3) := by decide +kernel
theorem dX2_reckon_43 : decode cX2_reckon 43 = .ok (.goto 104, 3) := by decide +kernel
theorem dX2_reckon_46 : decode cX2_reckon 46 = .ok (.aload_n 0, 1) := by decide +kernel
theorem dX2_reckon_47 : decode cX2_reckon 47 = .ok (.getfield 31, 3) := by decide +kernel
theorem dX2_reckon_50 : decode cX2_reckon 50 = .ok (.aload_n 0, 1) := by decide +kernel
theorem dX2_reckon_51 : decode cX2_reckon 51 = .ok (.getfield 12, 3) := by decide +kernel
theorem dX2_reckon_54 : decode cX2_reckon 54 = .ok (.iload_n 2, 1) := by decide +kernel
theorem dX2_reckon_55 : decode cX2_reckon 55 = .ok (.iload_n 1, 1) := by decide +kernel
theorem dX2_reckon_56 : decode cX2_reckon 56 = .ok (.invokevirtual 122, 3) := by decide +kernel
theorem dX2_reckon_59 : decode cX2_reckon 59 = .ok (.iload_n 2, 1) := by decide +kernel
theorem dX2_reckon_60 : decode cX2_reckon 60 = .ok (.bipush 10, 2) := by decide +kernel
theorem dX2_reckon_62 : decode cX2_reckon 62 = .ok (.imul, 1) := by decide +kernel
theorem dX2_reckon_63 : decode cX2_reckon 63 = .ok (.iload_n 1, 1) := by decide +kernel
theorem dX2_reckon_64 : decode cX2_reckon 64 = .ok (.iadd, 1) := by decide +kernel
theorem dX2_reckon_65 : decode cX2_reckon 65 = .ok (.bipush 16, 2) := by decide +kernel
theorem dX2_reckon_67 : decode cX2_reckon 67 = .ok (.imul, 1) := by decide +kernel
theorem dX2_reckon_68 : decode cX2_reckon 68 = .ok (.istore_n 3, 1) := by decide +kernel
theorem dX2_reckon_69 : decode cX2_reckon 69 = .ok (.iconst 0, 1) := by decide +kernel
theorem dX2_reckon_70 : decode cX2_reckon 70 = .ok (.istore 4, 2) := by decide +kernel
theorem dX2_reckon_72 : decode cX2_reckon 72 = .ok (.iload 4, 2) := by decide +kernel
theorem dX2_reckon_74 : decode cX2_reckon 74 = .ok (.bipush 16, 2) := by decide +kernel
theorem dX2_reckon_76 : decode cX2_reckon 76 = .ok (.if_icmp .ge 59, 3) := by decide +kernel
theorem dX2_reckon_79 : decode cX2_reckon 79 = .ok (.aload_n 0, 1) := by decide +kernel
theorem dX2_reckon_80 : decode cX2_reckon 80 = .ok (.getfield 35, 3) := by decide +kernel
theorem dX2_reckon_83 : decode cX2_reckon 83 = .ok (.iload_n 3, 1) := by decide +kernel
theorem dX2_reckon_84 : decode cX2_reckon 84 = .ok (.iload 4, 2) := by decide +kernel
theorem dX2_reckon_86 : decode cX2_reckon 86 = .ok (.iadd, 1) := by decide +kernel
theorem dX2_reckon_87 : decode cX2_reckon 87 = .ok (.aload_n 0, 1) := by decide +kernel
theorem dX2_reckon_88 : decode cX2_reckon 88 = .ok (.getfield 12, 3) := by decide +kernel
theorem dX2_reckon_91 : decode cX2_reckon 91 = .ok (.getfield 139, 3) := by decide +kernel
theorem dX2_reckon_94 : decode cX2_reckon 94 = .ok (.iload_n 2, 1) := by decide +kernel
theorem dX2_reckon_95 : decode cX2_reckon 95 = .ok (.iaload, 1) := by decide +kernel
theorem dX2_reckon_96 : decode cX2_reckon 96 = .ok (.aload_n 0, 1) := by decide +kernel
theorem dX2_reckon_97 : decode cX2_reckon 97 = .ok (.getfield 31, 3) := by decide +kernel
theorem dX2_reckon_100 : decode cX2_reckon 100 = .ok (.getfield 126, 3) := by decide +kernel
theorem dX2_reckon_103 : decode cX2_reckon 103 = .ok (.iload 4, 2) := by decide +kernel
theorem dX2_reckon_105 : decode cX2_reckon 105 = .ok (.iaload, 1) := by decide +kernel
theorem dX2_reckon_106 : decode cX2_reckon 106 = .ok (.aload_n 0, 1) := by decide +kernel
theorem dX2_reckon_107 : decode cX2_reckon 107 = .ok (.getfield 12, 3) := by decide +kernel
theorem dX2_reckon_110 : decode cX2_reckon 110 = .ok (.getfield 63, 3) := by decide +kernel
theorem dX2_reckon_113 : decode cX2_reckon 113 = .ok (.iload_n 2, 1) := by decide +kernel
theorem dX2_reckon_114 : decode cX2_reckon 114 = .ok (.iaload, 1) := by decide +kernel
theorem dX2_reckon_115 : decode cX2_reckon 115 = .ok (.aload_n 0, 1) := by decide +kernel
theorem dX2_reckon_116 : decode cX2_reckon 116 = .ok (.getfield 31, 3) := by decide +kernel
theorem dX2_reckon_119 : decode cX2_reckon 119 = .ok (.getfield 145, 3) := by decide +kernel
theorem dX2_reckon_122 : decode cX2_reckon 122 = .ok (.iload 4, 2) := by decide +kernel
theorem dX2_reckon_124 : decode cX2_reckon 124 = .ok (.iaload, 1) := by decide +kernel
theorem dX2_reckon_125 : decode cX2_reckon 125 = .ok (.invokestatic 148, 3) := by decide +kernel
theorem dX2_reckon_128 : decode cX2_reckon 128 = .ok (.iastore, 1) := by decide +kernel
theorem dX2_reckon_129 : decode cX2_reckon 129 = .ok (.iinc 4 1, 3) := by decide +kernel
theorem dX2_reckon_132 : decode cX2_reckon 132 = .ok (.goto (-60), 3) := by decide +kernel
theorem dX2_reckon_135 : decode cX2_reckon 135 = .ok (.aload_n 0, 1) := by decide +kernel
theorem dX2_reckon_136 : decode cX2_reckon 136 = .ok (.getfield 39, 3) := by decide +kernel
theorem dX2_reckon_139 : decode cX2_reckon 139 = .ok (.iload_n 2, 1) := by decide +kernel
theorem dX2_reckon_140 : decode cX2_reckon 140 = .ok (.dup2, 1) := by decide +kernel
theorem dX2_reckon_141 : decode cX2_reckon 141 = .ok (.iaload, 1) := by decide +kernel
theorem dX2_reckon_142 : decode cX2_reckon 142 = .ok (.iconst 1, 1) := by decide +kernel
theorem dX2_reckon_143 : decode cX2_reckon 143 = .ok (.iload_n 1, 1) := by decide +kernel
theorem dX2_reckon_144 : decode cX2_reckon 144 = .ok (.ishl, 1) := by decide +kernel
theorem dX2_reckon_145 : decode cX2_reckon 145 = .ok (.ior, 1) := by decide +kernel
theorem dX2_reckon_146 : decode cX2_reckon 146 = .ok (.iastore, 1) := by decide +kernel
theorem dX2_reckon_147 : decode cX2_reckon 147 = .ok (.iinc 2 1, 3) := by decide +kernel
theorem dX2_reckon_150 : decode cX2_reckon 150 = .ok (.goto (-143), 3) := by decide +kernel
theorem dX2_reckon_153 : decode cX2_reckon 153 = .ok (.return_, 1) := by decide +kernel
theorem dX2_tug_0 : decode cX2_tug 0 = .ok (.aload_n 0, 1) := by decide +kernel
theorem dX2_tug_1 : decode cX2_tug 1 = .ok (.getfield 12, 3) := by decide +kernel
theorem dX2_tug_4 : decode cX2_tug 4 = .ok (.iload_n 1, 1) := by decide +kernel
theorem dX2_tug_5 : decode cX2_tug 5 = .ok (.invokevirtual 136, 3) := by decide +kernel
theorem dX2_tug_8 : decode cX2_tug 8 = .ok (.ifCond .eq 5, 3) := by decide +kernel
theorem dX2_tug_11 : decode cX2_tug 11 = .ok (.iconst 0, 1) := by decide +kernel
theorem dX2_tug_12 : decode cX2_tug 12 = .ok (.ireturn, 1) := by decide +kernel
theorem dX2_tug_13 : decode cX2_tug 13 = .ok (.aload_n 0, 1) := by decide +kernel
theorem dX2_tug_14 : decode cX2_tug 14 = .ok (.getfield 12, 3) := by decide +kernel
theorem dX2_tug_17 : decode cX2_tug 17 = .ok (.getfield 139, 3) := by decide +kernel
theorem dX2_tug_20 : decode cX2_tug 20 = .ok (.iload_n 1, 1) := by decide +kernel
theorem dX2_tug_21 : decode cX2_tug 21 = .ok (.iaload, 1) := by decide +kernel
theorem dX2_tug_22 : decode cX2_tug 22 = .ok (.bipush 6, 2) := by decide +kernel
theorem dX2_tug_24 : decode cX2_tug 24 = .ok (.if_icmp .ne 27, 3) := by decide +kernel
theorem dX2_tug_27 : decode cX2_tug 27 = .ok (.aload_n 0, 1) := by decide +kernel
theorem dX2_tug_28 : decode cX2_tug 28 = .ok (.getfield 12, 3) := by decide +kernel
theorem dX2_tug_31 : decode cX2_tug 31 = .ok (.getfield 142, 3) := by decide +kernel
theorem dX2_tug_34 : decode cX2_tug 34 = .ok (.iload_n 1, 1) := by decide +kernel
theorem dX2_tug_35 : decode cX2_tug 35 = .ok (.iconst 4, 1) := by decide +kernel
theorem dX2_tug_36 : decode cX2_tug 36 = .ok (.imul, 1) := by decide +kernel
theorem dX2_tug_37 : decode cX2_tug 37 = .ok (.aload_n 0, 1) := by decide +kernel
theorem dX2_tug_38 : decode cX2_tug 38 = .ok (.getfield 21, 3) := by decide +kernel
theorem dX2_tug_41 : decode cX2_tug 41 = .ok (.getfield 115, 3) := by decide +kernel
theorem dX2_tug_44 : decode cX2_tug 44 = .ok (.iconst 4, 1) := by decide +kernel
theorem dX2_tug_45 : decode cX2_tug 45 = .ok (.irem, 1) := by decide +kernel
theorem dX2_tug_46 : decode cX2_tug 46 = .ok (.iadd, 1) := by decide +kernel
theorem dX2_tug_47 : decode cX2_tug 47 = .ok (.iaload, 1) := by decide +kernel
theorem dX2_tug_48 : decode cX2_tug 48 = .ok (.goto 4, 3) := by decide +kernel
theorem dX2_tug_51 : decode cX2_tug 51 = .ok (.iconst 0, 1) := by decide +kernel
theorem dX2_tug_52 : decode cX2_tug 52 = .ok (.istore_n 3, 1) := by decide +kernel
theorem dX2_tug_53 : decode cX2_tug 53 = .ok (.aload_n 0, 1) := by decide +kernel
theorem dX2_tug_54 : decode cX2_tug 54 = .ok (.getfield 35, 3) := by decide +kernel
theorem dX2_tug_57 : decode cX2_tug 57 = .ok (.iload_n 1, 1) := by decide +kernel
theorem dX2_tug_58 : decode cX2_tug 58 = .ok (.bipush 10, 2) := by decide +kernel
theorem dX2_tug_60 : decode cX2_tug 60 = .ok (.imul, 1) := by decide +kernel
theorem dX2_tug_61 : decode cX2_tug 61 = .ok (.aload_n 0, 1) := by decide +kernel
theorem dX2_tug_62 : decode cX2_tug 62 = .ok (.invokevirtual 118, 3) := by decide +kernel
theorem dX2_tug_65 : decode cX2_tug 65 = .ok (.iadd, 1) := by decide +kernel
theorem dX2_tug_66 : decode cX2_tug 66 = .ok (.bipush 16, 2) := by decide +kernel
theorem dX2_tug_68 : decode cX2_tug 68 = .ok (.imul, 1) := by decide +kernel
theorem dX2_tug_69 : decode cX2_tug 69 = .ok (.iload_n 2, 1) := by decide +kernel
theorem dX2_tug_70 : decode cX2_tug 70 = .ok (.iadd, 1) := by decide +kernel
theorem dX2_tug_71 : decode cX2_tug 71 = .ok (.iaload, 1) := by decide +kernel
theorem dX2_tug_72 : decode cX2_tug 72 = .ok (.iload_n 3, 1) := by decide +kernel
theorem dX2_tug_73 : decode cX2_tug 73 = .ok (.iadd, 1) := by decide +kernel
theorem dX2_tug_74 : decode cX2_tug 74 = .ok (.ireturn, 1) := by decide +kernel
theorem dX2_tugBut_0 : decode cX2_tugBut 0 = .ok (.iload_n 0, 1) := by decide +kernel
theorem dX2_tugBut_1 : decode cX2_tugBut 1 = .ok (.tableswitch 101 1 6 #[39, 63, 93, 45, 74, 93], 39) := by decide +kernel
theorem dX2_tugBut_40 : decode cX2_tugBut 40 = .ok (.iload_n 1, 1) := by decide +kernel
theorem dX2_tugBut_41 : decode cX2_tugBut 41 = .ok (.iload_n 2, 1) := by decide +kernel
theorem dX2_tugBut_42 : decode cX2_tugBut 42 = .ok (.iadd, 1) := by decide +kernel
theorem dX2_tugBut_43 : decode cX2_tugBut 43 = .ok (.iload_n 3, 1) := by decide +kernel
theorem dX2_tugBut_44 : decode cX2_tugBut 44 = .ok (.isub, 1) := by decide +kernel
theorem dX2_tugBut_45 : decode cX2_tugBut 45 = .ok (.ireturn, 1) := by decide +kernel
theorem dX2_tugBut_46 : decode cX2_tugBut 46 = .ok (.iload_n 3, 1) := by decide +kernel
theorem dX2_tugBut_47 : decode cX2_tugBut 47 = .ok (.ifCond .ne 11, 3) := by decide +kernel
theorem dX2_tugBut_50 : decode cX2_tugBut 50 = .ok (.iconst 2, 1) := by decide +kernel
theorem dX2_tugBut_51 : decode cX2_tugBut 51 = .ok (.iload_n 1, 1) := by decide +kernel
theorem dX2_tugBut_52 : decode cX2_tugBut 52 = .ok (.iload_n 2, 1) := by decide +kernel
theorem dX2_tugBut_53 : decode cX2_tugBut 53 = .ok (.iadd, 1) := by decide +kernel
theorem dX2_tugBut_54 : decode cX2_tugBut 54 = .ok (.imul, 1) := by decide +kernel
theorem dX2_tugBut_55 : decode cX2_tugBut 55 = .ok (.goto 8, 3) := by decide +kernel
theorem dX2_tugBut_58 : decode cX2_tugBut 58 = .ok (.iload_n 1, 1) := by decide +kernel
theorem dX2_tugBut_59 : decode cX2_tugBut 59 = .ok (.iload_n 2, 1) := by decide +kernel
theorem dX2_tugBut_60 : decode cX2_tugBut 60 = .ok (.iadd, 1) := by decide +kernel
theorem dX2_tugBut_61 : decode cX2_tugBut 61 = .ok (.iload_n 3, 1) := by decide +kernel
theorem dX2_tugBut_62 : decode cX2_tugBut 62 = .ok (.isub, 1) := by decide +kernel
theorem dX2_tugBut_63 : decode cX2_tugBut 63 = .ok (.ireturn, 1) := by decide +kernel
theorem dX2_tugBut_64 : decode cX2_tugBut 64 = .ok (.iload_n 3, 1) := by decide +kernel
theorem dX2_tugBut_65 : decode cX2_tugBut 65 = .ok (.iconst 1, 1) := by decide +kernel
theorem dX2_tugBut_66 : decode cX2_tugBut 66 = .ok (.if_icmp .ne 7, 3) := by decide +kernel
theorem dX2_tugBut_69 : decode cX2_tugBut 69 = .ok (.iload_n 1, 1) := by decide +kernel
theorem dX2_tugBut_70 : decode cX2_tugBut 70 = .ok (.goto 4, 3) := by decide +kernel
theorem dX2_tugBut_73 : decode cX2_tugBut 73 = .ok (.iconst 0, 1) := by decide +kernel
theorem dX2_tugBut_74 : decode cX2_tugBut 74 = .ok (.ireturn, 1) := by decide +kernel
theorem dX2_tugBut_75 : decode cX2_tugBut 75 = .ok (.iload_n 3, 1) := by decide +kernel
theorem dX2_tugBut_76 : decode cX2_tugBut 76 = .ok (.ifCond .ne 7, 3) := by decide +kernel
theorem dX2_tugBut_79 : decode cX2_tugBut 79 = .ok (.iload_n 2, 1) := by decide +kernel
theorem dX2_tugBut_80 : decode cX2_tugBut 80 = .ok (.goto 13, 3) := by decide +kernel
theorem dX2_tugBut_83 : decode cX2_tugBut 83 = .ok (.iload_n 3, 1) := by decide +kernel
theorem dX2_tugBut_84 : decode cX2_tugBut 84 = .ok (.iconst 1, 1) := by decide +kernel
theorem dX2_tugBut_85 : decode cX2_tugBut 85 = .ok (.if_icmp .ne 7, 3) := by decide +kernel
theorem dX2_tugBut_88 : decode cX2_tugBut 88 = .ok (.iload_n 1, 1) := by decide +kernel
theorem dX2_tugBut_89 : decode cX2_tugBut 89 = .ok (.goto 4, 3) := by decide +kernel
theorem dX2_tugBut_92 : decode cX2_tugBut 92 = .ok (.iconst 0, 1) := by decide +kernel
theorem dX2_tugBut_93 : decode cX2_tugBut 93 = .ok (.ireturn, 1) := by decide +kernel
theorem dX2_tugBut_94 : decode cX2_tugBut 94 = .ok (.iload_n 1, 1) := by decide +kernel
theorem dX2_tugBut_95 : decode cX2_tugBut 95 = .ok (.iconst 2, 1) := by decide +kernel
theorem dX2_tugBut_96 : decode cX2_tugBut 96 = .ok (.iload_n 3, 1) := by decide +kernel
theorem dX2_tugBut_97 : decode cX2_tugBut 97 = .ok (.imul, 1) := by decide +kernel
theorem dX2_tugBut_98 : decode cX2_tugBut 98 = .ok (.isub, 1) := by decide +kernel
theorem dX2_tugBut_99 : decode cX2_tugBut 99 = .ok (.iconst 2, 1) := by decide +kernel
theorem dX2_tugBut_100 : decode cX2_tugBut 100 = .ok (.idiv, 1) := by decide +kernel
theorem dX2_tugBut_101 : decode cX2_tugBut 101 = .ok (.ireturn, 1) := by decide +kernel
theorem dX2_tugBut_102 : decode cX2_tugBut 102 = .ok (.iload_n 1, 1) := by decide +kernel
theorem dX2_tugBut_103 : decode cX2_tugBut 103 = .ok (.iconst 2, 1) := by decide +kernel
theorem dX2_tugBut_104 : decode cX2_tugBut 104 = .ok (.iload_n 3, 1) := by decide +kernel
theorem dX2_tugBut_105 : decode cX2_tugBut 105 = .ok (.imul, 1) := by decide +kernel
theorem dX2_tugBut_106 : decode cX2_tugBut 106 = .ok (.isub, 1) := by decide +kernel
theorem dX2_tugBut_107 : decode cX2_tugBut 107 = .ok (.ireturn, 1) := by decide +kernel
theorem dX6_copyFrom_0 : decode cX6_copyFrom 0 = .ok (.aload_n 0, 1) := by decide +kernel
theorem dX6_copyFrom_1 : decode cX6_copyFrom 1 = .ok (.getfield 14, 3) := by decide +kernel
theorem dX6_copyFrom_4 : decode cX6_copyFrom 4 = .ok (.aload_n 1, 1) := by decide +kernel
theorem dX6_copyFrom_5 : decode cX6_copyFrom 5 = .ok (.getfield 14, 3) := by decide +kernel
theorem dX6_copyFrom_8 : decode cX6_copyFrom 8 = .ok (.invokevirtual 57, 3) := by decide +kernel
theorem dX6_copyFrom_11 : decode cX6_copyFrom 11 = .ok (.aload_n 0, 1) := by decide +kernel
theorem dX6_copyFrom_12 : decode cX6_copyFrom 12 = .ok (.getfield 23, 3) := by decide +kernel
theorem dX6_copyFrom_15 : decode cX6_copyFrom 15 = .ok (.aload_n 1, 1) := by decide +kernel
theorem dX6_copyFrom_16 : decode cX6_copyFrom 16 = .ok (.getfield 23, 3) := by decide +kernel
theorem dX6_copyFrom_19 : decode cX6_copyFrom 19 = .ok (.invokevirtual 61, 3) := by decide +kernel
theorem dX6_copyFrom_22 : decode cX6_copyFrom 22 = .ok (.aload_n 0, 1) := by decide +kernel
theorem dX6_copyFrom_23 : decode cX6_copyFrom 23 = .ok (.aload_n 1, 1) := by decide +kernel
theorem dX6_copyFrom_24 : decode cX6_copyFrom 24 = .ok (.getfield 27, 3) := by decide +kernel
theorem dX6_copyFrom_27 : decode cX6_copyFrom 27 = .ok (.putfield 27, 3) := by decide +kernel
theorem dX6_copyFrom_30 : decode cX6_copyFrom 30 = .ok (.aload_n 0, 1) := by decide +kernel
theorem dX6_copyFrom_31 : decode cX6_copyFrom 31 = .ok (.getfield 34, 3) := by decide +kernel
theorem dX6_copyFrom_34 : decode cX6_copyFrom 34 = .ok (.aload_n 1, 1) := by decide +kernel
theorem dX6_copyFrom_35 : decode cX6_copyFrom 35 = .ok (.getfield 34, 3) := by decide +kernel
theorem dX6_copyFrom_38 : decode cX6_copyFrom 38 = .ok (.invokevirtual 64, 3) := by decide +kernel
theorem dX6_copyFrom_41 : decode cX6_copyFrom 41 = .ok (.aload_n 0, 1) := by decide +kernel
theorem dX6_copyFrom_42 : decode cX6_copyFrom 42 = .ok (.getfield 41, 3) := by decide +kernel
theorem dX6_copyFrom_45 : decode cX6_copyFrom 45 = .ok (.aload_n 1, 1) := by decide +kernel
theorem dX6_copyFrom_46 : decode cX6_copyFrom 46 = .ok (.getfield 41, 3) := by decide +kernel
theorem dX6_copyFrom_49 : decode cX6_copyFrom 49 = .ok (.invokevirtual 67, 3) := by decide +kernel
theorem dX6_copyFrom_52 : decode cX6_copyFrom 52 = .ok (.aload_n 0, 1) := by decide +kernel
theorem dX6_copyFrom_53 : decode cX6_copyFrom 53 = .ok (.getfield 45, 3) := by decide +kernel
theorem dX6_copyFrom_56 : decode cX6_copyFrom 56 = .ok (.aload_n 1, 1) := by decide +kernel
theorem dX6_copyFrom_57 : decode cX6_copyFrom 57 = .ok (.getfield 45, 3) := by decide +kernel
theorem dX6_copyFrom_60 : decode cX6_copyFrom 60 = .ok (.invokevirtual 57, 3) := by decide +kernel
theorem dX6_copyFrom_63 : decode cX6_copyFrom 63 = .ok (.aload_n 0, 1) := by decide +kernel
theorem dX6_copyFrom_64 : decode cX6_copyFrom 64 = .ok (.getfield 48, 3) := by decide +kernel
theorem dX6_copyFrom_67 : decode cX6_copyFrom 67 = .ok (.aload_n 1, 1) := by decide +kernel
theorem dX6_copyFrom_68 : decode cX6_copyFrom 68 = .ok (.getfield 48, 3) := by decide +kernel
theorem dX6_copyFrom_71 : decode cX6_copyFrom 71 = .ok (.invokevirtual 57, 3) := by decide +kernel
theorem dX6_copyFrom_74 : decode cX6_copyFrom 74 = .ok (.aload_n 0, 1) := by decide +kernel
theorem dX6_copyFrom_75 : decode cX6_copyFrom 75 = .ok (.getfield 51, 3) := by decide +kernel
theorem dX6_copyFrom_78 : decode cX6_copyFrom 78 = .ok (.aload_n 1, 1) := by decide +kernel
theorem dX6_copyFrom_79 : decode cX6_copyFrom 79 = .ok (.getfield 51, 3) := by decide +kernel
theorem dX6_copyFrom_82 : decode cX6_copyFrom 82 = .ok (.invokevirtual 57, 3) := by decide +kernel
theorem dX6_copyFrom_85 : decode cX6_copyFrom 85 = .ok (.aload_n 0, 1) := by decide +kernel
theorem dX6_copyFrom_86 : decode cX6_copyFrom 86 = .ok (.getfield 54, 3) := by decide +kernel
theorem dX6_copyFrom_89 : decode cX6_copyFrom 89 = .ok (.aload_n 1, 1) := by decide +kernel
theorem dX6_copyFrom_90 : decode cX6_copyFrom 90 = .ok (.getfield 54, 3) := by decide +kernel
theorem dX6_copyFrom_93 : decode cX6_copyFrom 93 = .ok (.invokevirtual 57, 3) := by decide +kernel
theorem dX6_copyFrom_96 : decode cX6_copyFrom 96 = .ok (.return_, 1) := by decide +kernel
def w_X2_again   (q : Nat)  (M : ap_Mem) (K : ap_Mem → Prop) : Prop :=
w_X1_copyFrom (q + 6) (q + 8) M (fun M_1 => K M_1)
theorem bl_X2_again_0 {x : ap_X} {g : ap_G} (hc : ap_Cx x g cX2_again RX2 1) {K : ap_Mem → Prop} (hz : ap_Ends x g 2 none (ap_Qv K))   {q : Nat} (hq : ap_kd q = 2)    {M : ap_Mem}  (h : w_X2_again   q  M K) : ap_V x g 1 0 [(0, .ref (ap_ad g q))] [] M := by
  have hg := hc.2.2.2.2.2.2.2.1
  unfold w_X2_again at h
  refine ap_aload_n (q := 1) hc dX2_again_0 rfl rfl 0 rfl ?_
  refine ap_getR (q := 4) (r := q + 6) lg_RX2_21 (by decide) hq rfl hc dX2_again_1 rfl ?_
  refine ap_aload_n (q := 5) hc dX2_again_4 rfl rfl 0 rfl ?_
  refine ap_getR (q := 8) (r := q + 8) lg_RX2_25 (by decide) hq rfl hc dX2_again_5 rfl ?_
  refine ap_callV (q := 11) (As := [.ref (ap_ad g (q + 8))]) hc (ok_X1_copyFrom hg (ty_2_6 hq) (ty_2_8 hq) h) ml_RX2_54 lk_X1_copyFrom lv_X1_copyFrom (ty_2_6 hq) rfl (ap_RmE hz (by decide)) rfl rfl (Nat.le_of_ble_eq_true rfl) dX2_again_8 rfl (ap_kv (fun M_1 h => ?_))
  exact ap_vret hc hz dX2_again_11 h
theorem ok_X2_again {l : Launch} {g : ap_G} (hg : ap_GOK g) {q : Nat} (hq : ap_kd q = 2)  {M : ap_Mem} {K : ap_Mem → Prop} (h : w_X2_again q  M K) : ap_Ct l g yX2_again cX2_again 1 none 2 [.ref (ap_ad g q)] M (ap_Qv K) := by
  refine ap_Ct_of hg (by decide +kernel) (Nat.le_of_ble_eq_true rfl) (fun x hx hc hz => ?_)
  subst hx
  exact bl_X2_again_0 hc hz hq h
def w_X2_begin_35_s   (kL35 : Int32 → ap_Mem → Prop) (q : Nat) (o1 : Nat) (x2 : Int32) (M : ap_Mem) (K : ap_Mem → Prop) : Prop :=
(if 6 ≤ x2 then (w_X2_again q M (fun M_2 => K M_2)) else (vp_in x2 6 ∧ ∀ M_4 : ap_Mem, M_4 = ap_mu M (q + 19) x2.toNatClampNeg 0 → ∀ x2_5 : Int32, x2_5 = x2 + 1 → kL35 x2_5 M_4))
def w_X2_begin_35   (q : Nat) (o1 : Nat) (K : ap_Mem → Prop) : Nat → Int32 → ap_Mem → Prop
  | 0, _, _ => False
  | n + 1, x2, M => w_X2_begin_35_s   (w_X2_begin_35   q o1 K n) q o1 x2 M K
theorem bl_X2_begin_35 {x : ap_X} {g : ap_G} (hc : ap_Cx x g cX2_begin RX2 3) {K : ap_Mem → Prop} (hz : ap_Ends x g 3 none (ap_Qv K))   {q : Nat} {o1 : Nat} (hq : ap_kd q = 2) (ho1 : ap_kd o1 = 6)   : ∀ (n : Nat) (x2 : Int32) (M : ap_Mem), w_X2_begin_35   q o1 K n x2 M → ap_V x g 3 35 [(0, .ref (ap_ad g q)), (2, .int x2)] [] M := by
  have hg := hc.2.2.2.2.2.2.2.1
  intro n
  induction n with
  | zero => intro _ _ h; exact h.elim
  | succ n ih =>
    intro x2 M h
    replace h : w_X2_begin_35_s   (w_X2_begin_35   q o1 K n) q o1 x2 M K := h
    unfold w_X2_begin_35_s at h
    refine ap_iload_n (q := 36) hc dX2_begin_35 rfl rfl 1 rfl ?_
    refine ap_bipush (q := 38) hc dX2_begin_36 rfl bc_6 ?_
    refine ap_icmp_ge (q := 41) (tgt := 54) hc dX2_begin_38 rfl (by decide) (fun z_1 => ?_) (fun z_1 => ?_)
    · have h := Eq.mp (if_pos z_1) h
      refine ap_aload_n (q := 55) hc dX2_begin_54 rfl rfl 0 rfl ?_
      refine ap_callV (q := 58) (As := []) hc (ok_X2_again hg hq h) ml_RX2_57 lk_X2_again lv_X2_again hq rfl (ap_RmE hz (by decide)) rfl rfl (Nat.le_of_ble_eq_true rfl) dX2_begin_55 rfl (ap_kv (fun M_2 h => ?_))
      exact ap_vret hc hz dX2_begin_58 h
    · have h := Eq.mp (if_neg z_1) h
      refine ap_aload_n (q := 42) hc dX2_begin_41 rfl rfl 0 rfl ?_
      refine ap_getR (q := 45) (r := q + 19) lg_RX2_39 (by decide) hq rfl hc dX2_begin_42 rfl ?_
      refine ap_iload_n (q := 46) hc dX2_begin_45 rfl rfl 1 rfl ?_
      refine ap_iconst (q := 47) hc dX2_begin_46 rfl ic_0 ?_
      obtain ⟨g_3, h⟩ := h
      obtain ⟨M_4, eM_4, h⟩ := ap_nm h
      refine ap_iast (q := 48) (ty_2_19 hq) (tn_2_19 hq) g_3 eM_4 hc dX2_begin_47 rfl ?_
      obtain ⟨x2_5, ex2_5, h⟩ := ap_nm h
      refine ap_iinc (q := 51) (lo2 := [(2, .int x2_5), (0, .ref (ap_ad g q))]) hc dX2_begin_48 rfl 1 rfl (by rw [ex2_5]; rfl) (by decide) rfl ?_
      refine ap_goto (q := 35) hc dX2_begin_51 (by decide) ?_
      exact ap_sub [1, 0] rfl (ih _ _ h)
def w_X2_begin   (q : Nat) (o1 : Nat)  (M : ap_Mem) (K : ap_Mem → Prop) : Prop :=
w_X3_copyFrom (q + 1) (o1 + 12) M (fun M_1 => w_X7_copyFrom (q + 10) (o1 + 4) M_1 (fun M_2 => w_X1_copyFrom (q + 8) (o1 + 17) M_2 (fun M_3 => w_X2_begin_35   q o1 K 4096 0 M_3)))
theorem bl_X2_begin_0 {x : ap_X} {g : ap_G} (hc : ap_Cx x g cX2_begin RX2 3) {K : ap_Mem → Prop} (hz : ap_Ends x g 3 none (ap_Qv K))   {q : Nat} {o1 : Nat} (hq : ap_kd q = 2) (ho1 : ap_kd o1 = 6)    {M : ap_Mem}  (h : w_X2_begin   q o1  M K) : ap_V x g 3 0 [(0, .ref (ap_ad g q)), (1, .ref (ap_ad g o1))] [] M := by
  have hg := hc.2.2.2.2.2.2.2.1
  unfold w_X2_begin at h
  refine ap_aload_n (q := 1) hc dX2_begin_0 rfl rfl 0 rfl ?_
  refine ap_getR (q := 4) (r := q + 1) lg_RX2_12 (by decide) hq rfl hc dX2_begin_1 rfl ?_
  refine ap_aload_n (q := 5) hc dX2_begin_4 rfl rfl 1 rfl ?_
  refine ap_getR (q := 8) (r := o1 + 12) lg_RX2_42 (by decide) ho1 rfl hc dX2_begin_5 rfl ?_
  refine ap_callV (q := 11) (As := [.ref (ap_ad g (o1 + 12))]) hc (ok_X3_copyFrom hg (ty_2_1 hq) (ty_6_12 ho1) h) ml_RX2_45 lk_X3_copyFrom lv_X3_copyFrom (ty_2_1 hq) rfl (ap_RmE hz (by decide)) rfl rfl (Nat.le_of_ble_eq_true rfl) dX2_begin_8 rfl (ap_kv (fun M_1 h => ?_))
  refine ap_aload_n (q := 12) hc dX2_begin_11 rfl rfl 0 rfl ?_
  refine ap_getR (q := 15) (r := q + 10) lg_RX2_31 (by decide) hq rfl hc dX2_begin_12 rfl ?_
  refine ap_aload_n (q := 16) hc dX2_begin_15 rfl rfl 1 rfl ?_
  refine ap_getR (q := 19) (r := o1 + 4) lg_RX2_49 (by decide) ho1 rfl hc dX2_begin_16 rfl ?_
  refine ap_callV (q := 22) (As := [.ref (ap_ad g (o1 + 4))]) hc (ok_X7_copyFrom hg (ty_2_10 hq) (ty_6_4 ho1) h) ml_RX2_50 lk_X7_copyFrom lv_X7_copyFrom (ty_2_10 hq) rfl (ap_RmE hz (by decide)) rfl rfl (Nat.le_of_ble_eq_true rfl) dX2_begin_19 rfl (ap_kv (fun M_2 h => ?_))
  refine ap_aload_n (q := 23) hc dX2_begin_22 rfl rfl 0 rfl ?_
  refine ap_getR (q := 26) (r := q + 8) lg_RX2_25 (by decide) hq rfl hc dX2_begin_23 rfl ?_
  refine ap_aload_n (q := 27) hc dX2_begin_26 rfl rfl 1 rfl ?_
  refine ap_getR (q := 30) (r := o1 + 17) lg_RX2_53 (by decide) ho1 rfl hc dX2_begin_27 rfl ?_
  refine ap_callV (q := 33) (As := [.ref (ap_ad g (o1 + 17))]) hc (ok_X1_copyFrom hg (ty_2_8 hq) (ty_6_17 ho1) h) ml_RX2_54 lk_X1_copyFrom lv_X1_copyFrom (ty_2_8 hq) rfl (ap_RmE hz (by decide)) rfl rfl (Nat.le_of_ble_eq_true rfl) dX2_begin_30 rfl (ap_kv (fun M_3 h => ?_))
  refine ap_iconst (q := 34) hc dX2_begin_33 rfl ic_0 ?_
  refine ap_istore_n (q := 35) (lo2 := [(2, .int 0), (0, .ref (ap_ad g q)), (1, .ref (ap_ad g o1))]) hc dX2_begin_34 rfl rfl rfl (by decide) rfl ?_
  exact ap_sub [1, 0] rfl (bl_X2_begin_35 hc hz  hq ho1  _ _ _ h)
theorem ok_X2_begin {l : Launch} {g : ap_G} (hg : ap_GOK g) {q : Nat} {o1 : Nat} (hq : ap_kd q = 2) (ho1 : ap_kd o1 = 6)  {M : ap_Mem} {K : ap_Mem → Prop} (h : w_X2_begin q o1  M K) : ap_Ct l g yX2_begin cX2_begin 3 none 3 [.ref (ap_ad g q), .ref (ap_ad g o1)] M (ap_Qv K) := by
  refine ap_Ct_of hg (by decide +kernel) (Nat.le_of_ble_eq_true rfl) (fun x hx hc hz => ?_)
  subst hx
  exact bl_X2_begin_0 hc hz hq ho1 h
def w_X2_phase   (q : Nat)  (M : ap_Mem) (K : Int32 → ap_Mem → Prop) : Prop :=
(if (M (q + 10) 7) = 0 then (K 0 M) else (K ((M (q + 6) 2) - (M (q + 6) 2) / 10 * 10) M))
theorem bl_X2_phase_0 {x : ap_X} {g : ap_G} (hc : ap_Cx x g cX2_phase RX2 1) {K : Int32 → ap_Mem → Prop} (hz : ap_Ends x g 0 (some .int) (ap_Qi K))   {q : Nat} (hq : ap_kd q = 2)    {M : ap_Mem}  (h : w_X2_phase   q  M K) : ap_V x g 1 0 [(0, .ref (ap_ad g q))] [] M := by
  unfold w_X2_phase at h
  refine ap_aload_n (q := 1) hc dX2_phase_0 rfl rfl 0 rfl ?_
  refine ap_getR (q := 4) (r := q + 10) lg_RX2_31 (by decide) hq rfl hc dX2_phase_1 rfl ?_
  refine ap_getI (q := 7) lg_RX2_152 (ty_2_10 hq) hc dX2_phase_4 rfl ?_
  refine ap_if_eq (q := 10) (tgt := 23) hc dX2_phase_7 rfl (by decide) (fun z_1 => ?_) (fun z_1 => ?_)
  · have h := Eq.mp (if_pos z_1) h
    refine ap_iconst (q := 24) hc dX2_phase_23 rfl ic_0 ?_
    exact ap_iret hc hz rfl dX2_phase_24 h
  · have h := Eq.mp (if_neg z_1) h
    refine ap_aload_n (q := 11) hc dX2_phase_10 rfl rfl 0 rfl ?_
    refine ap_getR (q := 14) (r := q + 6) lg_RX2_21 (by decide) hq rfl hc dX2_phase_11 rfl ?_
    refine ap_getI (q := 17) lg_RX2_115 (ty_2_6 hq) hc dX2_phase_14 rfl ?_
    refine ap_bipush (q := 19) hc dX2_phase_17 rfl bc_10 ?_
    refine ap_irem (q := 20) hc dX2_phase_19 rfl (by decide) ?_
    refine ap_goto (q := 24) hc dX2_phase_20 (by decide) ?_
    exact ap_iret hc hz rfl dX2_phase_24 h
theorem ok_X2_phase {l : Launch} {g : ap_G} (hg : ap_GOK g) {q : Nat} (hq : ap_kd q = 2)  {M : ap_Mem} {K : Int32 → ap_Mem → Prop} (h : w_X2_phase q  M K) : ap_Ct l g yX2_phase cX2_phase 1 (some .int) 0 [.ref (ap_ad g q)] M (ap_Qi K) := by
  refine ap_Ct_of hg (by decide +kernel) (Nat.le_of_ble_eq_true rfl) (fun x hx hc hz => ?_)
  subst hx
  exact bl_X2_phase_0 hc hz hq h
def w_X2_lure   (q : Nat) (x1 : Int32) (x2 : Int32) (M : ap_Mem) (K : Int32 → ap_Mem → Prop) : Prop :=
w_X2_phase q M (fun r_1 M_2 => w_X7_weigh (q + 10) (q + 1) x1 r_1 M_2 (fun M_3 => vp_in x2 16 ∧ K (M_3 (q + 16) x2.toNatClampNeg) M_3))
theorem bl_X2_lure_0 {x : ap_X} {g : ap_G} (hc : ap_Cx x g cX2_lure RX2 3) {K : Int32 → ap_Mem → Prop} (hz : ap_Ends x g 3 (some .int) (ap_Qi K))   {q : Nat} (hq : ap_kd q = 2)   {x1 : Int32} {x2 : Int32} {M : ap_Mem}  (h : w_X2_lure   q x1 x2 M K) : ap_V x g 3 0 [(0, .ref (ap_ad g q)), (1, .int x1), (2, .int x2)] [] M := by
  have hg := hc.2.2.2.2.2.2.2.1
  unfold w_X2_lure at h
  refine ap_aload_n (q := 1) hc dX2_lure_0 rfl rfl 0 rfl ?_
  refine ap_getR (q := 4) (r := q + 10) lg_RX2_31 (by decide) hq rfl hc dX2_lure_1 rfl ?_
  refine ap_aload_n (q := 5) hc dX2_lure_4 rfl rfl 0 rfl ?_
  refine ap_getR (q := 8) (r := q + 1) lg_RX2_12 (by decide) hq rfl hc dX2_lure_5 rfl ?_
  refine ap_iload_n (q := 9) hc dX2_lure_8 rfl rfl 1 rfl ?_
  refine ap_aload_n (q := 10) hc dX2_lure_9 rfl rfl 0 rfl ?_
  refine ap_callV (q := 13) (As := []) hc (ok_X2_phase hg hq h) ml_RX2_118 lk_X2_phase lv_X2_phase hq rfl (ap_RmE hz (by decide)) rfl rfl (Nat.le_of_ble_eq_true rfl) dX2_lure_10 rfl (ap_ki (fun r_1 M_2 h => ?_))
  refine ap_callV (q := 16) (As := [.ref (ap_ad g (q + 1)), .int x1, .int r_1]) hc (ok_X7_weigh hg (ty_2_10 hq) (ty_2_1 hq) h) ml_RX2_122 lk_X7_weigh lv_X7_weigh (ty_2_10 hq) rfl (ap_RmE hz (by decide)) rfl rfl (Nat.le_of_ble_eq_true rfl) dX2_lure_13 rfl (ap_kv (fun M_3 h => ?_))
  refine ap_aload_n (q := 17) hc dX2_lure_16 rfl rfl 0 rfl ?_
  refine ap_getR (q := 20) (r := q + 10) lg_RX2_31 (by decide) hq rfl hc dX2_lure_17 rfl ?_
  refine ap_getR (q := 23) (r := q + 16) lg_RX2_126 (by decide) (ty_2_10 hq) rfl hc dX2_lure_20 rfl ?_
  refine ap_iload_n (q := 24) hc dX2_lure_23 rfl rfl 2 rfl ?_
  obtain ⟨g_4, h⟩ := h
  refine ap_iald (q := 25) (ty_2_16 hq) (tn_2_16 hq) g_4 hc dX2_lure_24 rfl ?_
  exact ap_iret hc hz rfl dX2_lure_25 h
theorem ok_X2_lure {l : Launch} {g : ap_G} (hg : ap_GOK g) {q : Nat} (hq : ap_kd q = 2) {x1 : Int32} {x2 : Int32} {M : ap_Mem} {K : Int32 → ap_Mem → Prop} (h : w_X2_lure q x1 x2 M K) : ap_Ct l g yX2_lure cX2_lure 3 (some .int) 3 [.ref (ap_ad g q), .int x1, .int x2] M (ap_Qi K) := by
  refine ap_Ct_of hg (by decide +kernel) (Nat.le_of_ble_eq_true rfl) (fun x hx hc hz => ?_)
  subst hx
  exact bl_X2_lure_0 hc hz hq h
def w_X2_tugBut    (x0 : Int32) (x1 : Int32) (x2 : Int32) (x3 : Int32) (M : ap_Mem) (K : Int32 → ap_Mem → Prop) : Prop :=
(if x0 = 1 then (K ((x1 + x2) - x3) M) else (if x0 = 2 then ((if x3 = 1 then (K x1 M) else (K 0 M))) else (if x0 = 3 then (K ((x1 - (2 * x3)) / 2) M) else (if x0 = 4 then ((if x3 = 0 then (K (2 * (x1 + x2)) M) else (K ((x1 + x2) - x3) M))) else (if x0 = 5 then ((if x3 = 0 then (K x2 M) else ((if x3 = 1 then (K x1 M) else (K 0 M))))) else (if x0 = 6 then (K ((x1 - (2 * x3)) / 2) M) else (K (x1 - (2 * x3)) M)))))))
theorem bl_X2_tugBut_0 {x : ap_X} {g : ap_G} (hc : ap_Cx x g cX2_tugBut RX2 4) {K : Int32 → ap_Mem → Prop} (hz : ap_Ends x g 0 (some .int) (ap_Qi K))       {x0 : Int32} {x1 : Int32} {x2 : Int32} {x3 : Int32} {M : ap_Mem}  (h : w_X2_tugBut    x0 x1 x2 x3 M K) : ap_V x g 4 0 [(0, .int x0), (1, .int x1), (2, .int x2), (3, .int x3)] [] M := by
  unfold w_X2_tugBut at h
  refine ap_iload_n (q := 1) hc dX2_tugBut_0 rfl rfl 0 rfl ?_
  by_cases z_1 : x0 = 1
  · have h := Eq.mp (if_pos z_1) h
    refine ap_tabIn (tgt := 40) (off := 39) (v := 1) hc dX2_tugBut_1 z_1 (by decide) (by decide) (by decide +kernel) (by decide) ?_
    refine ap_iload_n (q := 41) hc dX2_tugBut_40 rfl rfl 1 rfl ?_
    refine ap_iload_n (q := 42) hc dX2_tugBut_41 rfl rfl 2 rfl ?_
    refine ap_iadd (q := 43) hc dX2_tugBut_42 rfl ?_
    refine ap_iload_n (q := 44) hc dX2_tugBut_43 rfl rfl 3 rfl ?_
    refine ap_isub (q := 45) hc dX2_tugBut_44 rfl ?_
    exact ap_iret hc hz rfl dX2_tugBut_45 h
  · have h := Eq.mp (if_neg z_1) h
    by_cases z_2 : x0 = 2
    · have h := Eq.mp (if_pos z_2) h
      refine ap_tabIn (tgt := 64) (off := 63) (v := 2) hc dX2_tugBut_1 z_2 (by decide) (by decide) (by decide +kernel) (by decide) ?_
      refine ap_iload_n (q := 65) hc dX2_tugBut_64 rfl rfl 3 rfl ?_
      refine ap_iconst (q := 66) hc dX2_tugBut_65 rfl ic_1 ?_
      refine ap_icmp_ne (q := 69) (tgt := 73) hc dX2_tugBut_66 rfl (by decide) (fun z_3 => ?_) (fun z_3 => ?_)
      · have h := Eq.mp (if_neg z_3) h
        refine ap_iconst (q := 74) hc dX2_tugBut_73 rfl ic_0 ?_
        exact ap_iret hc hz rfl dX2_tugBut_74 h
      · have h := Eq.mp (if_pos z_3) h
        refine ap_iload_n (q := 70) hc dX2_tugBut_69 rfl rfl 1 rfl ?_
        refine ap_goto (q := 74) hc dX2_tugBut_70 (by decide) ?_
        exact ap_iret hc hz rfl dX2_tugBut_74 h
    · have h := Eq.mp (if_neg z_2) h
      by_cases z_4 : x0 = 3
      · have h := Eq.mp (if_pos z_4) h
        refine ap_tabIn (tgt := 94) (off := 93) (v := 3) hc dX2_tugBut_1 z_4 (by decide) (by decide) (by decide +kernel) (by decide) ?_
        refine ap_iload_n (q := 95) hc dX2_tugBut_94 rfl rfl 1 rfl ?_
        refine ap_iconst (q := 96) hc dX2_tugBut_95 rfl ic_2 ?_
        refine ap_iload_n (q := 97) hc dX2_tugBut_96 rfl rfl 3 rfl ?_
        refine ap_imul (q := 98) hc dX2_tugBut_97 rfl ?_
        refine ap_isub (q := 99) hc dX2_tugBut_98 rfl ?_
        refine ap_iconst (q := 100) hc dX2_tugBut_99 rfl ic_2 ?_
        refine ap_idiv (q := 101) hc dX2_tugBut_100 rfl (by decide) ?_
        exact ap_iret hc hz rfl dX2_tugBut_101 h
      · have h := Eq.mp (if_neg z_4) h
        by_cases z_5 : x0 = 4
        · have h := Eq.mp (if_pos z_5) h
          refine ap_tabIn (tgt := 46) (off := 45) (v := 4) hc dX2_tugBut_1 z_5 (by decide) (by decide) (by decide +kernel) (by decide) ?_
          refine ap_iload_n (q := 47) hc dX2_tugBut_46 rfl rfl 3 rfl ?_
          refine ap_if_ne (q := 50) (tgt := 58) hc dX2_tugBut_47 rfl (by decide) (fun z_6 => ?_) (fun z_6 => ?_)
          · have h := Eq.mp (if_neg z_6) h
            refine ap_iload_n (q := 59) hc dX2_tugBut_58 rfl rfl 1 rfl ?_
            refine ap_iload_n (q := 60) hc dX2_tugBut_59 rfl rfl 2 rfl ?_
            refine ap_iadd (q := 61) hc dX2_tugBut_60 rfl ?_
            refine ap_iload_n (q := 62) hc dX2_tugBut_61 rfl rfl 3 rfl ?_
            refine ap_isub (q := 63) hc dX2_tugBut_62 rfl ?_
            exact ap_iret hc hz rfl dX2_tugBut_63 h
          · have h := Eq.mp (if_pos z_6) h
            refine ap_iconst (q := 51) hc dX2_tugBut_50 rfl ic_2 ?_
            refine ap_iload_n (q := 52) hc dX2_tugBut_51 rfl rfl 1 rfl ?_
            refine ap_iload_n (q := 53) hc dX2_tugBut_52 rfl rfl 2 rfl ?_
            refine ap_iadd (q := 54) hc dX2_tugBut_53 rfl ?_
            refine ap_imul (q := 55) hc dX2_tugBut_54 rfl ?_
            refine ap_goto (q := 63) hc dX2_tugBut_55 (by decide) ?_
            exact ap_iret hc hz rfl dX2_tugBut_63 h
        · have h := Eq.mp (if_neg z_5) h
          by_cases z_7 : x0 = 5
          · have h := Eq.mp (if_pos z_7) h
            refine ap_tabIn (tgt := 75) (off := 74) (v := 5) hc dX2_tugBut_1 z_7 (by decide) (by decide) (by decide +kernel) (by decide) ?_
            refine ap_iload_n (q := 76) hc dX2_tugBut_75 rfl rfl 3 rfl ?_
            refine ap_if_ne (q := 79) (tgt := 83) hc dX2_tugBut_76 rfl (by decide) (fun z_8 => ?_) (fun z_8 => ?_)
            · have h := Eq.mp (if_neg z_8) h
              refine ap_iload_n (q := 84) hc dX2_tugBut_83 rfl rfl 3 rfl ?_
              refine ap_iconst (q := 85) hc dX2_tugBut_84 rfl ic_1 ?_
              refine ap_icmp_ne (q := 88) (tgt := 92) hc dX2_tugBut_85 rfl (by decide) (fun z_9 => ?_) (fun z_9 => ?_)
              · have h := Eq.mp (if_neg z_9) h
                refine ap_iconst (q := 93) hc dX2_tugBut_92 rfl ic_0 ?_
                exact ap_iret hc hz rfl dX2_tugBut_93 h
              · have h := Eq.mp (if_pos z_9) h
                refine ap_iload_n (q := 89) hc dX2_tugBut_88 rfl rfl 1 rfl ?_
                refine ap_goto (q := 93) hc dX2_tugBut_89 (by decide) ?_
                exact ap_iret hc hz rfl dX2_tugBut_93 h
            · have h := Eq.mp (if_pos z_8) h
              refine ap_iload_n (q := 80) hc dX2_tugBut_79 rfl rfl 2 rfl ?_
              refine ap_goto (q := 93) hc dX2_tugBut_80 (by decide) ?_
              exact ap_iret hc hz rfl dX2_tugBut_93 h
          · have h := Eq.mp (if_neg z_7) h
            by_cases z_10 : x0 = 6
            · have h := Eq.mp (if_pos z_10) h
              refine ap_tabIn (tgt := 94) (off := 93) (v := 6) hc dX2_tugBut_1 z_10 (by decide) (by decide) (by decide +kernel) (by decide) ?_
              refine ap_iload_n (q := 95) hc dX2_tugBut_94 rfl rfl 1 rfl ?_
              refine ap_iconst (q := 96) hc dX2_tugBut_95 rfl ic_2 ?_
              refine ap_iload_n (q := 97) hc dX2_tugBut_96 rfl rfl 3 rfl ?_
              refine ap_imul (q := 98) hc dX2_tugBut_97 rfl ?_
              refine ap_isub (q := 99) hc dX2_tugBut_98 rfl ?_
              refine ap_iconst (q := 100) hc dX2_tugBut_99 rfl ic_2 ?_
              refine ap_idiv (q := 101) hc dX2_tugBut_100 rfl (by decide) ?_
              exact ap_iret hc hz rfl dX2_tugBut_101 h
            · have h := Eq.mp (if_neg z_10) h
              refine ap_tabOut (tgt := 102) hc dX2_tugBut_1 (ap_tabNo 6 (by decide) (by decide) (by decide) (fun j hj hjj => ?_)) (by decide) ?_
              · rcases (by omega : j = 0 ∨ j = 1 ∨ j = 2 ∨ j = 3 ∨ j = 4 ∨ j = 5) with rfl | rfl | rfl | rfl | rfl | rfl
                · exact z_1
                · exact z_2
                · exact z_4
                · exact z_5
                · exact z_7
                · exact z_10
              refine ap_iload_n (q := 103) hc dX2_tugBut_102 rfl rfl 1 rfl ?_
              refine ap_iconst (q := 104) hc dX2_tugBut_103 rfl ic_2 ?_
              refine ap_iload_n (q := 105) hc dX2_tugBut_104 rfl rfl 3 rfl ?_
              refine ap_imul (q := 106) hc dX2_tugBut_105 rfl ?_
              refine ap_isub (q := 107) hc dX2_tugBut_106 rfl ?_
              exact ap_iret hc hz rfl dX2_tugBut_107 h
theorem ok_X2_tugBut {l : Launch} {g : ap_G} (hg : ap_GOK g)   {x0 : Int32} {x1 : Int32} {x2 : Int32} {x3 : Int32} {M : ap_Mem} {K : Int32 → ap_Mem → Prop} (h : w_X2_tugBut  x0 x1 x2 x3 M K) : ap_Ct l g yX2_tugBut cX2_tugBut 4 (some .int) 0 [.int x0, .int x1, .int x2, .int x3] M (ap_Qi K) := by
  refine ap_Ct_of hg (by decide +kernel) (Nat.le_of_ble_eq_true rfl) (fun x hx hc hz => ?_)
  subst hx
  exact bl_X2_tugBut_0 hc hz  h
def w_X2_reckon_147  (kL7 : Int32 → Int32 → ap_Mem → Prop) (q : Nat) (x1 : Int32) (x2 : Int32) (M : ap_Mem) (K : ap_Mem → Prop) : Prop :=
∀ x2_1 : Int32, x2_1 = x2 + 1 → kL7 x1 x2_1 M
theorem bl_X2_reckon_147 {x : ap_X} {g : ap_G} (hc : ap_Cx x g cX2_reckon RX2 5) {K : ap_Mem → Prop} (hz : ap_Ends x g 3 none (ap_Qv K))   {q : Nat} (hq : ap_kd q = 2) {kL7 : Int32 → Int32 → ap_Mem → Prop} (hk7 : ∀ (x1 : Int32) (x2 : Int32)  (M : ap_Mem), kL7 x1 x2 M → ap_V x g 5 7 [(0, .ref (ap_ad g q)), (1, .int x1), (2, .int x2)] [] M) {x1 : Int32} {x2 : Int32} {M : ap_Mem}  (h : w_X2_reckon_147  kL7 q x1 x2 M K) : ap_V x g 5 147 [(0, .ref (ap_ad g q)), (1, .int x1), (2, .int x2)] [] M := by
  unfold w_X2_reckon_147 at h
  obtain ⟨x2_1, ex2_1, h⟩ := ap_nm h
  refine ap_iinc (q := 150) (lo2 := [(2, .int x2_1), (0, .ref (ap_ad g q)), (1, .int x1)]) hc dX2_reckon_147 rfl 2 rfl (by rw [ex2_1]; rfl) (by decide) rfl ?_
  refine ap_goto (q := 7) hc dX2_reckon_150 (by decide) ?_
  exact ap_sub [1, 2, 0] rfl (hk7 _ _ _ h)
def w_X2_reckon_72_s  (kL7 : Int32 → Int32 → ap_Mem → Prop) (kL72 : Int32 → Int32 → Int32 → Int32 → ap_Mem → Prop) (q : Nat) (x1 : Int32) (x2 : Int32) (x3 : Int32) (x4 : Int32) (M : ap_Mem) (K : ap_Mem → Prop) : Prop :=
(if 16 ≤ x4 then (vp_in x2 6 ∧ vp_in x2 6 ∧ ∀ M_4 : ap_Mem, M_4 = ap_mu M (q + 19) x2.toNatClampNeg ((M (q + 19) x2.toNatClampNeg) ||| (1 <<< (x1 &&& 31))) → w_X2_reckon_147  kL7 q x1 x2 M_4 K) else (vp_in x2 6 ∧ vp_in x4 16 ∧ vp_in x2 6 ∧ vp_in x4 16 ∧ w_X2_tugBut (M (q + 2) x2.toNatClampNeg) (M (q + 16) x4.toNatClampNeg) (M (q + 3) x2.toNatClampNeg) (M (q + 17) x4.toNatClampNeg) M (fun r_9 M_10 => vp_in (x3 + x4) 960 ∧ ∀ M_12 : ap_Mem, M_12 = ap_mu M_10 (q + 18) (x3 + x4).toNatClampNeg r_9 → ∀ x4_13 : Int32, x4_13 = x4 + 1 → kL72 x1 x2 x3 x4_13 M_12)))
def w_X2_reckon_72  (kL7 : Int32 → Int32 → ap_Mem → Prop) (q : Nat) (K : ap_Mem → Prop) : Nat → Int32 → Int32 → Int32 → Int32 → ap_Mem → Prop
  | 0, _, _, _, _, _ => False
  | n + 1, x1, x2, x3, x4, M => w_X2_reckon_72_s  kL7 (w_X2_reckon_72  kL7 q K n) q x1 x2 x3 x4 M K
theorem bl_X2_reckon_72 {x : ap_X} {g : ap_G} (hc : ap_Cx x g cX2_reckon RX2 5) {K : ap_Mem → Prop} (hz : ap_Ends x g 3 none (ap_Qv K))   {q : Nat} (hq : ap_kd q = 2) {kL7 : Int32 → Int32 → ap_Mem → Prop} (hk7 : ∀ (x1 : Int32) (x2 : Int32)  (M : ap_Mem), kL7 x1 x2 M → ap_V x g 5 7 [(0, .ref (ap_ad g q)), (1, .int x1), (2, .int x2)] [] M) : ∀ (n : Nat) (x1 : Int32) (x2 : Int32) (x3 : Int32) (x4 : Int32) (M : ap_Mem), w_X2_reckon_72  kL7 q K n x1 x2 x3 x4 M → ap_V x g 5 72 [(0, .ref (ap_ad g q)), (1, .int x1), (2, .int x2), (3, .int x3), (4, .int x4)] [] M := by
  have hg := hc.2.2.2.2.2.2.2.1
  intro n
  induction n with
  | zero => intro _ _ _ _ _ h; exact h.elim
  | succ n ih =>
    intro x1 x2 x3 x4 M h
    replace h : w_X2_reckon_72_s  kL7 (w_X2_reckon_72  kL7 q K n) q x1 x2 x3 x4 M K := h
    unfold w_X2_reckon_72_s at h
    refine ap_iload (q := 74) hc dX2_reckon_72 rfl 4 rfl ?_
    refine ap_bipush (q := 76) hc dX2_reckon_74 rfl bc_16 ?_
    refine ap_icmp_ge (q := 79) (tgt := 135) hc dX2_reckon_76 rfl (by decide) (fun z_1 => ?_) (fun z_1 => ?_)
    · have h := Eq.mp (if_pos z_1) h
      refine ap_aload_n (q := 136) hc dX2_reckon_135 rfl rfl 0 rfl ?_
      refine ap_getR (q := 139) (r := q + 19) lg_RX2_39 (by decide) hq rfl hc dX2_reckon_136 rfl ?_
      refine ap_iload_n (q := 140) hc dX2_reckon_139 rfl rfl 2 rfl ?_
      refine ap_dup2 (q := 141) hc dX2_reckon_140 rfl rfl rfl ?_
      obtain ⟨g_2, h⟩ := h
      refine ap_iald (q := 142) (ty_2_19 hq) (tn_2_19 hq) g_2 hc dX2_reckon_141 rfl ?_
      refine ap_iconst (q := 143) hc dX2_reckon_142 rfl ic_1 ?_
      refine ap_iload_n (q := 144) hc dX2_reckon_143 rfl rfl 1 rfl ?_
      refine ap_ishl (q := 145) hc dX2_reckon_144 rfl ?_
      refine ap_ior (q := 146) hc dX2_reckon_145 rfl ?_
      obtain ⟨g_3, h⟩ := h
      obtain ⟨M_4, eM_4, h⟩ := ap_nm h
      refine ap_iast (q := 147) (ty_2_19 hq) (tn_2_19 hq) g_3 eM_4 hc dX2_reckon_146 rfl ?_
      exact ap_sub [0, 1, 2] rfl (bl_X2_reckon_147 hc hz  hq hk7  h)
    · have h := Eq.mp (if_neg z_1) h
      refine ap_aload_n (q := 80) hc dX2_reckon_79 rfl rfl 0 rfl ?_
      refine ap_getR (q := 83) (r := q + 18) lg_RX2_35 (by decide) hq rfl hc dX2_reckon_80 rfl ?_
      refine ap_iload_n (q := 84) hc dX2_reckon_83 rfl rfl 3 rfl ?_
      refine ap_iload (q := 86) hc dX2_reckon_84 rfl 4 rfl ?_
      refine ap_iadd (q := 87) hc dX2_reckon_86 rfl ?_
      refine ap_aload_n (q := 88) hc dX2_reckon_87 rfl rfl 0 rfl ?_
      refine ap_getR (q := 91) (r := q + 1) lg_RX2_12 (by decide) hq rfl hc dX2_reckon_88 rfl ?_
      refine ap_getR (q := 94) (r := q + 2) lg_RX2_139 (by decide) (ty_2_1 hq) rfl hc dX2_reckon_91 rfl ?_
      refine ap_iload_n (q := 95) hc dX2_reckon_94 rfl rfl 2 rfl ?_
      obtain ⟨g_5, h⟩ := h
      refine ap_iald (q := 96) (ty_2_2 hq) (tn_2_2 hq) g_5 hc dX2_reckon_95 rfl ?_
      refine ap_aload_n (q := 97) hc dX2_reckon_96 rfl rfl 0 rfl ?_
      refine ap_getR (q := 100) (r := q + 10) lg_RX2_31 (by decide) hq rfl hc dX2_reckon_97 rfl ?_
      refine ap_getR (q := 103) (r := q + 16) lg_RX2_126 (by decide) (ty_2_10 hq) rfl hc dX2_reckon_100 rfl ?_
      refine ap_iload (q := 105) hc dX2_reckon_103 rfl 4 rfl ?_
      obtain ⟨g_6, h⟩ := h
      refine ap_iald (q := 106) (ty_2_16 hq) (tn_2_16 hq) g_6 hc dX2_reckon_105 rfl ?_
      refine ap_aload_n (q := 107) hc dX2_reckon_106 rfl rfl 0 rfl ?_
      refine ap_getR (q := 110) (r := q + 1) lg_RX2_12 (by decide) hq rfl hc dX2_reckon_107 rfl ?_
      refine ap_getR (q := 113) (r := q + 3) lg_RX2_63 (by decide) (ty_2_1 hq) rfl hc dX2_reckon_110 rfl ?_
      refine ap_iload_n (q := 114) hc dX2_reckon_113 rfl rfl 2 rfl ?_
      obtain ⟨g_7, h⟩ := h
      refine ap_iald (q := 115) (ty_2_3 hq) (tn_2_3 hq) g_7 hc dX2_reckon_114 rfl ?_
      refine ap_aload_n (q := 116) hc dX2_reckon_115 rfl rfl 0 rfl ?_
      refine ap_getR (q := 119) (r := q + 10) lg_RX2_31 (by decide) hq rfl hc dX2_reckon_116 rfl ?_
      refine ap_getR (q := 122) (r := q + 17) lg_RX2_145 (by decide) (ty_2_10 hq) rfl hc dX2_reckon_119 rfl ?_
      refine ap_iload (q := 124) hc dX2_reckon_122 rfl 4 rfl ?_
      obtain ⟨g_8, h⟩ := h
      refine ap_iald (q := 125) (ty_2_17 hq) (tn_2_17 hq) g_8 hc dX2_reckon_124 rfl ?_
      refine ap_callS (q := 128) (As := [.int (M (q + 2) x2.toNatClampNeg), .int (M (q + 16) x4.toNatClampNeg), .int (M (q + 3) x2.toNatClampNeg), .int (M (q + 17) x4.toNatClampNeg)]) hc (ok_X2_tugBut hg  h) ml_RX2_148 lk_X2_tugBut ls_X2_tugBut (ap_RmE hz (by decide)) rfl rfl (Nat.le_of_ble_eq_true rfl) dX2_reckon_125 rfl (ap_ki (fun r_9 M_10 h => ?_))
      obtain ⟨g_11, h⟩ := h
      obtain ⟨M_12, eM_12, h⟩ := ap_nm h
      refine ap_iast (q := 129) (ty_2_18 hq) (tn_2_18 hq) g_11 eM_12 hc dX2_reckon_128 rfl ?_
      obtain ⟨x4_13, ex4_13, h⟩ := ap_nm h
      refine ap_iinc (q := 132) (lo2 := [(4, .int x4_13), (0, .ref (ap_ad g q)), (1, .int x1), (2, .int x2), (3, .int x3)]) hc dX2_reckon_129 rfl 4 rfl (by rw [ex4_13]; rfl) (by decide) rfl ?_
      refine ap_goto (q := 72) hc dX2_reckon_132 (by decide) ?_
      exact ap_sub [1, 2, 3, 4, 0] rfl (ih _ _ _ _ _ h)
def w_X2_reckon_7_s   (kL7 : Int32 → Int32 → ap_Mem → Prop) (q : Nat) (x1 : Int32) (x2 : Int32) (M : ap_Mem) (K : ap_Mem → Prop) : Prop :=
(if (M (q + 1) 5) ≤ x2 then (K M) else (w_X3_isAway (q + 1) x2 M (fun r_2 M_3 => (if r_2 = 0 then (vp_in x2 6 ∧ (if (((M_3 (q + 19) x2.toNatClampNeg) >>> (x1 &&& 31)) &&& 1) = 1 then (w_X2_reckon_147  kL7 q x1 x2 M_3 K) else (w_X7_weigh (q + 10) (q + 1) x2 x1 M_3 (fun M_7 => ∀ x3_8 : Int32, x3_8 = ((x2 * 10) + x1) * 16 → w_X2_reckon_72  kL7 q K 4096 x1 x2 x3_8 0 M_7)))) else (w_X2_reckon_147  kL7 q x1 x2 M_3 K)))))
def w_X2_reckon_7   (q : Nat) (K : ap_Mem → Prop) : Nat → Int32 → Int32 → ap_Mem → Prop
  | 0, _, _, _ => False
  | n + 1, x1, x2, M => w_X2_reckon_7_s   (w_X2_reckon_7   q K n) q x1 x2 M K
theorem bl_X2_reckon_7 {x : ap_X} {g : ap_G} (hc : ap_Cx x g cX2_reckon RX2 5) {K : ap_Mem → Prop} (hz : ap_Ends x g 3 none (ap_Qv K))   {q : Nat} (hq : ap_kd q = 2)   : ∀ (n : Nat) (x1 : Int32) (x2 : Int32) (M : ap_Mem), w_X2_reckon_7   q K n x1 x2 M → ap_V x g 5 7 [(0, .ref (ap_ad g q)), (1, .int x1), (2, .int x2)] [] M := by
  have hg := hc.2.2.2.2.2.2.2.1
  intro n
  induction n with
  | zero => intro _ _ _ h; exact h.elim
  | succ n ih =>
    intro x1 x2 M h
    replace h : w_X2_reckon_7_s   (w_X2_reckon_7   q K n) q x1 x2 M K := h
    unfold w_X2_reckon_7_s at h
    refine ap_iload_n (q := 8) hc dX2_reckon_7 rfl rfl 2 rfl ?_
    refine ap_aload_n (q := 9) hc dX2_reckon_8 rfl rfl 0 rfl ?_
    refine ap_getR (q := 12) (r := q + 1) lg_RX2_12 (by decide) hq rfl hc dX2_reckon_9 rfl ?_
    refine ap_getI (q := 15) lg_RX2_132 (ty_2_1 hq) hc dX2_reckon_12 rfl ?_
    refine ap_icmp_ge (q := 18) (tgt := 153) hc dX2_reckon_15 rfl (by decide) (fun z_1 => ?_) (fun z_1 => ?_)
    · have h := Eq.mp (if_pos z_1) h
      exact ap_vret hc hz dX2_reckon_153 h
    · have h := Eq.mp (if_neg z_1) h
      refine ap_aload_n (q := 19) hc dX2_reckon_18 rfl rfl 0 rfl ?_
      refine ap_getR (q := 22) (r := q + 1) lg_RX2_12 (by decide) hq rfl hc dX2_reckon_19 rfl ?_
      refine ap_iload_n (q := 23) hc dX2_reckon_22 rfl rfl 2 rfl ?_
      refine ap_callV (q := 26) (As := [.int x2]) hc (ok_X3_isAway hg (ty_2_1 hq) h) ml_RX2_136 lk_X3_isAway lv_X3_isAway (ty_2_1 hq) rfl (ap_RmE hz (by decide)) rfl rfl (Nat.le_of_ble_eq_true rfl) dX2_reckon_23 rfl (ap_ki (fun r_2 M_3 h => ?_))
      refine ap_if_ne (q := 29) (tgt := 147) hc dX2_reckon_26 rfl (by decide) (fun z_4 => ?_) (fun z_4 => ?_)
      · have h := Eq.mp (if_neg z_4) h
        exact ap_sub [0, 1, 2] rfl (bl_X2_reckon_147 hc hz  hq ih  h)
      · have h := Eq.mp (if_pos z_4) h
        refine ap_aload_n (q := 30) hc dX2_reckon_29 rfl rfl 0 rfl ?_
        refine ap_getR (q := 33) (r := q + 19) lg_RX2_39 (by decide) hq rfl hc dX2_reckon_30 rfl ?_
        refine ap_iload_n (q := 34) hc dX2_reckon_33 rfl rfl 2 rfl ?_
        obtain ⟨g_5, h⟩ := h
        refine ap_iald (q := 35) (ty_2_19 hq) (tn_2_19 hq) g_5 hc dX2_reckon_34 rfl ?_
        refine ap_iload_n (q := 36) hc dX2_reckon_35 rfl rfl 1 rfl ?_
        refine ap_ishr (q := 37) hc dX2_reckon_36 rfl ?_
        refine ap_iconst (q := 38) hc dX2_reckon_37 rfl ic_1 ?_
        refine ap_iand (q := 39) hc dX2_reckon_38 rfl ?_
        refine ap_iconst (q := 40) hc dX2_reckon_39 rfl ic_1 ?_
        refine ap_icmp_ne (q := 43) (tgt := 46) hc dX2_reckon_40 rfl (by decide) (fun z_6 => ?_) (fun z_6 => ?_)
        · have h := Eq.mp (if_neg z_6) h
          refine ap_aload_n (q := 47) hc dX2_reckon_46 rfl rfl 0 rfl ?_
          refine ap_getR (q := 50) (r := q + 10) lg_RX2_31 (by decide) hq rfl hc dX2_reckon_47 rfl ?_
          refine ap_aload_n (q := 51) hc dX2_reckon_50 rfl rfl 0 rfl ?_
          refine ap_getR (q := 54) (r := q + 1) lg_RX2_12 (by decide) hq rfl hc dX2_reckon_51 rfl ?_
          refine ap_iload_n (q := 55) hc dX2_reckon_54 rfl rfl 2 rfl ?_
          refine ap_iload_n (q := 56) hc dX2_reckon_55 rfl rfl 1 rfl ?_
          refine ap_callV (q := 59) (As := [.ref (ap_ad g (q + 1)), .int x2, .int x1]) hc (ok_X7_weigh hg (ty_2_10 hq) (ty_2_1 hq) h) ml_RX2_122 lk_X7_weigh lv_X7_weigh (ty_2_10 hq) rfl (ap_RmE hz (by decide)) rfl rfl (Nat.le_of_ble_eq_true rfl) dX2_reckon_56 rfl (ap_kv (fun M_7 h => ?_))
          refine ap_iload_n (q := 60) hc dX2_reckon_59 rfl rfl 2 rfl ?_
          refine ap_bipush (q := 62) hc dX2_reckon_60 rfl bc_10 ?_
          refine ap_imul (q := 63) hc dX2_reckon_62 rfl ?_
          refine ap_iload_n (q := 64) hc dX2_reckon_63 rfl rfl 1 rfl ?_
          refine ap_iadd (q := 65) hc dX2_reckon_64 rfl ?_
          refine ap_bipush (q := 67) hc dX2_reckon_65 rfl bc_16 ?_
          refine ap_imul (q := 68) hc dX2_reckon_67 rfl ?_
          obtain ⟨x3_8, ex3_8, h⟩ := ap_nm h
          refine ap_istore_n (q := 69) (lo2 := [(3, .int x3_8), (0, .ref (ap_ad g q)), (1, .int x1), (2, .int x2)]) hc dX2_reckon_68 rfl rfl ex3_8 (by decide) rfl ?_
          refine ap_iconst (q := 70) hc dX2_reckon_69 rfl ic_0 ?_
          refine ap_istore (q := 72) (lo2 := [(4, .int 0), (3, .int x3_8), (0, .ref (ap_ad g q)), (1, .int x1), (2, .int x2)]) hc dX2_reckon_70 rfl rfl (by decide) rfl ?_
          exact ap_sub [2, 3, 4, 1, 0] rfl (bl_X2_reckon_72 hc hz  hq ih _ _ _ _ _ _ h)
        · have h := Eq.mp (if_pos z_6) h
          refine ap_goto (q := 147) hc dX2_reckon_43 (by decide) ?_
          exact ap_sub [0, 1, 2] rfl (bl_X2_reckon_147 hc hz  hq ih  h)
def w_X2_reckon   (q : Nat)  (M : ap_Mem) (K : ap_Mem → Prop) : Prop :=
w_X2_phase q M (fun r_1 M_2 => w_X2_reckon_7   q K 4096 r_1 0 M_2)
theorem bl_X2_reckon_0 {x : ap_X} {g : ap_G} (hc : ap_Cx x g cX2_reckon RX2 5) {K : ap_Mem → Prop} (hz : ap_Ends x g 3 none (ap_Qv K))   {q : Nat} (hq : ap_kd q = 2)    {M : ap_Mem}  (h : w_X2_reckon   q  M K) : ap_V x g 5 0 [(0, .ref (ap_ad g q))] [] M := by
  have hg := hc.2.2.2.2.2.2.2.1
  unfold w_X2_reckon at h
  refine ap_aload_n (q := 1) hc dX2_reckon_0 rfl rfl 0 rfl ?_
  refine ap_callV (q := 4) (As := []) hc (ok_X2_phase hg hq h) ml_RX2_118 lk_X2_phase lv_X2_phase hq rfl (ap_RmE hz (by decide)) rfl rfl (Nat.le_of_ble_eq_true rfl) dX2_reckon_1 rfl (ap_ki (fun r_1 M_2 h => ?_))
  refine ap_istore_n (q := 5) (lo2 := [(1, .int r_1), (0, .ref (ap_ad g q))]) hc dX2_reckon_4 rfl rfl rfl (by decide) rfl ?_
  refine ap_iconst (q := 6) hc dX2_reckon_5 rfl ic_0 ?_
  refine ap_istore_n (q := 7) (lo2 := [(2, .int 0), (1, .int r_1), (0, .ref (ap_ad g q))]) hc dX2_reckon_6 rfl rfl rfl (by decide) rfl ?_
  exact ap_sub [2, 1, 0] rfl (bl_X2_reckon_7 hc hz  hq  _ _ _ _ h)
theorem ok_X2_reckon {l : Launch} {g : ap_G} (hg : ap_GOK g) {q : Nat} (hq : ap_kd q = 2)  {M : ap_Mem} {K : ap_Mem → Prop} (h : w_X2_reckon q  M K) : ap_Ct l g yX2_reckon cX2_reckon 5 none 3 [.ref (ap_ad g q)] M (ap_Qv K) := by
  refine ap_Ct_of hg (by decide +kernel) (Nat.le_of_ble_eq_true rfl) (fun x hx hc hz => ?_)
  subst hx
  exact bl_X2_reckon_0 hc hz hq h
def w_X2_tug_52   (q : Nat) (x1 : Int32) (x2 : Int32) (s0 : Int32) (M : ap_Mem) (K : Int32 → ap_Mem → Prop) : Prop :=
w_X2_phase q M (fun r_1 M_2 => vp_in ((((x1 * 10) + r_1) * 16) + x2) 960 ∧ K ((M_2 (q + 18) ((((x1 * 10) + r_1) * 16) + x2).toNatClampNeg) + s0) M_2)
theorem bl_X2_tug_52 {x : ap_X} {g : ap_G} (hc : ap_Cx x g cX2_tug RX2 4) {K : Int32 → ap_Mem → Prop} (hz : ap_Ends x g 1 (some .int) (ap_Qi K))   {q : Nat} (hq : ap_kd q = 2)   {x1 : Int32} {x2 : Int32} {s0 : Int32} {M : ap_Mem}  (h : w_X2_tug_52   q x1 x2 s0 M K) : ap_V x g 4 52 [(0, .ref (ap_ad g q)), (1, .int x1), (2, .int x2)] [.int s0] M := by
  have hg := hc.2.2.2.2.2.2.2.1
  unfold w_X2_tug_52 at h
  refine ap_istore_n (q := 53) (lo2 := [(3, .int s0), (0, .ref (ap_ad g q)), (1, .int x1), (2, .int x2)]) hc dX2_tug_52 rfl rfl rfl (by decide) rfl ?_
  refine ap_aload_n (q := 54) hc dX2_tug_53 rfl rfl 1 rfl ?_
  refine ap_getR (q := 57) (r := q + 18) lg_RX2_35 (by decide) hq rfl hc dX2_tug_54 rfl ?_
  refine ap_iload_n (q := 58) hc dX2_tug_57 rfl rfl 2 rfl ?_
  refine ap_bipush (q := 60) hc dX2_tug_58 rfl bc_10 ?_
  refine ap_imul (q := 61) hc dX2_tug_60 rfl ?_
  refine ap_aload_n (q := 62) hc dX2_tug_61 rfl rfl 1 rfl ?_
  refine ap_callV (q := 65) (As := []) hc (ok_X2_phase hg hq h) ml_RX2_118 lk_X2_phase lv_X2_phase hq rfl (ap_RmE hz (by decide)) rfl rfl (Nat.le_of_ble_eq_true rfl) dX2_tug_62 rfl (ap_ki (fun r_1 M_2 h => ?_))
  refine ap_iadd (q := 66) hc dX2_tug_65 rfl ?_
  refine ap_bipush (q := 68) hc dX2_tug_66 rfl bc_16 ?_
  refine ap_imul (q := 69) hc dX2_tug_68 rfl ?_
  refine ap_iload_n (q := 70) hc dX2_tug_69 rfl rfl 3 rfl ?_
  refine ap_iadd (q := 71) hc dX2_tug_70 rfl ?_
  obtain ⟨g_3, h⟩ := h
  refine ap_iald (q := 72) (ty_2_18 hq) (tn_2_18 hq) g_3 hc dX2_tug_71 rfl ?_
  refine ap_iload_n (q := 73) hc dX2_tug_72 rfl rfl 0 rfl ?_
  refine ap_iadd (q := 74) hc dX2_tug_73 rfl ?_
  exact ap_iret hc hz rfl dX2_tug_74 h
def w_X2_tug   (q : Nat) (x1 : Int32) (x2 : Int32) (M : ap_Mem) (K : Int32 → ap_Mem → Prop) : Prop :=
w_X3_isAway (q + 1) x1 M (fun r_1 M_2 => (if r_1 = 0 then (vp_in x1 6 ∧ (if (M_2 (q + 2) x1.toNatClampNeg) = 6 then (vp_in ((x1 * 4) + ((M_2 (q + 6) 2) - (M_2 (q + 6) 2) / 4 * 4)) 24 ∧ w_X2_tug_52   q x1 x2 (M_2 (q + 5) ((x1 * 4) + ((M_2 (q + 6) 2) - (M_2 (q + 6) 2) / 4 * 4)).toNatClampNeg) M_2 K) else (w_X2_tug_52   q x1 x2 0 M_2 K))) else (K 0 M_2)))
theorem bl_X2_tug_0 {x : ap_X} {g : ap_G} (hc : ap_Cx x g cX2_tug RX2 4) {K : Int32 → ap_Mem → Prop} (hz : ap_Ends x g 1 (some .int) (ap_Qi K))   {q : Nat} (hq : ap_kd q = 2)   {x1 : Int32} {x2 : Int32} {M : ap_Mem}  (h : w_X2_tug   q x1 x2 M K) : ap_V x g 4 0 [(0, .ref (ap_ad g q)), (1, .int x1), (2, .int x2)] [] M := by
  have hg := hc.2.2.2.2.2.2.2.1
  unfold w_X2_tug at h
  refine ap_aload_n (q := 1) hc dX2_tug_0 rfl rfl 0 rfl ?_
  refine ap_getR (q := 4) (r := q + 1) lg_RX2_12 (by decide) hq rfl hc dX2_tug_1 rfl ?_
  refine ap_iload_n (q := 5) hc dX2_tug_4 rfl rfl 1 rfl ?_
  refine ap_callV (q := 8) (As := [.int x1]) hc (ok_X3_isAway hg (ty_2_1 hq) h) ml_RX2_136 lk_X3_isAway lv_X3_isAway (ty_2_1 hq) rfl (ap_RmE hz (by decide)) rfl rfl (Nat.le_of_ble_eq_true rfl) dX2_tug_5 rfl (ap_ki (fun r_1 M_2 h => ?_))
  refine ap_if_eq (q := 11) (tgt := 13) hc dX2_tug_8 rfl (by decide) (fun z_3 => ?_) (fun z_3 => ?_)
  · have h := Eq.mp (if_pos z_3) h
    refine ap_aload_n (q := 14) hc dX2_tug_13 rfl rfl 0 rfl ?_
    refine ap_getR (q := 17) (r := q + 1) lg_RX2_12 (by decide) hq rfl hc dX2_tug_14 rfl ?_
    refine ap_getR (q := 20) (r := q + 2) lg_RX2_139 (by decide) (ty_2_1 hq) rfl hc dX2_tug_17 rfl ?_
    refine ap_iload_n (q := 21) hc dX2_tug_20 rfl rfl 1 rfl ?_
    obtain ⟨g_4, h⟩ := h
    refine ap_iald (q := 22) (ty_2_2 hq) (tn_2_2 hq) g_4 hc dX2_tug_21 rfl ?_
    refine ap_bipush (q := 24) hc dX2_tug_22 rfl bc_6 ?_
    refine ap_icmp_ne (q := 27) (tgt := 51) hc dX2_tug_24 rfl (by decide) (fun z_5 => ?_) (fun z_5 => ?_)
    · have h := Eq.mp (if_neg z_5) h
      refine ap_iconst (q := 52) hc dX2_tug_51 rfl ic_0 ?_
      exact ap_sub [0, 1, 2] rfl (bl_X2_tug_52 hc hz  hq   h)
    · have h := Eq.mp (if_pos z_5) h
      refine ap_aload_n (q := 28) hc dX2_tug_27 rfl rfl 0 rfl ?_
      refine ap_getR (q := 31) (r := q + 1) lg_RX2_12 (by decide) hq rfl hc dX2_tug_28 rfl ?_
      refine ap_getR (q := 34) (r := q + 5) lg_RX2_142 (by decide) (ty_2_1 hq) rfl hc dX2_tug_31 rfl ?_
      refine ap_iload_n (q := 35) hc dX2_tug_34 rfl rfl 1 rfl ?_
      refine ap_iconst (q := 36) hc dX2_tug_35 rfl ic_4 ?_
      refine ap_imul (q := 37) hc dX2_tug_36 rfl ?_
      refine ap_aload_n (q := 38) hc dX2_tug_37 rfl rfl 0 rfl ?_
      refine ap_getR (q := 41) (r := q + 6) lg_RX2_21 (by decide) hq rfl hc dX2_tug_38 rfl ?_
      refine ap_getI (q := 44) lg_RX2_115 (ty_2_6 hq) hc dX2_tug_41 rfl ?_
      refine ap_iconst (q := 45) hc dX2_tug_44 rfl ic_4 ?_
      refine ap_irem (q := 46) hc dX2_tug_45 rfl (by decide) ?_
      refine ap_iadd (q := 47) hc dX2_tug_46 rfl ?_
      obtain ⟨g_6, h⟩ := h
      refine ap_iald (q := 48) (ty_2_5 hq) (tn_2_5 hq) g_6 hc dX2_tug_47 rfl ?_
      refine ap_goto (q := 52) hc dX2_tug_48 (by decide) ?_
      exact ap_sub [0, 1, 2] rfl (bl_X2_tug_52 hc hz  hq   h)
  · have h := Eq.mp (if_neg z_3) h
    refine ap_iconst (q := 12) hc dX2_tug_11 rfl ic_0 ?_
    exact ap_iret hc hz rfl dX2_tug_12 h
theorem ok_X2_tug {l : Launch} {g : ap_G} (hg : ap_GOK g) {q : Nat} (hq : ap_kd q = 2) {x1 : Int32} {x2 : Int32} {M : ap_Mem} {K : Int32 → ap_Mem → Prop} (h : w_X2_tug q x1 x2 M K) : ap_Ct l g yX2_tug cX2_tug 4 (some .int) 1 [.ref (ap_ad g q), .int x1, .int x2] M (ap_Qi K) := by
  refine ap_Ct_of hg (by decide +kernel) (Nat.le_of_ble_eq_true rfl) (fun x hx hc hz => ?_)
  subst hx
  exact bl_X2_tug_0 hc hz hq h
def w_X2_draw_21_s   (kL21 : Int32 → Int32 → Int32 → ap_Mem → Prop) (q : Nat) (x1 : Int32) (x2 : Int32) (x3 : Int32) (M : ap_Mem) (K : Int32 → ap_Mem → Prop) : Prop :=
(if (M (q + 1) 5) ≤ x3 then (K x2 M) else (w_X2_tug q x3 x1 M (fun r_2 M_3 => ∀ x2_4 : Int32, x2_4 = x2 + r_2 → ∀ x3_5 : Int32, x3_5 = x3 + 1 → kL21 x1 x2_4 x3_5 M_3)))
def w_X2_draw_21   (q : Nat) (K : Int32 → ap_Mem → Prop) : Nat → Int32 → Int32 → Int32 → ap_Mem → Prop
  | 0, _, _, _, _ => False
  | n + 1, x1, x2, x3, M => w_X2_draw_21_s   (w_X2_draw_21   q K n) q x1 x2 x3 M K
theorem bl_X2_draw_21 {x : ap_X} {g : ap_G} (hc : ap_Cx x g cX2_draw RX2 4) {K : Int32 → ap_Mem → Prop} (hz : ap_Ends x g 2 (some .int) (ap_Qi K))   {q : Nat} (hq : ap_kd q = 2)   : ∀ (n : Nat) (x1 : Int32) (x2 : Int32) (x3 : Int32) (M : ap_Mem), w_X2_draw_21   q K n x1 x2 x3 M → ap_V x g 4 21 [(0, .ref (ap_ad g q)), (1, .int x1), (2, .int x2), (3, .int x3)] [] M := by
  have hg := hc.2.2.2.2.2.2.2.1
  intro n
  induction n with
  | zero => intro _ _ _ _ h; exact h.elim
  | succ n ih =>
    intro x1 x2 x3 M h
    replace h : w_X2_draw_21_s   (w_X2_draw_21   q K n) q x1 x2 x3 M K := h
    unfold w_X2_draw_21_s at h
    refine ap_iload_n (q := 22) hc dX2_draw_21 rfl rfl 3 rfl ?_
    refine ap_aload_n (q := 23) hc dX2_draw_22 rfl rfl 0 rfl ?_
    refine ap_getR (q := 26) (r := q + 1) lg_RX2_12 (by decide) hq rfl hc dX2_draw_23 rfl ?_
    refine ap_getI (q := 29) lg_RX2_132 (ty_2_1 hq) hc dX2_draw_26 rfl ?_
    refine ap_icmp_ge (q := 32) (tgt := 47) hc dX2_draw_29 rfl (by decide) (fun z_1 => ?_) (fun z_1 => ?_)
    · have h := Eq.mp (if_pos z_1) h
      refine ap_iload_n (q := 48) hc dX2_draw_47 rfl rfl 2 rfl ?_
      exact ap_iret hc hz rfl dX2_draw_48 h
    · have h := Eq.mp (if_neg z_1) h
      refine ap_iload_n (q := 33) hc dX2_draw_32 rfl rfl 2 rfl ?_
      refine ap_aload_n (q := 34) hc dX2_draw_33 rfl rfl 0 rfl ?_
      refine ap_iload_n (q := 35) hc dX2_draw_34 rfl rfl 3 rfl ?_
      refine ap_iload_n (q := 36) hc dX2_draw_35 rfl rfl 1 rfl ?_
      refine ap_callV (q := 39) (As := [.int x3, .int x1]) hc (ok_X2_tug hg hq h) ml_RX2_133 lk_X2_tug lv_X2_tug hq rfl (ap_RmE hz (by decide)) rfl rfl (Nat.le_of_ble_eq_true rfl) dX2_draw_36 rfl (ap_ki (fun r_2 M_3 h => ?_))
      refine ap_iadd (q := 40) hc dX2_draw_39 rfl ?_
      obtain ⟨x2_4, ex2_4, h⟩ := ap_nm h
      refine ap_istore_n (q := 41) (lo2 := [(2, .int x2_4), (0, .ref (ap_ad g q)), (1, .int x1), (3, .int x3)]) hc dX2_draw_40 rfl rfl ex2_4 (by decide) rfl ?_
      obtain ⟨x3_5, ex3_5, h⟩ := ap_nm h
      refine ap_iinc (q := 44) (lo2 := [(3, .int x3_5), (2, .int x2_4), (0, .ref (ap_ad g q)), (1, .int x1)]) hc dX2_draw_41 rfl 3 rfl (by rw [ex3_5]; rfl) (by decide) rfl ?_
      refine ap_goto (q := 21) hc dX2_draw_44 (by decide) ?_
      exact ap_sub [2, 3, 1, 0] rfl (ih _ _ _ _ h)
def w_X2_draw   (q : Nat) (x1 : Int32) (M : ap_Mem) (K : Int32 → ap_Mem → Prop) : Prop :=
vp_in x1 16 ∧ ∀ x2_2 : Int32, x2_2 = (-(M (q + 10) 6)) * (M (q + 7) x1.toNatClampNeg) → w_X2_draw_21   q K 4096 x1 x2_2 0 M
theorem bl_X2_draw_0 {x : ap_X} {g : ap_G} (hc : ap_Cx x g cX2_draw RX2 4) {K : Int32 → ap_Mem → Prop} (hz : ap_Ends x g 2 (some .int) (ap_Qi K))   {q : Nat} (hq : ap_kd q = 2)   {x1 : Int32} {M : ap_Mem}  (h : w_X2_draw   q x1 M K) : ap_V x g 4 0 [(0, .ref (ap_ad g q)), (1, .int x1)] [] M := by
  unfold w_X2_draw at h
  refine ap_aload_n (q := 1) hc dX2_draw_0 rfl rfl 0 rfl ?_
  refine ap_getR (q := 4) (r := q + 10) lg_RX2_31 (by decide) hq rfl hc dX2_draw_1 rfl ?_
  refine ap_getI (q := 7) lg_RX2_129 (ty_2_10 hq) hc dX2_draw_4 rfl ?_
  refine ap_ineg (q := 8) hc dX2_draw_7 rfl ?_
  refine ap_aload_n (q := 9) hc dX2_draw_8 rfl rfl 0 rfl ?_
  refine ap_getR (q := 12) (r := q + 6) lg_RX2_21 (by decide) hq rfl hc dX2_draw_9 rfl ?_
  refine ap_getR (q := 15) (r := q + 7) lg_RX2_112 (by decide) (ty_2_6 hq) rfl hc dX2_draw_12 rfl ?_
  refine ap_iload_n (q := 16) hc dX2_draw_15 rfl rfl 1 rfl ?_
  obtain ⟨g_1, h⟩ := h
  refine ap_iald (q := 17) (ty_2_7 hq) (tn_2_7 hq) g_1 hc dX2_draw_16 rfl ?_
  refine ap_imul (q := 18) hc dX2_draw_17 rfl ?_
  obtain ⟨x2_2, ex2_2, h⟩ := ap_nm h
  refine ap_istore_n (q := 19) (lo2 := [(2, .int x2_2), (0, .ref (ap_ad g q)), (1, .int x1)]) hc dX2_draw_18 rfl rfl ex2_2 (by decide) rfl ?_
  refine ap_iconst (q := 20) hc dX2_draw_19 rfl ic_0 ?_
  refine ap_istore_n (q := 21) (lo2 := [(3, .int 0), (2, .int x2_2), (0, .ref (ap_ad g q)), (1, .int x1)]) hc dX2_draw_20 rfl rfl rfl (by decide) rfl ?_
  exact ap_sub [2, 3, 1, 0] rfl (bl_X2_draw_21 hc hz  hq  _ _ _ _ _ h)
theorem ok_X2_draw {l : Launch} {g : ap_G} (hg : ap_GOK g) {q : Nat} (hq : ap_kd q = 2) {x1 : Int32} {M : ap_Mem} {K : Int32 → ap_Mem → Prop} (h : w_X2_draw q x1 M K) : ap_Ct l g yX2_draw cX2_draw 4 (some .int) 2 [.ref (ap_ad g q), .int x1] M (ap_Qi K) := by
  refine ap_Ct_of hg (by decide +kernel) (Nat.le_of_ble_eq_true rfl) (fun x hx hc hz => ?_)
  subst hx
  exact bl_X2_draw_0 hc hz hq h
def w_X2_go_145   (q : Nat)  (M : ap_Mem) (K : ap_Mem → Prop) : Prop :=
∀ M_1 : ap_Mem, M_1 = ap_mu M (q + 6) 2 ((M (q + 6) 2) + 1) → K M_1
theorem bl_X2_go_145 {x : ap_X} {g : ap_G} (hc : ap_Cx x g cX2_go RX2 7) {K : ap_Mem → Prop} (hz : ap_Ends x g 4 none (ap_Qv K))   {q : Nat} (hq : ap_kd q = 2)    {M : ap_Mem}  (h : w_X2_go_145   q  M K) : ap_V x g 7 145 [(0, .ref (ap_ad g q))] [] M := by
  unfold w_X2_go_145 at h
  refine ap_aload_n (q := 146) hc dX2_go_145 rfl rfl 0 rfl ?_
  refine ap_getR (q := 149) (r := q + 6) lg_RX2_21 (by decide) hq rfl hc dX2_go_146 rfl ?_
  refine ap_dup (q := 150) hc dX2_go_149 rfl rfl ?_
  refine ap_getI (q := 153) lg_RX2_115 (ty_2_6 hq) hc dX2_go_150 rfl ?_
  refine ap_iconst (q := 154) hc dX2_go_153 rfl ic_1 ?_
  refine ap_iadd (q := 155) hc dX2_go_154 rfl ?_
  obtain ⟨M_1, eM_1, h⟩ := ap_nm h
  refine ap_putI (q := 158) lp_RX2_115 (ty_2_6 hq) eM_1 hc dX2_go_155 rfl ?_
  exact ap_vret hc hz dX2_go_158 h
def w_X2_go_105  (kL21 : Int32 → Int32 → Int32 → Int32 → ap_Mem → Prop) (q : Nat) (x1 : Int32) (x2 : Int32) (x3 : Int32) (x4 : Int32) (M : ap_Mem) (K : ap_Mem → Prop) : Prop :=
∀ x4_1 : Int32, x4_1 = x4 + 1 → kL21 x1 x2 x3 x4_1 M
theorem bl_X2_go_105 {x : ap_X} {g : ap_G} (hc : ap_Cx x g cX2_go RX2 7) {K : ap_Mem → Prop} (hz : ap_Ends x g 4 none (ap_Qv K))   {q : Nat} (hq : ap_kd q = 2) {kL21 : Int32 → Int32 → Int32 → Int32 → ap_Mem → Prop} (hk21 : ∀ (x1 : Int32) (x2 : Int32) (x3 : Int32) (x4 : Int32)  (M : ap_Mem), kL21 x1 x2 x3 x4 M → ap_V x g 7 21 [(0, .ref (ap_ad g q)), (1, .int x1), (2, .int x2), (3, .int x3), (4, .int x4)] [] M) {x1 : Int32} {x2 : Int32} {x3 : Int32} {x4 : Int32} {M : ap_Mem}  (h : w_X2_go_105  kL21 q x1 x2 x3 x4 M K) : ap_V x g 7 105 [(0, .ref (ap_ad g q)), (1, .int x1), (2, .int x2), (3, .int x3), (4, .int x4)] [] M := by
  unfold w_X2_go_105 at h
  obtain ⟨x4_1, ex4_1, h⟩ := ap_nm h
  refine ap_iinc (q := 108) (lo2 := [(4, .int x4_1), (0, .ref (ap_ad g q)), (1, .int x1), (2, .int x2), (3, .int x3)]) hc dX2_go_105 rfl 4 rfl (by rw [ex4_1]; rfl) (by decide) rfl ?_
  refine ap_goto (q := 21) hc dX2_go_108 (by decide) ?_
  exact ap_sub [1, 2, 3, 4, 0] rfl (hk21 _ _ _ _ _ h)
def w_X2_go_99  (kL21 : Int32 → Int32 → Int32 → Int32 → ap_Mem → Prop) (q : Nat) (x1 : Int32) (x4 : Int32) (x5 : Int32) (x6 : Int32) (M : ap_Mem) (K : ap_Mem → Prop) : Prop :=
w_X2_go_105  kL21 q x1 x5 x6 x4 M K
theorem bl_X2_go_99 {x : ap_X} {g : ap_G} (hc : ap_Cx x g cX2_go RX2 7) {K : ap_Mem → Prop} (hz : ap_Ends x g 4 none (ap_Qv K))   {q : Nat} (hq : ap_kd q = 2) {kL21 : Int32 → Int32 → Int32 → Int32 → ap_Mem → Prop} (hk21 : ∀ (x1 : Int32) (x2 : Int32) (x3 : Int32) (x4 : Int32)  (M : ap_Mem), kL21 x1 x2 x3 x4 M → ap_V x g 7 21 [(0, .ref (ap_ad g q)), (1, .int x1), (2, .int x2), (3, .int x3), (4, .int x4)] [] M) {x1 : Int32} {x4 : Int32} {x5 : Int32} {x6 : Int32} {M : ap_Mem}  (h : w_X2_go_99  kL21 q x1 x4 x5 x6 M K) : ap_V x g 7 99 [(0, .ref (ap_ad g q)), (1, .int x1), (4, .int x4), (5, .int x5), (6, .int x6)] [] M := by
  unfold w_X2_go_99 at h
  refine ap_iload (q := 101) hc dX2_go_99 rfl 4 rfl ?_
  refine ap_istore_n (q := 102) (lo2 := [(3, .int x6), (0, .ref (ap_ad g q)), (1, .int x1), (4, .int x4), (5, .int x5), (6, .int x6)]) hc dX2_go_101 rfl rfl rfl (by decide) rfl ?_
  refine ap_iload (q := 104) hc dX2_go_102 rfl 4 rfl ?_
  refine ap_istore_n (q := 105) (lo2 := [(2, .int x5), (3, .int x6), (0, .ref (ap_ad g q)), (1, .int x1), (4, .int x4), (5, .int x5), (6, .int x6)]) hc dX2_go_104 rfl rfl rfl (by decide) rfl ?_
  exact ap_sub [2, 3, 0, 1, 4] rfl (bl_X2_go_105 hc hz  hq hk21  h)
def w_X2_go_21_s   (kL21 : Int32 → Int32 → Int32 → Int32 → ap_Mem → Prop) (q : Nat) (x1 : Int32) (x2 : Int32) (x3 : Int32) (x4 : Int32) (M : ap_Mem) (K : ap_Mem → Prop) : Prop :=
(if (nI 4) ≤ x4 then (∀ M_2 : ap_Mem, M_2 = ap_mu M (q + 6) 1 x2 → vp_in x2 16 ∧ (if x1 ≤ (M_2 (q + 7) x2.toNatClampNeg) then (w_X2_go_145   q  M_2 K) else (vp_in x2 16 ∧ vp_in x2 16 ∧ ∀ M_7 : ap_Mem, M_7 = ap_mu M_2 (q + 7) x2.toNatClampNeg ((M_2 (q + 7) x2.toNatClampNeg) + 1) → w_X2_go_145   q  M_7 K))) else (vp_in x4 4 ∧ ∀ x5_9 : Int32, x5_9 = (M (q + 6) 1) + (ap_kT 1 x4.toNatClampNeg) → w_X8_isCell x5_9 M (fun r_10 M_11 => (if r_10 = 0 then (w_X2_go_105  kL21 q x1 x2 x3 x4 M_11 K) else (w_X8_far (M_11 (q + 6) 1) x5_9 M_11 (fun r_13 M_14 => (if r_13 = 1 then (w_X2_draw q x5_9 M_14 (fun r_16 M_17 => (if x3 < r_16 then (w_X2_go_99  kL21 q x1 x4 x5_9 r_16 M_17 K) else ((if r_16 = x3 then ((if x2 ≤ x5_9 then (w_X2_go_105  kL21 q x1 x2 x3 x4 M_17 K) else (w_X2_go_99  kL21 q x1 x4 x5_9 r_16 M_17 K))) else (w_X2_go_105  kL21 q x1 x2 x3 x4 M_17 K)))))) else (w_X2_go_105  kL21 q x1 x2 x3 x4 M_14 K))))))))
def w_X2_go_21   (q : Nat) (K : ap_Mem → Prop) : Nat → Int32 → Int32 → Int32 → Int32 → ap_Mem → Prop
  | 0, _, _, _, _, _ => False
  | n + 1, x1, x2, x3, x4, M => w_X2_go_21_s   (w_X2_go_21   q K n) q x1 x2 x3 x4 M K
theorem bl_X2_go_21 {x : ap_X} {g : ap_G} (hc : ap_Cx x g cX2_go RX2 7) {K : ap_Mem → Prop} (hz : ap_Ends x g 4 none (ap_Qv K))   {q : Nat} (hq : ap_kd q = 2)   : ∀ (n : Nat) (x1 : Int32) (x2 : Int32) (x3 : Int32) (x4 : Int32) (M : ap_Mem), w_X2_go_21   q K n x1 x2 x3 x4 M → ap_V x g 7 21 [(0, .ref (ap_ad g q)), (1, .int x1), (2, .int x2), (3, .int x3), (4, .int x4)] [] M := by
  have hg := hc.2.2.2.2.2.2.2.1
  intro n
  induction n with
  | zero => intro _ _ _ _ _ h; exact h.elim
  | succ n ih =>
    intro x1 x2 x3 x4 M h
    replace h : w_X2_go_21_s   (w_X2_go_21   q K n) q x1 x2 x3 x4 M K := h
    unfold w_X2_go_21_s at h
    refine ap_iload (q := 23) hc dX2_go_21 rfl 4 rfl ?_
    refine ap_gets1 (q := 26) fl_RX2_102 hc dX2_go_23 rfl ?_
    refine ap_klen (q := 27) (n := 4) (by decide) rfl hc dX2_go_26 rfl ?_
    refine ap_icmp_ge (q := 30) (tgt := 111) hc dX2_go_27 rfl (by decide) (fun z_1 => ?_) (fun z_1 => ?_)
    · have h := Eq.mp (if_pos z_1) h
      refine ap_aload_n (q := 112) hc dX2_go_111 rfl rfl 0 rfl ?_
      refine ap_getR (q := 115) (r := q + 6) lg_RX2_21 (by decide) hq rfl hc dX2_go_112 rfl ?_
      refine ap_iload_n (q := 116) hc dX2_go_115 rfl rfl 2 rfl ?_
      obtain ⟨M_2, eM_2, h⟩ := ap_nm h
      refine ap_putI (q := 119) lp_RX2_71 (ty_2_6 hq) eM_2 hc dX2_go_116 rfl ?_
      refine ap_aload_n (q := 120) hc dX2_go_119 rfl rfl 0 rfl ?_
      refine ap_getR (q := 123) (r := q + 6) lg_RX2_21 (by decide) hq rfl hc dX2_go_120 rfl ?_
      refine ap_getR (q := 126) (r := q + 7) lg_RX2_112 (by decide) (ty_2_6 hq) rfl hc dX2_go_123 rfl ?_
      refine ap_iload_n (q := 127) hc dX2_go_126 rfl rfl 2 rfl ?_
      obtain ⟨g_3, h⟩ := h
      refine ap_iald (q := 128) (ty_2_7 hq) (tn_2_7 hq) g_3 hc dX2_go_127 rfl ?_
      refine ap_iload_n (q := 129) hc dX2_go_128 rfl rfl 1 rfl ?_
      refine ap_icmp_ge (q := 132) (tgt := 145) hc dX2_go_129 rfl (by decide) (fun z_4 => ?_) (fun z_4 => ?_)
      · have h := Eq.mp (if_pos z_4) h
        exact ap_sub [0] rfl (bl_X2_go_145 hc hz  hq   h)
      · have h := Eq.mp (if_neg z_4) h
        refine ap_aload_n (q := 133) hc dX2_go_132 rfl rfl 0 rfl ?_
        refine ap_getR (q := 136) (r := q + 6) lg_RX2_21 (by decide) hq rfl hc dX2_go_133 rfl ?_
        refine ap_getR (q := 139) (r := q + 7) lg_RX2_112 (by decide) (ty_2_6 hq) rfl hc dX2_go_136 rfl ?_
        refine ap_iload_n (q := 140) hc dX2_go_139 rfl rfl 2 rfl ?_
        refine ap_dup2 (q := 141) hc dX2_go_140 rfl rfl rfl ?_
        obtain ⟨g_5, h⟩ := h
        refine ap_iald (q := 142) (ty_2_7 hq) (tn_2_7 hq) g_5 hc dX2_go_141 rfl ?_
        refine ap_iconst (q := 143) hc dX2_go_142 rfl ic_1 ?_
        refine ap_iadd (q := 144) hc dX2_go_143 rfl ?_
        obtain ⟨g_6, h⟩ := h
        obtain ⟨M_7, eM_7, h⟩ := ap_nm h
        refine ap_iast (q := 145) (ty_2_7 hq) (tn_2_7 hq) g_6 eM_7 hc dX2_go_144 rfl ?_
        exact ap_sub [0] rfl (bl_X2_go_145 hc hz  hq   h)
    · have h := Eq.mp (if_neg z_1) h
      refine ap_aload_n (q := 31) hc dX2_go_30 rfl rfl 0 rfl ?_
      refine ap_getR (q := 34) (r := q + 6) lg_RX2_21 (by decide) hq rfl hc dX2_go_31 rfl ?_
      refine ap_getI (q := 37) lg_RX2_71 (ty_2_6 hq) hc dX2_go_34 rfl ?_
      refine ap_gets1 (q := 40) fl_RX2_102 hc dX2_go_37 rfl ?_
      refine ap_iload (q := 42) hc dX2_go_40 rfl 4 rfl ?_
      obtain ⟨g_8, h⟩ := h
      refine ap_kald (q := 43) (by decide) rfl g_8 hc dX2_go_42 rfl ?_
      refine ap_iadd (q := 44) hc dX2_go_43 rfl ?_
      obtain ⟨x5_9, ex5_9, h⟩ := ap_nm h
      refine ap_istore (q := 46) (lo2 := [(5, .int x5_9), (0, .ref (ap_ad g q)), (1, .int x1), (2, .int x2), (3, .int x3), (4, .int x4)]) hc dX2_go_44 rfl ex5_9 (by decide) rfl ?_
      refine ap_iload (q := 48) hc dX2_go_46 rfl 0 rfl ?_
      refine ap_callSN (q := 51) (As := [.int x5_9]) hc (ok_X8_isCell hg  h) hc.2.2.2.2.2.2.1.2.2.1 lk_X8_isCell ls_X8_isCell (ap_RmE hz (by decide)) rfl rfl (Nat.le_of_ble_eq_true rfl) dX2_go_48 rfl (ap_ki (fun r_10 M_11 h => ?_))
      refine ap_if_eq (q := 54) (tgt := 105) hc dX2_go_51 rfl (by decide) (fun z_12 => ?_) (fun z_12 => ?_)
      · have h := Eq.mp (if_pos z_12) h
        exact ap_sub [1, 2, 3, 4, 5] rfl (bl_X2_go_105 hc hz  hq ih  h)
      · have h := Eq.mp (if_neg z_12) h
        refine ap_aload_n (q := 55) hc dX2_go_54 rfl rfl 1 rfl ?_
        refine ap_getR (q := 58) (r := q + 6) lg_RX2_21 (by decide) hq rfl hc dX2_go_55 rfl ?_
        refine ap_getI (q := 61) lg_RX2_71 (ty_2_6 hq) hc dX2_go_58 rfl ?_
        refine ap_iload (q := 63) hc dX2_go_61 rfl 0 rfl ?_
        refine ap_callSN (q := 66) (As := [.int (M_11 (q + 6) 1), .int x5_9]) hc (ok_X8_far hg  h) hc.2.2.2.2.2.2.1.2.2.2.1 lk_X8_far ls_X8_far (ap_RmE hz (by decide)) rfl rfl (Nat.le_of_ble_eq_true rfl) dX2_go_63 rfl (ap_ki (fun r_13 M_14 h => ?_))
        refine ap_iconst (q := 67) hc dX2_go_66 rfl ic_1 ?_
        refine ap_icmp_eq (q := 70) (tgt := 73) hc dX2_go_67 rfl (by decide) (fun z_15 => ?_) (fun z_15 => ?_)
        · have h := Eq.mp (if_pos z_15) h
          refine ap_aload_n (q := 74) hc dX2_go_73 rfl rfl 1 rfl ?_
          refine ap_iload (q := 76) hc dX2_go_74 rfl 0 rfl ?_
          refine ap_callV (q := 79) (As := [.int x5_9]) hc (ok_X2_draw hg hq h) ml_RX2_98 lk_X2_draw lv_X2_draw hq rfl (ap_RmE hz (by decide)) rfl rfl (Nat.le_of_ble_eq_true rfl) dX2_go_76 rfl (ap_ki (fun r_16 M_17 h => ?_))
          refine ap_istore (q := 81) (lo2 := [(6, .int r_16), (5, .int x5_9), (0, .ref (ap_ad g q)), (1, .int x1), (2, .int x2), (3, .int x3), (4, .int x4)]) hc dX2_go_79 rfl rfl (by decide) rfl ?_
          refine ap_iload (q := 83) hc dX2_go_81 rfl 0 rfl ?_
          refine ap_iload_n (q := 84) hc dX2_go_83 rfl rfl 5 rfl ?_
          refine ap_icmp_gt (q := 87) (tgt := 99) hc dX2_go_84 rfl (by decide) (fun z_18 => ?_) (fun z_18 => ?_)
          · have h := Eq.mp (if_pos z_18) h
            exact ap_sub [2, 3, 6, 1, 0] rfl (bl_X2_go_99 hc hz  hq ih  h)
          · have h := Eq.mp (if_neg z_18) h
            refine ap_iload (q := 89) hc dX2_go_87 rfl 0 rfl ?_
            refine ap_iload_n (q := 90) hc dX2_go_89 rfl rfl 5 rfl ?_
            refine ap_icmp_ne (q := 93) (tgt := 105) hc dX2_go_90 rfl (by decide) (fun z_19 => ?_) (fun z_19 => ?_)
            · have h := Eq.mp (if_neg z_19) h
              exact ap_sub [2, 3, 4, 5, 6] rfl (bl_X2_go_105 hc hz  hq ih  h)
            · have h := Eq.mp (if_pos z_19) h
              refine ap_iload (q := 95) hc dX2_go_93 rfl 1 rfl ?_
              refine ap_iload_n (q := 96) hc dX2_go_95 rfl rfl 4 rfl ?_
              refine ap_icmp_ge (q := 99) (tgt := 105) hc dX2_go_96 rfl (by decide) (fun z_20 => ?_) (fun z_20 => ?_)
              · have h := Eq.mp (if_pos z_20) h
                exact ap_sub [2, 3, 4, 5, 6] rfl (bl_X2_go_105 hc hz  hq ih  h)
              · have h := Eq.mp (if_neg z_20) h
                exact ap_sub [2, 3, 6, 1, 0] rfl (bl_X2_go_99 hc hz  hq ih  h)
        · have h := Eq.mp (if_neg z_15) h
          refine ap_goto (q := 105) hc dX2_go_70 (by decide) ?_
          exact ap_sub [1, 2, 3, 4, 5] rfl (bl_X2_go_105 hc hz  hq ih  h)
def w_X2_go   (q : Nat) (x1 : Int32) (M : ap_Mem) (K : ap_Mem → Prop) : Prop :=
w_X2_reckon q M (fun M_1 => ∀ x2_2 : Int32, x2_2 = M_1 (q + 6) 1 → w_X2_draw q x2_2 M_1 (fun r_3 M_4 => w_X2_go_21   q K 4096 x1 x2_2 r_3 0 M_4))
theorem bl_X2_go_0 {x : ap_X} {g : ap_G} (hc : ap_Cx x g cX2_go RX2 7) {K : ap_Mem → Prop} (hz : ap_Ends x g 4 none (ap_Qv K))   {q : Nat} (hq : ap_kd q = 2)   {x1 : Int32} {M : ap_Mem}  (h : w_X2_go   q x1 M K) : ap_V x g 7 0 [(0, .ref (ap_ad g q)), (1, .int x1)] [] M := by
  have hg := hc.2.2.2.2.2.2.2.1
  unfold w_X2_go at h
  refine ap_aload_n (q := 1) hc dX2_go_0 rfl rfl 0 rfl ?_
  refine ap_callV (q := 4) (As := []) hc (ok_X2_reckon hg hq h) ml_RX2_95 lk_X2_reckon lv_X2_reckon hq rfl (ap_RmE hz (by decide)) rfl rfl (Nat.le_of_ble_eq_true rfl) dX2_go_1 rfl (ap_kv (fun M_1 h => ?_))
  refine ap_aload_n (q := 5) hc dX2_go_4 rfl rfl 0 rfl ?_
  refine ap_getR (q := 8) (r := q + 6) lg_RX2_21 (by decide) hq rfl hc dX2_go_5 rfl ?_
  refine ap_getI (q := 11) lg_RX2_71 (ty_2_6 hq) hc dX2_go_8 rfl ?_
  obtain ⟨x2_2, ex2_2, h⟩ := ap_nm h
  refine ap_istore_n (q := 12) (lo2 := [(2, .int x2_2), (0, .ref (ap_ad g q)), (1, .int x1)]) hc dX2_go_11 rfl rfl ex2_2 (by decide) rfl ?_
  refine ap_aload_n (q := 13) hc dX2_go_12 rfl rfl 1 rfl ?_
  refine ap_iload_n (q := 14) hc dX2_go_13 rfl rfl 0 rfl ?_
  refine ap_callV (q := 17) (As := [.int x2_2]) hc (ok_X2_draw hg hq h) ml_RX2_98 lk_X2_draw lv_X2_draw hq rfl (ap_RmE hz (by decide)) rfl rfl (Nat.le_of_ble_eq_true rfl) dX2_go_14 rfl (ap_ki (fun r_3 M_4 h => ?_))
  refine ap_istore_n (q := 18) (lo2 := [(3, .int r_3), (2, .int x2_2), (0, .ref (ap_ad g q)), (1, .int x1)]) hc dX2_go_17 rfl rfl rfl (by decide) rfl ?_
  refine ap_iconst (q := 19) hc dX2_go_18 rfl ic_0 ?_
  refine ap_istore (q := 21) (lo2 := [(4, .int 0), (3, .int r_3), (2, .int x2_2), (0, .ref (ap_ad g q)), (1, .int x1)]) hc dX2_go_19 rfl rfl (by decide) rfl ?_
  exact ap_sub [3, 4, 2, 1, 0] rfl (bl_X2_go_21 hc hz  hq  _ _ _ _ _ _ h)
theorem ok_X2_go {l : Launch} {g : ap_G} (hg : ap_GOK g) {q : Nat} (hq : ap_kd q = 2) {x1 : Int32} {M : ap_Mem} {K : ap_Mem → Prop} (h : w_X2_go q x1 M K) : ap_Ct l g yX2_go cX2_go 7 none 4 [.ref (ap_ad g q), .int x1] M (ap_Qv K) := by
  refine ap_Ct_of hg (by decide +kernel) (Nat.le_of_ble_eq_true rfl) (fun x hx hc hz => ?_)
  subst hx
  exact bl_X2_go_0 hc hz hq h
def w_X2_goSteps_2_s   (kL2 : Int32 → Int32 → ap_Mem → Prop) (q : Nat) (x1 : Int32) (x2 : Int32) (M : ap_Mem) (K : ap_Mem → Prop) : Prop :=
(if x1 ≤ x2 then (K M) else (w_X2_go q 1000000 M (fun M_2 => ∀ x2_3 : Int32, x2_3 = x2 + 1 → kL2 x1 x2_3 M_2)))
def w_X2_goSteps_2   (q : Nat) (K : ap_Mem → Prop) : Nat → Int32 → Int32 → ap_Mem → Prop
  | 0, _, _, _ => False
  | n + 1, x1, x2, M => w_X2_goSteps_2_s   (w_X2_goSteps_2   q K n) q x1 x2 M K
theorem bl_X2_goSteps_2 {x : ap_X} {g : ap_G} (hc : ap_Cx x g cX2_goSteps RX2 3) {K : ap_Mem → Prop} (hz : ap_Ends x g 5 none (ap_Qv K))   {q : Nat} (hq : ap_kd q = 2)   : ∀ (n : Nat) (x1 : Int32) (x2 : Int32) (M : ap_Mem), w_X2_goSteps_2   q K n x1 x2 M → ap_V x g 3 2 [(0, .ref (ap_ad g q)), (1, .int x1), (2, .int x2)] [] M := by
  have hg := hc.2.2.2.2.2.2.2.1
  intro n
  induction n with
  | zero => intro _ _ _ h; exact h.elim
  | succ n ih =>
    intro x1 x2 M h
    replace h : w_X2_goSteps_2_s   (w_X2_goSteps_2   q K n) q x1 x2 M K := h
    unfold w_X2_goSteps_2_s at h
    refine ap_iload_n (q := 3) hc dX2_goSteps_2 rfl rfl 2 rfl ?_
    refine ap_iload_n (q := 4) hc dX2_goSteps_3 rfl rfl 1 rfl ?_
    refine ap_icmp_ge (q := 7) (tgt := 19) hc dX2_goSteps_4 rfl (by decide) (fun z_1 => ?_) (fun z_1 => ?_)
    · have h := Eq.mp (if_pos z_1) h
      exact ap_vret hc hz dX2_goSteps_19 h
    · have h := Eq.mp (if_neg z_1) h
      refine ap_aload_n (q := 8) hc dX2_goSteps_7 rfl rfl 0 rfl ?_
      refine ap_ldc (q := 10) hc dX2_goSteps_8 rfl ct_RX2_66 ?_
      refine ap_callV (q := 13) (As := [.int 1000000]) hc (ok_X2_go hg hq h) ml_RX2_67 lk_X2_go lv_X2_go hq rfl (ap_RmE hz (by decide)) rfl rfl (Nat.le_of_ble_eq_true rfl) dX2_goSteps_10 rfl (ap_kv (fun M_2 h => ?_))
      obtain ⟨x2_3, ex2_3, h⟩ := ap_nm h
      refine ap_iinc (q := 16) (lo2 := [(2, .int x2_3), (0, .ref (ap_ad g q)), (1, .int x1)]) hc dX2_goSteps_13 rfl 2 rfl (by rw [ex2_3]; rfl) (by decide) rfl ?_
      refine ap_goto (q := 2) hc dX2_goSteps_16 (by decide) ?_
      exact ap_sub [1, 2, 0] rfl (ih _ _ _ h)
def w_X2_goSteps   (q : Nat) (x1 : Int32) (M : ap_Mem) (K : ap_Mem → Prop) : Prop :=
w_X2_goSteps_2   q K 4096 x1 0 M
theorem bl_X2_goSteps_0 {x : ap_X} {g : ap_G} (hc : ap_Cx x g cX2_goSteps RX2 3) {K : ap_Mem → Prop} (hz : ap_Ends x g 5 none (ap_Qv K))   {q : Nat} (hq : ap_kd q = 2)   {x1 : Int32} {M : ap_Mem}  (h : w_X2_goSteps   q x1 M K) : ap_V x g 3 0 [(0, .ref (ap_ad g q)), (1, .int x1)] [] M := by
  unfold w_X2_goSteps at h
  refine ap_iconst (q := 1) hc dX2_goSteps_0 rfl ic_0 ?_
  refine ap_istore_n (q := 2) (lo2 := [(2, .int 0), (0, .ref (ap_ad g q)), (1, .int x1)]) hc dX2_goSteps_1 rfl rfl rfl (by decide) rfl ?_
  exact ap_sub [1, 2, 0] rfl (bl_X2_goSteps_2 hc hz  hq  _ _ _ _ h)
theorem ok_X2_goSteps {l : Launch} {g : ap_G} (hg : ap_GOK g) {q : Nat} (hq : ap_kd q = 2) {x1 : Int32} {M : ap_Mem} {K : ap_Mem → Prop} (h : w_X2_goSteps q x1 M K) : ap_Ct l g yX2_goSteps cX2_goSteps 3 none 5 [.ref (ap_ad g q), .int x1] M (ap_Qv K) := by
  refine ap_Ct_of hg (by decide +kernel) (Nat.le_of_ble_eq_true rfl) (fun x hx hc hz => ?_)
  subst hx
  exact bl_X2_goSteps_0 hc hz hq h
def w_X2_comesTo_2_s   (kL2 : Int32 → Int32 → Int32 → ap_Mem → Prop) (q : Nat) (x1 : Int32) (x2 : Int32) (x3 : Int32) (M : ap_Mem) (K : Int32 → ap_Mem → Prop) : Prop :=
(if x2 < x3 then (K (-5) M) else ((if (M (q + 6) 1) = x1 then (K x3 M) else (w_X2_go q 1000000 M (fun M_3 => ∀ x3_4 : Int32, x3_4 = x3 + 1 → kL2 x1 x2 x3_4 M_3)))))
def w_X2_comesTo_2   (q : Nat) (K : Int32 → ap_Mem → Prop) : Nat → Int32 → Int32 → Int32 → ap_Mem → Prop
  | 0, _, _, _, _ => False
  | n + 1, x1, x2, x3, M => w_X2_comesTo_2_s   (w_X2_comesTo_2   q K n) q x1 x2 x3 M K
theorem bl_X2_comesTo_2 {x : ap_X} {g : ap_G} (hc : ap_Cx x g cX2_comesTo RX2 4) {K : Int32 → ap_Mem → Prop} (hz : ap_Ends x g 5 (some .int) (ap_Qi K))   {q : Nat} (hq : ap_kd q = 2)   : ∀ (n : Nat) (x1 : Int32) (x2 : Int32) (x3 : Int32) (M : ap_Mem), w_X2_comesTo_2   q K n x1 x2 x3 M → ap_V x g 4 2 [(0, .ref (ap_ad g q)), (1, .int x1), (2, .int x2), (3, .int x3)] [] M := by
  have hg := hc.2.2.2.2.2.2.2.1
  intro n
  induction n with
  | zero => intro _ _ _ _ h; exact h.elim
  | succ n ih =>
    intro x1 x2 x3 M h
    replace h : w_X2_comesTo_2_s   (w_X2_comesTo_2   q K n) q x1 x2 x3 M K := h
    unfold w_X2_comesTo_2_s at h
    refine ap_iload_n (q := 3) hc dX2_comesTo_2 rfl rfl 3 rfl ?_
    refine ap_iload_n (q := 4) hc dX2_comesTo_3 rfl rfl 2 rfl ?_
    refine ap_icmp_gt (q := 7) (tgt := 32) hc dX2_comesTo_4 rfl (by decide) (fun z_1 => ?_) (fun z_1 => ?_)
    · have h := Eq.mp (if_pos z_1) h
      refine ap_bipush (q := 34) hc dX2_comesTo_32 rfl bc_m5 ?_
      exact ap_iret hc hz rfl dX2_comesTo_34 h
    · have h := Eq.mp (if_neg z_1) h
      refine ap_aload_n (q := 8) hc dX2_comesTo_7 rfl rfl 0 rfl ?_
      refine ap_getR (q := 11) (r := q + 6) lg_RX2_21 (by decide) hq rfl hc dX2_comesTo_8 rfl ?_
      refine ap_getI (q := 14) lg_RX2_71 (ty_2_6 hq) hc dX2_comesTo_11 rfl ?_
      refine ap_iload_n (q := 15) hc dX2_comesTo_14 rfl rfl 1 rfl ?_
      refine ap_icmp_ne (q := 18) (tgt := 20) hc dX2_comesTo_15 rfl (by decide) (fun z_2 => ?_) (fun z_2 => ?_)
      · have h := Eq.mp (if_neg z_2) h
        refine ap_aload_n (q := 21) hc dX2_comesTo_20 rfl rfl 0 rfl ?_
        refine ap_ldc (q := 23) hc dX2_comesTo_21 rfl ct_RX2_66 ?_
        refine ap_callV (q := 26) (As := [.int 1000000]) hc (ok_X2_go hg hq h) ml_RX2_67 lk_X2_go lv_X2_go hq rfl (ap_RmE hz (by decide)) rfl rfl (Nat.le_of_ble_eq_true rfl) dX2_comesTo_23 rfl (ap_kv (fun M_3 h => ?_))
        obtain ⟨x3_4, ex3_4, h⟩ := ap_nm h
        refine ap_iinc (q := 29) (lo2 := [(3, .int x3_4), (0, .ref (ap_ad g q)), (1, .int x1), (2, .int x2)]) hc dX2_comesTo_26 rfl 3 rfl (by rw [ex3_4]; rfl) (by decide) rfl ?_
        refine ap_goto (q := 2) hc dX2_comesTo_29 (by decide) ?_
        exact ap_sub [1, 2, 3, 0] rfl (ih _ _ _ _ h)
      · have h := Eq.mp (if_pos z_2) h
        refine ap_iload_n (q := 19) hc dX2_comesTo_18 rfl rfl 3 rfl ?_
        exact ap_iret hc hz rfl dX2_comesTo_19 h
def w_X2_comesTo   (q : Nat) (x1 : Int32) (x2 : Int32) (M : ap_Mem) (K : Int32 → ap_Mem → Prop) : Prop :=
w_X2_comesTo_2   q K 4096 x1 x2 0 M
theorem bl_X2_comesTo_0 {x : ap_X} {g : ap_G} (hc : ap_Cx x g cX2_comesTo RX2 4) {K : Int32 → ap_Mem → Prop} (hz : ap_Ends x g 5 (some .int) (ap_Qi K))   {q : Nat} (hq : ap_kd q = 2)   {x1 : Int32} {x2 : Int32} {M : ap_Mem}  (h : w_X2_comesTo   q x1 x2 M K) : ap_V x g 4 0 [(0, .ref (ap_ad g q)), (1, .int x1), (2, .int x2)] [] M := by
  unfold w_X2_comesTo at h
  refine ap_iconst (q := 1) hc dX2_comesTo_0 rfl ic_0 ?_
  refine ap_istore_n (q := 2) (lo2 := [(3, .int 0), (0, .ref (ap_ad g q)), (1, .int x1), (2, .int x2)]) hc dX2_comesTo_1 rfl rfl rfl (by decide) rfl ?_
  exact ap_sub [1, 2, 3, 0] rfl (bl_X2_comesTo_2 hc hz  hq  _ _ _ _ _ h)
theorem ok_X2_comesTo {l : Launch} {g : ap_G} (hg : ap_GOK g) {q : Nat} (hq : ap_kd q = 2) {x1 : Int32} {x2 : Int32} {M : ap_Mem} {K : Int32 → ap_Mem → Prop} (h : w_X2_comesTo q x1 x2 M K) : ap_Ct l g yX2_comesTo cX2_comesTo 4 (some .int) 5 [.ref (ap_ad g q), .int x1, .int x2] M (ap_Qi K) := by
  refine ap_Ct_of hg (by decide +kernel) (Nat.le_of_ble_eq_true rfl) (fun x hx hc hz => ?_)
  subst hx
  exact bl_X2_comesTo_0 hc hz hq h
def w_X2_putPerson   (q : Nat) (x1 : Int32) (x2 : Int32) (M : ap_Mem) (K : ap_Mem → Prop) : Prop :=
vp_in x1 6 ∧ ∀ M_2 : ap_Mem, M_2 = ap_mu M (q + 4) x1.toNatClampNeg x2 → vp_in x1 6 ∧ ∀ M_4 : ap_Mem, M_4 = ap_mu M_2 (q + 19) x1.toNatClampNeg 0 → K M_4
theorem bl_X2_putPerson_0 {x : ap_X} {g : ap_G} (hc : ap_Cx x g cX2_putPerson RX2 3) {K : ap_Mem → Prop} (hz : ap_Ends x g 0 none (ap_Qv K))   {q : Nat} (hq : ap_kd q = 2)   {x1 : Int32} {x2 : Int32} {M : ap_Mem}  (h : w_X2_putPerson   q x1 x2 M K) : ap_V x g 3 0 [(0, .ref (ap_ad g q)), (1, .int x1), (2, .int x2)] [] M := by
  unfold w_X2_putPerson at h
  refine ap_aload_n (q := 1) hc dX2_putPerson_0 rfl rfl 0 rfl ?_
  refine ap_getR (q := 4) (r := q + 1) lg_RX2_12 (by decide) hq rfl hc dX2_putPerson_1 rfl ?_
  refine ap_getR (q := 7) (r := q + 4) lg_RX2_60 (by decide) (ty_2_1 hq) rfl hc dX2_putPerson_4 rfl ?_
  refine ap_iload_n (q := 8) hc dX2_putPerson_7 rfl rfl 1 rfl ?_
  refine ap_iload_n (q := 9) hc dX2_putPerson_8 rfl rfl 2 rfl ?_
  obtain ⟨g_1, h⟩ := h
  obtain ⟨M_2, eM_2, h⟩ := ap_nm h
  refine ap_iast (q := 10) (ty_2_4 hq) (tn_2_4 hq) g_1 eM_2 hc dX2_putPerson_9 rfl ?_
  refine ap_aload_n (q := 11) hc dX2_putPerson_10 rfl rfl 0 rfl ?_
  refine ap_getR (q := 14) (r := q + 19) lg_RX2_39 (by decide) hq rfl hc dX2_putPerson_11 rfl ?_
  refine ap_iload_n (q := 15) hc dX2_putPerson_14 rfl rfl 1 rfl ?_
  refine ap_iconst (q := 16) hc dX2_putPerson_15 rfl ic_0 ?_
  obtain ⟨g_3, h⟩ := h
  obtain ⟨M_4, eM_4, h⟩ := ap_nm h
  refine ap_iast (q := 17) (ty_2_19 hq) (tn_2_19 hq) g_3 eM_4 hc dX2_putPerson_16 rfl ?_
  exact ap_vret hc hz dX2_putPerson_17 h
theorem ok_X2_putPerson {l : Launch} {g : ap_G} (hg : ap_GOK g) {q : Nat} (hq : ap_kd q = 2) {x1 : Int32} {x2 : Int32} {M : ap_Mem} {K : ap_Mem → Prop} (h : w_X2_putPerson q x1 x2 M K) : ap_Ct l g yX2_putPerson cX2_putPerson 3 none 0 [.ref (ap_ad g q), .int x1, .int x2] M (ap_Qv K) := by
  refine ap_Ct_of hg (by decide +kernel) (Nat.le_of_ble_eq_true rfl) (fun x hx hc hz => ?_)
  subst hx
  exact bl_X2_putPerson_0 hc hz hq h
def w_X2_isAsSeen_82  (kL43 : Int32 → Int32 → Int32 → ap_Mem → Prop) (q : Nat) (o1 : Nat) (x2 : Int32) (x3 : Int32) (x4 : Int32) (M : ap_Mem) (K : Int32 → ap_Mem → Prop) : Prop :=
∀ x4_1 : Int32, x4_1 = x4 + 1 → kL43 x2 x3 x4_1 M
theorem bl_X2_isAsSeen_82 {x : ap_X} {g : ap_G} (hc : ap_Cx x g cX2_isAsSeen RX2 5) {K : Int32 → ap_Mem → Prop} (hz : ap_Ends x g 5 (some .boolean) (ap_Qi K))   {q : Nat} {o1 : Nat} (hq : ap_kd q = 2) (ho1 : ap_kd o1 = 5) {kL43 : Int32 → Int32 → Int32 → ap_Mem → Prop} (hk43 : ∀ (x2 : Int32) (x3 : Int32) (x4 : Int32)  (M : ap_Mem), kL43 x2 x3 x4 M → ap_V x g 5 43 [(0, .ref (ap_ad g q)), (1, .ref (ap_ad g o1)), (2, .int x2), (3, .int x3), (4, .int x4)] [] M) {x2 : Int32} {x3 : Int32} {x4 : Int32} {M : ap_Mem}  (h : w_X2_isAsSeen_82  kL43 q o1 x2 x3 x4 M K) : ap_V x g 5 82 [(0, .ref (ap_ad g q)), (1, .ref (ap_ad g o1)), (2, .int x2), (3, .int x3), (4, .int x4)] [] M := by
  unfold w_X2_isAsSeen_82 at h
  obtain ⟨x4_1, ex4_1, h⟩ := ap_nm h
  refine ap_iinc (q := 85) (lo2 := [(4, .int x4_1), (0, .ref (ap_ad g q)), (1, .ref (ap_ad g o1)), (2, .int x2), (3, .int x3)]) hc dX2_isAsSeen_82 rfl 4 rfl (by rw [ex4_1]; rfl) (by decide) rfl ?_
  refine ap_goto (q := 43) hc dX2_isAsSeen_85 (by decide) ?_
  exact ap_sub [1, 2, 3, 4, 0] rfl (hk43 _ _ _ _ h)
def w_X2_isAsSeen_43_s  (kL35 : Int32 → Int32 → ap_Mem → Prop) (kL43 : Int32 → Int32 → Int32 → ap_Mem → Prop) (q : Nat) (o1 : Nat) (x2 : Int32) (x3 : Int32) (x4 : Int32) (M : ap_Mem) (K : Int32 → ap_Mem → Prop) : Prop :=
(if (M o1 2) ≤ x4 then (w_X2_go q 1000000 M (fun M_2 => ∀ x3_3 : Int32, x3_3 = x3 + 1 → kL35 x2 x3_3 M_2)) else (vp_in x4 (ap_ln (o1 + 2)) ∧ (if (M (o1 + 2) x4.toNatClampNeg) = x3 then (vp_in x4 (ap_ln (o1 + 1)) ∧ (if (M (o1 + 1) x4.toNatClampNeg) = (M (q + 6) 1) then (w_X2_isAsSeen_82  kL43 q o1 x2 x3 x4 M K) else (K 0 M))) else (w_X2_isAsSeen_82  kL43 q o1 x2 x3 x4 M K))))
def w_X2_isAsSeen_43  (kL35 : Int32 → Int32 → ap_Mem → Prop) (q : Nat) (o1 : Nat) (K : Int32 → ap_Mem → Prop) : Nat → Int32 → Int32 → Int32 → ap_Mem → Prop
  | 0, _, _, _, _ => False
  | n + 1, x2, x3, x4, M => w_X2_isAsSeen_43_s  kL35 (w_X2_isAsSeen_43  kL35 q o1 K n) q o1 x2 x3 x4 M K
theorem bl_X2_isAsSeen_43 {x : ap_X} {g : ap_G} (hc : ap_Cx x g cX2_isAsSeen RX2 5) {K : Int32 → ap_Mem → Prop} (hz : ap_Ends x g 5 (some .boolean) (ap_Qi K))   {q : Nat} {o1 : Nat} (hq : ap_kd q = 2) (ho1 : ap_kd o1 = 5) {kL35 : Int32 → Int32 → ap_Mem → Prop} (hk35 : ∀ (x2 : Int32) (x3 : Int32)  (M : ap_Mem), kL35 x2 x3 M → ap_V x g 5 35 [(0, .ref (ap_ad g q)), (1, .ref (ap_ad g o1)), (2, .int x2), (3, .int x3)] [] M) : ∀ (n : Nat) (x2 : Int32) (x3 : Int32) (x4 : Int32) (M : ap_Mem), w_X2_isAsSeen_43  kL35 q o1 K n x2 x3 x4 M → ap_V x g 5 43 [(0, .ref (ap_ad g q)), (1, .ref (ap_ad g o1)), (2, .int x2), (3, .int x3), (4, .int x4)] [] M := by
  have hg := hc.2.2.2.2.2.2.2.1
  intro n
  induction n with
  | zero => intro _ _ _ _ h; exact h.elim
  | succ n ih =>
    intro x2 x3 x4 M h
    replace h : w_X2_isAsSeen_43_s  kL35 (w_X2_isAsSeen_43  kL35 q o1 K n) q o1 x2 x3 x4 M K := h
    unfold w_X2_isAsSeen_43_s at h
    refine ap_iload (q := 45) hc dX2_isAsSeen_43 rfl 4 rfl ?_
    refine ap_aload_n (q := 46) hc dX2_isAsSeen_45 rfl rfl 1 rfl ?_
    refine ap_getI (q := 49) lg_RX2_78 ho1 hc dX2_isAsSeen_46 rfl ?_
    refine ap_icmp_ge (q := 52) (tgt := 88) hc dX2_isAsSeen_49 rfl (by decide) (fun z_1 => ?_) (fun z_1 => ?_)
    · have h := Eq.mp (if_pos z_1) h
      refine ap_aload_n (q := 89) hc dX2_isAsSeen_88 rfl rfl 0 rfl ?_
      refine ap_ldc (q := 91) hc dX2_isAsSeen_89 rfl ct_RX2_66 ?_
      refine ap_callV (q := 94) (As := [.int 1000000]) hc (ok_X2_go hg hq h) ml_RX2_67 lk_X2_go lv_X2_go hq rfl (ap_RmE hz (by decide)) rfl rfl (Nat.le_of_ble_eq_true rfl) dX2_isAsSeen_91 rfl (ap_kv (fun M_2 h => ?_))
      obtain ⟨x3_3, ex3_3, h⟩ := ap_nm h
      refine ap_iinc (q := 97) (lo2 := [(3, .int x3_3), (0, .ref (ap_ad g q)), (1, .ref (ap_ad g o1)), (2, .int x2), (4, .int x4)]) hc dX2_isAsSeen_94 rfl 3 rfl (by rw [ex3_3]; rfl) (by decide) rfl ?_
      refine ap_goto (q := 35) hc dX2_isAsSeen_97 (by decide) ?_
      exact ap_sub [1, 2, 3, 0] rfl (hk35 _ _ _ h)
    · have h := Eq.mp (if_neg z_1) h
      refine ap_aload_n (q := 53) hc dX2_isAsSeen_52 rfl rfl 1 rfl ?_
      refine ap_getR (q := 56) (r := o1 + 2) lg_RX2_83 (by decide) ho1 rfl hc dX2_isAsSeen_53 rfl ?_
      refine ap_iload (q := 58) hc dX2_isAsSeen_56 rfl 4 rfl ?_
      obtain ⟨g_4, h⟩ := h
      refine ap_iald (q := 59) (ty_5_2 ho1) rfl g_4 hc dX2_isAsSeen_58 rfl ?_
      refine ap_iload_n (q := 60) hc dX2_isAsSeen_59 rfl rfl 3 rfl ?_
      refine ap_icmp_ne (q := 63) (tgt := 82) hc dX2_isAsSeen_60 rfl (by decide) (fun z_5 => ?_) (fun z_5 => ?_)
      · have h := Eq.mp (if_neg z_5) h
        exact ap_sub [0, 1, 2, 3, 4] rfl (bl_X2_isAsSeen_82 hc hz  hq ho1 ih  h)
      · have h := Eq.mp (if_pos z_5) h
        refine ap_aload_n (q := 64) hc dX2_isAsSeen_63 rfl rfl 1 rfl ?_
        refine ap_getR (q := 67) (r := o1 + 1) lg_RX2_92 (by decide) ho1 rfl hc dX2_isAsSeen_64 rfl ?_
        refine ap_iload (q := 69) hc dX2_isAsSeen_67 rfl 4 rfl ?_
        obtain ⟨g_6, h⟩ := h
        refine ap_iald (q := 70) (ty_5_1 ho1) rfl g_6 hc dX2_isAsSeen_69 rfl ?_
        refine ap_aload_n (q := 71) hc dX2_isAsSeen_70 rfl rfl 0 rfl ?_
        refine ap_getR (q := 74) (r := q + 6) lg_RX2_21 (by decide) hq rfl hc dX2_isAsSeen_71 rfl ?_
        refine ap_getI (q := 77) lg_RX2_71 (ty_2_6 hq) hc dX2_isAsSeen_74 rfl ?_
        refine ap_icmp_eq (q := 80) (tgt := 82) hc dX2_isAsSeen_77 rfl (by decide) (fun z_7 => ?_) (fun z_7 => ?_)
        · have h := Eq.mp (if_pos z_7) h
          exact ap_sub [0, 1, 2, 3, 4] rfl (bl_X2_isAsSeen_82 hc hz  hq ho1 ih  h)
        · have h := Eq.mp (if_neg z_7) h
          refine ap_iconst (q := 81) hc dX2_isAsSeen_80 rfl ic_0 ?_
          exact ap_iret hc hz (ap_Bn ap_B0) dX2_isAsSeen_81 h
def w_X2_isAsSeen_35_s   (kL35 : Int32 → Int32 → ap_Mem → Prop) (q : Nat) (o1 : Nat) (x2 : Int32) (x3 : Int32) (M : ap_Mem) (K : Int32 → ap_Mem → Prop) : Prop :=
(if x2 < x3 then (K 1 M) else (w_X2_isAsSeen_43  kL35 q o1 K 4096 x2 x3 0 M))
def w_X2_isAsSeen_35   (q : Nat) (o1 : Nat) (K : Int32 → ap_Mem → Prop) : Nat → Int32 → Int32 → ap_Mem → Prop
  | 0, _, _, _ => False
  | n + 1, x2, x3, M => w_X2_isAsSeen_35_s   (w_X2_isAsSeen_35   q o1 K n) q o1 x2 x3 M K
theorem bl_X2_isAsSeen_35 {x : ap_X} {g : ap_G} (hc : ap_Cx x g cX2_isAsSeen RX2 5) {K : Int32 → ap_Mem → Prop} (hz : ap_Ends x g 5 (some .boolean) (ap_Qi K))   {q : Nat} {o1 : Nat} (hq : ap_kd q = 2) (ho1 : ap_kd o1 = 5)   : ∀ (n : Nat) (x2 : Int32) (x3 : Int32) (M : ap_Mem), w_X2_isAsSeen_35   q o1 K n x2 x3 M → ap_V x g 5 35 [(0, .ref (ap_ad g q)), (1, .ref (ap_ad g o1)), (2, .int x2), (3, .int x3)] [] M := by
  intro n
  induction n with
  | zero => intro _ _ _ h; exact h.elim
  | succ n ih =>
    intro x2 x3 M h
    replace h : w_X2_isAsSeen_35_s   (w_X2_isAsSeen_35   q o1 K n) q o1 x2 x3 M K := h
    unfold w_X2_isAsSeen_35_s at h
    refine ap_iload_n (q := 36) hc dX2_isAsSeen_35 rfl rfl 3 rfl ?_
    refine ap_iload_n (q := 37) hc dX2_isAsSeen_36 rfl rfl 2 rfl ?_
    refine ap_icmp_gt (q := 40) (tgt := 100) hc dX2_isAsSeen_37 rfl (by decide) (fun z_1 => ?_) (fun z_1 => ?_)
    · have h := Eq.mp (if_pos z_1) h
      refine ap_iconst (q := 101) hc dX2_isAsSeen_100 rfl ic_1 ?_
      exact ap_iret hc hz (ap_Bn ap_B1) dX2_isAsSeen_101 h
    · have h := Eq.mp (if_neg z_1) h
      refine ap_iconst (q := 41) hc dX2_isAsSeen_40 rfl ic_0 ?_
      refine ap_istore (q := 43) (lo2 := [(4, .int 0), (0, .ref (ap_ad g q)), (1, .ref (ap_ad g o1)), (2, .int x2), (3, .int x3)]) hc dX2_isAsSeen_41 rfl rfl (by decide) rfl ?_
      exact ap_sub [1, 2, 3, 4, 0] rfl (bl_X2_isAsSeen_43 hc hz  hq ho1 ih _ _ _ _ _ h)
def w_X2_isAsSeen_4_s   (kL4 : Int32 → Int32 → ap_Mem → Prop) (q : Nat) (o1 : Nat) (x2 : Int32) (x3 : Int32) (M : ap_Mem) (K : Int32 → ap_Mem → Prop) : Prop :=
(if (M o1 2) ≤ x3 then (w_X2_again q M (fun M_2 => w_X2_isAsSeen_35   q o1 K 4096 x2 0 M_2)) else (vp_in x3 (ap_ln (o1 + 2)) ∧ ∀ x2_4 : Int32, x2_4 = ap_max x2 (M (o1 + 2) x3.toNatClampNeg) → ∀ x3_5 : Int32, x3_5 = x3 + 1 → kL4 x2_4 x3_5 M))
def w_X2_isAsSeen_4   (q : Nat) (o1 : Nat) (K : Int32 → ap_Mem → Prop) : Nat → Int32 → Int32 → ap_Mem → Prop
  | 0, _, _, _ => False
  | n + 1, x2, x3, M => w_X2_isAsSeen_4_s   (w_X2_isAsSeen_4   q o1 K n) q o1 x2 x3 M K
theorem bl_X2_isAsSeen_4 {x : ap_X} {g : ap_G} (hc : ap_Cx x g cX2_isAsSeen RX2 5) {K : Int32 → ap_Mem → Prop} (hz : ap_Ends x g 5 (some .boolean) (ap_Qi K))   {q : Nat} {o1 : Nat} (hq : ap_kd q = 2) (ho1 : ap_kd o1 = 5)   : ∀ (n : Nat) (x2 : Int32) (x3 : Int32) (M : ap_Mem), w_X2_isAsSeen_4   q o1 K n x2 x3 M → ap_V x g 5 4 [(0, .ref (ap_ad g q)), (1, .ref (ap_ad g o1)), (2, .int x2), (3, .int x3)] [] M := by
  have hg := hc.2.2.2.2.2.2.2.1
  intro n
  induction n with
  | zero => intro _ _ _ h; exact h.elim
  | succ n ih =>
    intro x2 x3 M h
    replace h : w_X2_isAsSeen_4_s   (w_X2_isAsSeen_4   q o1 K n) q o1 x2 x3 M K := h
    unfold w_X2_isAsSeen_4_s at h
    refine ap_iload_n (q := 5) hc dX2_isAsSeen_4 rfl rfl 3 rfl ?_
    refine ap_aload_n (q := 6) hc dX2_isAsSeen_5 rfl rfl 1 rfl ?_
    refine ap_getI (q := 9) lg_RX2_78 ho1 hc dX2_isAsSeen_6 rfl ?_
    refine ap_icmp_ge (q := 12) (tgt := 29) hc dX2_isAsSeen_9 rfl (by decide) (fun z_1 => ?_) (fun z_1 => ?_)
    · have h := Eq.mp (if_pos z_1) h
      refine ap_aload_n (q := 30) hc dX2_isAsSeen_29 rfl rfl 0 rfl ?_
      refine ap_callV (q := 33) (As := []) hc (ok_X2_again hg hq h) ml_RX2_57 lk_X2_again lv_X2_again hq rfl (ap_RmE hz (by decide)) rfl rfl (Nat.le_of_ble_eq_true rfl) dX2_isAsSeen_30 rfl (ap_kv (fun M_2 h => ?_))
      refine ap_iconst (q := 34) hc dX2_isAsSeen_33 rfl ic_0 ?_
      refine ap_istore_n (q := 35) (lo2 := [(3, .int 0), (0, .ref (ap_ad g q)), (1, .ref (ap_ad g o1)), (2, .int x2)]) hc dX2_isAsSeen_34 rfl rfl rfl (by decide) rfl ?_
      exact ap_sub [1, 2, 3, 0] rfl (bl_X2_isAsSeen_35 hc hz  hq ho1  _ _ _ _ h)
    · have h := Eq.mp (if_neg z_1) h
      refine ap_iload_n (q := 13) hc dX2_isAsSeen_12 rfl rfl 2 rfl ?_
      refine ap_aload_n (q := 14) hc dX2_isAsSeen_13 rfl rfl 1 rfl ?_
      refine ap_getR (q := 17) (r := o1 + 2) lg_RX2_83 (by decide) ho1 rfl hc dX2_isAsSeen_14 rfl ?_
      refine ap_iload_n (q := 18) hc dX2_isAsSeen_17 rfl rfl 3 rfl ?_
      obtain ⟨g_3, h⟩ := h
      refine ap_iald (q := 19) (ty_5_2 ho1) rfl g_3 hc dX2_isAsSeen_18 rfl ?_
      refine ap_mmax (q := 22) lm_RX2_86 (ap_RmE hz (by decide)) (Nat.le_of_ble_eq_true rfl) hc dX2_isAsSeen_19 rfl ?_
      obtain ⟨x2_4, ex2_4, h⟩ := ap_nm h
      refine ap_istore_n (q := 23) (lo2 := [(2, .int x2_4), (0, .ref (ap_ad g q)), (1, .ref (ap_ad g o1)), (3, .int x3)]) hc dX2_isAsSeen_22 rfl rfl ex2_4 (by decide) rfl ?_
      obtain ⟨x3_5, ex3_5, h⟩ := ap_nm h
      refine ap_iinc (q := 26) (lo2 := [(3, .int x3_5), (2, .int x2_4), (0, .ref (ap_ad g q)), (1, .ref (ap_ad g o1))]) hc dX2_isAsSeen_23 rfl 3 rfl (by rw [ex3_5]; rfl) (by decide) rfl ?_
      refine ap_goto (q := 4) hc dX2_isAsSeen_26 (by decide) ?_
      exact ap_sub [2, 3, 1, 0] rfl (ih _ _ _ h)
def w_X2_isAsSeen   (q : Nat) (o1 : Nat)  (M : ap_Mem) (K : Int32 → ap_Mem → Prop) : Prop :=
w_X2_isAsSeen_4   q o1 K 4096 0 0 M
theorem bl_X2_isAsSeen_0 {x : ap_X} {g : ap_G} (hc : ap_Cx x g cX2_isAsSeen RX2 5) {K : Int32 → ap_Mem → Prop} (hz : ap_Ends x g 5 (some .boolean) (ap_Qi K))   {q : Nat} {o1 : Nat} (hq : ap_kd q = 2) (ho1 : ap_kd o1 = 5)    {M : ap_Mem}  (h : w_X2_isAsSeen   q o1  M K) : ap_V x g 5 0 [(0, .ref (ap_ad g q)), (1, .ref (ap_ad g o1))] [] M := by
  unfold w_X2_isAsSeen at h
  refine ap_iconst (q := 1) hc dX2_isAsSeen_0 rfl ic_0 ?_
  refine ap_istore_n (q := 2) (lo2 := [(2, .int 0), (0, .ref (ap_ad g q)), (1, .ref (ap_ad g o1))]) hc dX2_isAsSeen_1 rfl rfl rfl (by decide) rfl ?_
  refine ap_iconst (q := 3) hc dX2_isAsSeen_2 rfl ic_0 ?_
  refine ap_istore_n (q := 4) (lo2 := [(3, .int 0), (2, .int 0), (0, .ref (ap_ad g q)), (1, .ref (ap_ad g o1))]) hc dX2_isAsSeen_3 rfl rfl rfl (by decide) rfl ?_
  exact ap_sub [2, 3, 1, 0] rfl (bl_X2_isAsSeen_4 hc hz  hq ho1  _ _ _ _ h)
theorem ok_X2_isAsSeen {l : Launch} {g : ap_G} (hg : ap_GOK g) {q : Nat} {o1 : Nat} (hq : ap_kd q = 2) (ho1 : ap_kd o1 = 5)  {M : ap_Mem} {K : Int32 → ap_Mem → Prop} (h : w_X2_isAsSeen q o1  M K) : ap_Ct l g yX2_isAsSeen cX2_isAsSeen 5 (some .boolean) 5 [.ref (ap_ad g q), .ref (ap_ad g o1)] M (ap_Qi K) := by
  refine ap_Ct_of hg (by decide +kernel) (Nat.le_of_ble_eq_true rfl) (fun x hx hc hz => ?_)
  subst hx
  exact bl_X2_isAsSeen_0 hc hz hq ho1 h
def w_X2_makePerson   (q : Nat) (x1 : Int32) (x2 : Int32) (M : ap_Mem) (K : ap_Mem → Prop) : Prop :=
vp_in x1 6 ∧ ∀ M_2 : ap_Mem, M_2 = ap_mu M (q + 3) x1.toNatClampNeg x2 → vp_in x1 6 ∧ ∀ M_4 : ap_Mem, M_4 = ap_mu M_2 (q + 19) x1.toNatClampNeg 0 → K M_4
theorem bl_X2_makePerson_0 {x : ap_X} {g : ap_G} (hc : ap_Cx x g cX2_makePerson RX2 3) {K : ap_Mem → Prop} (hz : ap_Ends x g 0 none (ap_Qv K))   {q : Nat} (hq : ap_kd q = 2)   {x1 : Int32} {x2 : Int32} {M : ap_Mem}  (h : w_X2_makePerson   q x1 x2 M K) : ap_V x g 3 0 [(0, .ref (ap_ad g q)), (1, .int x1), (2, .int x2)] [] M := by
  unfold w_X2_makePerson at h
  refine ap_aload_n (q := 1) hc dX2_makePerson_0 rfl rfl 0 rfl ?_
  refine ap_getR (q := 4) (r := q + 1) lg_RX2_12 (by decide) hq rfl hc dX2_makePerson_1 rfl ?_
  refine ap_getR (q := 7) (r := q + 3) lg_RX2_63 (by decide) (ty_2_1 hq) rfl hc dX2_makePerson_4 rfl ?_
  refine ap_iload_n (q := 8) hc dX2_makePerson_7 rfl rfl 1 rfl ?_
  refine ap_iload_n (q := 9) hc dX2_makePerson_8 rfl rfl 2 rfl ?_
  obtain ⟨g_1, h⟩ := h
  obtain ⟨M_2, eM_2, h⟩ := ap_nm h
  refine ap_iast (q := 10) (ty_2_3 hq) (tn_2_3 hq) g_1 eM_2 hc dX2_makePerson_9 rfl ?_
  refine ap_aload_n (q := 11) hc dX2_makePerson_10 rfl rfl 0 rfl ?_
  refine ap_getR (q := 14) (r := q + 19) lg_RX2_39 (by decide) hq rfl hc dX2_makePerson_11 rfl ?_
  refine ap_iload_n (q := 15) hc dX2_makePerson_14 rfl rfl 1 rfl ?_
  refine ap_iconst (q := 16) hc dX2_makePerson_15 rfl ic_0 ?_
  obtain ⟨g_3, h⟩ := h
  obtain ⟨M_4, eM_4, h⟩ := ap_nm h
  refine ap_iast (q := 17) (ty_2_19 hq) (tn_2_19 hq) g_3 eM_4 hc dX2_makePerson_16 rfl ?_
  exact ap_vret hc hz dX2_makePerson_17 h
theorem ok_X2_makePerson {l : Launch} {g : ap_G} (hg : ap_GOK g) {q : Nat} (hq : ap_kd q = 2) {x1 : Int32} {x2 : Int32} {M : ap_Mem} {K : ap_Mem → Prop} (h : w_X2_makePerson q x1 x2 M K) : ap_Ct l g yX2_makePerson cX2_makePerson 3 none 0 [.ref (ap_ad g q), .int x1, .int x2] M (ap_Qv K) := by
  refine ap_Ct_of hg (by decide +kernel) (Nat.le_of_ble_eq_true rfl) (fun x hx hc hz => ?_)
  subst hx
  exact bl_X2_makePerson_0 hc hz hq h
def w_X2_follow_44   (q : Nat) (s0 : Int32) (s1 : Int32) (M : ap_Mem) (K : ap_Mem → Prop) : Prop :=
w_X3_setAway (q + 1) s1 s0 M (fun M_1 => K M_1)
theorem bl_X2_follow_44 {x : ap_X} {g : ap_G} (hc : ap_Cx x g cX2_follow RX2 3) {K : ap_Mem → Prop} (hz : ap_Ends x g 5 none (ap_Qv K))   {q : Nat} (hq : ap_kd q = 2)   {s0 : Int32} {s1 : Int32} {M : ap_Mem}  (h : w_X2_follow_44   q s0 s1 M K) : ap_V x g 3 44 [] [.int s0, .int s1, .ref (ap_ad g (q + 1))] M := by
  have hg := hc.2.2.2.2.2.2.2.1
  unfold w_X2_follow_44 at h
  refine ap_callV (q := 47) (As := [.int s1, .int s0]) hc (ok_X3_setAway hg (ty_2_1 hq) h) ml_RX2_74 lk_X3_setAway lv_X3_setAway (ty_2_1 hq) rfl (ap_RmE hz (by decide)) rfl rfl (Nat.le_of_ble_eq_true rfl) dX2_follow_44 rfl (ap_kv (fun M_1 h => ?_))
  exact ap_vret hc hz dX2_follow_47 h
def w_X2_follow   (q : Nat) (x1 : Int32) (x2 : Int32) (M : ap_Mem) (K : ap_Mem → Prop) : Prop :=
(if x1 = 0 then (w_X2_go q 1000000 M (fun M_5 => K M_5)) else ((if x1 = 3 then (∀ M_4 : ap_Mem, M_4 = ap_mu M (q + 6) 1 x2 → K M_4) else ((if x1 = 1 then (w_X2_follow_44   q 1 x2 M K) else (w_X2_follow_44   q 0 x2 M K))))))
theorem bl_X2_follow_0 {x : ap_X} {g : ap_G} (hc : ap_Cx x g cX2_follow RX2 3) {K : ap_Mem → Prop} (hz : ap_Ends x g 5 none (ap_Qv K))   {q : Nat} (hq : ap_kd q = 2)   {x1 : Int32} {x2 : Int32} {M : ap_Mem}  (h : w_X2_follow   q x1 x2 M K) : ap_V x g 3 0 [(0, .ref (ap_ad g q)), (1, .int x1), (2, .int x2)] [] M := by
  have hg := hc.2.2.2.2.2.2.2.1
  unfold w_X2_follow at h
  refine ap_iload_n (q := 1) hc dX2_follow_0 rfl rfl 1 rfl ?_
  refine ap_if_ne (q := 4) (tgt := 13) hc dX2_follow_1 rfl (by decide) (fun z_1 => ?_) (fun z_1 => ?_)
  · have h := Eq.mp (if_neg z_1) h
    refine ap_iload_n (q := 14) hc dX2_follow_13 rfl rfl 1 rfl ?_
    refine ap_iconst (q := 15) hc dX2_follow_14 rfl ic_3 ?_
    refine ap_icmp_ne (q := 18) (tgt := 29) hc dX2_follow_15 rfl (by decide) (fun z_2 => ?_) (fun z_2 => ?_)
    · have h := Eq.mp (if_neg z_2) h
      refine ap_aload_n (q := 30) hc dX2_follow_29 rfl rfl 0 rfl ?_
      refine ap_getR (q := 33) (r := q + 1) lg_RX2_12 (by decide) hq rfl hc dX2_follow_30 rfl ?_
      refine ap_iload_n (q := 34) hc dX2_follow_33 rfl rfl 2 rfl ?_
      refine ap_iload_n (q := 35) hc dX2_follow_34 rfl rfl 1 rfl ?_
      refine ap_iconst (q := 36) hc dX2_follow_35 rfl ic_1 ?_
      refine ap_icmp_ne (q := 39) (tgt := 43) hc dX2_follow_36 rfl (by decide) (fun z_3 => ?_) (fun z_3 => ?_)
      · have h := Eq.mp (if_neg z_3) h
        refine ap_iconst (q := 44) hc dX2_follow_43 rfl ic_0 ?_
        exact ap_sub [] rfl (bl_X2_follow_44 hc hz  hq   h)
      · have h := Eq.mp (if_pos z_3) h
        refine ap_iconst (q := 40) hc dX2_follow_39 rfl ic_1 ?_
        refine ap_goto (q := 44) hc dX2_follow_40 (by decide) ?_
        exact ap_sub [] rfl (bl_X2_follow_44 hc hz  hq   h)
    · have h := Eq.mp (if_pos z_2) h
      refine ap_aload_n (q := 19) hc dX2_follow_18 rfl rfl 0 rfl ?_
      refine ap_getR (q := 22) (r := q + 6) lg_RX2_21 (by decide) hq rfl hc dX2_follow_19 rfl ?_
      refine ap_iload_n (q := 23) hc dX2_follow_22 rfl rfl 2 rfl ?_
      obtain ⟨M_4, eM_4, h⟩ := ap_nm h
      refine ap_putI (q := 26) lp_RX2_71 (ty_2_6 hq) eM_4 hc dX2_follow_23 rfl ?_
      refine ap_goto (q := 47) hc dX2_follow_26 (by decide) ?_
      exact ap_vret hc hz dX2_follow_47 h
  · have h := Eq.mp (if_pos z_1) h
    refine ap_aload_n (q := 5) hc dX2_follow_4 rfl rfl 0 rfl ?_
    refine ap_ldc (q := 7) hc dX2_follow_5 rfl ct_RX2_66 ?_
    refine ap_callV (q := 10) (As := [.int 1000000]) hc (ok_X2_go hg hq h) ml_RX2_67 lk_X2_go lv_X2_go hq rfl (ap_RmE hz (by decide)) rfl rfl (Nat.le_of_ble_eq_true rfl) dX2_follow_7 rfl (ap_kv (fun M_5 h => ?_))
    refine ap_goto (q := 47) hc dX2_follow_10 (by decide) ?_
    exact ap_vret hc hz dX2_follow_47 h
theorem ok_X2_follow {l : Launch} {g : ap_G} (hg : ap_GOK g) {q : Nat} (hq : ap_kd q = 2) {x1 : Int32} {x2 : Int32} {M : ap_Mem} {K : ap_Mem → Prop} (h : w_X2_follow q x1 x2 M K) : ap_Ct l g yX2_follow cX2_follow 3 none 5 [.ref (ap_ad g q), .int x1, .int x2] M (ap_Qv K) := by
  refine ap_Ct_of hg (by decide +kernel) (Nat.le_of_ble_eq_true rfl) (fun x hx hc hz => ?_)
  subst hx
  exact bl_X2_follow_0 hc hz hq h
def w_X6_copyFrom   (q : Nat) (o1 : Nat)  (M : ap_Mem) (K : ap_Mem → Prop) : Prop :=
w_X5_copyFrom (q + 1) (o1 + 1) M (fun M_1 => w_X7_copyFrom (q + 4) (o1 + 4) M_1 (fun M_2 => ∀ M_3 : ap_Mem, M_3 = ap_mu M_2 q 2 (M_2 o1 2) → w_X3_copyFrom (q + 12) (o1 + 12) M_3 (fun M_4 => w_X1_copyFrom (q + 17) (o1 + 17) M_4 (fun M_5 => w_X5_copyFrom (q + 19) (o1 + 19) M_5 (fun M_6 => w_X5_copyFrom (q + 22) (o1 + 22) M_6 (fun M_7 => w_X5_copyFrom (q + 25) (o1 + 25) M_7 (fun M_8 => w_X5_copyFrom (q + 28) (o1 + 28) M_8 (fun M_9 => K M_9))))))))
theorem bl_X6_copyFrom_0 {x : ap_X} {g : ap_G} (hc : ap_Cx x g cX6_copyFrom RX6 2) {K : ap_Mem → Prop} (hz : ap_Ends x g 2 none (ap_Qv K))   {q : Nat} {o1 : Nat} (hq : ap_kd q = 6) (ho1 : ap_kd o1 = 6)    {M : ap_Mem}  (h : w_X6_copyFrom   q o1  M K) : ap_V x g 2 0 [(0, .ref (ap_ad g q)), (1, .ref (ap_ad g o1))] [] M := by
  have hg := hc.2.2.2.2.2.2.2.1
  unfold w_X6_copyFrom at h
  refine ap_aload_n (q := 1) hc dX6_copyFrom_0 rfl rfl 0 rfl ?_
  refine ap_getR (q := 4) (r := q + 1) lg_RX6_14 (by decide) hq rfl hc dX6_copyFrom_1 rfl ?_
  refine ap_aload_n (q := 5) hc dX6_copyFrom_4 rfl rfl 1 rfl ?_
  refine ap_getR (q := 8) (r := o1 + 1) lg_RX6_14 (by decide) ho1 rfl hc dX6_copyFrom_5 rfl ?_
  refine ap_callV (q := 11) (As := [.ref (ap_ad g (o1 + 1))]) hc (ok_X5_copyFrom hg (ty_6_1 hq) (ty_6_1 ho1) h) ml_RX6_57 lk_X5_copyFrom lv_X5_copyFrom (ty_6_1 hq) rfl (ap_RmE hz (by decide)) rfl rfl (Nat.le_of_ble_eq_true rfl) dX6_copyFrom_8 rfl (ap_kv (fun M_1 h => ?_))
  refine ap_aload_n (q := 12) hc dX6_copyFrom_11 rfl rfl 0 rfl ?_
  refine ap_getR (q := 15) (r := q + 4) lg_RX6_23 (by decide) hq rfl hc dX6_copyFrom_12 rfl ?_
  refine ap_aload_n (q := 16) hc dX6_copyFrom_15 rfl rfl 1 rfl ?_
  refine ap_getR (q := 19) (r := o1 + 4) lg_RX6_23 (by decide) ho1 rfl hc dX6_copyFrom_16 rfl ?_
  refine ap_callV (q := 22) (As := [.ref (ap_ad g (o1 + 4))]) hc (ok_X7_copyFrom hg (ty_6_4 hq) (ty_6_4 ho1) h) ml_RX6_61 lk_X7_copyFrom lv_X7_copyFrom (ty_6_4 hq) rfl (ap_RmE hz (by decide)) rfl rfl (Nat.le_of_ble_eq_true rfl) dX6_copyFrom_19 rfl (ap_kv (fun M_2 h => ?_))
  refine ap_aload_n (q := 23) hc dX6_copyFrom_22 rfl rfl 0 rfl ?_
  refine ap_aload_n (q := 24) hc dX6_copyFrom_23 rfl rfl 1 rfl ?_
  refine ap_getI (q := 27) lg_RX6_27 ho1 hc dX6_copyFrom_24 rfl ?_
  obtain ⟨M_3, eM_3, h⟩ := ap_nm h
  refine ap_putI (q := 30) lp_RX6_27 hq eM_3 hc dX6_copyFrom_27 rfl ?_
  refine ap_aload_n (q := 31) hc dX6_copyFrom_30 rfl rfl 0 rfl ?_
  refine ap_getR (q := 34) (r := q + 12) lg_RX6_34 (by decide) hq rfl hc dX6_copyFrom_31 rfl ?_
  refine ap_aload_n (q := 35) hc dX6_copyFrom_34 rfl rfl 1 rfl ?_
  refine ap_getR (q := 38) (r := o1 + 12) lg_RX6_34 (by decide) ho1 rfl hc dX6_copyFrom_35 rfl ?_
  refine ap_callV (q := 41) (As := [.ref (ap_ad g (o1 + 12))]) hc (ok_X3_copyFrom hg (ty_6_12 hq) (ty_6_12 ho1) h) ml_RX6_64 lk_X3_copyFrom lv_X3_copyFrom (ty_6_12 hq) rfl (ap_RmE hz (by decide)) rfl rfl (Nat.le_of_ble_eq_true rfl) dX6_copyFrom_38 rfl (ap_kv (fun M_4 h => ?_))
  refine ap_aload_n (q := 42) hc dX6_copyFrom_41 rfl rfl 0 rfl ?_
  refine ap_getR (q := 45) (r := q + 17) lg_RX6_41 (by decide) hq rfl hc dX6_copyFrom_42 rfl ?_
  refine ap_aload_n (q := 46) hc dX6_copyFrom_45 rfl rfl 1 rfl ?_
  refine ap_getR (q := 49) (r := o1 + 17) lg_RX6_41 (by decide) ho1 rfl hc dX6_copyFrom_46 rfl ?_
  refine ap_callV (q := 52) (As := [.ref (ap_ad g (o1 + 17))]) hc (ok_X1_copyFrom hg (ty_6_17 hq) (ty_6_17 ho1) h) ml_RX6_67 lk_X1_copyFrom lv_X1_copyFrom (ty_6_17 hq) rfl (ap_RmE hz (by decide)) rfl rfl (Nat.le_of_ble_eq_true rfl) dX6_copyFrom_49 rfl (ap_kv (fun M_5 h => ?_))
  refine ap_aload_n (q := 53) hc dX6_copyFrom_52 rfl rfl 0 rfl ?_
  refine ap_getR (q := 56) (r := q + 19) lg_RX6_45 (by decide) hq rfl hc dX6_copyFrom_53 rfl ?_
  refine ap_aload_n (q := 57) hc dX6_copyFrom_56 rfl rfl 1 rfl ?_
  refine ap_getR (q := 60) (r := o1 + 19) lg_RX6_45 (by decide) ho1 rfl hc dX6_copyFrom_57 rfl ?_
  refine ap_callV (q := 63) (As := [.ref (ap_ad g (o1 + 19))]) hc (ok_X5_copyFrom hg (ty_6_19 hq) (ty_6_19 ho1) h) ml_RX6_57 lk_X5_copyFrom lv_X5_copyFrom (ty_6_19 hq) rfl (ap_RmE hz (by decide)) rfl rfl (Nat.le_of_ble_eq_true rfl) dX6_copyFrom_60 rfl (ap_kv (fun M_6 h => ?_))
  refine ap_aload_n (q := 64) hc dX6_copyFrom_63 rfl rfl 0 rfl ?_
  refine ap_getR (q := 67) (r := q + 22) lg_RX6_48 (by decide) hq rfl hc dX6_copyFrom_64 rfl ?_
  refine ap_aload_n (q := 68) hc dX6_copyFrom_67 rfl rfl 1 rfl ?_
  refine ap_getR (q := 71) (r := o1 + 22) lg_RX6_48 (by decide) ho1 rfl hc dX6_copyFrom_68 rfl ?_
  refine ap_callV (q := 74) (As := [.ref (ap_ad g (o1 + 22))]) hc (ok_X5_copyFrom hg (ty_6_22 hq) (ty_6_22 ho1) h) ml_RX6_57 lk_X5_copyFrom lv_X5_copyFrom (ty_6_22 hq) rfl (ap_RmE hz (by decide)) rfl rfl (Nat.le_of_ble_eq_true rfl) dX6_copyFrom_71 rfl (ap_kv (fun M_7 h => ?_))
  refine ap_aload_n (q := 75) hc dX6_copyFrom_74 rfl rfl 0 rfl ?_
  refine ap_getR (q := 78) (r := q + 25) lg_RX6_51 (by decide) hq rfl hc dX6_copyFrom_75 rfl ?_
  refine ap_aload_n (q := 79) hc dX6_copyFrom_78 rfl rfl 1 rfl ?_
  refine ap_getR (q := 82) (r := o1 + 25) lg_RX6_51 (by decide) ho1 rfl hc dX6_copyFrom_79 rfl ?_
  refine ap_callV (q := 85) (As := [.ref (ap_ad g (o1 + 25))]) hc (ok_X5_copyFrom hg (ty_6_25 hq) (ty_6_25 ho1) h) ml_RX6_57 lk_X5_copyFrom lv_X5_copyFrom (ty_6_25 hq) rfl (ap_RmE hz (by decide)) rfl rfl (Nat.le_of_ble_eq_true rfl) dX6_copyFrom_82 rfl (ap_kv (fun M_8 h => ?_))
  refine ap_aload_n (q := 86) hc dX6_copyFrom_85 rfl rfl 0 rfl ?_
  refine ap_getR (q := 89) (r := q + 28) lg_RX6_54 (by decide) hq rfl hc dX6_copyFrom_86 rfl ?_
  refine ap_aload_n (q := 90) hc dX6_copyFrom_89 rfl rfl 1 rfl ?_
  refine ap_getR (q := 93) (r := o1 + 28) lg_RX6_54 (by decide) ho1 rfl hc dX6_copyFrom_90 rfl ?_
  refine ap_callV (q := 96) (As := [.ref (ap_ad g (o1 + 28))]) hc (ok_X5_copyFrom hg (ty_6_28 hq) (ty_6_28 ho1) h) ml_RX6_57 lk_X5_copyFrom lv_X5_copyFrom (ty_6_28 hq) rfl (ap_RmE hz (by decide)) rfl rfl (Nat.le_of_ble_eq_true rfl) dX6_copyFrom_93 rfl (ap_kv (fun M_9 h => ?_))
  exact ap_vret hc hz dX6_copyFrom_96 h
theorem ok_X6_copyFrom {l : Launch} {g : ap_G} (hg : ap_GOK g) {q : Nat} {o1 : Nat} (hq : ap_kd q = 6) (ho1 : ap_kd o1 = 6)  {M : ap_Mem} {K : ap_Mem → Prop} (h : w_X6_copyFrom q o1  M K) : ap_Ct l g yX6_copyFrom cX6_copyFrom 2 none 2 [.ref (ap_ad g q), .ref (ap_ad g o1)] M (ap_Qv K) := by
  refine ap_Ct_of hg (by decide +kernel) (Nat.le_of_ble_eq_true rfl) (fun x hx hc hz => ?_)
  subst hx
  exact bl_X6_copyFrom_0 hc hz hq ho1 h
