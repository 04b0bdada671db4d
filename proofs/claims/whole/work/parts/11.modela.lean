theorem dX9_among_0 : decode cX9_among 0 = .ok (.iconst 0, 1) := by decide +kernel
theorem dX9_among_1 : decode cX9_among 1 = .ok (.istore_n 2, 1) := by decide +kernel
theorem dX9_among_2 : decode cX9_among 2 = .ok (.iload_n 2, 1) := by decide +kernel
theorem dX9_among_3 : decode cX9_among 3 = .ok (.aload_n 1, 1) := by decide +kernel
theorem dX9_among_4 : decode cX9_among 4 = .ok (.invokevirtual 57, 3) := by decide +kernel
theorem dX9_among_7 : decode cX9_among 7 = .ok (.if_icmp .ge 33, 3) := by decide +kernel
theorem dX9_among_10 : decode cX9_among 10 = .ok (.aload_n 0, 1) := by decide +kernel
theorem dX9_among_11 : decode cX9_among 11 = .ok (.invokevirtual 53, 3) := by decide +kernel
theorem dX9_among_14 : decode cX9_among 14 = .ok (.aload_n 1, 1) := by decide +kernel
theorem dX9_among_15 : decode cX9_among 15 = .ok (.iload_n 2, 1) := by decide +kernel
theorem dX9_among_16 : decode cX9_among 16 = .ok (.invokevirtual 62, 3) := by decide +kernel
theorem dX9_among_19 : decode cX9_among 19 = .ok (.if_icmp .ne 15, 3) := by decide +kernel
theorem dX9_among_22 : decode cX9_among 22 = .ok (.aload_n 0, 1) := by decide +kernel
theorem dX9_among_23 : decode cX9_among 23 = .ok (.dup, 1) := by decide +kernel
theorem dX9_among_24 : decode cX9_among 24 = .ok (.getfield 43, 3) := by decide +kernel
theorem dX9_among_27 : decode cX9_among 27 = .ok (.iconst 1, 1) := by decide +kernel
theorem dX9_among_28 : decode cX9_among 28 = .ok (.iadd, 1) := by decide +kernel
theorem dX9_among_29 : decode cX9_among 29 = .ok (.putfield 43, 3) := by decide +kernel
theorem dX9_among_32 : decode cX9_among 32 = .ok (.iload_n 2, 1) := by decide +kernel
theorem dX9_among_33 : decode cX9_among 33 = .ok (.ireturn, 1) := by decide +kernel
theorem dX9_among_34 : decode cX9_among 34 = .ok (.iinc 2 1, 3) := by decide +kernel
theorem dX9_among_37 : decode cX9_among 37 = .ok (.goto (-35), 3) := by decide +kernel
theorem dX9_among_40 : decode cX9_among 40 = .ok (.iconst (-1), 1) := by decide +kernel
theorem dX9_among_41 : decode cX9_among 41 = .ok (.ireturn, 1) := by decide +kernel
theorem dX9_clauseHere_0 : decode cX9_clauseHere 0 = .ok (.aload_n 0, 1) := by decide +kernel
theorem dX9_clauseHere_1 : decode cX9_clauseHere 1 = .ok (.invokevirtual 53, 3) := by decide +kernel
theorem dX9_clauseHere_4 : decode cX9_clauseHere 4 = .ok (.lookupswitch 71 #[(98, 36), (104, 48), (115, 59)], 36) := by decide +kernel
theorem dX9_clauseHere_40 : decode cX9_clauseHere 40 = .ok (.aload_n 0, 1) := by decide +kernel
theorem dX9_clauseHere_41 : decode cX9_clauseHere 41 = .ok (.sipush 226, 3) := by decide +kernel
theorem dX9_clauseHere_44 : decode cX9_clauseHere 44 = .ok (.ldc 103, 2) := by decide +kernel
theorem dX9_clauseHere_46 : decode cX9_clauseHere 46 = .ok (.invokevirtual 105, 3) := by decide +kernel
theorem dX9_clauseHere_49 : decode cX9_clauseHere 49 = .ok (.goto 31, 3) := by decide +kernel
theorem dX9_clauseHere_52 : decode cX9_clauseHere 52 = .ok (.aload_n 0, 1) := by decide +kernel
theorem dX9_clauseHere_53 : decode cX9_clauseHere 53 = .ok (.bipush (-10), 2) := by decide +kernel
theorem dX9_clauseHere_55 : decode cX9_clauseHere 55 = .ok (.ldc 109, 2) := by decide +kernel
theorem dX9_clauseHere_57 : decode cX9_clauseHere 57 = .ok (.invokevirtual 111, 3) := by decide +kernel
theorem dX9_clauseHere_60 : decode cX9_clauseHere 60 = .ok (.goto 20, 3) := by decide +kernel
theorem dX9_clauseHere_63 : decode cX9_clauseHere 63 = .ok (.aload_n 0, 1) := by decide +kernel
theorem dX9_clauseHere_64 : decode cX9_clauseHere 64 = .ok (.sipush (-200), 3) := by decide +kernel
theorem dX9_clauseHere_67 : decode cX9_clauseHere 67 = .ok (.ldc 114, 2) := by decide +kernel
theorem dX9_clauseHere_69 : decode cX9_clauseHere 69 = .ok (.invokevirtual 111, 3) := by decide +kernel
theorem dX9_clauseHere_72 : decode cX9_clauseHere 72 = .ok (.goto 8, 3) := by decide +kernel
theorem dX9_clauseHere_75 : decode cX9_clauseHere 75 = .ok (.aload_n 0, 1) := by decide +kernel
theorem dX9_clauseHere_76 : decode cX9_clauseHere 76 = .ok (.iconst 1, 1) := by decide +kernel
theorem dX9_clauseHere_77 : decode cX9_clauseHere 77 = .ok (.putfield 49, 3) := by decide +kernel
theorem dX9_clauseHere_80 : decode cX9_clauseHere 80 = .ok (.return_, 1) := by decide +kernel
theorem dX9_emits_0 : decode cX9_emits 0 = .ok (.aload_n 0, 1) := by decide +kernel
theorem dX9_emits_1 : decode cX9_emits 1 = .ok (.getfield 49, 3) := by decide +kernel
theorem dX9_emits_4 : decode cX9_emits 4 = .ok (.ifCond .ne 52, 3) := by decide +kernel
theorem dX9_emits_7 : decode cX9_emits 7 = .ok (.aload_n 0, 1) := by decide +kernel
theorem dX9_emits_8 : decode cX9_emits 8 = .ok (.getfield 9, 3) := by decide +kernel
theorem dX9_emits_11 : decode cX9_emits 11 = .ok (.sipush 236, 3) := by decide +kernel
theorem dX9_emits_14 : decode cX9_emits 14 = .ok (.sipush 140, 3) := by decide +kernel
theorem dX9_emits_17 : decode cX9_emits 17 = .ok (.aload_n 0, 1) := by decide +kernel
theorem dX9_emits_18 : decode cX9_emits 18 = .ok (.getfield 70, 3) := by decide +kernel
theorem dX9_emits_21 : decode cX9_emits 21 = .ok (.imul, 1) := by decide +kernel
theorem dX9_emits_22 : decode cX9_emits 22 = .ok (.iadd, 1) := by decide +kernel
theorem dX9_emits_23 : decode cX9_emits 23 = .ok (.aload_n 0, 1) := by decide +kernel
theorem dX9_emits_24 : decode cX9_emits 24 = .ok (.getfield 9, 3) := by decide +kernel
theorem dX9_emits_27 : decode cX9_emits 27 = .ok (.sipush 231, 3) := by decide +kernel
theorem dX9_emits_30 : decode cX9_emits 30 = .ok (.aload_n 0, 1) := by decide +kernel
theorem dX9_emits_31 : decode cX9_emits 31 = .ok (.getfield 70, 3) := by decide +kernel
theorem dX9_emits_34 : decode cX9_emits 34 = .ok (.iadd, 1) := by decide +kernel
theorem dX9_emits_35 : decode cX9_emits 35 = .ok (.iaload, 1) := by decide +kernel
theorem dX9_emits_36 : decode cX9_emits 36 = .ok (.iadd, 1) := by decide +kernel
theorem dX9_emits_37 : decode cX9_emits 37 = .ok (.iload_n 1, 1) := by decide +kernel
theorem dX9_emits_38 : decode cX9_emits 38 = .ok (.iastore, 1) := by decide +kernel
theorem dX9_emits_39 : decode cX9_emits 39 = .ok (.aload_n 0, 1) := by decide +kernel
theorem dX9_emits_40 : decode cX9_emits 40 = .ok (.getfield 9, 3) := by decide +kernel
theorem dX9_emits_43 : decode cX9_emits 43 = .ok (.sipush 231, 3) := by decide +kernel
theorem dX9_emits_46 : decode cX9_emits 46 = .ok (.aload_n 0, 1) := by decide +kernel
theorem dX9_emits_47 : decode cX9_emits 47 = .ok (.getfield 70, 3) := by decide +kernel
theorem dX9_emits_50 : decode cX9_emits 50 = .ok (.iadd, 1) := by decide +kernel
theorem dX9_emits_51 : decode cX9_emits 51 = .ok (.dup2, 1) := by decide +kernel
theorem dX9_emits_52 : decode cX9_emits 52 = .ok (.iaload, 1) := by decide +kernel
theorem dX9_emits_53 : decode cX9_emits 53 = .ok (.iconst 1, 1) := by decide +kernel
theorem dX9_emits_54 : decode cX9_emits 54 = .ok (.iadd, 1) := by decide +kernel
theorem dX9_emits_55 : decode cX9_emits 55 = .ok (.iastore, 1) := by decide +kernel
theorem dX9_emits_56 : decode cX9_emits 56 = .ok (.return_, 1) := by decide +kernel
theorem dX9_every_0 : decode cX9_every 0 = .ok (.aload_n 0, 1) := by decide +kernel
theorem dX9_every_1 : decode cX9_every 1 = .ok (.invokevirtual 76, 3) := by decide +kernel
theorem dX9_every_4 : decode cX9_every 4 = .ok (.aload_n 0, 1) := by decide +kernel
theorem dX9_every_5 : decode cX9_every 5 = .ok (.getfield 49, 3) := by decide +kernel
theorem dX9_every_8 : decode cX9_every 8 = .ok (.ifCond .ne 35, 3) := by decide +kernel
theorem dX9_every_11 : decode cX9_every 11 = .ok (.aload_n 0, 1) := by decide +kernel
theorem dX9_every_12 : decode cX9_every 12 = .ok (.invokevirtual 53, 3) := by decide +kernel
theorem dX9_every_15 : decode cX9_every 15 = .ok (.bipush 38, 2) := by decide +kernel
theorem dX9_every_17 : decode cX9_every 17 = .ok (.if_icmp .ne 26, 3) := by decide +kernel
theorem dX9_every_20 : decode cX9_every 20 = .ok (.aload_n 0, 1) := by decide +kernel
theorem dX9_every_21 : decode cX9_every 21 = .ok (.dup, 1) := by decide +kernel
theorem dX9_every_22 : decode cX9_every 22 = .ok (.getfield 43, 3) := by decide +kernel
theorem dX9_every_25 : decode cX9_every 25 = .ok (.iconst 1, 1) := by decide +kernel
theorem dX9_every_26 : decode cX9_every 26 = .ok (.iadd, 1) := by decide +kernel
theorem dX9_every_27 : decode cX9_every 27 = .ok (.putfield 43, 3) := by decide +kernel
theorem dX9_every_30 : decode cX9_every 30 = .ok (.aload_n 0, 1) := by decide +kernel
theorem dX9_every_31 : decode cX9_every 31 = .ok (.invokevirtual 76, 3) := by decide +kernel
theorem dX9_every_34 : decode cX9_every 34 = .ok (.aload_n 0, 1) := by decide +kernel
theorem dX9_every_35 : decode cX9_every 35 = .ok (.bipush (-2), 2) := by decide +kernel
theorem dX9_every_37 : decode cX9_every 37 = .ok (.invokevirtual 79, 3) := by decide +kernel
theorem dX9_every_40 : decode cX9_every 40 = .ok (.goto (-36), 3) := by decide +kernel
theorem dX9_every_43 : decode cX9_every 43 = .ok (.return_, 1) := by decide +kernel
theorem dX9_factor_0 : decode cX9_factor 0 = .ok (.aload_n 0, 1) := by decide +kernel
theorem dX9_factor_1 : decode cX9_factor 1 = .ok (.getfield 49, 3) := by decide +kernel
theorem dX9_factor_4 : decode cX9_factor 4 = .ok (.ifCond .eq 4, 3) := by decide +kernel
theorem dX9_factor_7 : decode cX9_factor 7 = .ok (.return_, 1) := by decide +kernel
theorem dX9_factor_8 : decode cX9_factor 8 = .ok (.aload_n 0, 1) := by decide +kernel
theorem dX9_factor_9 : decode cX9_factor 9 = .ok (.invokevirtual 53, 3) := by decide +kernel
theorem dX9_factor_12 : decode cX9_factor 12 = .ok (.istore_n 1, 1) := by decide +kernel
theorem dX9_factor_13 : decode cX9_factor 13 = .ok (.iload_n 1, 1) := by decide +kernel
theorem dX9_factor_14 : decode cX9_factor 14 = .ok (.bipush 33, 2) := by decide +kernel
theorem dX9_factor_16 : decode cX9_factor 16 = .ok (.if_icmp .eq 9, 3) := by decide +kernel
theorem dX9_factor_19 : decode cX9_factor 19 = .ok (.iload_n 1, 1) := by decide +kernel
theorem dX9_factor_20 : decode cX9_factor 20 = .ok (.bipush 40, 2) := by decide +kernel
theorem dX9_factor_22 : decode cX9_factor 22 = .ok (.if_icmp .ne 90, 3) := by decide +kernel
theorem dX9_factor_25 : decode cX9_factor 25 = .ok (.aload_n 0, 1) := by decide +kernel
theorem dX9_factor_26 : decode cX9_factor 26 = .ok (.aload_n 0, 1) := by decide +kernel
theorem dX9_factor_27 : decode cX9_factor 27 = .ok (.getfield 73, 3) := by decide +kernel
theorem dX9_factor_30 : decode cX9_factor 30 = .ok (.iconst 5, 1) := by decide +kernel
theorem dX9_factor_31 : decode cX9_factor 31 = .ok (.if_icmp .ne 7, 3) := by decide +kernel
theorem dX9_factor_34 : decode cX9_factor 34 = .ok (.iconst 1, 1) := by decide +kernel
theorem dX9_factor_35 : decode cX9_factor 35 = .ok (.goto 4, 3) := by decide +kernel
theorem dX9_factor_38 : decode cX9_factor 38 = .ok (.iconst 0, 1) := by decide +kernel
theorem dX9_factor_39 : decode cX9_factor 39 = .ok (.putfield 49, 3) := by decide +kernel
theorem dX9_factor_42 : decode cX9_factor 42 = .ok (.aload_n 0, 1) := by decide +kernel
theorem dX9_factor_43 : decode cX9_factor 43 = .ok (.dup, 1) := by decide +kernel
theorem dX9_factor_44 : decode cX9_factor 44 = .ok (.getfield 73, 3) := by decide +kernel
theorem dX9_factor_47 : decode cX9_factor 47 = .ok (.iconst 1, 1) := by decide +kernel
theorem dX9_factor_48 : decode cX9_factor 48 = .ok (.iadd, 1) := by decide +kernel
theorem dX9_factor_49 : decode cX9_factor 49 = .ok (.putfield 73, 3) := by decide +kernel
theorem dX9_factor_52 : decode cX9_factor 52 = .ok (.aload_n 0, 1) := by decide +kernel
theorem dX9_factor_53 : decode cX9_factor 53 = .ok (.dup, 1) := by decide +kernel
theorem dX9_factor_54 : decode cX9_factor 54 = .ok (.getfield 43, 3) := by decide +kernel
theorem dX9_factor_57 : decode cX9_factor 57 = .ok (.aload_n 0, 1) := by decide +kernel
theorem dX9_factor_58 : decode cX9_factor 58 = .ok (.getfield 49, 3) := by decide +kernel
theorem dX9_factor_61 : decode cX9_factor 61 = .ok (.ifCond .eq 7, 3) := by decide +kernel
theorem dX9_factor_64 : decode cX9_factor 64 = .ok (.iconst 0, 1) := by decide +kernel
theorem dX9_factor_65 : decode cX9_factor 65 = .ok (.goto 4, 3) := by decide +kernel
theorem dX9_factor_68 : decode cX9_factor 68 = .ok (.iconst 1, 1) := by decide +kernel
theorem dX9_factor_69 : decode cX9_factor 69 = .ok (.iadd, 1) := by decide +kernel
theorem dX9_factor_70 : decode cX9_factor 70 = .ok (.putfield 43, 3) := by decide +kernel
theorem dX9_factor_73 : decode cX9_factor 73 = .ok (.iload_n 1, 1) := by decide +kernel
theorem dX9_factor_74 : decode cX9_factor 74 = .ok (.bipush 33, 2) := by decide +kernel
theorem dX9_factor_76 : decode cX9_factor 76 = .ok (.if_icmp .ne 15, 3) := by decide +kernel
theorem dX9_factor_79 : decode cX9_factor 79 = .ok (.aload_n 0, 1) := by decide +kernel
theorem dX9_factor_80 : decode cX9_factor 80 = .ok (.invokevirtual 76, 3) := by decide +kernel
theorem dX9_factor_83 : decode cX9_factor 83 = .ok (.aload_n 0, 1) := by decide +kernel
theorem dX9_factor_84 : decode cX9_factor 84 = .ok (.iconst (-1), 1) := by decide +kernel
theorem dX9_factor_85 : decode cX9_factor 85 = .ok (.invokevirtual 79, 3) := by decide +kernel
theorem dX9_factor_88 : decode cX9_factor 88 = .ok (.goto 13, 3) := by decide +kernel
theorem dX9_factor_91 : decode cX9_factor 91 = .ok (.aload_n 0, 1) := by decide +kernel
theorem dX9_factor_92 : decode cX9_factor 92 = .ok (.invokevirtual 82, 3) := by decide +kernel
theorem dX9_factor_95 : decode cX9_factor 95 = .ok (.aload_n 0, 1) := by decide +kernel
theorem dX9_factor_96 : decode cX9_factor 96 = .ok (.bipush 41, 2) := by decide +kernel
theorem dX9_factor_98 : decode cX9_factor 98 = .ok (.invokevirtual 66, 3) := by decide +kernel
theorem dX9_factor_101 : decode cX9_factor 101 = .ok (.aload_n 0, 1) := by decide +kernel
theorem dX9_factor_102 : decode cX9_factor 102 = .ok (.dup, 1) := by decide +kernel
theorem dX9_factor_103 : decode cX9_factor 103 = .ok (.getfield 73, 3) := by decide +kernel
theorem dX9_factor_106 : decode cX9_factor 106 = .ok (.iconst 1, 1) := by decide +kernel
theorem dX9_factor_107 : decode cX9_factor 107 = .ok (.isub, 1) := by decide +kernel
theorem dX9_factor_108 : decode cX9_factor 108 = .ok (.putfield 73, 3) := by decide +kernel
theorem dX9_factor_111 : decode cX9_factor 111 = .ok (.return_, 1) := by decide +kernel
theorem dX9_factor_112 : decode cX9_factor 112 = .ok (.aload_n 0, 1) := by decide +kernel
theorem dX9_factor_113 : decode cX9_factor 113 = .ok (.ldc 85, 2) := by decide +kernel
theorem dX9_factor_115 : decode cX9_factor 115 = .ok (.invokevirtual 87, 3) := by decide +kernel
theorem dX9_factor_118 : decode cX9_factor 118 = .ok (.istore_n 2, 1) := by decide +kernel
theorem dX9_factor_119 : decode cX9_factor 119 = .ok (.aload_n 0, 1) := by decide +kernel
theorem dX9_factor_120 : decode cX9_factor 120 = .ok (.iload_n 2, 1) := by decide +kernel
theorem dX9_factor_121 : decode cX9_factor 121 = .ok (.iconst (-1), 1) := by decide +kernel
theorem dX9_factor_122 : decode cX9_factor 122 = .ok (.if_icmp .ne 7, 3) := by decide +kernel
theorem dX9_factor_125 : decode cX9_factor 125 = .ok (.iconst 1, 1) := by decide +kernel
theorem dX9_factor_126 : decode cX9_factor 126 = .ok (.goto 4, 3) := by decide +kernel
theorem dX9_factor_129 : decode cX9_factor 129 = .ok (.iconst 0, 1) := by decide +kernel
theorem dX9_factor_130 : decode cX9_factor 130 = .ok (.putfield 49, 3) := by decide +kernel
theorem dX9_factor_133 : decode cX9_factor 133 = .ok (.aload_n 0, 1) := by decide +kernel
theorem dX9_factor_134 : decode cX9_factor 134 = .ok (.getfield 49, 3) := by decide +kernel
theorem dX9_factor_137 : decode cX9_factor 137 = .ok (.ifCond .eq 7, 3) := by decide +kernel
theorem dX9_factor_140 : decode cX9_factor 140 = .ok (.iconst 0, 1) := by decide +kernel
theorem dX9_factor_141 : decode cX9_factor 141 = .ok (.goto 9, 3) := by decide +kernel
theorem dX9_factor_144 : decode cX9_factor 144 = .ok (.aload_n 0, 1) := by decide +kernel
theorem dX9_factor_145 : decode cX9_factor 145 = .ok (.ldc 91, 2) := by decide +kernel
theorem dX9_factor_147 : decode cX9_factor 147 = .ok (.invokevirtual 87, 3) := by decide +kernel
theorem dX9_factor_150 : decode cX9_factor 150 = .ok (.istore_n 3, 1) := by decide +kernel
theorem dX9_factor_151 : decode cX9_factor 151 = .ok (.aload_n 0, 1) := by decide +kernel
theorem dX9_factor_152 : decode cX9_factor 152 = .ok (.aload_n 0, 1) := by decide +kernel
theorem dX9_factor_153 : decode cX9_factor 153 = .ok (.getfield 49, 3) := by decide +kernel
theorem dX9_factor_156 : decode cX9_factor 156 = .ok (.ifCond .ne 8, 3) := by decide +kernel
theorem dX9_factor_159 : decode cX9_factor 159 = .ok (.iload_n 3, 1) := by decide +kernel
theorem dX9_factor_160 : decode cX9_factor 160 = .ok (.iconst (-1), 1) := by decide +kernel
theorem dX9_factor_161 : decode cX9_factor 161 = .ok (.if_icmp .ne 7, 3) := by decide +kernel
theorem dX9_factor_164 : decode cX9_factor 164 = .ok (.iconst 1, 1) := by decide +kernel
theorem dX9_factor_165 : decode cX9_factor 165 = .ok (.goto 4, 3) := by decide +kernel
theorem dX9_factor_168 : decode cX9_factor 168 = .ok (.iconst 0, 1) := by decide +kernel
theorem dX9_factor_169 : decode cX9_factor 169 = .ok (.putfield 49, 3) := by decide +kernel
theorem dX9_factor_172 : decode cX9_factor 172 = .ok (.aload_n 0, 1) := by decide +kernel
theorem dX9_factor_173 : decode cX9_factor 173 = .ok (.invokevirtual 93, 3) := by decide +kernel
theorem dX9_factor_176 : decode cX9_factor 176 = .ok (.istore 4, 2) := by decide +kernel
theorem dX9_factor_178 : decode cX9_factor 178 = .ok (.aload_n 0, 1) := by decide +kernel
theorem dX9_factor_179 : decode cX9_factor 179 = .ok (.iload_n 2, 1) := by decide +kernel
theorem dX9_factor_180 : decode cX9_factor 180 = .ok (.bipush 8, 2) := by decide +kernel
theorem dX9_factor_182 : decode cX9_factor 182 = .ok (.iload_n 3, 1) := by decide +kernel
theorem dX9_factor_183 : decode cX9_factor 183 = .ok (.imul, 1) := by decide +kernel
theorem dX9_factor_184 : decode cX9_factor 184 = .ok (.iadd, 1) := by decide +kernel
theorem dX9_factor_185 : decode cX9_factor 185 = .ok (.bipush 32, 2) := by decide +kernel
theorem dX9_factor_187 : decode cX9_factor 187 = .ok (.iload 4, 2) := by decide +kernel
theorem dX9_factor_189 : decode cX9_factor 189 = .ok (.imul, 1) := by decide +kernel
theorem dX9_factor_190 : decode cX9_factor 190 = .ok (.iadd, 1) := by decide +kernel
theorem dX9_factor_191 : decode cX9_factor 191 = .ok (.invokevirtual 79, 3) := by decide +kernel
theorem dX9_factor_194 : decode cX9_factor 194 = .ok (.return_, 1) := by decide +kernel
theorem dX9_far_0 : decode cX9_far 0 = .ok (.iload_n 0, 1) := by decide +kernel
theorem dX9_far_1 : decode cX9_far 1 = .ok (.iconst 4, 1) := by decide +kernel
theorem dX9_far_2 : decode cX9_far 2 = .ok (.idiv, 1) := by decide +kernel
theorem dX9_far_3 : decode cX9_far 3 = .ok (.iload_n 1, 1) := by decide +kernel
theorem dX9_far_4 : decode cX9_far 4 = .ok (.iconst 4, 1) := by decide +kernel
theorem dX9_far_5 : decode cX9_far 5 = .ok (.idiv, 1) := by decide +kernel
theorem dX9_far_6 : decode cX9_far 6 = .ok (.isub, 1) := by decide +kernel
theorem dX9_far_7 : decode cX9_far 7 = .ok (.invokestatic 39, 3) := by decide +kernel
theorem dX9_far_10 : decode cX9_far 10 = .ok (.iload_n 0, 1) := by decide +kernel
theorem dX9_far_11 : decode cX9_far 11 = .ok (.iconst 4, 1) := by decide +kernel
theorem dX9_far_12 : decode cX9_far 12 = .ok (.irem, 1) := by decide +kernel
theorem dX9_far_13 : decode cX9_far 13 = .ok (.iload_n 1, 1) := by decide +kernel
theorem dX9_far_14 : decode cX9_far 14 = .ok (.iconst 4, 1) := by decide +kernel
theorem dX9_far_15 : decode cX9_far 15 = .ok (.irem, 1) := by decide +kernel
theorem dX9_far_16 : decode cX9_far 16 = .ok (.isub, 1) := by decide +kernel
theorem dX9_far_17 : decode cX9_far 17 = .ok (.invokestatic 39, 3) := by decide +kernel
theorem dX9_far_20 : decode cX9_far 20 = .ok (.iadd, 1) := by decide +kernel
theorem dX9_far_21 : decode cX9_far 21 = .ok (.ireturn, 1) := by decide +kernel
theorem dX9_feed_0 : decode cX9_feed 0 = .ok (.iload_n 1, 1) := by decide +kernel
theorem dX9_feed_1 : decode cX9_feed 1 = .ok (.iconst 0, 1) := by decide +kernel
theorem dX9_feed_2 : decode cX9_feed 2 = .ok (.bipush 127, 2) := by decide +kernel
theorem dX9_feed_4 : decode cX9_feed 4 = .ok (.invokestatic 35, 3) := by decide +kernel
theorem dX9_feed_7 : decode cX9_feed 7 = .ok (.ifCond .ne 6, 3) := by decide +kernel
theorem dX9_feed_10 : decode cX9_feed 10 = .ok (.bipush (-2), 2) := by decide +kernel
theorem dX9_feed_12 : decode cX9_feed 12 = .ok (.ireturn, 1) := by decide +kernel
theorem dX9_feed_13 : decode cX9_feed 13 = .ok (.aload_n 0, 1) := by decide +kernel
theorem dX9_feed_14 : decode cX9_feed 14 = .ok (.getfield 9, 3) := by decide +kernel
theorem dX9_feed_17 : decode cX9_feed 17 = .ok (.bipush 36, 2) := by decide +kernel
theorem dX9_feed_19 : decode cX9_feed 19 = .ok (.iaload, 1) := by decide +kernel
theorem dX9_feed_20 : decode cX9_feed 20 = .ok (.bipush 100, 2) := by decide +kernel
theorem dX9_feed_22 : decode cX9_feed 22 = .ok (.if_icmp .ne 6, 3) := by decide +kernel
theorem dX9_feed_25 : decode cX9_feed 25 = .ok (.bipush (-4), 2) := by decide +kernel
theorem dX9_feed_27 : decode cX9_feed 27 = .ok (.ireturn, 1) := by decide +kernel
theorem dX9_feed_28 : decode cX9_feed 28 = .ok (.aload_n 0, 1) := by decide +kernel
theorem dX9_feed_29 : decode cX9_feed 29 = .ok (.getfield 9, 3) := by decide +kernel
theorem dX9_feed_32 : decode cX9_feed 32 = .ok (.bipush 126, 2) := by decide +kernel
theorem dX9_feed_34 : decode cX9_feed 34 = .ok (.aload_n 0, 1) := by decide +kernel
theorem dX9_feed_35 : decode cX9_feed 35 = .ok (.getfield 9, 3) := by decide +kernel
theorem dX9_feed_38 : decode cX9_feed 38 = .ok (.bipush 36, 2) := by decide +kernel
theorem dX9_feed_40 : decode cX9_feed 40 = .ok (.iaload, 1) := by decide +kernel
theorem dX9_feed_41 : decode cX9_feed 41 = .ok (.iadd, 1) := by decide +kernel
theorem dX9_feed_42 : decode cX9_feed 42 = .ok (.iload_n 1, 1) := by decide +kernel
theorem dX9_feed_43 : decode cX9_feed 43 = .ok (.iastore, 1) := by decide +kernel
theorem dX9_feed_44 : decode cX9_feed 44 = .ok (.aload_n 0, 1) := by decide +kernel
theorem dX9_feed_45 : decode cX9_feed 45 = .ok (.getfield 9, 3) := by decide +kernel
theorem dX9_feed_48 : decode cX9_feed 48 = .ok (.bipush 36, 2) := by decide +kernel
theorem dX9_feed_50 : decode cX9_feed 50 = .ok (.dup2, 1) := by decide +kernel
theorem dX9_feed_51 : decode cX9_feed 51 = .ok (.iaload, 1) := by decide +kernel
theorem dX9_feed_52 : decode cX9_feed 52 = .ok (.iconst 1, 1) := by decide +kernel
theorem dX9_feed_53 : decode cX9_feed 53 = .ok (.iadd, 1) := by decide +kernel
theorem dX9_feed_54 : decode cX9_feed 54 = .ok (.iastore, 1) := by decide +kernel
theorem dX9_feed_55 : decode cX9_feed 55 = .ok (.aload_n 0, 1) := by decide +kernel
theorem dX9_feed_56 : decode cX9_feed 56 = .ok (.getfield 9, 3) := by decide +kernel
theorem dX9_feed_59 : decode cX9_feed 59 = .ok (.bipush 36, 2) := by decide +kernel
theorem dX9_feed_61 : decode cX9_feed 61 = .ok (.iaload, 1) := by decide +kernel
theorem dX9_feed_62 : decode cX9_feed 62 = .ok (.ireturn, 1) := by decide +kernel
theorem dX9_figures_0 : decode cX9_figures 0 = .ok (.aload_n 0, 1) := by decide +kernel
theorem dX9_figures_1 : decode cX9_figures 1 = .ok (.aload_n 0, 1) := by decide +kernel
theorem dX9_figures_2 : decode cX9_figures 2 = .ok (.getfield 49, 3) := by decide +kernel
theorem dX9_figures_5 : decode cX9_figures 5 = .ok (.ifCond .ne 17, 3) := by decide +kernel
theorem dX9_figures_8 : decode cX9_figures 8 = .ok (.aload_n 0, 1) := by decide +kernel
theorem dX9_figures_9 : decode cX9_figures 9 = .ok (.invokevirtual 53, 3) := by decide +kernel
theorem dX9_figures_12 : decode cX9_figures 12 = .ok (.bipush 48, 2) := by decide +kernel
theorem dX9_figures_14 : decode cX9_figures 14 = .ok (.bipush 57, 2) := by decide +kernel
theorem dX9_figures_16 : decode cX9_figures 16 = .ok (.invokestatic 35, 3) := by decide +kernel
theorem dX9_figures_19 : decode cX9_figures 19 = .ok (.ifCond .ne 7, 3) := by decide +kernel
theorem dX9_figures_22 : decode cX9_figures 22 = .ok (.iconst 1, 1) := by decide +kernel
theorem dX9_figures_23 : decode cX9_figures 23 = .ok (.goto 4, 3) := by decide +kernel
theorem dX9_figures_26 : decode cX9_figures 26 = .ok (.iconst 0, 1) := by decide +kernel
theorem dX9_figures_27 : decode cX9_figures 27 = .ok (.putfield 49, 3) := by decide +kernel
theorem dX9_figures_30 : decode cX9_figures 30 = .ok (.iconst 0, 1) := by decide +kernel
theorem dX9_figures_31 : decode cX9_figures 31 = .ok (.istore_n 1, 1) := by decide +kernel
theorem dX9_figures_32 : decode cX9_figures 32 = .ok (.iconst 0, 1) := by decide +kernel
theorem dX9_figures_33 : decode cX9_figures 33 = .ok (.istore_n 2, 1) := by decide +kernel
theorem dX9_figures_34 : decode cX9_figures 34 = .ok (.iload_n 2, 1) := by decide +kernel
theorem dX9_figures_35 : decode cX9_figures 35 = .ok (.iconst 2, 1) := by decide +kernel
theorem dX9_figures_36 : decode cX9_figures 36 = .ok (.if_icmp .ge 61, 3) := by decide +kernel
theorem dX9_figures_39 : decode cX9_figures 39 = .ok (.aload_n 0, 1) := by decide +kernel
theorem dX9_figures_40 : decode cX9_figures 40 = .ok (.getfield 49, 3) := by decide +kernel
theorem dX9_figures_43 : decode cX9_figures 43 = .ok (.ifCond .ne 54, 3) := by decide +kernel
theorem dX9_figures_46 : decode cX9_figures 46 = .ok (.aload_n 0, 1) := by decide +kernel
theorem dX9_figures_47 : decode cX9_figures 47 = .ok (.invokevirtual 53, 3) := by decide +kernel
theorem dX9_figures_50 : decode cX9_figures 50 = .ok (.bipush 48, 2) := by decide +kernel
theorem dX9_figures_52 : decode cX9_figures 52 = .ok (.bipush 57, 2) := by decide +kernel
theorem dX9_figures_54 : decode cX9_figures 54 = .ok (.invokestatic 35, 3) := by decide +kernel
theorem dX9_figures_57 : decode cX9_figures 57 = .ok (.ifCond .eq 40, 3) := by decide +kernel
theorem dX9_figures_60 : decode cX9_figures 60 = .ok (.iload_n 2, 1) := by decide +kernel
theorem dX9_figures_61 : decode cX9_figures 61 = .ok (.ifCond .eq 7, 3) := by decide +kernel
theorem dX9_figures_64 : decode cX9_figures 64 = .ok (.iload_n 1, 1) := by decide +kernel
theorem dX9_figures_65 : decode cX9_figures 65 = .ok (.ifCond .le 32, 3) := by decide +kernel
theorem dX9_figures_68 : decode cX9_figures 68 = .ok (.bipush 10, 2) := by decide +kernel
theorem dX9_figures_70 : decode cX9_figures 70 = .ok (.iload_n 1, 1) := by decide +kernel
theorem dX9_figures_71 : decode cX9_figures 71 = .ok (.imul, 1) := by decide +kernel
theorem dX9_figures_72 : decode cX9_figures 72 = .ok (.aload_n 0, 1) := by decide +kernel
theorem dX9_figures_73 : decode cX9_figures 73 = .ok (.invokevirtual 53, 3) := by decide +kernel
theorem dX9_figures_76 : decode cX9_figures 76 = .ok (.iadd, 1) := by decide +kernel
theorem dX9_figures_77 : decode cX9_figures 77 = .ok (.bipush 48, 2) := by decide +kernel
theorem dX9_figures_79 : decode cX9_figures 79 = .ok (.isub, 1) := by decide +kernel
theorem dX9_figures_80 : decode cX9_figures 80 = .ok (.istore_n 1, 1) := by decide +kernel
theorem dX9_figures_81 : decode cX9_figures 81 = .ok (.aload_n 0, 1) := by decide +kernel
theorem dX9_figures_82 : decode cX9_figures 82 = .ok (.dup, 1) := by decide +kernel
theorem dX9_figures_83 : decode cX9_figures 83 = .ok (.getfield 43, 3) := by decide +kernel
theorem dX9_figures_86 : decode cX9_figures 86 = .ok (.iconst 1, 1) := by decide +kernel
theorem dX9_figures_87 : decode cX9_figures 87 = .ok (.iadd, 1) := by decide +kernel
theorem dX9_figures_88 : decode cX9_figures 88 = .ok (.putfield 43, 3) := by decide +kernel
theorem dX9_figures_91 : decode cX9_figures 91 = .ok (.iinc 2 1, 3) := by decide +kernel
theorem dX9_figures_94 : decode cX9_figures 94 = .ok (.goto (-60), 3) := by decide +kernel
theorem dX9_figures_97 : decode cX9_figures 97 = .ok (.iload_n 1, 1) := by decide +kernel
theorem dX9_figures_98 : decode cX9_figures 98 = .ok (.ireturn, 1) := by decide +kernel
theorem dX9_goesBack_0 : decode cX9_goesBack 0 = .ok (.iconst 0, 1) := by decide +kernel
theorem dX9_goesBack_1 : decode cX9_goesBack 1 = .ok (.istore_n 1, 1) := by decide +kernel
theorem dX9_goesBack_2 : decode cX9_goesBack 2 = .ok (.iload_n 1, 1) := by decide +kernel
theorem dX9_goesBack_3 : decode cX9_goesBack 3 = .ok (.bipush 30, 2) := by decide +kernel
theorem dX9_goesBack_5 : decode cX9_goesBack 5 = .ok (.if_icmp .ge 21, 3) := by decide +kernel
theorem dX9_goesBack_8 : decode cX9_goesBack 8 = .ok (.aload_n 0, 1) := by decide +kernel
theorem dX9_goesBack_9 : decode cX9_goesBack 9 = .ok (.getfield 9, 3) := by decide +kernel
theorem dX9_goesBack_12 : decode cX9_goesBack 12 = .ok (.iload_n 1, 1) := by decide +kernel
theorem dX9_goesBack_13 : decode cX9_goesBack 13 = .ok (.aload_n 0, 1) := by decide +kernel
theorem dX9_goesBack_14 : decode cX9_goesBack 14 = .ok (.getfield 18, 3) := by decide +kernel
theorem dX9_goesBack_17 : decode cX9_goesBack 17 = .ok (.iload_n 1, 1) := by decide +kernel
theorem dX9_goesBack_18 : decode cX9_goesBack 18 = .ok (.iaload, 1) := by decide +kernel
theorem dX9_goesBack_19 : decode cX9_goesBack 19 = .ok (.iastore, 1) := by decide +kernel
theorem dX9_goesBack_20 : decode cX9_goesBack 20 = .ok (.iinc 1 1, 3) := by decide +kernel
theorem dX9_goesBack_23 : decode cX9_goesBack 23 = .ok (.goto (-21), 3) := by decide +kernel
theorem dX9_goesBack_26 : decode cX9_goesBack 26 = .ok (.return_, 1) := by decide +kernel
theorem dX9_here_0 : decode cX9_here 0 = .ok (.aload_n 0, 1) := by decide +kernel
theorem dX9_here_1 : decode cX9_here 1 = .ok (.getfield 43, 3) := by decide +kernel
theorem dX9_here_4 : decode cX9_here 4 = .ok (.aload_n 0, 1) := by decide +kernel
theorem dX9_here_5 : decode cX9_here 5 = .ok (.getfield 46, 3) := by decide +kernel
theorem dX9_here_8 : decode cX9_here 8 = .ok (.if_icmp .ge 18, 3) := by decide +kernel
theorem dX9_here_11 : decode cX9_here 11 = .ok (.aload_n 0, 1) := by decide +kernel
theorem dX9_here_12 : decode cX9_here 12 = .ok (.getfield 9, 3) := by decide +kernel
theorem dX9_here_15 : decode cX9_here 15 = .ok (.bipush 126, 2) := by decide +kernel
theorem dX9_here_17 : decode cX9_here 17 = .ok (.aload_n 0, 1) := by decide +kernel
theorem dX9_here_18 : decode cX9_here 18 = .ok (.getfield 43, 3) := by decide +kernel
theorem dX9_here_21 : decode cX9_here 21 = .ok (.iadd, 1) := by decide +kernel
theorem dX9_here_22 : decode cX9_here 22 = .ok (.iaload, 1) := by decide +kernel
theorem dX9_here_23 : decode cX9_here 23 = .ok (.goto 4, 3) := by decide +kernel
theorem dX9_here_26 : decode cX9_here 26 = .ok (.iconst (-1), 1) := by decide +kernel
theorem dX9_here_27 : decode cX9_here 27 = .ok (.ireturn, 1) := by decide +kernel
theorem dX9_in_0 : decode cX9_in 0 = .ok (.iload_n 0, 1) := by decide +kernel
theorem dX9_in_1 : decode cX9_in 1 = .ok (.iload_n 1, 1) := by decide +kernel
theorem dX9_in_2 : decode cX9_in 2 = .ok (.if_icmp .lt 12, 3) := by decide +kernel
theorem dX9_in_5 : decode cX9_in 5 = .ok (.iload_n 0, 1) := by decide +kernel
theorem dX9_in_6 : decode cX9_in 6 = .ok (.iload_n 2, 1) := by decide +kernel
theorem dX9_in_7 : decode cX9_in 7 = .ok (.if_icmp .gt 7, 3) := by decide +kernel
theorem dX9_in_10 : decode cX9_in 10 = .ok (.iconst 1, 1) := by decide +kernel
theorem dX9_in_11 : decode cX9_in 11 = .ok (.goto 4, 3) := by decide +kernel
theorem dX9_in_14 : decode cX9_in 14 = .ok (.iconst 0, 1) := by decide +kernel
theorem dX9_in_15 : decode cX9_in 15 = .ok (.ireturn, 1) := by decide +kernel
theorem dX9_isCell_0 : decode cX9_isCell 0 = .ok (.iload_n 0, 1) := by decide +kernel
theorem dX9_isCell_1 : decode cX9_isCell 1 = .ok (.iconst 0, 1) := by decide +kernel
theorem dX9_isCell_2 : decode cX9_isCell 2 = .ok (.bipush 15, 2) := by decide +kernel
theorem dX9_isCell_4 : decode cX9_isCell 4 = .ok (.invokestatic 35, 3) := by decide +kernel
theorem dX9_isCell_7 : decode cX9_isCell 7 = .ok (.ireturn, 1) := by decide +kernel
theorem dX9_isPerson_0 : decode cX9_isPerson 0 = .ok (.iload_n 1, 1) := by decide +kernel
theorem dX9_isPerson_1 : decode cX9_isPerson 1 = .ok (.iconst 0, 1) := by decide +kernel
theorem dX9_isPerson_2 : decode cX9_isPerson 2 = .ok (.aload_n 0, 1) := by decide +kernel
theorem dX9_isPerson_3 : decode cX9_isPerson 3 = .ok (.getfield 9, 3) := by decide +kernel
theorem dX9_isPerson_6 : decode cX9_isPerson 6 = .ok (.bipush 30, 2) := by decide +kernel
theorem dX9_isPerson_8 : decode cX9_isPerson 8 = .ok (.iaload, 1) := by decide +kernel
theorem dX9_isPerson_9 : decode cX9_isPerson 9 = .ok (.iconst 1, 1) := by decide +kernel
theorem dX9_isPerson_10 : decode cX9_isPerson 10 = .ok (.isub, 1) := by decide +kernel
theorem dX9_isPerson_11 : decode cX9_isPerson 11 = .ok (.invokestatic 35, 3) := by decide +kernel
theorem dX9_isPerson_14 : decode cX9_isPerson 14 = .ok (.ireturn, 1) := by decide +kernel
theorem dX9_keeps_0 : decode cX9_keeps 0 = .ok (.iconst 0, 1) := by decide +kernel
theorem dX9_keeps_1 : decode cX9_keeps 1 = .ok (.istore_n 1, 1) := by decide +kernel
theorem dX9_keeps_2 : decode cX9_keeps 2 = .ok (.iload_n 1, 1) := by decide +kernel
theorem dX9_keeps_3 : decode cX9_keeps 3 = .ok (.bipush 30, 2) := by decide +kernel
theorem dX9_keeps_5 : decode cX9_keeps 5 = .ok (.if_icmp .ge 21, 3) := by decide +kernel
theorem dX9_keeps_8 : decode cX9_keeps 8 = .ok (.aload_n 0, 1) := by decide +kernel
theorem dX9_keeps_9 : decode cX9_keeps 9 = .ok (.getfield 18, 3) := by decide +kernel
theorem dX9_keeps_12 : decode cX9_keeps 12 = .ok (.iload_n 1, 1) := by decide +kernel
theorem dX9_keeps_13 : decode cX9_keeps 13 = .ok (.aload_n 0, 1) := by decide +kernel
theorem dX9_keeps_14 : decode cX9_keeps 14 = .ok (.getfield 9, 3) := by decide +kernel
theorem dX9_keeps_17 : decode cX9_keeps 17 = .ok (.iload_n 1, 1) := by decide +kernel
theorem dX9_keeps_18 : decode cX9_keeps 18 = .ok (.iaload, 1) := by decide +kernel
theorem dX9_keeps_19 : decode cX9_keeps 19 = .ok (.iastore, 1) := by decide +kernel
theorem dX9_keeps_20 : decode cX9_keeps 20 = .ok (.iinc 1 1, 3) := by decide +kernel
theorem dX9_keeps_23 : decode cX9_keeps 23 = .ok (.goto (-21), 3) := by decide +kernel
theorem dX9_keeps_26 : decode cX9_keeps 26 = .ok (.return_, 1) := by decide +kernel
theorem dX9_much_0 : decode cX9_much 0 = .ok (.aload_n 0, 1) := by decide +kernel
theorem dX9_much_1 : decode cX9_much 1 = .ok (.aload_n 2, 1) := by decide +kernel
theorem dX9_much_2 : decode cX9_much 2 = .ok (.invokevirtual 99, 3) := by decide +kernel
theorem dX9_much_5 : decode cX9_much 5 = .ok (.aload_n 0, 1) := by decide +kernel
theorem dX9_much_6 : decode cX9_much 6 = .ok (.invokevirtual 93, 3) := by decide +kernel
theorem dX9_much_9 : decode cX9_much 9 = .ok (.istore_n 3, 1) := by decide +kernel
theorem dX9_much_10 : decode cX9_much 10 = .ok (.aload_n 0, 1) := by decide +kernel
theorem dX9_much_11 : decode cX9_much 11 = .ok (.bipush 32, 2) := by decide +kernel
theorem dX9_much_13 : decode cX9_much 13 = .ok (.invokevirtual 66, 3) := by decide +kernel
theorem dX9_much_16 : decode cX9_much 16 = .ok (.aload_n 0, 1) := by decide +kernel
theorem dX9_much_17 : decode cX9_much 17 = .ok (.invokevirtual 82, 3) := by decide +kernel
theorem dX9_much_20 : decode cX9_much 20 = .ok (.aload_n 0, 1) := by decide +kernel
theorem dX9_much_21 : decode cX9_much 21 = .ok (.iload_n 1, 1) := by decide +kernel
theorem dX9_much_22 : decode cX9_much 22 = .ok (.iload_n 3, 1) := by decide +kernel
theorem dX9_much_23 : decode cX9_much 23 = .ok (.isub, 1) := by decide +kernel
theorem dX9_much_24 : decode cX9_much 24 = .ok (.invokevirtual 79, 3) := by decide +kernel
theorem dX9_much_27 : decode cX9_much 27 = .ok (.return_, 1) := by decide +kernel
theorem dX9_must_0 : decode cX9_must 0 = .ok (.aload_n 0, 1) := by decide +kernel
theorem dX9_must_1 : decode cX9_must 1 = .ok (.aload_n 0, 1) := by decide +kernel
theorem dX9_must_2 : decode cX9_must 2 = .ok (.getfield 49, 3) := by decide +kernel
theorem dX9_must_5 : decode cX9_must 5 = .ok (.ifCond .ne 11, 3) := by decide +kernel
theorem dX9_must_8 : decode cX9_must 8 = .ok (.aload_n 0, 1) := by decide +kernel
theorem dX9_must_9 : decode cX9_must 9 = .ok (.invokevirtual 53, 3) := by decide +kernel
theorem dX9_must_12 : decode cX9_must 12 = .ok (.iload_n 1, 1) := by decide +kernel
theorem dX9_must_13 : decode cX9_must 13 = .ok (.if_icmp .eq 7, 3) := by decide +kernel
theorem dX9_must_16 : decode cX9_must 16 = .ok (.iconst 1, 1) := by decide +kernel
theorem dX9_must_17 : decode cX9_must 17 = .ok (.goto 4, 3) := by decide +kernel
theorem dX9_must_20 : decode cX9_must 20 = .ok (.iconst 0, 1) := by decide +kernel
theorem dX9_must_21 : decode cX9_must 21 = .ok (.putfield 49, 3) := by decide +kernel
theorem dX9_must_24 : decode cX9_must 24 = .ok (.aload_n 0, 1) := by decide +kernel
theorem dX9_must_25 : decode cX9_must 25 = .ok (.dup, 1) := by decide +kernel
theorem dX9_must_26 : decode cX9_must 26 = .ok (.getfield 43, 3) := by decide +kernel
theorem dX9_must_29 : decode cX9_must 29 = .ok (.aload_n 0, 1) := by decide +kernel
theorem dX9_must_30 : decode cX9_must 30 = .ok (.getfield 49, 3) := by decide +kernel
theorem dX9_must_33 : decode cX9_must 33 = .ok (.ifCond .eq 7, 3) := by decide +kernel
theorem dX9_must_36 : decode cX9_must 36 = .ok (.iconst 0, 1) := by decide +kernel
theorem dX9_must_37 : decode cX9_must 37 = .ok (.goto 4, 3) := by decide +kernel
theorem dX9_must_40 : decode cX9_must 40 = .ok (.iconst 1, 1) := by decide +kernel
theorem dX9_must_41 : decode cX9_must 41 = .ok (.iadd, 1) := by decide +kernel
theorem dX9_must_42 : decode cX9_must 42 = .ok (.putfield 43, 3) := by decide +kernel
theorem dX9_must_45 : decode cX9_must 45 = .ok (.return_, 1) := by decide +kernel
theorem dX9_size_0 : decode cX9_size 0 = .ok (.iload_n 0, 1) := by decide +kernel
theorem dX9_size_1 : decode cX9_size 1 = .ok (.ifCond .ge 8, 3) := by decide +kernel
theorem dX9_size_4 : decode cX9_size 4 = .ok (.iload_n 0, 1) := by decide +kernel
theorem dX9_size_5 : decode cX9_size 5 = .ok (.ineg, 1) := by decide +kernel
theorem dX9_size_6 : decode cX9_size 6 = .ok (.goto 4, 3) := by decide +kernel
theorem dX9_size_9 : decode cX9_size 9 = .ok (.iload_n 0, 1) := by decide +kernel
theorem dX9_size_10 : decode cX9_size 10 = .ok (.ireturn, 1) := by decide +kernel
theorem dX9_some_0 : decode cX9_some 0 = .ok (.aload_n 0, 1) := by decide +kernel
theorem dX9_some_1 : decode cX9_some 1 = .ok (.invokevirtual 96, 3) := by decide +kernel
theorem dX9_some_4 : decode cX9_some 4 = .ok (.aload_n 0, 1) := by decide +kernel
theorem dX9_some_5 : decode cX9_some 5 = .ok (.getfield 49, 3) := by decide +kernel
theorem dX9_some_8 : decode cX9_some 8 = .ok (.ifCond .ne 35, 3) := by decide +kernel
theorem dX9_some_11 : decode cX9_some 11 = .ok (.aload_n 0, 1) := by decide +kernel
theorem dX9_some_12 : decode cX9_some 12 = .ok (.invokevirtual 53, 3) := by decide +kernel
theorem dX9_some_15 : decode cX9_some 15 = .ok (.bipush 124, 2) := by decide +kernel
theorem dX9_some_17 : decode cX9_some 17 = .ok (.if_icmp .ne 26, 3) := by decide +kernel
theorem dX9_some_20 : decode cX9_some 20 = .ok (.aload_n 0, 1) := by decide +kernel
theorem dX9_some_21 : decode cX9_some 21 = .ok (.dup, 1) := by decide +kernel
theorem dX9_some_22 : decode cX9_some 22 = .ok (.getfield 43, 3) := by decide +kernel
theorem dX9_some_25 : decode cX9_some 25 = .ok (.iconst 1, 1) := by decide +kernel
theorem dX9_some_26 : decode cX9_some 26 = .ok (.iadd, 1) := by decide +kernel
theorem dX9_some_27 : decode cX9_some 27 = .ok (.putfield 43, 3) := by decide +kernel
theorem dX9_some_30 : decode cX9_some 30 = .ok (.aload_n 0, 1) := by decide +kernel
theorem dX9_some_31 : decode cX9_some 31 = .ok (.invokevirtual 96, 3) := by decide +kernel
theorem dX9_some_34 : decode cX9_some 34 = .ok (.aload_n 0, 1) := by decide +kernel
theorem dX9_some_35 : decode cX9_some 35 = .ok (.bipush (-3), 2) := by decide +kernel
theorem dX9_some_37 : decode cX9_some 37 = .ok (.invokevirtual 79, 3) := by decide +kernel
theorem dX9_some_40 : decode cX9_some 40 = .ok (.goto (-36), 3) := by decide +kernel
theorem dX9_some_43 : decode cX9_some 43 = .ok (.return_, 1) := by decide +kernel
theorem dX9_spells_0 : decode cX9_spells 0 = .ok (.iconst 0, 1) := by decide +kernel
theorem dX9_spells_1 : decode cX9_spells 1 = .ok (.istore_n 2, 1) := by decide +kernel
theorem dX9_spells_2 : decode cX9_spells 2 = .ok (.iload_n 2, 1) := by decide +kernel
theorem dX9_spells_3 : decode cX9_spells 3 = .ok (.aload_n 1, 1) := by decide +kernel
theorem dX9_spells_4 : decode cX9_spells 4 = .ok (.invokevirtual 57, 3) := by decide +kernel
theorem dX9_spells_7 : decode cX9_spells 7 = .ok (.if_icmp .ge 18, 3) := by decide +kernel
theorem dX9_spells_10 : decode cX9_spells 10 = .ok (.aload_n 0, 1) := by decide +kernel
theorem dX9_spells_11 : decode cX9_spells 11 = .ok (.aload_n 1, 1) := by decide +kernel
theorem dX9_spells_12 : decode cX9_spells 12 = .ok (.iload_n 2, 1) := by decide +kernel
theorem dX9_spells_13 : decode cX9_spells 13 = .ok (.invokevirtual 62, 3) := by decide +kernel
theorem dX9_spells_16 : decode cX9_spells 16 = .ok (.invokevirtual 66, 3) := by decide +kernel
theorem dX9_spells_19 : decode cX9_spells 19 = .ok (.iinc 2 1, 3) := by decide +kernel
theorem dX9_spells_22 : decode cX9_spells 22 = .ok (.goto (-20), 3) := by decide +kernel
theorem dX9_spells_25 : decode cX9_spells 25 = .ok (.return_, 1) := by decide +kernel
theorem dX9_tellsHere_0 : decode cX9_tellsHere 0 = .ok (.aload_n 0, 1) := by decide +kernel
theorem dX9_tellsHere_1 : decode cX9_tellsHere 1 = .ok (.aload_n 2, 1) := by decide +kernel
theorem dX9_tellsHere_2 : decode cX9_tellsHere 2 = .ok (.invokevirtual 99, 3) := by decide +kernel
theorem dX9_tellsHere_5 : decode cX9_tellsHere 5 = .ok (.aload_n 0, 1) := by decide +kernel
theorem dX9_tellsHere_6 : decode cX9_tellsHere 6 = .ok (.invokevirtual 93, 3) := by decide +kernel
theorem dX9_tellsHere_9 : decode cX9_tellsHere 9 = .ok (.istore_n 3, 1) := by decide +kernel
theorem dX9_tellsHere_10 : decode cX9_tellsHere 10 = .ok (.aload_n 0, 1) := by decide +kernel
theorem dX9_tellsHere_11 : decode cX9_tellsHere 11 = .ok (.getfield 49, 3) := by decide +kernel
theorem dX9_tellsHere_14 : decode cX9_tellsHere 14 = .ok (.ifCond .ne 15, 3) := by decide +kernel
theorem dX9_tellsHere_17 : decode cX9_tellsHere 17 = .ok (.aload_n 0, 1) := by decide +kernel
theorem dX9_tellsHere_18 : decode cX9_tellsHere 18 = .ok (.getfield 9, 3) := by decide +kernel
theorem dX9_tellsHere_21 : decode cX9_tellsHere 21 = .ok (.iload_n 1, 1) := by decide +kernel
theorem dX9_tellsHere_22 : decode cX9_tellsHere 22 = .ok (.aload_n 0, 1) := by decide +kernel
theorem dX9_tellsHere_23 : decode cX9_tellsHere 23 = .ok (.getfield 70, 3) := by decide +kernel
theorem dX9_tellsHere_26 : decode cX9_tellsHere 26 = .ok (.iadd, 1) := by decide +kernel
theorem dX9_tellsHere_27 : decode cX9_tellsHere 27 = .ok (.iload_n 3, 1) := by decide +kernel
theorem dX9_tellsHere_28 : decode cX9_tellsHere 28 = .ok (.iastore, 1) := by decide +kernel
theorem dX9_tellsHere_29 : decode cX9_tellsHere 29 = .ok (.return_, 1) := by decide +kernel
theorem dX9_town_0 : decode cX9_town 0 = .ok (.aload_n 0, 1) := by decide +kernel
theorem dX9_town_1 : decode cX9_town 1 = .ok (.getfield 9, 3) := by decide +kernel
theorem dX9_town_4 : decode cX9_town 4 = .ok (.bipush 31, 2) := by decide +kernel
theorem dX9_town_6 : decode cX9_town 6 = .ok (.iaload, 1) := by decide +kernel
theorem dX9_town_7 : decode cX9_town 7 = .ok (.iconst 5, 1) := by decide +kernel
theorem dX9_town_8 : decode cX9_town 8 = .ok (.if_icmp .ne 6, 3) := by decide +kernel
theorem dX9_town_11 : decode cX9_town 11 = .ok (.bipush (-4), 2) := by decide +kernel
theorem dX9_town_13 : decode cX9_town 13 = .ok (.ireturn, 1) := by decide +kernel
theorem dX9_town_14 : decode cX9_town 14 = .ok (.aload_n 0, 1) := by decide +kernel
theorem dX9_town_15 : decode cX9_town 15 = .ok (.aload_n 0, 1) := by decide +kernel
theorem dX9_town_16 : decode cX9_town 16 = .ok (.getfield 9, 3) := by decide +kernel
theorem dX9_town_19 : decode cX9_town 19 = .ok (.bipush 31, 2) := by decide +kernel
theorem dX9_town_21 : decode cX9_town 21 = .ok (.iaload, 1) := by decide +kernel
theorem dX9_town_22 : decode cX9_town 22 = .ok (.putfield 70, 3) := by decide +kernel
theorem dX9_town_25 : decode cX9_town 25 = .ok (.aload_n 0, 1) := by decide +kernel
theorem dX9_town_26 : decode cX9_town 26 = .ok (.aload_n 0, 1) := by decide +kernel
theorem dX9_town_27 : decode cX9_town 27 = .ok (.getfield 9, 3) := by decide +kernel
theorem dX9_town_30 : decode cX9_town 30 = .ok (.bipush 36, 2) := by decide +kernel
theorem dX9_town_32 : decode cX9_town 32 = .ok (.iaload, 1) := by decide +kernel
theorem dX9_town_33 : decode cX9_town 33 = .ok (.putfield 46, 3) := by decide +kernel
theorem dX9_town_36 : decode cX9_town 36 = .ok (.aload_n 0, 1) := by decide +kernel
theorem dX9_town_37 : decode cX9_town 37 = .ok (.getfield 9, 3) := by decide +kernel
theorem dX9_town_40 : decode cX9_town 40 = .ok (.bipush 36, 2) := by decide +kernel
theorem dX9_town_42 : decode cX9_town 42 = .ok (.iconst 0, 1) := by decide +kernel
theorem dX9_town_43 : decode cX9_town 43 = .ok (.iastore, 1) := by decide +kernel
theorem dX9_town_44 : decode cX9_town 44 = .ok (.aload_n 0, 1) := by decide +kernel
theorem dX9_town_45 : decode cX9_town 45 = .ok (.getfield 9, 3) := by decide +kernel
theorem dX9_town_48 : decode cX9_town 48 = .ok (.sipush 226, 3) := by decide +kernel
theorem dX9_town_51 : decode cX9_town 51 = .ok (.aload_n 0, 1) := by decide +kernel
theorem dX9_town_52 : decode cX9_town 52 = .ok (.getfield 70, 3) := by decide +kernel
theorem dX9_town_55 : decode cX9_town 55 = .ok (.iadd, 1) := by decide +kernel
theorem dX9_town_56 : decode cX9_town 56 = .ok (.iconst 2, 1) := by decide +kernel
theorem dX9_town_57 : decode cX9_town 57 = .ok (.iastore, 1) := by decide +kernel
theorem dX9_town_58 : decode cX9_town 58 = .ok (.aload_n 0, 1) := by decide +kernel
theorem dX9_town_59 : decode cX9_town 59 = .ok (.getfield 9, 3) := by decide +kernel
theorem dX9_town_62 : decode cX9_town 62 = .ok (.sipush 231, 3) := by decide +kernel
theorem dX9_town_65 : decode cX9_town 65 = .ok (.aload_n 0, 1) := by decide +kernel
theorem dX9_town_66 : decode cX9_town 66 = .ok (.getfield 70, 3) := by decide +kernel
theorem dX9_town_69 : decode cX9_town 69 = .ok (.iadd, 1) := by decide +kernel
theorem dX9_town_70 : decode cX9_town 70 = .ok (.iconst 0, 1) := by decide +kernel
theorem dX9_town_71 : decode cX9_town 71 = .ok (.iastore, 1) := by decide +kernel
theorem dX9_town_72 : decode cX9_town 72 = .ok (.aload_n 0, 1) := by decide +kernel
theorem dX9_town_73 : decode cX9_town 73 = .ok (.iconst 0, 1) := by decide +kernel
theorem dX9_town_74 : decode cX9_town 74 = .ok (.putfield 43, 3) := by decide +kernel
theorem dX9_town_77 : decode cX9_town 77 = .ok (.aload_n 0, 1) := by decide +kernel
theorem dX9_town_78 : decode cX9_town 78 = .ok (.iconst 0, 1) := by decide +kernel
theorem dX9_town_79 : decode cX9_town 79 = .ok (.putfield 49, 3) := by decide +kernel
theorem dX9_town_82 : decode cX9_town 82 = .ok (.aload_n 0, 1) := by decide +kernel
theorem dX9_town_83 : decode cX9_town 83 = .ok (.iconst 0, 1) := by decide +kernel
theorem dX9_town_84 : decode cX9_town 84 = .ok (.putfield 73, 3) := by decide +kernel
theorem dX9_town_87 : decode cX9_town 87 = .ok (.iconst 1, 1) := by decide +kernel
theorem dX9_town_88 : decode cX9_town 88 = .ok (.istore_n 1, 1) := by decide +kernel
theorem dX9_town_89 : decode cX9_town 89 = .ok (.aload_n 0, 1) := by decide +kernel
theorem dX9_town_90 : decode cX9_town 90 = .ok (.invokevirtual 116, 3) := by decide +kernel
theorem dX9_town_93 : decode cX9_town 93 = .ok (.aload_n 0, 1) := by decide +kernel
theorem dX9_town_94 : decode cX9_town 94 = .ok (.getfield 49, 3) := by decide +kernel
theorem dX9_town_97 : decode cX9_town 97 = .ok (.ifCond .ne 38, 3) := by decide +kernel
theorem dX9_town_100 : decode cX9_town 100 = .ok (.iload_n 1, 1) := by decide +kernel
theorem dX9_town_101 : decode cX9_town 101 = .ok (.bipush 10, 2) := by decide +kernel
theorem dX9_town_103 : decode cX9_town 103 = .ok (.if_icmp .ge 32, 3) := by decide +kernel
theorem dX9_town_106 : decode cX9_town 106 = .ok (.aload_n 0, 1) := by decide +kernel
theorem dX9_town_107 : decode cX9_town 107 = .ok (.invokevirtual 53, 3) := by decide +kernel
theorem dX9_town_110 : decode cX9_town 110 = .ok (.bipush 59, 2) := by decide +kernel
theorem dX9_town_112 : decode cX9_town 112 = .ok (.if_icmp .ne 23, 3) := by decide +kernel
theorem dX9_town_115 : decode cX9_town 115 = .ok (.aload_n 0, 1) := by decide +kernel
theorem dX9_town_116 : decode cX9_town 116 = .ok (.dup, 1) := by decide +kernel
theorem dX9_town_117 : decode cX9_town 117 = .ok (.getfield 43, 3) := by decide +kernel
theorem dX9_town_120 : decode cX9_town 120 = .ok (.iconst 1, 1) := by decide +kernel
theorem dX9_town_121 : decode cX9_town 121 = .ok (.iadd, 1) := by decide +kernel
theorem dX9_town_122 : decode cX9_town 122 = .ok (.putfield 43, 3) := by decide +kernel
theorem dX9_town_125 : decode cX9_town 125 = .ok (.aload_n 0, 1) := by decide +kernel
theorem dX9_town_126 : decode cX9_town 126 = .ok (.invokevirtual 116, 3) := by decide +kernel
theorem dX9_town_129 : decode cX9_town 129 = .ok (.iinc 1 1, 3) := by decide +kernel
theorem dX9_town_132 : decode cX9_town 132 = .ok (.goto (-39), 3) := by decide +kernel
theorem dX9_town_135 : decode cX9_town 135 = .ok (.aload_n 0, 1) := by decide +kernel
theorem dX9_town_136 : decode cX9_town 136 = .ok (.getfield 49, 3) := by decide +kernel
theorem dX9_town_139 : decode cX9_town 139 = .ok (.ifCond .ne 14, 3) := by decide +kernel
theorem dX9_town_142 : decode cX9_town 142 = .ok (.aload_n 0, 1) := by decide +kernel
theorem dX9_town_143 : decode cX9_town 143 = .ok (.getfield 43, 3) := by decide +kernel
theorem dX9_town_146 : decode cX9_town 146 = .ok (.aload_n 0, 1) := by decide +kernel
theorem dX9_town_147 : decode cX9_town 147 = .ok (.getfield 46, 3) := by decide +kernel
theorem dX9_town_150 : decode cX9_town 150 = .ok (.if_icmp .eq 11, 3) := by decide +kernel
theorem dX9_town_153 : decode cX9_town 153 = .ok (.bipush (-10), 2) := by decide +kernel
theorem dX9_town_155 : decode cX9_town 155 = .ok (.aload_n 0, 1) := by decide +kernel
theorem dX9_town_156 : decode cX9_town 156 = .ok (.getfield 43, 3) := by decide +kernel
theorem dX9_town_159 : decode cX9_town 159 = .ok (.isub, 1) := by decide +kernel
theorem dX9_town_160 : decode cX9_town 160 = .ok (.ireturn, 1) := by decide +kernel
theorem dX9_town_161 : decode cX9_town 161 = .ok (.aload_n 0, 1) := by decide +kernel
theorem dX9_town_162 : decode cX9_town 162 = .ok (.getfield 9, 3) := by decide +kernel
theorem dX9_town_165 : decode cX9_town 165 = .ok (.bipush 31, 2) := by decide +kernel
theorem dX9_town_167 : decode cX9_town 167 = .ok (.dup2, 1) := by decide +kernel
theorem dX9_town_168 : decode cX9_town 168 = .ok (.iaload, 1) := by decide +kernel
theorem dX9_town_169 : decode cX9_town 169 = .ok (.iconst 1, 1) := by decide +kernel
theorem dX9_town_170 : decode cX9_town 170 = .ok (.iadd, 1) := by decide +kernel
theorem dX9_town_171 : decode cX9_town 171 = .ok (.iastore, 1) := by decide +kernel
theorem dX9_town_172 : decode cX9_town 172 = .ok (.aload_n 0, 1) := by decide +kernel
theorem dX9_town_173 : decode cX9_town 173 = .ok (.getfield 9, 3) := by decide +kernel
theorem dX9_town_176 : decode cX9_town 176 = .ok (.bipush 37, 2) := by decide +kernel
theorem dX9_town_178 : decode cX9_town 178 = .ok (.aload_n 0, 1) := by decide +kernel
theorem dX9_town_179 : decode cX9_town 179 = .ok (.getfield 70, 3) := by decide +kernel
theorem dX9_town_182 : decode cX9_town 182 = .ok (.iastore, 1) := by decide +kernel
theorem dX9_town_183 : decode cX9_town 183 = .ok (.aload_n 0, 1) := by decide +kernel
theorem dX9_town_184 : decode cX9_town 184 = .ok (.getfield 70, 3) := by decide +kernel
theorem dX9_town_187 : decode cX9_town 187 = .ok (.ireturn, 1) := by decide +kernel
def w_X9_in    (x0 : Int32) (x1 : Int32) (x2 : Int32) (M : ap_Mem) (K : Int32 → ap_Mem → Prop) : Prop :=
(if x0 < x1 then (K 0 M) else ((if x2 < x0 then (K 0 M) else (K 1 M))))
theorem bl_X9_in_0 {x : ap_X} {g : ap_G} (hc : ap_Cx x g cX9_in RX9 3) {K : Int32 → ap_Mem → Prop} (hz : ap_Ends x g 0 (some .boolean) (ap_Qi K))       {x0 : Int32} {x1 : Int32} {x2 : Int32} {M : ap_Mem}  (h : w_X9_in    x0 x1 x2 M K) : ap_V x g 3 0 [(0, .int x0), (1, .int x1), (2, .int x2)] [] M := by
  unfold w_X9_in at h
  refine ap_iload_n (q := 1) hc dX9_in_0 rfl rfl 0 rfl ?_
  refine ap_iload_n (q := 2) hc dX9_in_1 rfl rfl 1 rfl ?_
  refine ap_icmp_lt (q := 5) (tgt := 14) hc dX9_in_2 rfl (by decide) (fun z_1 => ?_) (fun z_1 => ?_)
  · have h := Eq.mp (if_pos z_1) h
    refine ap_iconst (q := 15) hc dX9_in_14 rfl ic_0 ?_
    exact ap_iret hc hz (ap_Bn ap_B0) dX9_in_15 h
  · have h := Eq.mp (if_neg z_1) h
    refine ap_iload_n (q := 6) hc dX9_in_5 rfl rfl 0 rfl ?_
    refine ap_iload_n (q := 7) hc dX9_in_6 rfl rfl 2 rfl ?_
    refine ap_icmp_gt (q := 10) (tgt := 14) hc dX9_in_7 rfl (by decide) (fun z_2 => ?_) (fun z_2 => ?_)
    · have h := Eq.mp (if_pos z_2) h
      refine ap_iconst (q := 15) hc dX9_in_14 rfl ic_0 ?_
      exact ap_iret hc hz (ap_Bn ap_B0) dX9_in_15 h
    · have h := Eq.mp (if_neg z_2) h
      refine ap_iconst (q := 11) hc dX9_in_10 rfl ic_1 ?_
      refine ap_goto (q := 15) hc dX9_in_11 (by decide) ?_
      exact ap_iret hc hz (ap_Bn ap_B1) dX9_in_15 h
theorem ok_X9_in {l : Launch} {g : ap_G} (hg : ap_GOK g)   {x0 : Int32} {x1 : Int32} {x2 : Int32} {M : ap_Mem} {K : Int32 → ap_Mem → Prop} (h : w_X9_in  x0 x1 x2 M K) : ap_Ct l g yX9_in cX9_in 3 (some .boolean) 0 [.int x0, .int x1, .int x2] M (ap_Qi K) := by
  refine ap_Ct_of hg (by decide +kernel) (Nat.le_of_ble_eq_true rfl) (fun x hx hc hz => ?_)
  subst hx
  exact bl_X9_in_0 hc hz  h
def w_X9_size    (x0 : Int32) (M : ap_Mem) (K : Int32 → ap_Mem → Prop) : Prop :=
(if 0 ≤ x0 then (K x0 M) else (K (-x0) M))
theorem bl_X9_size_0 {x : ap_X} {g : ap_G} (hc : ap_Cx x g cX9_size RX9 1) {K : Int32 → ap_Mem → Prop} (hz : ap_Ends x g 0 (some .int) (ap_Qi K))       {x0 : Int32} {M : ap_Mem}  (h : w_X9_size    x0 M K) : ap_V x g 1 0 [(0, .int x0)] [] M := by
  unfold w_X9_size at h
  refine ap_iload_n (q := 1) hc dX9_size_0 rfl rfl 0 rfl ?_
  refine ap_if_ge (q := 4) (tgt := 9) hc dX9_size_1 rfl (by decide) (fun z_1 => ?_) (fun z_1 => ?_)
  · have h := Eq.mp (if_pos z_1) h
    refine ap_iload_n (q := 10) hc dX9_size_9 rfl rfl 0 rfl ?_
    exact ap_iret hc hz rfl dX9_size_10 h
  · have h := Eq.mp (if_neg z_1) h
    refine ap_iload_n (q := 5) hc dX9_size_4 rfl rfl 0 rfl ?_
    refine ap_ineg (q := 6) hc dX9_size_5 rfl ?_
    refine ap_goto (q := 10) hc dX9_size_6 (by decide) ?_
    exact ap_iret hc hz rfl dX9_size_10 h
theorem ok_X9_size {l : Launch} {g : ap_G} (hg : ap_GOK g)   {x0 : Int32} {M : ap_Mem} {K : Int32 → ap_Mem → Prop} (h : w_X9_size  x0 M K) : ap_Ct l g yX9_size cX9_size 1 (some .int) 0 [.int x0] M (ap_Qi K) := by
  refine ap_Ct_of hg (by decide +kernel) (Nat.le_of_ble_eq_true rfl) (fun x hx hc hz => ?_)
  subst hx
  exact bl_X9_size_0 hc hz  h
def w_X9_isCell    (x0 : Int32) (M : ap_Mem) (K : Int32 → ap_Mem → Prop) : Prop :=
w_X9_in x0 0 15 M (fun r_1 M_2 => ap_B r_1 ∧ K r_1 M_2)
theorem bl_X9_isCell_0 {x : ap_X} {g : ap_G} (hc : ap_Cx x g cX9_isCell RX9 1) {K : Int32 → ap_Mem → Prop} (hz : ap_Ends x g 1 (some .boolean) (ap_Qi K))       {x0 : Int32} {M : ap_Mem}  (h : w_X9_isCell    x0 M K) : ap_V x g 1 0 [(0, .int x0)] [] M := by
  have hg := hc.2.2.2.2.2.2.2.1
  unfold w_X9_isCell at h
  refine ap_iload_n (q := 1) hc dX9_isCell_0 rfl rfl 0 rfl ?_
  refine ap_iconst (q := 2) hc dX9_isCell_1 rfl ic_0 ?_
  refine ap_bipush (q := 4) hc dX9_isCell_2 rfl bc_15 ?_
  refine ap_callS (q := 7) (As := [.int x0, .int 0, .int 15]) hc (ok_X9_in hg  h) ml_RX9_35 lk_X9_in ls_X9_in (ap_RmE hz (by decide)) rfl rfl (Nat.le_of_ble_eq_true rfl) dX9_isCell_4 rfl (ap_ki (fun r_1 M_2 h => ?_))
  exact ap_iret hc hz (ap_Bn h.1) dX9_isCell_7 h.2
theorem ok_X9_isCell {l : Launch} {g : ap_G} (hg : ap_GOK g)   {x0 : Int32} {M : ap_Mem} {K : Int32 → ap_Mem → Prop} (h : w_X9_isCell  x0 M K) : ap_Ct l g yX9_isCell cX9_isCell 1 (some .boolean) 1 [.int x0] M (ap_Qi K) := by
  refine ap_Ct_of hg (by decide +kernel) (Nat.le_of_ble_eq_true rfl) (fun x hx hc hz => ?_)
  subst hx
  exact bl_X9_isCell_0 hc hz  h
def w_X9_far    (x0 : Int32) (x1 : Int32) (M : ap_Mem) (K : Int32 → ap_Mem → Prop) : Prop :=
w_X9_size ((x0 / 4) - (x1 / 4)) M (fun r_1 M_2 => w_X9_size ((x0 - x0 / 4 * 4) - (x1 - x1 / 4 * 4)) M_2 (fun r_3 M_4 => K (r_1 + r_3) M_4))
theorem bl_X9_far_0 {x : ap_X} {g : ap_G} (hc : ap_Cx x g cX9_far RX9 2) {K : Int32 → ap_Mem → Prop} (hz : ap_Ends x g 1 (some .int) (ap_Qi K))       {x0 : Int32} {x1 : Int32} {M : ap_Mem}  (h : w_X9_far    x0 x1 M K) : ap_V x g 2 0 [(0, .int x0), (1, .int x1)] [] M := by
  have hg := hc.2.2.2.2.2.2.2.1
  unfold w_X9_far at h
  refine ap_iload_n (q := 1) hc dX9_far_0 rfl rfl 0 rfl ?_
  refine ap_iconst (q := 2) hc dX9_far_1 rfl ic_4 ?_
  refine ap_idiv (q := 3) hc dX9_far_2 rfl (by decide) ?_
  refine ap_iload_n (q := 4) hc dX9_far_3 rfl rfl 1 rfl ?_
  refine ap_iconst (q := 5) hc dX9_far_4 rfl ic_4 ?_
  refine ap_idiv (q := 6) hc dX9_far_5 rfl (by decide) ?_
  refine ap_isub (q := 7) hc dX9_far_6 rfl ?_
  refine ap_callS (q := 10) (As := [.int ((x0 / 4) - (x1 / 4))]) hc (ok_X9_size hg  h) ml_RX9_39 lk_X9_size ls_X9_size (ap_RmE hz (by decide)) rfl rfl (Nat.le_of_ble_eq_true rfl) dX9_far_7 rfl (ap_ki (fun r_1 M_2 h => ?_))
  refine ap_iload_n (q := 11) hc dX9_far_10 rfl rfl 0 rfl ?_
  refine ap_iconst (q := 12) hc dX9_far_11 rfl ic_4 ?_
  refine ap_irem (q := 13) hc dX9_far_12 rfl (by decide) ?_
  refine ap_iload_n (q := 14) hc dX9_far_13 rfl rfl 1 rfl ?_
  refine ap_iconst (q := 15) hc dX9_far_14 rfl ic_4 ?_
  refine ap_irem (q := 16) hc dX9_far_15 rfl (by decide) ?_
  refine ap_isub (q := 17) hc dX9_far_16 rfl ?_
  refine ap_callS (q := 20) (As := [.int ((x0 - x0 / 4 * 4) - (x1 - x1 / 4 * 4))]) hc (ok_X9_size hg  h) ml_RX9_39 lk_X9_size ls_X9_size (ap_RmE hz (by decide)) rfl rfl (Nat.le_of_ble_eq_true rfl) dX9_far_17 rfl (ap_ki (fun r_3 M_4 h => ?_))
  refine ap_iadd (q := 21) hc dX9_far_20 rfl ?_
  exact ap_iret hc hz rfl dX9_far_21 h
theorem ok_X9_far {l : Launch} {g : ap_G} (hg : ap_GOK g)   {x0 : Int32} {x1 : Int32} {M : ap_Mem} {K : Int32 → ap_Mem → Prop} (h : w_X9_far  x0 x1 M K) : ap_Ct l g yX9_far cX9_far 2 (some .int) 1 [.int x0, .int x1] M (ap_Qi K) := by
  refine ap_Ct_of hg (by decide +kernel) (Nat.le_of_ble_eq_true rfl) (fun x hx hc hz => ?_)
  subst hx
  exact bl_X9_far_0 hc hz  h
def w_X9_isPerson   (q : Nat) (x1 : Int32) (M : ap_Mem) (K : Int32 → ap_Mem → Prop) : Prop :=
vp_in 30 936 ∧ w_X9_in x1 0 ((M (q + 1) (30 : Int32).toNatClampNeg) - 1) M (fun r_2 M_3 => ap_B r_2 ∧ K r_2 M_3)
theorem bl_X9_isPerson_0 {x : ap_X} {g : ap_G} (hc : ap_Cx x g cX9_isPerson RX9 2) {K : Int32 → ap_Mem → Prop} (hz : ap_Ends x g 1 (some .boolean) (ap_Qi K))   {q : Nat} (hq : ap_kd q = 9)   {x1 : Int32} {M : ap_Mem}  (h : w_X9_isPerson   q x1 M K) : ap_V x g 2 0 [(0, .ref (ap_ad g q)), (1, .int x1)] [] M := by
  have hg := hc.2.2.2.2.2.2.2.1
  unfold w_X9_isPerson at h
  refine ap_iload_n (q := 1) hc dX9_isPerson_0 rfl rfl 1 rfl ?_
  refine ap_iconst (q := 2) hc dX9_isPerson_1 rfl ic_0 ?_
  refine ap_aload_n (q := 3) hc dX9_isPerson_2 rfl rfl 0 rfl ?_
  refine ap_getR (q := 6) (r := q + 1) lg_RX9_9 (by decide) hq rfl hc dX9_isPerson_3 rfl ?_
  refine ap_bipush (q := 8) hc dX9_isPerson_6 rfl bc_30 ?_
  obtain ⟨g_1, h⟩ := h
  refine ap_iald (q := 9) (ty_9_1 hq) (tn_9_1 hq) g_1 hc dX9_isPerson_8 rfl ?_
  refine ap_iconst (q := 10) hc dX9_isPerson_9 rfl ic_1 ?_
  refine ap_isub (q := 11) hc dX9_isPerson_10 rfl ?_
  refine ap_callS (q := 14) (As := [.int x1, .int 0, .int ((M (q + 1) (30 : Int32).toNatClampNeg) - 1)]) hc (ok_X9_in hg  h) ml_RX9_35 lk_X9_in ls_X9_in (ap_RmE hz (by decide)) rfl rfl (Nat.le_of_ble_eq_true rfl) dX9_isPerson_11 rfl (ap_ki (fun r_2 M_3 h => ?_))
  exact ap_iret hc hz (ap_Bn h.1) dX9_isPerson_14 h.2
theorem ok_X9_isPerson {l : Launch} {g : ap_G} (hg : ap_GOK g) {q : Nat} (hq : ap_kd q = 9) {x1 : Int32} {M : ap_Mem} {K : Int32 → ap_Mem → Prop} (h : w_X9_isPerson q x1 M K) : ap_Ct l g yX9_isPerson cX9_isPerson 2 (some .boolean) 1 [.ref (ap_ad g q), .int x1] M (ap_Qi K) := by
  refine ap_Ct_of hg (by decide +kernel) (Nat.le_of_ble_eq_true rfl) (fun x hx hc hz => ?_)
  subst hx
  exact bl_X9_isPerson_0 hc hz hq h
def w_X9_keeps_2_s   (kL2 : Int32 → ap_Mem → Prop) (q : Nat) (x1 : Int32) (M : ap_Mem) (K : ap_Mem → Prop) : Prop :=
(if 30 ≤ x1 then (K M) else (vp_in x1 936 ∧ vp_in x1 30 ∧ ∀ M_4 : ap_Mem, M_4 = ap_mu M (q + 3) x1.toNatClampNeg (M (q + 1) x1.toNatClampNeg) → ∀ x1_5 : Int32, x1_5 = x1 + 1 → kL2 x1_5 M_4))
def w_X9_keeps_2   (q : Nat) (K : ap_Mem → Prop) : Nat → Int32 → ap_Mem → Prop
  | 0, _, _ => False
  | n + 1, x1, M => w_X9_keeps_2_s   (w_X9_keeps_2   q K n) q x1 M K
theorem bl_X9_keeps_2 {x : ap_X} {g : ap_G} (hc : ap_Cx x g cX9_keeps RX9 2) {K : ap_Mem → Prop} (hz : ap_Ends x g 0 none (ap_Qv K))   {q : Nat} (hq : ap_kd q = 9)   : ∀ (n : Nat) (x1 : Int32) (M : ap_Mem), w_X9_keeps_2   q K n x1 M → ap_V x g 2 2 [(0, .ref (ap_ad g q)), (1, .int x1)] [] M := by
  intro n
  induction n with
  | zero => intro _ _ h; exact h.elim
  | succ n ih =>
    intro x1 M h
    replace h : w_X9_keeps_2_s   (w_X9_keeps_2   q K n) q x1 M K := h
    unfold w_X9_keeps_2_s at h
    refine ap_iload_n (q := 3) hc dX9_keeps_2 rfl rfl 1 rfl ?_
    refine ap_bipush (q := 5) hc dX9_keeps_3 rfl bc_30 ?_
    refine ap_icmp_ge (q := 8) (tgt := 26) hc dX9_keeps_5 rfl (by decide) (fun z_1 => ?_) (fun z_1 => ?_)
    · have h := Eq.mp (if_pos z_1) h
      exact ap_vret hc hz dX9_keeps_26 h
    · have h := Eq.mp (if_neg z_1) h
      refine ap_aload_n (q := 9) hc dX9_keeps_8 rfl rfl 0 rfl ?_
      refine ap_getR (q := 12) (r := q + 3) lg_RX9_18 (by decide) hq rfl hc dX9_keeps_9 rfl ?_
      refine ap_iload_n (q := 13) hc dX9_keeps_12 rfl rfl 1 rfl ?_
      refine ap_aload_n (q := 14) hc dX9_keeps_13 rfl rfl 0 rfl ?_
      refine ap_getR (q := 17) (r := q + 1) lg_RX9_9 (by decide) hq rfl hc dX9_keeps_14 rfl ?_
      refine ap_iload_n (q := 18) hc dX9_keeps_17 rfl rfl 1 rfl ?_
      obtain ⟨g_2, h⟩ := h
      refine ap_iald (q := 19) (ty_9_1 hq) (tn_9_1 hq) g_2 hc dX9_keeps_18 rfl ?_
      obtain ⟨g_3, h⟩ := h
      obtain ⟨M_4, eM_4, h⟩ := ap_nm h
      refine ap_iast (q := 20) (ty_9_3 hq) (tn_9_3 hq) g_3 eM_4 hc dX9_keeps_19 rfl ?_
      obtain ⟨x1_5, ex1_5, h⟩ := ap_nm h
      refine ap_iinc (q := 23) (lo2 := [(1, .int x1_5), (0, .ref (ap_ad g q))]) hc dX9_keeps_20 rfl 1 rfl (by rw [ex1_5]; rfl) (by decide) rfl ?_
      refine ap_goto (q := 2) hc dX9_keeps_23 (by decide) ?_
      exact ap_sub [1, 0] rfl (ih _ _ h)
def w_X9_keeps   (q : Nat)  (M : ap_Mem) (K : ap_Mem → Prop) : Prop :=
w_X9_keeps_2   q K 4096 0 M
theorem bl_X9_keeps_0 {x : ap_X} {g : ap_G} (hc : ap_Cx x g cX9_keeps RX9 2) {K : ap_Mem → Prop} (hz : ap_Ends x g 0 none (ap_Qv K))   {q : Nat} (hq : ap_kd q = 9)    {M : ap_Mem}  (h : w_X9_keeps   q  M K) : ap_V x g 2 0 [(0, .ref (ap_ad g q))] [] M := by
  unfold w_X9_keeps at h
  refine ap_iconst (q := 1) hc dX9_keeps_0 rfl ic_0 ?_
  refine ap_istore_n (q := 2) (lo2 := [(1, .int 0), (0, .ref (ap_ad g q))]) hc dX9_keeps_1 rfl rfl rfl (by decide) rfl ?_
  exact ap_sub [1, 0] rfl (bl_X9_keeps_2 hc hz  hq  _ _ _ h)
theorem ok_X9_keeps {l : Launch} {g : ap_G} (hg : ap_GOK g) {q : Nat} (hq : ap_kd q = 9)  {M : ap_Mem} {K : ap_Mem → Prop} (h : w_X9_keeps q  M K) : ap_Ct l g yX9_keeps cX9_keeps 2 none 0 [.ref (ap_ad g q)] M (ap_Qv K) := by
  refine ap_Ct_of hg (by decide +kernel) (Nat.le_of_ble_eq_true rfl) (fun x hx hc hz => ?_)
  subst hx
  exact bl_X9_keeps_0 hc hz hq h
def w_X9_goesBack_2_s   (kL2 : Int32 → ap_Mem → Prop) (q : Nat) (x1 : Int32) (M : ap_Mem) (K : ap_Mem → Prop) : Prop :=
(if 30 ≤ x1 then (K M) else (vp_in x1 30 ∧ vp_in x1 936 ∧ ∀ M_4 : ap_Mem, M_4 = ap_mu M (q + 1) x1.toNatClampNeg (M (q + 3) x1.toNatClampNeg) → ∀ x1_5 : Int32, x1_5 = x1 + 1 → kL2 x1_5 M_4))
def w_X9_goesBack_2   (q : Nat) (K : ap_Mem → Prop) : Nat → Int32 → ap_Mem → Prop
  | 0, _, _ => False
  | n + 1, x1, M => w_X9_goesBack_2_s   (w_X9_goesBack_2   q K n) q x1 M K
theorem bl_X9_goesBack_2 {x : ap_X} {g : ap_G} (hc : ap_Cx x g cX9_goesBack RX9 2) {K : ap_Mem → Prop} (hz : ap_Ends x g 0 none (ap_Qv K))   {q : Nat} (hq : ap_kd q = 9)   : ∀ (n : Nat) (x1 : Int32) (M : ap_Mem), w_X9_goesBack_2   q K n x1 M → ap_V x g 2 2 [(0, .ref (ap_ad g q)), (1, .int x1)] [] M := by
  intro n
  induction n with
  | zero => intro _ _ h; exact h.elim
  | succ n ih =>
    intro x1 M h
    replace h : w_X9_goesBack_2_s   (w_X9_goesBack_2   q K n) q x1 M K := h
    unfold w_X9_goesBack_2_s at h
    refine ap_iload_n (q := 3) hc dX9_goesBack_2 rfl rfl 1 rfl ?_
    refine ap_bipush (q := 5) hc dX9_goesBack_3 rfl bc_30 ?_
    refine ap_icmp_ge (q := 8) (tgt := 26) hc dX9_goesBack_5 rfl (by decide) (fun z_1 => ?_) (fun z_1 => ?_)
    · have h := Eq.mp (if_pos z_1) h
      exact ap_vret hc hz dX9_goesBack_26 h
    · have h := Eq.mp (if_neg z_1) h
      refine ap_aload_n (q := 9) hc dX9_goesBack_8 rfl rfl 0 rfl ?_
      refine ap_getR (q := 12) (r := q + 1) lg_RX9_9 (by decide) hq rfl hc dX9_goesBack_9 rfl ?_
      refine ap_iload_n (q := 13) hc dX9_goesBack_12 rfl rfl 1 rfl ?_
      refine ap_aload_n (q := 14) hc dX9_goesBack_13 rfl rfl 0 rfl ?_
      refine ap_getR (q := 17) (r := q + 3) lg_RX9_18 (by decide) hq rfl hc dX9_goesBack_14 rfl ?_
      refine ap_iload_n (q := 18) hc dX9_goesBack_17 rfl rfl 1 rfl ?_
      obtain ⟨g_2, h⟩ := h
      refine ap_iald (q := 19) (ty_9_3 hq) (tn_9_3 hq) g_2 hc dX9_goesBack_18 rfl ?_
      obtain ⟨g_3, h⟩ := h
      obtain ⟨M_4, eM_4, h⟩ := ap_nm h
      refine ap_iast (q := 20) (ty_9_1 hq) (tn_9_1 hq) g_3 eM_4 hc dX9_goesBack_19 rfl ?_
      obtain ⟨x1_5, ex1_5, h⟩ := ap_nm h
      refine ap_iinc (q := 23) (lo2 := [(1, .int x1_5), (0, .ref (ap_ad g q))]) hc dX9_goesBack_20 rfl 1 rfl (by rw [ex1_5]; rfl) (by decide) rfl ?_
      refine ap_goto (q := 2) hc dX9_goesBack_23 (by decide) ?_
      exact ap_sub [1, 0] rfl (ih _ _ h)
def w_X9_goesBack   (q : Nat)  (M : ap_Mem) (K : ap_Mem → Prop) : Prop :=
w_X9_goesBack_2   q K 4096 0 M
theorem bl_X9_goesBack_0 {x : ap_X} {g : ap_G} (hc : ap_Cx x g cX9_goesBack RX9 2) {K : ap_Mem → Prop} (hz : ap_Ends x g 0 none (ap_Qv K))   {q : Nat} (hq : ap_kd q = 9)    {M : ap_Mem}  (h : w_X9_goesBack   q  M K) : ap_V x g 2 0 [(0, .ref (ap_ad g q))] [] M := by
  unfold w_X9_goesBack at h
  refine ap_iconst (q := 1) hc dX9_goesBack_0 rfl ic_0 ?_
  refine ap_istore_n (q := 2) (lo2 := [(1, .int 0), (0, .ref (ap_ad g q))]) hc dX9_goesBack_1 rfl rfl rfl (by decide) rfl ?_
  exact ap_sub [1, 0] rfl (bl_X9_goesBack_2 hc hz  hq  _ _ _ h)
theorem ok_X9_goesBack {l : Launch} {g : ap_G} (hg : ap_GOK g) {q : Nat} (hq : ap_kd q = 9)  {M : ap_Mem} {K : ap_Mem → Prop} (h : w_X9_goesBack q  M K) : ap_Ct l g yX9_goesBack cX9_goesBack 2 none 0 [.ref (ap_ad g q)] M (ap_Qv K) := by
  refine ap_Ct_of hg (by decide +kernel) (Nat.le_of_ble_eq_true rfl) (fun x hx hc hz => ?_)
  subst hx
  exact bl_X9_goesBack_0 hc hz hq h
def w_X9_feed   (q : Nat) (x1 : Int32) (M : ap_Mem) (K : Int32 → ap_Mem → Prop) : Prop :=
w_X9_in x1 0 127 M (fun r_1 M_2 => (if r_1 = 0 then (K (-2) M_2) else (vp_in 36 936 ∧ (if (M_2 (q + 1) (36 : Int32).toNatClampNeg) = 100 then (K (-4) M_2) else (vp_in 36 936 ∧ vp_in (126 + (M_2 (q + 1) (36 : Int32).toNatClampNeg)) 936 ∧ ∀ M_8 : ap_Mem, M_8 = ap_mu M_2 (q + 1) (126 + (M_2 (q + 1) (36 : Int32).toNatClampNeg)).toNatClampNeg x1 → vp_in 36 936 ∧ vp_in 36 936 ∧ ∀ M_11 : ap_Mem, M_11 = ap_mu M_8 (q + 1) (36 : Int32).toNatClampNeg ((M_8 (q + 1) (36 : Int32).toNatClampNeg) + 1) → vp_in 36 936 ∧ K (M_11 (q + 1) (36 : Int32).toNatClampNeg) M_11)))))
theorem bl_X9_feed_0 {x : ap_X} {g : ap_G} (hc : ap_Cx x g cX9_feed RX9 2) {K : Int32 → ap_Mem → Prop} (hz : ap_Ends x g 1 (some .int) (ap_Qi K))   {q : Nat} (hq : ap_kd q = 9)   {x1 : Int32} {M : ap_Mem}  (h : w_X9_feed   q x1 M K) : ap_V x g 2 0 [(0, .ref (ap_ad g q)), (1, .int x1)] [] M := by
  have hg := hc.2.2.2.2.2.2.2.1
  unfold w_X9_feed at h
  refine ap_iload_n (q := 1) hc dX9_feed_0 rfl rfl 1 rfl ?_
  refine ap_iconst (q := 2) hc dX9_feed_1 rfl ic_0 ?_
  refine ap_bipush (q := 4) hc dX9_feed_2 rfl bc_127 ?_
  refine ap_callS (q := 7) (As := [.int x1, .int 0, .int 127]) hc (ok_X9_in hg  h) ml_RX9_35 lk_X9_in ls_X9_in (ap_RmE hz (by decide)) rfl rfl (Nat.le_of_ble_eq_true rfl) dX9_feed_4 rfl (ap_ki (fun r_1 M_2 h => ?_))
  refine ap_if_ne (q := 10) (tgt := 13) hc dX9_feed_7 rfl (by decide) (fun z_3 => ?_) (fun z_3 => ?_)
  · have h := Eq.mp (if_neg z_3) h
    refine ap_aload_n (q := 14) hc dX9_feed_13 rfl rfl 0 rfl ?_
    refine ap_getR (q := 17) (r := q + 1) lg_RX9_9 (by decide) hq rfl hc dX9_feed_14 rfl ?_
    refine ap_bipush (q := 19) hc dX9_feed_17 rfl bc_36 ?_
    obtain ⟨g_4, h⟩ := h
    refine ap_iald (q := 20) (ty_9_1 hq) (tn_9_1 hq) g_4 hc dX9_feed_19 rfl ?_
    refine ap_bipush (q := 22) hc dX9_feed_20 rfl bc_100 ?_
    refine ap_icmp_ne (q := 25) (tgt := 28) hc dX9_feed_22 rfl (by decide) (fun z_5 => ?_) (fun z_5 => ?_)
    · have h := Eq.mp (if_neg z_5) h
      refine ap_aload_n (q := 29) hc dX9_feed_28 rfl rfl 0 rfl ?_
      refine ap_getR (q := 32) (r := q + 1) lg_RX9_9 (by decide) hq rfl hc dX9_feed_29 rfl ?_
      refine ap_bipush (q := 34) hc dX9_feed_32 rfl bc_126 ?_
      refine ap_aload_n (q := 35) hc dX9_feed_34 rfl rfl 0 rfl ?_
      refine ap_getR (q := 38) (r := q + 1) lg_RX9_9 (by decide) hq rfl hc dX9_feed_35 rfl ?_
      refine ap_bipush (q := 40) hc dX9_feed_38 rfl bc_36 ?_
      obtain ⟨g_6, h⟩ := h
      refine ap_iald (q := 41) (ty_9_1 hq) (tn_9_1 hq) g_6 hc dX9_feed_40 rfl ?_
      refine ap_iadd (q := 42) hc dX9_feed_41 rfl ?_
      refine ap_iload_n (q := 43) hc dX9_feed_42 rfl rfl 1 rfl ?_
      obtain ⟨g_7, h⟩ := h
      obtain ⟨M_8, eM_8, h⟩ := ap_nm h
      refine ap_iast (q := 44) (ty_9_1 hq) (tn_9_1 hq) g_7 eM_8 hc dX9_feed_43 rfl ?_
      refine ap_aload_n (q := 45) hc dX9_feed_44 rfl rfl 0 rfl ?_
      refine ap_getR (q := 48) (r := q + 1) lg_RX9_9 (by decide) hq rfl hc dX9_feed_45 rfl ?_
      refine ap_bipush (q := 50) hc dX9_feed_48 rfl bc_36 ?_
      refine ap_dup2 (q := 51) hc dX9_feed_50 rfl rfl rfl ?_
      obtain ⟨g_9, h⟩ := h
      refine ap_iald (q := 52) (ty_9_1 hq) (tn_9_1 hq) g_9 hc dX9_feed_51 rfl ?_
      refine ap_iconst (q := 53) hc dX9_feed_52 rfl ic_1 ?_
      refine ap_iadd (q := 54) hc dX9_feed_53 rfl ?_
      obtain ⟨g_10, h⟩ := h
      obtain ⟨M_11, eM_11, h⟩ := ap_nm h
      refine ap_iast (q := 55) (ty_9_1 hq) (tn_9_1 hq) g_10 eM_11 hc dX9_feed_54 rfl ?_
      refine ap_aload_n (q := 56) hc dX9_feed_55 rfl rfl 0 rfl ?_
      refine ap_getR (q := 59) (r := q + 1) lg_RX9_9 (by decide) hq rfl hc dX9_feed_56 rfl ?_
      refine ap_bipush (q := 61) hc dX9_feed_59 rfl bc_36 ?_
      obtain ⟨g_12, h⟩ := h
      refine ap_iald (q := 62) (ty_9_1 hq) (tn_9_1 hq) g_12 hc dX9_feed_61 rfl ?_
      exact ap_iret hc hz rfl dX9_feed_62 h
    · have h := Eq.mp (if_pos z_5) h
      refine ap_bipush (q := 27) hc dX9_feed_25 rfl bc_m4 ?_
      exact ap_iret hc hz rfl dX9_feed_27 h
  · have h := Eq.mp (if_pos z_3) h
    refine ap_bipush (q := 12) hc dX9_feed_10 rfl bc_m2 ?_
    exact ap_iret hc hz rfl dX9_feed_12 h
theorem ok_X9_feed {l : Launch} {g : ap_G} (hg : ap_GOK g) {q : Nat} (hq : ap_kd q = 9) {x1 : Int32} {M : ap_Mem} {K : Int32 → ap_Mem → Prop} (h : w_X9_feed q x1 M K) : ap_Ct l g yX9_feed cX9_feed 2 (some .int) 1 [.ref (ap_ad g q), .int x1] M (ap_Qi K) := by
  refine ap_Ct_of hg (by decide +kernel) (Nat.le_of_ble_eq_true rfl) (fun x hx hc hz => ?_)
  subst hx
  exact bl_X9_feed_0 hc hz hq h
def w_X9_here   (q : Nat)  (M : ap_Mem) (K : Int32 → ap_Mem → Prop) : Prop :=
(if (M q 7) ≤ (M q 6) then (K (-1) M) else (vp_in (126 + (M q 6)) 936 ∧ K (M (q + 1) (126 + (M q 6)).toNatClampNeg) M))
theorem bl_X9_here_0 {x : ap_X} {g : ap_G} (hc : ap_Cx x g cX9_here RX9 1) {K : Int32 → ap_Mem → Prop} (hz : ap_Ends x g 0 (some .int) (ap_Qi K))   {q : Nat} (hq : ap_kd q = 9)    {M : ap_Mem}  (h : w_X9_here   q  M K) : ap_V x g 1 0 [(0, .ref (ap_ad g q))] [] M := by
  unfold w_X9_here at h
  refine ap_aload_n (q := 1) hc dX9_here_0 rfl rfl 0 rfl ?_
  refine ap_getI (q := 4) lg_RX9_43 hq hc dX9_here_1 rfl ?_
  refine ap_aload_n (q := 5) hc dX9_here_4 rfl rfl 0 rfl ?_
  refine ap_getI (q := 8) lg_RX9_46 hq hc dX9_here_5 rfl ?_
  refine ap_icmp_ge (q := 11) (tgt := 26) hc dX9_here_8 rfl (by decide) (fun z_1 => ?_) (fun z_1 => ?_)
  · have h := Eq.mp (if_pos z_1) h
    refine ap_iconst (q := 27) hc dX9_here_26 rfl ic_m1 ?_
    exact ap_iret hc hz rfl dX9_here_27 h
  · have h := Eq.mp (if_neg z_1) h
    refine ap_aload_n (q := 12) hc dX9_here_11 rfl rfl 0 rfl ?_
    refine ap_getR (q := 15) (r := q + 1) lg_RX9_9 (by decide) hq rfl hc dX9_here_12 rfl ?_
    refine ap_bipush (q := 17) hc dX9_here_15 rfl bc_126 ?_
    refine ap_aload_n (q := 18) hc dX9_here_17 rfl rfl 0 rfl ?_
    refine ap_getI (q := 21) lg_RX9_43 hq hc dX9_here_18 rfl ?_
    refine ap_iadd (q := 22) hc dX9_here_21 rfl ?_
    obtain ⟨g_2, h⟩ := h
    refine ap_iald (q := 23) (ty_9_1 hq) (tn_9_1 hq) g_2 hc dX9_here_22 rfl ?_
    refine ap_goto (q := 27) hc dX9_here_23 (by decide) ?_
    exact ap_iret hc hz rfl dX9_here_27 h
theorem ok_X9_here {l : Launch} {g : ap_G} (hg : ap_GOK g) {q : Nat} (hq : ap_kd q = 9)  {M : ap_Mem} {K : Int32 → ap_Mem → Prop} (h : w_X9_here q  M K) : ap_Ct l g yX9_here cX9_here 1 (some .int) 0 [.ref (ap_ad g q)] M (ap_Qi K) := by
  refine ap_Ct_of hg (by decide +kernel) (Nat.le_of_ble_eq_true rfl) (fun x hx hc hz => ?_)
  subst hx
  exact bl_X9_here_0 hc hz hq h
def w_X9_must_41   (q : Nat) (s0 : Int32) (s1 : Int32) (M : ap_Mem) (K : ap_Mem → Prop) : Prop :=
∀ M_1 : ap_Mem, M_1 = ap_mu M q 6 (s1 + s0) → K M_1
theorem bl_X9_must_41 {x : ap_X} {g : ap_G} (hc : ap_Cx x g cX9_must RX9 2) {K : ap_Mem → Prop} (hz : ap_Ends x g 1 none (ap_Qv K))   {q : Nat} (hq : ap_kd q = 9)   {s0 : Int32} {s1 : Int32} {M : ap_Mem}  (h : w_X9_must_41   q s0 s1 M K) : ap_V x g 2 41 [] [.int s0, .int s1, .ref (ap_ad g q)] M := by
  unfold w_X9_must_41 at h
  refine ap_iadd (q := 42) hc dX9_must_41 rfl ?_
  obtain ⟨M_1, eM_1, h⟩ := ap_nm h
  refine ap_putI (q := 45) lp_RX9_43 hq eM_1 hc dX9_must_42 rfl ?_
  exact ap_vret hc hz dX9_must_45 h
def w_X9_must_21   (q : Nat) (s0 : Int32) (M : ap_Mem) (K : ap_Mem → Prop) : Prop :=
ap_B s0 ∧ ∀ M_1 : ap_Mem, M_1 = ap_mu M q 8 s0 → (if (M_1 q 8) = 0 then (w_X9_must_41   q 1 (M_1 q 6) M_1 K) else (w_X9_must_41   q 0 (M_1 q 6) M_1 K))
theorem bl_X9_must_21 {x : ap_X} {g : ap_G} (hc : ap_Cx x g cX9_must RX9 2) {K : ap_Mem → Prop} (hz : ap_Ends x g 1 none (ap_Qv K))   {q : Nat} (hq : ap_kd q = 9)   {s0 : Int32} {M : ap_Mem}  (h : w_X9_must_21   q s0 M K) : ap_V x g 2 21 [(0, .ref (ap_ad g q))] [.int s0, .ref (ap_ad g q)] M := by
  unfold w_X9_must_21 at h
  obtain ⟨g_2, h⟩ := h
  obtain ⟨M_1, eM_1, h⟩ := ap_nm h
  refine ap_putZ (q := 24) lp_RX9_49 hq g_2 eM_1 hc dX9_must_21 rfl ?_
  refine ap_aload_n (q := 25) hc dX9_must_24 rfl rfl 0 rfl ?_
  refine ap_dup (q := 26) hc dX9_must_25 rfl rfl ?_
  refine ap_getI (q := 29) lg_RX9_43 hq hc dX9_must_26 rfl ?_
  refine ap_aload_n (q := 30) hc dX9_must_29 rfl rfl 0 rfl ?_
  refine ap_getI (q := 33) lg_RX9_49 hq hc dX9_must_30 rfl ?_
  refine ap_if_eq (q := 36) (tgt := 40) hc dX9_must_33 rfl (by decide) (fun z_3 => ?_) (fun z_3 => ?_)
  · have h := Eq.mp (if_pos z_3) h
    refine ap_iconst (q := 41) hc dX9_must_40 rfl ic_1 ?_
    exact ap_sub [] rfl (bl_X9_must_41 hc hz  hq   h)
  · have h := Eq.mp (if_neg z_3) h
    refine ap_iconst (q := 37) hc dX9_must_36 rfl ic_0 ?_
    refine ap_goto (q := 41) hc dX9_must_37 (by decide) ?_
    exact ap_sub [] rfl (bl_X9_must_41 hc hz  hq   h)
def w_X9_must_16   (q : Nat)  (M : ap_Mem) (K : ap_Mem → Prop) : Prop :=
w_X9_must_21   q 1 M K
theorem bl_X9_must_16 {x : ap_X} {g : ap_G} (hc : ap_Cx x g cX9_must RX9 2) {K : ap_Mem → Prop} (hz : ap_Ends x g 1 none (ap_Qv K))   {q : Nat} (hq : ap_kd q = 9)    {M : ap_Mem}  (h : w_X9_must_16   q  M K) : ap_V x g 2 16 [(0, .ref (ap_ad g q))] [.ref (ap_ad g q)] M := by
  unfold w_X9_must_16 at h
  refine ap_iconst (q := 17) hc dX9_must_16 rfl ic_1 ?_
  refine ap_goto (q := 21) hc dX9_must_17 (by decide) ?_
  exact ap_sub [0] rfl (bl_X9_must_21 hc hz  hq   h)
def w_X9_must   (q : Nat) (x1 : Int32) (M : ap_Mem) (K : ap_Mem → Prop) : Prop :=
(if (M q 8) = 0 then (w_X9_here q M (fun r_2 M_3 => (if r_2 = x1 then (w_X9_must_21   q 0 M_3 K) else (w_X9_must_16   q  M_3 K)))) else (w_X9_must_16   q  M K))
theorem bl_X9_must_0 {x : ap_X} {g : ap_G} (hc : ap_Cx x g cX9_must RX9 2) {K : ap_Mem → Prop} (hz : ap_Ends x g 1 none (ap_Qv K))   {q : Nat} (hq : ap_kd q = 9)   {x1 : Int32} {M : ap_Mem}  (h : w_X9_must   q x1 M K) : ap_V x g 2 0 [(0, .ref (ap_ad g q)), (1, .int x1)] [] M := by
  have hg := hc.2.2.2.2.2.2.2.1
  unfold w_X9_must at h
  refine ap_aload_n (q := 1) hc dX9_must_0 rfl rfl 0 rfl ?_
  refine ap_aload_n (q := 2) hc dX9_must_1 rfl rfl 0 rfl ?_
  refine ap_getI (q := 5) lg_RX9_49 hq hc dX9_must_2 rfl ?_
  refine ap_if_ne (q := 8) (tgt := 16) hc dX9_must_5 rfl (by decide) (fun z_1 => ?_) (fun z_1 => ?_)
  · have h := Eq.mp (if_neg z_1) h
    exact ap_sub [0] rfl (bl_X9_must_16 hc hz  hq   h)
  · have h := Eq.mp (if_pos z_1) h
    refine ap_aload_n (q := 9) hc dX9_must_8 rfl rfl 0 rfl ?_
    refine ap_callV (q := 12) (As := []) hc (ok_X9_here hg hq h) ml_RX9_53 lk_X9_here lv_X9_here hq rfl (ap_RmE hz (by decide)) rfl rfl (Nat.le_of_ble_eq_true rfl) dX9_must_9 rfl (ap_ki (fun r_2 M_3 h => ?_))
    refine ap_iload_n (q := 13) hc dX9_must_12 rfl rfl 1 rfl ?_
    refine ap_icmp_eq (q := 16) (tgt := 20) hc dX9_must_13 rfl (by decide) (fun z_4 => ?_) (fun z_4 => ?_)
    · have h := Eq.mp (if_pos z_4) h
      refine ap_iconst (q := 21) hc dX9_must_20 rfl ic_0 ?_
      exact ap_sub [0] rfl (bl_X9_must_21 hc hz  hq   h)
    · have h := Eq.mp (if_neg z_4) h
      exact ap_sub [0] rfl (bl_X9_must_16 hc hz  hq   h)
theorem ok_X9_must {l : Launch} {g : ap_G} (hg : ap_GOK g) {q : Nat} (hq : ap_kd q = 9) {x1 : Int32} {M : ap_Mem} {K : ap_Mem → Prop} (h : w_X9_must q x1 M K) : ap_Ct l g yX9_must cX9_must 2 none 1 [.ref (ap_ad g q), .int x1] M (ap_Qv K) := by
  refine ap_Ct_of hg (by decide +kernel) (Nat.le_of_ble_eq_true rfl) (fun x hx hc hz => ?_)
  subst hx
  exact bl_X9_must_0 hc hz hq h
def w_X9_spells_2_s   (kL2 : Int32 → ap_Mem → Prop) (q : Nat) (w1 : Nat) (x2 : Int32) (M : ap_Mem) (K : ap_Mem → Prop) : Prop :=
w_J0_length_8abf5 w1 M (fun r_1 M_2 => (if r_1 ≤ x2 then (K M_2) else (w_J0_charAt_5068e w1 x2 M_2 (fun r_4 M_5 => w_X9_must q r_4 M_5 (fun M_6 => ∀ x2_7 : Int32, x2_7 = x2 + 1 → kL2 x2_7 M_6)))))
def w_X9_spells_2   (q : Nat) (w1 : Nat) (K : ap_Mem → Prop) : Nat → Int32 → ap_Mem → Prop
  | 0, _, _ => False
  | n + 1, x2, M => w_X9_spells_2_s   (w_X9_spells_2   q w1 K n) q w1 x2 M K
theorem bl_X9_spells_2 {x : ap_X} {g : ap_G} (hc : ap_Cx x g cX9_spells RX9 3) {K : ap_Mem → Prop} (hz : ap_Ends x g 4 none (ap_Qv K))   {q : Nat} {w1 : Nat} (hq : ap_kd q = 9) (hw1 : w1 < 6)   : ∀ (n : Nat) (x2 : Int32) (M : ap_Mem), w_X9_spells_2   q w1 K n x2 M → ap_V x g 3 2 [(0, .ref (ap_ad g q)), (1, .ref (ap_gK g w1)), (2, .int x2)] [] M := by
  have hg := hc.2.2.2.2.2.2.2.1
  intro n
  induction n with
  | zero => intro _ _ h; exact h.elim
  | succ n ih =>
    intro x2 M h
    replace h : w_X9_spells_2_s   (w_X9_spells_2   q w1 K n) q w1 x2 M K := h
    unfold w_X9_spells_2_s at h
    refine ap_iload_n (q := 3) hc dX9_spells_2 rfl rfl 2 rfl ?_
    refine ap_aload_n (q := 4) hc dX9_spells_3 rfl rfl 1 rfl ?_
    refine ap_callT (q := 7) (As := []) hc (ok_J0_length_8abf5 hg hw1 h) ml_RX9_57 lk_J0_length_8abf5 lv_J0_length_8abf5 hw1 rfl (ap_RmE hz (by decide)) rfl rfl (Nat.le_of_ble_eq_true rfl) dX9_spells_4 rfl (ap_ki (fun r_1 M_2 h => ?_))
    refine ap_icmp_ge (q := 10) (tgt := 25) hc dX9_spells_7 rfl (by decide) (fun z_3 => ?_) (fun z_3 => ?_)
    · have h := Eq.mp (if_pos z_3) h
      exact ap_vret hc hz dX9_spells_25 h
    · have h := Eq.mp (if_neg z_3) h
      refine ap_aload_n (q := 11) hc dX9_spells_10 rfl rfl 0 rfl ?_
      refine ap_aload_n (q := 12) hc dX9_spells_11 rfl rfl 1 rfl ?_
      refine ap_iload_n (q := 13) hc dX9_spells_12 rfl rfl 2 rfl ?_
      refine ap_callT (q := 16) (As := [.int x2]) hc (ok_J0_charAt_5068e hg hw1 h) ml_RX9_62 lk_J0_charAt_5068e lv_J0_charAt_5068e hw1 rfl (ap_RmE hz (by decide)) rfl rfl (Nat.le_of_ble_eq_true rfl) dX9_spells_13 rfl (ap_ki (fun r_4 M_5 h => ?_))
      refine ap_callV (q := 19) (As := [.int r_4]) hc (ok_X9_must hg hq h) ml_RX9_66 lk_X9_must lv_X9_must hq rfl (ap_RmE hz (by decide)) rfl rfl (Nat.le_of_ble_eq_true rfl) dX9_spells_16 rfl (ap_kv (fun M_6 h => ?_))
      obtain ⟨x2_7, ex2_7, h⟩ := ap_nm h
      refine ap_iinc (q := 22) (lo2 := [(2, .int x2_7), (0, .ref (ap_ad g q)), (1, .ref (ap_gK g w1))]) hc dX9_spells_19 rfl 2 rfl (by rw [ex2_7]; rfl) (by decide) rfl ?_
      refine ap_goto (q := 2) hc dX9_spells_22 (by decide) ?_
      exact ap_sub [1, 2, 0] rfl (ih _ _ h)
def w_X9_spells   (q : Nat) (w1 : Nat)  (M : ap_Mem) (K : ap_Mem → Prop) : Prop :=
w_X9_spells_2   q w1 K 4096 0 M
theorem bl_X9_spells_0 {x : ap_X} {g : ap_G} (hc : ap_Cx x g cX9_spells RX9 3) {K : ap_Mem → Prop} (hz : ap_Ends x g 4 none (ap_Qv K))   {q : Nat} {w1 : Nat} (hq : ap_kd q = 9) (hw1 : w1 < 6)    {M : ap_Mem}  (h : w_X9_spells   q w1  M K) : ap_V x g 3 0 [(0, .ref (ap_ad g q)), (1, .ref (ap_gK g w1))] [] M := by
  unfold w_X9_spells at h
  refine ap_iconst (q := 1) hc dX9_spells_0 rfl ic_0 ?_
  refine ap_istore_n (q := 2) (lo2 := [(2, .int 0), (0, .ref (ap_ad g q)), (1, .ref (ap_gK g w1))]) hc dX9_spells_1 rfl rfl rfl (by decide) rfl ?_
  exact ap_sub [1, 2, 0] rfl (bl_X9_spells_2 hc hz  hq hw1  _ _ _ h)
theorem ok_X9_spells {l : Launch} {g : ap_G} (hg : ap_GOK g) {q : Nat} {w1 : Nat} (hq : ap_kd q = 9) (hw1 : w1 < 6)  {M : ap_Mem} {K : ap_Mem → Prop} (h : w_X9_spells q w1  M K) : ap_Ct l g yX9_spells cX9_spells 3 none 4 [.ref (ap_ad g q), .ref (ap_gK g w1)] M (ap_Qv K) := by
  refine ap_Ct_of hg (by decide +kernel) (Nat.le_of_ble_eq_true rfl) (fun x hx hc hz => ?_)
  subst hx
  exact bl_X9_spells_0 hc hz hq hw1 h
def w_X9_figures_68  (kL34 : Int32 → Int32 → ap_Mem → Prop) (q : Nat) (x1 : Int32) (x2 : Int32) (M : ap_Mem) (K : Int32 → ap_Mem → Prop) : Prop :=
w_X9_here q M (fun r_1 M_2 => ∀ x1_3 : Int32, x1_3 = ((10 * x1) + r_1) - 48 → ∀ M_4 : ap_Mem, M_4 = ap_mu M_2 q 6 ((M_2 q 6) + 1) → ∀ x2_5 : Int32, x2_5 = x2 + 1 → kL34 x1_3 x2_5 M_4)
theorem bl_X9_figures_68 {x : ap_X} {g : ap_G} (hc : ap_Cx x g cX9_figures RX9 3) {K : Int32 → ap_Mem → Prop} (hz : ap_Ends x g 1 (some .int) (ap_Qi K))   {q : Nat} (hq : ap_kd q = 9) {kL34 : Int32 → Int32 → ap_Mem → Prop} (hk34 : ∀ (x1 : Int32) (x2 : Int32)  (M : ap_Mem), kL34 x1 x2 M → ap_V x g 3 34 [(0, .ref (ap_ad g q)), (1, .int x1), (2, .int x2)] [] M) {x1 : Int32} {x2 : Int32} {M : ap_Mem}  (h : w_X9_figures_68  kL34 q x1 x2 M K) : ap_V x g 3 68 [(0, .ref (ap_ad g q)), (1, .int x1), (2, .int x2)] [] M := by
  have hg := hc.2.2.2.2.2.2.2.1
  unfold w_X9_figures_68 at h
  refine ap_bipush (q := 70) hc dX9_figures_68 rfl bc_10 ?_
  refine ap_iload_n (q := 71) hc dX9_figures_70 rfl rfl 1 rfl ?_
  refine ap_imul (q := 72) hc dX9_figures_71 rfl ?_
  refine ap_aload_n (q := 73) hc dX9_figures_72 rfl rfl 0 rfl ?_
  refine ap_callV (q := 76) (As := []) hc (ok_X9_here hg hq h) ml_RX9_53 lk_X9_here lv_X9_here hq rfl (ap_RmE hz (by decide)) rfl rfl (Nat.le_of_ble_eq_true rfl) dX9_figures_73 rfl (ap_ki (fun r_1 M_2 h => ?_))
  refine ap_iadd (q := 77) hc dX9_figures_76 rfl ?_
  refine ap_bipush (q := 79) hc dX9_figures_77 rfl bc_48 ?_
  refine ap_isub (q := 80) hc dX9_figures_79 rfl ?_
  obtain ⟨x1_3, ex1_3, h⟩ := ap_nm h
  refine ap_istore_n (q := 81) (lo2 := [(1, .int x1_3), (0, .ref (ap_ad g q)), (2, .int x2)]) hc dX9_figures_80 rfl rfl ex1_3 (by decide) rfl ?_
  refine ap_aload_n (q := 82) hc dX9_figures_81 rfl rfl 1 rfl ?_
  refine ap_dup (q := 83) hc dX9_figures_82 rfl rfl ?_
  refine ap_getI (q := 86) lg_RX9_43 hq hc dX9_figures_83 rfl ?_
  refine ap_iconst (q := 87) hc dX9_figures_86 rfl ic_1 ?_
  refine ap_iadd (q := 88) hc dX9_figures_87 rfl ?_
  obtain ⟨M_4, eM_4, h⟩ := ap_nm h
  refine ap_putI (q := 91) lp_RX9_43 hq eM_4 hc dX9_figures_88 rfl ?_
  obtain ⟨x2_5, ex2_5, h⟩ := ap_nm h
  refine ap_iinc (q := 94) (lo2 := [(2, .int x2_5), (1, .int x1_3), (0, .ref (ap_ad g q))]) hc dX9_figures_91 rfl 2 rfl (by rw [ex2_5]; rfl) (by decide) rfl ?_
  refine ap_goto (q := 34) hc dX9_figures_94 (by decide) ?_
  exact ap_sub [2, 1, 0] rfl (hk34 _ _ _ h)
def w_X9_figures_34_s   (kL34 : Int32 → Int32 → ap_Mem → Prop) (q : Nat) (x1 : Int32) (x2 : Int32) (M : ap_Mem) (K : Int32 → ap_Mem → Prop) : Prop :=
(if 2 ≤ x2 then (K x1 M) else ((if (M q 8) = 0 then (w_X9_here q M (fun r_3 M_4 => w_X9_in r_3 48 57 M_4 (fun r_5 M_6 => (if r_5 = 0 then (K x1 M_6) else ((if x2 = 0 then (w_X9_figures_68  kL34 q x1 x2 M_6 K) else ((if x1 ≤ 0 then (K x1 M_6) else (w_X9_figures_68  kL34 q x1 x2 M_6 K))))))))) else (K x1 M))))
def w_X9_figures_34   (q : Nat) (K : Int32 → ap_Mem → Prop) : Nat → Int32 → Int32 → ap_Mem → Prop
  | 0, _, _, _ => False
  | n + 1, x1, x2, M => w_X9_figures_34_s   (w_X9_figures_34   q K n) q x1 x2 M K
theorem bl_X9_figures_34 {x : ap_X} {g : ap_G} (hc : ap_Cx x g cX9_figures RX9 3) {K : Int32 → ap_Mem → Prop} (hz : ap_Ends x g 1 (some .int) (ap_Qi K))   {q : Nat} (hq : ap_kd q = 9)   : ∀ (n : Nat) (x1 : Int32) (x2 : Int32) (M : ap_Mem), w_X9_figures_34   q K n x1 x2 M → ap_V x g 3 34 [(0, .ref (ap_ad g q)), (1, .int x1), (2, .int x2)] [] M := by
  have hg := hc.2.2.2.2.2.2.2.1
  intro n
  induction n with
  | zero => intro _ _ _ h; exact h.elim
  | succ n ih =>
    intro x1 x2 M h
    replace h : w_X9_figures_34_s   (w_X9_figures_34   q K n) q x1 x2 M K := h
    unfold w_X9_figures_34_s at h
    refine ap_iload_n (q := 35) hc dX9_figures_34 rfl rfl 2 rfl ?_
    refine ap_iconst (q := 36) hc dX9_figures_35 rfl ic_2 ?_
    refine ap_icmp_ge (q := 39) (tgt := 97) hc dX9_figures_36 rfl (by decide) (fun z_1 => ?_) (fun z_1 => ?_)
    · have h := Eq.mp (if_pos z_1) h
      refine ap_iload_n (q := 98) hc dX9_figures_97 rfl rfl 1 rfl ?_
      exact ap_iret hc hz rfl dX9_figures_98 h
    · have h := Eq.mp (if_neg z_1) h
      refine ap_aload_n (q := 40) hc dX9_figures_39 rfl rfl 0 rfl ?_
      refine ap_getI (q := 43) lg_RX9_49 hq hc dX9_figures_40 rfl ?_
      refine ap_if_ne (q := 46) (tgt := 97) hc dX9_figures_43 rfl (by decide) (fun z_2 => ?_) (fun z_2 => ?_)
      · have h := Eq.mp (if_neg z_2) h
        refine ap_iload_n (q := 98) hc dX9_figures_97 rfl rfl 1 rfl ?_
        exact ap_iret hc hz rfl dX9_figures_98 h
      · have h := Eq.mp (if_pos z_2) h
        refine ap_aload_n (q := 47) hc dX9_figures_46 rfl rfl 0 rfl ?_
        refine ap_callV (q := 50) (As := []) hc (ok_X9_here hg hq h) ml_RX9_53 lk_X9_here lv_X9_here hq rfl (ap_RmE hz (by decide)) rfl rfl (Nat.le_of_ble_eq_true rfl) dX9_figures_47 rfl (ap_ki (fun r_3 M_4 h => ?_))
        refine ap_bipush (q := 52) hc dX9_figures_50 rfl bc_48 ?_
        refine ap_bipush (q := 54) hc dX9_figures_52 rfl bc_57 ?_
        refine ap_callS (q := 57) (As := [.int r_3, .int 48, .int 57]) hc (ok_X9_in hg  h) ml_RX9_35 lk_X9_in ls_X9_in (ap_RmE hz (by decide)) rfl rfl (Nat.le_of_ble_eq_true rfl) dX9_figures_54 rfl (ap_ki (fun r_5 M_6 h => ?_))
        refine ap_if_eq (q := 60) (tgt := 97) hc dX9_figures_57 rfl (by decide) (fun z_7 => ?_) (fun z_7 => ?_)
        · have h := Eq.mp (if_pos z_7) h
          refine ap_iload_n (q := 98) hc dX9_figures_97 rfl rfl 1 rfl ?_
          exact ap_iret hc hz rfl dX9_figures_98 h
        · have h := Eq.mp (if_neg z_7) h
          refine ap_iload_n (q := 61) hc dX9_figures_60 rfl rfl 2 rfl ?_
          refine ap_if_eq (q := 64) (tgt := 68) hc dX9_figures_61 rfl (by decide) (fun z_8 => ?_) (fun z_8 => ?_)
          · have h := Eq.mp (if_pos z_8) h
            exact ap_sub [0, 1, 2] rfl (bl_X9_figures_68 hc hz  hq ih  h)
          · have h := Eq.mp (if_neg z_8) h
            refine ap_iload_n (q := 65) hc dX9_figures_64 rfl rfl 1 rfl ?_
            refine ap_if_le (q := 68) (tgt := 97) hc dX9_figures_65 rfl (by decide) (fun z_9 => ?_) (fun z_9 => ?_)
            · have h := Eq.mp (if_pos z_9) h
              refine ap_iload_n (q := 98) hc dX9_figures_97 rfl rfl 1 rfl ?_
              exact ap_iret hc hz rfl dX9_figures_98 h
            · have h := Eq.mp (if_neg z_9) h
              exact ap_sub [0, 1, 2] rfl (bl_X9_figures_68 hc hz  hq ih  h)
def w_X9_figures_27   (q : Nat) (s0 : Int32) (M : ap_Mem) (K : Int32 → ap_Mem → Prop) : Prop :=
ap_B s0 ∧ ∀ M_1 : ap_Mem, M_1 = ap_mu M q 8 s0 → w_X9_figures_34   q K 4096 0 0 M_1
theorem bl_X9_figures_27 {x : ap_X} {g : ap_G} (hc : ap_Cx x g cX9_figures RX9 3) {K : Int32 → ap_Mem → Prop} (hz : ap_Ends x g 1 (some .int) (ap_Qi K))   {q : Nat} (hq : ap_kd q = 9)   {s0 : Int32} {M : ap_Mem}  (h : w_X9_figures_27   q s0 M K) : ap_V x g 3 27 [(0, .ref (ap_ad g q))] [.int s0, .ref (ap_ad g q)] M := by
  unfold w_X9_figures_27 at h
  obtain ⟨g_2, h⟩ := h
  obtain ⟨M_1, eM_1, h⟩ := ap_nm h
  refine ap_putZ (q := 30) lp_RX9_49 hq g_2 eM_1 hc dX9_figures_27 rfl ?_
  refine ap_iconst (q := 31) hc dX9_figures_30 rfl ic_0 ?_
  refine ap_istore_n (q := 32) (lo2 := [(1, .int 0), (0, .ref (ap_ad g q))]) hc dX9_figures_31 rfl rfl rfl (by decide) rfl ?_
  refine ap_iconst (q := 33) hc dX9_figures_32 rfl ic_0 ?_
  refine ap_istore_n (q := 34) (lo2 := [(2, .int 0), (1, .int 0), (0, .ref (ap_ad g q))]) hc dX9_figures_33 rfl rfl rfl (by decide) rfl ?_
  exact ap_sub [2, 1, 0] rfl (bl_X9_figures_34 hc hz  hq  _ _ _ _ h)
def w_X9_figures_22   (q : Nat)  (M : ap_Mem) (K : Int32 → ap_Mem → Prop) : Prop :=
w_X9_figures_27   q 1 M K
theorem bl_X9_figures_22 {x : ap_X} {g : ap_G} (hc : ap_Cx x g cX9_figures RX9 3) {K : Int32 → ap_Mem → Prop} (hz : ap_Ends x g 1 (some .int) (ap_Qi K))   {q : Nat} (hq : ap_kd q = 9)    {M : ap_Mem}  (h : w_X9_figures_22   q  M K) : ap_V x g 3 22 [(0, .ref (ap_ad g q))] [.ref (ap_ad g q)] M := by
  unfold w_X9_figures_22 at h
  refine ap_iconst (q := 23) hc dX9_figures_22 rfl ic_1 ?_
  refine ap_goto (q := 27) hc dX9_figures_23 (by decide) ?_
  exact ap_sub [0] rfl (bl_X9_figures_27 hc hz  hq   h)
def w_X9_figures   (q : Nat)  (M : ap_Mem) (K : Int32 → ap_Mem → Prop) : Prop :=
(if (M q 8) = 0 then (w_X9_here q M (fun r_2 M_3 => w_X9_in r_2 48 57 M_3 (fun r_4 M_5 => (if r_4 = 0 then (w_X9_figures_22   q  M_5 K) else (w_X9_figures_27   q 0 M_5 K))))) else (w_X9_figures_22   q  M K))
theorem bl_X9_figures_0 {x : ap_X} {g : ap_G} (hc : ap_Cx x g cX9_figures RX9 3) {K : Int32 → ap_Mem → Prop} (hz : ap_Ends x g 1 (some .int) (ap_Qi K))   {q : Nat} (hq : ap_kd q = 9)    {M : ap_Mem}  (h : w_X9_figures   q  M K) : ap_V x g 3 0 [(0, .ref (ap_ad g q))] [] M := by
  have hg := hc.2.2.2.2.2.2.2.1
  unfold w_X9_figures at h
  refine ap_aload_n (q := 1) hc dX9_figures_0 rfl rfl 0 rfl ?_
  refine ap_aload_n (q := 2) hc dX9_figures_1 rfl rfl 0 rfl ?_
  refine ap_getI (q := 5) lg_RX9_49 hq hc dX9_figures_2 rfl ?_
  refine ap_if_ne (q := 8) (tgt := 22) hc dX9_figures_5 rfl (by decide) (fun z_1 => ?_) (fun z_1 => ?_)
  · have h := Eq.mp (if_neg z_1) h
    exact ap_sub [0] rfl (bl_X9_figures_22 hc hz  hq   h)
  · have h := Eq.mp (if_pos z_1) h
    refine ap_aload_n (q := 9) hc dX9_figures_8 rfl rfl 0 rfl ?_
    refine ap_callV (q := 12) (As := []) hc (ok_X9_here hg hq h) ml_RX9_53 lk_X9_here lv_X9_here hq rfl (ap_RmE hz (by decide)) rfl rfl (Nat.le_of_ble_eq_true rfl) dX9_figures_9 rfl (ap_ki (fun r_2 M_3 h => ?_))
    refine ap_bipush (q := 14) hc dX9_figures_12 rfl bc_48 ?_
    refine ap_bipush (q := 16) hc dX9_figures_14 rfl bc_57 ?_
    refine ap_callS (q := 19) (As := [.int r_2, .int 48, .int 57]) hc (ok_X9_in hg  h) ml_RX9_35 lk_X9_in ls_X9_in (ap_RmE hz (by decide)) rfl rfl (Nat.le_of_ble_eq_true rfl) dX9_figures_16 rfl (ap_ki (fun r_4 M_5 h => ?_))
    refine ap_if_ne (q := 22) (tgt := 26) hc dX9_figures_19 rfl (by decide) (fun z_6 => ?_) (fun z_6 => ?_)
    · have h := Eq.mp (if_neg z_6) h
      refine ap_iconst (q := 27) hc dX9_figures_26 rfl ic_0 ?_
      exact ap_sub [0] rfl (bl_X9_figures_27 hc hz  hq   h)
    · have h := Eq.mp (if_pos z_6) h
      exact ap_sub [0] rfl (bl_X9_figures_22 hc hz  hq   h)
theorem ok_X9_figures {l : Launch} {g : ap_G} (hg : ap_GOK g) {q : Nat} (hq : ap_kd q = 9)  {M : ap_Mem} {K : Int32 → ap_Mem → Prop} (h : w_X9_figures q  M K) : ap_Ct l g yX9_figures cX9_figures 3 (some .int) 1 [.ref (ap_ad g q)] M (ap_Qi K) := by
  refine ap_Ct_of hg (by decide +kernel) (Nat.le_of_ble_eq_true rfl) (fun x hx hc hz => ?_)
  subst hx
  exact bl_X9_figures_0 hc hz hq h
def w_X9_among_2_s   (kL2 : Int32 → ap_Mem → Prop) (q : Nat) (w1 : Nat) (x2 : Int32) (M : ap_Mem) (K : Int32 → ap_Mem → Prop) : Prop :=
w_J0_length_8abf5 w1 M (fun r_1 M_2 => (if r_1 ≤ x2 then (K (-1) M_2) else (w_X9_here q M_2 (fun r_4 M_5 => w_J0_charAt_5068e w1 x2 M_5 (fun r_6 M_7 => (if r_4 = r_6 then (∀ M_10 : ap_Mem, M_10 = ap_mu M_7 q 6 ((M_7 q 6) + 1) → K x2 M_10) else (∀ x2_9 : Int32, x2_9 = x2 + 1 → kL2 x2_9 M_7)))))))
def w_X9_among_2   (q : Nat) (w1 : Nat) (K : Int32 → ap_Mem → Prop) : Nat → Int32 → ap_Mem → Prop
  | 0, _, _ => False
  | n + 1, x2, M => w_X9_among_2_s   (w_X9_among_2   q w1 K n) q w1 x2 M K
theorem bl_X9_among_2 {x : ap_X} {g : ap_G} (hc : ap_Cx x g cX9_among RX9 3) {K : Int32 → ap_Mem → Prop} (hz : ap_Ends x g 4 (some .int) (ap_Qi K))   {q : Nat} {w1 : Nat} (hq : ap_kd q = 9) (hw1 : w1 < 6)   : ∀ (n : Nat) (x2 : Int32) (M : ap_Mem), w_X9_among_2   q w1 K n x2 M → ap_V x g 3 2 [(0, .ref (ap_ad g q)), (1, .ref (ap_gK g w1)), (2, .int x2)] [] M := by
  have hg := hc.2.2.2.2.2.2.2.1
  intro n
  induction n with
  | zero => intro _ _ h; exact h.elim
  | succ n ih =>
    intro x2 M h
    replace h : w_X9_among_2_s   (w_X9_among_2   q w1 K n) q w1 x2 M K := h
    unfold w_X9_among_2_s at h
    refine ap_iload_n (q := 3) hc dX9_among_2 rfl rfl 2 rfl ?_
    refine ap_aload_n (q := 4) hc dX9_among_3 rfl rfl 1 rfl ?_
    refine ap_callT (q := 7) (As := []) hc (ok_J0_length_8abf5 hg hw1 h) ml_RX9_57 lk_J0_length_8abf5 lv_J0_length_8abf5 hw1 rfl (ap_RmE hz (by decide)) rfl rfl (Nat.le_of_ble_eq_true rfl) dX9_among_4 rfl (ap_ki (fun r_1 M_2 h => ?_))
    refine ap_icmp_ge (q := 10) (tgt := 40) hc dX9_among_7 rfl (by decide) (fun z_3 => ?_) (fun z_3 => ?_)
    · have h := Eq.mp (if_pos z_3) h
      refine ap_iconst (q := 41) hc dX9_among_40 rfl ic_m1 ?_
      exact ap_iret hc hz rfl dX9_among_41 h
    · have h := Eq.mp (if_neg z_3) h
      refine ap_aload_n (q := 11) hc dX9_among_10 rfl rfl 0 rfl ?_
      refine ap_callV (q := 14) (As := []) hc (ok_X9_here hg hq h) ml_RX9_53 lk_X9_here lv_X9_here hq rfl (ap_RmE hz (by decide)) rfl rfl (Nat.le_of_ble_eq_true rfl) dX9_among_11 rfl (ap_ki (fun r_4 M_5 h => ?_))
      refine ap_aload_n (q := 15) hc dX9_among_14 rfl rfl 1 rfl ?_
      refine ap_iload_n (q := 16) hc dX9_among_15 rfl rfl 2 rfl ?_
      refine ap_callT (q := 19) (As := [.int x2]) hc (ok_J0_charAt_5068e hg hw1 h) ml_RX9_62 lk_J0_charAt_5068e lv_J0_charAt_5068e hw1 rfl (ap_RmE hz (by decide)) rfl rfl (Nat.le_of_ble_eq_true rfl) dX9_among_16 rfl (ap_ki (fun r_6 M_7 h => ?_))
      refine ap_icmp_ne (q := 22) (tgt := 34) hc dX9_among_19 rfl (by decide) (fun z_8 => ?_) (fun z_8 => ?_)
      · have h := Eq.mp (if_neg z_8) h
        obtain ⟨x2_9, ex2_9, h⟩ := ap_nm h
        refine ap_iinc (q := 37) (lo2 := [(2, .int x2_9), (0, .ref (ap_ad g q)), (1, .ref (ap_gK g w1))]) hc dX9_among_34 rfl 2 rfl (by rw [ex2_9]; rfl) (by decide) rfl ?_
        refine ap_goto (q := 2) hc dX9_among_37 (by decide) ?_
        exact ap_sub [1, 2, 0] rfl (ih _ _ h)
      · have h := Eq.mp (if_pos z_8) h
        refine ap_aload_n (q := 23) hc dX9_among_22 rfl rfl 0 rfl ?_
        refine ap_dup (q := 24) hc dX9_among_23 rfl rfl ?_
        refine ap_getI (q := 27) lg_RX9_43 hq hc dX9_among_24 rfl ?_
        refine ap_iconst (q := 28) hc dX9_among_27 rfl ic_1 ?_
        refine ap_iadd (q := 29) hc dX9_among_28 rfl ?_
        obtain ⟨M_10, eM_10, h⟩ := ap_nm h
        refine ap_putI (q := 32) lp_RX9_43 hq eM_10 hc dX9_among_29 rfl ?_
        refine ap_iload_n (q := 33) hc dX9_among_32 rfl rfl 2 rfl ?_
        exact ap_iret hc hz rfl dX9_among_33 h
def w_X9_among   (q : Nat) (w1 : Nat)  (M : ap_Mem) (K : Int32 → ap_Mem → Prop) : Prop :=
w_X9_among_2   q w1 K 4096 0 M
theorem bl_X9_among_0 {x : ap_X} {g : ap_G} (hc : ap_Cx x g cX9_among RX9 3) {K : Int32 → ap_Mem → Prop} (hz : ap_Ends x g 4 (some .int) (ap_Qi K))   {q : Nat} {w1 : Nat} (hq : ap_kd q = 9) (hw1 : w1 < 6)    {M : ap_Mem}  (h : w_X9_among   q w1  M K) : ap_V x g 3 0 [(0, .ref (ap_ad g q)), (1, .ref (ap_gK g w1))] [] M := by
  unfold w_X9_among at h
  refine ap_iconst (q := 1) hc dX9_among_0 rfl ic_0 ?_
  refine ap_istore_n (q := 2) (lo2 := [(2, .int 0), (0, .ref (ap_ad g q)), (1, .ref (ap_gK g w1))]) hc dX9_among_1 rfl rfl rfl (by decide) rfl ?_
  exact ap_sub [1, 2, 0] rfl (bl_X9_among_2 hc hz  hq hw1  _ _ _ h)
theorem ok_X9_among {l : Launch} {g : ap_G} (hg : ap_GOK g) {q : Nat} {w1 : Nat} (hq : ap_kd q = 9) (hw1 : w1 < 6)  {M : ap_Mem} {K : Int32 → ap_Mem → Prop} (h : w_X9_among q w1  M K) : ap_Ct l g yX9_among cX9_among 3 (some .int) 4 [.ref (ap_ad g q), .ref (ap_gK g w1)] M (ap_Qi K) := by
  refine ap_Ct_of hg (by decide +kernel) (Nat.le_of_ble_eq_true rfl) (fun x hx hc hz => ?_)
  subst hx
  exact bl_X9_among_0 hc hz hq hw1 h
def w_X9_emits   (q : Nat) (x1 : Int32) (M : ap_Mem) (K : ap_Mem → Prop) : Prop :=
(if (M q 8) = 0 then (vp_in (231 + (M q 5)) 936 ∧ vp_in ((236 + (140 * (M q 5))) + (M (q + 1) (231 + (M q 5)).toNatClampNeg)) 936 ∧ ∀ M_4 : ap_Mem, M_4 = ap_mu M (q + 1) ((236 + (140 * (M q 5))) + (M (q + 1) (231 + (M q 5)).toNatClampNeg)).toNatClampNeg x1 → vp_in (231 + (M_4 q 5)) 936 ∧ vp_in (231 + (M_4 q 5)) 936 ∧ ∀ M_7 : ap_Mem, M_7 = ap_mu M_4 (q + 1) (231 + (M_4 q 5)).toNatClampNeg ((M_4 (q + 1) (231 + (M_4 q 5)).toNatClampNeg) + 1) → K M_7) else (K M))
theorem bl_X9_emits_0 {x : ap_X} {g : ap_G} (hc : ap_Cx x g cX9_emits RX9 2) {K : ap_Mem → Prop} (hz : ap_Ends x g 0 none (ap_Qv K))   {q : Nat} (hq : ap_kd q = 9)   {x1 : Int32} {M : ap_Mem}  (h : w_X9_emits   q x1 M K) : ap_V x g 2 0 [(0, .ref (ap_ad g q)), (1, .int x1)] [] M := by
  unfold w_X9_emits at h
  refine ap_aload_n (q := 1) hc dX9_emits_0 rfl rfl 0 rfl ?_
  refine ap_getI (q := 4) lg_RX9_49 hq hc dX9_emits_1 rfl ?_
  refine ap_if_ne (q := 7) (tgt := 56) hc dX9_emits_4 rfl (by decide) (fun z_1 => ?_) (fun z_1 => ?_)
  · have h := Eq.mp (if_neg z_1) h
    exact ap_vret hc hz dX9_emits_56 h
  · have h := Eq.mp (if_pos z_1) h
    refine ap_aload_n (q := 8) hc dX9_emits_7 rfl rfl 0 rfl ?_
    refine ap_getR (q := 11) (r := q + 1) lg_RX9_9 (by decide) hq rfl hc dX9_emits_8 rfl ?_
    refine ap_sipush (q := 14) hc dX9_emits_11 rfl sc_236 ?_
    refine ap_sipush (q := 17) hc dX9_emits_14 rfl sc_140 ?_
    refine ap_aload_n (q := 18) hc dX9_emits_17 rfl rfl 0 rfl ?_
    refine ap_getI (q := 21) lg_RX9_70 hq hc dX9_emits_18 rfl ?_
    refine ap_imul (q := 22) hc dX9_emits_21 rfl ?_
    refine ap_iadd (q := 23) hc dX9_emits_22 rfl ?_
    refine ap_aload_n (q := 24) hc dX9_emits_23 rfl rfl 0 rfl ?_
    refine ap_getR (q := 27) (r := q + 1) lg_RX9_9 (by decide) hq rfl hc dX9_emits_24 rfl ?_
    refine ap_sipush (q := 30) hc dX9_emits_27 rfl sc_231 ?_
    refine ap_aload_n (q := 31) hc dX9_emits_30 rfl rfl 0 rfl ?_
    refine ap_getI (q := 34) lg_RX9_70 hq hc dX9_emits_31 rfl ?_
    refine ap_iadd (q := 35) hc dX9_emits_34 rfl ?_
    obtain ⟨g_2, h⟩ := h
    refine ap_iald (q := 36) (ty_9_1 hq) (tn_9_1 hq) g_2 hc dX9_emits_35 rfl ?_
    refine ap_iadd (q := 37) hc dX9_emits_36 rfl ?_
    refine ap_iload_n (q := 38) hc dX9_emits_37 rfl rfl 1 rfl ?_
    obtain ⟨g_3, h⟩ := h
    obtain ⟨M_4, eM_4, h⟩ := ap_nm h
    refine ap_iast (q := 39) (ty_9_1 hq) (tn_9_1 hq) g_3 eM_4 hc dX9_emits_38 rfl ?_
    refine ap_aload_n (q := 40) hc dX9_emits_39 rfl rfl 0 rfl ?_
    refine ap_getR (q := 43) (r := q + 1) lg_RX9_9 (by decide) hq rfl hc dX9_emits_40 rfl ?_
    refine ap_sipush (q := 46) hc dX9_emits_43 rfl sc_231 ?_
    refine ap_aload_n (q := 47) hc dX9_emits_46 rfl rfl 0 rfl ?_
    refine ap_getI (q := 50) lg_RX9_70 hq hc dX9_emits_47 rfl ?_
    refine ap_iadd (q := 51) hc dX9_emits_50 rfl ?_
    refine ap_dup2 (q := 52) hc dX9_emits_51 rfl rfl rfl ?_
    obtain ⟨g_5, h⟩ := h
    refine ap_iald (q := 53) (ty_9_1 hq) (tn_9_1 hq) g_5 hc dX9_emits_52 rfl ?_
    refine ap_iconst (q := 54) hc dX9_emits_53 rfl ic_1 ?_
    refine ap_iadd (q := 55) hc dX9_emits_54 rfl ?_
    obtain ⟨g_6, h⟩ := h
    obtain ⟨M_7, eM_7, h⟩ := ap_nm h
    refine ap_iast (q := 56) (ty_9_1 hq) (tn_9_1 hq) g_6 eM_7 hc dX9_emits_55 rfl ?_
    exact ap_vret hc hz dX9_emits_56 h
theorem ok_X9_emits {l : Launch} {g : ap_G} (hg : ap_GOK g) {q : Nat} (hq : ap_kd q = 9) {x1 : Int32} {M : ap_Mem} {K : ap_Mem → Prop} (h : w_X9_emits q x1 M K) : ap_Ct l g yX9_emits cX9_emits 2 none 0 [.ref (ap_ad g q), .int x1] M (ap_Qv K) := by
  refine ap_Ct_of hg (by decide +kernel) (Nat.le_of_ble_eq_true rfl) (fun x hx hc hz => ?_)
  subst hx
  exact bl_X9_emits_0 hc hz hq h
def w_X9_every_4_s (c_X9_every : Nat → ap_Mem → (ap_Mem → Prop) → Prop) (c_X9_factor : Nat → ap_Mem → (ap_Mem → Prop) → Prop) (c_X9_some : Nat → ap_Mem → (ap_Mem → Prop) → Prop)  (kL4 : ap_Mem → Prop) (q : Nat)  (M : ap_Mem) (K : ap_Mem → Prop) : Prop :=
(if (M q 8) = 0 then (w_X9_here q M (fun r_2 M_3 => (if r_2 = 38 then (∀ M_5 : ap_Mem, M_5 = ap_mu M_3 q 6 ((M_3 q 6) + 1) → c_X9_factor q M_5 (fun M_6 => w_X9_emits q (-2) M_6 (fun M_7 => kL4  M_7))) else (K M_3)))) else (K M))
def w_X9_every_4 (c_X9_every : Nat → ap_Mem → (ap_Mem → Prop) → Prop) (c_X9_factor : Nat → ap_Mem → (ap_Mem → Prop) → Prop) (c_X9_some : Nat → ap_Mem → (ap_Mem → Prop) → Prop)  (q : Nat) (K : ap_Mem → Prop) : Nat → ap_Mem → Prop
  | 0, _ => False
  | n + 1, M => w_X9_every_4_s c_X9_every c_X9_factor c_X9_some  (w_X9_every_4 c_X9_every c_X9_factor c_X9_some  q K n) q  M K
theorem bl_X9_every_4 {x : ap_X} {g : ap_G} (hc : ap_Cx x g cX9_every RX9 1) {K : ap_Mem → Prop} {kk : Nat} (hkk : 5 ≤ kk) (hz : ap_Ends x g (kk + 1) none (ap_Qv K)) {c_X9_every : Nat → ap_Mem → (ap_Mem → Prop) → Prop} {c_X9_factor : Nat → ap_Mem → (ap_Mem → Prop) → Prop} {c_X9_some : Nat → ap_Mem → (ap_Mem → Prop) → Prop} (hr_X9_every : ∀ (q : Nat) (M : ap_Mem) (K : ap_Mem → Prop), ap_kd q = 9 → c_X9_every q M K → ap_Ct (xL x) g yX9_every cX9_every 1 none kk [.ref (ap_ad g q)] M (ap_Qv K)) (hr_X9_factor : ∀ (q : Nat) (M : ap_Mem) (K : ap_Mem → Prop), ap_kd q = 9 → c_X9_factor q M K → ap_Ct (xL x) g yX9_factor cX9_factor 5 none kk [.ref (ap_ad g q)] M (ap_Qv K)) (hr_X9_some : ∀ (q : Nat) (M : ap_Mem) (K : ap_Mem → Prop), ap_kd q = 9 → c_X9_some q M K → ap_Ct (xL x) g yX9_some cX9_some 1 none kk [.ref (ap_ad g q)] M (ap_Qv K)) {q : Nat} (hq : ap_kd q = 9)   : ∀ (n : Nat)  (M : ap_Mem), w_X9_every_4 c_X9_every c_X9_factor c_X9_some  q K n  M → ap_V x g 1 4 [(0, .ref (ap_ad g q))] [] M := by
  have hg := hc.2.2.2.2.2.2.2.1
  intro n
  induction n with
  | zero => intro  _ h; exact h.elim
  | succ n ih =>
    intro  M h
    replace h : w_X9_every_4_s c_X9_every c_X9_factor c_X9_some  (w_X9_every_4 c_X9_every c_X9_factor c_X9_some  q K n) q  M K := h
    unfold w_X9_every_4_s at h
    refine ap_aload_n (q := 5) hc dX9_every_4 rfl rfl 0 rfl ?_
    refine ap_getI (q := 8) lg_RX9_49 hq hc dX9_every_5 rfl ?_
    refine ap_if_ne (q := 11) (tgt := 43) hc dX9_every_8 rfl (by decide) (fun z_1 => ?_) (fun z_1 => ?_)
    · have h := Eq.mp (if_neg z_1) h
      exact ap_vret hc hz dX9_every_43 h
    · have h := Eq.mp (if_pos z_1) h
      refine ap_aload_n (q := 12) hc dX9_every_11 rfl rfl 0 rfl ?_
      refine ap_callV (q := 15) (As := []) hc (ok_X9_here hg hq h) ml_RX9_53 lk_X9_here lv_X9_here hq rfl (ap_RmE hz (by omega)) rfl rfl (Nat.le_of_ble_eq_true rfl) dX9_every_12 rfl (ap_ki (fun r_2 M_3 h => ?_))
      refine ap_bipush (q := 17) hc dX9_every_15 rfl bc_38 ?_
      refine ap_icmp_ne (q := 20) (tgt := 43) hc dX9_every_17 rfl (by decide) (fun z_4 => ?_) (fun z_4 => ?_)
      · have h := Eq.mp (if_neg z_4) h
        exact ap_vret hc hz dX9_every_43 h
      · have h := Eq.mp (if_pos z_4) h
        refine ap_aload_n (q := 21) hc dX9_every_20 rfl rfl 0 rfl ?_
        refine ap_dup (q := 22) hc dX9_every_21 rfl rfl ?_
        refine ap_getI (q := 25) lg_RX9_43 hq hc dX9_every_22 rfl ?_
        refine ap_iconst (q := 26) hc dX9_every_25 rfl ic_1 ?_
        refine ap_iadd (q := 27) hc dX9_every_26 rfl ?_
        obtain ⟨M_5, eM_5, h⟩ := ap_nm h
        refine ap_putI (q := 30) lp_RX9_43 hq eM_5 hc dX9_every_27 rfl ?_
        refine ap_aload_n (q := 31) hc dX9_every_30 rfl rfl 0 rfl ?_
        refine ap_callV (q := 34) (As := []) hc (hr_X9_factor _ _ _ hq h) ml_RX9_76 lk_X9_factor lv_X9_factor hq rfl (ap_RmE hz (Nat.le_refl _)) rfl rfl (Nat.le_of_ble_eq_true rfl) dX9_every_31 rfl (ap_kv (fun M_6 h => ?_))
        refine ap_aload_n (q := 35) hc dX9_every_34 rfl rfl 0 rfl ?_
        refine ap_bipush (q := 37) hc dX9_every_35 rfl bc_m2 ?_
        refine ap_callV (q := 40) (As := [.int (-2)]) hc (ok_X9_emits hg hq h) ml_RX9_79 lk_X9_emits lv_X9_emits hq rfl (ap_RmE hz (by omega)) rfl rfl (Nat.le_of_ble_eq_true rfl) dX9_every_37 rfl (ap_kv (fun M_7 h => ?_))
        refine ap_goto (q := 4) hc dX9_every_40 (by decide) ?_
        exact ap_sub [0] rfl (ih  _ h)
def wf_X9_every (c_X9_every : Nat → ap_Mem → (ap_Mem → Prop) → Prop) (c_X9_factor : Nat → ap_Mem → (ap_Mem → Prop) → Prop) (c_X9_some : Nat → ap_Mem → (ap_Mem → Prop) → Prop)  (q : Nat)  (M : ap_Mem) (K : ap_Mem → Prop) : Prop :=
c_X9_factor q M (fun M_1 => w_X9_every_4 c_X9_every c_X9_factor c_X9_some  q K 4096  M_1)
theorem bl_X9_every_0 {x : ap_X} {g : ap_G} (hc : ap_Cx x g cX9_every RX9 1) {K : ap_Mem → Prop} {kk : Nat} (hkk : 5 ≤ kk) (hz : ap_Ends x g (kk + 1) none (ap_Qv K)) {c_X9_every : Nat → ap_Mem → (ap_Mem → Prop) → Prop} {c_X9_factor : Nat → ap_Mem → (ap_Mem → Prop) → Prop} {c_X9_some : Nat → ap_Mem → (ap_Mem → Prop) → Prop} (hr_X9_every : ∀ (q : Nat) (M : ap_Mem) (K : ap_Mem → Prop), ap_kd q = 9 → c_X9_every q M K → ap_Ct (xL x) g yX9_every cX9_every 1 none kk [.ref (ap_ad g q)] M (ap_Qv K)) (hr_X9_factor : ∀ (q : Nat) (M : ap_Mem) (K : ap_Mem → Prop), ap_kd q = 9 → c_X9_factor q M K → ap_Ct (xL x) g yX9_factor cX9_factor 5 none kk [.ref (ap_ad g q)] M (ap_Qv K)) (hr_X9_some : ∀ (q : Nat) (M : ap_Mem) (K : ap_Mem → Prop), ap_kd q = 9 → c_X9_some q M K → ap_Ct (xL x) g yX9_some cX9_some 1 none kk [.ref (ap_ad g q)] M (ap_Qv K)) {q : Nat} (hq : ap_kd q = 9)    {M : ap_Mem}  (h : wf_X9_every c_X9_every c_X9_factor c_X9_some  q  M K) : ap_V x g 1 0 [(0, .ref (ap_ad g q))] [] M := by
  unfold wf_X9_every at h
  refine ap_aload_n (q := 1) hc dX9_every_0 rfl rfl 0 rfl ?_
  refine ap_callV (q := 4) (As := []) hc (hr_X9_factor _ _ _ hq h) ml_RX9_76 lk_X9_factor lv_X9_factor hq rfl (ap_RmE hz (Nat.le_refl _)) rfl rfl (Nat.le_of_ble_eq_true rfl) dX9_every_1 rfl (ap_kv (fun M_1 h => ?_))
  exact ap_sub [0] rfl (bl_X9_every_4 hc hkk hz hr_X9_every hr_X9_factor hr_X9_some hq  _  _ h)
def w_X9_factor_101 (c_X9_every : Nat → ap_Mem → (ap_Mem → Prop) → Prop) (c_X9_factor : Nat → ap_Mem → (ap_Mem → Prop) → Prop) (c_X9_some : Nat → ap_Mem → (ap_Mem → Prop) → Prop)  (q : Nat)  (M : ap_Mem) (K : ap_Mem → Prop) : Prop :=
∀ M_1 : ap_Mem, M_1 = ap_mu M q 9 ((M q 9) - 1) → K M_1
theorem bl_X9_factor_101 {x : ap_X} {g : ap_G} (hc : ap_Cx x g cX9_factor RX9 5) {K : ap_Mem → Prop} {kk : Nat} (hkk : 5 ≤ kk) (hz : ap_Ends x g (kk + 1) none (ap_Qv K)) {c_X9_every : Nat → ap_Mem → (ap_Mem → Prop) → Prop} {c_X9_factor : Nat → ap_Mem → (ap_Mem → Prop) → Prop} {c_X9_some : Nat → ap_Mem → (ap_Mem → Prop) → Prop} (hr_X9_every : ∀ (q : Nat) (M : ap_Mem) (K : ap_Mem → Prop), ap_kd q = 9 → c_X9_every q M K → ap_Ct (xL x) g yX9_every cX9_every 1 none kk [.ref (ap_ad g q)] M (ap_Qv K)) (hr_X9_factor : ∀ (q : Nat) (M : ap_Mem) (K : ap_Mem → Prop), ap_kd q = 9 → c_X9_factor q M K → ap_Ct (xL x) g yX9_factor cX9_factor 5 none kk [.ref (ap_ad g q)] M (ap_Qv K)) (hr_X9_some : ∀ (q : Nat) (M : ap_Mem) (K : ap_Mem → Prop), ap_kd q = 9 → c_X9_some q M K → ap_Ct (xL x) g yX9_some cX9_some 1 none kk [.ref (ap_ad g q)] M (ap_Qv K)) {q : Nat} (hq : ap_kd q = 9)    {M : ap_Mem}  (h : w_X9_factor_101 c_X9_every c_X9_factor c_X9_some  q  M K) : ap_V x g 5 101 [(0, .ref (ap_ad g q))] [] M := by
  unfold w_X9_factor_101 at h
  refine ap_aload_n (q := 102) hc dX9_factor_101 rfl rfl 0 rfl ?_
  refine ap_dup (q := 103) hc dX9_factor_102 rfl rfl ?_
  refine ap_getI (q := 106) lg_RX9_73 hq hc dX9_factor_103 rfl ?_
  refine ap_iconst (q := 107) hc dX9_factor_106 rfl ic_1 ?_
  refine ap_isub (q := 108) hc dX9_factor_107 rfl ?_
  obtain ⟨M_1, eM_1, h⟩ := ap_nm h
  refine ap_putI (q := 111) lp_RX9_73 hq eM_1 hc dX9_factor_108 rfl ?_
  exact ap_vret hc hz dX9_factor_111 h
def w_X9_factor_69 (c_X9_every : Nat → ap_Mem → (ap_Mem → Prop) → Prop) (c_X9_factor : Nat → ap_Mem → (ap_Mem → Prop) → Prop) (c_X9_some : Nat → ap_Mem → (ap_Mem → Prop) → Prop)  (q : Nat) (x1 : Int32) (s0 : Int32) (s1 : Int32) (M : ap_Mem) (K : ap_Mem → Prop) : Prop :=
∀ M_1 : ap_Mem, M_1 = ap_mu M q 6 (s1 + s0) → (if x1 = 33 then (c_X9_factor q M_1 (fun M_5 => w_X9_emits q (-1) M_5 (fun M_6 => w_X9_factor_101 c_X9_every c_X9_factor c_X9_some  q  M_6 K))) else (c_X9_some q M_1 (fun M_3 => w_X9_must q 41 M_3 (fun M_4 => w_X9_factor_101 c_X9_every c_X9_factor c_X9_some  q  M_4 K))))
theorem bl_X9_factor_69 {x : ap_X} {g : ap_G} (hc : ap_Cx x g cX9_factor RX9 5) {K : ap_Mem → Prop} {kk : Nat} (hkk : 5 ≤ kk) (hz : ap_Ends x g (kk + 1) none (ap_Qv K)) {c_X9_every : Nat → ap_Mem → (ap_Mem → Prop) → Prop} {c_X9_factor : Nat → ap_Mem → (ap_Mem → Prop) → Prop} {c_X9_some : Nat → ap_Mem → (ap_Mem → Prop) → Prop} (hr_X9_every : ∀ (q : Nat) (M : ap_Mem) (K : ap_Mem → Prop), ap_kd q = 9 → c_X9_every q M K → ap_Ct (xL x) g yX9_every cX9_every 1 none kk [.ref (ap_ad g q)] M (ap_Qv K)) (hr_X9_factor : ∀ (q : Nat) (M : ap_Mem) (K : ap_Mem → Prop), ap_kd q = 9 → c_X9_factor q M K → ap_Ct (xL x) g yX9_factor cX9_factor 5 none kk [.ref (ap_ad g q)] M (ap_Qv K)) (hr_X9_some : ∀ (q : Nat) (M : ap_Mem) (K : ap_Mem → Prop), ap_kd q = 9 → c_X9_some q M K → ap_Ct (xL x) g yX9_some cX9_some 1 none kk [.ref (ap_ad g q)] M (ap_Qv K)) {q : Nat} (hq : ap_kd q = 9)   {x1 : Int32} {s0 : Int32} {s1 : Int32} {M : ap_Mem}  (h : w_X9_factor_69 c_X9_every c_X9_factor c_X9_some  q x1 s0 s1 M K) : ap_V x g 5 69 [(0, .ref (ap_ad g q)), (1, .int x1)] [.int s0, .int s1, .ref (ap_ad g q)] M := by
  have hg := hc.2.2.2.2.2.2.2.1
  unfold w_X9_factor_69 at h
  refine ap_iadd (q := 70) hc dX9_factor_69 rfl ?_
  obtain ⟨M_1, eM_1, h⟩ := ap_nm h
  refine ap_putI (q := 73) lp_RX9_43 hq eM_1 hc dX9_factor_70 rfl ?_
  refine ap_iload_n (q := 74) hc dX9_factor_73 rfl rfl 1 rfl ?_
  refine ap_bipush (q := 76) hc dX9_factor_74 rfl bc_33 ?_
  refine ap_icmp_ne (q := 79) (tgt := 91) hc dX9_factor_76 rfl (by decide) (fun z_2 => ?_) (fun z_2 => ?_)
  · have h := Eq.mp (if_neg z_2) h
    refine ap_aload_n (q := 92) hc dX9_factor_91 rfl rfl 0 rfl ?_
    refine ap_callV (q := 95) (As := []) hc (hr_X9_some _ _ _ hq h) ml_RX9_82 lk_X9_some lv_X9_some hq rfl (ap_RmE hz (Nat.le_refl _)) rfl rfl (Nat.le_of_ble_eq_true rfl) dX9_factor_92 rfl (ap_kv (fun M_3 h => ?_))
    refine ap_aload_n (q := 96) hc dX9_factor_95 rfl rfl 0 rfl ?_
    refine ap_bipush (q := 98) hc dX9_factor_96 rfl bc_41 ?_
    refine ap_callV (q := 101) (As := [.int 41]) hc (ok_X9_must hg hq h) ml_RX9_66 lk_X9_must lv_X9_must hq rfl (ap_RmE hz (by omega)) rfl rfl (Nat.le_of_ble_eq_true rfl) dX9_factor_98 rfl (ap_kv (fun M_4 h => ?_))
    exact ap_sub [0] rfl (bl_X9_factor_101 hc hkk hz hr_X9_every hr_X9_factor hr_X9_some hq   h)
  · have h := Eq.mp (if_pos z_2) h
    refine ap_aload_n (q := 80) hc dX9_factor_79 rfl rfl 0 rfl ?_
    refine ap_callV (q := 83) (As := []) hc (hr_X9_factor _ _ _ hq h) ml_RX9_76 lk_X9_factor lv_X9_factor hq rfl (ap_RmE hz (Nat.le_refl _)) rfl rfl (Nat.le_of_ble_eq_true rfl) dX9_factor_80 rfl (ap_kv (fun M_5 h => ?_))
    refine ap_aload_n (q := 84) hc dX9_factor_83 rfl rfl 0 rfl ?_
    refine ap_iconst (q := 85) hc dX9_factor_84 rfl ic_m1 ?_
    refine ap_callV (q := 88) (As := [.int (-1)]) hc (ok_X9_emits hg hq h) ml_RX9_79 lk_X9_emits lv_X9_emits hq rfl (ap_RmE hz (by omega)) rfl rfl (Nat.le_of_ble_eq_true rfl) dX9_factor_85 rfl (ap_kv (fun M_6 h => ?_))
    refine ap_goto (q := 101) hc dX9_factor_88 (by decide) ?_
    exact ap_sub [0] rfl (bl_X9_factor_101 hc hkk hz hr_X9_every hr_X9_factor hr_X9_some hq   h)
def w_X9_factor_39 (c_X9_every : Nat → ap_Mem → (ap_Mem → Prop) → Prop) (c_X9_factor : Nat → ap_Mem → (ap_Mem → Prop) → Prop) (c_X9_some : Nat → ap_Mem → (ap_Mem → Prop) → Prop)  (q : Nat) (x1 : Int32) (s0 : Int32) (M : ap_Mem) (K : ap_Mem → Prop) : Prop :=
ap_B s0 ∧ ∀ M_1 : ap_Mem, M_1 = ap_mu M q 8 s0 → ∀ M_3 : ap_Mem, M_3 = ap_mu M_1 q 9 ((M_1 q 9) + 1) → (if (M_3 q 8) = 0 then (w_X9_factor_69 c_X9_every c_X9_factor c_X9_some  q x1 1 (M_3 q 6) M_3 K) else (w_X9_factor_69 c_X9_every c_X9_factor c_X9_some  q x1 0 (M_3 q 6) M_3 K))
theorem bl_X9_factor_39 {x : ap_X} {g : ap_G} (hc : ap_Cx x g cX9_factor RX9 5) {K : ap_Mem → Prop} {kk : Nat} (hkk : 5 ≤ kk) (hz : ap_Ends x g (kk + 1) none (ap_Qv K)) {c_X9_every : Nat → ap_Mem → (ap_Mem → Prop) → Prop} {c_X9_factor : Nat → ap_Mem → (ap_Mem → Prop) → Prop} {c_X9_some : Nat → ap_Mem → (ap_Mem → Prop) → Prop} (hr_X9_every : ∀ (q : Nat) (M : ap_Mem) (K : ap_Mem → Prop), ap_kd q = 9 → c_X9_every q M K → ap_Ct (xL x) g yX9_every cX9_every 1 none kk [.ref (ap_ad g q)] M (ap_Qv K)) (hr_X9_factor : ∀ (q : Nat) (M : ap_Mem) (K : ap_Mem → Prop), ap_kd q = 9 → c_X9_factor q M K → ap_Ct (xL x) g yX9_factor cX9_factor 5 none kk [.ref (ap_ad g q)] M (ap_Qv K)) (hr_X9_some : ∀ (q : Nat) (M : ap_Mem) (K : ap_Mem → Prop), ap_kd q = 9 → c_X9_some q M K → ap_Ct (xL x) g yX9_some cX9_some 1 none kk [.ref (ap_ad g q)] M (ap_Qv K)) {q : Nat} (hq : ap_kd q = 9)   {x1 : Int32} {s0 : Int32} {M : ap_Mem}  (h : w_X9_factor_39 c_X9_every c_X9_factor c_X9_some  q x1 s0 M K) : ap_V x g 5 39 [(0, .ref (ap_ad g q)), (1, .int x1)] [.int s0, .ref (ap_ad g q)] M := by
  unfold w_X9_factor_39 at h
  obtain ⟨g_2, h⟩ := h
  obtain ⟨M_1, eM_1, h⟩ := ap_nm h
  refine ap_putZ (q := 42) lp_RX9_49 hq g_2 eM_1 hc dX9_factor_39 rfl ?_
  refine ap_aload_n (q := 43) hc dX9_factor_42 rfl rfl 0 rfl ?_
  refine ap_dup (q := 44) hc dX9_factor_43 rfl rfl ?_
  refine ap_getI (q := 47) lg_RX9_73 hq hc dX9_factor_44 rfl ?_
  refine ap_iconst (q := 48) hc dX9_factor_47 rfl ic_1 ?_
  refine ap_iadd (q := 49) hc dX9_factor_48 rfl ?_
  obtain ⟨M_3, eM_3, h⟩ := ap_nm h
  refine ap_putI (q := 52) lp_RX9_73 hq eM_3 hc dX9_factor_49 rfl ?_
  refine ap_aload_n (q := 53) hc dX9_factor_52 rfl rfl 0 rfl ?_
  refine ap_dup (q := 54) hc dX9_factor_53 rfl rfl ?_
  refine ap_getI (q := 57) lg_RX9_43 hq hc dX9_factor_54 rfl ?_
  refine ap_aload_n (q := 58) hc dX9_factor_57 rfl rfl 0 rfl ?_
  refine ap_getI (q := 61) lg_RX9_49 hq hc dX9_factor_58 rfl ?_
  refine ap_if_eq (q := 64) (tgt := 68) hc dX9_factor_61 rfl (by decide) (fun z_4 => ?_) (fun z_4 => ?_)
  · have h := Eq.mp (if_pos z_4) h
    refine ap_iconst (q := 69) hc dX9_factor_68 rfl ic_1 ?_
    exact ap_sub [0, 1] rfl (bl_X9_factor_69 hc hkk hz hr_X9_every hr_X9_factor hr_X9_some hq   h)
  · have h := Eq.mp (if_neg z_4) h
    refine ap_iconst (q := 65) hc dX9_factor_64 rfl ic_0 ?_
    refine ap_goto (q := 69) hc dX9_factor_65 (by decide) ?_
    exact ap_sub [0, 1] rfl (bl_X9_factor_69 hc hkk hz hr_X9_every hr_X9_factor hr_X9_some hq   h)
def w_X9_factor_25 (c_X9_every : Nat → ap_Mem → (ap_Mem → Prop) → Prop) (c_X9_factor : Nat → ap_Mem → (ap_Mem → Prop) → Prop) (c_X9_some : Nat → ap_Mem → (ap_Mem → Prop) → Prop)  (q : Nat) (x1 : Int32) (M : ap_Mem) (K : ap_Mem → Prop) : Prop :=
(if (M q 9) = 5 then (w_X9_factor_39 c_X9_every c_X9_factor c_X9_some  q x1 1 M K) else (w_X9_factor_39 c_X9_every c_X9_factor c_X9_some  q x1 0 M K))
theorem bl_X9_factor_25 {x : ap_X} {g : ap_G} (hc : ap_Cx x g cX9_factor RX9 5) {K : ap_Mem → Prop} {kk : Nat} (hkk : 5 ≤ kk) (hz : ap_Ends x g (kk + 1) none (ap_Qv K)) {c_X9_every : Nat → ap_Mem → (ap_Mem → Prop) → Prop} {c_X9_factor : Nat → ap_Mem → (ap_Mem → Prop) → Prop} {c_X9_some : Nat → ap_Mem → (ap_Mem → Prop) → Prop} (hr_X9_every : ∀ (q : Nat) (M : ap_Mem) (K : ap_Mem → Prop), ap_kd q = 9 → c_X9_every q M K → ap_Ct (xL x) g yX9_every cX9_every 1 none kk [.ref (ap_ad g q)] M (ap_Qv K)) (hr_X9_factor : ∀ (q : Nat) (M : ap_Mem) (K : ap_Mem → Prop), ap_kd q = 9 → c_X9_factor q M K → ap_Ct (xL x) g yX9_factor cX9_factor 5 none kk [.ref (ap_ad g q)] M (ap_Qv K)) (hr_X9_some : ∀ (q : Nat) (M : ap_Mem) (K : ap_Mem → Prop), ap_kd q = 9 → c_X9_some q M K → ap_Ct (xL x) g yX9_some cX9_some 1 none kk [.ref (ap_ad g q)] M (ap_Qv K)) {q : Nat} (hq : ap_kd q = 9)   {x1 : Int32} {M : ap_Mem}  (h : w_X9_factor_25 c_X9_every c_X9_factor c_X9_some  q x1 M K) : ap_V x g 5 25 [(0, .ref (ap_ad g q)), (1, .int x1)] [] M := by
  unfold w_X9_factor_25 at h
  refine ap_aload_n (q := 26) hc dX9_factor_25 rfl rfl 0 rfl ?_
  refine ap_aload_n (q := 27) hc dX9_factor_26 rfl rfl 0 rfl ?_
  refine ap_getI (q := 30) lg_RX9_73 hq hc dX9_factor_27 rfl ?_
  refine ap_iconst (q := 31) hc dX9_factor_30 rfl ic_5 ?_
  refine ap_icmp_ne (q := 34) (tgt := 38) hc dX9_factor_31 rfl (by decide) (fun z_1 => ?_) (fun z_1 => ?_)
  · have h := Eq.mp (if_neg z_1) h
    refine ap_iconst (q := 39) hc dX9_factor_38 rfl ic_0 ?_
    exact ap_sub [0, 1] rfl (bl_X9_factor_39 hc hkk hz hr_X9_every hr_X9_factor hr_X9_some hq   h)
  · have h := Eq.mp (if_pos z_1) h
    refine ap_iconst (q := 35) hc dX9_factor_34 rfl ic_1 ?_
    refine ap_goto (q := 39) hc dX9_factor_35 (by decide) ?_
    exact ap_sub [0, 1] rfl (bl_X9_factor_39 hc hkk hz hr_X9_every hr_X9_factor hr_X9_some hq   h)
def w_X9_factor_169 (c_X9_every : Nat → ap_Mem → (ap_Mem → Prop) → Prop) (c_X9_factor : Nat → ap_Mem → (ap_Mem → Prop) → Prop) (c_X9_some : Nat → ap_Mem → (ap_Mem → Prop) → Prop)  (q : Nat) (x2 : Int32) (x3 : Int32) (s0 : Int32) (M : ap_Mem) (K : ap_Mem → Prop) : Prop :=
ap_B s0 ∧ ∀ M_1 : ap_Mem, M_1 = ap_mu M q 8 s0 → w_X9_figures q M_1 (fun r_3 M_4 => w_X9_emits q ((x2 + (8 * x3)) + (32 * r_3)) M_4 (fun M_5 => K M_5))
theorem bl_X9_factor_169 {x : ap_X} {g : ap_G} (hc : ap_Cx x g cX9_factor RX9 5) {K : ap_Mem → Prop} {kk : Nat} (hkk : 5 ≤ kk) (hz : ap_Ends x g (kk + 1) none (ap_Qv K)) {c_X9_every : Nat → ap_Mem → (ap_Mem → Prop) → Prop} {c_X9_factor : Nat → ap_Mem → (ap_Mem → Prop) → Prop} {c_X9_some : Nat → ap_Mem → (ap_Mem → Prop) → Prop} (hr_X9_every : ∀ (q : Nat) (M : ap_Mem) (K : ap_Mem → Prop), ap_kd q = 9 → c_X9_every q M K → ap_Ct (xL x) g yX9_every cX9_every 1 none kk [.ref (ap_ad g q)] M (ap_Qv K)) (hr_X9_factor : ∀ (q : Nat) (M : ap_Mem) (K : ap_Mem → Prop), ap_kd q = 9 → c_X9_factor q M K → ap_Ct (xL x) g yX9_factor cX9_factor 5 none kk [.ref (ap_ad g q)] M (ap_Qv K)) (hr_X9_some : ∀ (q : Nat) (M : ap_Mem) (K : ap_Mem → Prop), ap_kd q = 9 → c_X9_some q M K → ap_Ct (xL x) g yX9_some cX9_some 1 none kk [.ref (ap_ad g q)] M (ap_Qv K)) {q : Nat} (hq : ap_kd q = 9)   {x2 : Int32} {x3 : Int32} {s0 : Int32} {M : ap_Mem}  (h : w_X9_factor_169 c_X9_every c_X9_factor c_X9_some  q x2 x3 s0 M K) : ap_V x g 5 169 [(0, .ref (ap_ad g q)), (2, .int x2), (3, .int x3)] [.int s0, .ref (ap_ad g q)] M := by
  have hg := hc.2.2.2.2.2.2.2.1
  unfold w_X9_factor_169 at h
  obtain ⟨g_2, h⟩ := h
  obtain ⟨M_1, eM_1, h⟩ := ap_nm h
  refine ap_putZ (q := 172) lp_RX9_49 hq g_2 eM_1 hc dX9_factor_169 rfl ?_
  refine ap_aload_n (q := 173) hc dX9_factor_172 rfl rfl 0 rfl ?_
  refine ap_callV (q := 176) (As := []) hc (ok_X9_figures hg hq h) ml_RX9_93 lk_X9_figures lv_X9_figures hq rfl (ap_RmE hz (by omega)) rfl rfl (Nat.le_of_ble_eq_true rfl) dX9_factor_173 rfl (ap_ki (fun r_3 M_4 h => ?_))
  refine ap_istore (q := 178) (lo2 := [(4, .int r_3), (0, .ref (ap_ad g q)), (2, .int x2), (3, .int x3)]) hc dX9_factor_176 rfl rfl (by decide) rfl ?_
  refine ap_aload_n (q := 179) hc dX9_factor_178 rfl rfl 1 rfl ?_
  refine ap_iload_n (q := 180) hc dX9_factor_179 rfl rfl 2 rfl ?_
  refine ap_bipush (q := 182) hc dX9_factor_180 rfl bc_8 ?_
  refine ap_iload_n (q := 183) hc dX9_factor_182 rfl rfl 3 rfl ?_
  refine ap_imul (q := 184) hc dX9_factor_183 rfl ?_
  refine ap_iadd (q := 185) hc dX9_factor_184 rfl ?_
  refine ap_bipush (q := 187) hc dX9_factor_185 rfl bc_32 ?_
  refine ap_iload (q := 189) hc dX9_factor_187 rfl 0 rfl ?_
  refine ap_imul (q := 190) hc dX9_factor_189 rfl ?_
  refine ap_iadd (q := 191) hc dX9_factor_190 rfl ?_
  refine ap_callV (q := 194) (As := [.int ((x2 + (8 * x3)) + (32 * r_3))]) hc (ok_X9_emits hg hq h) ml_RX9_79 lk_X9_emits lv_X9_emits hq rfl (ap_RmE hz (by omega)) rfl rfl (Nat.le_of_ble_eq_true rfl) dX9_factor_191 rfl (ap_kv (fun M_5 h => ?_))
  exact ap_vret hc hz dX9_factor_194 h
def w_X9_factor_164 (c_X9_every : Nat → ap_Mem → (ap_Mem → Prop) → Prop) (c_X9_factor : Nat → ap_Mem → (ap_Mem → Prop) → Prop) (c_X9_some : Nat → ap_Mem → (ap_Mem → Prop) → Prop)  (q : Nat) (x2 : Int32) (x3 : Int32) (M : ap_Mem) (K : ap_Mem → Prop) : Prop :=
w_X9_factor_169 c_X9_every c_X9_factor c_X9_some  q x2 x3 1 M K
theorem bl_X9_factor_164 {x : ap_X} {g : ap_G} (hc : ap_Cx x g cX9_factor RX9 5) {K : ap_Mem → Prop} {kk : Nat} (hkk : 5 ≤ kk) (hz : ap_Ends x g (kk + 1) none (ap_Qv K)) {c_X9_every : Nat → ap_Mem → (ap_Mem → Prop) → Prop} {c_X9_factor : Nat → ap_Mem → (ap_Mem → Prop) → Prop} {c_X9_some : Nat → ap_Mem → (ap_Mem → Prop) → Prop} (hr_X9_every : ∀ (q : Nat) (M : ap_Mem) (K : ap_Mem → Prop), ap_kd q = 9 → c_X9_every q M K → ap_Ct (xL x) g yX9_every cX9_every 1 none kk [.ref (ap_ad g q)] M (ap_Qv K)) (hr_X9_factor : ∀ (q : Nat) (M : ap_Mem) (K : ap_Mem → Prop), ap_kd q = 9 → c_X9_factor q M K → ap_Ct (xL x) g yX9_factor cX9_factor 5 none kk [.ref (ap_ad g q)] M (ap_Qv K)) (hr_X9_some : ∀ (q : Nat) (M : ap_Mem) (K : ap_Mem → Prop), ap_kd q = 9 → c_X9_some q M K → ap_Ct (xL x) g yX9_some cX9_some 1 none kk [.ref (ap_ad g q)] M (ap_Qv K)) {q : Nat} (hq : ap_kd q = 9)   {x2 : Int32} {x3 : Int32} {M : ap_Mem}  (h : w_X9_factor_164 c_X9_every c_X9_factor c_X9_some  q x2 x3 M K) : ap_V x g 5 164 [(0, .ref (ap_ad g q)), (2, .int x2), (3, .int x3)] [.ref (ap_ad g q)] M := by
  unfold w_X9_factor_164 at h
  refine ap_iconst (q := 165) hc dX9_factor_164 rfl ic_1 ?_
  refine ap_goto (q := 169) hc dX9_factor_165 (by decide) ?_
  exact ap_sub [0, 1, 2] rfl (bl_X9_factor_169 hc hkk hz hr_X9_every hr_X9_factor hr_X9_some hq   h)
def w_X9_factor_150 (c_X9_every : Nat → ap_Mem → (ap_Mem → Prop) → Prop) (c_X9_factor : Nat → ap_Mem → (ap_Mem → Prop) → Prop) (c_X9_some : Nat → ap_Mem → (ap_Mem → Prop) → Prop)  (q : Nat) (x2 : Int32) (s0 : Int32) (M : ap_Mem) (K : ap_Mem → Prop) : Prop :=
(if (M q 8) = 0 then ((if s0 = (-1) then (w_X9_factor_164 c_X9_every c_X9_factor c_X9_some  q x2 s0 M K) else (w_X9_factor_169 c_X9_every c_X9_factor c_X9_some  q x2 s0 0 M K))) else (w_X9_factor_164 c_X9_every c_X9_factor c_X9_some  q x2 s0 M K))
theorem bl_X9_factor_150 {x : ap_X} {g : ap_G} (hc : ap_Cx x g cX9_factor RX9 5) {K : ap_Mem → Prop} {kk : Nat} (hkk : 5 ≤ kk) (hz : ap_Ends x g (kk + 1) none (ap_Qv K)) {c_X9_every : Nat → ap_Mem → (ap_Mem → Prop) → Prop} {c_X9_factor : Nat → ap_Mem → (ap_Mem → Prop) → Prop} {c_X9_some : Nat → ap_Mem → (ap_Mem → Prop) → Prop} (hr_X9_every : ∀ (q : Nat) (M : ap_Mem) (K : ap_Mem → Prop), ap_kd q = 9 → c_X9_every q M K → ap_Ct (xL x) g yX9_every cX9_every 1 none kk [.ref (ap_ad g q)] M (ap_Qv K)) (hr_X9_factor : ∀ (q : Nat) (M : ap_Mem) (K : ap_Mem → Prop), ap_kd q = 9 → c_X9_factor q M K → ap_Ct (xL x) g yX9_factor cX9_factor 5 none kk [.ref (ap_ad g q)] M (ap_Qv K)) (hr_X9_some : ∀ (q : Nat) (M : ap_Mem) (K : ap_Mem → Prop), ap_kd q = 9 → c_X9_some q M K → ap_Ct (xL x) g yX9_some cX9_some 1 none kk [.ref (ap_ad g q)] M (ap_Qv K)) {q : Nat} (hq : ap_kd q = 9)   {x2 : Int32} {s0 : Int32} {M : ap_Mem}  (h : w_X9_factor_150 c_X9_every c_X9_factor c_X9_some  q x2 s0 M K) : ap_V x g 5 150 [(0, .ref (ap_ad g q)), (2, .int x2)] [.int s0] M := by
  unfold w_X9_factor_150 at h
  refine ap_istore_n (q := 151) (lo2 := [(3, .int s0), (0, .ref (ap_ad g q)), (2, .int x2)]) hc dX9_factor_150 rfl rfl rfl (by decide) rfl ?_
  refine ap_aload_n (q := 152) hc dX9_factor_151 rfl rfl 1 rfl ?_
  refine ap_aload_n (q := 153) hc dX9_factor_152 rfl rfl 1 rfl ?_
  refine ap_getI (q := 156) lg_RX9_49 hq hc dX9_factor_153 rfl ?_
  refine ap_if_ne (q := 159) (tgt := 164) hc dX9_factor_156 rfl (by decide) (fun z_1 => ?_) (fun z_1 => ?_)
  · have h := Eq.mp (if_neg z_1) h
    exact ap_sub [1, 2, 0] rfl (bl_X9_factor_164 hc hkk hz hr_X9_every hr_X9_factor hr_X9_some hq   h)
  · have h := Eq.mp (if_pos z_1) h
    refine ap_iload_n (q := 160) hc dX9_factor_159 rfl rfl 0 rfl ?_
    refine ap_iconst (q := 161) hc dX9_factor_160 rfl ic_m1 ?_
    refine ap_icmp_ne (q := 164) (tgt := 168) hc dX9_factor_161 rfl (by decide) (fun z_2 => ?_) (fun z_2 => ?_)
    · have h := Eq.mp (if_neg z_2) h
      refine ap_iconst (q := 169) hc dX9_factor_168 rfl ic_0 ?_
      exact ap_sub [1, 2, 0] rfl (bl_X9_factor_169 hc hkk hz hr_X9_every hr_X9_factor hr_X9_some hq   h)
    · have h := Eq.mp (if_pos z_2) h
      exact ap_sub [1, 2, 0] rfl (bl_X9_factor_164 hc hkk hz hr_X9_every hr_X9_factor hr_X9_some hq   h)
def w_X9_factor_130 (c_X9_every : Nat → ap_Mem → (ap_Mem → Prop) → Prop) (c_X9_factor : Nat → ap_Mem → (ap_Mem → Prop) → Prop) (c_X9_some : Nat → ap_Mem → (ap_Mem → Prop) → Prop)  (q : Nat) (x2 : Int32) (s0 : Int32) (M : ap_Mem) (K : ap_Mem → Prop) : Prop :=
ap_B s0 ∧ ∀ M_1 : ap_Mem, M_1 = ap_mu M q 8 s0 → (if (M_1 q 8) = 0 then (w_X9_among q 5 M_1 (fun r_4 M_5 => w_X9_factor_150 c_X9_every c_X9_factor c_X9_some  q x2 r_4 M_5 K)) else (w_X9_factor_150 c_X9_every c_X9_factor c_X9_some  q x2 0 M_1 K))
theorem bl_X9_factor_130 {x : ap_X} {g : ap_G} (hc : ap_Cx x g cX9_factor RX9 5) {K : ap_Mem → Prop} {kk : Nat} (hkk : 5 ≤ kk) (hz : ap_Ends x g (kk + 1) none (ap_Qv K)) {c_X9_every : Nat → ap_Mem → (ap_Mem → Prop) → Prop} {c_X9_factor : Nat → ap_Mem → (ap_Mem → Prop) → Prop} {c_X9_some : Nat → ap_Mem → (ap_Mem → Prop) → Prop} (hr_X9_every : ∀ (q : Nat) (M : ap_Mem) (K : ap_Mem → Prop), ap_kd q = 9 → c_X9_every q M K → ap_Ct (xL x) g yX9_every cX9_every 1 none kk [.ref (ap_ad g q)] M (ap_Qv K)) (hr_X9_factor : ∀ (q : Nat) (M : ap_Mem) (K : ap_Mem → Prop), ap_kd q = 9 → c_X9_factor q M K → ap_Ct (xL x) g yX9_factor cX9_factor 5 none kk [.ref (ap_ad g q)] M (ap_Qv K)) (hr_X9_some : ∀ (q : Nat) (M : ap_Mem) (K : ap_Mem → Prop), ap_kd q = 9 → c_X9_some q M K → ap_Ct (xL x) g yX9_some cX9_some 1 none kk [.ref (ap_ad g q)] M (ap_Qv K)) {q : Nat} (hq : ap_kd q = 9)   {x2 : Int32} {s0 : Int32} {M : ap_Mem}  (h : w_X9_factor_130 c_X9_every c_X9_factor c_X9_some  q x2 s0 M K) : ap_V x g 5 130 [(0, .ref (ap_ad g q)), (2, .int x2)] [.int s0, .ref (ap_ad g q)] M := by
  have hg := hc.2.2.2.2.2.2.2.1
  unfold w_X9_factor_130 at h
  obtain ⟨g_2, h⟩ := h
  obtain ⟨M_1, eM_1, h⟩ := ap_nm h
  refine ap_putZ (q := 133) lp_RX9_49 hq g_2 eM_1 hc dX9_factor_130 rfl ?_
  refine ap_aload_n (q := 134) hc dX9_factor_133 rfl rfl 0 rfl ?_
  refine ap_getI (q := 137) lg_RX9_49 hq hc dX9_factor_134 rfl ?_
  refine ap_if_eq (q := 140) (tgt := 144) hc dX9_factor_137 rfl (by decide) (fun z_3 => ?_) (fun z_3 => ?_)
  · have h := Eq.mp (if_pos z_3) h
    refine ap_aload_n (q := 145) hc dX9_factor_144 rfl rfl 0 rfl ?_
    refine ap_ldcS (q := 147) (w := 5) (tx := "<=>") (by decide +kernel) hc dX9_factor_145 rfl ?_
    refine ap_callV (q := 150) (As := [.ref (ap_gK g 5)]) hc (ok_X9_among hg hq (by decide) h) ml_RX9_87 lk_X9_among lv_X9_among hq rfl (ap_RmE hz (by omega)) rfl rfl (Nat.le_of_ble_eq_true rfl) dX9_factor_147 rfl (ap_ki (fun r_4 M_5 h => ?_))
    exact ap_sub [0, 1] rfl (bl_X9_factor_150 hc hkk hz hr_X9_every hr_X9_factor hr_X9_some hq   h)
  · have h := Eq.mp (if_neg z_3) h
    refine ap_iconst (q := 141) hc dX9_factor_140 rfl ic_0 ?_
    refine ap_goto (q := 150) hc dX9_factor_141 (by decide) ?_
    exact ap_sub [0, 1] rfl (bl_X9_factor_150 hc hkk hz hr_X9_every hr_X9_factor hr_X9_some hq   h)
def wf_X9_factor (c_X9_every : Nat → ap_Mem → (ap_Mem → Prop) → Prop) (c_X9_factor : Nat → ap_Mem → (ap_Mem → Prop) → Prop) (c_X9_some : Nat → ap_Mem → (ap_Mem → Prop) → Prop)  (q : Nat)  (M : ap_Mem) (K : ap_Mem → Prop) : Prop :=
(if (M q 8) = 0 then (w_X9_here q M (fun r_2 M_3 => (if r_2 = 33 then (w_X9_factor_25 c_X9_every c_X9_factor c_X9_some  q r_2 M_3 K) else ((if r_2 = 40 then (w_X9_factor_25 c_X9_every c_X9_factor c_X9_some  q r_2 M_3 K) else (w_X9_among q 4 M_3 (fun r_6 M_7 => (if r_6 = (-1) then (w_X9_factor_130 c_X9_every c_X9_factor c_X9_some  q r_6 1 M_7 K) else (w_X9_factor_130 c_X9_every c_X9_factor c_X9_some  q r_6 0 M_7 K))))))))) else (K M))
theorem bl_X9_factor_0 {x : ap_X} {g : ap_G} (hc : ap_Cx x g cX9_factor RX9 5) {K : ap_Mem → Prop} {kk : Nat} (hkk : 5 ≤ kk) (hz : ap_Ends x g (kk + 1) none (ap_Qv K)) {c_X9_every : Nat → ap_Mem → (ap_Mem → Prop) → Prop} {c_X9_factor : Nat → ap_Mem → (ap_Mem → Prop) → Prop} {c_X9_some : Nat → ap_Mem → (ap_Mem → Prop) → Prop} (hr_X9_every : ∀ (q : Nat) (M : ap_Mem) (K : ap_Mem → Prop), ap_kd q = 9 → c_X9_every q M K → ap_Ct (xL x) g yX9_every cX9_every 1 none kk [.ref (ap_ad g q)] M (ap_Qv K)) (hr_X9_factor : ∀ (q : Nat) (M : ap_Mem) (K : ap_Mem → Prop), ap_kd q = 9 → c_X9_factor q M K → ap_Ct (xL x) g yX9_factor cX9_factor 5 none kk [.ref (ap_ad g q)] M (ap_Qv K)) (hr_X9_some : ∀ (q : Nat) (M : ap_Mem) (K : ap_Mem → Prop), ap_kd q = 9 → c_X9_some q M K → ap_Ct (xL x) g yX9_some cX9_some 1 none kk [.ref (ap_ad g q)] M (ap_Qv K)) {q : Nat} (hq : ap_kd q = 9)    {M : ap_Mem}  (h : wf_X9_factor c_X9_every c_X9_factor c_X9_some  q  M K) : ap_V x g 5 0 [(0, .ref (ap_ad g q))] [] M := by
  have hg := hc.2.2.2.2.2.2.2.1
  unfold wf_X9_factor at h
  refine ap_aload_n (q := 1) hc dX9_factor_0 rfl rfl 0 rfl ?_
  refine ap_getI (q := 4) lg_RX9_49 hq hc dX9_factor_1 rfl ?_
  refine ap_if_eq (q := 7) (tgt := 8) hc dX9_factor_4 rfl (by decide) (fun z_1 => ?_) (fun z_1 => ?_)
  · have h := Eq.mp (if_pos z_1) h
    refine ap_aload_n (q := 9) hc dX9_factor_8 rfl rfl 0 rfl ?_
    refine ap_callV (q := 12) (As := []) hc (ok_X9_here hg hq h) ml_RX9_53 lk_X9_here lv_X9_here hq rfl (ap_RmE hz (by omega)) rfl rfl (Nat.le_of_ble_eq_true rfl) dX9_factor_9 rfl (ap_ki (fun r_2 M_3 h => ?_))
    refine ap_istore_n (q := 13) (lo2 := [(1, .int r_2), (0, .ref (ap_ad g q))]) hc dX9_factor_12 rfl rfl rfl (by decide) rfl ?_
    refine ap_iload_n (q := 14) hc dX9_factor_13 rfl rfl 0 rfl ?_
    refine ap_bipush (q := 16) hc dX9_factor_14 rfl bc_33 ?_
    refine ap_icmp_eq (q := 19) (tgt := 25) hc dX9_factor_16 rfl (by decide) (fun z_4 => ?_) (fun z_4 => ?_)
    · have h := Eq.mp (if_pos z_4) h
      exact ap_sub [1, 0] rfl (bl_X9_factor_25 hc hkk hz hr_X9_every hr_X9_factor hr_X9_some hq   h)
    · have h := Eq.mp (if_neg z_4) h
      refine ap_iload_n (q := 20) hc dX9_factor_19 rfl rfl 0 rfl ?_
      refine ap_bipush (q := 22) hc dX9_factor_20 rfl bc_40 ?_
      refine ap_icmp_ne (q := 25) (tgt := 112) hc dX9_factor_22 rfl (by decide) (fun z_5 => ?_) (fun z_5 => ?_)
      · have h := Eq.mp (if_neg z_5) h
        refine ap_aload_n (q := 113) hc dX9_factor_112 rfl rfl 1 rfl ?_
        refine ap_ldcS (q := 115) (w := 4) (tx := "pkvfcs") (by decide +kernel) hc dX9_factor_113 rfl ?_
        refine ap_callV (q := 118) (As := [.ref (ap_gK g 4)]) hc (ok_X9_among hg hq (by decide) h) ml_RX9_87 lk_X9_among lv_X9_among hq rfl (ap_RmE hz (by omega)) rfl rfl (Nat.le_of_ble_eq_true rfl) dX9_factor_115 rfl (ap_ki (fun r_6 M_7 h => ?_))
        refine ap_istore_n (q := 119) (lo2 := [(2, .int r_6), (1, .int r_2), (0, .ref (ap_ad g q))]) hc dX9_factor_118 rfl rfl rfl (by decide) rfl ?_
        refine ap_aload_n (q := 120) hc dX9_factor_119 rfl rfl 2 rfl ?_
        refine ap_iload_n (q := 121) hc dX9_factor_120 rfl rfl 0 rfl ?_
        refine ap_iconst (q := 122) hc dX9_factor_121 rfl ic_m1 ?_
        refine ap_icmp_ne (q := 125) (tgt := 129) hc dX9_factor_122 rfl (by decide) (fun z_8 => ?_) (fun z_8 => ?_)
        · have h := Eq.mp (if_neg z_8) h
          refine ap_iconst (q := 130) hc dX9_factor_129 rfl ic_0 ?_
          exact ap_sub [2, 0] rfl (bl_X9_factor_130 hc hkk hz hr_X9_every hr_X9_factor hr_X9_some hq   h)
        · have h := Eq.mp (if_pos z_8) h
          refine ap_iconst (q := 126) hc dX9_factor_125 rfl ic_1 ?_
          refine ap_goto (q := 130) hc dX9_factor_126 (by decide) ?_
          exact ap_sub [2, 0] rfl (bl_X9_factor_130 hc hkk hz hr_X9_every hr_X9_factor hr_X9_some hq   h)
      · have h := Eq.mp (if_pos z_5) h
        exact ap_sub [1, 0] rfl (bl_X9_factor_25 hc hkk hz hr_X9_every hr_X9_factor hr_X9_some hq   h)
  · have h := Eq.mp (if_neg z_1) h
    exact ap_vret hc hz dX9_factor_7 h
def w_X9_some_4_s (c_X9_every : Nat → ap_Mem → (ap_Mem → Prop) → Prop) (c_X9_factor : Nat → ap_Mem → (ap_Mem → Prop) → Prop) (c_X9_some : Nat → ap_Mem → (ap_Mem → Prop) → Prop)  (kL4 : ap_Mem → Prop) (q : Nat)  (M : ap_Mem) (K : ap_Mem → Prop) : Prop :=
(if (M q 8) = 0 then (w_X9_here q M (fun r_2 M_3 => (if r_2 = 124 then (∀ M_5 : ap_Mem, M_5 = ap_mu M_3 q 6 ((M_3 q 6) + 1) → c_X9_every q M_5 (fun M_6 => w_X9_emits q (-3) M_6 (fun M_7 => kL4  M_7))) else (K M_3)))) else (K M))
def w_X9_some_4 (c_X9_every : Nat → ap_Mem → (ap_Mem → Prop) → Prop) (c_X9_factor : Nat → ap_Mem → (ap_Mem → Prop) → Prop) (c_X9_some : Nat → ap_Mem → (ap_Mem → Prop) → Prop)  (q : Nat) (K : ap_Mem → Prop) : Nat → ap_Mem → Prop
  | 0, _ => False
  | n + 1, M => w_X9_some_4_s c_X9_every c_X9_factor c_X9_some  (w_X9_some_4 c_X9_every c_X9_factor c_X9_some  q K n) q  M K
theorem bl_X9_some_4 {x : ap_X} {g : ap_G} (hc : ap_Cx x g cX9_some RX9 1) {K : ap_Mem → Prop} {kk : Nat} (hkk : 5 ≤ kk) (hz : ap_Ends x g (kk + 1) none (ap_Qv K)) {c_X9_every : Nat → ap_Mem → (ap_Mem → Prop) → Prop} {c_X9_factor : Nat → ap_Mem → (ap_Mem → Prop) → Prop} {c_X9_some : Nat → ap_Mem → (ap_Mem → Prop) → Prop} (hr_X9_every : ∀ (q : Nat) (M : ap_Mem) (K : ap_Mem → Prop), ap_kd q = 9 → c_X9_every q M K → ap_Ct (xL x) g yX9_every cX9_every 1 none kk [.ref (ap_ad g q)] M (ap_Qv K)) (hr_X9_factor : ∀ (q : Nat) (M : ap_Mem) (K : ap_Mem → Prop), ap_kd q = 9 → c_X9_factor q M K → ap_Ct (xL x) g yX9_factor cX9_factor 5 none kk [.ref (ap_ad g q)] M (ap_Qv K)) (hr_X9_some : ∀ (q : Nat) (M : ap_Mem) (K : ap_Mem → Prop), ap_kd q = 9 → c_X9_some q M K → ap_Ct (xL x) g yX9_some cX9_some 1 none kk [.ref (ap_ad g q)] M (ap_Qv K)) {q : Nat} (hq : ap_kd q = 9)   : ∀ (n : Nat)  (M : ap_Mem), w_X9_some_4 c_X9_every c_X9_factor c_X9_some  q K n  M → ap_V x g 1 4 [(0, .ref (ap_ad g q))] [] M := by
  have hg := hc.2.2.2.2.2.2.2.1
  intro n
  induction n with
  | zero => intro  _ h; exact h.elim
  | succ n ih =>
    intro  M h
    replace h : w_X9_some_4_s c_X9_every c_X9_factor c_X9_some  (w_X9_some_4 c_X9_every c_X9_factor c_X9_some  q K n) q  M K := h
    unfold w_X9_some_4_s at h
    refine ap_aload_n (q := 5) hc dX9_some_4 rfl rfl 0 rfl ?_
    refine ap_getI (q := 8) lg_RX9_49 hq hc dX9_some_5 rfl ?_
    refine ap_if_ne (q := 11) (tgt := 43) hc dX9_some_8 rfl (by decide) (fun z_1 => ?_) (fun z_1 => ?_)
    · have h := Eq.mp (if_neg z_1) h
      exact ap_vret hc hz dX9_some_43 h
    · have h := Eq.mp (if_pos z_1) h
      refine ap_aload_n (q := 12) hc dX9_some_11 rfl rfl 0 rfl ?_
      refine ap_callV (q := 15) (As := []) hc (ok_X9_here hg hq h) ml_RX9_53 lk_X9_here lv_X9_here hq rfl (ap_RmE hz (by omega)) rfl rfl (Nat.le_of_ble_eq_true rfl) dX9_some_12 rfl (ap_ki (fun r_2 M_3 h => ?_))
      refine ap_bipush (q := 17) hc dX9_some_15 rfl bc_124 ?_
      refine ap_icmp_ne (q := 20) (tgt := 43) hc dX9_some_17 rfl (by decide) (fun z_4 => ?_) (fun z_4 => ?_)
      · have h := Eq.mp (if_neg z_4) h
        exact ap_vret hc hz dX9_some_43 h
      · have h := Eq.mp (if_pos z_4) h
        refine ap_aload_n (q := 21) hc dX9_some_20 rfl rfl 0 rfl ?_
        refine ap_dup (q := 22) hc dX9_some_21 rfl rfl ?_
        refine ap_getI (q := 25) lg_RX9_43 hq hc dX9_some_22 rfl ?_
        refine ap_iconst (q := 26) hc dX9_some_25 rfl ic_1 ?_
        refine ap_iadd (q := 27) hc dX9_some_26 rfl ?_
        obtain ⟨M_5, eM_5, h⟩ := ap_nm h
        refine ap_putI (q := 30) lp_RX9_43 hq eM_5 hc dX9_some_27 rfl ?_
        refine ap_aload_n (q := 31) hc dX9_some_30 rfl rfl 0 rfl ?_
        refine ap_callV (q := 34) (As := []) hc (hr_X9_every _ _ _ hq h) ml_RX9_96 lk_X9_every lv_X9_every hq rfl (ap_RmE hz (Nat.le_refl _)) rfl rfl (Nat.le_of_ble_eq_true rfl) dX9_some_31 rfl (ap_kv (fun M_6 h => ?_))
        refine ap_aload_n (q := 35) hc dX9_some_34 rfl rfl 0 rfl ?_
        refine ap_bipush (q := 37) hc dX9_some_35 rfl bc_m3 ?_
        refine ap_callV (q := 40) (As := [.int (-3)]) hc (ok_X9_emits hg hq h) ml_RX9_79 lk_X9_emits lv_X9_emits hq rfl (ap_RmE hz (by omega)) rfl rfl (Nat.le_of_ble_eq_true rfl) dX9_some_37 rfl (ap_kv (fun M_7 h => ?_))
        refine ap_goto (q := 4) hc dX9_some_40 (by decide) ?_
        exact ap_sub [0] rfl (ih  _ h)
def wf_X9_some (c_X9_every : Nat → ap_Mem → (ap_Mem → Prop) → Prop) (c_X9_factor : Nat → ap_Mem → (ap_Mem → Prop) → Prop) (c_X9_some : Nat → ap_Mem → (ap_Mem → Prop) → Prop)  (q : Nat)  (M : ap_Mem) (K : ap_Mem → Prop) : Prop :=
c_X9_every q M (fun M_1 => w_X9_some_4 c_X9_every c_X9_factor c_X9_some  q K 4096  M_1)
theorem bl_X9_some_0 {x : ap_X} {g : ap_G} (hc : ap_Cx x g cX9_some RX9 1) {K : ap_Mem → Prop} {kk : Nat} (hkk : 5 ≤ kk) (hz : ap_Ends x g (kk + 1) none (ap_Qv K)) {c_X9_every : Nat → ap_Mem → (ap_Mem → Prop) → Prop} {c_X9_factor : Nat → ap_Mem → (ap_Mem → Prop) → Prop} {c_X9_some : Nat → ap_Mem → (ap_Mem → Prop) → Prop} (hr_X9_every : ∀ (q : Nat) (M : ap_Mem) (K : ap_Mem → Prop), ap_kd q = 9 → c_X9_every q M K → ap_Ct (xL x) g yX9_every cX9_every 1 none kk [.ref (ap_ad g q)] M (ap_Qv K)) (hr_X9_factor : ∀ (q : Nat) (M : ap_Mem) (K : ap_Mem → Prop), ap_kd q = 9 → c_X9_factor q M K → ap_Ct (xL x) g yX9_factor cX9_factor 5 none kk [.ref (ap_ad g q)] M (ap_Qv K)) (hr_X9_some : ∀ (q : Nat) (M : ap_Mem) (K : ap_Mem → Prop), ap_kd q = 9 → c_X9_some q M K → ap_Ct (xL x) g yX9_some cX9_some 1 none kk [.ref (ap_ad g q)] M (ap_Qv K)) {q : Nat} (hq : ap_kd q = 9)    {M : ap_Mem}  (h : wf_X9_some c_X9_every c_X9_factor c_X9_some  q  M K) : ap_V x g 1 0 [(0, .ref (ap_ad g q))] [] M := by
  unfold wf_X9_some at h
  refine ap_aload_n (q := 1) hc dX9_some_0 rfl rfl 0 rfl ?_
  refine ap_callV (q := 4) (As := []) hc (hr_X9_every _ _ _ hq h) ml_RX9_96 lk_X9_every lv_X9_every hq rfl (ap_RmE hz (Nat.le_refl _)) rfl rfl (Nat.le_of_ble_eq_true rfl) dX9_some_1 rfl (ap_kv (fun M_1 h => ?_))
  exact ap_sub [0] rfl (bl_X9_some_4 hc hkk hz hr_X9_every hr_X9_factor hr_X9_some hq  _  _ h)
def wr_X9_every : Nat → Nat → Nat → ap_Mem → (ap_Mem → Prop) → Prop
  | 0 => fun _ _ _ _ => False
  | n + 1 => fun sel => if sel = 0 then wf_X9_every (wr_X9_every n 0) (wr_X9_every n 1) (wr_X9_every n 2) else if sel = 1 then wf_X9_factor (wr_X9_every n 0) (wr_X9_every n 1) (wr_X9_every n 2) else wf_X9_some (wr_X9_every n 0) (wr_X9_every n 1) (wr_X9_every n 2)
theorem okr_X9_every {l : Launch} {g : ap_G} (hg : ap_GOK g) : ∀ d : Nat, (∀ (q : Nat) (M : ap_Mem) (K : ap_Mem → Prop), ap_kd q = 9 → wr_X9_every d 0 q M K → ap_Ct l g yX9_every cX9_every 1 none (5 + d) [.ref (ap_ad g q)] M (ap_Qv K)) ∧ (∀ (q : Nat) (M : ap_Mem) (K : ap_Mem → Prop), ap_kd q = 9 → wr_X9_every d 1 q M K → ap_Ct l g yX9_factor cX9_factor 5 none (5 + d) [.ref (ap_ad g q)] M (ap_Qv K)) ∧ (∀ (q : Nat) (M : ap_Mem) (K : ap_Mem → Prop), ap_kd q = 9 → wr_X9_every d 2 q M K → ap_Ct l g yX9_some cX9_some 1 none (5 + d) [.ref (ap_ad g q)] M (ap_Qv K)) := by
  intro d
  induction d with
  | zero => exact ⟨fun _ _ _ _ h => h.elim, fun _ _ _ _ h => h.elim, fun _ _ _ _ h => h.elim⟩
  | succ d ih =>
    refine ⟨?_, ?_, ?_⟩
    · intro q M K hq h
      refine ap_Ct_of hg (by decide +kernel) (Nat.le_of_ble_eq_true rfl) (fun x hx hc hz => ?_)
      subst hx
      exact bl_X9_every_0 hc (Nat.le_add_right 5 d) hz ih.1 ih.2.1 ih.2.2 hq h
    · intro q M K hq h
      refine ap_Ct_of hg (by decide +kernel) (Nat.le_of_ble_eq_true rfl) (fun x hx hc hz => ?_)
      subst hx
      exact bl_X9_factor_0 hc (Nat.le_add_right 5 d) hz ih.1 ih.2.1 ih.2.2 hq h
    · intro q M K hq h
      refine ap_Ct_of hg (by decide +kernel) (Nat.le_of_ble_eq_true rfl) (fun x hx hc hz => ?_)
      subst hx
      exact bl_X9_some_0 hc (Nat.le_add_right 5 d) hz ih.1 ih.2.1 ih.2.2 hq h
def w_X9_every (q : Nat) (M : ap_Mem) (K : ap_Mem → Prop) : Prop := wr_X9_every 30 0 q M K
theorem ok_X9_every {l : Launch} {g : ap_G} (hg : ap_GOK g) {q : Nat} (hq : ap_kd q = 9)  {M : ap_Mem} {K : ap_Mem → Prop} (h : w_X9_every q M K) : ap_Ct l g yX9_every cX9_every 1 none 35 [.ref (ap_ad g q)] M (ap_Qv K) := (okr_X9_every hg 30).1 _  _ _ hq h
def w_X9_factor (q : Nat) (M : ap_Mem) (K : ap_Mem → Prop) : Prop := wr_X9_every 30 1 q M K
theorem ok_X9_factor {l : Launch} {g : ap_G} (hg : ap_GOK g) {q : Nat} (hq : ap_kd q = 9)  {M : ap_Mem} {K : ap_Mem → Prop} (h : w_X9_factor q M K) : ap_Ct l g yX9_factor cX9_factor 5 none 35 [.ref (ap_ad g q)] M (ap_Qv K) := (okr_X9_every hg 30).2.1 _  _ _ hq h
def w_X9_some (q : Nat) (M : ap_Mem) (K : ap_Mem → Prop) : Prop := wr_X9_every 30 2 q M K
theorem ok_X9_some {l : Launch} {g : ap_G} (hg : ap_GOK g) {q : Nat} (hq : ap_kd q = 9)  {M : ap_Mem} {K : ap_Mem → Prop} (h : w_X9_some q M K) : ap_Ct l g yX9_some cX9_some 1 none 35 [.ref (ap_ad g q)] M (ap_Qv K) := (okr_X9_every hg 30).2.2 _  _ _ hq h
def w_X9_much   (q : Nat) (w2 : Nat) (x1 : Int32) (M : ap_Mem) (K : ap_Mem → Prop) : Prop :=
w_X9_spells q w2 M (fun M_1 => w_X9_figures q M_1 (fun r_2 M_3 => w_X9_must q 32 M_3 (fun M_4 => w_X9_some q M_4 (fun M_5 => w_X9_emits q (x1 - r_2) M_5 (fun M_6 => K M_6)))))
theorem bl_X9_much_0 {x : ap_X} {g : ap_G} (hc : ap_Cx x g cX9_much RX9 4) {K : ap_Mem → Prop} (hz : ap_Ends x g 36 none (ap_Qv K))   {q : Nat} {w2 : Nat} (hq : ap_kd q = 9) (hw2 : w2 < 6)   {x1 : Int32} {M : ap_Mem}  (h : w_X9_much   q w2 x1 M K) : ap_V x g 4 0 [(0, .ref (ap_ad g q)), (1, .int x1), (2, .ref (ap_gK g w2))] [] M := by
  have hg := hc.2.2.2.2.2.2.2.1
  unfold w_X9_much at h
  refine ap_aload_n (q := 1) hc dX9_much_0 rfl rfl 0 rfl ?_
  refine ap_aload_n (q := 2) hc dX9_much_1 rfl rfl 2 rfl ?_
  refine ap_callV (q := 5) (As := [.ref (ap_gK g w2)]) hc (ok_X9_spells hg hq hw2 h) ml_RX9_99 lk_X9_spells lv_X9_spells hq rfl (ap_RmE hz (by decide)) rfl rfl (Nat.le_of_ble_eq_true rfl) dX9_much_2 rfl (ap_kv (fun M_1 h => ?_))
  refine ap_aload_n (q := 6) hc dX9_much_5 rfl rfl 0 rfl ?_
  refine ap_callV (q := 9) (As := []) hc (ok_X9_figures hg hq h) ml_RX9_93 lk_X9_figures lv_X9_figures hq rfl (ap_RmE hz (by decide)) rfl rfl (Nat.le_of_ble_eq_true rfl) dX9_much_6 rfl (ap_ki (fun r_2 M_3 h => ?_))
  refine ap_istore_n (q := 10) (lo2 := [(3, .int r_2), (0, .ref (ap_ad g q)), (1, .int x1), (2, .ref (ap_gK g w2))]) hc dX9_much_9 rfl rfl rfl (by decide) rfl ?_
  refine ap_aload_n (q := 11) hc dX9_much_10 rfl rfl 1 rfl ?_
  refine ap_bipush (q := 13) hc dX9_much_11 rfl bc_32 ?_
  refine ap_callV (q := 16) (As := [.int 32]) hc (ok_X9_must hg hq h) ml_RX9_66 lk_X9_must lv_X9_must hq rfl (ap_RmE hz (by decide)) rfl rfl (Nat.le_of_ble_eq_true rfl) dX9_much_13 rfl (ap_kv (fun M_4 h => ?_))
  refine ap_aload_n (q := 17) hc dX9_much_16 rfl rfl 1 rfl ?_
  refine ap_callV (q := 20) (As := []) hc (ok_X9_some hg hq h) ml_RX9_82 lk_X9_some lv_X9_some hq rfl (ap_RmE hz (by decide)) rfl rfl (Nat.le_of_ble_eq_true rfl) dX9_much_17 rfl (ap_kv (fun M_5 h => ?_))
  refine ap_aload_n (q := 21) hc dX9_much_20 rfl rfl 1 rfl ?_
  refine ap_iload_n (q := 22) hc dX9_much_21 rfl rfl 2 rfl ?_
  refine ap_iload_n (q := 23) hc dX9_much_22 rfl rfl 0 rfl ?_
  refine ap_isub (q := 24) hc dX9_much_23 rfl ?_
  refine ap_callV (q := 27) (As := [.int (x1 - r_2)]) hc (ok_X9_emits hg hq h) ml_RX9_79 lk_X9_emits lv_X9_emits hq rfl (ap_RmE hz (by decide)) rfl rfl (Nat.le_of_ble_eq_true rfl) dX9_much_24 rfl (ap_kv (fun M_6 h => ?_))
  exact ap_vret hc hz dX9_much_27 h
theorem ok_X9_much {l : Launch} {g : ap_G} (hg : ap_GOK g) {q : Nat} {w2 : Nat} (hq : ap_kd q = 9) (hw2 : w2 < 6) {x1 : Int32} {M : ap_Mem} {K : ap_Mem → Prop} (h : w_X9_much q w2 x1 M K) : ap_Ct l g yX9_much cX9_much 4 none 36 [.ref (ap_ad g q), .int x1, .ref (ap_gK g w2)] M (ap_Qv K) := by
  refine ap_Ct_of hg (by decide +kernel) (Nat.le_of_ble_eq_true rfl) (fun x hx hc hz => ?_)
  subst hx
  exact bl_X9_much_0 hc hz hq hw2 h
def w_X9_tellsHere   (q : Nat) (w2 : Nat) (x1 : Int32) (M : ap_Mem) (K : ap_Mem → Prop) : Prop :=
w_X9_spells q w2 M (fun M_1 => w_X9_figures q M_1 (fun r_2 M_3 => (if (M_3 q 8) = 0 then (vp_in (x1 + (M_3 q 5)) 936 ∧ ∀ M_6 : ap_Mem, M_6 = ap_mu M_3 (q + 1) (x1 + (M_3 q 5)).toNatClampNeg r_2 → K M_6) else (K M_3))))
theorem bl_X9_tellsHere_0 {x : ap_X} {g : ap_G} (hc : ap_Cx x g cX9_tellsHere RX9 4) {K : ap_Mem → Prop} (hz : ap_Ends x g 5 none (ap_Qv K))   {q : Nat} {w2 : Nat} (hq : ap_kd q = 9) (hw2 : w2 < 6)   {x1 : Int32} {M : ap_Mem}  (h : w_X9_tellsHere   q w2 x1 M K) : ap_V x g 4 0 [(0, .ref (ap_ad g q)), (1, .int x1), (2, .ref (ap_gK g w2))] [] M := by
  have hg := hc.2.2.2.2.2.2.2.1
  unfold w_X9_tellsHere at h
  refine ap_aload_n (q := 1) hc dX9_tellsHere_0 rfl rfl 0 rfl ?_
  refine ap_aload_n (q := 2) hc dX9_tellsHere_1 rfl rfl 2 rfl ?_
  refine ap_callV (q := 5) (As := [.ref (ap_gK g w2)]) hc (ok_X9_spells hg hq hw2 h) ml_RX9_99 lk_X9_spells lv_X9_spells hq rfl (ap_RmE hz (by decide)) rfl rfl (Nat.le_of_ble_eq_true rfl) dX9_tellsHere_2 rfl (ap_kv (fun M_1 h => ?_))
  refine ap_aload_n (q := 6) hc dX9_tellsHere_5 rfl rfl 0 rfl ?_
  refine ap_callV (q := 9) (As := []) hc (ok_X9_figures hg hq h) ml_RX9_93 lk_X9_figures lv_X9_figures hq rfl (ap_RmE hz (by decide)) rfl rfl (Nat.le_of_ble_eq_true rfl) dX9_tellsHere_6 rfl (ap_ki (fun r_2 M_3 h => ?_))
  refine ap_istore_n (q := 10) (lo2 := [(3, .int r_2), (0, .ref (ap_ad g q)), (1, .int x1), (2, .ref (ap_gK g w2))]) hc dX9_tellsHere_9 rfl rfl rfl (by decide) rfl ?_
  refine ap_aload_n (q := 11) hc dX9_tellsHere_10 rfl rfl 1 rfl ?_
  refine ap_getI (q := 14) lg_RX9_49 hq hc dX9_tellsHere_11 rfl ?_
  refine ap_if_ne (q := 17) (tgt := 29) hc dX9_tellsHere_14 rfl (by decide) (fun z_4 => ?_) (fun z_4 => ?_)
  · have h := Eq.mp (if_neg z_4) h
    exact ap_vret hc hz dX9_tellsHere_29 h
  · have h := Eq.mp (if_pos z_4) h
    refine ap_aload_n (q := 18) hc dX9_tellsHere_17 rfl rfl 1 rfl ?_
    refine ap_getR (q := 21) (r := q + 1) lg_RX9_9 (by decide) hq rfl hc dX9_tellsHere_18 rfl ?_
    refine ap_iload_n (q := 22) hc dX9_tellsHere_21 rfl rfl 2 rfl ?_
    refine ap_aload_n (q := 23) hc dX9_tellsHere_22 rfl rfl 1 rfl ?_
    refine ap_getI (q := 26) lg_RX9_70 hq hc dX9_tellsHere_23 rfl ?_
    refine ap_iadd (q := 27) hc dX9_tellsHere_26 rfl ?_
    refine ap_iload_n (q := 28) hc dX9_tellsHere_27 rfl rfl 0 rfl ?_
    obtain ⟨g_5, h⟩ := h
    obtain ⟨M_6, eM_6, h⟩ := ap_nm h
    refine ap_iast (q := 29) (ty_9_1 hq) (tn_9_1 hq) g_5 eM_6 hc dX9_tellsHere_28 rfl ?_
    exact ap_vret hc hz dX9_tellsHere_29 h
theorem ok_X9_tellsHere {l : Launch} {g : ap_G} (hg : ap_GOK g) {q : Nat} {w2 : Nat} (hq : ap_kd q = 9) (hw2 : w2 < 6) {x1 : Int32} {M : ap_Mem} {K : ap_Mem → Prop} (h : w_X9_tellsHere q w2 x1 M K) : ap_Ct l g yX9_tellsHere cX9_tellsHere 4 none 5 [.ref (ap_ad g q), .int x1, .ref (ap_gK g w2)] M (ap_Qv K) := by
  refine ap_Ct_of hg (by decide +kernel) (Nat.le_of_ble_eq_true rfl) (fun x hx hc hz => ?_)
  subst hx
  exact bl_X9_tellsHere_0 hc hz hq hw2 h
def w_X9_clauseHere   (q : Nat)  (M : ap_Mem) (K : ap_Mem → Prop) : Prop :=
w_X9_here q M (fun r_1 M_2 => (if r_1 = 98 then (w_X9_tellsHere q 0 226 M_2 (fun M_4 => K M_4)) else (if r_1 = 104 then (w_X9_much q 1 (-10) M_2 (fun M_6 => K M_6)) else (if r_1 = 115 then (w_X9_much q 2 (-200) M_2 (fun M_8 => K M_8)) else (∀ M_9 : ap_Mem, M_9 = ap_mu M_2 q 8 1 → K M_9)))))
theorem bl_X9_clauseHere_0 {x : ap_X} {g : ap_G} (hc : ap_Cx x g cX9_clauseHere RX9 1) {K : ap_Mem → Prop} (hz : ap_Ends x g 37 none (ap_Qv K))   {q : Nat} (hq : ap_kd q = 9)    {M : ap_Mem}  (h : w_X9_clauseHere   q  M K) : ap_V x g 1 0 [(0, .ref (ap_ad g q))] [] M := by
  have hg := hc.2.2.2.2.2.2.2.1
  unfold w_X9_clauseHere at h
  refine ap_aload_n (q := 1) hc dX9_clauseHere_0 rfl rfl 0 rfl ?_
  refine ap_callV (q := 4) (As := []) hc (ok_X9_here hg hq h) ml_RX9_53 lk_X9_here lv_X9_here hq rfl (ap_RmE hz (by decide)) rfl rfl (Nat.le_of_ble_eq_true rfl) dX9_clauseHere_1 rfl (ap_ki (fun r_1 M_2 h => ?_))
  by_cases z_3 : r_1 = 98
  · have h := Eq.mp (if_pos z_3) h
    refine ap_look (tgt := 40) (off := 36) hc dX9_clauseHere_4 (by decide +kernel) (by rw [z_3]; decide +kernel) (by decide) ?_
    refine ap_aload_n (q := 41) hc dX9_clauseHere_40 rfl rfl 0 rfl ?_
    refine ap_sipush (q := 44) hc dX9_clauseHere_41 rfl sc_226 ?_
    refine ap_ldcS (q := 46) (w := 0) (tx := "bored ") (by decide +kernel) hc dX9_clauseHere_44 rfl ?_
    refine ap_callV (q := 49) (As := [.int 226, .ref (ap_gK g 0)]) hc (ok_X9_tellsHere hg hq (by decide) h) ml_RX9_105 lk_X9_tellsHere lv_X9_tellsHere hq rfl (ap_RmE hz (by decide)) rfl rfl (Nat.le_of_ble_eq_true rfl) dX9_clauseHere_46 rfl (ap_kv (fun M_4 h => ?_))
    refine ap_goto (q := 80) hc dX9_clauseHere_49 (by decide) ?_
    exact ap_vret hc hz dX9_clauseHere_80 h
  · have h := Eq.mp (if_neg z_3) h
    by_cases z_5 : r_1 = 104
    · have h := Eq.mp (if_pos z_5) h
      refine ap_look (tgt := 52) (off := 48) hc dX9_clauseHere_4 (by decide +kernel) (by rw [z_5]; decide +kernel) (by decide) ?_
      refine ap_aload_n (q := 53) hc dX9_clauseHere_52 rfl rfl 0 rfl ?_
      refine ap_bipush (q := 55) hc dX9_clauseHere_53 rfl bc_m10 ?_
      refine ap_ldcS (q := 57) (w := 1) (tx := "hope ") (by decide +kernel) hc dX9_clauseHere_55 rfl ?_
      refine ap_callV (q := 60) (As := [.int (-10), .ref (ap_gK g 1)]) hc (ok_X9_much hg hq (by decide) h) ml_RX9_111 lk_X9_much lv_X9_much hq rfl (ap_RmE hz (by decide)) rfl rfl (Nat.le_of_ble_eq_true rfl) dX9_clauseHere_57 rfl (ap_kv (fun M_6 h => ?_))
      refine ap_goto (q := 80) hc dX9_clauseHere_60 (by decide) ?_
      exact ap_vret hc hz dX9_clauseHere_80 h
    · have h := Eq.mp (if_neg z_5) h
      by_cases z_7 : r_1 = 115
      · have h := Eq.mp (if_pos z_7) h
        refine ap_look (tgt := 63) (off := 59) hc dX9_clauseHere_4 (by decide +kernel) (by rw [z_7]; decide +kernel) (by decide) ?_
        refine ap_aload_n (q := 64) hc dX9_clauseHere_63 rfl rfl 0 rfl ?_
        refine ap_sipush (q := 67) hc dX9_clauseHere_64 rfl sc_m200 ?_
        refine ap_ldcS (q := 69) (w := 2) (tx := "shy ") (by decide +kernel) hc dX9_clauseHere_67 rfl ?_
        refine ap_callV (q := 72) (As := [.int (-200), .ref (ap_gK g 2)]) hc (ok_X9_much hg hq (by decide) h) ml_RX9_111 lk_X9_much lv_X9_much hq rfl (ap_RmE hz (by decide)) rfl rfl (Nat.le_of_ble_eq_true rfl) dX9_clauseHere_69 rfl (ap_kv (fun M_8 h => ?_))
        refine ap_goto (q := 80) hc dX9_clauseHere_72 (by decide) ?_
        exact ap_vret hc hz dX9_clauseHere_80 h
      · have h := Eq.mp (if_neg z_7) h
        refine ap_look (tgt := 75) hc dX9_clauseHere_4 (by decide +kernel) (off := 71) (by show Op.lookupswitch.offset [(98, 36), (104, 48), (115, 59)] 71 _ = _; rw [lv_osw z_3 (by decide), lv_osw z_5 (by decide), lv_osw z_7 (by decide)]; rfl) (by decide) ?_
        refine ap_aload_n (q := 76) hc dX9_clauseHere_75 rfl rfl 0 rfl ?_
        refine ap_iconst (q := 77) hc dX9_clauseHere_76 rfl ic_1 ?_
        obtain ⟨M_9, eM_9, h⟩ := ap_nm h
        refine ap_putZ (q := 80) lp_RX9_49 hq ap_B1 eM_9 hc dX9_clauseHere_77 rfl ?_
        exact ap_vret hc hz dX9_clauseHere_80 h
theorem ok_X9_clauseHere {l : Launch} {g : ap_G} (hg : ap_GOK g) {q : Nat} (hq : ap_kd q = 9)  {M : ap_Mem} {K : ap_Mem → Prop} (h : w_X9_clauseHere q  M K) : ap_Ct l g yX9_clauseHere cX9_clauseHere 1 none 37 [.ref (ap_ad g q)] M (ap_Qv K) := by
  refine ap_Ct_of hg (by decide +kernel) (Nat.le_of_ble_eq_true rfl) (fun x hx hc hz => ?_)
  subst hx
  exact bl_X9_clauseHere_0 hc hz hq h
def w_X9_town_135   (q : Nat)  (M : ap_Mem) (K : Int32 → ap_Mem → Prop) : Prop :=
(if (M q 8) = 0 then ((if (M q 6) = (M q 7) then (vp_in 31 936 ∧ vp_in 31 936 ∧ ∀ M_5 : ap_Mem, M_5 = ap_mu M (q + 1) (31 : Int32).toNatClampNeg ((M (q + 1) (31 : Int32).toNatClampNeg) + 1) → vp_in 37 936 ∧ ∀ M_7 : ap_Mem, M_7 = ap_mu M_5 (q + 1) (37 : Int32).toNatClampNeg (M_5 q 5) → K (M_7 q 5) M_7) else (K ((-10) - (M q 6)) M))) else (K ((-10) - (M q 6)) M))
theorem bl_X9_town_135 {x : ap_X} {g : ap_G} (hc : ap_Cx x g cX9_town RX9 2) {K : Int32 → ap_Mem → Prop} (hz : ap_Ends x g 38 (some .int) (ap_Qi K))   {q : Nat} (hq : ap_kd q = 9)    {M : ap_Mem}  (h : w_X9_town_135   q  M K) : ap_V x g 2 135 [(0, .ref (ap_ad g q))] [] M := by
  unfold w_X9_town_135 at h
  refine ap_aload_n (q := 136) hc dX9_town_135 rfl rfl 0 rfl ?_
  refine ap_getI (q := 139) lg_RX9_49 hq hc dX9_town_136 rfl ?_
  refine ap_if_ne (q := 142) (tgt := 153) hc dX9_town_139 rfl (by decide) (fun z_1 => ?_) (fun z_1 => ?_)
  · have h := Eq.mp (if_neg z_1) h
    refine ap_bipush (q := 155) hc dX9_town_153 rfl bc_m10 ?_
    refine ap_aload_n (q := 156) hc dX9_town_155 rfl rfl 0 rfl ?_
    refine ap_getI (q := 159) lg_RX9_43 hq hc dX9_town_156 rfl ?_
    refine ap_isub (q := 160) hc dX9_town_159 rfl ?_
    exact ap_iret hc hz rfl dX9_town_160 h
  · have h := Eq.mp (if_pos z_1) h
    refine ap_aload_n (q := 143) hc dX9_town_142 rfl rfl 0 rfl ?_
    refine ap_getI (q := 146) lg_RX9_43 hq hc dX9_town_143 rfl ?_
    refine ap_aload_n (q := 147) hc dX9_town_146 rfl rfl 0 rfl ?_
    refine ap_getI (q := 150) lg_RX9_46 hq hc dX9_town_147 rfl ?_
    refine ap_icmp_eq (q := 153) (tgt := 161) hc dX9_town_150 rfl (by decide) (fun z_2 => ?_) (fun z_2 => ?_)
    · have h := Eq.mp (if_pos z_2) h
      refine ap_aload_n (q := 162) hc dX9_town_161 rfl rfl 0 rfl ?_
      refine ap_getR (q := 165) (r := q + 1) lg_RX9_9 (by decide) hq rfl hc dX9_town_162 rfl ?_
      refine ap_bipush (q := 167) hc dX9_town_165 rfl bc_31 ?_
      refine ap_dup2 (q := 168) hc dX9_town_167 rfl rfl rfl ?_
      obtain ⟨g_3, h⟩ := h
      refine ap_iald (q := 169) (ty_9_1 hq) (tn_9_1 hq) g_3 hc dX9_town_168 rfl ?_
      refine ap_iconst (q := 170) hc dX9_town_169 rfl ic_1 ?_
      refine ap_iadd (q := 171) hc dX9_town_170 rfl ?_
      obtain ⟨g_4, h⟩ := h
      obtain ⟨M_5, eM_5, h⟩ := ap_nm h
      refine ap_iast (q := 172) (ty_9_1 hq) (tn_9_1 hq) g_4 eM_5 hc dX9_town_171 rfl ?_
      refine ap_aload_n (q := 173) hc dX9_town_172 rfl rfl 0 rfl ?_
      refine ap_getR (q := 176) (r := q + 1) lg_RX9_9 (by decide) hq rfl hc dX9_town_173 rfl ?_
      refine ap_bipush (q := 178) hc dX9_town_176 rfl bc_37 ?_
      refine ap_aload_n (q := 179) hc dX9_town_178 rfl rfl 0 rfl ?_
      refine ap_getI (q := 182) lg_RX9_70 hq hc dX9_town_179 rfl ?_
      obtain ⟨g_6, h⟩ := h
      obtain ⟨M_7, eM_7, h⟩ := ap_nm h
      refine ap_iast (q := 183) (ty_9_1 hq) (tn_9_1 hq) g_6 eM_7 hc dX9_town_182 rfl ?_
      refine ap_aload_n (q := 184) hc dX9_town_183 rfl rfl 0 rfl ?_
      refine ap_getI (q := 187) lg_RX9_70 hq hc dX9_town_184 rfl ?_
      exact ap_iret hc hz rfl dX9_town_187 h
    · have h := Eq.mp (if_neg z_2) h
      refine ap_bipush (q := 155) hc dX9_town_153 rfl bc_m10 ?_
      refine ap_aload_n (q := 156) hc dX9_town_155 rfl rfl 0 rfl ?_
      refine ap_getI (q := 159) lg_RX9_43 hq hc dX9_town_156 rfl ?_
      refine ap_isub (q := 160) hc dX9_town_159 rfl ?_
      exact ap_iret hc hz rfl dX9_town_160 h
def w_X9_town_93_s   (kL93 : Int32 → ap_Mem → Prop) (q : Nat) (x1 : Int32) (M : ap_Mem) (K : Int32 → ap_Mem → Prop) : Prop :=
(if (M q 8) = 0 then ((if 10 ≤ x1 then (w_X9_town_135   q  M K) else (w_X9_here q M (fun r_3 M_4 => (if r_3 = 59 then (∀ M_6 : ap_Mem, M_6 = ap_mu M_4 q 6 ((M_4 q 6) + 1) → w_X9_clauseHere q M_6 (fun M_7 => ∀ x1_8 : Int32, x1_8 = x1 + 1 → kL93 x1_8 M_7)) else (w_X9_town_135   q  M_4 K)))))) else (w_X9_town_135   q  M K))
def w_X9_town_93   (q : Nat) (K : Int32 → ap_Mem → Prop) : Nat → Int32 → ap_Mem → Prop
  | 0, _, _ => False
  | n + 1, x1, M => w_X9_town_93_s   (w_X9_town_93   q K n) q x1 M K
theorem bl_X9_town_93 {x : ap_X} {g : ap_G} (hc : ap_Cx x g cX9_town RX9 2) {K : Int32 → ap_Mem → Prop} (hz : ap_Ends x g 38 (some .int) (ap_Qi K))   {q : Nat} (hq : ap_kd q = 9)   : ∀ (n : Nat) (x1 : Int32) (M : ap_Mem), w_X9_town_93   q K n x1 M → ap_V x g 2 93 [(0, .ref (ap_ad g q)), (1, .int x1)] [] M := by
  have hg := hc.2.2.2.2.2.2.2.1
  intro n
  induction n with
  | zero => intro _ _ h; exact h.elim
  | succ n ih =>
    intro x1 M h
    replace h : w_X9_town_93_s   (w_X9_town_93   q K n) q x1 M K := h
    unfold w_X9_town_93_s at h
    refine ap_aload_n (q := 94) hc dX9_town_93 rfl rfl 0 rfl ?_
    refine ap_getI (q := 97) lg_RX9_49 hq hc dX9_town_94 rfl ?_
    refine ap_if_ne (q := 100) (tgt := 135) hc dX9_town_97 rfl (by decide) (fun z_1 => ?_) (fun z_1 => ?_)
    · have h := Eq.mp (if_neg z_1) h
      exact ap_sub [0] rfl (bl_X9_town_135 hc hz  hq   h)
    · have h := Eq.mp (if_pos z_1) h
      refine ap_iload_n (q := 101) hc dX9_town_100 rfl rfl 1 rfl ?_
      refine ap_bipush (q := 103) hc dX9_town_101 rfl bc_10 ?_
      refine ap_icmp_ge (q := 106) (tgt := 135) hc dX9_town_103 rfl (by decide) (fun z_2 => ?_) (fun z_2 => ?_)
      · have h := Eq.mp (if_pos z_2) h
        exact ap_sub [0] rfl (bl_X9_town_135 hc hz  hq   h)
      · have h := Eq.mp (if_neg z_2) h
        refine ap_aload_n (q := 107) hc dX9_town_106 rfl rfl 0 rfl ?_
        refine ap_callV (q := 110) (As := []) hc (ok_X9_here hg hq h) ml_RX9_53 lk_X9_here lv_X9_here hq rfl (ap_RmE hz (by decide)) rfl rfl (Nat.le_of_ble_eq_true rfl) dX9_town_107 rfl (ap_ki (fun r_3 M_4 h => ?_))
        refine ap_bipush (q := 112) hc dX9_town_110 rfl bc_59 ?_
        refine ap_icmp_ne (q := 115) (tgt := 135) hc dX9_town_112 rfl (by decide) (fun z_5 => ?_) (fun z_5 => ?_)
        · have h := Eq.mp (if_neg z_5) h
          exact ap_sub [0] rfl (bl_X9_town_135 hc hz  hq   h)
        · have h := Eq.mp (if_pos z_5) h
          refine ap_aload_n (q := 116) hc dX9_town_115 rfl rfl 0 rfl ?_
          refine ap_dup (q := 117) hc dX9_town_116 rfl rfl ?_
          refine ap_getI (q := 120) lg_RX9_43 hq hc dX9_town_117 rfl ?_
          refine ap_iconst (q := 121) hc dX9_town_120 rfl ic_1 ?_
          refine ap_iadd (q := 122) hc dX9_town_121 rfl ?_
          obtain ⟨M_6, eM_6, h⟩ := ap_nm h
          refine ap_putI (q := 125) lp_RX9_43 hq eM_6 hc dX9_town_122 rfl ?_
          refine ap_aload_n (q := 126) hc dX9_town_125 rfl rfl 0 rfl ?_
          refine ap_callV (q := 129) (As := []) hc (ok_X9_clauseHere hg hq h) ml_RX9_116 lk_X9_clauseHere lv_X9_clauseHere hq rfl (ap_RmE hz (by decide)) rfl rfl (Nat.le_of_ble_eq_true rfl) dX9_town_126 rfl (ap_kv (fun M_7 h => ?_))
          obtain ⟨x1_8, ex1_8, h⟩ := ap_nm h
          refine ap_iinc (q := 132) (lo2 := [(1, .int x1_8), (0, .ref (ap_ad g q))]) hc dX9_town_129 rfl 1 rfl (by rw [ex1_8]; rfl) (by decide) rfl ?_
          refine ap_goto (q := 93) hc dX9_town_132 (by decide) ?_
          exact ap_sub [1, 0] rfl (ih _ _ h)
def w_X9_town   (q : Nat)  (M : ap_Mem) (K : Int32 → ap_Mem → Prop) : Prop :=
vp_in 31 936 ∧ (if (M (q + 1) (31 : Int32).toNatClampNeg) = 5 then (K (-4) M) else (vp_in 31 936 ∧ ∀ M_4 : ap_Mem, M_4 = ap_mu M q 5 (M (q + 1) (31 : Int32).toNatClampNeg) → vp_in 36 936 ∧ ∀ M_6 : ap_Mem, M_6 = ap_mu M_4 q 7 (M_4 (q + 1) (36 : Int32).toNatClampNeg) → vp_in 36 936 ∧ ∀ M_8 : ap_Mem, M_8 = ap_mu M_6 (q + 1) (36 : Int32).toNatClampNeg 0 → vp_in (226 + (M_8 q 5)) 936 ∧ ∀ M_10 : ap_Mem, M_10 = ap_mu M_8 (q + 1) (226 + (M_8 q 5)).toNatClampNeg 2 → vp_in (231 + (M_10 q 5)) 936 ∧ ∀ M_12 : ap_Mem, M_12 = ap_mu M_10 (q + 1) (231 + (M_10 q 5)).toNatClampNeg 0 → ∀ M_13 : ap_Mem, M_13 = ap_mu M_12 q 6 0 → ∀ M_14 : ap_Mem, M_14 = ap_mu M_13 q 8 0 → ∀ M_15 : ap_Mem, M_15 = ap_mu M_14 q 9 0 → w_X9_clauseHere q M_15 (fun M_16 => w_X9_town_93   q K 4096 1 M_16)))
theorem bl_X9_town_0 {x : ap_X} {g : ap_G} (hc : ap_Cx x g cX9_town RX9 2) {K : Int32 → ap_Mem → Prop} (hz : ap_Ends x g 38 (some .int) (ap_Qi K))   {q : Nat} (hq : ap_kd q = 9)    {M : ap_Mem}  (h : w_X9_town   q  M K) : ap_V x g 2 0 [(0, .ref (ap_ad g q))] [] M := by
  have hg := hc.2.2.2.2.2.2.2.1
  unfold w_X9_town at h
  refine ap_aload_n (q := 1) hc dX9_town_0 rfl rfl 0 rfl ?_
  refine ap_getR (q := 4) (r := q + 1) lg_RX9_9 (by decide) hq rfl hc dX9_town_1 rfl ?_
  refine ap_bipush (q := 6) hc dX9_town_4 rfl bc_31 ?_
  obtain ⟨g_1, h⟩ := h
  refine ap_iald (q := 7) (ty_9_1 hq) (tn_9_1 hq) g_1 hc dX9_town_6 rfl ?_
  refine ap_iconst (q := 8) hc dX9_town_7 rfl ic_5 ?_
  refine ap_icmp_ne (q := 11) (tgt := 14) hc dX9_town_8 rfl (by decide) (fun z_2 => ?_) (fun z_2 => ?_)
  · have h := Eq.mp (if_neg z_2) h
    refine ap_aload_n (q := 15) hc dX9_town_14 rfl rfl 0 rfl ?_
    refine ap_aload_n (q := 16) hc dX9_town_15 rfl rfl 0 rfl ?_
    refine ap_getR (q := 19) (r := q + 1) lg_RX9_9 (by decide) hq rfl hc dX9_town_16 rfl ?_
    refine ap_bipush (q := 21) hc dX9_town_19 rfl bc_31 ?_
    obtain ⟨g_3, h⟩ := h
    refine ap_iald (q := 22) (ty_9_1 hq) (tn_9_1 hq) g_3 hc dX9_town_21 rfl ?_
    obtain ⟨M_4, eM_4, h⟩ := ap_nm h
    refine ap_putI (q := 25) lp_RX9_70 hq eM_4 hc dX9_town_22 rfl ?_
    refine ap_aload_n (q := 26) hc dX9_town_25 rfl rfl 0 rfl ?_
    refine ap_aload_n (q := 27) hc dX9_town_26 rfl rfl 0 rfl ?_
    refine ap_getR (q := 30) (r := q + 1) lg_RX9_9 (by decide) hq rfl hc dX9_town_27 rfl ?_
    refine ap_bipush (q := 32) hc dX9_town_30 rfl bc_36 ?_
    obtain ⟨g_5, h⟩ := h
    refine ap_iald (q := 33) (ty_9_1 hq) (tn_9_1 hq) g_5 hc dX9_town_32 rfl ?_
    obtain ⟨M_6, eM_6, h⟩ := ap_nm h
    refine ap_putI (q := 36) lp_RX9_46 hq eM_6 hc dX9_town_33 rfl ?_
    refine ap_aload_n (q := 37) hc dX9_town_36 rfl rfl 0 rfl ?_
    refine ap_getR (q := 40) (r := q + 1) lg_RX9_9 (by decide) hq rfl hc dX9_town_37 rfl ?_
    refine ap_bipush (q := 42) hc dX9_town_40 rfl bc_36 ?_
    refine ap_iconst (q := 43) hc dX9_town_42 rfl ic_0 ?_
    obtain ⟨g_7, h⟩ := h
    obtain ⟨M_8, eM_8, h⟩ := ap_nm h
    refine ap_iast (q := 44) (ty_9_1 hq) (tn_9_1 hq) g_7 eM_8 hc dX9_town_43 rfl ?_
    refine ap_aload_n (q := 45) hc dX9_town_44 rfl rfl 0 rfl ?_
    refine ap_getR (q := 48) (r := q + 1) lg_RX9_9 (by decide) hq rfl hc dX9_town_45 rfl ?_
    refine ap_sipush (q := 51) hc dX9_town_48 rfl sc_226 ?_
    refine ap_aload_n (q := 52) hc dX9_town_51 rfl rfl 0 rfl ?_
    refine ap_getI (q := 55) lg_RX9_70 hq hc dX9_town_52 rfl ?_
    refine ap_iadd (q := 56) hc dX9_town_55 rfl ?_
    refine ap_iconst (q := 57) hc dX9_town_56 rfl ic_2 ?_
    obtain ⟨g_9, h⟩ := h
    obtain ⟨M_10, eM_10, h⟩ := ap_nm h
    refine ap_iast (q := 58) (ty_9_1 hq) (tn_9_1 hq) g_9 eM_10 hc dX9_town_57 rfl ?_
    refine ap_aload_n (q := 59) hc dX9_town_58 rfl rfl 0 rfl ?_
    refine ap_getR (q := 62) (r := q + 1) lg_RX9_9 (by decide) hq rfl hc dX9_town_59 rfl ?_
    refine ap_sipush (q := 65) hc dX9_town_62 rfl sc_231 ?_
    refine ap_aload_n (q := 66) hc dX9_town_65 rfl rfl 0 rfl ?_
    refine ap_getI (q := 69) lg_RX9_70 hq hc dX9_town_66 rfl ?_
    refine ap_iadd (q := 70) hc dX9_town_69 rfl ?_
    refine ap_iconst (q := 71) hc dX9_town_70 rfl ic_0 ?_
    obtain ⟨g_11, h⟩ := h
    obtain ⟨M_12, eM_12, h⟩ := ap_nm h
    refine ap_iast (q := 72) (ty_9_1 hq) (tn_9_1 hq) g_11 eM_12 hc dX9_town_71 rfl ?_
    refine ap_aload_n (q := 73) hc dX9_town_72 rfl rfl 0 rfl ?_
    refine ap_iconst (q := 74) hc dX9_town_73 rfl ic_0 ?_
    obtain ⟨M_13, eM_13, h⟩ := ap_nm h
    refine ap_putI (q := 77) lp_RX9_43 hq eM_13 hc dX9_town_74 rfl ?_
    refine ap_aload_n (q := 78) hc dX9_town_77 rfl rfl 0 rfl ?_
    refine ap_iconst (q := 79) hc dX9_town_78 rfl ic_0 ?_
    obtain ⟨M_14, eM_14, h⟩ := ap_nm h
    refine ap_putZ (q := 82) lp_RX9_49 hq ap_B0 eM_14 hc dX9_town_79 rfl ?_
    refine ap_aload_n (q := 83) hc dX9_town_82 rfl rfl 0 rfl ?_
    refine ap_iconst (q := 84) hc dX9_town_83 rfl ic_0 ?_
    obtain ⟨M_15, eM_15, h⟩ := ap_nm h
    refine ap_putI (q := 87) lp_RX9_73 hq eM_15 hc dX9_town_84 rfl ?_
    refine ap_iconst (q := 88) hc dX9_town_87 rfl ic_1 ?_
    refine ap_istore_n (q := 89) (lo2 := [(1, .int 1), (0, .ref (ap_ad g q))]) hc dX9_town_88 rfl rfl rfl (by decide) rfl ?_
    refine ap_aload_n (q := 90) hc dX9_town_89 rfl rfl 1 rfl ?_
    refine ap_callV (q := 93) (As := []) hc (ok_X9_clauseHere hg hq h) ml_RX9_116 lk_X9_clauseHere lv_X9_clauseHere hq rfl (ap_RmE hz (by decide)) rfl rfl (Nat.le_of_ble_eq_true rfl) dX9_town_90 rfl (ap_kv (fun M_16 h => ?_))
    exact ap_sub [1, 0] rfl (bl_X9_town_93 hc hz  hq  _ _ _ h)
  · have h := Eq.mp (if_pos z_2) h
    refine ap_bipush (q := 13) hc dX9_town_11 rfl bc_m4 ?_
    exact ap_iret hc hz rfl dX9_town_13 h
theorem ok_X9_town {l : Launch} {g : ap_G} (hg : ap_GOK g) {q : Nat} (hq : ap_kd q = 9)  {M : ap_Mem} {K : Int32 → ap_Mem → Prop} (h : w_X9_town q  M K) : ap_Ct l g yX9_town cX9_town 2 (some .int) 38 [.ref (ap_ad g q)] M (ap_Qi K) := by
  refine ap_Ct_of hg (by decide +kernel) (Nat.le_of_ble_eq_true rfl) (fun x hx hc hz => ?_)
  subst hx
  exact bl_X9_town_0 hc hz hq h
