theorem dX7_begin_0 : decode cX7_begin 0 = .ok (.aload_n 0, 1) := by decide +kernel
theorem dX7_begin_1 : decode cX7_begin 1 = .ok (.getfield 24, 3) := by decide +kernel
theorem dX7_begin_4 : decode cX7_begin 4 = .ok (.bipush 10, 2) := by decide +kernel
theorem dX7_begin_6 : decode cX7_begin 6 = .ok (.if_icmp .lt 4, 3) := by decide +kernel
theorem dX7_begin_9 : decode cX7_begin 9 = .ok (.return_, 1) := by decide +kernel
theorem dX7_begin_10 : decode cX7_begin 10 = .ok (.aload_n 0, 1) := by decide +kernel
theorem dX7_begin_11 : decode cX7_begin 11 = .ok (.getfield 11, 3) := by decide +kernel
theorem dX7_begin_14 : decode cX7_begin 14 = .ok (.aload_n 0, 1) := by decide +kernel
theorem dX7_begin_15 : decode cX7_begin 15 = .ok (.getfield 24, 3) := by decide +kernel
theorem dX7_begin_18 : decode cX7_begin 18 = .ok (.iload_n 1, 1) := by decide +kernel
theorem dX7_begin_19 : decode cX7_begin 19 = .ok (.iastore, 1) := by decide +kernel
theorem dX7_begin_20 : decode cX7_begin 20 = .ok (.aload_n 0, 1) := by decide +kernel
theorem dX7_begin_21 : decode cX7_begin 21 = .ok (.getfield 15, 3) := by decide +kernel
theorem dX7_begin_24 : decode cX7_begin 24 = .ok (.aload_n 0, 1) := by decide +kernel
theorem dX7_begin_25 : decode cX7_begin 25 = .ok (.getfield 24, 3) := by decide +kernel
theorem dX7_begin_28 : decode cX7_begin 28 = .ok (.iload_n 2, 1) := by decide +kernel
theorem dX7_begin_29 : decode cX7_begin 29 = .ok (.iastore, 1) := by decide +kernel
theorem dX7_begin_30 : decode cX7_begin 30 = .ok (.aload_n 0, 1) := by decide +kernel
theorem dX7_begin_31 : decode cX7_begin 31 = .ok (.getfield 18, 3) := by decide +kernel
theorem dX7_begin_34 : decode cX7_begin 34 = .ok (.aload_n 0, 1) := by decide +kernel
theorem dX7_begin_35 : decode cX7_begin 35 = .ok (.getfield 24, 3) := by decide +kernel
theorem dX7_begin_38 : decode cX7_begin 38 = .ok (.aload_n 0, 1) := by decide +kernel
theorem dX7_begin_39 : decode cX7_begin 39 = .ok (.getfield 28, 3) := by decide +kernel
theorem dX7_begin_42 : decode cX7_begin 42 = .ok (.iastore, 1) := by decide +kernel
theorem dX7_begin_43 : decode cX7_begin 43 = .ok (.aload_n 0, 1) := by decide +kernel
theorem dX7_begin_44 : decode cX7_begin 44 = .ok (.dup, 1) := by decide +kernel
theorem dX7_begin_45 : decode cX7_begin 45 = .ok (.getfield 24, 3) := by decide +kernel
theorem dX7_begin_48 : decode cX7_begin 48 = .ok (.iconst 1, 1) := by decide +kernel
theorem dX7_begin_49 : decode cX7_begin 49 = .ok (.iadd, 1) := by decide +kernel
theorem dX7_begin_50 : decode cX7_begin 50 = .ok (.putfield 24, 3) := by decide +kernel
theorem dX7_begin_53 : decode cX7_begin 53 = .ok (.iload_n 1, 1) := by decide +kernel
theorem dX7_begin_54 : decode cX7_begin 54 = .ok (.ifCond .ne 8, 3) := by decide +kernel
theorem dX7_begin_57 : decode cX7_begin 57 = .ok (.aload_n 0, 1) := by decide +kernel
theorem dX7_begin_58 : decode cX7_begin 58 = .ok (.iload_n 2, 1) := by decide +kernel
theorem dX7_begin_59 : decode cX7_begin 59 = .ok (.putfield 31, 3) := by decide +kernel
theorem dX7_begin_62 : decode cX7_begin 62 = .ok (.return_, 1) := by decide +kernel
theorem dX7_clear_0 : decode cX7_clear 0 = .ok (.aload_n 0, 1) := by decide +kernel
theorem dX7_clear_1 : decode cX7_clear 1 = .ok (.iconst 0, 1) := by decide +kernel
theorem dX7_clear_2 : decode cX7_clear 2 = .ok (.putfield 24, 3) := by decide +kernel
theorem dX7_clear_5 : decode cX7_clear 5 = .ok (.aload_n 0, 1) := by decide +kernel
theorem dX7_clear_6 : decode cX7_clear 6 = .ok (.iconst 0, 1) := by decide +kernel
theorem dX7_clear_7 : decode cX7_clear 7 = .ok (.putfield 28, 3) := by decide +kernel
theorem dX7_clear_10 : decode cX7_clear 10 = .ok (.aload_n 0, 1) := by decide +kernel
theorem dX7_clear_11 : decode cX7_clear 11 = .ok (.iconst 2, 1) := by decide +kernel
theorem dX7_clear_12 : decode cX7_clear 12 = .ok (.putfield 31, 3) := by decide +kernel
theorem dX7_clear_15 : decode cX7_clear 15 = .ok (.aload_n 0, 1) := by decide +kernel
theorem dX7_clear_16 : decode cX7_clear 16 = .ok (.iconst 0, 1) := by decide +kernel
theorem dX7_clear_17 : decode cX7_clear 17 = .ok (.putfield 34, 3) := by decide +kernel
theorem dX7_clear_20 : decode cX7_clear 20 = .ok (.return_, 1) := by decide +kernel
theorem dX7_copyFrom_0 : decode cX7_copyFrom 0 = .ok (.aload_n 1, 1) := by decide +kernel
theorem dX7_copyFrom_1 : decode cX7_copyFrom 1 = .ok (.getfield 11, 3) := by decide +kernel
theorem dX7_copyFrom_4 : decode cX7_copyFrom 4 = .ok (.iconst 0, 1) := by decide +kernel
theorem dX7_copyFrom_5 : decode cX7_copyFrom 5 = .ok (.aload_n 0, 1) := by decide +kernel
theorem dX7_copyFrom_6 : decode cX7_copyFrom 6 = .ok (.getfield 11, 3) := by decide +kernel
theorem dX7_copyFrom_9 : decode cX7_copyFrom 9 = .ok (.iconst 0, 1) := by decide +kernel
theorem dX7_copyFrom_10 : decode cX7_copyFrom 10 = .ok (.bipush 10, 2) := by decide +kernel
theorem dX7_copyFrom_12 : decode cX7_copyFrom 12 = .ok (.invokestatic 51, 3) := by decide +kernel
theorem dX7_copyFrom_15 : decode cX7_copyFrom 15 = .ok (.aload_n 1, 1) := by decide +kernel
theorem dX7_copyFrom_16 : decode cX7_copyFrom 16 = .ok (.getfield 15, 3) := by decide +kernel
theorem dX7_copyFrom_19 : decode cX7_copyFrom 19 = .ok (.iconst 0, 1) := by decide +kernel
theorem dX7_copyFrom_20 : decode cX7_copyFrom 20 = .ok (.aload_n 0, 1) := by decide +kernel
theorem dX7_copyFrom_21 : decode cX7_copyFrom 21 = .ok (.getfield 15, 3) := by decide +kernel
theorem dX7_copyFrom_24 : decode cX7_copyFrom 24 = .ok (.iconst 0, 1) := by decide +kernel
theorem dX7_copyFrom_25 : decode cX7_copyFrom 25 = .ok (.bipush 10, 2) := by decide +kernel
theorem dX7_copyFrom_27 : decode cX7_copyFrom 27 = .ok (.invokestatic 51, 3) := by decide +kernel
theorem dX7_copyFrom_30 : decode cX7_copyFrom 30 = .ok (.aload_n 1, 1) := by decide +kernel
theorem dX7_copyFrom_31 : decode cX7_copyFrom 31 = .ok (.getfield 18, 3) := by decide +kernel
theorem dX7_copyFrom_34 : decode cX7_copyFrom 34 = .ok (.iconst 0, 1) := by decide +kernel
theorem dX7_copyFrom_35 : decode cX7_copyFrom 35 = .ok (.aload_n 0, 1) := by decide +kernel
theorem dX7_copyFrom_36 : decode cX7_copyFrom 36 = .ok (.getfield 18, 3) := by decide +kernel
theorem dX7_copyFrom_39 : decode cX7_copyFrom 39 = .ok (.iconst 0, 1) := by decide +kernel
theorem dX7_copyFrom_40 : decode cX7_copyFrom 40 = .ok (.bipush 10, 2) := by decide +kernel
theorem dX7_copyFrom_42 : decode cX7_copyFrom 42 = .ok (.invokestatic 51, 3) := by decide +kernel
theorem dX7_copyFrom_45 : decode cX7_copyFrom 45 = .ok (.aload_n 1, 1) := by decide +kernel
theorem dX7_copyFrom_46 : decode cX7_copyFrom 46 = .ok (.getfield 21, 3) := by decide +kernel
theorem dX7_copyFrom_49 : decode cX7_copyFrom 49 = .ok (.iconst 0, 1) := by decide +kernel
theorem dX7_copyFrom_50 : decode cX7_copyFrom 50 = .ok (.aload_n 0, 1) := by decide +kernel
theorem dX7_copyFrom_51 : decode cX7_copyFrom 51 = .ok (.getfield 21, 3) := by decide +kernel
theorem dX7_copyFrom_54 : decode cX7_copyFrom 54 = .ok (.iconst 0, 1) := by decide +kernel
theorem dX7_copyFrom_55 : decode cX7_copyFrom 55 = .ok (.bipush 100, 2) := by decide +kernel
theorem dX7_copyFrom_57 : decode cX7_copyFrom 57 = .ok (.invokestatic 51, 3) := by decide +kernel
theorem dX7_copyFrom_60 : decode cX7_copyFrom 60 = .ok (.aload_n 0, 1) := by decide +kernel
theorem dX7_copyFrom_61 : decode cX7_copyFrom 61 = .ok (.aload_n 1, 1) := by decide +kernel
theorem dX7_copyFrom_62 : decode cX7_copyFrom 62 = .ok (.getfield 24, 3) := by decide +kernel
theorem dX7_copyFrom_65 : decode cX7_copyFrom 65 = .ok (.putfield 24, 3) := by decide +kernel
theorem dX7_copyFrom_68 : decode cX7_copyFrom 68 = .ok (.aload_n 0, 1) := by decide +kernel
theorem dX7_copyFrom_69 : decode cX7_copyFrom 69 = .ok (.aload_n 1, 1) := by decide +kernel
theorem dX7_copyFrom_70 : decode cX7_copyFrom 70 = .ok (.getfield 28, 3) := by decide +kernel
theorem dX7_copyFrom_73 : decode cX7_copyFrom 73 = .ok (.putfield 28, 3) := by decide +kernel
theorem dX7_copyFrom_76 : decode cX7_copyFrom 76 = .ok (.aload_n 0, 1) := by decide +kernel
theorem dX7_copyFrom_77 : decode cX7_copyFrom 77 = .ok (.aload_n 1, 1) := by decide +kernel
theorem dX7_copyFrom_78 : decode cX7_copyFrom 78 = .ok (.getfield 31, 3) := by decide +kernel
theorem dX7_copyFrom_81 : decode cX7_copyFrom 81 = .ok (.putfield 31, 3) := by decide +kernel
theorem dX7_copyFrom_84 : decode cX7_copyFrom 84 = .ok (.aload_n 0, 1) := by decide +kernel
theorem dX7_copyFrom_85 : decode cX7_copyFrom 85 = .ok (.aload_n 1, 1) := by decide +kernel
theorem dX7_copyFrom_86 : decode cX7_copyFrom 86 = .ok (.getfield 34, 3) := by decide +kernel
theorem dX7_copyFrom_89 : decode cX7_copyFrom 89 = .ok (.putfield 34, 3) := by decide +kernel
theorem dX7_copyFrom_92 : decode cX7_copyFrom 92 = .ok (.return_, 1) := by decide +kernel
theorem dX7_put_0 : decode cX7_put 0 = .ok (.aload_n 0, 1) := by decide +kernel
theorem dX7_put_1 : decode cX7_put 1 = .ok (.getfield 28, 3) := by decide +kernel
theorem dX7_put_4 : decode cX7_put 4 = .ok (.bipush 100, 2) := by decide +kernel
theorem dX7_put_6 : decode cX7_put 6 = .ok (.if_icmp .ge 23, 3) := by decide +kernel
theorem dX7_put_9 : decode cX7_put 9 = .ok (.aload_n 0, 1) := by decide +kernel
theorem dX7_put_10 : decode cX7_put 10 = .ok (.getfield 21, 3) := by decide +kernel
theorem dX7_put_13 : decode cX7_put 13 = .ok (.aload_n 0, 1) := by decide +kernel
theorem dX7_put_14 : decode cX7_put 14 = .ok (.getfield 28, 3) := by decide +kernel
theorem dX7_put_17 : decode cX7_put 17 = .ok (.iload_n 1, 1) := by decide +kernel
theorem dX7_put_18 : decode cX7_put 18 = .ok (.iastore, 1) := by decide +kernel
theorem dX7_put_19 : decode cX7_put 19 = .ok (.aload_n 0, 1) := by decide +kernel
theorem dX7_put_20 : decode cX7_put 20 = .ok (.dup, 1) := by decide +kernel
theorem dX7_put_21 : decode cX7_put 21 = .ok (.getfield 28, 3) := by decide +kernel
theorem dX7_put_24 : decode cX7_put 24 = .ok (.iconst 1, 1) := by decide +kernel
theorem dX7_put_25 : decode cX7_put 25 = .ok (.iadd, 1) := by decide +kernel
theorem dX7_put_26 : decode cX7_put 26 = .ok (.putfield 28, 3) := by decide +kernel
theorem dX7_put_29 : decode cX7_put 29 = .ok (.return_, 1) := by decide +kernel
theorem dX7_putTest_0 : decode cX7_putTest 0 = .ok (.aload_n 0, 1) := by decide +kernel
theorem dX7_putTest_1 : decode cX7_putTest 1 = .ok (.aload_n 0, 1) := by decide +kernel
theorem dX7_putTest_2 : decode cX7_putTest 2 = .ok (.getfield 34, 3) := by decide +kernel
theorem dX7_putTest_5 : decode cX7_putTest 5 = .ok (.ifCond .ne 8, 3) := by decide +kernel
theorem dX7_putTest_8 : decode cX7_putTest 8 = .ok (.iload_n 1, 1) := by decide +kernel
theorem dX7_putTest_9 : decode cX7_putTest 9 = .ok (.iconst 5, 1) := by decide +kernel
theorem dX7_putTest_10 : decode cX7_putTest 10 = .ok (.if_icmp .ne 7, 3) := by decide +kernel
theorem dX7_putTest_13 : decode cX7_putTest 13 = .ok (.iconst 1, 1) := by decide +kernel
theorem dX7_putTest_14 : decode cX7_putTest 14 = .ok (.goto 4, 3) := by decide +kernel
theorem dX7_putTest_17 : decode cX7_putTest 17 = .ok (.iconst 0, 1) := by decide +kernel
theorem dX7_putTest_18 : decode cX7_putTest 18 = .ok (.putfield 34, 3) := by decide +kernel
theorem dX7_putTest_21 : decode cX7_putTest 21 = .ok (.aload_n 0, 1) := by decide +kernel
theorem dX7_putTest_22 : decode cX7_putTest 22 = .ok (.iload_n 1, 1) := by decide +kernel
theorem dX7_putTest_23 : decode cX7_putTest 23 = .ok (.bipush 7, 2) := by decide +kernel
theorem dX7_putTest_25 : decode cX7_putTest 25 = .ok (.ishl, 1) := by decide +kernel
theorem dX7_putTest_26 : decode cX7_putTest 26 = .ok (.iload_n 2, 1) := by decide +kernel
theorem dX7_putTest_27 : decode cX7_putTest 27 = .ok (.ior, 1) := by decide +kernel
theorem dX7_putTest_28 : decode cX7_putTest 28 = .ok (.bipush 7, 2) := by decide +kernel
theorem dX7_putTest_30 : decode cX7_putTest 30 = .ok (.ishl, 1) := by decide +kernel
theorem dX7_putTest_31 : decode cX7_putTest 31 = .ok (.iload_n 3, 1) := by decide +kernel
theorem dX7_putTest_32 : decode cX7_putTest 32 = .ok (.ior, 1) := by decide +kernel
theorem dX7_putTest_33 : decode cX7_putTest 33 = .ok (.invokevirtual 47, 3) := by decide +kernel
theorem dX7_putTest_36 : decode cX7_putTest 36 = .ok (.return_, 1) := by decide +kernel
theorem dX7_weigh_0 : decode cX7_weigh 0 = .ok (.iconst 0, 1) := by decide +kernel
theorem dX7_weigh_1 : decode cX7_weigh 1 = .ok (.istore 4, 2) := by decide +kernel
theorem dX7_weigh_3 : decode cX7_weigh 3 = .ok (.iload 4, 2) := by decide +kernel
theorem dX7_weigh_5 : decode cX7_weigh 5 = .ok (.bipush 16, 2) := by decide +kernel
theorem dX7_weigh_7 : decode cX7_weigh 7 = .ok (.if_icmp .ge 36, 3) := by decide +kernel
theorem dX7_weigh_10 : decode cX7_weigh 10 = .ok (.aload_n 0, 1) := by decide +kernel
theorem dX7_weigh_11 : decode cX7_weigh 11 = .ok (.getfield 41, 3) := by decide +kernel
theorem dX7_weigh_14 : decode cX7_weigh 14 = .ok (.iload 4, 2) := by decide +kernel
theorem dX7_weigh_16 : decode cX7_weigh 16 = .ok (.bipush 6, 2) := by decide +kernel
theorem dX7_weigh_18 : decode cX7_weigh 18 = .ok (.iastore, 1) := by decide +kernel
theorem dX7_weigh_19 : decode cX7_weigh 19 = .ok (.aload_n 0, 1) := by decide +kernel
theorem dX7_weigh_20 : decode cX7_weigh 20 = .ok (.getfield 44, 3) := by decide +kernel
theorem dX7_weigh_23 : decode cX7_weigh 23 = .ok (.iload 4, 2) := by decide +kernel
theorem dX7_weigh_25 : decode cX7_weigh 25 = .ok (.aload_n 1, 1) := by decide +kernel
theorem dX7_weigh_26 : decode cX7_weigh 26 = .ok (.getfield 57, 3) := by decide +kernel
theorem dX7_weigh_29 : decode cX7_weigh 29 = .ok (.iload_n 2, 1) := by decide +kernel
theorem dX7_weigh_30 : decode cX7_weigh 30 = .ok (.iaload, 1) := by decide +kernel
theorem dX7_weigh_31 : decode cX7_weigh 31 = .ok (.iload 4, 2) := by decide +kernel
theorem dX7_weigh_33 : decode cX7_weigh 33 = .ok (.invokestatic 62, 3) := by decide +kernel
theorem dX7_weigh_36 : decode cX7_weigh 36 = .ok (.iastore, 1) := by decide +kernel
theorem dX7_weigh_37 : decode cX7_weigh 37 = .ok (.iinc 4 1, 3) := by decide +kernel
theorem dX7_weigh_40 : decode cX7_weigh 40 = .ok (.goto (-37), 3) := by decide +kernel
theorem dX7_weigh_43 : decode cX7_weigh 43 = .ok (.iconst 0, 1) := by decide +kernel
theorem dX7_weigh_44 : decode cX7_weigh 44 = .ok (.istore 4, 2) := by decide +kernel
theorem dX7_weigh_46 : decode cX7_weigh 46 = .ok (.iload 4, 2) := by decide +kernel
theorem dX7_weigh_48 : decode cX7_weigh 48 = .ok (.aload_n 0, 1) := by decide +kernel
theorem dX7_weigh_49 : decode cX7_weigh 49 = .ok (.getfield 24, 3) := by decide +kernel
theorem dX7_weigh_52 : decode cX7_weigh 52 = .ok (.if_icmp .ge 101, 3) := by decide +kernel
theorem dX7_weigh_55 : decode cX7_weigh 55 = .ok (.aload_n 0, 1) := by decide +kernel
theorem dX7_weigh_56 : decode cX7_weigh 56 = .ok (.getfield 11, 3) := by decide +kernel
theorem dX7_weigh_59 : decode cX7_weigh 59 = .ok (.iload 4, 2) := by decide +kernel
theorem dX7_weigh_61 : decode cX7_weigh 61 = .ok (.iaload, 1) := by decide +kernel
theorem dX7_weigh_62 : decode cX7_weigh 62 = .ok (.iconst 1, 1) := by decide +kernel
theorem dX7_weigh_63 : decode cX7_weigh 63 = .ok (.if_icmp .ne 13, 3) := by decide +kernel
theorem dX7_weigh_66 : decode cX7_weigh 66 = .ok (.aload_n 0, 1) := by decide +kernel
theorem dX7_weigh_67 : decode cX7_weigh 67 = .ok (.getfield 15, 3) := by decide +kernel
theorem dX7_weigh_70 : decode cX7_weigh 70 = .ok (.iload 4, 2) := by decide +kernel
theorem dX7_weigh_72 : decode cX7_weigh 72 = .ok (.iaload, 1) := by decide +kernel
theorem dX7_weigh_73 : decode cX7_weigh 73 = .ok (.goto 11, 3) := by decide +kernel
theorem dX7_weigh_76 : decode cX7_weigh 76 = .ok (.aload_n 0, 1) := by decide +kernel
theorem dX7_weigh_77 : decode cX7_weigh 77 = .ok (.getfield 15, 3) := by decide +kernel
theorem dX7_weigh_80 : decode cX7_weigh 80 = .ok (.iload 4, 2) := by decide +kernel
theorem dX7_weigh_82 : decode cX7_weigh 82 = .ok (.iaload, 1) := by decide +kernel
theorem dX7_weigh_83 : decode cX7_weigh 83 = .ok (.ineg, 1) := by decide +kernel
theorem dX7_weigh_84 : decode cX7_weigh 84 = .ok (.istore 5, 2) := by decide +kernel
theorem dX7_weigh_86 : decode cX7_weigh 86 = .ok (.aload_n 0, 1) := by decide +kernel
theorem dX7_weigh_87 : decode cX7_weigh 87 = .ok (.getfield 11, 3) := by decide +kernel
theorem dX7_weigh_90 : decode cX7_weigh 90 = .ok (.iload 4, 2) := by decide +kernel
theorem dX7_weigh_92 : decode cX7_weigh 92 = .ok (.iaload, 1) := by decide +kernel
theorem dX7_weigh_93 : decode cX7_weigh 93 = .ok (.ifCond .ne 7, 3) := by decide +kernel
theorem dX7_weigh_96 : decode cX7_weigh 96 = .ok (.iconst 0, 1) := by decide +kernel
theorem dX7_weigh_97 : decode cX7_weigh 97 = .ok (.goto 12, 3) := by decide +kernel
theorem dX7_weigh_100 : decode cX7_weigh 100 = .ok (.aload_n 0, 1) := by decide +kernel
theorem dX7_weigh_101 : decode cX7_weigh 101 = .ok (.iload 4, 2) := by decide +kernel
theorem dX7_weigh_103 : decode cX7_weigh 103 = .ok (.aload_n 1, 1) := by decide +kernel
theorem dX7_weigh_104 : decode cX7_weigh 104 = .ok (.iload_n 2, 1) := by decide +kernel
theorem dX7_weigh_105 : decode cX7_weigh 105 = .ok (.iload_n 3, 1) := by decide +kernel
theorem dX7_weigh_106 : decode cX7_weigh 106 = .ok (.invokevirtual 66, 3) := by decide +kernel
theorem dX7_weigh_109 : decode cX7_weigh 109 = .ok (.istore 6, 2) := by decide +kernel
theorem dX7_weigh_111 : decode cX7_weigh 111 = .ok (.iconst 0, 1) := by decide +kernel
theorem dX7_weigh_112 : decode cX7_weigh 112 = .ok (.istore 7, 2) := by decide +kernel
theorem dX7_weigh_114 : decode cX7_weigh 114 = .ok (.iload 7, 2) := by decide +kernel
theorem dX7_weigh_116 : decode cX7_weigh 116 = .ok (.bipush 16, 2) := by decide +kernel
theorem dX7_weigh_118 : decode cX7_weigh 118 = .ok (.if_icmp .ge 29, 3) := by decide +kernel
theorem dX7_weigh_121 : decode cX7_weigh 121 = .ok (.aload_n 0, 1) := by decide +kernel
theorem dX7_weigh_122 : decode cX7_weigh 122 = .ok (.getfield 41, 3) := by decide +kernel
theorem dX7_weigh_125 : decode cX7_weigh 125 = .ok (.iload 7, 2) := by decide +kernel
theorem dX7_weigh_127 : decode cX7_weigh 127 = .ok (.dup2, 1) := by decide +kernel
theorem dX7_weigh_128 : decode cX7_weigh 128 = .ok (.iaload, 1) := by decide +kernel
theorem dX7_weigh_129 : decode cX7_weigh 129 = .ok (.iload 6, 2) := by decide +kernel
theorem dX7_weigh_131 : decode cX7_weigh 131 = .ok (.iload 7, 2) := by decide +kernel
theorem dX7_weigh_133 : decode cX7_weigh 133 = .ok (.ishr, 1) := by decide +kernel
theorem dX7_weigh_134 : decode cX7_weigh 134 = .ok (.iconst 1, 1) := by decide +kernel
theorem dX7_weigh_135 : decode cX7_weigh 135 = .ok (.iand, 1) := by decide +kernel
theorem dX7_weigh_136 : decode cX7_weigh 136 = .ok (.iload 5, 2) := by decide +kernel
theorem dX7_weigh_138 : decode cX7_weigh 138 = .ok (.imul, 1) := by decide +kernel
theorem dX7_weigh_139 : decode cX7_weigh 139 = .ok (.iadd, 1) := by decide +kernel
theorem dX7_weigh_140 : decode cX7_weigh 140 = .ok (.iastore, 1) := by decide +kernel
theorem dX7_weigh_141 : decode cX7_weigh 141 = .ok (.iinc 7 1, 3) := by decide +kernel
theorem dX7_weigh_144 : decode cX7_weigh 144 = .ok (.goto (-30), 3) := by decide +kernel
theorem dX7_weigh_147 : decode cX7_weigh 147 = .ok (.iinc 4 1, 3) := by decide +kernel
theorem dX7_weigh_150 : decode cX7_weigh 150 = .ok (.goto (-104), 3) := by decide +kernel
theorem dX7_weigh_153 : decode cX7_weigh 153 = .ok (.return_, 1) := by decide +kernel
theorem dX7_whereHolds_0 : decode cX7_whereHolds 0 = .ok (.iload_n 1, 1) := by decide +kernel
theorem dX7_whereHolds_1 : decode cX7_whereHolds 1 = .ok (.iconst 1, 1) := by decide +kernel
theorem dX7_whereHolds_2 : decode cX7_whereHolds 2 = .ok (.iadd, 1) := by decide +kernel
theorem dX7_whereHolds_3 : decode cX7_whereHolds 3 = .ok (.aload_n 0, 1) := by decide +kernel
theorem dX7_whereHolds_4 : decode cX7_whereHolds 4 = .ok (.getfield 24, 3) := by decide +kernel
theorem dX7_whereHolds_7 : decode cX7_whereHolds 7 = .ok (.if_icmp .ge 14, 3) := by decide +kernel
theorem dX7_whereHolds_10 : decode cX7_whereHolds 10 = .ok (.aload_n 0, 1) := by decide +kernel
theorem dX7_whereHolds_11 : decode cX7_whereHolds 11 = .ok (.getfield 18, 3) := by decide +kernel
theorem dX7_whereHolds_14 : decode cX7_whereHolds 14 = .ok (.iload_n 1, 1) := by decide +kernel
theorem dX7_whereHolds_15 : decode cX7_whereHolds 15 = .ok (.iconst 1, 1) := by decide +kernel
theorem dX7_whereHolds_16 : decode cX7_whereHolds 16 = .ok (.iadd, 1) := by decide +kernel
theorem dX7_whereHolds_17 : decode cX7_whereHolds 17 = .ok (.iaload, 1) := by decide +kernel
theorem dX7_whereHolds_18 : decode cX7_whereHolds 18 = .ok (.goto 7, 3) := by decide +kernel
theorem dX7_whereHolds_21 : decode cX7_whereHolds 21 = .ok (.aload_n 0, 1) := by decide +kernel
theorem dX7_whereHolds_22 : decode cX7_whereHolds 22 = .ok (.getfield 28, 3) := by decide +kernel
theorem dX7_whereHolds_25 : decode cX7_whereHolds 25 = .ok (.istore 5, 2) := by decide +kernel
theorem dX7_whereHolds_27 : decode cX7_whereHolds 27 = .ok (.iconst 0, 1) := by decide +kernel
theorem dX7_whereHolds_28 : decode cX7_whereHolds 28 = .ok (.istore 6, 2) := by decide +kernel
theorem dX7_whereHolds_30 : decode cX7_whereHolds 30 = .ok (.aload_n 0, 1) := by decide +kernel
theorem dX7_whereHolds_31 : decode cX7_whereHolds 31 = .ok (.getfield 18, 3) := by decide +kernel
theorem dX7_whereHolds_34 : decode cX7_whereHolds 34 = .ok (.iload_n 1, 1) := by decide +kernel
theorem dX7_whereHolds_35 : decode cX7_whereHolds 35 = .ok (.iaload, 1) := by decide +kernel
theorem dX7_whereHolds_36 : decode cX7_whereHolds 36 = .ok (.istore 7, 2) := by decide +kernel
theorem dX7_whereHolds_38 : decode cX7_whereHolds 38 = .ok (.iload 7, 2) := by decide +kernel
theorem dX7_whereHolds_40 : decode cX7_whereHolds 40 = .ok (.iload 5, 2) := by decide +kernel
theorem dX7_whereHolds_42 : decode cX7_whereHolds 42 = .ok (.if_icmp .ge 152, 3) := by decide +kernel
theorem dX7_whereHolds_45 : decode cX7_whereHolds 45 = .ok (.aload_n 0, 1) := by decide +kernel
theorem dX7_whereHolds_46 : decode cX7_whereHolds 46 = .ok (.getfield 21, 3) := by decide +kernel
theorem dX7_whereHolds_49 : decode cX7_whereHolds 49 = .ok (.iload 7, 2) := by decide +kernel
theorem dX7_whereHolds_51 : decode cX7_whereHolds 51 = .ok (.iaload, 1) := by decide +kernel
theorem dX7_whereHolds_52 : decode cX7_whereHolds 52 = .ok (.istore 8, 2) := by decide +kernel
theorem dX7_whereHolds_54 : decode cX7_whereHolds 54 = .ok (.iload 8, 2) := by decide +kernel
theorem dX7_whereHolds_56 : decode cX7_whereHolds 56 = .ok (.ifCond .lt 33, 3) := by decide +kernel
theorem dX7_whereHolds_59 : decode cX7_whereHolds 59 = .ok (.iload 6, 2) := by decide +kernel
theorem dX7_whereHolds_61 : decode cX7_whereHolds 61 = .ok (.bipush 13, 2) := by decide +kernel
theorem dX7_whereHolds_63 : decode cX7_whereHolds 63 = .ok (.if_icmp .ge 26, 3) := by decide +kernel
theorem dX7_whereHolds_66 : decode cX7_whereHolds 66 = .ok (.aload_n 0, 1) := by decide +kernel
theorem dX7_whereHolds_67 : decode cX7_whereHolds 67 = .ok (.getfield 38, 3) := by decide +kernel
theorem dX7_whereHolds_70 : decode cX7_whereHolds 70 = .ok (.iload 6, 2) := by decide +kernel
theorem dX7_whereHolds_72 : decode cX7_whereHolds 72 = .ok (.aload_n 0, 1) := by decide +kernel
theorem dX7_whereHolds_73 : decode cX7_whereHolds 73 = .ok (.iload 8, 2) := by decide +kernel
theorem dX7_whereHolds_75 : decode cX7_whereHolds 75 = .ok (.aload_n 2, 1) := by decide +kernel
theorem dX7_whereHolds_76 : decode cX7_whereHolds 76 = .ok (.iload_n 3, 1) := by decide +kernel
theorem dX7_whereHolds_77 : decode cX7_whereHolds 77 = .ok (.iload 4, 2) := by decide +kernel
theorem dX7_whereHolds_79 : decode cX7_whereHolds 79 = .ok (.invokevirtual 70, 3) := by decide +kernel
theorem dX7_whereHolds_82 : decode cX7_whereHolds 82 = .ok (.iastore, 1) := by decide +kernel
theorem dX7_whereHolds_83 : decode cX7_whereHolds 83 = .ok (.iinc 6 1, 3) := by decide +kernel
theorem dX7_whereHolds_86 : decode cX7_whereHolds 86 = .ok (.goto 102, 3) := by decide +kernel
theorem dX7_whereHolds_89 : decode cX7_whereHolds 89 = .ok (.iload 8, 2) := by decide +kernel
theorem dX7_whereHolds_91 : decode cX7_whereHolds 91 = .ok (.bipush (-3), 2) := by decide +kernel
theorem dX7_whereHolds_93 : decode cX7_whereHolds 93 = .ok (.if_icmp .ne 25, 3) := by decide +kernel
theorem dX7_whereHolds_96 : decode cX7_whereHolds 96 = .ok (.iload 6, 2) := by decide +kernel
theorem dX7_whereHolds_98 : decode cX7_whereHolds 98 = .ok (.ifCond .le 20, 3) := by decide +kernel
theorem dX7_whereHolds_101 : decode cX7_whereHolds 101 = .ok (.aload_n 0, 1) := by decide +kernel
theorem dX7_whereHolds_102 : decode cX7_whereHolds 102 = .ok (.getfield 38, 3) := by decide +kernel
theorem dX7_whereHolds_105 : decode cX7_whereHolds 105 = .ok (.iload 6, 2) := by decide +kernel
theorem dX7_whereHolds_107 : decode cX7_whereHolds 107 = .ok (.iconst 1, 1) := by decide +kernel
theorem dX7_whereHolds_108 : decode cX7_whereHolds 108 = .ok (.isub, 1) := by decide +kernel
theorem dX7_whereHolds_109 : decode cX7_whereHolds 109 = .ok (.dup2, 1) := by decide +kernel
theorem dX7_whereHolds_110 : decode cX7_whereHolds 110 = .ok (.iaload, 1) := by decide +kernel
theorem dX7_whereHolds_111 : decode cX7_whereHolds 111 = .ok (.ldc 73, 2) := by decide +kernel
theorem dX7_whereHolds_113 : decode cX7_whereHolds 113 = .ok (.ixor, 1) := by decide +kernel
theorem dX7_whereHolds_114 : decode cX7_whereHolds 114 = .ok (.iastore, 1) := by decide +kernel
theorem dX7_whereHolds_115 : decode cX7_whereHolds 115 = .ok (.goto 73, 3) := by decide +kernel
theorem dX7_whereHolds_118 : decode cX7_whereHolds 118 = .ok (.iload 6, 2) := by decide +kernel
theorem dX7_whereHolds_120 : decode cX7_whereHolds 120 = .ok (.iconst 1, 1) := by decide +kernel
theorem dX7_whereHolds_121 : decode cX7_whereHolds 121 = .ok (.if_icmp .le 67, 3) := by decide +kernel
theorem dX7_whereHolds_124 : decode cX7_whereHolds 124 = .ok (.iinc 6 (-1), 3) := by decide +kernel
theorem dX7_whereHolds_127 : decode cX7_whereHolds 127 = .ok (.aload_n 0, 1) := by decide +kernel
theorem dX7_whereHolds_128 : decode cX7_whereHolds 128 = .ok (.getfield 38, 3) := by decide +kernel
theorem dX7_whereHolds_131 : decode cX7_whereHolds 131 = .ok (.iload 6, 2) := by decide +kernel
theorem dX7_whereHolds_133 : decode cX7_whereHolds 133 = .ok (.iconst 1, 1) := by decide +kernel
theorem dX7_whereHolds_134 : decode cX7_whereHolds 134 = .ok (.isub, 1) := by decide +kernel
theorem dX7_whereHolds_135 : decode cX7_whereHolds 135 = .ok (.iaload, 1) := by decide +kernel
theorem dX7_whereHolds_136 : decode cX7_whereHolds 136 = .ok (.aload_n 0, 1) := by decide +kernel
theorem dX7_whereHolds_137 : decode cX7_whereHolds 137 = .ok (.getfield 38, 3) := by decide +kernel
theorem dX7_whereHolds_140 : decode cX7_whereHolds 140 = .ok (.iload 6, 2) := by decide +kernel
theorem dX7_whereHolds_142 : decode cX7_whereHolds 142 = .ok (.iaload, 1) := by decide +kernel
theorem dX7_whereHolds_143 : decode cX7_whereHolds 143 = .ok (.iand, 1) := by decide +kernel
theorem dX7_whereHolds_144 : decode cX7_whereHolds 144 = .ok (.istore 9, 2) := by decide +kernel
theorem dX7_whereHolds_146 : decode cX7_whereHolds 146 = .ok (.aload_n 0, 1) := by decide +kernel
theorem dX7_whereHolds_147 : decode cX7_whereHolds 147 = .ok (.getfield 38, 3) := by decide +kernel
theorem dX7_whereHolds_150 : decode cX7_whereHolds 150 = .ok (.iload 6, 2) := by decide +kernel
theorem dX7_whereHolds_152 : decode cX7_whereHolds 152 = .ok (.iconst 1, 1) := by decide +kernel
theorem dX7_whereHolds_153 : decode cX7_whereHolds 153 = .ok (.isub, 1) := by decide +kernel
theorem dX7_whereHolds_154 : decode cX7_whereHolds 154 = .ok (.iaload, 1) := by decide +kernel
theorem dX7_whereHolds_155 : decode cX7_whereHolds 155 = .ok (.aload_n 0, 1) := by decide +kernel
theorem dX7_whereHolds_156 : decode cX7_whereHolds 156 = .ok (.getfield 38, 3) := by decide +kernel
theorem dX7_whereHolds_159 : decode cX7_whereHolds 159 = .ok (.iload 6, 2) := by decide +kernel
theorem dX7_whereHolds_161 : decode cX7_whereHolds 161 = .ok (.iaload, 1) := by decide +kernel
theorem dX7_whereHolds_162 : decode cX7_whereHolds 162 = .ok (.ior, 1) := by decide +kernel
theorem dX7_whereHolds_163 : decode cX7_whereHolds 163 = .ok (.istore 10, 2) := by decide +kernel
theorem dX7_whereHolds_165 : decode cX7_whereHolds 165 = .ok (.aload_n 0, 1) := by decide +kernel
theorem dX7_whereHolds_166 : decode cX7_whereHolds 166 = .ok (.getfield 38, 3) := by decide +kernel
theorem dX7_whereHolds_169 : decode cX7_whereHolds 169 = .ok (.iload 6, 2) := by decide +kernel
theorem dX7_whereHolds_171 : decode cX7_whereHolds 171 = .ok (.iconst 1, 1) := by decide +kernel
theorem dX7_whereHolds_172 : decode cX7_whereHolds 172 = .ok (.isub, 1) := by decide +kernel
theorem dX7_whereHolds_173 : decode cX7_whereHolds 173 = .ok (.iload 8, 2) := by decide +kernel
theorem dX7_whereHolds_175 : decode cX7_whereHolds 175 = .ok (.bipush (-2), 2) := by decide +kernel
theorem dX7_whereHolds_177 : decode cX7_whereHolds 177 = .ok (.if_icmp .ne 8, 3) := by decide +kernel
theorem dX7_whereHolds_180 : decode cX7_whereHolds 180 = .ok (.iload 9, 2) := by decide +kernel
theorem dX7_whereHolds_182 : decode cX7_whereHolds 182 = .ok (.goto 5, 3) := by decide +kernel
theorem dX7_whereHolds_185 : decode cX7_whereHolds 185 = .ok (.iload 10, 2) := by decide +kernel
theorem dX7_whereHolds_187 : decode cX7_whereHolds 187 = .ok (.iastore, 1) := by decide +kernel
theorem dX7_whereHolds_188 : decode cX7_whereHolds 188 = .ok (.iinc 7 1, 3) := by decide +kernel
theorem dX7_whereHolds_191 : decode cX7_whereHolds 191 = .ok (.goto (-153), 3) := by decide +kernel
theorem dX7_whereHolds_194 : decode cX7_whereHolds 194 = .ok (.iload 6, 2) := by decide +kernel
theorem dX7_whereHolds_196 : decode cX7_whereHolds 196 = .ok (.ifCond .le 15, 3) := by decide +kernel
theorem dX7_whereHolds_199 : decode cX7_whereHolds 199 = .ok (.aload_n 0, 1) := by decide +kernel
theorem dX7_whereHolds_200 : decode cX7_whereHolds 200 = .ok (.getfield 38, 3) := by decide +kernel
theorem dX7_whereHolds_203 : decode cX7_whereHolds 203 = .ok (.iload 6, 2) := by decide +kernel
theorem dX7_whereHolds_205 : decode cX7_whereHolds 205 = .ok (.iconst 1, 1) := by decide +kernel
theorem dX7_whereHolds_206 : decode cX7_whereHolds 206 = .ok (.isub, 1) := by decide +kernel
theorem dX7_whereHolds_207 : decode cX7_whereHolds 207 = .ok (.iaload, 1) := by decide +kernel
theorem dX7_whereHolds_208 : decode cX7_whereHolds 208 = .ok (.goto 4, 3) := by decide +kernel
theorem dX7_whereHolds_211 : decode cX7_whereHolds 211 = .ok (.iconst 0, 1) := by decide +kernel
theorem dX7_whereHolds_212 : decode cX7_whereHolds 212 = .ok (.ireturn, 1) := by decide +kernel
theorem dX7_whereTest_0 : decode cX7_whereTest 0 = .ok (.iload_n 1, 1) := by decide +kernel
theorem dX7_whereTest_1 : decode cX7_whereTest 1 = .ok (.bipush 7, 2) := by decide +kernel
theorem dX7_whereTest_3 : decode cX7_whereTest 3 = .ok (.ishr, 1) := by decide +kernel
theorem dX7_whereTest_4 : decode cX7_whereTest 4 = .ok (.bipush 127, 2) := by decide +kernel
theorem dX7_whereTest_6 : decode cX7_whereTest 6 = .ok (.iand, 1) := by decide +kernel
theorem dX7_whereTest_7 : decode cX7_whereTest 7 = .ok (.istore 5, 2) := by decide +kernel
theorem dX7_whereTest_9 : decode cX7_whereTest 9 = .ok (.iload_n 1, 1) := by decide +kernel
theorem dX7_whereTest_10 : decode cX7_whereTest 10 = .ok (.bipush 127, 2) := by decide +kernel
theorem dX7_whereTest_12 : decode cX7_whereTest 12 = .ok (.iand, 1) := by decide +kernel
theorem dX7_whereTest_13 : decode cX7_whereTest 13 = .ok (.istore 6, 2) := by decide +kernel
theorem dX7_whereTest_15 : decode cX7_whereTest 15 = .ok (.iload_n 1, 1) := by decide +kernel
theorem dX7_whereTest_16 : decode cX7_whereTest 16 = .ok (.bipush 14, 2) := by decide +kernel
theorem dX7_whereTest_18 : decode cX7_whereTest 18 = .ok (.ishr, 1) := by decide +kernel
theorem dX7_whereTest_19 : decode cX7_whereTest 19 = .ok (.istore 7, 2) := by decide +kernel
theorem dX7_whereTest_21 : decode cX7_whereTest 21 = .ok (.iload 7, 2) := by decide +kernel
theorem dX7_whereTest_23 : decode cX7_whereTest 23 = .ok (.iconst 3, 1) := by decide +kernel
theorem dX7_whereTest_24 : decode cX7_whereTest 24 = .ok (.if_icmp .eq 9, 3) := by decide +kernel
theorem dX7_whereTest_27 : decode cX7_whereTest 27 = .ok (.iload 7, 2) := by decide +kernel
theorem dX7_whereTest_29 : decode cX7_whereTest 29 = .ok (.iconst 4, 1) := by decide +kernel
theorem dX7_whereTest_30 : decode cX7_whereTest 30 = .ok (.if_icmp .ne 72, 3) := by decide +kernel
theorem dX7_whereTest_33 : decode cX7_whereTest 33 = .ok (.iconst 0, 1) := by decide +kernel
theorem dX7_whereTest_34 : decode cX7_whereTest 34 = .ok (.istore 8, 2) := by decide +kernel
theorem dX7_whereTest_36 : decode cX7_whereTest 36 = .ok (.iconst 0, 1) := by decide +kernel
theorem dX7_whereTest_37 : decode cX7_whereTest 37 = .ok (.istore 9, 2) := by decide +kernel
theorem dX7_whereTest_39 : decode cX7_whereTest 39 = .ok (.iload 9, 2) := by decide +kernel
theorem dX7_whereTest_41 : decode cX7_whereTest 41 = .ok (.bipush 16, 2) := by decide +kernel
theorem dX7_whereTest_43 : decode cX7_whereTest 43 = .ok (.if_icmp .ge 56, 3) := by decide +kernel
theorem dX7_whereTest_46 : decode cX7_whereTest 46 = .ok (.iload 7, 2) := by decide +kernel
theorem dX7_whereTest_48 : decode cX7_whereTest 48 = .ok (.iconst 3, 1) := by decide +kernel
theorem dX7_whereTest_49 : decode cX7_whereTest 49 = .ok (.if_icmp .ne 13, 3) := by decide +kernel
theorem dX7_whereTest_52 : decode cX7_whereTest 52 = .ok (.aload_n 0, 1) := by decide +kernel
theorem dX7_whereTest_53 : decode cX7_whereTest 53 = .ok (.getfield 44, 3) := by decide +kernel
theorem dX7_whereTest_56 : decode cX7_whereTest 56 = .ok (.iload 9, 2) := by decide +kernel
theorem dX7_whereTest_58 : decode cX7_whereTest 58 = .ok (.iaload, 1) := by decide +kernel
theorem dX7_whereTest_59 : decode cX7_whereTest 59 = .ok (.goto 5, 3) := by decide +kernel
theorem dX7_whereTest_62 : decode cX7_whereTest 62 = .ok (.iload 9, 2) := by decide +kernel
theorem dX7_whereTest_64 : decode cX7_whereTest 64 = .ok (.istore 10, 2) := by decide +kernel
theorem dX7_whereTest_66 : decode cX7_whereTest 66 = .ok (.iload 8, 2) := by decide +kernel
theorem dX7_whereTest_68 : decode cX7_whereTest 68 = .ok (.iload 10, 2) := by decide +kernel
theorem dX7_whereTest_70 : decode cX7_whereTest 70 = .ok (.iload 5, 2) := by decide +kernel
theorem dX7_whereTest_72 : decode cX7_whereTest 72 = .ok (.if_icmp .lt 17, 3) := by decide +kernel
theorem dX7_whereTest_75 : decode cX7_whereTest 75 = .ok (.iload 10, 2) := by decide +kernel
theorem dX7_whereTest_77 : decode cX7_whereTest 77 = .ok (.iload 6, 2) := by decide +kernel
theorem dX7_whereTest_79 : decode cX7_whereTest 79 = .ok (.if_icmp .gt 10, 3) := by decide +kernel
theorem dX7_whereTest_82 : decode cX7_whereTest 82 = .ok (.iconst 1, 1) := by decide +kernel
theorem dX7_whereTest_83 : decode cX7_whereTest 83 = .ok (.iload 9, 2) := by decide +kernel
theorem dX7_whereTest_85 : decode cX7_whereTest 85 = .ok (.ishl, 1) := by decide +kernel
theorem dX7_whereTest_86 : decode cX7_whereTest 86 = .ok (.goto 4, 3) := by decide +kernel
theorem dX7_whereTest_89 : decode cX7_whereTest 89 = .ok (.iconst 0, 1) := by decide +kernel
theorem dX7_whereTest_90 : decode cX7_whereTest 90 = .ok (.ior, 1) := by decide +kernel
theorem dX7_whereTest_91 : decode cX7_whereTest 91 = .ok (.istore 8, 2) := by decide +kernel
theorem dX7_whereTest_93 : decode cX7_whereTest 93 = .ok (.iinc 9 1, 3) := by decide +kernel
theorem dX7_whereTest_96 : decode cX7_whereTest 96 = .ok (.goto (-57), 3) := by decide +kernel
theorem dX7_whereTest_99 : decode cX7_whereTest 99 = .ok (.iload 8, 2) := by decide +kernel
theorem dX7_whereTest_101 : decode cX7_whereTest 101 = .ok (.ireturn, 1) := by decide +kernel
theorem dX7_whereTest_102 : decode cX7_whereTest 102 = .ok (.iload 4, 2) := by decide +kernel
theorem dX7_whereTest_104 : decode cX7_whereTest 104 = .ok (.istore 8, 2) := by decide +kernel
theorem dX7_whereTest_106 : decode cX7_whereTest 106 = .ok (.iload 7, 2) := by decide +kernel
theorem dX7_whereTest_108 : decode cX7_whereTest 108 = .ok (.ifCond .ne 9, 3) := by decide +kernel
theorem dX7_whereTest_111 : decode cX7_whereTest 111 = .ok (.iload_n 3, 1) := by decide +kernel
theorem dX7_whereTest_112 : decode cX7_whereTest 112 = .ok (.istore 8, 2) := by decide +kernel
theorem dX7_whereTest_114 : decode cX7_whereTest 114 = .ok (.goto 34, 3) := by decide +kernel
theorem dX7_whereTest_117 : decode cX7_whereTest 117 = .ok (.iload 7, 2) := by decide +kernel
theorem dX7_whereTest_119 : decode cX7_whereTest 119 = .ok (.iconst 1, 1) := by decide +kernel
theorem dX7_whereTest_120 : decode cX7_whereTest 120 = .ok (.if_icmp .ne 14, 3) := by decide +kernel
theorem dX7_whereTest_123 : decode cX7_whereTest 123 = .ok (.aload_n 2, 1) := by decide +kernel
theorem dX7_whereTest_124 : decode cX7_whereTest 124 = .ok (.getfield 74, 3) := by decide +kernel
theorem dX7_whereTest_127 : decode cX7_whereTest 127 = .ok (.iload_n 3, 1) := by decide +kernel
theorem dX7_whereTest_128 : decode cX7_whereTest 128 = .ok (.iaload, 1) := by decide +kernel
theorem dX7_whereTest_129 : decode cX7_whereTest 129 = .ok (.istore 8, 2) := by decide +kernel
theorem dX7_whereTest_131 : decode cX7_whereTest 131 = .ok (.goto 17, 3) := by decide +kernel
theorem dX7_whereTest_134 : decode cX7_whereTest 134 = .ok (.iload 7, 2) := by decide +kernel
theorem dX7_whereTest_136 : decode cX7_whereTest 136 = .ok (.iconst 2, 1) := by decide +kernel
theorem dX7_whereTest_137 : decode cX7_whereTest 137 = .ok (.if_icmp .ne 11, 3) := by decide +kernel
theorem dX7_whereTest_140 : decode cX7_whereTest 140 = .ok (.aload_n 2, 1) := by decide +kernel
theorem dX7_whereTest_141 : decode cX7_whereTest 141 = .ok (.getfield 77, 3) := by decide +kernel
theorem dX7_whereTest_144 : decode cX7_whereTest 144 = .ok (.iload_n 3, 1) := by decide +kernel
theorem dX7_whereTest_145 : decode cX7_whereTest 145 = .ok (.iaload, 1) := by decide +kernel
theorem dX7_whereTest_146 : decode cX7_whereTest 146 = .ok (.istore 8, 2) := by decide +kernel
theorem dX7_whereTest_148 : decode cX7_whereTest 148 = .ok (.iload 8, 2) := by decide +kernel
theorem dX7_whereTest_150 : decode cX7_whereTest 150 = .ok (.iload 5, 2) := by decide +kernel
theorem dX7_whereTest_152 : decode cX7_whereTest 152 = .ok (.if_icmp .lt 15, 3) := by decide +kernel
theorem dX7_whereTest_155 : decode cX7_whereTest 155 = .ok (.iload 8, 2) := by decide +kernel
theorem dX7_whereTest_157 : decode cX7_whereTest 157 = .ok (.iload 6, 2) := by decide +kernel
theorem dX7_whereTest_159 : decode cX7_whereTest 159 = .ok (.if_icmp .gt 8, 3) := by decide +kernel
theorem dX7_whereTest_162 : decode cX7_whereTest 162 = .ok (.ldc 73, 2) := by decide +kernel
theorem dX7_whereTest_164 : decode cX7_whereTest 164 = .ok (.goto 4, 3) := by decide +kernel
theorem dX7_whereTest_167 : decode cX7_whereTest 167 = .ok (.iconst 0, 1) := by decide +kernel
theorem dX7_whereTest_168 : decode cX7_whereTest 168 = .ok (.ireturn, 1) := by decide +kernel
def w_X7_clear   (q : Nat)  (M : ap_Mem) (K : ap_Mem → Prop) : Prop :=
∀ M_1 : ap_Mem, M_1 = ap_mu M q 4 0 → ∀ M_2 : ap_Mem, M_2 = ap_mu M_1 q 5 0 → ∀ M_3 : ap_Mem, M_3 = ap_mu M_2 q 6 2 → ∀ M_4 : ap_Mem, M_4 = ap_mu M_3 q 7 0 → K M_4
theorem bl_X7_clear_0 {x : ap_X} {g : ap_G} (hc : ap_Cx x g cX7_clear RX7 1) {K : ap_Mem → Prop} (hz : ap_Ends x g 0 none (ap_Qv K))   {q : Nat} (hq : ap_kd q = 7)    {M : ap_Mem}  (h : w_X7_clear   q  M K) : ap_V x g 1 0 [(0, .ref (ap_ad g q))] [] M := by
  unfold w_X7_clear at h
  refine ap_aload_n (q := 1) hc dX7_clear_0 rfl rfl 0 rfl ?_
  refine ap_iconst (q := 2) hc dX7_clear_1 rfl ic_0 ?_
  obtain ⟨M_1, eM_1, h⟩ := ap_nm h
  refine ap_putI (q := 5) lp_RX7_24 hq eM_1 hc dX7_clear_2 rfl ?_
  refine ap_aload_n (q := 6) hc dX7_clear_5 rfl rfl 0 rfl ?_
  refine ap_iconst (q := 7) hc dX7_clear_6 rfl ic_0 ?_
  obtain ⟨M_2, eM_2, h⟩ := ap_nm h
  refine ap_putI (q := 10) lp_RX7_28 hq eM_2 hc dX7_clear_7 rfl ?_
  refine ap_aload_n (q := 11) hc dX7_clear_10 rfl rfl 0 rfl ?_
  refine ap_iconst (q := 12) hc dX7_clear_11 rfl ic_2 ?_
  obtain ⟨M_3, eM_3, h⟩ := ap_nm h
  refine ap_putI (q := 15) lp_RX7_31 hq eM_3 hc dX7_clear_12 rfl ?_
  refine ap_aload_n (q := 16) hc dX7_clear_15 rfl rfl 0 rfl ?_
  refine ap_iconst (q := 17) hc dX7_clear_16 rfl ic_0 ?_
  obtain ⟨M_4, eM_4, h⟩ := ap_nm h
  refine ap_putZ (q := 20) lp_RX7_34 hq ap_B0 eM_4 hc dX7_clear_17 rfl ?_
  exact ap_vret hc hz dX7_clear_20 h
theorem ok_X7_clear {l : Launch} {g : ap_G} (hg : ap_GOK g) {q : Nat} (hq : ap_kd q = 7)  {M : ap_Mem} {K : ap_Mem → Prop} (h : w_X7_clear q  M K) : ap_Ct l g yX7_clear cX7_clear 1 none 0 [.ref (ap_ad g q)] M (ap_Qv K) := by
  refine ap_Ct_of hg (by decide +kernel) (Nat.le_of_ble_eq_true rfl) (fun x hx hc hz => ?_)
  subst hx
  exact bl_X7_clear_0 hc hz hq h
def w_X7_begin   (q : Nat) (x1 : Int32) (x2 : Int32) (M : ap_Mem) (K : ap_Mem → Prop) : Prop :=
(if (M q 4) < 10 then (vp_in (M q 4) 10 ∧ ∀ M_3 : ap_Mem, M_3 = ap_mu M (q + 1) (M q 4).toNatClampNeg x1 → vp_in (M_3 q 4) 10 ∧ ∀ M_5 : ap_Mem, M_5 = ap_mu M_3 (q + 2) (M_3 q 4).toNatClampNeg x2 → vp_in (M_5 q 4) 10 ∧ ∀ M_7 : ap_Mem, M_7 = ap_mu M_5 (q + 3) (M_5 q 4).toNatClampNeg (M_5 q 5) → ∀ M_8 : ap_Mem, M_8 = ap_mu M_7 q 4 ((M_7 q 4) + 1) → (if x1 = 0 then (∀ M_10 : ap_Mem, M_10 = ap_mu M_8 q 6 x2 → K M_10) else (K M_8))) else (K M))
theorem bl_X7_begin_0 {x : ap_X} {g : ap_G} (hc : ap_Cx x g cX7_begin RX7 3) {K : ap_Mem → Prop} (hz : ap_Ends x g 0 none (ap_Qv K))   {q : Nat} (hq : ap_kd q = 7)   {x1 : Int32} {x2 : Int32} {M : ap_Mem}  (h : w_X7_begin   q x1 x2 M K) : ap_V x g 3 0 [(0, .ref (ap_ad g q)), (1, .int x1), (2, .int x2)] [] M := by
  unfold w_X7_begin at h
  refine ap_aload_n (q := 1) hc dX7_begin_0 rfl rfl 0 rfl ?_
  refine ap_getI (q := 4) lg_RX7_24 hq hc dX7_begin_1 rfl ?_
  refine ap_bipush (q := 6) hc dX7_begin_4 rfl bc_10 ?_
  refine ap_icmp_lt (q := 9) (tgt := 10) hc dX7_begin_6 rfl (by decide) (fun z_1 => ?_) (fun z_1 => ?_)
  · have h := Eq.mp (if_pos z_1) h
    refine ap_aload_n (q := 11) hc dX7_begin_10 rfl rfl 0 rfl ?_
    refine ap_getR (q := 14) (r := q + 1) lg_RX7_11 (by decide) hq rfl hc dX7_begin_11 rfl ?_
    refine ap_aload_n (q := 15) hc dX7_begin_14 rfl rfl 0 rfl ?_
    refine ap_getI (q := 18) lg_RX7_24 hq hc dX7_begin_15 rfl ?_
    refine ap_iload_n (q := 19) hc dX7_begin_18 rfl rfl 1 rfl ?_
    obtain ⟨g_2, h⟩ := h
    obtain ⟨M_3, eM_3, h⟩ := ap_nm h
    refine ap_iast (q := 20) (ty_7_1 hq) (tn_7_1 hq) g_2 eM_3 hc dX7_begin_19 rfl ?_
    refine ap_aload_n (q := 21) hc dX7_begin_20 rfl rfl 0 rfl ?_
    refine ap_getR (q := 24) (r := q + 2) lg_RX7_15 (by decide) hq rfl hc dX7_begin_21 rfl ?_
    refine ap_aload_n (q := 25) hc dX7_begin_24 rfl rfl 0 rfl ?_
    refine ap_getI (q := 28) lg_RX7_24 hq hc dX7_begin_25 rfl ?_
    refine ap_iload_n (q := 29) hc dX7_begin_28 rfl rfl 2 rfl ?_
    obtain ⟨g_4, h⟩ := h
    obtain ⟨M_5, eM_5, h⟩ := ap_nm h
    refine ap_iast (q := 30) (ty_7_2 hq) (tn_7_2 hq) g_4 eM_5 hc dX7_begin_29 rfl ?_
    refine ap_aload_n (q := 31) hc dX7_begin_30 rfl rfl 0 rfl ?_
    refine ap_getR (q := 34) (r := q + 3) lg_RX7_18 (by decide) hq rfl hc dX7_begin_31 rfl ?_
    refine ap_aload_n (q := 35) hc dX7_begin_34 rfl rfl 0 rfl ?_
    refine ap_getI (q := 38) lg_RX7_24 hq hc dX7_begin_35 rfl ?_
    refine ap_aload_n (q := 39) hc dX7_begin_38 rfl rfl 0 rfl ?_
    refine ap_getI (q := 42) lg_RX7_28 hq hc dX7_begin_39 rfl ?_
    obtain ⟨g_6, h⟩ := h
    obtain ⟨M_7, eM_7, h⟩ := ap_nm h
    refine ap_iast (q := 43) (ty_7_3 hq) (tn_7_3 hq) g_6 eM_7 hc dX7_begin_42 rfl ?_
    refine ap_aload_n (q := 44) hc dX7_begin_43 rfl rfl 0 rfl ?_
    refine ap_dup (q := 45) hc dX7_begin_44 rfl rfl ?_
    refine ap_getI (q := 48) lg_RX7_24 hq hc dX7_begin_45 rfl ?_
    refine ap_iconst (q := 49) hc dX7_begin_48 rfl ic_1 ?_
    refine ap_iadd (q := 50) hc dX7_begin_49 rfl ?_
    obtain ⟨M_8, eM_8, h⟩ := ap_nm h
    refine ap_putI (q := 53) lp_RX7_24 hq eM_8 hc dX7_begin_50 rfl ?_
    refine ap_iload_n (q := 54) hc dX7_begin_53 rfl rfl 1 rfl ?_
    refine ap_if_ne (q := 57) (tgt := 62) hc dX7_begin_54 rfl (by decide) (fun z_9 => ?_) (fun z_9 => ?_)
    · have h := Eq.mp (if_neg z_9) h
      exact ap_vret hc hz dX7_begin_62 h
    · have h := Eq.mp (if_pos z_9) h
      refine ap_aload_n (q := 58) hc dX7_begin_57 rfl rfl 0 rfl ?_
      refine ap_iload_n (q := 59) hc dX7_begin_58 rfl rfl 2 rfl ?_
      obtain ⟨M_10, eM_10, h⟩ := ap_nm h
      refine ap_putI (q := 62) lp_RX7_31 hq eM_10 hc dX7_begin_59 rfl ?_
      exact ap_vret hc hz dX7_begin_62 h
  · have h := Eq.mp (if_neg z_1) h
    exact ap_vret hc hz dX7_begin_9 h
theorem ok_X7_begin {l : Launch} {g : ap_G} (hg : ap_GOK g) {q : Nat} (hq : ap_kd q = 7) {x1 : Int32} {x2 : Int32} {M : ap_Mem} {K : ap_Mem → Prop} (h : w_X7_begin q x1 x2 M K) : ap_Ct l g yX7_begin cX7_begin 3 none 0 [.ref (ap_ad g q), .int x1, .int x2] M (ap_Qv K) := by
  refine ap_Ct_of hg (by decide +kernel) (Nat.le_of_ble_eq_true rfl) (fun x hx hc hz => ?_)
  subst hx
  exact bl_X7_begin_0 hc hz hq h
def w_X7_put   (q : Nat) (x1 : Int32) (M : ap_Mem) (K : ap_Mem → Prop) : Prop :=
(if 100 ≤ (M q 5) then (K M) else (vp_in (M q 5) 100 ∧ ∀ M_3 : ap_Mem, M_3 = ap_mu M (q + 4) (M q 5).toNatClampNeg x1 → ∀ M_4 : ap_Mem, M_4 = ap_mu M_3 q 5 ((M_3 q 5) + 1) → K M_4))
theorem bl_X7_put_0 {x : ap_X} {g : ap_G} (hc : ap_Cx x g cX7_put RX7 2) {K : ap_Mem → Prop} (hz : ap_Ends x g 0 none (ap_Qv K))   {q : Nat} (hq : ap_kd q = 7)   {x1 : Int32} {M : ap_Mem}  (h : w_X7_put   q x1 M K) : ap_V x g 2 0 [(0, .ref (ap_ad g q)), (1, .int x1)] [] M := by
  unfold w_X7_put at h
  refine ap_aload_n (q := 1) hc dX7_put_0 rfl rfl 0 rfl ?_
  refine ap_getI (q := 4) lg_RX7_28 hq hc dX7_put_1 rfl ?_
  refine ap_bipush (q := 6) hc dX7_put_4 rfl bc_100 ?_
  refine ap_icmp_ge (q := 9) (tgt := 29) hc dX7_put_6 rfl (by decide) (fun z_1 => ?_) (fun z_1 => ?_)
  · have h := Eq.mp (if_pos z_1) h
    exact ap_vret hc hz dX7_put_29 h
  · have h := Eq.mp (if_neg z_1) h
    refine ap_aload_n (q := 10) hc dX7_put_9 rfl rfl 0 rfl ?_
    refine ap_getR (q := 13) (r := q + 4) lg_RX7_21 (by decide) hq rfl hc dX7_put_10 rfl ?_
    refine ap_aload_n (q := 14) hc dX7_put_13 rfl rfl 0 rfl ?_
    refine ap_getI (q := 17) lg_RX7_28 hq hc dX7_put_14 rfl ?_
    refine ap_iload_n (q := 18) hc dX7_put_17 rfl rfl 1 rfl ?_
    obtain ⟨g_2, h⟩ := h
    obtain ⟨M_3, eM_3, h⟩ := ap_nm h
    refine ap_iast (q := 19) (ty_7_4 hq) (tn_7_4 hq) g_2 eM_3 hc dX7_put_18 rfl ?_
    refine ap_aload_n (q := 20) hc dX7_put_19 rfl rfl 0 rfl ?_
    refine ap_dup (q := 21) hc dX7_put_20 rfl rfl ?_
    refine ap_getI (q := 24) lg_RX7_28 hq hc dX7_put_21 rfl ?_
    refine ap_iconst (q := 25) hc dX7_put_24 rfl ic_1 ?_
    refine ap_iadd (q := 26) hc dX7_put_25 rfl ?_
    obtain ⟨M_4, eM_4, h⟩ := ap_nm h
    refine ap_putI (q := 29) lp_RX7_28 hq eM_4 hc dX7_put_26 rfl ?_
    exact ap_vret hc hz dX7_put_29 h
theorem ok_X7_put {l : Launch} {g : ap_G} (hg : ap_GOK g) {q : Nat} (hq : ap_kd q = 7) {x1 : Int32} {M : ap_Mem} {K : ap_Mem → Prop} (h : w_X7_put q x1 M K) : ap_Ct l g yX7_put cX7_put 2 none 0 [.ref (ap_ad g q), .int x1] M (ap_Qv K) := by
  refine ap_Ct_of hg (by decide +kernel) (Nat.le_of_ble_eq_true rfl) (fun x hx hc hz => ?_)
  subst hx
  exact bl_X7_put_0 hc hz hq h
def w_X7_putTest_18   (q : Nat) (x1 : Int32) (x2 : Int32) (x3 : Int32) (s0 : Int32) (M : ap_Mem) (K : ap_Mem → Prop) : Prop :=
ap_B s0 ∧ ∀ M_1 : ap_Mem, M_1 = ap_mu M q 7 s0 → w_X7_put q ((((x1 <<< (7 &&& 31)) ||| x2) <<< (7 &&& 31)) ||| x3) M_1 (fun M_3 => K M_3)
theorem bl_X7_putTest_18 {x : ap_X} {g : ap_G} (hc : ap_Cx x g cX7_putTest RX7 4) {K : ap_Mem → Prop} (hz : ap_Ends x g 1 none (ap_Qv K))   {q : Nat} (hq : ap_kd q = 7)   {x1 : Int32} {x2 : Int32} {x3 : Int32} {s0 : Int32} {M : ap_Mem}  (h : w_X7_putTest_18   q x1 x2 x3 s0 M K) : ap_V x g 4 18 [(0, .ref (ap_ad g q)), (1, .int x1), (2, .int x2), (3, .int x3)] [.int s0, .ref (ap_ad g q)] M := by
  have hg := hc.2.2.2.2.2.2.2.1
  unfold w_X7_putTest_18 at h
  obtain ⟨g_2, h⟩ := h
  obtain ⟨M_1, eM_1, h⟩ := ap_nm h
  refine ap_putZ (q := 21) lp_RX7_34 hq g_2 eM_1 hc dX7_putTest_18 rfl ?_
  refine ap_aload_n (q := 22) hc dX7_putTest_21 rfl rfl 0 rfl ?_
  refine ap_iload_n (q := 23) hc dX7_putTest_22 rfl rfl 1 rfl ?_
  refine ap_bipush (q := 25) hc dX7_putTest_23 rfl bc_7 ?_
  refine ap_ishl (q := 26) hc dX7_putTest_25 rfl ?_
  refine ap_iload_n (q := 27) hc dX7_putTest_26 rfl rfl 2 rfl ?_
  refine ap_ior (q := 28) hc dX7_putTest_27 rfl ?_
  refine ap_bipush (q := 30) hc dX7_putTest_28 rfl bc_7 ?_
  refine ap_ishl (q := 31) hc dX7_putTest_30 rfl ?_
  refine ap_iload_n (q := 32) hc dX7_putTest_31 rfl rfl 3 rfl ?_
  refine ap_ior (q := 33) hc dX7_putTest_32 rfl ?_
  refine ap_callV (q := 36) (As := [.int ((((x1 <<< (7 &&& 31)) ||| x2) <<< (7 &&& 31)) ||| x3)]) hc (ok_X7_put hg hq h) ml_RX7_47 lk_X7_put lv_X7_put hq rfl (ap_RmE hz (by decide)) rfl rfl (Nat.le_of_ble_eq_true rfl) dX7_putTest_33 rfl (ap_kv (fun M_3 h => ?_))
  exact ap_vret hc hz dX7_putTest_36 h
def w_X7_putTest_13   (q : Nat) (x1 : Int32) (x2 : Int32) (x3 : Int32) (M : ap_Mem) (K : ap_Mem → Prop) : Prop :=
w_X7_putTest_18   q x1 x2 x3 1 M K
theorem bl_X7_putTest_13 {x : ap_X} {g : ap_G} (hc : ap_Cx x g cX7_putTest RX7 4) {K : ap_Mem → Prop} (hz : ap_Ends x g 1 none (ap_Qv K))   {q : Nat} (hq : ap_kd q = 7)   {x1 : Int32} {x2 : Int32} {x3 : Int32} {M : ap_Mem}  (h : w_X7_putTest_13   q x1 x2 x3 M K) : ap_V x g 4 13 [(0, .ref (ap_ad g q)), (1, .int x1), (2, .int x2), (3, .int x3)] [.ref (ap_ad g q)] M := by
  unfold w_X7_putTest_13 at h
  refine ap_iconst (q := 14) hc dX7_putTest_13 rfl ic_1 ?_
  refine ap_goto (q := 18) hc dX7_putTest_14 (by decide) ?_
  exact ap_sub [0, 1, 2, 3] rfl (bl_X7_putTest_18 hc hz  hq   h)
def w_X7_putTest   (q : Nat) (x1 : Int32) (x2 : Int32) (x3 : Int32) (M : ap_Mem) (K : ap_Mem → Prop) : Prop :=
(if (M q 7) = 0 then ((if x1 = 5 then (w_X7_putTest_13   q x1 x2 x3 M K) else (w_X7_putTest_18   q x1 x2 x3 0 M K))) else (w_X7_putTest_13   q x1 x2 x3 M K))
theorem bl_X7_putTest_0 {x : ap_X} {g : ap_G} (hc : ap_Cx x g cX7_putTest RX7 4) {K : ap_Mem → Prop} (hz : ap_Ends x g 1 none (ap_Qv K))   {q : Nat} (hq : ap_kd q = 7)   {x1 : Int32} {x2 : Int32} {x3 : Int32} {M : ap_Mem}  (h : w_X7_putTest   q x1 x2 x3 M K) : ap_V x g 4 0 [(0, .ref (ap_ad g q)), (1, .int x1), (2, .int x2), (3, .int x3)] [] M := by
  unfold w_X7_putTest at h
  refine ap_aload_n (q := 1) hc dX7_putTest_0 rfl rfl 0 rfl ?_
  refine ap_aload_n (q := 2) hc dX7_putTest_1 rfl rfl 0 rfl ?_
  refine ap_getI (q := 5) lg_RX7_34 hq hc dX7_putTest_2 rfl ?_
  refine ap_if_ne (q := 8) (tgt := 13) hc dX7_putTest_5 rfl (by decide) (fun z_1 => ?_) (fun z_1 => ?_)
  · have h := Eq.mp (if_neg z_1) h
    exact ap_sub [0, 1, 2, 3] rfl (bl_X7_putTest_13 hc hz  hq   h)
  · have h := Eq.mp (if_pos z_1) h
    refine ap_iload_n (q := 9) hc dX7_putTest_8 rfl rfl 1 rfl ?_
    refine ap_iconst (q := 10) hc dX7_putTest_9 rfl ic_5 ?_
    refine ap_icmp_ne (q := 13) (tgt := 17) hc dX7_putTest_10 rfl (by decide) (fun z_2 => ?_) (fun z_2 => ?_)
    · have h := Eq.mp (if_neg z_2) h
      refine ap_iconst (q := 18) hc dX7_putTest_17 rfl ic_0 ?_
      exact ap_sub [0, 1, 2, 3] rfl (bl_X7_putTest_18 hc hz  hq   h)
    · have h := Eq.mp (if_pos z_2) h
      exact ap_sub [0, 1, 2, 3] rfl (bl_X7_putTest_13 hc hz  hq   h)
theorem ok_X7_putTest {l : Launch} {g : ap_G} (hg : ap_GOK g) {q : Nat} (hq : ap_kd q = 7) {x1 : Int32} {x2 : Int32} {x3 : Int32} {M : ap_Mem} {K : ap_Mem → Prop} (h : w_X7_putTest q x1 x2 x3 M K) : ap_Ct l g yX7_putTest cX7_putTest 4 none 1 [.ref (ap_ad g q), .int x1, .int x2, .int x3] M (ap_Qv K) := by
  refine ap_Ct_of hg (by decide +kernel) (Nat.le_of_ble_eq_true rfl) (fun x hx hc hz => ?_)
  subst hx
  exact bl_X7_putTest_0 hc hz hq h
def w_X7_copyFrom   (q : Nat) (o1 : Nat)  (M : ap_Mem) (K : ap_Mem → Prop) : Prop :=
∀ M_1 : ap_Mem, M_1 = ap_mc M (o1 + 1) (q + 1) 0 0 10 → ∀ M_2 : ap_Mem, M_2 = ap_mc M_1 (o1 + 2) (q + 2) 0 0 10 → ∀ M_3 : ap_Mem, M_3 = ap_mc M_2 (o1 + 3) (q + 3) 0 0 10 → ∀ M_4 : ap_Mem, M_4 = ap_mc M_3 (o1 + 4) (q + 4) 0 0 100 → ∀ M_5 : ap_Mem, M_5 = ap_mu M_4 q 4 (M_4 o1 4) → ∀ M_6 : ap_Mem, M_6 = ap_mu M_5 q 5 (M_5 o1 5) → ∀ M_7 : ap_Mem, M_7 = ap_mu M_6 q 6 (M_6 o1 6) → ap_B (M_7 o1 7) ∧ ∀ M_8 : ap_Mem, M_8 = ap_mu M_7 q 7 (M_7 o1 7) → K M_8
theorem bl_X7_copyFrom_0 {x : ap_X} {g : ap_G} (hc : ap_Cx x g cX7_copyFrom RX7 2) {K : ap_Mem → Prop} (hz : ap_Ends x g 1 none (ap_Qv K))   {q : Nat} {o1 : Nat} (hq : ap_kd q = 7) (ho1 : ap_kd o1 = 7)    {M : ap_Mem}  (h : w_X7_copyFrom   q o1  M K) : ap_V x g 2 0 [(0, .ref (ap_ad g q)), (1, .ref (ap_ad g o1))] [] M := by
  unfold w_X7_copyFrom at h
  refine ap_aload_n (q := 1) hc dX7_copyFrom_0 rfl rfl 1 rfl ?_
  refine ap_getR (q := 4) (r := o1 + 1) lg_RX7_11 (by decide) ho1 rfl hc dX7_copyFrom_1 rfl ?_
  refine ap_iconst (q := 5) hc dX7_copyFrom_4 rfl ic_0 ?_
  refine ap_aload_n (q := 6) hc dX7_copyFrom_5 rfl rfl 0 rfl ?_
  refine ap_getR (q := 9) (r := q + 1) lg_RX7_11 (by decide) hq rfl hc dX7_copyFrom_6 rfl ?_
  refine ap_iconst (q := 10) hc dX7_copyFrom_9 rfl ic_0 ?_
  refine ap_bipush (q := 12) hc dX7_copyFrom_10 rfl bc_10 ?_
  obtain ⟨M_1, eM_1, h⟩ := ap_nm h
  refine ap_copy (q := 15) (n := 10) la_RX7_51 (ap_RmE hz (by decide)) (Nat.le_of_ble_eq_true rfl) (ty_7_1 ho1) (ty_7_1 hq) (tn_7_1 ho1) (tn_7_1 hq) rfl (by decide) (by decide) (by decide) eM_1 hc dX7_copyFrom_12 rfl ?_
  refine ap_aload_n (q := 16) hc dX7_copyFrom_15 rfl rfl 1 rfl ?_
  refine ap_getR (q := 19) (r := o1 + 2) lg_RX7_15 (by decide) ho1 rfl hc dX7_copyFrom_16 rfl ?_
  refine ap_iconst (q := 20) hc dX7_copyFrom_19 rfl ic_0 ?_
  refine ap_aload_n (q := 21) hc dX7_copyFrom_20 rfl rfl 0 rfl ?_
  refine ap_getR (q := 24) (r := q + 2) lg_RX7_15 (by decide) hq rfl hc dX7_copyFrom_21 rfl ?_
  refine ap_iconst (q := 25) hc dX7_copyFrom_24 rfl ic_0 ?_
  refine ap_bipush (q := 27) hc dX7_copyFrom_25 rfl bc_10 ?_
  obtain ⟨M_2, eM_2, h⟩ := ap_nm h
  refine ap_copy (q := 30) (n := 10) la_RX7_51 (ap_RmE hz (by decide)) (Nat.le_of_ble_eq_true rfl) (ty_7_2 ho1) (ty_7_2 hq) (tn_7_2 ho1) (tn_7_2 hq) rfl (by decide) (by decide) (by decide) eM_2 hc dX7_copyFrom_27 rfl ?_
  refine ap_aload_n (q := 31) hc dX7_copyFrom_30 rfl rfl 1 rfl ?_
  refine ap_getR (q := 34) (r := o1 + 3) lg_RX7_18 (by decide) ho1 rfl hc dX7_copyFrom_31 rfl ?_
  refine ap_iconst (q := 35) hc dX7_copyFrom_34 rfl ic_0 ?_
  refine ap_aload_n (q := 36) hc dX7_copyFrom_35 rfl rfl 0 rfl ?_
  refine ap_getR (q := 39) (r := q + 3) lg_RX7_18 (by decide) hq rfl hc dX7_copyFrom_36 rfl ?_
  refine ap_iconst (q := 40) hc dX7_copyFrom_39 rfl ic_0 ?_
  refine ap_bipush (q := 42) hc dX7_copyFrom_40 rfl bc_10 ?_
  obtain ⟨M_3, eM_3, h⟩ := ap_nm h
  refine ap_copy (q := 45) (n := 10) la_RX7_51 (ap_RmE hz (by decide)) (Nat.le_of_ble_eq_true rfl) (ty_7_3 ho1) (ty_7_3 hq) (tn_7_3 ho1) (tn_7_3 hq) rfl (by decide) (by decide) (by decide) eM_3 hc dX7_copyFrom_42 rfl ?_
  refine ap_aload_n (q := 46) hc dX7_copyFrom_45 rfl rfl 1 rfl ?_
  refine ap_getR (q := 49) (r := o1 + 4) lg_RX7_21 (by decide) ho1 rfl hc dX7_copyFrom_46 rfl ?_
  refine ap_iconst (q := 50) hc dX7_copyFrom_49 rfl ic_0 ?_
  refine ap_aload_n (q := 51) hc dX7_copyFrom_50 rfl rfl 0 rfl ?_
  refine ap_getR (q := 54) (r := q + 4) lg_RX7_21 (by decide) hq rfl hc dX7_copyFrom_51 rfl ?_
  refine ap_iconst (q := 55) hc dX7_copyFrom_54 rfl ic_0 ?_
  refine ap_bipush (q := 57) hc dX7_copyFrom_55 rfl bc_100 ?_
  obtain ⟨M_4, eM_4, h⟩ := ap_nm h
  refine ap_copy (q := 60) (n := 100) la_RX7_51 (ap_RmE hz (by decide)) (Nat.le_of_ble_eq_true rfl) (ty_7_4 ho1) (ty_7_4 hq) (tn_7_4 ho1) (tn_7_4 hq) rfl (by decide) (by decide) (by decide) eM_4 hc dX7_copyFrom_57 rfl ?_
  refine ap_aload_n (q := 61) hc dX7_copyFrom_60 rfl rfl 0 rfl ?_
  refine ap_aload_n (q := 62) hc dX7_copyFrom_61 rfl rfl 1 rfl ?_
  refine ap_getI (q := 65) lg_RX7_24 ho1 hc dX7_copyFrom_62 rfl ?_
  obtain ⟨M_5, eM_5, h⟩ := ap_nm h
  refine ap_putI (q := 68) lp_RX7_24 hq eM_5 hc dX7_copyFrom_65 rfl ?_
  refine ap_aload_n (q := 69) hc dX7_copyFrom_68 rfl rfl 0 rfl ?_
  refine ap_aload_n (q := 70) hc dX7_copyFrom_69 rfl rfl 1 rfl ?_
  refine ap_getI (q := 73) lg_RX7_28 ho1 hc dX7_copyFrom_70 rfl ?_
  obtain ⟨M_6, eM_6, h⟩ := ap_nm h
  refine ap_putI (q := 76) lp_RX7_28 hq eM_6 hc dX7_copyFrom_73 rfl ?_
  refine ap_aload_n (q := 77) hc dX7_copyFrom_76 rfl rfl 0 rfl ?_
  refine ap_aload_n (q := 78) hc dX7_copyFrom_77 rfl rfl 1 rfl ?_
  refine ap_getI (q := 81) lg_RX7_31 ho1 hc dX7_copyFrom_78 rfl ?_
  obtain ⟨M_7, eM_7, h⟩ := ap_nm h
  refine ap_putI (q := 84) lp_RX7_31 hq eM_7 hc dX7_copyFrom_81 rfl ?_
  refine ap_aload_n (q := 85) hc dX7_copyFrom_84 rfl rfl 0 rfl ?_
  refine ap_aload_n (q := 86) hc dX7_copyFrom_85 rfl rfl 1 rfl ?_
  refine ap_getI (q := 89) lg_RX7_34 ho1 hc dX7_copyFrom_86 rfl ?_
  obtain ⟨g_9, h⟩ := h
  obtain ⟨M_8, eM_8, h⟩ := ap_nm h
  refine ap_putZ (q := 92) lp_RX7_34 hq g_9 eM_8 hc dX7_copyFrom_89 rfl ?_
  exact ap_vret hc hz dX7_copyFrom_92 h
theorem ok_X7_copyFrom {l : Launch} {g : ap_G} (hg : ap_GOK g) {q : Nat} {o1 : Nat} (hq : ap_kd q = 7) (ho1 : ap_kd o1 = 7)  {M : ap_Mem} {K : ap_Mem → Prop} (h : w_X7_copyFrom q o1  M K) : ap_Ct l g yX7_copyFrom cX7_copyFrom 2 none 1 [.ref (ap_ad g q), .ref (ap_ad g o1)] M (ap_Qv K) := by
  refine ap_Ct_of hg (by decide +kernel) (Nat.le_of_ble_eq_true rfl) (fun x hx hc hz => ?_)
  subst hx
  exact bl_X7_copyFrom_0 hc hz hq ho1 h
def w_X7_whereTest_90  (kL39 : Int32 → Int32 → Int32 → Int32 → Int32 → ap_Mem → Prop) (q : Nat) (o2 : Nat) (x5 : Int32) (x6 : Int32) (x7 : Int32) (x9 : Int32) (s0 : Int32) (s1 : Int32) (M : ap_Mem) (K : Int32 → ap_Mem → Prop) : Prop :=
∀ x8_1 : Int32, x8_1 = s1 ||| s0 → ∀ x9_2 : Int32, x9_2 = x9 + 1 → kL39 x5 x6 x7 x8_1 x9_2 M
theorem bl_X7_whereTest_90 {x : ap_X} {g : ap_G} (hc : ap_Cx x g cX7_whereTest RX7 11) {K : Int32 → ap_Mem → Prop} (hz : ap_Ends x g 0 (some .int) (ap_Qi K))   {q : Nat} {o2 : Nat} (hq : ap_kd q = 7) (ho2 : ap_kd o2 = 3) {kL39 : Int32 → Int32 → Int32 → Int32 → Int32 → ap_Mem → Prop} (hk39 : ∀ (x5 : Int32) (x6 : Int32) (x7 : Int32) (x8 : Int32) (x9 : Int32)  (M : ap_Mem), kL39 x5 x6 x7 x8 x9 M → ap_V x g 11 39 [(0, .ref (ap_ad g q)), (5, .int x5), (6, .int x6), (7, .int x7), (8, .int x8), (9, .int x9)] [] M) {x5 : Int32} {x6 : Int32} {x7 : Int32} {x9 : Int32} {s0 : Int32} {s1 : Int32} {M : ap_Mem}  (h : w_X7_whereTest_90  kL39 q o2 x5 x6 x7 x9 s0 s1 M K) : ap_V x g 11 90 [(0, .ref (ap_ad g q)), (5, .int x5), (6, .int x6), (7, .int x7), (9, .int x9)] [.int s0, .int s1] M := by
  unfold w_X7_whereTest_90 at h
  refine ap_ior (q := 91) hc dX7_whereTest_90 rfl ?_
  obtain ⟨x8_1, ex8_1, h⟩ := ap_nm h
  refine ap_istore (q := 93) (lo2 := [(8, .int x8_1), (0, .ref (ap_ad g q)), (5, .int x5), (6, .int x6), (7, .int x7), (9, .int x9)]) hc dX7_whereTest_91 rfl ex8_1 (by decide) rfl ?_
  obtain ⟨x9_2, ex9_2, h⟩ := ap_nm h
  refine ap_iinc (q := 96) (lo2 := [(9, .int x9_2), (8, .int x8_1), (0, .ref (ap_ad g q)), (5, .int x5), (6, .int x6), (7, .int x7)]) hc dX7_whereTest_93 rfl 5 rfl (by rw [ex9_2]; rfl) (by decide) rfl ?_
  refine ap_goto (q := 39) hc dX7_whereTest_96 (by decide) ?_
  exact ap_sub [2, 3, 4, 5, 1, 0] rfl (hk39 _ _ _ _ _ _ h)
def w_X7_whereTest_89  (kL39 : Int32 → Int32 → Int32 → Int32 → Int32 → ap_Mem → Prop) (q : Nat) (o2 : Nat) (x5 : Int32) (x6 : Int32) (x7 : Int32) (x9 : Int32) (s0 : Int32) (M : ap_Mem) (K : Int32 → ap_Mem → Prop) : Prop :=
w_X7_whereTest_90  kL39 q o2 x5 x6 x7 x9 0 s0 M K
theorem bl_X7_whereTest_89 {x : ap_X} {g : ap_G} (hc : ap_Cx x g cX7_whereTest RX7 11) {K : Int32 → ap_Mem → Prop} (hz : ap_Ends x g 0 (some .int) (ap_Qi K))   {q : Nat} {o2 : Nat} (hq : ap_kd q = 7) (ho2 : ap_kd o2 = 3) {kL39 : Int32 → Int32 → Int32 → Int32 → Int32 → ap_Mem → Prop} (hk39 : ∀ (x5 : Int32) (x6 : Int32) (x7 : Int32) (x8 : Int32) (x9 : Int32)  (M : ap_Mem), kL39 x5 x6 x7 x8 x9 M → ap_V x g 11 39 [(0, .ref (ap_ad g q)), (5, .int x5), (6, .int x6), (7, .int x7), (8, .int x8), (9, .int x9)] [] M) {x5 : Int32} {x6 : Int32} {x7 : Int32} {x9 : Int32} {s0 : Int32} {M : ap_Mem}  (h : w_X7_whereTest_89  kL39 q o2 x5 x6 x7 x9 s0 M K) : ap_V x g 11 89 [(0, .ref (ap_ad g q)), (5, .int x5), (6, .int x6), (7, .int x7), (9, .int x9)] [.int s0] M := by
  unfold w_X7_whereTest_89 at h
  refine ap_iconst (q := 90) hc dX7_whereTest_89 rfl ic_0 ?_
  exact ap_sub [0, 1, 2, 3, 4] rfl (bl_X7_whereTest_90 hc hz  hq ho2 hk39  h)
def w_X7_whereTest_64  (kL39 : Int32 → Int32 → Int32 → Int32 → Int32 → ap_Mem → Prop) (q : Nat) (o2 : Nat) (x5 : Int32) (x6 : Int32) (x7 : Int32) (x8 : Int32) (x9 : Int32) (s0 : Int32) (M : ap_Mem) (K : Int32 → ap_Mem → Prop) : Prop :=
(if s0 < x5 then (w_X7_whereTest_89  kL39 q o2 x5 x6 x7 x9 x8 M K) else ((if x6 < s0 then (w_X7_whereTest_89  kL39 q o2 x5 x6 x7 x9 x8 M K) else (w_X7_whereTest_90  kL39 q o2 x5 x6 x7 x9 (1 <<< (x9 &&& 31)) x8 M K))))
theorem bl_X7_whereTest_64 {x : ap_X} {g : ap_G} (hc : ap_Cx x g cX7_whereTest RX7 11) {K : Int32 → ap_Mem → Prop} (hz : ap_Ends x g 0 (some .int) (ap_Qi K))   {q : Nat} {o2 : Nat} (hq : ap_kd q = 7) (ho2 : ap_kd o2 = 3) {kL39 : Int32 → Int32 → Int32 → Int32 → Int32 → ap_Mem → Prop} (hk39 : ∀ (x5 : Int32) (x6 : Int32) (x7 : Int32) (x8 : Int32) (x9 : Int32)  (M : ap_Mem), kL39 x5 x6 x7 x8 x9 M → ap_V x g 11 39 [(0, .ref (ap_ad g q)), (5, .int x5), (6, .int x6), (7, .int x7), (8, .int x8), (9, .int x9)] [] M) {x5 : Int32} {x6 : Int32} {x7 : Int32} {x8 : Int32} {x9 : Int32} {s0 : Int32} {M : ap_Mem}  (h : w_X7_whereTest_64  kL39 q o2 x5 x6 x7 x8 x9 s0 M K) : ap_V x g 11 64 [(0, .ref (ap_ad g q)), (5, .int x5), (6, .int x6), (7, .int x7), (8, .int x8), (9, .int x9)] [.int s0] M := by
  unfold w_X7_whereTest_64 at h
  refine ap_istore (q := 66) (lo2 := [(10, .int s0), (0, .ref (ap_ad g q)), (5, .int x5), (6, .int x6), (7, .int x7), (8, .int x8), (9, .int x9)]) hc dX7_whereTest_64 rfl rfl (by decide) rfl ?_
  refine ap_iload (q := 68) hc dX7_whereTest_66 rfl 5 rfl ?_
  refine ap_iload (q := 70) hc dX7_whereTest_68 rfl 0 rfl ?_
  refine ap_iload (q := 72) hc dX7_whereTest_70 rfl 2 rfl ?_
  refine ap_icmp_lt (q := 75) (tgt := 89) hc dX7_whereTest_72 rfl (by decide) (fun z_1 => ?_) (fun z_1 => ?_)
  · have h := Eq.mp (if_pos z_1) h
    exact ap_sub [1, 2, 3, 4, 6] rfl (bl_X7_whereTest_89 hc hz  hq ho2 hk39  h)
  · have h := Eq.mp (if_neg z_1) h
    refine ap_iload (q := 77) hc dX7_whereTest_75 rfl 0 rfl ?_
    refine ap_iload (q := 79) hc dX7_whereTest_77 rfl 3 rfl ?_
    refine ap_icmp_gt (q := 82) (tgt := 89) hc dX7_whereTest_79 rfl (by decide) (fun z_2 => ?_) (fun z_2 => ?_)
    · have h := Eq.mp (if_pos z_2) h
      exact ap_sub [1, 2, 3, 4, 6] rfl (bl_X7_whereTest_89 hc hz  hq ho2 hk39  h)
    · have h := Eq.mp (if_neg z_2) h
      refine ap_iconst (q := 83) hc dX7_whereTest_82 rfl ic_1 ?_
      refine ap_iload (q := 85) hc dX7_whereTest_83 rfl 6 rfl ?_
      refine ap_ishl (q := 86) hc dX7_whereTest_85 rfl ?_
      refine ap_goto (q := 90) hc dX7_whereTest_86 (by decide) ?_
      exact ap_sub [1, 2, 3, 4, 6] rfl (bl_X7_whereTest_90 hc hz  hq ho2 hk39  h)
def w_X7_whereTest_39_s   (kL39 : Int32 → Int32 → Int32 → Int32 → Int32 → ap_Mem → Prop) (q : Nat) (o2 : Nat) (x5 : Int32) (x6 : Int32) (x7 : Int32) (x8 : Int32) (x9 : Int32) (M : ap_Mem) (K : Int32 → ap_Mem → Prop) : Prop :=
(if 16 ≤ x9 then (K x8 M) else ((if x7 = 3 then (vp_in x9 16 ∧ w_X7_whereTest_64  kL39 q o2 x5 x6 x7 x8 x9 (M (q + 7) x9.toNatClampNeg) M K) else (w_X7_whereTest_64  kL39 q o2 x5 x6 x7 x8 x9 x9 M K))))
def w_X7_whereTest_39   (q : Nat) (o2 : Nat) (K : Int32 → ap_Mem → Prop) : Nat → Int32 → Int32 → Int32 → Int32 → Int32 → ap_Mem → Prop
  | 0, _, _, _, _, _, _ => False
  | n + 1, x5, x6, x7, x8, x9, M => w_X7_whereTest_39_s   (w_X7_whereTest_39   q o2 K n) q o2 x5 x6 x7 x8 x9 M K
theorem bl_X7_whereTest_39 {x : ap_X} {g : ap_G} (hc : ap_Cx x g cX7_whereTest RX7 11) {K : Int32 → ap_Mem → Prop} (hz : ap_Ends x g 0 (some .int) (ap_Qi K))   {q : Nat} {o2 : Nat} (hq : ap_kd q = 7) (ho2 : ap_kd o2 = 3)   : ∀ (n : Nat) (x5 : Int32) (x6 : Int32) (x7 : Int32) (x8 : Int32) (x9 : Int32) (M : ap_Mem), w_X7_whereTest_39   q o2 K n x5 x6 x7 x8 x9 M → ap_V x g 11 39 [(0, .ref (ap_ad g q)), (5, .int x5), (6, .int x6), (7, .int x7), (8, .int x8), (9, .int x9)] [] M := by
  intro n
  induction n with
  | zero => intro _ _ _ _ _ _ h; exact h.elim
  | succ n ih =>
    intro x5 x6 x7 x8 x9 M h
    replace h : w_X7_whereTest_39_s   (w_X7_whereTest_39   q o2 K n) q o2 x5 x6 x7 x8 x9 M K := h
    unfold w_X7_whereTest_39_s at h
    refine ap_iload (q := 41) hc dX7_whereTest_39 rfl 5 rfl ?_
    refine ap_bipush (q := 43) hc dX7_whereTest_41 rfl bc_16 ?_
    refine ap_icmp_ge (q := 46) (tgt := 99) hc dX7_whereTest_43 rfl (by decide) (fun z_1 => ?_) (fun z_1 => ?_)
    · have h := Eq.mp (if_pos z_1) h
      refine ap_iload (q := 101) hc dX7_whereTest_99 rfl 4 rfl ?_
      exact ap_iret hc hz rfl dX7_whereTest_101 h
    · have h := Eq.mp (if_neg z_1) h
      refine ap_iload (q := 48) hc dX7_whereTest_46 rfl 3 rfl ?_
      refine ap_iconst (q := 49) hc dX7_whereTest_48 rfl ic_3 ?_
      refine ap_icmp_ne (q := 52) (tgt := 62) hc dX7_whereTest_49 rfl (by decide) (fun z_2 => ?_) (fun z_2 => ?_)
      · have h := Eq.mp (if_neg z_2) h
        refine ap_iload (q := 64) hc dX7_whereTest_62 rfl 5 rfl ?_
        exact ap_sub [0, 1, 2, 3, 4, 5] rfl (bl_X7_whereTest_64 hc hz  hq ho2 ih  h)
      · have h := Eq.mp (if_pos z_2) h
        refine ap_aload_n (q := 53) hc dX7_whereTest_52 rfl rfl 0 rfl ?_
        refine ap_getR (q := 56) (r := q + 7) lg_RX7_44 (by decide) hq rfl hc dX7_whereTest_53 rfl ?_
        refine ap_iload (q := 58) hc dX7_whereTest_56 rfl 5 rfl ?_
        obtain ⟨g_3, h⟩ := h
        refine ap_iald (q := 59) (ty_7_7 hq) (tn_7_7 hq) g_3 hc dX7_whereTest_58 rfl ?_
        refine ap_goto (q := 64) hc dX7_whereTest_59 (by decide) ?_
        exact ap_sub [0, 1, 2, 3, 4, 5] rfl (bl_X7_whereTest_64 hc hz  hq ho2 ih  h)
def w_X7_whereTest_33   (q : Nat) (o2 : Nat) (x5 : Int32) (x6 : Int32) (x7 : Int32) (M : ap_Mem) (K : Int32 → ap_Mem → Prop) : Prop :=
w_X7_whereTest_39   q o2 K 4096 x5 x6 x7 0 0 M
theorem bl_X7_whereTest_33 {x : ap_X} {g : ap_G} (hc : ap_Cx x g cX7_whereTest RX7 11) {K : Int32 → ap_Mem → Prop} (hz : ap_Ends x g 0 (some .int) (ap_Qi K))   {q : Nat} {o2 : Nat} (hq : ap_kd q = 7) (ho2 : ap_kd o2 = 3)   {x5 : Int32} {x6 : Int32} {x7 : Int32} {M : ap_Mem}  (h : w_X7_whereTest_33   q o2 x5 x6 x7 M K) : ap_V x g 11 33 [(0, .ref (ap_ad g q)), (5, .int x5), (6, .int x6), (7, .int x7)] [] M := by
  unfold w_X7_whereTest_33 at h
  refine ap_iconst (q := 34) hc dX7_whereTest_33 rfl ic_0 ?_
  refine ap_istore (q := 36) (lo2 := [(8, .int 0), (0, .ref (ap_ad g q)), (5, .int x5), (6, .int x6), (7, .int x7)]) hc dX7_whereTest_34 rfl rfl (by decide) rfl ?_
  refine ap_iconst (q := 37) hc dX7_whereTest_36 rfl ic_0 ?_
  refine ap_istore (q := 39) (lo2 := [(9, .int 0), (8, .int 0), (0, .ref (ap_ad g q)), (5, .int x5), (6, .int x6), (7, .int x7)]) hc dX7_whereTest_37 rfl rfl (by decide) rfl ?_
  exact ap_sub [2, 3, 4, 5, 1, 0] rfl (bl_X7_whereTest_39 hc hz  hq ho2  _ _ _ _ _ _ _ h)
def w_X7_whereTest_148   (q : Nat) (o2 : Nat) (x5 : Int32) (x6 : Int32) (x8 : Int32) (M : ap_Mem) (K : Int32 → ap_Mem → Prop) : Prop :=
(if x8 < x5 then (K 0 M) else ((if x6 < x8 then (K 0 M) else (K 65535 M))))
theorem bl_X7_whereTest_148 {x : ap_X} {g : ap_G} (hc : ap_Cx x g cX7_whereTest RX7 11) {K : Int32 → ap_Mem → Prop} (hz : ap_Ends x g 0 (some .int) (ap_Qi K))   {q : Nat} {o2 : Nat} (hq : ap_kd q = 7) (ho2 : ap_kd o2 = 3)   {x5 : Int32} {x6 : Int32} {x8 : Int32} {M : ap_Mem}  (h : w_X7_whereTest_148   q o2 x5 x6 x8 M K) : ap_V x g 11 148 [(5, .int x5), (6, .int x6), (8, .int x8)] [] M := by
  unfold w_X7_whereTest_148 at h
  refine ap_iload (q := 150) hc dX7_whereTest_148 rfl 2 rfl ?_
  refine ap_iload (q := 152) hc dX7_whereTest_150 rfl 0 rfl ?_
  refine ap_icmp_lt (q := 155) (tgt := 167) hc dX7_whereTest_152 rfl (by decide) (fun z_1 => ?_) (fun z_1 => ?_)
  · have h := Eq.mp (if_pos z_1) h
    refine ap_iconst (q := 168) hc dX7_whereTest_167 rfl ic_0 ?_
    exact ap_iret hc hz rfl dX7_whereTest_168 h
  · have h := Eq.mp (if_neg z_1) h
    refine ap_iload (q := 157) hc dX7_whereTest_155 rfl 2 rfl ?_
    refine ap_iload (q := 159) hc dX7_whereTest_157 rfl 1 rfl ?_
    refine ap_icmp_gt (q := 162) (tgt := 167) hc dX7_whereTest_159 rfl (by decide) (fun z_2 => ?_) (fun z_2 => ?_)
    · have h := Eq.mp (if_pos z_2) h
      refine ap_iconst (q := 168) hc dX7_whereTest_167 rfl ic_0 ?_
      exact ap_iret hc hz rfl dX7_whereTest_168 h
    · have h := Eq.mp (if_neg z_2) h
      refine ap_ldc (q := 164) hc dX7_whereTest_162 rfl ct_RX7_73 ?_
      refine ap_goto (q := 168) hc dX7_whereTest_164 (by decide) ?_
      exact ap_iret hc hz rfl dX7_whereTest_168 h
def w_X7_whereTest   (q : Nat) (o2 : Nat) (x1 : Int32) (x3 : Int32) (x4 : Int32) (M : ap_Mem) (K : Int32 → ap_Mem → Prop) : Prop :=
∀ x5_1 : Int32, x5_1 = (x1 >>> (7 &&& 31)) &&& 127 → ∀ x6_2 : Int32, x6_2 = x1 &&& 127 → ∀ x7_3 : Int32, x7_3 = x1 >>> (14 &&& 31) → (if x7_3 = 3 then (w_X7_whereTest_33   q o2 x5_1 x6_2 x7_3 M K) else ((if x7_3 = 4 then (w_X7_whereTest_33   q o2 x5_1 x6_2 x7_3 M K) else ((if x7_3 = 0 then (w_X7_whereTest_148   q o2 x5_1 x6_2 x3 M K) else ((if x7_3 = 1 then (vp_in x3 6 ∧ ∀ x8_12 : Int32, x8_12 = M (o2 + 1) x3.toNatClampNeg → w_X7_whereTest_148   q o2 x5_1 x6_2 x8_12 M K) else ((if x7_3 = 2 then (vp_in x3 6 ∧ ∀ x8_10 : Int32, x8_10 = M (o2 + 2) x3.toNatClampNeg → w_X7_whereTest_148   q o2 x5_1 x6_2 x8_10 M K) else (w_X7_whereTest_148   q o2 x5_1 x6_2 x4 M K))))))))))
theorem bl_X7_whereTest_0 {x : ap_X} {g : ap_G} (hc : ap_Cx x g cX7_whereTest RX7 11) {K : Int32 → ap_Mem → Prop} (hz : ap_Ends x g 0 (some .int) (ap_Qi K))   {q : Nat} {o2 : Nat} (hq : ap_kd q = 7) (ho2 : ap_kd o2 = 3)   {x1 : Int32} {x3 : Int32} {x4 : Int32} {M : ap_Mem}  (h : w_X7_whereTest   q o2 x1 x3 x4 M K) : ap_V x g 11 0 [(0, .ref (ap_ad g q)), (1, .int x1), (2, .ref (ap_ad g o2)), (3, .int x3), (4, .int x4)] [] M := by
  unfold w_X7_whereTest at h
  refine ap_iload_n (q := 1) hc dX7_whereTest_0 rfl rfl 1 rfl ?_
  refine ap_bipush (q := 3) hc dX7_whereTest_1 rfl bc_7 ?_
  refine ap_ishr (q := 4) hc dX7_whereTest_3 rfl ?_
  refine ap_bipush (q := 6) hc dX7_whereTest_4 rfl bc_127 ?_
  refine ap_iand (q := 7) hc dX7_whereTest_6 rfl ?_
  obtain ⟨x5_1, ex5_1, h⟩ := ap_nm h
  refine ap_istore (q := 9) (lo2 := [(5, .int x5_1), (0, .ref (ap_ad g q)), (1, .int x1), (2, .ref (ap_ad g o2)), (3, .int x3), (4, .int x4)]) hc dX7_whereTest_7 rfl ex5_1 (by decide) rfl ?_
  refine ap_iload_n (q := 10) hc dX7_whereTest_9 rfl rfl 2 rfl ?_
  refine ap_bipush (q := 12) hc dX7_whereTest_10 rfl bc_127 ?_
  refine ap_iand (q := 13) hc dX7_whereTest_12 rfl ?_
  obtain ⟨x6_2, ex6_2, h⟩ := ap_nm h
  refine ap_istore (q := 15) (lo2 := [(6, .int x6_2), (5, .int x5_1), (0, .ref (ap_ad g q)), (1, .int x1), (2, .ref (ap_ad g o2)), (3, .int x3), (4, .int x4)]) hc dX7_whereTest_13 rfl ex6_2 (by decide) rfl ?_
  refine ap_iload_n (q := 16) hc dX7_whereTest_15 rfl rfl 3 rfl ?_
  refine ap_bipush (q := 18) hc dX7_whereTest_16 rfl bc_14 ?_
  refine ap_ishr (q := 19) hc dX7_whereTest_18 rfl ?_
  obtain ⟨x7_3, ex7_3, h⟩ := ap_nm h
  refine ap_istore (q := 21) (lo2 := [(7, .int x7_3), (6, .int x6_2), (5, .int x5_1), (0, .ref (ap_ad g q)), (1, .int x1), (2, .ref (ap_ad g o2)), (3, .int x3), (4, .int x4)]) hc dX7_whereTest_19 rfl ex7_3 (by decide) rfl ?_
  refine ap_iload (q := 23) hc dX7_whereTest_21 rfl 0 rfl ?_
  refine ap_iconst (q := 24) hc dX7_whereTest_23 rfl ic_3 ?_
  refine ap_icmp_eq (q := 27) (tgt := 33) hc dX7_whereTest_24 rfl (by decide) (fun z_4 => ?_) (fun z_4 => ?_)
  · have h := Eq.mp (if_pos z_4) h
    exact ap_sub [3, 2, 1, 0] rfl (bl_X7_whereTest_33 hc hz  hq ho2   h)
  · have h := Eq.mp (if_neg z_4) h
    refine ap_iload (q := 29) hc dX7_whereTest_27 rfl 0 rfl ?_
    refine ap_iconst (q := 30) hc dX7_whereTest_29 rfl ic_4 ?_
    refine ap_icmp_ne (q := 33) (tgt := 102) hc dX7_whereTest_30 rfl (by decide) (fun z_5 => ?_) (fun z_5 => ?_)
    · have h := Eq.mp (if_neg z_5) h
      refine ap_iload (q := 104) hc dX7_whereTest_102 rfl 7 rfl ?_
      refine ap_istore (q := 106) (lo2 := [(8, .int x4), (7, .int x7_3), (6, .int x6_2), (5, .int x5_1), (0, .ref (ap_ad g q)), (1, .int x1), (2, .ref (ap_ad g o2)), (3, .int x3), (4, .int x4)]) hc dX7_whereTest_104 rfl rfl (by decide) rfl ?_
      refine ap_iload (q := 108) hc dX7_whereTest_106 rfl 1 rfl ?_
      refine ap_if_ne (q := 111) (tgt := 117) hc dX7_whereTest_108 rfl (by decide) (fun z_6 => ?_) (fun z_6 => ?_)
      · have h := Eq.mp (if_neg z_6) h
        refine ap_iload (q := 119) hc dX7_whereTest_117 rfl 1 rfl ?_
        refine ap_iconst (q := 120) hc dX7_whereTest_119 rfl ic_1 ?_
        refine ap_icmp_ne (q := 123) (tgt := 134) hc dX7_whereTest_120 rfl (by decide) (fun z_7 => ?_) (fun z_7 => ?_)
        · have h := Eq.mp (if_neg z_7) h
          refine ap_iload (q := 136) hc dX7_whereTest_134 rfl 1 rfl ?_
          refine ap_iconst (q := 137) hc dX7_whereTest_136 rfl ic_2 ?_
          refine ap_icmp_ne (q := 140) (tgt := 148) hc dX7_whereTest_137 rfl (by decide) (fun z_8 => ?_) (fun z_8 => ?_)
          · have h := Eq.mp (if_neg z_8) h
            exact ap_sub [3, 2, 0] rfl (bl_X7_whereTest_148 hc hz  hq ho2   h)
          · have h := Eq.mp (if_pos z_8) h
            refine ap_aload_n (q := 141) hc dX7_whereTest_140 rfl rfl 6 rfl ?_
            refine ap_getR (q := 144) (r := o2 + 2) lg_RX7_77 (by decide) ho2 rfl hc dX7_whereTest_141 rfl ?_
            refine ap_iload_n (q := 145) hc dX7_whereTest_144 rfl rfl 7 rfl ?_
            obtain ⟨g_9, h⟩ := h
            refine ap_iald (q := 146) (ty_3_2 ho2) (tn_3_2 ho2) g_9 hc dX7_whereTest_145 rfl ?_
            obtain ⟨x8_10, ex8_10, h⟩ := ap_nm h
            refine ap_istore (q := 148) (lo2 := [(8, .int x8_10), (7, .int x7_3), (6, .int x6_2), (5, .int x5_1), (0, .ref (ap_ad g q)), (1, .int x1), (2, .ref (ap_ad g o2)), (3, .int x3), (4, .int x4)]) hc dX7_whereTest_146 rfl ex8_10 (by decide) rfl ?_
            exact ap_sub [3, 2, 0] rfl (bl_X7_whereTest_148 hc hz  hq ho2   h)
        · have h := Eq.mp (if_pos z_7) h
          refine ap_aload_n (q := 124) hc dX7_whereTest_123 rfl rfl 6 rfl ?_
          refine ap_getR (q := 127) (r := o2 + 1) lg_RX7_74 (by decide) ho2 rfl hc dX7_whereTest_124 rfl ?_
          refine ap_iload_n (q := 128) hc dX7_whereTest_127 rfl rfl 7 rfl ?_
          obtain ⟨g_11, h⟩ := h
          refine ap_iald (q := 129) (ty_3_1 ho2) (tn_3_1 ho2) g_11 hc dX7_whereTest_128 rfl ?_
          obtain ⟨x8_12, ex8_12, h⟩ := ap_nm h
          refine ap_istore (q := 131) (lo2 := [(8, .int x8_12), (7, .int x7_3), (6, .int x6_2), (5, .int x5_1), (0, .ref (ap_ad g q)), (1, .int x1), (2, .ref (ap_ad g o2)), (3, .int x3), (4, .int x4)]) hc dX7_whereTest_129 rfl ex8_12 (by decide) rfl ?_
          refine ap_goto (q := 148) hc dX7_whereTest_131 (by decide) ?_
          exact ap_sub [3, 2, 0] rfl (bl_X7_whereTest_148 hc hz  hq ho2   h)
      · have h := Eq.mp (if_pos z_6) h
        refine ap_iload_n (q := 112) hc dX7_whereTest_111 rfl rfl 7 rfl ?_
        refine ap_istore (q := 114) (lo2 := [(8, .int x3), (7, .int x7_3), (6, .int x6_2), (5, .int x5_1), (0, .ref (ap_ad g q)), (1, .int x1), (2, .ref (ap_ad g o2)), (3, .int x3), (4, .int x4)]) hc dX7_whereTest_112 rfl rfl (by decide) rfl ?_
        refine ap_goto (q := 148) hc dX7_whereTest_114 (by decide) ?_
        exact ap_sub [3, 2, 0] rfl (bl_X7_whereTest_148 hc hz  hq ho2   h)
    · have h := Eq.mp (if_pos z_5) h
      exact ap_sub [3, 2, 1, 0] rfl (bl_X7_whereTest_33 hc hz  hq ho2   h)
theorem ok_X7_whereTest {l : Launch} {g : ap_G} (hg : ap_GOK g) {q : Nat} {o2 : Nat} (hq : ap_kd q = 7) (ho2 : ap_kd o2 = 3) {x1 : Int32} {x3 : Int32} {x4 : Int32} {M : ap_Mem} {K : Int32 → ap_Mem → Prop} (h : w_X7_whereTest q o2 x1 x3 x4 M K) : ap_Ct l g yX7_whereTest cX7_whereTest 11 (some .int) 0 [.ref (ap_ad g q), .int x1, .ref (ap_ad g o2), .int x3, .int x4] M (ap_Qi K) := by
  refine ap_Ct_of hg (by decide +kernel) (Nat.le_of_ble_eq_true rfl) (fun x hx hc hz => ?_)
  subst hx
  exact bl_X7_whereTest_0 hc hz hq ho2 h
def w_X7_whereHolds_188  (kL38 : Int32 → Int32 → Int32 → Int32 → Int32 → ap_Mem → Prop) (q : Nat) (o2 : Nat) (x3 : Int32) (x4 : Int32) (x5 : Int32) (x6 : Int32) (x7 : Int32) (M : ap_Mem) (K : Int32 → ap_Mem → Prop) : Prop :=
∀ x7_1 : Int32, x7_1 = x7 + 1 → kL38 x3 x4 x5 x6 x7_1 M
theorem bl_X7_whereHolds_188 {x : ap_X} {g : ap_G} (hc : ap_Cx x g cX7_whereHolds RX7 11) {K : Int32 → ap_Mem → Prop} (hz : ap_Ends x g 1 (some .int) (ap_Qi K))   {q : Nat} {o2 : Nat} (hq : ap_kd q = 7) (ho2 : ap_kd o2 = 3) {kL38 : Int32 → Int32 → Int32 → Int32 → Int32 → ap_Mem → Prop} (hk38 : ∀ (x3 : Int32) (x4 : Int32) (x5 : Int32) (x6 : Int32) (x7 : Int32)  (M : ap_Mem), kL38 x3 x4 x5 x6 x7 M → ap_V x g 11 38 [(0, .ref (ap_ad g q)), (2, .ref (ap_ad g o2)), (3, .int x3), (4, .int x4), (5, .int x5), (6, .int x6), (7, .int x7)] [] M) {x3 : Int32} {x4 : Int32} {x5 : Int32} {x6 : Int32} {x7 : Int32} {M : ap_Mem}  (h : w_X7_whereHolds_188  kL38 q o2 x3 x4 x5 x6 x7 M K) : ap_V x g 11 188 [(0, .ref (ap_ad g q)), (2, .ref (ap_ad g o2)), (3, .int x3), (4, .int x4), (5, .int x5), (6, .int x6), (7, .int x7)] [] M := by
  unfold w_X7_whereHolds_188 at h
  obtain ⟨x7_1, ex7_1, h⟩ := ap_nm h
  refine ap_iinc (q := 191) (lo2 := [(7, .int x7_1), (0, .ref (ap_ad g q)), (2, .ref (ap_ad g o2)), (3, .int x3), (4, .int x4), (5, .int x5), (6, .int x6)]) hc dX7_whereHolds_188 rfl 6 rfl (by rw [ex7_1]; rfl) (by decide) rfl ?_
  refine ap_goto (q := 38) hc dX7_whereHolds_191 (by decide) ?_
  exact ap_sub [1, 2, 3, 4, 5, 6, 0] rfl (hk38 _ _ _ _ _ _ h)
def w_X7_whereHolds_187  (kL38 : Int32 → Int32 → Int32 → Int32 → Int32 → ap_Mem → Prop) (q : Nat) (o2 : Nat) (x3 : Int32) (x4 : Int32) (x5 : Int32) (x6 : Int32) (x7 : Int32) (s0 : Int32) (s1 : Int32) (M : ap_Mem) (K : Int32 → ap_Mem → Prop) : Prop :=
vp_in s1 13 ∧ ∀ M_2 : ap_Mem, M_2 = ap_mu M (q + 5) s1.toNatClampNeg s0 → w_X7_whereHolds_188  kL38 q o2 x3 x4 x5 x6 x7 M_2 K
theorem bl_X7_whereHolds_187 {x : ap_X} {g : ap_G} (hc : ap_Cx x g cX7_whereHolds RX7 11) {K : Int32 → ap_Mem → Prop} (hz : ap_Ends x g 1 (some .int) (ap_Qi K))   {q : Nat} {o2 : Nat} (hq : ap_kd q = 7) (ho2 : ap_kd o2 = 3) {kL38 : Int32 → Int32 → Int32 → Int32 → Int32 → ap_Mem → Prop} (hk38 : ∀ (x3 : Int32) (x4 : Int32) (x5 : Int32) (x6 : Int32) (x7 : Int32)  (M : ap_Mem), kL38 x3 x4 x5 x6 x7 M → ap_V x g 11 38 [(0, .ref (ap_ad g q)), (2, .ref (ap_ad g o2)), (3, .int x3), (4, .int x4), (5, .int x5), (6, .int x6), (7, .int x7)] [] M) {x3 : Int32} {x4 : Int32} {x5 : Int32} {x6 : Int32} {x7 : Int32} {s0 : Int32} {s1 : Int32} {M : ap_Mem}  (h : w_X7_whereHolds_187  kL38 q o2 x3 x4 x5 x6 x7 s0 s1 M K) : ap_V x g 11 187 [(0, .ref (ap_ad g q)), (2, .ref (ap_ad g o2)), (3, .int x3), (4, .int x4), (5, .int x5), (6, .int x6), (7, .int x7)] [.int s0, .int s1, .ref (ap_ad g (q + 5))] M := by
  unfold w_X7_whereHolds_187 at h
  obtain ⟨g_1, h⟩ := h
  obtain ⟨M_2, eM_2, h⟩ := ap_nm h
  refine ap_iast (q := 188) (ty_7_5 hq) (tn_7_5 hq) g_1 eM_2 hc dX7_whereHolds_187 rfl ?_
  exact ap_sub [0, 1, 2, 3, 4, 5, 6] rfl (bl_X7_whereHolds_188 hc hz  hq ho2 hk38  h)
def w_X7_whereHolds_118  (kL38 : Int32 → Int32 → Int32 → Int32 → Int32 → ap_Mem → Prop) (q : Nat) (o2 : Nat) (x3 : Int32) (x4 : Int32) (x5 : Int32) (x6 : Int32) (x7 : Int32) (x8 : Int32) (M : ap_Mem) (K : Int32 → ap_Mem → Prop) : Prop :=
(if x6 ≤ 1 then (w_X7_whereHolds_188  kL38 q o2 x3 x4 x5 x6 x7 M K) else (∀ x6_2 : Int32, x6_2 = x6 + (-1) → vp_in (x6_2 - 1) 13 ∧ vp_in x6_2 13 ∧ ∀ x9_5 : Int32, x9_5 = (M (q + 5) (x6_2 - 1).toNatClampNeg) &&& (M (q + 5) x6_2.toNatClampNeg) → vp_in (x6_2 - 1) 13 ∧ vp_in x6_2 13 ∧ ∀ x10_8 : Int32, x10_8 = (M (q + 5) (x6_2 - 1).toNatClampNeg) ||| (M (q + 5) x6_2.toNatClampNeg) → (if x8 = (-2) then (w_X7_whereHolds_187  kL38 q o2 x3 x4 x5 x6_2 x7 x9_5 (x6_2 - 1) M K) else (w_X7_whereHolds_187  kL38 q o2 x3 x4 x5 x6_2 x7 x10_8 (x6_2 - 1) M K))))
theorem bl_X7_whereHolds_118 {x : ap_X} {g : ap_G} (hc : ap_Cx x g cX7_whereHolds RX7 11) {K : Int32 → ap_Mem → Prop} (hz : ap_Ends x g 1 (some .int) (ap_Qi K))   {q : Nat} {o2 : Nat} (hq : ap_kd q = 7) (ho2 : ap_kd o2 = 3) {kL38 : Int32 → Int32 → Int32 → Int32 → Int32 → ap_Mem → Prop} (hk38 : ∀ (x3 : Int32) (x4 : Int32) (x5 : Int32) (x6 : Int32) (x7 : Int32)  (M : ap_Mem), kL38 x3 x4 x5 x6 x7 M → ap_V x g 11 38 [(0, .ref (ap_ad g q)), (2, .ref (ap_ad g o2)), (3, .int x3), (4, .int x4), (5, .int x5), (6, .int x6), (7, .int x7)] [] M) {x3 : Int32} {x4 : Int32} {x5 : Int32} {x6 : Int32} {x7 : Int32} {x8 : Int32} {M : ap_Mem}  (h : w_X7_whereHolds_118  kL38 q o2 x3 x4 x5 x6 x7 x8 M K) : ap_V x g 11 118 [(0, .ref (ap_ad g q)), (2, .ref (ap_ad g o2)), (3, .int x3), (4, .int x4), (5, .int x5), (6, .int x6), (7, .int x7), (8, .int x8)] [] M := by
  unfold w_X7_whereHolds_118 at h
  refine ap_iload (q := 120) hc dX7_whereHolds_118 rfl 5 rfl ?_
  refine ap_iconst (q := 121) hc dX7_whereHolds_120 rfl ic_1 ?_
  refine ap_icmp_le (q := 124) (tgt := 188) hc dX7_whereHolds_121 rfl (by decide) (fun z_1 => ?_) (fun z_1 => ?_)
  · have h := Eq.mp (if_pos z_1) h
    exact ap_sub [0, 1, 2, 3, 4, 5, 6] rfl (bl_X7_whereHolds_188 hc hz  hq ho2 hk38  h)
  · have h := Eq.mp (if_neg z_1) h
    obtain ⟨x6_2, ex6_2, h⟩ := ap_nm h
    refine ap_iinc (q := 127) (lo2 := [(6, .int x6_2), (0, .ref (ap_ad g q)), (2, .ref (ap_ad g o2)), (3, .int x3), (4, .int x4), (5, .int x5), (7, .int x7), (8, .int x8)]) hc dX7_whereHolds_124 rfl 5 rfl (by rw [ex6_2]; rfl) (by decide) rfl ?_
    refine ap_aload_n (q := 128) hc dX7_whereHolds_127 rfl rfl 1 rfl ?_
    refine ap_getR (q := 131) (r := q + 5) lg_RX7_38 (by decide) hq rfl hc dX7_whereHolds_128 rfl ?_
    refine ap_iload (q := 133) hc dX7_whereHolds_131 rfl 0 rfl ?_
    refine ap_iconst (q := 134) hc dX7_whereHolds_133 rfl ic_1 ?_
    refine ap_isub (q := 135) hc dX7_whereHolds_134 rfl ?_
    obtain ⟨g_3, h⟩ := h
    refine ap_iald (q := 136) (ty_7_5 hq) (tn_7_5 hq) g_3 hc dX7_whereHolds_135 rfl ?_
    refine ap_aload_n (q := 137) hc dX7_whereHolds_136 rfl rfl 1 rfl ?_
    refine ap_getR (q := 140) (r := q + 5) lg_RX7_38 (by decide) hq rfl hc dX7_whereHolds_137 rfl ?_
    refine ap_iload (q := 142) hc dX7_whereHolds_140 rfl 0 rfl ?_
    obtain ⟨g_4, h⟩ := h
    refine ap_iald (q := 143) (ty_7_5 hq) (tn_7_5 hq) g_4 hc dX7_whereHolds_142 rfl ?_
    refine ap_iand (q := 144) hc dX7_whereHolds_143 rfl ?_
    obtain ⟨x9_5, ex9_5, h⟩ := ap_nm h
    refine ap_istore (q := 146) (lo2 := [(9, .int x9_5), (6, .int x6_2), (0, .ref (ap_ad g q)), (2, .ref (ap_ad g o2)), (3, .int x3), (4, .int x4), (5, .int x5), (7, .int x7), (8, .int x8)]) hc dX7_whereHolds_144 rfl ex9_5 (by decide) rfl ?_
    refine ap_aload_n (q := 147) hc dX7_whereHolds_146 rfl rfl 2 rfl ?_
    refine ap_getR (q := 150) (r := q + 5) lg_RX7_38 (by decide) hq rfl hc dX7_whereHolds_147 rfl ?_
    refine ap_iload (q := 152) hc dX7_whereHolds_150 rfl 1 rfl ?_
    refine ap_iconst (q := 153) hc dX7_whereHolds_152 rfl ic_1 ?_
    refine ap_isub (q := 154) hc dX7_whereHolds_153 rfl ?_
    obtain ⟨g_6, h⟩ := h
    refine ap_iald (q := 155) (ty_7_5 hq) (tn_7_5 hq) g_6 hc dX7_whereHolds_154 rfl ?_
    refine ap_aload_n (q := 156) hc dX7_whereHolds_155 rfl rfl 2 rfl ?_
    refine ap_getR (q := 159) (r := q + 5) lg_RX7_38 (by decide) hq rfl hc dX7_whereHolds_156 rfl ?_
    refine ap_iload (q := 161) hc dX7_whereHolds_159 rfl 1 rfl ?_
    obtain ⟨g_7, h⟩ := h
    refine ap_iald (q := 162) (ty_7_5 hq) (tn_7_5 hq) g_7 hc dX7_whereHolds_161 rfl ?_
    refine ap_ior (q := 163) hc dX7_whereHolds_162 rfl ?_
    obtain ⟨x10_8, ex10_8, h⟩ := ap_nm h
    refine ap_istore (q := 165) (lo2 := [(10, .int x10_8), (9, .int x9_5), (6, .int x6_2), (0, .ref (ap_ad g q)), (2, .ref (ap_ad g o2)), (3, .int x3), (4, .int x4), (5, .int x5), (7, .int x7), (8, .int x8)]) hc dX7_whereHolds_163 rfl ex10_8 (by decide) rfl ?_
    refine ap_aload_n (q := 166) hc dX7_whereHolds_165 rfl rfl 3 rfl ?_
    refine ap_getR (q := 169) (r := q + 5) lg_RX7_38 (by decide) hq rfl hc dX7_whereHolds_166 rfl ?_
    refine ap_iload (q := 171) hc dX7_whereHolds_169 rfl 2 rfl ?_
    refine ap_iconst (q := 172) hc dX7_whereHolds_171 rfl ic_1 ?_
    refine ap_isub (q := 173) hc dX7_whereHolds_172 rfl ?_
    refine ap_iload (q := 175) hc dX7_whereHolds_173 rfl 9 rfl ?_
    refine ap_bipush (q := 177) hc dX7_whereHolds_175 rfl bc_m2 ?_
    refine ap_icmp_ne (q := 180) (tgt := 185) hc dX7_whereHolds_177 rfl (by decide) (fun z_9 => ?_) (fun z_9 => ?_)
    · have h := Eq.mp (if_neg z_9) h
      refine ap_iload (q := 187) hc dX7_whereHolds_185 rfl 0 rfl ?_
      exact ap_sub [3, 4, 5, 6, 7, 2, 8] rfl (bl_X7_whereHolds_187 hc hz  hq ho2 hk38  h)
    · have h := Eq.mp (if_pos z_9) h
      refine ap_iload (q := 182) hc dX7_whereHolds_180 rfl 1 rfl ?_
      refine ap_goto (q := 187) hc dX7_whereHolds_182 (by decide) ?_
      exact ap_sub [3, 4, 5, 6, 7, 2, 8] rfl (bl_X7_whereHolds_187 hc hz  hq ho2 hk38  h)
def w_X7_whereHolds_89  (kL38 : Int32 → Int32 → Int32 → Int32 → Int32 → ap_Mem → Prop) (q : Nat) (o2 : Nat) (x3 : Int32) (x4 : Int32) (x5 : Int32) (x6 : Int32) (x7 : Int32) (x8 : Int32) (M : ap_Mem) (K : Int32 → ap_Mem → Prop) : Prop :=
(if x8 = (-3) then ((if x6 ≤ 0 then (w_X7_whereHolds_118  kL38 q o2 x3 x4 x5 x6 x7 x8 M K) else (vp_in (x6 - 1) 13 ∧ vp_in (x6 - 1) 13 ∧ ∀ M_5 : ap_Mem, M_5 = ap_mu M (q + 5) (x6 - 1).toNatClampNeg ((M (q + 5) (x6 - 1).toNatClampNeg) ^^^ 65535) → w_X7_whereHolds_188  kL38 q o2 x3 x4 x5 x6 x7 M_5 K))) else (w_X7_whereHolds_118  kL38 q o2 x3 x4 x5 x6 x7 x8 M K))
theorem bl_X7_whereHolds_89 {x : ap_X} {g : ap_G} (hc : ap_Cx x g cX7_whereHolds RX7 11) {K : Int32 → ap_Mem → Prop} (hz : ap_Ends x g 1 (some .int) (ap_Qi K))   {q : Nat} {o2 : Nat} (hq : ap_kd q = 7) (ho2 : ap_kd o2 = 3) {kL38 : Int32 → Int32 → Int32 → Int32 → Int32 → ap_Mem → Prop} (hk38 : ∀ (x3 : Int32) (x4 : Int32) (x5 : Int32) (x6 : Int32) (x7 : Int32)  (M : ap_Mem), kL38 x3 x4 x5 x6 x7 M → ap_V x g 11 38 [(0, .ref (ap_ad g q)), (2, .ref (ap_ad g o2)), (3, .int x3), (4, .int x4), (5, .int x5), (6, .int x6), (7, .int x7)] [] M) {x3 : Int32} {x4 : Int32} {x5 : Int32} {x6 : Int32} {x7 : Int32} {x8 : Int32} {M : ap_Mem}  (h : w_X7_whereHolds_89  kL38 q o2 x3 x4 x5 x6 x7 x8 M K) : ap_V x g 11 89 [(0, .ref (ap_ad g q)), (2, .ref (ap_ad g o2)), (3, .int x3), (4, .int x4), (5, .int x5), (6, .int x6), (7, .int x7), (8, .int x8)] [] M := by
  unfold w_X7_whereHolds_89 at h
  refine ap_iload (q := 91) hc dX7_whereHolds_89 rfl 7 rfl ?_
  refine ap_bipush (q := 93) hc dX7_whereHolds_91 rfl bc_m3 ?_
  refine ap_icmp_ne (q := 96) (tgt := 118) hc dX7_whereHolds_93 rfl (by decide) (fun z_1 => ?_) (fun z_1 => ?_)
  · have h := Eq.mp (if_neg z_1) h
    exact ap_sub [0, 1, 2, 3, 4, 5, 6, 7] rfl (bl_X7_whereHolds_118 hc hz  hq ho2 hk38  h)
  · have h := Eq.mp (if_pos z_1) h
    refine ap_iload (q := 98) hc dX7_whereHolds_96 rfl 5 rfl ?_
    refine ap_if_le (q := 101) (tgt := 118) hc dX7_whereHolds_98 rfl (by decide) (fun z_2 => ?_) (fun z_2 => ?_)
    · have h := Eq.mp (if_pos z_2) h
      exact ap_sub [0, 1, 2, 3, 4, 5, 6, 7] rfl (bl_X7_whereHolds_118 hc hz  hq ho2 hk38  h)
    · have h := Eq.mp (if_neg z_2) h
      refine ap_aload_n (q := 102) hc dX7_whereHolds_101 rfl rfl 0 rfl ?_
      refine ap_getR (q := 105) (r := q + 5) lg_RX7_38 (by decide) hq rfl hc dX7_whereHolds_102 rfl ?_
      refine ap_iload (q := 107) hc dX7_whereHolds_105 rfl 5 rfl ?_
      refine ap_iconst (q := 108) hc dX7_whereHolds_107 rfl ic_1 ?_
      refine ap_isub (q := 109) hc dX7_whereHolds_108 rfl ?_
      refine ap_dup2 (q := 110) hc dX7_whereHolds_109 rfl rfl rfl ?_
      obtain ⟨g_3, h⟩ := h
      refine ap_iald (q := 111) (ty_7_5 hq) (tn_7_5 hq) g_3 hc dX7_whereHolds_110 rfl ?_
      refine ap_ldc (q := 113) hc dX7_whereHolds_111 rfl ct_RX7_73 ?_
      refine ap_ixor (q := 114) hc dX7_whereHolds_113 rfl ?_
      obtain ⟨g_4, h⟩ := h
      obtain ⟨M_5, eM_5, h⟩ := ap_nm h
      refine ap_iast (q := 115) (ty_7_5 hq) (tn_7_5 hq) g_4 eM_5 hc dX7_whereHolds_114 rfl ?_
      refine ap_goto (q := 188) hc dX7_whereHolds_115 (by decide) ?_
      exact ap_sub [0, 1, 2, 3, 4, 5, 6] rfl (bl_X7_whereHolds_188 hc hz  hq ho2 hk38  h)
def w_X7_whereHolds_38_s   (kL38 : Int32 → Int32 → Int32 → Int32 → Int32 → ap_Mem → Prop) (q : Nat) (o2 : Nat) (x3 : Int32) (x4 : Int32) (x5 : Int32) (x6 : Int32) (x7 : Int32) (M : ap_Mem) (K : Int32 → ap_Mem → Prop) : Prop :=
(if x5 ≤ x7 then ((if x6 ≤ 0 then (K 0 M) else (vp_in (x6 - 1) 13 ∧ K (M (q + 5) (x6 - 1).toNatClampNeg) M))) else (vp_in x7 100 ∧ ∀ x8_5 : Int32, x8_5 = M (q + 4) x7.toNatClampNeg → (if x8_5 < 0 then (w_X7_whereHolds_89  kL38 q o2 x3 x4 x5 x6 x7 x8_5 M K) else ((if 13 ≤ x6 then (w_X7_whereHolds_89  kL38 q o2 x3 x4 x5 x6 x7 x8_5 M K) else (w_X7_whereTest q o2 x8_5 x3 x4 M (fun r_8 M_9 => vp_in x6 13 ∧ ∀ M_11 : ap_Mem, M_11 = ap_mu M_9 (q + 5) x6.toNatClampNeg r_8 → ∀ x6_12 : Int32, x6_12 = x6 + 1 → w_X7_whereHolds_188  kL38 q o2 x3 x4 x5 x6_12 x7 M_11 K)))))))
def w_X7_whereHolds_38   (q : Nat) (o2 : Nat) (K : Int32 → ap_Mem → Prop) : Nat → Int32 → Int32 → Int32 → Int32 → Int32 → ap_Mem → Prop
  | 0, _, _, _, _, _, _ => False
  | n + 1, x3, x4, x5, x6, x7, M => w_X7_whereHolds_38_s   (w_X7_whereHolds_38   q o2 K n) q o2 x3 x4 x5 x6 x7 M K
theorem bl_X7_whereHolds_38 {x : ap_X} {g : ap_G} (hc : ap_Cx x g cX7_whereHolds RX7 11) {K : Int32 → ap_Mem → Prop} (hz : ap_Ends x g 1 (some .int) (ap_Qi K))   {q : Nat} {o2 : Nat} (hq : ap_kd q = 7) (ho2 : ap_kd o2 = 3)   : ∀ (n : Nat) (x3 : Int32) (x4 : Int32) (x5 : Int32) (x6 : Int32) (x7 : Int32) (M : ap_Mem), w_X7_whereHolds_38   q o2 K n x3 x4 x5 x6 x7 M → ap_V x g 11 38 [(0, .ref (ap_ad g q)), (2, .ref (ap_ad g o2)), (3, .int x3), (4, .int x4), (5, .int x5), (6, .int x6), (7, .int x7)] [] M := by
  have hg := hc.2.2.2.2.2.2.2.1
  intro n
  induction n with
  | zero => intro _ _ _ _ _ _ h; exact h.elim
  | succ n ih =>
    intro x3 x4 x5 x6 x7 M h
    replace h : w_X7_whereHolds_38_s   (w_X7_whereHolds_38   q o2 K n) q o2 x3 x4 x5 x6 x7 M K := h
    unfold w_X7_whereHolds_38_s at h
    refine ap_iload (q := 40) hc dX7_whereHolds_38 rfl 6 rfl ?_
    refine ap_iload (q := 42) hc dX7_whereHolds_40 rfl 4 rfl ?_
    refine ap_icmp_ge (q := 45) (tgt := 194) hc dX7_whereHolds_42 rfl (by decide) (fun z_1 => ?_) (fun z_1 => ?_)
    · have h := Eq.mp (if_pos z_1) h
      refine ap_iload (q := 196) hc dX7_whereHolds_194 rfl 5 rfl ?_
      refine ap_if_le (q := 199) (tgt := 211) hc dX7_whereHolds_196 rfl (by decide) (fun z_2 => ?_) (fun z_2 => ?_)
      · have h := Eq.mp (if_pos z_2) h
        refine ap_iconst (q := 212) hc dX7_whereHolds_211 rfl ic_0 ?_
        exact ap_iret hc hz rfl dX7_whereHolds_212 h
      · have h := Eq.mp (if_neg z_2) h
        refine ap_aload_n (q := 200) hc dX7_whereHolds_199 rfl rfl 0 rfl ?_
        refine ap_getR (q := 203) (r := q + 5) lg_RX7_38 (by decide) hq rfl hc dX7_whereHolds_200 rfl ?_
        refine ap_iload (q := 205) hc dX7_whereHolds_203 rfl 5 rfl ?_
        refine ap_iconst (q := 206) hc dX7_whereHolds_205 rfl ic_1 ?_
        refine ap_isub (q := 207) hc dX7_whereHolds_206 rfl ?_
        obtain ⟨g_3, h⟩ := h
        refine ap_iald (q := 208) (ty_7_5 hq) (tn_7_5 hq) g_3 hc dX7_whereHolds_207 rfl ?_
        refine ap_goto (q := 212) hc dX7_whereHolds_208 (by decide) ?_
        exact ap_iret hc hz rfl dX7_whereHolds_212 h
    · have h := Eq.mp (if_neg z_1) h
      refine ap_aload_n (q := 46) hc dX7_whereHolds_45 rfl rfl 0 rfl ?_
      refine ap_getR (q := 49) (r := q + 4) lg_RX7_21 (by decide) hq rfl hc dX7_whereHolds_46 rfl ?_
      refine ap_iload (q := 51) hc dX7_whereHolds_49 rfl 6 rfl ?_
      obtain ⟨g_4, h⟩ := h
      refine ap_iald (q := 52) (ty_7_4 hq) (tn_7_4 hq) g_4 hc dX7_whereHolds_51 rfl ?_
      obtain ⟨x8_5, ex8_5, h⟩ := ap_nm h
      refine ap_istore (q := 54) (lo2 := [(8, .int x8_5), (0, .ref (ap_ad g q)), (2, .ref (ap_ad g o2)), (3, .int x3), (4, .int x4), (5, .int x5), (6, .int x6), (7, .int x7)]) hc dX7_whereHolds_52 rfl ex8_5 (by decide) rfl ?_
      refine ap_iload (q := 56) hc dX7_whereHolds_54 rfl 0 rfl ?_
      refine ap_if_lt (q := 59) (tgt := 89) hc dX7_whereHolds_56 rfl (by decide) (fun z_6 => ?_) (fun z_6 => ?_)
      · have h := Eq.mp (if_pos z_6) h
        exact ap_sub [1, 2, 3, 4, 5, 6, 7, 0] rfl (bl_X7_whereHolds_89 hc hz  hq ho2 ih  h)
      · have h := Eq.mp (if_neg z_6) h
        refine ap_iload (q := 61) hc dX7_whereHolds_59 rfl 6 rfl ?_
        refine ap_bipush (q := 63) hc dX7_whereHolds_61 rfl bc_13 ?_
        refine ap_icmp_ge (q := 66) (tgt := 89) hc dX7_whereHolds_63 rfl (by decide) (fun z_7 => ?_) (fun z_7 => ?_)
        · have h := Eq.mp (if_pos z_7) h
          exact ap_sub [1, 2, 3, 4, 5, 6, 7, 0] rfl (bl_X7_whereHolds_89 hc hz  hq ho2 ih  h)
        · have h := Eq.mp (if_neg z_7) h
          refine ap_aload_n (q := 67) hc dX7_whereHolds_66 rfl rfl 1 rfl ?_
          refine ap_getR (q := 70) (r := q + 5) lg_RX7_38 (by decide) hq rfl hc dX7_whereHolds_67 rfl ?_
          refine ap_iload (q := 72) hc dX7_whereHolds_70 rfl 6 rfl ?_
          refine ap_aload_n (q := 73) hc dX7_whereHolds_72 rfl rfl 1 rfl ?_
          refine ap_iload (q := 75) hc dX7_whereHolds_73 rfl 0 rfl ?_
          refine ap_aload_n (q := 76) hc dX7_whereHolds_75 rfl rfl 2 rfl ?_
          refine ap_iload_n (q := 77) hc dX7_whereHolds_76 rfl rfl 3 rfl ?_
          refine ap_iload (q := 79) hc dX7_whereHolds_77 rfl 4 rfl ?_
          refine ap_callV (q := 82) (As := [.int x8_5, .ref (ap_ad g o2), .int x3, .int x4]) hc (ok_X7_whereTest hg hq ho2 h) ml_RX7_70 lk_X7_whereTest lv_X7_whereTest hq rfl (ap_RmE hz (by decide)) rfl rfl (Nat.le_of_ble_eq_true rfl) dX7_whereHolds_79 rfl (ap_ki (fun r_8 M_9 h => ?_))
          obtain ⟨g_10, h⟩ := h
          obtain ⟨M_11, eM_11, h⟩ := ap_nm h
          refine ap_iast (q := 83) (ty_7_5 hq) (tn_7_5 hq) g_10 eM_11 hc dX7_whereHolds_82 rfl ?_
          obtain ⟨x6_12, ex6_12, h⟩ := ap_nm h
          refine ap_iinc (q := 86) (lo2 := [(6, .int x6_12), (8, .int x8_5), (0, .ref (ap_ad g q)), (2, .ref (ap_ad g o2)), (3, .int x3), (4, .int x4), (5, .int x5), (7, .int x7)]) hc dX7_whereHolds_83 rfl 6 rfl (by rw [ex6_12]; rfl) (by decide) rfl ?_
          refine ap_goto (q := 188) hc dX7_whereHolds_86 (by decide) ?_
          exact ap_sub [2, 3, 4, 5, 6, 0, 7] rfl (bl_X7_whereHolds_188 hc hz  hq ho2 ih  h)
def w_X7_whereHolds_25   (q : Nat) (o2 : Nat) (x1 : Int32) (x3 : Int32) (x4 : Int32) (s0 : Int32) (M : ap_Mem) (K : Int32 → ap_Mem → Prop) : Prop :=
vp_in x1 10 ∧ ∀ x7_2 : Int32, x7_2 = M (q + 3) x1.toNatClampNeg → w_X7_whereHolds_38   q o2 K 4096 x3 x4 s0 0 x7_2 M
theorem bl_X7_whereHolds_25 {x : ap_X} {g : ap_G} (hc : ap_Cx x g cX7_whereHolds RX7 11) {K : Int32 → ap_Mem → Prop} (hz : ap_Ends x g 1 (some .int) (ap_Qi K))   {q : Nat} {o2 : Nat} (hq : ap_kd q = 7) (ho2 : ap_kd o2 = 3)   {x1 : Int32} {x3 : Int32} {x4 : Int32} {s0 : Int32} {M : ap_Mem}  (h : w_X7_whereHolds_25   q o2 x1 x3 x4 s0 M K) : ap_V x g 11 25 [(0, .ref (ap_ad g q)), (1, .int x1), (2, .ref (ap_ad g o2)), (3, .int x3), (4, .int x4)] [.int s0] M := by
  unfold w_X7_whereHolds_25 at h
  refine ap_istore (q := 27) (lo2 := [(5, .int s0), (0, .ref (ap_ad g q)), (1, .int x1), (2, .ref (ap_ad g o2)), (3, .int x3), (4, .int x4)]) hc dX7_whereHolds_25 rfl rfl (by decide) rfl ?_
  refine ap_iconst (q := 28) hc dX7_whereHolds_27 rfl ic_0 ?_
  refine ap_istore (q := 30) (lo2 := [(6, .int 0), (5, .int s0), (0, .ref (ap_ad g q)), (1, .int x1), (2, .ref (ap_ad g o2)), (3, .int x3), (4, .int x4)]) hc dX7_whereHolds_28 rfl rfl (by decide) rfl ?_
  refine ap_aload_n (q := 31) hc dX7_whereHolds_30 rfl rfl 2 rfl ?_
  refine ap_getR (q := 34) (r := q + 3) lg_RX7_18 (by decide) hq rfl hc dX7_whereHolds_31 rfl ?_
  refine ap_iload_n (q := 35) hc dX7_whereHolds_34 rfl rfl 3 rfl ?_
  obtain ⟨g_1, h⟩ := h
  refine ap_iald (q := 36) (ty_7_3 hq) (tn_7_3 hq) g_1 hc dX7_whereHolds_35 rfl ?_
  obtain ⟨x7_2, ex7_2, h⟩ := ap_nm h
  refine ap_istore (q := 38) (lo2 := [(7, .int x7_2), (6, .int 0), (5, .int s0), (0, .ref (ap_ad g q)), (1, .int x1), (2, .ref (ap_ad g o2)), (3, .int x3), (4, .int x4)]) hc dX7_whereHolds_36 rfl ex7_2 (by decide) rfl ?_
  exact ap_sub [3, 5, 6, 7, 2, 1, 0] rfl (bl_X7_whereHolds_38 hc hz  hq ho2  _ _ _ _ _ _ _ h)
def w_X7_whereHolds   (q : Nat) (o2 : Nat) (x1 : Int32) (x3 : Int32) (x4 : Int32) (M : ap_Mem) (K : Int32 → ap_Mem → Prop) : Prop :=
(if (M q 4) ≤ (x1 + 1) then (w_X7_whereHolds_25   q o2 x1 x3 x4 (M q 5) M K) else (vp_in (x1 + 1) 10 ∧ w_X7_whereHolds_25   q o2 x1 x3 x4 (M (q + 3) (x1 + 1).toNatClampNeg) M K))
theorem bl_X7_whereHolds_0 {x : ap_X} {g : ap_G} (hc : ap_Cx x g cX7_whereHolds RX7 11) {K : Int32 → ap_Mem → Prop} (hz : ap_Ends x g 1 (some .int) (ap_Qi K))   {q : Nat} {o2 : Nat} (hq : ap_kd q = 7) (ho2 : ap_kd o2 = 3)   {x1 : Int32} {x3 : Int32} {x4 : Int32} {M : ap_Mem}  (h : w_X7_whereHolds   q o2 x1 x3 x4 M K) : ap_V x g 11 0 [(0, .ref (ap_ad g q)), (1, .int x1), (2, .ref (ap_ad g o2)), (3, .int x3), (4, .int x4)] [] M := by
  unfold w_X7_whereHolds at h
  refine ap_iload_n (q := 1) hc dX7_whereHolds_0 rfl rfl 1 rfl ?_
  refine ap_iconst (q := 2) hc dX7_whereHolds_1 rfl ic_1 ?_
  refine ap_iadd (q := 3) hc dX7_whereHolds_2 rfl ?_
  refine ap_aload_n (q := 4) hc dX7_whereHolds_3 rfl rfl 0 rfl ?_
  refine ap_getI (q := 7) lg_RX7_24 hq hc dX7_whereHolds_4 rfl ?_
  refine ap_icmp_ge (q := 10) (tgt := 21) hc dX7_whereHolds_7 rfl (by decide) (fun z_1 => ?_) (fun z_1 => ?_)
  · have h := Eq.mp (if_pos z_1) h
    refine ap_aload_n (q := 22) hc dX7_whereHolds_21 rfl rfl 0 rfl ?_
    refine ap_getI (q := 25) lg_RX7_28 hq hc dX7_whereHolds_22 rfl ?_
    exact ap_sub [0, 1, 2, 3, 4] rfl (bl_X7_whereHolds_25 hc hz  hq ho2   h)
  · have h := Eq.mp (if_neg z_1) h
    refine ap_aload_n (q := 11) hc dX7_whereHolds_10 rfl rfl 0 rfl ?_
    refine ap_getR (q := 14) (r := q + 3) lg_RX7_18 (by decide) hq rfl hc dX7_whereHolds_11 rfl ?_
    refine ap_iload_n (q := 15) hc dX7_whereHolds_14 rfl rfl 1 rfl ?_
    refine ap_iconst (q := 16) hc dX7_whereHolds_15 rfl ic_1 ?_
    refine ap_iadd (q := 17) hc dX7_whereHolds_16 rfl ?_
    obtain ⟨g_2, h⟩ := h
    refine ap_iald (q := 18) (ty_7_3 hq) (tn_7_3 hq) g_2 hc dX7_whereHolds_17 rfl ?_
    refine ap_goto (q := 25) hc dX7_whereHolds_18 (by decide) ?_
    exact ap_sub [0, 1, 2, 3, 4] rfl (bl_X7_whereHolds_25 hc hz  hq ho2   h)
theorem ok_X7_whereHolds {l : Launch} {g : ap_G} (hg : ap_GOK g) {q : Nat} {o2 : Nat} (hq : ap_kd q = 7) (ho2 : ap_kd o2 = 3) {x1 : Int32} {x3 : Int32} {x4 : Int32} {M : ap_Mem} {K : Int32 → ap_Mem → Prop} (h : w_X7_whereHolds q o2 x1 x3 x4 M K) : ap_Ct l g yX7_whereHolds cX7_whereHolds 11 (some .int) 1 [.ref (ap_ad g q), .int x1, .ref (ap_ad g o2), .int x3, .int x4] M (ap_Qi K) := by
  refine ap_Ct_of hg (by decide +kernel) (Nat.le_of_ble_eq_true rfl) (fun x hx hc hz => ?_)
  subst hx
  exact bl_X7_whereHolds_0 hc hz hq ho2 h
def w_X7_weigh_114_s  (kL46 : Int32 → Int32 → Int32 → ap_Mem → Prop) (kL114 : Int32 → Int32 → Int32 → Int32 → Int32 → Int32 → ap_Mem → Prop) (q : Nat) (o1 : Nat) (x2 : Int32) (x3 : Int32) (x4 : Int32) (x5 : Int32) (x6 : Int32) (x7 : Int32) (M : ap_Mem) (K : ap_Mem → Prop) : Prop :=
(if 16 ≤ x7 then (∀ x4_2 : Int32, x4_2 = x4 + 1 → kL46 x2 x3 x4_2 M) else (vp_in x7 16 ∧ vp_in x7 16 ∧ ∀ M_5 : ap_Mem, M_5 = ap_mu M (q + 6) x7.toNatClampNeg ((M (q + 6) x7.toNatClampNeg) + (((x6 >>> (x7 &&& 31)) &&& 1) * x5)) → ∀ x7_6 : Int32, x7_6 = x7 + 1 → kL114 x2 x3 x4 x5 x6 x7_6 M_5))
def w_X7_weigh_114  (kL46 : Int32 → Int32 → Int32 → ap_Mem → Prop) (q : Nat) (o1 : Nat) (K : ap_Mem → Prop) : Nat → Int32 → Int32 → Int32 → Int32 → Int32 → Int32 → ap_Mem → Prop
  | 0, _, _, _, _, _, _, _ => False
  | n + 1, x2, x3, x4, x5, x6, x7, M => w_X7_weigh_114_s  kL46 (w_X7_weigh_114  kL46 q o1 K n) q o1 x2 x3 x4 x5 x6 x7 M K
theorem bl_X7_weigh_114 {x : ap_X} {g : ap_G} (hc : ap_Cx x g cX7_weigh RX7 8) {K : ap_Mem → Prop} (hz : ap_Ends x g 2 none (ap_Qv K))   {q : Nat} {o1 : Nat} (hq : ap_kd q = 7) (ho1 : ap_kd o1 = 3) {kL46 : Int32 → Int32 → Int32 → ap_Mem → Prop} (hk46 : ∀ (x2 : Int32) (x3 : Int32) (x4 : Int32)  (M : ap_Mem), kL46 x2 x3 x4 M → ap_V x g 8 46 [(0, .ref (ap_ad g q)), (1, .ref (ap_ad g o1)), (2, .int x2), (3, .int x3), (4, .int x4)] [] M) : ∀ (n : Nat) (x2 : Int32) (x3 : Int32) (x4 : Int32) (x5 : Int32) (x6 : Int32) (x7 : Int32) (M : ap_Mem), w_X7_weigh_114  kL46 q o1 K n x2 x3 x4 x5 x6 x7 M → ap_V x g 8 114 [(0, .ref (ap_ad g q)), (1, .ref (ap_ad g o1)), (2, .int x2), (3, .int x3), (4, .int x4), (5, .int x5), (6, .int x6), (7, .int x7)] [] M := by
  intro n
  induction n with
  | zero => intro _ _ _ _ _ _ _ h; exact h.elim
  | succ n ih =>
    intro x2 x3 x4 x5 x6 x7 M h
    replace h : w_X7_weigh_114_s  kL46 (w_X7_weigh_114  kL46 q o1 K n) q o1 x2 x3 x4 x5 x6 x7 M K := h
    unfold w_X7_weigh_114_s at h
    refine ap_iload (q := 116) hc dX7_weigh_114 rfl 7 rfl ?_
    refine ap_bipush (q := 118) hc dX7_weigh_116 rfl bc_16 ?_
    refine ap_icmp_ge (q := 121) (tgt := 147) hc dX7_weigh_118 rfl (by decide) (fun z_1 => ?_) (fun z_1 => ?_)
    · have h := Eq.mp (if_pos z_1) h
      obtain ⟨x4_2, ex4_2, h⟩ := ap_nm h
      refine ap_iinc (q := 150) (lo2 := [(4, .int x4_2), (0, .ref (ap_ad g q)), (1, .ref (ap_ad g o1)), (2, .int x2), (3, .int x3), (5, .int x5), (6, .int x6), (7, .int x7)]) hc dX7_weigh_147 rfl 4 rfl (by rw [ex4_2]; rfl) (by decide) rfl ?_
      refine ap_goto (q := 46) hc dX7_weigh_150 (by decide) ?_
      exact ap_sub [1, 2, 3, 4, 0] rfl (hk46 _ _ _ _ h)
    · have h := Eq.mp (if_neg z_1) h
      refine ap_aload_n (q := 122) hc dX7_weigh_121 rfl rfl 0 rfl ?_
      refine ap_getR (q := 125) (r := q + 6) lg_RX7_41 (by decide) hq rfl hc dX7_weigh_122 rfl ?_
      refine ap_iload (q := 127) hc dX7_weigh_125 rfl 7 rfl ?_
      refine ap_dup2 (q := 128) hc dX7_weigh_127 rfl rfl rfl ?_
      obtain ⟨g_3, h⟩ := h
      refine ap_iald (q := 129) (ty_7_6 hq) (tn_7_6 hq) g_3 hc dX7_weigh_128 rfl ?_
      refine ap_iload (q := 131) hc dX7_weigh_129 rfl 6 rfl ?_
      refine ap_iload (q := 133) hc dX7_weigh_131 rfl 7 rfl ?_
      refine ap_ishr (q := 134) hc dX7_weigh_133 rfl ?_
      refine ap_iconst (q := 135) hc dX7_weigh_134 rfl ic_1 ?_
      refine ap_iand (q := 136) hc dX7_weigh_135 rfl ?_
      refine ap_iload (q := 138) hc dX7_weigh_136 rfl 5 rfl ?_
      refine ap_imul (q := 139) hc dX7_weigh_138 rfl ?_
      refine ap_iadd (q := 140) hc dX7_weigh_139 rfl ?_
      obtain ⟨g_4, h⟩ := h
      obtain ⟨M_5, eM_5, h⟩ := ap_nm h
      refine ap_iast (q := 141) (ty_7_6 hq) (tn_7_6 hq) g_4 eM_5 hc dX7_weigh_140 rfl ?_
      obtain ⟨x7_6, ex7_6, h⟩ := ap_nm h
      refine ap_iinc (q := 144) (lo2 := [(7, .int x7_6), (0, .ref (ap_ad g q)), (1, .ref (ap_ad g o1)), (2, .int x2), (3, .int x3), (4, .int x4), (5, .int x5), (6, .int x6)]) hc dX7_weigh_141 rfl 7 rfl (by rw [ex7_6]; rfl) (by decide) rfl ?_
      refine ap_goto (q := 114) hc dX7_weigh_144 (by decide) ?_
      exact ap_sub [1, 2, 3, 4, 5, 6, 7, 0] rfl (ih _ _ _ _ _ _ _ h)
def w_X7_weigh_109  (kL46 : Int32 → Int32 → Int32 → ap_Mem → Prop) (q : Nat) (o1 : Nat) (x2 : Int32) (x3 : Int32) (x4 : Int32) (x5 : Int32) (s0 : Int32) (M : ap_Mem) (K : ap_Mem → Prop) : Prop :=
w_X7_weigh_114  kL46 q o1 K 4096 x2 x3 x4 x5 s0 0 M
theorem bl_X7_weigh_109 {x : ap_X} {g : ap_G} (hc : ap_Cx x g cX7_weigh RX7 8) {K : ap_Mem → Prop} (hz : ap_Ends x g 2 none (ap_Qv K))   {q : Nat} {o1 : Nat} (hq : ap_kd q = 7) (ho1 : ap_kd o1 = 3) {kL46 : Int32 → Int32 → Int32 → ap_Mem → Prop} (hk46 : ∀ (x2 : Int32) (x3 : Int32) (x4 : Int32)  (M : ap_Mem), kL46 x2 x3 x4 M → ap_V x g 8 46 [(0, .ref (ap_ad g q)), (1, .ref (ap_ad g o1)), (2, .int x2), (3, .int x3), (4, .int x4)] [] M) {x2 : Int32} {x3 : Int32} {x4 : Int32} {x5 : Int32} {s0 : Int32} {M : ap_Mem}  (h : w_X7_weigh_109  kL46 q o1 x2 x3 x4 x5 s0 M K) : ap_V x g 8 109 [(0, .ref (ap_ad g q)), (1, .ref (ap_ad g o1)), (2, .int x2), (3, .int x3), (4, .int x4), (5, .int x5)] [.int s0] M := by
  unfold w_X7_weigh_109 at h
  refine ap_istore (q := 111) (lo2 := [(6, .int s0), (0, .ref (ap_ad g q)), (1, .ref (ap_ad g o1)), (2, .int x2), (3, .int x3), (4, .int x4), (5, .int x5)]) hc dX7_weigh_109 rfl rfl (by decide) rfl ?_
  refine ap_iconst (q := 112) hc dX7_weigh_111 rfl ic_0 ?_
  refine ap_istore (q := 114) (lo2 := [(7, .int 0), (6, .int s0), (0, .ref (ap_ad g q)), (1, .ref (ap_ad g o1)), (2, .int x2), (3, .int x3), (4, .int x4), (5, .int x5)]) hc dX7_weigh_112 rfl rfl (by decide) rfl ?_
  exact ap_sub [2, 3, 4, 5, 6, 7, 1, 0] rfl (bl_X7_weigh_114 hc hz  hq ho1 hk46 _ _ _ _ _ _ _ _ h)
def w_X7_weigh_84  (kL46 : Int32 → Int32 → Int32 → ap_Mem → Prop) (q : Nat) (o1 : Nat) (x2 : Int32) (x3 : Int32) (x4 : Int32) (s0 : Int32) (M : ap_Mem) (K : ap_Mem → Prop) : Prop :=
vp_in x4 10 ∧ (if (M (q + 1) x4.toNatClampNeg) = 0 then (w_X7_weigh_109  kL46 q o1 x2 x3 x4 s0 0 M K) else (w_X7_whereHolds q o1 x4 x2 x3 M (fun r_3 M_4 => w_X7_weigh_109  kL46 q o1 x2 x3 x4 s0 r_3 M_4 K)))
theorem bl_X7_weigh_84 {x : ap_X} {g : ap_G} (hc : ap_Cx x g cX7_weigh RX7 8) {K : ap_Mem → Prop} (hz : ap_Ends x g 2 none (ap_Qv K))   {q : Nat} {o1 : Nat} (hq : ap_kd q = 7) (ho1 : ap_kd o1 = 3) {kL46 : Int32 → Int32 → Int32 → ap_Mem → Prop} (hk46 : ∀ (x2 : Int32) (x3 : Int32) (x4 : Int32)  (M : ap_Mem), kL46 x2 x3 x4 M → ap_V x g 8 46 [(0, .ref (ap_ad g q)), (1, .ref (ap_ad g o1)), (2, .int x2), (3, .int x3), (4, .int x4)] [] M) {x2 : Int32} {x3 : Int32} {x4 : Int32} {s0 : Int32} {M : ap_Mem}  (h : w_X7_weigh_84  kL46 q o1 x2 x3 x4 s0 M K) : ap_V x g 8 84 [(0, .ref (ap_ad g q)), (1, .ref (ap_ad g o1)), (2, .int x2), (3, .int x3), (4, .int x4)] [.int s0] M := by
  have hg := hc.2.2.2.2.2.2.2.1
  unfold w_X7_weigh_84 at h
  refine ap_istore (q := 86) (lo2 := [(5, .int s0), (0, .ref (ap_ad g q)), (1, .ref (ap_ad g o1)), (2, .int x2), (3, .int x3), (4, .int x4)]) hc dX7_weigh_84 rfl rfl (by decide) rfl ?_
  refine ap_aload_n (q := 87) hc dX7_weigh_86 rfl rfl 1 rfl ?_
  refine ap_getR (q := 90) (r := q + 1) lg_RX7_11 (by decide) hq rfl hc dX7_weigh_87 rfl ?_
  refine ap_iload (q := 92) hc dX7_weigh_90 rfl 5 rfl ?_
  obtain ⟨g_1, h⟩ := h
  refine ap_iald (q := 93) (ty_7_1 hq) (tn_7_1 hq) g_1 hc dX7_weigh_92 rfl ?_
  refine ap_if_ne (q := 96) (tgt := 100) hc dX7_weigh_93 rfl (by decide) (fun z_2 => ?_) (fun z_2 => ?_)
  · have h := Eq.mp (if_neg z_2) h
    refine ap_aload_n (q := 101) hc dX7_weigh_100 rfl rfl 1 rfl ?_
    refine ap_iload (q := 103) hc dX7_weigh_101 rfl 5 rfl ?_
    refine ap_aload_n (q := 104) hc dX7_weigh_103 rfl rfl 2 rfl ?_
    refine ap_iload_n (q := 105) hc dX7_weigh_104 rfl rfl 3 rfl ?_
    refine ap_iload_n (q := 106) hc dX7_weigh_105 rfl rfl 4 rfl ?_
    refine ap_callV (q := 109) (As := [.int x4, .ref (ap_ad g o1), .int x2, .int x3]) hc (ok_X7_whereHolds hg hq ho1 h) ml_RX7_66 lk_X7_whereHolds lv_X7_whereHolds hq rfl (ap_RmE hz (by decide)) rfl rfl (Nat.le_of_ble_eq_true rfl) dX7_weigh_106 rfl (ap_ki (fun r_3 M_4 h => ?_))
    exact ap_sub [1, 2, 3, 4, 5, 0] rfl (bl_X7_weigh_109 hc hz  hq ho1 hk46  h)
  · have h := Eq.mp (if_pos z_2) h
    refine ap_iconst (q := 97) hc dX7_weigh_96 rfl ic_0 ?_
    refine ap_goto (q := 109) hc dX7_weigh_97 (by decide) ?_
    exact ap_sub [1, 2, 3, 4, 5, 0] rfl (bl_X7_weigh_109 hc hz  hq ho1 hk46  h)
def w_X7_weigh_46_s   (kL46 : Int32 → Int32 → Int32 → ap_Mem → Prop) (q : Nat) (o1 : Nat) (x2 : Int32) (x3 : Int32) (x4 : Int32) (M : ap_Mem) (K : ap_Mem → Prop) : Prop :=
(if (M q 4) ≤ x4 then (K M) else (vp_in x4 10 ∧ (if (M (q + 1) x4.toNatClampNeg) = 1 then (vp_in x4 10 ∧ w_X7_weigh_84  kL46 q o1 x2 x3 x4 (M (q + 2) x4.toNatClampNeg) M K) else (vp_in x4 10 ∧ w_X7_weigh_84  kL46 q o1 x2 x3 x4 (-(M (q + 2) x4.toNatClampNeg)) M K))))
def w_X7_weigh_46   (q : Nat) (o1 : Nat) (K : ap_Mem → Prop) : Nat → Int32 → Int32 → Int32 → ap_Mem → Prop
  | 0, _, _, _, _ => False
  | n + 1, x2, x3, x4, M => w_X7_weigh_46_s   (w_X7_weigh_46   q o1 K n) q o1 x2 x3 x4 M K
theorem bl_X7_weigh_46 {x : ap_X} {g : ap_G} (hc : ap_Cx x g cX7_weigh RX7 8) {K : ap_Mem → Prop} (hz : ap_Ends x g 2 none (ap_Qv K))   {q : Nat} {o1 : Nat} (hq : ap_kd q = 7) (ho1 : ap_kd o1 = 3)   : ∀ (n : Nat) (x2 : Int32) (x3 : Int32) (x4 : Int32) (M : ap_Mem), w_X7_weigh_46   q o1 K n x2 x3 x4 M → ap_V x g 8 46 [(0, .ref (ap_ad g q)), (1, .ref (ap_ad g o1)), (2, .int x2), (3, .int x3), (4, .int x4)] [] M := by
  intro n
  induction n with
  | zero => intro _ _ _ _ h; exact h.elim
  | succ n ih =>
    intro x2 x3 x4 M h
    replace h : w_X7_weigh_46_s   (w_X7_weigh_46   q o1 K n) q o1 x2 x3 x4 M K := h
    unfold w_X7_weigh_46_s at h
    refine ap_iload (q := 48) hc dX7_weigh_46 rfl 4 rfl ?_
    refine ap_aload_n (q := 49) hc dX7_weigh_48 rfl rfl 0 rfl ?_
    refine ap_getI (q := 52) lg_RX7_24 hq hc dX7_weigh_49 rfl ?_
    refine ap_icmp_ge (q := 55) (tgt := 153) hc dX7_weigh_52 rfl (by decide) (fun z_1 => ?_) (fun z_1 => ?_)
    · have h := Eq.mp (if_pos z_1) h
      exact ap_vret hc hz dX7_weigh_153 h
    · have h := Eq.mp (if_neg z_1) h
      refine ap_aload_n (q := 56) hc dX7_weigh_55 rfl rfl 0 rfl ?_
      refine ap_getR (q := 59) (r := q + 1) lg_RX7_11 (by decide) hq rfl hc dX7_weigh_56 rfl ?_
      refine ap_iload (q := 61) hc dX7_weigh_59 rfl 4 rfl ?_
      obtain ⟨g_2, h⟩ := h
      refine ap_iald (q := 62) (ty_7_1 hq) (tn_7_1 hq) g_2 hc dX7_weigh_61 rfl ?_
      refine ap_iconst (q := 63) hc dX7_weigh_62 rfl ic_1 ?_
      refine ap_icmp_ne (q := 66) (tgt := 76) hc dX7_weigh_63 rfl (by decide) (fun z_3 => ?_) (fun z_3 => ?_)
      · have h := Eq.mp (if_neg z_3) h
        refine ap_aload_n (q := 77) hc dX7_weigh_76 rfl rfl 0 rfl ?_
        refine ap_getR (q := 80) (r := q + 2) lg_RX7_15 (by decide) hq rfl hc dX7_weigh_77 rfl ?_
        refine ap_iload (q := 82) hc dX7_weigh_80 rfl 4 rfl ?_
        obtain ⟨g_4, h⟩ := h
        refine ap_iald (q := 83) (ty_7_2 hq) (tn_7_2 hq) g_4 hc dX7_weigh_82 rfl ?_
        refine ap_ineg (q := 84) hc dX7_weigh_83 rfl ?_
        exact ap_sub [0, 1, 2, 3, 4] rfl (bl_X7_weigh_84 hc hz  hq ho1 ih  h)
      · have h := Eq.mp (if_pos z_3) h
        refine ap_aload_n (q := 67) hc dX7_weigh_66 rfl rfl 0 rfl ?_
        refine ap_getR (q := 70) (r := q + 2) lg_RX7_15 (by decide) hq rfl hc dX7_weigh_67 rfl ?_
        refine ap_iload (q := 72) hc dX7_weigh_70 rfl 4 rfl ?_
        obtain ⟨g_5, h⟩ := h
        refine ap_iald (q := 73) (ty_7_2 hq) (tn_7_2 hq) g_5 hc dX7_weigh_72 rfl ?_
        refine ap_goto (q := 84) hc dX7_weigh_73 (by decide) ?_
        exact ap_sub [0, 1, 2, 3, 4] rfl (bl_X7_weigh_84 hc hz  hq ho1 ih  h)
def w_X7_weigh_3_s   (kL3 : Int32 → Int32 → Int32 → ap_Mem → Prop) (q : Nat) (o1 : Nat) (x2 : Int32) (x3 : Int32) (x4 : Int32) (M : ap_Mem) (K : ap_Mem → Prop) : Prop :=
(if 16 ≤ x4 then (w_X7_weigh_46   q o1 K 4096 x2 x3 0 M) else (vp_in x4 16 ∧ ∀ M_3 : ap_Mem, M_3 = ap_mu M (q + 6) x4.toNatClampNeg 6 → vp_in x2 6 ∧ w_X8_far (M_3 (o1 + 3) x2.toNatClampNeg) x4 M_3 (fun r_5 M_6 => vp_in x4 16 ∧ ∀ M_8 : ap_Mem, M_8 = ap_mu M_6 (q + 7) x4.toNatClampNeg r_5 → ∀ x4_9 : Int32, x4_9 = x4 + 1 → kL3 x2 x3 x4_9 M_8)))
def w_X7_weigh_3   (q : Nat) (o1 : Nat) (K : ap_Mem → Prop) : Nat → Int32 → Int32 → Int32 → ap_Mem → Prop
  | 0, _, _, _, _ => False
  | n + 1, x2, x3, x4, M => w_X7_weigh_3_s   (w_X7_weigh_3   q o1 K n) q o1 x2 x3 x4 M K
theorem bl_X7_weigh_3 {x : ap_X} {g : ap_G} (hc : ap_Cx x g cX7_weigh RX7 8) {K : ap_Mem → Prop} (hz : ap_Ends x g 2 none (ap_Qv K))   {q : Nat} {o1 : Nat} (hq : ap_kd q = 7) (ho1 : ap_kd o1 = 3)   : ∀ (n : Nat) (x2 : Int32) (x3 : Int32) (x4 : Int32) (M : ap_Mem), w_X7_weigh_3   q o1 K n x2 x3 x4 M → ap_V x g 8 3 [(0, .ref (ap_ad g q)), (1, .ref (ap_ad g o1)), (2, .int x2), (3, .int x3), (4, .int x4)] [] M := by
  have hg := hc.2.2.2.2.2.2.2.1
  intro n
  induction n with
  | zero => intro _ _ _ _ h; exact h.elim
  | succ n ih =>
    intro x2 x3 x4 M h
    replace h : w_X7_weigh_3_s   (w_X7_weigh_3   q o1 K n) q o1 x2 x3 x4 M K := h
    unfold w_X7_weigh_3_s at h
    refine ap_iload (q := 5) hc dX7_weigh_3 rfl 4 rfl ?_
    refine ap_bipush (q := 7) hc dX7_weigh_5 rfl bc_16 ?_
    refine ap_icmp_ge (q := 10) (tgt := 43) hc dX7_weigh_7 rfl (by decide) (fun z_1 => ?_) (fun z_1 => ?_)
    · have h := Eq.mp (if_pos z_1) h
      refine ap_iconst (q := 44) hc dX7_weigh_43 rfl ic_0 ?_
      refine ap_istore (q := 46) (lo2 := [(4, .int 0), (0, .ref (ap_ad g q)), (1, .ref (ap_ad g o1)), (2, .int x2), (3, .int x3)]) hc dX7_weigh_44 rfl rfl (by decide) rfl ?_
      exact ap_sub [1, 2, 3, 4, 0] rfl (bl_X7_weigh_46 hc hz  hq ho1  _ _ _ _ _ h)
    · have h := Eq.mp (if_neg z_1) h
      refine ap_aload_n (q := 11) hc dX7_weigh_10 rfl rfl 0 rfl ?_
      refine ap_getR (q := 14) (r := q + 6) lg_RX7_41 (by decide) hq rfl hc dX7_weigh_11 rfl ?_
      refine ap_iload (q := 16) hc dX7_weigh_14 rfl 4 rfl ?_
      refine ap_bipush (q := 18) hc dX7_weigh_16 rfl bc_6 ?_
      obtain ⟨g_2, h⟩ := h
      obtain ⟨M_3, eM_3, h⟩ := ap_nm h
      refine ap_iast (q := 19) (ty_7_6 hq) (tn_7_6 hq) g_2 eM_3 hc dX7_weigh_18 rfl ?_
      refine ap_aload_n (q := 20) hc dX7_weigh_19 rfl rfl 0 rfl ?_
      refine ap_getR (q := 23) (r := q + 7) lg_RX7_44 (by decide) hq rfl hc dX7_weigh_20 rfl ?_
      refine ap_iload (q := 25) hc dX7_weigh_23 rfl 4 rfl ?_
      refine ap_aload_n (q := 26) hc dX7_weigh_25 rfl rfl 1 rfl ?_
      refine ap_getR (q := 29) (r := o1 + 3) lg_RX7_57 (by decide) ho1 rfl hc dX7_weigh_26 rfl ?_
      refine ap_iload_n (q := 30) hc dX7_weigh_29 rfl rfl 2 rfl ?_
      obtain ⟨g_4, h⟩ := h
      refine ap_iald (q := 31) (ty_3_3 ho1) (tn_3_3 ho1) g_4 hc dX7_weigh_30 rfl ?_
      refine ap_iload (q := 33) hc dX7_weigh_31 rfl 4 rfl ?_
      refine ap_callSN (q := 36) (As := [.int (M_3 (o1 + 3) x2.toNatClampNeg), .int x4]) hc (ok_X8_far hg  h) hc.2.2.2.2.2.2.1.2.1 lk_X8_far ls_X8_far (ap_RmE hz (by decide)) rfl rfl (Nat.le_of_ble_eq_true rfl) dX7_weigh_33 rfl (ap_ki (fun r_5 M_6 h => ?_))
      obtain ⟨g_7, h⟩ := h
      obtain ⟨M_8, eM_8, h⟩ := ap_nm h
      refine ap_iast (q := 37) (ty_7_7 hq) (tn_7_7 hq) g_7 eM_8 hc dX7_weigh_36 rfl ?_
      obtain ⟨x4_9, ex4_9, h⟩ := ap_nm h
      refine ap_iinc (q := 40) (lo2 := [(4, .int x4_9), (0, .ref (ap_ad g q)), (1, .ref (ap_ad g o1)), (2, .int x2), (3, .int x3)]) hc dX7_weigh_37 rfl 4 rfl (by rw [ex4_9]; rfl) (by decide) rfl ?_
      refine ap_goto (q := 3) hc dX7_weigh_40 (by decide) ?_
      exact ap_sub [1, 2, 3, 4, 0] rfl (ih _ _ _ _ h)
def w_X7_weigh   (q : Nat) (o1 : Nat) (x2 : Int32) (x3 : Int32) (M : ap_Mem) (K : ap_Mem → Prop) : Prop :=
w_X7_weigh_3   q o1 K 4096 x2 x3 0 M
theorem bl_X7_weigh_0 {x : ap_X} {g : ap_G} (hc : ap_Cx x g cX7_weigh RX7 8) {K : ap_Mem → Prop} (hz : ap_Ends x g 2 none (ap_Qv K))   {q : Nat} {o1 : Nat} (hq : ap_kd q = 7) (ho1 : ap_kd o1 = 3)   {x2 : Int32} {x3 : Int32} {M : ap_Mem}  (h : w_X7_weigh   q o1 x2 x3 M K) : ap_V x g 8 0 [(0, .ref (ap_ad g q)), (1, .ref (ap_ad g o1)), (2, .int x2), (3, .int x3)] [] M := by
  unfold w_X7_weigh at h
  refine ap_iconst (q := 1) hc dX7_weigh_0 rfl ic_0 ?_
  refine ap_istore (q := 3) (lo2 := [(4, .int 0), (0, .ref (ap_ad g q)), (1, .ref (ap_ad g o1)), (2, .int x2), (3, .int x3)]) hc dX7_weigh_1 rfl rfl (by decide) rfl ?_
  exact ap_sub [1, 2, 3, 4, 0] rfl (bl_X7_weigh_3 hc hz  hq ho1  _ _ _ _ _ h)
theorem ok_X7_weigh {l : Launch} {g : ap_G} (hg : ap_GOK g) {q : Nat} {o1 : Nat} (hq : ap_kd q = 7) (ho1 : ap_kd o1 = 3) {x2 : Int32} {x3 : Int32} {M : ap_Mem} {K : ap_Mem → Prop} (h : w_X7_weigh q o1 x2 x3 M K) : ap_Ct l g yX7_weigh cX7_weigh 8 none 2 [.ref (ap_ad g q), .ref (ap_ad g o1), .int x2, .int x3] M (ap_Qv K) := by
  refine ap_Ct_of hg (by decide +kernel) (Nat.le_of_ble_eq_true rfl) (fun x hx hc hz => ?_)
  subst hx
  exact bl_X7_weigh_0 hc hz hq ho1 h
