theorem dJ0_charAt_5068e_0 : decode cJ0_charAt_5068e 0 = .ok (.aload_n 0, 1) := by decide +kernel
theorem dJ0_charAt_5068e_1 : decode cJ0_charAt_5068e 1 = .ok (.invokevirtual 492, 3) := by decide +kernel
theorem dJ0_charAt_5068e_4 : decode cJ0_charAt_5068e 4 = .ok (.ifCond .eq 12, 3) := by decide +kernel
theorem dJ0_charAt_5068e_7 : decode cJ0_charAt_5068e 7 = .ok (.aload_n 0, 1) := by decide +kernel
theorem dJ0_charAt_5068e_8 : decode cJ0_charAt_5068e 8 = .ok (.getfield 9, 3) := by decide +kernel
theorem dJ0_charAt_5068e_11 : decode cJ0_charAt_5068e 11 = .ok (.iload_n 1, 1) := by decide +kernel
theorem dJ0_charAt_5068e_12 : decode cJ0_charAt_5068e 12 = .ok (.invokestatic 495, 3) := by decide +kernel
theorem dJ0_charAt_5068e_15 : decode cJ0_charAt_5068e 15 = .ok (.ireturn, 1) := by decide +kernel
theorem dJ0_charAt_5068e_16 : decode cJ0_charAt_5068e 16 = .ok (.aload_n 0, 1) := by decide +kernel
theorem dJ0_charAt_5068e_17 : decode cJ0_charAt_5068e 17 = .ok (.getfield 9, 3) := by decide +kernel
theorem dJ0_charAt_5068e_20 : decode cJ0_charAt_5068e 20 = .ok (.iload_n 1, 1) := by decide +kernel
theorem dJ0_charAt_5068e_21 : decode cJ0_charAt_5068e 21 = .ok (.invokestatic 498, 3) := by decide +kernel
theorem dJ0_checkIndex_df160_0 : decode cJ0_checkIndex_df160 0 = .ok (.iload_n 0, 1) := by decide +kernel
theorem dJ0_checkIndex_df160_1 : decode cJ0_checkIndex_df160 1 = .ok (.iload_n 1, 1) := by decide +kernel
theorem dJ0_checkIndex_df160_2 : decode cJ0_checkIndex_df160 2 = .ok (.getstatic 1053, 3) := by decide +kernel
theorem dJ0_checkIndex_df160_5 : decode cJ0_checkIndex_df160 5 = .ok (.invokestatic 1059, 3) := by decide +kernel
theorem dJ0_checkIndex_df160_8 : decode cJ0_checkIndex_df160 8 = .ok (.pop, 1) := by decide +kernel
theorem dJ0_checkIndex_df160_9 : decode cJ0_checkIndex_df160 9 = .ok (.return_, 1) := by decide +kernel
theorem dJ0_coder_7d493_0 : decode cJ0_coder_7d493 0 = .ok (.getstatic 38, 3) := by decide +kernel
theorem dJ0_coder_7d493_3 : decode cJ0_coder_7d493 3 = .ok (.ifCond .eq 10, 3) := by decide +kernel
theorem dJ0_coder_7d493_6 : decode cJ0_coder_7d493 6 = .ok (.aload_n 0, 1) := by decide +kernel
theorem dJ0_coder_7d493_7 : decode cJ0_coder_7d493 7 = .ok (.getfield 15, 3) := by decide +kernel
theorem dJ0_coder_7d493_10 : decode cJ0_coder_7d493 10 = .ok (.goto 4, 3) := by decide +kernel
theorem dJ0_coder_7d493_13 : decode cJ0_coder_7d493 13 = .ok (.iconst 1, 1) := by decide +kernel
theorem dJ0_coder_7d493_14 : decode cJ0_coder_7d493 14 = .ok (.ireturn, 1) := by decide +kernel
theorem dJ0_indexOf_0f7a4_0 : decode cJ0_indexOf_0f7a4 0 = .ok (.aload_n 0, 1) := by decide +kernel
theorem dJ0_indexOf_0f7a4_1 : decode cJ0_indexOf_0f7a4 1 = .ok (.iload_n 1, 1) := by decide +kernel
theorem dJ0_indexOf_0f7a4_2 : decode cJ0_indexOf_0f7a4 2 = .ok (.iconst 0, 1) := by decide +kernel
theorem dJ0_indexOf_0f7a4_3 : decode cJ0_indexOf_0f7a4 3 = .ok (.invokevirtual 633, 3) := by decide +kernel
theorem dJ0_indexOf_0f7a4_6 : decode cJ0_indexOf_0f7a4 6 = .ok (.ireturn, 1) := by decide +kernel
theorem dJ0_indexOf_7cf53_0 : decode cJ0_indexOf_7cf53 0 = .ok (.aload_n 0, 1) := by decide +kernel
theorem dJ0_indexOf_7cf53_1 : decode cJ0_indexOf_7cf53 1 = .ok (.invokevirtual 492, 3) := by decide +kernel
theorem dJ0_indexOf_7cf53_4 : decode cJ0_indexOf_7cf53 4 = .ok (.ifCond .eq 19, 3) := by decide +kernel
theorem dJ0_indexOf_7cf53_7 : decode cJ0_indexOf_7cf53 7 = .ok (.aload_n 0, 1) := by decide +kernel
theorem dJ0_indexOf_7cf53_8 : decode cJ0_indexOf_7cf53 8 = .ok (.getfield 9, 3) := by decide +kernel
theorem dJ0_indexOf_7cf53_11 : decode cJ0_indexOf_7cf53 11 = .ok (.iload_n 1, 1) := by decide +kernel
theorem dJ0_indexOf_7cf53_12 : decode cJ0_indexOf_7cf53 12 = .ok (.iload_n 2, 1) := by decide +kernel
theorem dJ0_indexOf_7cf53_13 : decode cJ0_indexOf_7cf53 13 = .ok (.aload_n 0, 1) := by decide +kernel
theorem dJ0_indexOf_7cf53_14 : decode cJ0_indexOf_7cf53 14 = .ok (.invokevirtual 505, 3) := by decide +kernel
theorem dJ0_indexOf_7cf53_17 : decode cJ0_indexOf_7cf53 17 = .ok (.invokestatic 637, 3) := by decide +kernel
theorem dJ0_indexOf_7cf53_20 : decode cJ0_indexOf_7cf53 20 = .ok (.goto 16, 3) := by decide +kernel
theorem dJ0_indexOf_7cf53_23 : decode cJ0_indexOf_7cf53 23 = .ok (.aload_n 0, 1) := by decide +kernel
theorem dJ0_indexOf_7cf53_24 : decode cJ0_indexOf_7cf53 24 = .ok (.getfield 9, 3) := by decide +kernel
theorem dJ0_indexOf_7cf53_27 : decode cJ0_indexOf_7cf53 27 = .ok (.iload_n 1, 1) := by decide +kernel
theorem dJ0_indexOf_7cf53_28 : decode cJ0_indexOf_7cf53 28 = .ok (.iload_n 2, 1) := by decide +kernel
theorem dJ0_indexOf_7cf53_29 : decode cJ0_indexOf_7cf53 29 = .ok (.aload_n 0, 1) := by decide +kernel
theorem dJ0_indexOf_7cf53_30 : decode cJ0_indexOf_7cf53 30 = .ok (.invokevirtual 505, 3) := by decide +kernel
theorem dJ0_indexOf_7cf53_33 : decode cJ0_indexOf_7cf53 33 = .ok (.invokestatic 640, 3) := by decide +kernel
theorem dJ0_indexOf_7cf53_36 : decode cJ0_indexOf_7cf53 36 = .ok (.ireturn, 1) := by decide +kernel
theorem dJ0_isLatin1_aae02_0 : decode cJ0_isLatin1_aae02 0 = .ok (.getstatic 38, 3) := by decide +kernel
theorem dJ0_isLatin1_aae02_3 : decode cJ0_isLatin1_aae02 3 = .ok (.ifCond .eq 14, 3) := by decide +kernel
theorem dJ0_isLatin1_aae02_6 : decode cJ0_isLatin1_aae02 6 = .ok (.aload_n 0, 1) := by decide +kernel
theorem dJ0_isLatin1_aae02_7 : decode cJ0_isLatin1_aae02 7 = .ok (.getfield 15, 3) := by decide +kernel
theorem dJ0_isLatin1_aae02_10 : decode cJ0_isLatin1_aae02 10 = .ok (.ifCond .ne 7, 3) := by decide +kernel
theorem dJ0_isLatin1_aae02_13 : decode cJ0_isLatin1_aae02 13 = .ok (.iconst 1, 1) := by decide +kernel
theorem dJ0_isLatin1_aae02_14 : decode cJ0_isLatin1_aae02 14 = .ok (.goto 4, 3) := by decide +kernel
theorem dJ0_isLatin1_aae02_17 : decode cJ0_isLatin1_aae02 17 = .ok (.iconst 0, 1) := by decide +kernel
theorem dJ0_isLatin1_aae02_18 : decode cJ0_isLatin1_aae02 18 = .ok (.ireturn, 1) := by decide +kernel
theorem dJ0_length_8abf5_0 : decode cJ0_length_8abf5 0 = .ok (.aload_n 0, 1) := by decide +kernel
theorem dJ0_length_8abf5_1 : decode cJ0_length_8abf5 1 = .ok (.getfield 9, 3) := by decide +kernel
theorem dJ0_length_8abf5_4 : decode cJ0_length_8abf5 4 = .ok (.arraylength, 1) := by decide +kernel
theorem dJ0_length_8abf5_5 : decode cJ0_length_8abf5 5 = .ok (.aload_n 0, 1) := by decide +kernel
theorem dJ0_length_8abf5_6 : decode cJ0_length_8abf5 6 = .ok (.invokevirtual 335, 3) := by decide +kernel
theorem dJ0_length_8abf5_9 : decode cJ0_length_8abf5 9 = .ok (.ishr, 1) := by decide +kernel
theorem dJ0_length_8abf5_10 : decode cJ0_length_8abf5 10 = .ok (.ireturn, 1) := by decide +kernel
theorem dJ1_canEncode_9a6ad_0 : decode cJ1_canEncode_9a6ad 0 = .ok (.iload_n 0, 1) := by decide +kernel
theorem dJ1_canEncode_9a6ad_1 : decode cJ1_canEncode_9a6ad 1 = .ok (.ifCond .lt 14, 3) := by decide +kernel
theorem dJ1_canEncode_9a6ad_4 : decode cJ1_canEncode_9a6ad 4 = .ok (.iload_n 0, 1) := by decide +kernel
theorem dJ1_canEncode_9a6ad_5 : decode cJ1_canEncode_9a6ad 5 = .ok (.sipush 255, 3) := by decide +kernel
theorem dJ1_canEncode_9a6ad_8 : decode cJ1_canEncode_9a6ad 8 = .ok (.if_icmp .gt 7, 3) := by decide +kernel
theorem dJ1_canEncode_9a6ad_11 : decode cJ1_canEncode_9a6ad 11 = .ok (.iconst 1, 1) := by decide +kernel
theorem dJ1_canEncode_9a6ad_12 : decode cJ1_canEncode_9a6ad 12 = .ok (.goto 4, 3) := by decide +kernel
theorem dJ1_canEncode_9a6ad_15 : decode cJ1_canEncode_9a6ad 15 = .ok (.iconst 0, 1) := by decide +kernel
theorem dJ1_canEncode_9a6ad_16 : decode cJ1_canEncode_9a6ad 16 = .ok (.ireturn, 1) := by decide +kernel
theorem dJ1_charAt_3b067_0 : decode cJ1_charAt_3b067 0 = .ok (.iload_n 1, 1) := by decide +kernel
theorem dJ1_charAt_3b067_1 : decode cJ1_charAt_3b067 1 = .ok (.aload_n 0, 1) := by decide +kernel
theorem dJ1_charAt_3b067_2 : decode cJ1_charAt_3b067 2 = .ok (.arraylength, 1) := by decide +kernel
theorem dJ1_charAt_3b067_3 : decode cJ1_charAt_3b067 3 = .ok (.invokestatic 9, 3) := by decide +kernel
theorem dJ1_charAt_3b067_6 : decode cJ1_charAt_3b067 6 = .ok (.aload_n 0, 1) := by decide +kernel
theorem dJ1_charAt_3b067_7 : decode cJ1_charAt_3b067 7 = .ok (.iload_n 1, 1) := by decide +kernel
theorem dJ1_charAt_3b067_8 : decode cJ1_charAt_3b067 8 = .ok (.baload, 1) := by decide +kernel
theorem dJ1_charAt_3b067_9 : decode cJ1_charAt_3b067 9 = .ok (.sipush 255, 3) := by decide +kernel
theorem dJ1_charAt_3b067_12 : decode cJ1_charAt_3b067 12 = .ok (.iand, 1) := by decide +kernel
theorem dJ1_charAt_3b067_13 : decode cJ1_charAt_3b067 13 = .ok (.i2c, 1) := by decide +kernel
theorem dJ1_charAt_3b067_14 : decode cJ1_charAt_3b067 14 = .ok (.ireturn, 1) := by decide +kernel
theorem dJ1_indexOfChar_4cfef_0 : decode cJ1_indexOfChar_4cfef 0 = .ok (.iload_n 1, 1) := by decide +kernel
theorem dJ1_indexOfChar_4cfef_1 : decode cJ1_indexOfChar_4cfef 1 = .ok (.i2b, 1) := by decide +kernel
theorem dJ1_indexOfChar_4cfef_2 : decode cJ1_indexOfChar_4cfef 2 = .ok (.istore 4, 2) := by decide +kernel
theorem dJ1_indexOfChar_4cfef_4 : decode cJ1_indexOfChar_4cfef 4 = .ok (.iload_n 2, 1) := by decide +kernel
theorem dJ1_indexOfChar_4cfef_5 : decode cJ1_indexOfChar_4cfef 5 = .ok (.istore 5, 2) := by decide +kernel
theorem dJ1_indexOfChar_4cfef_7 : decode cJ1_indexOfChar_4cfef 7 = .ok (.iload 5, 2) := by decide +kernel
theorem dJ1_indexOfChar_4cfef_9 : decode cJ1_indexOfChar_4cfef 9 = .ok (.iload_n 3, 1) := by decide +kernel
theorem dJ1_indexOfChar_4cfef_10 : decode cJ1_indexOfChar_4cfef 10 = .ok (.if_icmp .ge 21, 3) := by decide +kernel
theorem dJ1_indexOfChar_4cfef_13 : decode cJ1_indexOfChar_4cfef 13 = .ok (.aload_n 0, 1) := by decide +kernel
theorem dJ1_indexOfChar_4cfef_14 : decode cJ1_indexOfChar_4cfef 14 = .ok (.iload 5, 2) := by decide +kernel
theorem dJ1_indexOfChar_4cfef_16 : decode cJ1_indexOfChar_4cfef 16 = .ok (.baload, 1) := by decide +kernel
theorem dJ1_indexOfChar_4cfef_17 : decode cJ1_indexOfChar_4cfef 17 = .ok (.iload 4, 2) := by decide +kernel
theorem dJ1_indexOfChar_4cfef_19 : decode cJ1_indexOfChar_4cfef 19 = .ok (.if_icmp .ne 6, 3) := by decide +kernel
theorem dJ1_indexOfChar_4cfef_22 : decode cJ1_indexOfChar_4cfef 22 = .ok (.iload 5, 2) := by decide +kernel
theorem dJ1_indexOfChar_4cfef_24 : decode cJ1_indexOfChar_4cfef 24 = .ok (.ireturn, 1) := by decide +kernel
theorem dJ1_indexOfChar_4cfef_25 : decode cJ1_indexOfChar_4cfef 25 = .ok (.iinc 5 1, 3) := by decide +kernel
theorem dJ1_indexOfChar_4cfef_28 : decode cJ1_indexOfChar_4cfef 28 = .ok (.goto (-21), 3) := by decide +kernel
theorem dJ1_indexOfChar_4cfef_31 : decode cJ1_indexOfChar_4cfef 31 = .ok (.iconst (-1), 1) := by decide +kernel
theorem dJ1_indexOfChar_4cfef_32 : decode cJ1_indexOfChar_4cfef 32 = .ok (.ireturn, 1) := by decide +kernel
theorem dJ1_indexOf_4cfef_0 : decode cJ1_indexOf_4cfef 0 = .ok (.iload_n 1, 1) := by decide +kernel
theorem dJ1_indexOf_4cfef_1 : decode cJ1_indexOf_4cfef 1 = .ok (.invokestatic 88, 3) := by decide +kernel
theorem dJ1_indexOf_4cfef_4 : decode cJ1_indexOf_4cfef 4 = .ok (.ifCond .ne 5, 3) := by decide +kernel
theorem dJ1_indexOf_4cfef_7 : decode cJ1_indexOf_4cfef 7 = .ok (.iconst (-1), 1) := by decide +kernel
theorem dJ1_indexOf_4cfef_8 : decode cJ1_indexOf_4cfef 8 = .ok (.ireturn, 1) := by decide +kernel
theorem dJ1_indexOf_4cfef_9 : decode cJ1_indexOf_4cfef 9 = .ok (.iload_n 2, 1) := by decide +kernel
theorem dJ1_indexOf_4cfef_10 : decode cJ1_indexOf_4cfef 10 = .ok (.iconst 0, 1) := by decide +kernel
theorem dJ1_indexOf_4cfef_11 : decode cJ1_indexOf_4cfef 11 = .ok (.invokestatic 92, 3) := by decide +kernel
theorem dJ1_indexOf_4cfef_14 : decode cJ1_indexOf_4cfef 14 = .ok (.istore_n 2, 1) := by decide +kernel
theorem dJ1_indexOf_4cfef_15 : decode cJ1_indexOf_4cfef 15 = .ok (.iload_n 3, 1) := by decide +kernel
theorem dJ1_indexOf_4cfef_16 : decode cJ1_indexOf_4cfef 16 = .ok (.aload_n 0, 1) := by decide +kernel
theorem dJ1_indexOf_4cfef_17 : decode cJ1_indexOf_4cfef 17 = .ok (.arraylength, 1) := by decide +kernel
theorem dJ1_indexOf_4cfef_18 : decode cJ1_indexOf_4cfef 18 = .ok (.invokestatic 38, 3) := by decide +kernel
theorem dJ1_indexOf_4cfef_21 : decode cJ1_indexOf_4cfef 21 = .ok (.istore_n 3, 1) := by decide +kernel
theorem dJ1_indexOf_4cfef_22 : decode cJ1_indexOf_4cfef 22 = .ok (.iload_n 2, 1) := by decide +kernel
theorem dJ1_indexOf_4cfef_23 : decode cJ1_indexOf_4cfef 23 = .ok (.iload_n 3, 1) := by decide +kernel
theorem dJ1_indexOf_4cfef_24 : decode cJ1_indexOf_4cfef 24 = .ok (.if_icmp .lt 5, 3) := by decide +kernel
theorem dJ1_indexOf_4cfef_27 : decode cJ1_indexOf_4cfef 27 = .ok (.iconst (-1), 1) := by decide +kernel
theorem dJ1_indexOf_4cfef_28 : decode cJ1_indexOf_4cfef 28 = .ok (.ireturn, 1) := by decide +kernel
theorem dJ1_indexOf_4cfef_29 : decode cJ1_indexOf_4cfef 29 = .ok (.aload_n 0, 1) := by decide +kernel
theorem dJ1_indexOf_4cfef_30 : decode cJ1_indexOf_4cfef 30 = .ok (.iload_n 1, 1) := by decide +kernel
theorem dJ1_indexOf_4cfef_31 : decode cJ1_indexOf_4cfef 31 = .ok (.iload_n 2, 1) := by decide +kernel
theorem dJ1_indexOf_4cfef_32 : decode cJ1_indexOf_4cfef 32 = .ok (.iload_n 3, 1) := by decide +kernel
theorem dJ1_indexOf_4cfef_33 : decode cJ1_indexOf_4cfef 33 = .ok (.invokestatic 95, 3) := by decide +kernel
theorem dJ1_indexOf_4cfef_36 : decode cJ1_indexOf_4cfef 36 = .ok (.ireturn, 1) := by decide +kernel
theorem dJ3_checkIndex_8e157_0 : decode cJ3_checkIndex_8e157 0 = .ok (.iload_n 0, 1) := by decide +kernel
theorem dJ3_checkIndex_8e157_1 : decode cJ3_checkIndex_8e157 1 = .ok (.ifCond .lt 8, 3) := by decide +kernel
theorem dJ3_checkIndex_8e157_4 : decode cJ3_checkIndex_8e157 4 = .ok (.iload_n 0, 1) := by decide +kernel
theorem dJ3_checkIndex_8e157_5 : decode cJ3_checkIndex_8e157 5 = .ok (.iload_n 1, 1) := by decide +kernel
theorem dJ3_checkIndex_8e157_6 : decode cJ3_checkIndex_8e157 6 = .ok (.if_icmp .lt 10, 3) := by decide +kernel
theorem dJ3_checkIndex_8e157_9 : decode cJ3_checkIndex_8e157 9 = .ok (.aload_n 2, 1) := by decide +kernel
theorem dJ3_checkIndex_8e157_16 : decode cJ3_checkIndex_8e157 16 = .ok (.iload_n 0, 1) := by decide +kernel
theorem dJ3_checkIndex_8e157_17 : decode cJ3_checkIndex_8e157 17 = .ok (.ireturn, 1) := by decide +kernel
theorem dJ6_bitCount_0f7a4_0 : decode cJ6_bitCount_0f7a4 0 = .ok (.iload_n 0, 1) := by decide +kernel
theorem dJ6_bitCount_0f7a4_1 : decode cJ6_bitCount_0f7a4 1 = .ok (.iload_n 0, 1) := by decide +kernel
theorem dJ6_bitCount_0f7a4_2 : decode cJ6_bitCount_0f7a4 2 = .ok (.iconst 1, 1) := by decide +kernel
theorem dJ6_bitCount_0f7a4_3 : decode cJ6_bitCount_0f7a4 3 = .ok (.iushr, 1) := by decide +kernel
theorem dJ6_bitCount_0f7a4_4 : decode cJ6_bitCount_0f7a4 4 = .ok (.ldc_w 265, 3) := by decide +kernel
theorem dJ6_bitCount_0f7a4_7 : decode cJ6_bitCount_0f7a4 7 = .ok (.iand, 1) := by decide +kernel
theorem dJ6_bitCount_0f7a4_8 : decode cJ6_bitCount_0f7a4 8 = .ok (.isub, 1) := by decide +kernel
theorem dJ6_bitCount_0f7a4_9 : decode cJ6_bitCount_0f7a4 9 = .ok (.istore_n 0, 1) := by decide +kernel
theorem dJ6_bitCount_0f7a4_10 : decode cJ6_bitCount_0f7a4 10 = .ok (.iload_n 0, 1) := by decide +kernel
theorem dJ6_bitCount_0f7a4_11 : decode cJ6_bitCount_0f7a4 11 = .ok (.ldc_w 266, 3) := by decide +kernel
theorem dJ6_bitCount_0f7a4_14 : decode cJ6_bitCount_0f7a4 14 = .ok (.iand, 1) := by decide +kernel
theorem dJ6_bitCount_0f7a4_15 : decode cJ6_bitCount_0f7a4 15 = .ok (.iload_n 0, 1) := by decide +kernel
theorem dJ6_bitCount_0f7a4_16 : decode cJ6_bitCount_0f7a4 16 = .ok (.iconst 2, 1) := by decide +kernel
theorem dJ6_bitCount_0f7a4_17 : decode cJ6_bitCount_0f7a4 17 = .ok (.iushr, 1) := by decide +kernel
theorem dJ6_bitCount_0f7a4_18 : decode cJ6_bitCount_0f7a4 18 = .ok (.ldc_w 266, 3) := by decide +kernel
theorem dJ6_bitCount_0f7a4_21 : decode cJ6_bitCount_0f7a4 21 = .ok (.iand, 1) := by decide +kernel
theorem dJ6_bitCount_0f7a4_22 : decode cJ6_bitCount_0f7a4 22 = .ok (.iadd, 1) := by decide +kernel
theorem dJ6_bitCount_0f7a4_23 : decode cJ6_bitCount_0f7a4 23 = .ok (.istore_n 0, 1) := by decide +kernel
theorem dJ6_bitCount_0f7a4_24 : decode cJ6_bitCount_0f7a4 24 = .ok (.iload_n 0, 1) := by decide +kernel
theorem dJ6_bitCount_0f7a4_25 : decode cJ6_bitCount_0f7a4 25 = .ok (.iload_n 0, 1) := by decide +kernel
theorem dJ6_bitCount_0f7a4_26 : decode cJ6_bitCount_0f7a4 26 = .ok (.iconst 4, 1) := by decide +kernel
theorem dJ6_bitCount_0f7a4_27 : decode cJ6_bitCount_0f7a4 27 = .ok (.iushr, 1) := by decide +kernel
theorem dJ6_bitCount_0f7a4_28 : decode cJ6_bitCount_0f7a4 28 = .ok (.iadd, 1) := by decide +kernel
theorem dJ6_bitCount_0f7a4_29 : decode cJ6_bitCount_0f7a4 29 = .ok (.ldc_w 267, 3) := by decide +kernel
theorem dJ6_bitCount_0f7a4_32 : decode cJ6_bitCount_0f7a4 32 = .ok (.iand, 1) := by decide +kernel
theorem dJ6_bitCount_0f7a4_33 : decode cJ6_bitCount_0f7a4 33 = .ok (.istore_n 0, 1) := by decide +kernel
theorem dJ6_bitCount_0f7a4_34 : decode cJ6_bitCount_0f7a4 34 = .ok (.iload_n 0, 1) := by decide +kernel
theorem dJ6_bitCount_0f7a4_35 : decode cJ6_bitCount_0f7a4 35 = .ok (.iload_n 0, 1) := by decide +kernel
theorem dJ6_bitCount_0f7a4_36 : decode cJ6_bitCount_0f7a4 36 = .ok (.bipush 8, 2) := by decide +kernel
theorem dJ6_bitCount_0f7a4_38 : decode cJ6_bitCount_0f7a4 38 = .ok (.iushr, 1) := by decide +kernel
theorem dJ6_bitCount_0f7a4_39 : decode cJ6_bitCount_0f7a4 39 = .ok (.iadd, 1) := by decide +kernel
theorem dJ6_bitCount_0f7a4_40 : decode cJ6_bitCount_0f7a4 40 = .ok (.istore_n 0, 1) := by decide +kernel
theorem dJ6_bitCount_0f7a4_41 : decode cJ6_bitCount_0f7a4 41 = .ok (.iload_n 0, 1) := by decide +kernel
theorem dJ6_bitCount_0f7a4_42 : decode cJ6_bitCount_0f7a4 42 = .ok (.iload_n 0, 1) := by decide +kernel
theorem dJ6_bitCount_0f7a4_43 : decode cJ6_bitCount_0f7a4 43 = .ok (.bipush 16, 2) := by decide +kernel
theorem dJ6_bitCount_0f7a4_45 : decode cJ6_bitCount_0f7a4 45 = .ok (.iushr, 1) := by decide +kernel
theorem dJ6_bitCount_0f7a4_46 : decode cJ6_bitCount_0f7a4 46 = .ok (.iadd, 1) := by decide +kernel
theorem dJ6_bitCount_0f7a4_47 : decode cJ6_bitCount_0f7a4 47 = .ok (.istore_n 0, 1) := by decide +kernel
theorem dJ6_bitCount_0f7a4_48 : decode cJ6_bitCount_0f7a4 48 = .ok (.iload_n 0, 1) := by decide +kernel
theorem dJ6_bitCount_0f7a4_49 : decode cJ6_bitCount_0f7a4 49 = .ok (.bipush 63, 2) := by decide +kernel
theorem dJ6_bitCount_0f7a4_51 : decode cJ6_bitCount_0f7a4 51 = .ok (.iand, 1) := by decide +kernel
theorem dJ6_bitCount_0f7a4_52 : decode cJ6_bitCount_0f7a4 52 = .ok (.ireturn, 1) := by decide +kernel
def w_J0_coder_7d493   (w0 : Nat)  (M : ap_Mem) (K : Int32 → ap_Mem → Prop) : Prop :=
(if (1 : Int32) = 0 then (narrow .byte (.int 1) = .int 1 ∧ K 1 M) else (narrow .byte (.int 0) = .int 0 ∧ K 0 M))
theorem bl_J0_coder_7d493_0 {x : ap_X} {g : ap_G} (hc : ap_Cx x g cJ0_coder_7d493 RJ0 1) {K : Int32 → ap_Mem → Prop} (hz : ap_Ends x g 0 (some .byte) (ap_Qi K))   {w0 : Nat} (hw0 : w0 < 6)    {M : ap_Mem}  (h : w_J0_coder_7d493   w0  M K) : ap_V x g 1 0 [(0, .ref (ap_gK g w0))] [] M := by
  unfold w_J0_coder_7d493 at h
  refine ap_getCS (q := 3) fl_RJ0_38 hc dJ0_coder_7d493_0 rfl ?_
  refine ap_if_eq (q := 6) (tgt := 13) hc dJ0_coder_7d493_3 rfl (by decide) (fun z_1 => ?_) (fun z_1 => ?_)
  · have h := Eq.mp (if_pos z_1) h
    refine ap_iconst (q := 14) hc dJ0_coder_7d493_13 rfl ic_1 ?_
    exact ap_iret hc hz h.1 dJ0_coder_7d493_14 h.2
  · have h := Eq.mp (if_neg z_1) h
    refine ap_aload_n (q := 7) hc dJ0_coder_7d493_6 rfl rfl 0 rfl ?_
    refine ap_scod (q := 10) hw0 fl_RJ0_15 hc dJ0_coder_7d493_7 rfl ?_
    refine ap_goto (q := 14) hc dJ0_coder_7d493_10 (by decide) ?_
    exact ap_iret hc hz h.1 dJ0_coder_7d493_14 h.2
theorem ok_J0_coder_7d493 {l : Launch} {g : ap_G} (hg : ap_GOK g) {w0 : Nat} (hw0 : w0 < 6)  {M : ap_Mem} {K : Int32 → ap_Mem → Prop} (h : w_J0_coder_7d493 w0  M K) : ap_Ct l g yJ0_coder_7d493 cJ0_coder_7d493 1 (some .byte) 0 [.ref (ap_gK g w0)] M (ap_Qi K) := by
  refine ap_Ct_of hg (by decide +kernel) (Nat.le_of_ble_eq_true rfl) (fun x hx hc hz => ?_)
  subst hx
  exact bl_J0_coder_7d493_0 hc hz hw0 h
def w_J0_length_8abf5   (w0 : Nat)  (M : ap_Mem) (K : Int32 → ap_Mem → Prop) : Prop :=
w_J0_coder_7d493 w0 M (fun r_1 M_2 => K ((nI (ap_sL w0)) >>> (r_1 &&& 31)) M_2)
theorem bl_J0_length_8abf5_0 {x : ap_X} {g : ap_G} (hc : ap_Cx x g cJ0_length_8abf5 RJ0 1) {K : Int32 → ap_Mem → Prop} (hz : ap_Ends x g 1 (some .int) (ap_Qi K))   {w0 : Nat} (hw0 : w0 < 6)    {M : ap_Mem}  (h : w_J0_length_8abf5   w0  M K) : ap_V x g 1 0 [(0, .ref (ap_gK g w0))] [] M := by
  have hg := hc.2.2.2.2.2.2.2.1
  unfold w_J0_length_8abf5 at h
  refine ap_aload_n (q := 1) hc dJ0_length_8abf5_0 rfl rfl 0 rfl ?_
  refine ap_sval (q := 4) hw0 fl_RJ0_9 hc dJ0_length_8abf5_1 rfl ?_
  refine ap_blen (q := 5) hw0 hc dJ0_length_8abf5_4 rfl ?_
  refine ap_aload_n (q := 6) hc dJ0_length_8abf5_5 rfl rfl 0 rfl ?_
  refine ap_callT (q := 9) (As := []) hc (ok_J0_coder_7d493 hg hw0 h) ml_RJ0_335 lk_J0_coder_7d493 lv_J0_coder_7d493 hw0 rfl (ap_RmE hz (by decide)) rfl rfl (Nat.le_of_ble_eq_true rfl) dJ0_length_8abf5_6 rfl (ap_ki (fun r_1 M_2 h => ?_))
  refine ap_ishr (q := 10) hc dJ0_length_8abf5_9 rfl ?_
  exact ap_iret hc hz rfl dJ0_length_8abf5_10 h
theorem ok_J0_length_8abf5 {l : Launch} {g : ap_G} (hg : ap_GOK g) {w0 : Nat} (hw0 : w0 < 6)  {M : ap_Mem} {K : Int32 → ap_Mem → Prop} (h : w_J0_length_8abf5 w0  M K) : ap_Ct l g yJ0_length_8abf5 cJ0_length_8abf5 1 (some .int) 1 [.ref (ap_gK g w0)] M (ap_Qi K) := by
  refine ap_Ct_of hg (by decide +kernel) (Nat.le_of_ble_eq_true rfl) (fun x hx hc hz => ?_)
  subst hx
  exact bl_J0_length_8abf5_0 hc hz hw0 h
def w_J0_isLatin1_aae02   (w0 : Nat)  (M : ap_Mem) (K : Int32 → ap_Mem → Prop) : Prop :=
(if (1 : Int32) = 0 then (K 0 M) else ((if (0 : Int32) = 0 then (K 1 M) else (K 0 M))))
theorem bl_J0_isLatin1_aae02_0 {x : ap_X} {g : ap_G} (hc : ap_Cx x g cJ0_isLatin1_aae02 RJ0 1) {K : Int32 → ap_Mem → Prop} (hz : ap_Ends x g 0 (some .boolean) (ap_Qi K))   {w0 : Nat} (hw0 : w0 < 6)    {M : ap_Mem}  (h : w_J0_isLatin1_aae02   w0  M K) : ap_V x g 1 0 [(0, .ref (ap_gK g w0))] [] M := by
  unfold w_J0_isLatin1_aae02 at h
  refine ap_getCS (q := 3) fl_RJ0_38 hc dJ0_isLatin1_aae02_0 rfl ?_
  refine ap_if_eq (q := 6) (tgt := 17) hc dJ0_isLatin1_aae02_3 rfl (by decide) (fun z_1 => ?_) (fun z_1 => ?_)
  · have h := Eq.mp (if_pos z_1) h
    refine ap_iconst (q := 18) hc dJ0_isLatin1_aae02_17 rfl ic_0 ?_
    exact ap_iret hc hz (ap_Bn ap_B0) dJ0_isLatin1_aae02_18 h
  · have h := Eq.mp (if_neg z_1) h
    refine ap_aload_n (q := 7) hc dJ0_isLatin1_aae02_6 rfl rfl 0 rfl ?_
    refine ap_scod (q := 10) hw0 fl_RJ0_15 hc dJ0_isLatin1_aae02_7 rfl ?_
    refine ap_if_ne (q := 13) (tgt := 17) hc dJ0_isLatin1_aae02_10 rfl (by decide) (fun z_2 => ?_) (fun z_2 => ?_)
    · have h := Eq.mp (if_neg z_2) h
      refine ap_iconst (q := 18) hc dJ0_isLatin1_aae02_17 rfl ic_0 ?_
      exact ap_iret hc hz (ap_Bn ap_B0) dJ0_isLatin1_aae02_18 h
    · have h := Eq.mp (if_pos z_2) h
      refine ap_iconst (q := 14) hc dJ0_isLatin1_aae02_13 rfl ic_1 ?_
      refine ap_goto (q := 18) hc dJ0_isLatin1_aae02_14 (by decide) ?_
      exact ap_iret hc hz (ap_Bn ap_B1) dJ0_isLatin1_aae02_18 h
theorem ok_J0_isLatin1_aae02 {l : Launch} {g : ap_G} (hg : ap_GOK g) {w0 : Nat} (hw0 : w0 < 6)  {M : ap_Mem} {K : Int32 → ap_Mem → Prop} (h : w_J0_isLatin1_aae02 w0  M K) : ap_Ct l g yJ0_isLatin1_aae02 cJ0_isLatin1_aae02 1 (some .boolean) 0 [.ref (ap_gK g w0)] M (ap_Qi K) := by
  refine ap_Ct_of hg (by decide +kernel) (Nat.le_of_ble_eq_true rfl) (fun x hx hc hz => ?_)
  subst hx
  exact bl_J0_isLatin1_aae02_0 hc hz hw0 h
def w_J3_checkIndex_8e157_9    (x0 : Int32) (x1 : Int32) (M : ap_Mem) (K : Int32 → ap_Mem → Prop) : Prop :=
False
theorem bl_J3_checkIndex_8e157_9 {x : ap_X} {g : ap_G} (hc : ap_Cx x g cJ3_checkIndex_8e157 RJ3 3) {K : Int32 → ap_Mem → Prop} (hz : ap_Ends x g 0 (some .int) (ap_Qi K))   {v2 : Value} (hv2 : v2.category = 1)   {x0 : Int32} {x1 : Int32} {M : ap_Mem}  (h : w_J3_checkIndex_8e157_9    x0 x1 M K) : ap_V x g 3 9 [(0, .int x0), (1, .int x1), (2, v2)] [] M := by
  unfold w_J3_checkIndex_8e157_9 at h
  exact h.elim
def w_J3_checkIndex_8e157    (x0 : Int32) (x1 : Int32) (M : ap_Mem) (K : Int32 → ap_Mem → Prop) : Prop :=
(if x0 < 0 then (w_J3_checkIndex_8e157_9    x0 x1 M K) else ((if x0 < x1 then (K x0 M) else (w_J3_checkIndex_8e157_9    x0 x1 M K))))
theorem bl_J3_checkIndex_8e157_0 {x : ap_X} {g : ap_G} (hc : ap_Cx x g cJ3_checkIndex_8e157 RJ3 3) {K : Int32 → ap_Mem → Prop} (hz : ap_Ends x g 0 (some .int) (ap_Qi K))   {v2 : Value} (hv2 : v2.category = 1)   {x0 : Int32} {x1 : Int32} {M : ap_Mem}  (h : w_J3_checkIndex_8e157    x0 x1 M K) : ap_V x g 3 0 [(0, .int x0), (1, .int x1), (2, v2)] [] M := by
  unfold w_J3_checkIndex_8e157 at h
  refine ap_iload_n (q := 1) hc dJ3_checkIndex_8e157_0 rfl rfl 0 rfl ?_
  refine ap_if_lt (q := 4) (tgt := 9) hc dJ3_checkIndex_8e157_1 rfl (by decide) (fun z_1 => ?_) (fun z_1 => ?_)
  · have h := Eq.mp (if_pos z_1) h
    exact ap_sub [0, 1, 2] rfl (bl_J3_checkIndex_8e157_9 hc hz  hv2   h)
  · have h := Eq.mp (if_neg z_1) h
    refine ap_iload_n (q := 5) hc dJ3_checkIndex_8e157_4 rfl rfl 0 rfl ?_
    refine ap_iload_n (q := 6) hc dJ3_checkIndex_8e157_5 rfl rfl 1 rfl ?_
    refine ap_icmp_lt (q := 9) (tgt := 16) hc dJ3_checkIndex_8e157_6 rfl (by decide) (fun z_2 => ?_) (fun z_2 => ?_)
    · have h := Eq.mp (if_pos z_2) h
      refine ap_iload_n (q := 17) hc dJ3_checkIndex_8e157_16 rfl rfl 0 rfl ?_
      exact ap_iret hc hz rfl dJ3_checkIndex_8e157_17 h
    · have h := Eq.mp (if_neg z_2) h
      exact ap_sub [0, 1, 2] rfl (bl_J3_checkIndex_8e157_9 hc hz  hv2   h)
theorem ok_J3_checkIndex_8e157 {l : Launch} {g : ap_G} (hg : ap_GOK g) {v2 : Value} (hv2 : v2.category = 1) {x0 : Int32} {x1 : Int32} {M : ap_Mem} {K : Int32 → ap_Mem → Prop} (h : w_J3_checkIndex_8e157  x0 x1 M K) : ap_Ct l g yJ3_checkIndex_8e157 cJ3_checkIndex_8e157 3 (some .int) 0 [.int x0, .int x1, v2] M (ap_Qi K) := by
  refine ap_Ct_of hg (by decide +kernel) (by simp [lg_sl, hv2, show ∀ a : Int32, (Value.int a).category = 1 from fun _ => rfl]) (fun x hx hc hz => ?_)
  subst hx
  exact bl_J3_checkIndex_8e157_0 hc hz hv2 h
def w_J0_checkIndex_df160    (x0 : Int32) (x1 : Int32) (M : ap_Mem) (K : ap_Mem → Prop) : Prop :=
w_J3_checkIndex_8e157 x0 x1 M (fun r_2 M_3 => K M_3)
theorem bl_J0_checkIndex_df160_0 {x : ap_X} {g : ap_G} (hc : ap_Cx x g cJ0_checkIndex_df160 RJ0 2) {K : ap_Mem → Prop} (hz : ap_Ends x g 1 none (ap_Qv K))       {x0 : Int32} {x1 : Int32} {M : ap_Mem}  (h : w_J0_checkIndex_df160    x0 x1 M K) : ap_V x g 2 0 [(0, .int x0), (1, .int x1)] [] M := by
  have hg := hc.2.2.2.2.2.2.2.1
  unfold w_J0_checkIndex_df160 at h
  refine ap_iload_n (q := 1) hc dJ0_checkIndex_df160_0 rfl rfl 0 rfl ?_
  refine ap_iload_n (q := 2) hc dJ0_checkIndex_df160_1 rfl rfl 1 rfl ?_
  refine ap_getSF (q := 5) fl_RJ0_1053 hc dJ0_checkIndex_df160_2 rfl (fun v_1 hv_1 => ?_)
  refine ap_callS (q := 8) (As := [.int x0, .int x1, v_1]) hc (ok_J3_checkIndex_8e157 hg hv_1 h) ml_RJ0_1059 lk_J3_checkIndex_8e157 ls_J3_checkIndex_8e157 (ap_RmE hz (by decide)) rfl rfl (Nat.le_of_ble_eq_true rfl) dJ0_checkIndex_df160_5 rfl (ap_ki (fun r_2 M_3 h => ?_))
  refine ap_pop (q := 9) hc dJ0_checkIndex_df160_8 rfl rfl ?_
  exact ap_vret hc hz dJ0_checkIndex_df160_9 h
theorem ok_J0_checkIndex_df160 {l : Launch} {g : ap_G} (hg : ap_GOK g)   {x0 : Int32} {x1 : Int32} {M : ap_Mem} {K : ap_Mem → Prop} (h : w_J0_checkIndex_df160  x0 x1 M K) : ap_Ct l g yJ0_checkIndex_df160 cJ0_checkIndex_df160 2 none 1 [.int x0, .int x1] M (ap_Qv K) := by
  refine ap_Ct_of hg (by decide +kernel) (Nat.le_of_ble_eq_true rfl) (fun x hx hc hz => ?_)
  subst hx
  exact bl_J0_checkIndex_df160_0 hc hz  h
def w_J1_charAt_3b067   (b0 : Nat) (x1 : Int32) (M : ap_Mem) (K : Int32 → ap_Mem → Prop) : Prop :=
w_J0_checkIndex_df160 x1 (nI (ap_sL b0)) M (fun M_1 => vp_in x1 (ap_sL b0) ∧ narrow .char (.int (((ap_sB b0 x1.toNatClampNeg) &&& 255).toUInt32 % 65536).toInt32) = .int (((ap_sB b0 x1.toNatClampNeg) &&& 255).toUInt32 % 65536).toInt32 ∧ K (((ap_sB b0 x1.toNatClampNeg) &&& 255).toUInt32 % 65536).toInt32 M_1)
theorem bl_J1_charAt_3b067_0 {x : ap_X} {g : ap_G} (hc : ap_Cx x g cJ1_charAt_3b067 RJ1 2) {K : Int32 → ap_Mem → Prop} (hz : ap_Ends x g 2 (some .char) (ap_Qi K))   {b0 : Nat} (hb0 : b0 < 6)   {x1 : Int32} {M : ap_Mem}  (h : w_J1_charAt_3b067   b0 x1 M K) : ap_V x g 2 0 [(0, .ref (ap_gV g b0)), (1, .int x1)] [] M := by
  have hg := hc.2.2.2.2.2.2.2.1
  unfold w_J1_charAt_3b067 at h
  refine ap_iload_n (q := 1) hc dJ1_charAt_3b067_0 rfl rfl 1 rfl ?_
  refine ap_aload_n (q := 2) hc dJ1_charAt_3b067_1 rfl rfl 0 rfl ?_
  refine ap_blen (q := 3) hb0 hc dJ1_charAt_3b067_2 rfl ?_
  refine ap_callS (q := 6) (As := [.int x1, .int (nI (ap_sL b0))]) hc (ok_J0_checkIndex_df160 hg  h) ml_RJ1_9 lk_J0_checkIndex_df160 ls_J0_checkIndex_df160 (ap_RmE hz (by decide)) rfl rfl (Nat.le_of_ble_eq_true rfl) dJ1_charAt_3b067_3 rfl (ap_kv (fun M_1 h => ?_))
  refine ap_aload_n (q := 7) hc dJ1_charAt_3b067_6 rfl rfl 0 rfl ?_
  refine ap_iload_n (q := 8) hc dJ1_charAt_3b067_7 rfl rfl 1 rfl ?_
  obtain ⟨g_2, h⟩ := h
  refine ap_bald (q := 9) hb0 g_2 hc dJ1_charAt_3b067_8 rfl ?_
  refine ap_sipush (q := 12) hc dJ1_charAt_3b067_9 rfl sc_255 ?_
  refine ap_iand (q := 13) hc dJ1_charAt_3b067_12 rfl ?_
  refine ap_i2c (q := 14) hc dJ1_charAt_3b067_13 rfl ?_
  exact ap_iret hc hz h.1 dJ1_charAt_3b067_14 h.2
theorem ok_J1_charAt_3b067 {l : Launch} {g : ap_G} (hg : ap_GOK g) {b0 : Nat} (hb0 : b0 < 6) {x1 : Int32} {M : ap_Mem} {K : Int32 → ap_Mem → Prop} (h : w_J1_charAt_3b067 b0 x1 M K) : ap_Ct l g yJ1_charAt_3b067 cJ1_charAt_3b067 2 (some .char) 2 [.ref (ap_gV g b0), .int x1] M (ap_Qi K) := by
  refine ap_Ct_of hg (by decide +kernel) (Nat.le_of_ble_eq_true rfl) (fun x hx hc hz => ?_)
  subst hx
  exact bl_J1_charAt_3b067_0 hc hz hb0 h
def w_J0_charAt_5068e   (w0 : Nat) (x1 : Int32) (M : ap_Mem) (K : Int32 → ap_Mem → Prop) : Prop :=
w_J0_isLatin1_aae02 w0 M (fun r_1 M_2 => (if r_1 = 0 then (False) else (w_J1_charAt_3b067 w0 x1 M_2 (fun r_4 M_5 => narrow .char (.int r_4) = .int r_4 ∧ K r_4 M_5))))
theorem bl_J0_charAt_5068e_0 {x : ap_X} {g : ap_G} (hc : ap_Cx x g cJ0_charAt_5068e RJ0 2) {K : Int32 → ap_Mem → Prop} (hz : ap_Ends x g 3 (some .char) (ap_Qi K))   {w0 : Nat} (hw0 : w0 < 6)   {x1 : Int32} {M : ap_Mem}  (h : w_J0_charAt_5068e   w0 x1 M K) : ap_V x g 2 0 [(0, .ref (ap_gK g w0)), (1, .int x1)] [] M := by
  have hg := hc.2.2.2.2.2.2.2.1
  unfold w_J0_charAt_5068e at h
  refine ap_aload_n (q := 1) hc dJ0_charAt_5068e_0 rfl rfl 0 rfl ?_
  refine ap_callT (q := 4) (As := []) hc (ok_J0_isLatin1_aae02 hg hw0 h) ml_RJ0_492 lk_J0_isLatin1_aae02 lv_J0_isLatin1_aae02 hw0 rfl (ap_RmE hz (by decide)) rfl rfl (Nat.le_of_ble_eq_true rfl) dJ0_charAt_5068e_1 rfl (ap_ki (fun r_1 M_2 h => ?_))
  refine ap_if_eq (q := 7) (tgt := 16) hc dJ0_charAt_5068e_4 rfl (by decide) (fun z_3 => ?_) (fun z_3 => ?_)
  · have h := Eq.mp (if_pos z_3) h
    refine ap_aload_n (q := 17) hc dJ0_charAt_5068e_16 rfl rfl 0 rfl ?_
    refine ap_sval (q := 20) hw0 fl_RJ0_9 hc dJ0_charAt_5068e_17 rfl ?_
    refine ap_iload_n (q := 21) hc dJ0_charAt_5068e_20 rfl rfl 1 rfl ?_
    exact h.elim
  · have h := Eq.mp (if_neg z_3) h
    refine ap_aload_n (q := 8) hc dJ0_charAt_5068e_7 rfl rfl 0 rfl ?_
    refine ap_sval (q := 11) hw0 fl_RJ0_9 hc dJ0_charAt_5068e_8 rfl ?_
    refine ap_iload_n (q := 12) hc dJ0_charAt_5068e_11 rfl rfl 1 rfl ?_
    refine ap_callS (q := 15) (As := [.ref (ap_gV g w0), .int x1]) hc (ok_J1_charAt_3b067 hg hw0 h) ml_RJ0_495 lk_J1_charAt_3b067 ls_J1_charAt_3b067 (ap_RmE hz (by decide)) rfl rfl (Nat.le_of_ble_eq_true rfl) dJ0_charAt_5068e_12 rfl (ap_ki (fun r_4 M_5 h => ?_))
    exact ap_iret hc hz h.1 dJ0_charAt_5068e_15 h.2
theorem ok_J0_charAt_5068e {l : Launch} {g : ap_G} (hg : ap_GOK g) {w0 : Nat} (hw0 : w0 < 6) {x1 : Int32} {M : ap_Mem} {K : Int32 → ap_Mem → Prop} (h : w_J0_charAt_5068e w0 x1 M K) : ap_Ct l g yJ0_charAt_5068e cJ0_charAt_5068e 2 (some .char) 3 [.ref (ap_gK g w0), .int x1] M (ap_Qi K) := by
  refine ap_Ct_of hg (by decide +kernel) (Nat.le_of_ble_eq_true rfl) (fun x hx hc hz => ?_)
  subst hx
  exact bl_J0_charAt_5068e_0 hc hz hw0 h
def w_J1_canEncode_9a6ad    (x0 : Int32) (M : ap_Mem) (K : Int32 → ap_Mem → Prop) : Prop :=
(if x0 < 0 then (K 0 M) else ((if 255 < x0 then (K 0 M) else (K 1 M))))
theorem bl_J1_canEncode_9a6ad_0 {x : ap_X} {g : ap_G} (hc : ap_Cx x g cJ1_canEncode_9a6ad RJ1 1) {K : Int32 → ap_Mem → Prop} (hz : ap_Ends x g 0 (some .boolean) (ap_Qi K))       {x0 : Int32} {M : ap_Mem}  (h : w_J1_canEncode_9a6ad    x0 M K) : ap_V x g 1 0 [(0, .int x0)] [] M := by
  unfold w_J1_canEncode_9a6ad at h
  refine ap_iload_n (q := 1) hc dJ1_canEncode_9a6ad_0 rfl rfl 0 rfl ?_
  refine ap_if_lt (q := 4) (tgt := 15) hc dJ1_canEncode_9a6ad_1 rfl (by decide) (fun z_1 => ?_) (fun z_1 => ?_)
  · have h := Eq.mp (if_pos z_1) h
    refine ap_iconst (q := 16) hc dJ1_canEncode_9a6ad_15 rfl ic_0 ?_
    exact ap_iret hc hz (ap_Bn ap_B0) dJ1_canEncode_9a6ad_16 h
  · have h := Eq.mp (if_neg z_1) h
    refine ap_iload_n (q := 5) hc dJ1_canEncode_9a6ad_4 rfl rfl 0 rfl ?_
    refine ap_sipush (q := 8) hc dJ1_canEncode_9a6ad_5 rfl sc_255 ?_
    refine ap_icmp_gt (q := 11) (tgt := 15) hc dJ1_canEncode_9a6ad_8 rfl (by decide) (fun z_2 => ?_) (fun z_2 => ?_)
    · have h := Eq.mp (if_pos z_2) h
      refine ap_iconst (q := 16) hc dJ1_canEncode_9a6ad_15 rfl ic_0 ?_
      exact ap_iret hc hz (ap_Bn ap_B0) dJ1_canEncode_9a6ad_16 h
    · have h := Eq.mp (if_neg z_2) h
      refine ap_iconst (q := 12) hc dJ1_canEncode_9a6ad_11 rfl ic_1 ?_
      refine ap_goto (q := 16) hc dJ1_canEncode_9a6ad_12 (by decide) ?_
      exact ap_iret hc hz (ap_Bn ap_B1) dJ1_canEncode_9a6ad_16 h
theorem ok_J1_canEncode_9a6ad {l : Launch} {g : ap_G} (hg : ap_GOK g)   {x0 : Int32} {M : ap_Mem} {K : Int32 → ap_Mem → Prop} (h : w_J1_canEncode_9a6ad  x0 M K) : ap_Ct l g yJ1_canEncode_9a6ad cJ1_canEncode_9a6ad 1 (some .boolean) 0 [.int x0] M (ap_Qi K) := by
  refine ap_Ct_of hg (by decide +kernel) (Nat.le_of_ble_eq_true rfl) (fun x hx hc hz => ?_)
  subst hx
  exact bl_J1_canEncode_9a6ad_0 hc hz  h
def w_J1_indexOfChar_4cfef_7_s   (kL7 : Int32 → Int32 → Int32 → ap_Mem → Prop) (b0 : Nat) (x3 : Int32) (x4 : Int32) (x5 : Int32) (M : ap_Mem) (K : Int32 → ap_Mem → Prop) : Prop :=
(if x3 ≤ x5 then (K (-1) M) else (vp_in x5 (ap_sL b0) ∧ (if (ap_sB b0 x5.toNatClampNeg) = x4 then (K x5 M) else (∀ x5_4 : Int32, x5_4 = x5 + 1 → kL7 x3 x4 x5_4 M))))
def w_J1_indexOfChar_4cfef_7   (b0 : Nat) (K : Int32 → ap_Mem → Prop) : Nat → Int32 → Int32 → Int32 → ap_Mem → Prop
  | 0, _, _, _, _ => False
  | n + 1, x3, x4, x5, M => w_J1_indexOfChar_4cfef_7_s   (w_J1_indexOfChar_4cfef_7   b0 K n) b0 x3 x4 x5 M K
theorem bl_J1_indexOfChar_4cfef_7 {x : ap_X} {g : ap_G} (hc : ap_Cx x g cJ1_indexOfChar_4cfef RJ1 6) {K : Int32 → ap_Mem → Prop} (hz : ap_Ends x g 0 (some .int) (ap_Qi K))   {b0 : Nat} (hb0 : b0 < 6)   : ∀ (n : Nat) (x3 : Int32) (x4 : Int32) (x5 : Int32) (M : ap_Mem), w_J1_indexOfChar_4cfef_7   b0 K n x3 x4 x5 M → ap_V x g 6 7 [(0, .ref (ap_gV g b0)), (3, .int x3), (4, .int x4), (5, .int x5)] [] M := by
  intro n
  induction n with
  | zero => intro _ _ _ _ h; exact h.elim
  | succ n ih =>
    intro x3 x4 x5 M h
    replace h : w_J1_indexOfChar_4cfef_7_s   (w_J1_indexOfChar_4cfef_7   b0 K n) b0 x3 x4 x5 M K := h
    unfold w_J1_indexOfChar_4cfef_7_s at h
    refine ap_iload (q := 9) hc dJ1_indexOfChar_4cfef_7 rfl 3 rfl ?_
    refine ap_iload_n (q := 10) hc dJ1_indexOfChar_4cfef_9 rfl rfl 1 rfl ?_
    refine ap_icmp_ge (q := 13) (tgt := 31) hc dJ1_indexOfChar_4cfef_10 rfl (by decide) (fun z_1 => ?_) (fun z_1 => ?_)
    · have h := Eq.mp (if_pos z_1) h
      refine ap_iconst (q := 32) hc dJ1_indexOfChar_4cfef_31 rfl ic_m1 ?_
      exact ap_iret hc hz rfl dJ1_indexOfChar_4cfef_32 h
    · have h := Eq.mp (if_neg z_1) h
      refine ap_aload_n (q := 14) hc dJ1_indexOfChar_4cfef_13 rfl rfl 0 rfl ?_
      refine ap_iload (q := 16) hc dJ1_indexOfChar_4cfef_14 rfl 3 rfl ?_
      obtain ⟨g_2, h⟩ := h
      refine ap_bald (q := 17) hb0 g_2 hc dJ1_indexOfChar_4cfef_16 rfl ?_
      refine ap_iload (q := 19) hc dJ1_indexOfChar_4cfef_17 rfl 2 rfl ?_
      refine ap_icmp_ne (q := 22) (tgt := 25) hc dJ1_indexOfChar_4cfef_19 rfl (by decide) (fun z_3 => ?_) (fun z_3 => ?_)
      · have h := Eq.mp (if_neg z_3) h
        obtain ⟨x5_4, ex5_4, h⟩ := ap_nm h
        refine ap_iinc (q := 28) (lo2 := [(5, .int x5_4), (0, .ref (ap_gV g b0)), (3, .int x3), (4, .int x4)]) hc dJ1_indexOfChar_4cfef_25 rfl 3 rfl (by rw [ex5_4]; rfl) (by decide) rfl ?_
        refine ap_goto (q := 7) hc dJ1_indexOfChar_4cfef_28 (by decide) ?_
        exact ap_sub [1, 2, 3, 0] rfl (ih _ _ _ _ h)
      · have h := Eq.mp (if_pos z_3) h
        refine ap_iload (q := 24) hc dJ1_indexOfChar_4cfef_22 rfl 3 rfl ?_
        exact ap_iret hc hz rfl dJ1_indexOfChar_4cfef_24 h
def w_J1_indexOfChar_4cfef   (b0 : Nat) (x1 : Int32) (x2 : Int32) (x3 : Int32) (M : ap_Mem) (K : Int32 → ap_Mem → Prop) : Prop :=
∀ x4_1 : Int32, x4_1 = x1.toInt8.toInt32 → w_J1_indexOfChar_4cfef_7   b0 K 4096 x3 x4_1 x2 M
theorem bl_J1_indexOfChar_4cfef_0 {x : ap_X} {g : ap_G} (hc : ap_Cx x g cJ1_indexOfChar_4cfef RJ1 6) {K : Int32 → ap_Mem → Prop} (hz : ap_Ends x g 0 (some .int) (ap_Qi K))   {b0 : Nat} (hb0 : b0 < 6)   {x1 : Int32} {x2 : Int32} {x3 : Int32} {M : ap_Mem}  (h : w_J1_indexOfChar_4cfef   b0 x1 x2 x3 M K) : ap_V x g 6 0 [(0, .ref (ap_gV g b0)), (1, .int x1), (2, .int x2), (3, .int x3)] [] M := by
  unfold w_J1_indexOfChar_4cfef at h
  refine ap_iload_n (q := 1) hc dJ1_indexOfChar_4cfef_0 rfl rfl 1 rfl ?_
  refine ap_i2b (q := 2) hc dJ1_indexOfChar_4cfef_1 rfl ?_
  obtain ⟨x4_1, ex4_1, h⟩ := ap_nm h
  refine ap_istore (q := 4) (lo2 := [(4, .int x4_1), (0, .ref (ap_gV g b0)), (1, .int x1), (2, .int x2), (3, .int x3)]) hc dJ1_indexOfChar_4cfef_2 rfl ex4_1 (by decide) rfl ?_
  refine ap_iload_n (q := 5) hc dJ1_indexOfChar_4cfef_4 rfl rfl 3 rfl ?_
  refine ap_istore (q := 7) (lo2 := [(5, .int x2), (4, .int x4_1), (0, .ref (ap_gV g b0)), (1, .int x1), (2, .int x2), (3, .int x3)]) hc dJ1_indexOfChar_4cfef_5 rfl rfl (by decide) rfl ?_
  exact ap_sub [2, 5, 1, 0] rfl (bl_J1_indexOfChar_4cfef_7 hc hz  hb0  _ _ _ _ _ h)
theorem ok_J1_indexOfChar_4cfef {l : Launch} {g : ap_G} (hg : ap_GOK g) {b0 : Nat} (hb0 : b0 < 6) {x1 : Int32} {x2 : Int32} {x3 : Int32} {M : ap_Mem} {K : Int32 → ap_Mem → Prop} (h : w_J1_indexOfChar_4cfef b0 x1 x2 x3 M K) : ap_Ct l g yJ1_indexOfChar_4cfef cJ1_indexOfChar_4cfef 6 (some .int) 0 [.ref (ap_gV g b0), .int x1, .int x2, .int x3] M (ap_Qi K) := by
  refine ap_Ct_of hg (by decide +kernel) (Nat.le_of_ble_eq_true rfl) (fun x hx hc hz => ?_)
  subst hx
  exact bl_J1_indexOfChar_4cfef_0 hc hz hb0 h
def w_J1_indexOf_4cfef   (b0 : Nat) (x1 : Int32) (x2 : Int32) (x3 : Int32) (M : ap_Mem) (K : Int32 → ap_Mem → Prop) : Prop :=
w_J1_canEncode_9a6ad x1 M (fun r_1 M_2 => (if r_1 = 0 then (K (-1) M_2) else (∀ x2_4 : Int32, x2_4 = ap_max x2 0 → ∀ x3_5 : Int32, x3_5 = ap_min x3 (nI (ap_sL b0)) → (if x2_4 < x3_5 then (w_J1_indexOfChar_4cfef b0 x1 x2_4 x3_5 M_2 (fun r_7 M_8 => K r_7 M_8)) else (K (-1) M_2)))))
theorem bl_J1_indexOf_4cfef_0 {x : ap_X} {g : ap_G} (hc : ap_Cx x g cJ1_indexOf_4cfef RJ1 4) {K : Int32 → ap_Mem → Prop} (hz : ap_Ends x g 1 (some .int) (ap_Qi K))   {b0 : Nat} (hb0 : b0 < 6)   {x1 : Int32} {x2 : Int32} {x3 : Int32} {M : ap_Mem}  (h : w_J1_indexOf_4cfef   b0 x1 x2 x3 M K) : ap_V x g 4 0 [(0, .ref (ap_gV g b0)), (1, .int x1), (2, .int x2), (3, .int x3)] [] M := by
  have hg := hc.2.2.2.2.2.2.2.1
  unfold w_J1_indexOf_4cfef at h
  refine ap_iload_n (q := 1) hc dJ1_indexOf_4cfef_0 rfl rfl 1 rfl ?_
  refine ap_callS (q := 4) (As := [.int x1]) hc (ok_J1_canEncode_9a6ad hg  h) ml_RJ1_88 lk_J1_canEncode_9a6ad ls_J1_canEncode_9a6ad (ap_RmE hz (by decide)) rfl rfl (Nat.le_of_ble_eq_true rfl) dJ1_indexOf_4cfef_1 rfl (ap_ki (fun r_1 M_2 h => ?_))
  refine ap_if_ne (q := 7) (tgt := 9) hc dJ1_indexOf_4cfef_4 rfl (by decide) (fun z_3 => ?_) (fun z_3 => ?_)
  · have h := Eq.mp (if_neg z_3) h
    refine ap_iload_n (q := 10) hc dJ1_indexOf_4cfef_9 rfl rfl 2 rfl ?_
    refine ap_iconst (q := 11) hc dJ1_indexOf_4cfef_10 rfl ic_0 ?_
    refine ap_mmax (q := 14) lm_RJ1_92 (ap_RmE hz (by decide)) (Nat.le_of_ble_eq_true rfl) hc dJ1_indexOf_4cfef_11 rfl ?_
    obtain ⟨x2_4, ex2_4, h⟩ := ap_nm h
    refine ap_istore_n (q := 15) (lo2 := [(2, .int x2_4), (0, .ref (ap_gV g b0)), (1, .int x1), (3, .int x3)]) hc dJ1_indexOf_4cfef_14 rfl rfl ex2_4 (by decide) rfl ?_
    refine ap_iload_n (q := 16) hc dJ1_indexOf_4cfef_15 rfl rfl 3 rfl ?_
    refine ap_aload_n (q := 17) hc dJ1_indexOf_4cfef_16 rfl rfl 1 rfl ?_
    refine ap_blen (q := 18) hb0 hc dJ1_indexOf_4cfef_17 rfl ?_
    refine ap_mmin (q := 21) lm_RJ1_38 (ap_RmE hz (by decide)) (Nat.le_of_ble_eq_true rfl) hc dJ1_indexOf_4cfef_18 rfl ?_
    obtain ⟨x3_5, ex3_5, h⟩ := ap_nm h
    refine ap_istore_n (q := 22) (lo2 := [(3, .int x3_5), (2, .int x2_4), (0, .ref (ap_gV g b0)), (1, .int x1)]) hc dJ1_indexOf_4cfef_21 rfl rfl ex3_5 (by decide) rfl ?_
    refine ap_iload_n (q := 23) hc dJ1_indexOf_4cfef_22 rfl rfl 1 rfl ?_
    refine ap_iload_n (q := 24) hc dJ1_indexOf_4cfef_23 rfl rfl 0 rfl ?_
    refine ap_icmp_lt (q := 27) (tgt := 29) hc dJ1_indexOf_4cfef_24 rfl (by decide) (fun z_6 => ?_) (fun z_6 => ?_)
    · have h := Eq.mp (if_pos z_6) h
      refine ap_aload_n (q := 30) hc dJ1_indexOf_4cfef_29 rfl rfl 2 rfl ?_
      refine ap_iload_n (q := 31) hc dJ1_indexOf_4cfef_30 rfl rfl 3 rfl ?_
      refine ap_iload_n (q := 32) hc dJ1_indexOf_4cfef_31 rfl rfl 1 rfl ?_
      refine ap_iload_n (q := 33) hc dJ1_indexOf_4cfef_32 rfl rfl 0 rfl ?_
      refine ap_callS (q := 36) (As := [.ref (ap_gV g b0), .int x1, .int x2_4, .int x3_5]) hc (ok_J1_indexOfChar_4cfef hg hb0 h) ml_RJ1_95 lk_J1_indexOfChar_4cfef ls_J1_indexOfChar_4cfef (ap_RmE hz (by decide)) rfl rfl (Nat.le_of_ble_eq_true rfl) dJ1_indexOf_4cfef_33 rfl (ap_ki (fun r_7 M_8 h => ?_))
      exact ap_iret hc hz rfl dJ1_indexOf_4cfef_36 h
    · have h := Eq.mp (if_neg z_6) h
      refine ap_iconst (q := 28) hc dJ1_indexOf_4cfef_27 rfl ic_m1 ?_
      exact ap_iret hc hz rfl dJ1_indexOf_4cfef_28 h
  · have h := Eq.mp (if_pos z_3) h
    refine ap_iconst (q := 8) hc dJ1_indexOf_4cfef_7 rfl ic_m1 ?_
    exact ap_iret hc hz rfl dJ1_indexOf_4cfef_8 h
theorem ok_J1_indexOf_4cfef {l : Launch} {g : ap_G} (hg : ap_GOK g) {b0 : Nat} (hb0 : b0 < 6) {x1 : Int32} {x2 : Int32} {x3 : Int32} {M : ap_Mem} {K : Int32 → ap_Mem → Prop} (h : w_J1_indexOf_4cfef b0 x1 x2 x3 M K) : ap_Ct l g yJ1_indexOf_4cfef cJ1_indexOf_4cfef 4 (some .int) 1 [.ref (ap_gV g b0), .int x1, .int x2, .int x3] M (ap_Qi K) := by
  refine ap_Ct_of hg (by decide +kernel) (Nat.le_of_ble_eq_true rfl) (fun x hx hc hz => ?_)
  subst hx
  exact bl_J1_indexOf_4cfef_0 hc hz hb0 h
def w_J0_indexOf_7cf53   (w0 : Nat) (x1 : Int32) (x2 : Int32) (M : ap_Mem) (K : Int32 → ap_Mem → Prop) : Prop :=
w_J0_isLatin1_aae02 w0 M (fun r_1 M_2 => (if r_1 = 0 then (w_J0_length_8abf5 w0 M_2 (fun r_4 M_5 => False)) else (w_J0_length_8abf5 w0 M_2 (fun r_6 M_7 => w_J1_indexOf_4cfef w0 x1 x2 r_6 M_7 (fun r_8 M_9 => K r_8 M_9)))))
theorem bl_J0_indexOf_7cf53_0 {x : ap_X} {g : ap_G} (hc : ap_Cx x g cJ0_indexOf_7cf53 RJ0 3) {K : Int32 → ap_Mem → Prop} (hz : ap_Ends x g 2 (some .int) (ap_Qi K))   {w0 : Nat} (hw0 : w0 < 6)   {x1 : Int32} {x2 : Int32} {M : ap_Mem}  (h : w_J0_indexOf_7cf53   w0 x1 x2 M K) : ap_V x g 3 0 [(0, .ref (ap_gK g w0)), (1, .int x1), (2, .int x2)] [] M := by
  have hg := hc.2.2.2.2.2.2.2.1
  unfold w_J0_indexOf_7cf53 at h
  refine ap_aload_n (q := 1) hc dJ0_indexOf_7cf53_0 rfl rfl 0 rfl ?_
  refine ap_callT (q := 4) (As := []) hc (ok_J0_isLatin1_aae02 hg hw0 h) ml_RJ0_492 lk_J0_isLatin1_aae02 lv_J0_isLatin1_aae02 hw0 rfl (ap_RmE hz (by decide)) rfl rfl (Nat.le_of_ble_eq_true rfl) dJ0_indexOf_7cf53_1 rfl (ap_ki (fun r_1 M_2 h => ?_))
  refine ap_if_eq (q := 7) (tgt := 23) hc dJ0_indexOf_7cf53_4 rfl (by decide) (fun z_3 => ?_) (fun z_3 => ?_)
  · have h := Eq.mp (if_pos z_3) h
    refine ap_aload_n (q := 24) hc dJ0_indexOf_7cf53_23 rfl rfl 0 rfl ?_
    refine ap_sval (q := 27) hw0 fl_RJ0_9 hc dJ0_indexOf_7cf53_24 rfl ?_
    refine ap_iload_n (q := 28) hc dJ0_indexOf_7cf53_27 rfl rfl 1 rfl ?_
    refine ap_iload_n (q := 29) hc dJ0_indexOf_7cf53_28 rfl rfl 2 rfl ?_
    refine ap_aload_n (q := 30) hc dJ0_indexOf_7cf53_29 rfl rfl 0 rfl ?_
    refine ap_callT (q := 33) (As := []) hc (ok_J0_length_8abf5 hg hw0 h) ml_RJ0_505 lk_J0_length_8abf5 lv_J0_length_8abf5 hw0 rfl (ap_RmE hz (by decide)) rfl rfl (Nat.le_of_ble_eq_true rfl) dJ0_indexOf_7cf53_30 rfl (ap_ki (fun r_4 M_5 h => ?_))
    exact h.elim
  · have h := Eq.mp (if_neg z_3) h
    refine ap_aload_n (q := 8) hc dJ0_indexOf_7cf53_7 rfl rfl 0 rfl ?_
    refine ap_sval (q := 11) hw0 fl_RJ0_9 hc dJ0_indexOf_7cf53_8 rfl ?_
    refine ap_iload_n (q := 12) hc dJ0_indexOf_7cf53_11 rfl rfl 1 rfl ?_
    refine ap_iload_n (q := 13) hc dJ0_indexOf_7cf53_12 rfl rfl 2 rfl ?_
    refine ap_aload_n (q := 14) hc dJ0_indexOf_7cf53_13 rfl rfl 0 rfl ?_
    refine ap_callT (q := 17) (As := []) hc (ok_J0_length_8abf5 hg hw0 h) ml_RJ0_505 lk_J0_length_8abf5 lv_J0_length_8abf5 hw0 rfl (ap_RmE hz (by decide)) rfl rfl (Nat.le_of_ble_eq_true rfl) dJ0_indexOf_7cf53_14 rfl (ap_ki (fun r_6 M_7 h => ?_))
    refine ap_callS (q := 20) (As := [.ref (ap_gV g w0), .int x1, .int x2, .int r_6]) hc (ok_J1_indexOf_4cfef hg hw0 h) ml_RJ0_637 lk_J1_indexOf_4cfef ls_J1_indexOf_4cfef (ap_RmE hz (by decide)) rfl rfl (Nat.le_of_ble_eq_true rfl) dJ0_indexOf_7cf53_17 rfl (ap_ki (fun r_8 M_9 h => ?_))
    refine ap_goto (q := 36) hc dJ0_indexOf_7cf53_20 (by decide) ?_
    exact ap_iret hc hz rfl dJ0_indexOf_7cf53_36 h
theorem ok_J0_indexOf_7cf53 {l : Launch} {g : ap_G} (hg : ap_GOK g) {w0 : Nat} (hw0 : w0 < 6) {x1 : Int32} {x2 : Int32} {M : ap_Mem} {K : Int32 → ap_Mem → Prop} (h : w_J0_indexOf_7cf53 w0 x1 x2 M K) : ap_Ct l g yJ0_indexOf_7cf53 cJ0_indexOf_7cf53 3 (some .int) 2 [.ref (ap_gK g w0), .int x1, .int x2] M (ap_Qi K) := by
  refine ap_Ct_of hg (by decide +kernel) (Nat.le_of_ble_eq_true rfl) (fun x hx hc hz => ?_)
  subst hx
  exact bl_J0_indexOf_7cf53_0 hc hz hw0 h
def w_J0_indexOf_0f7a4   (w0 : Nat) (x1 : Int32) (M : ap_Mem) (K : Int32 → ap_Mem → Prop) : Prop :=
w_J0_indexOf_7cf53 w0 x1 0 M (fun r_1 M_2 => K r_1 M_2)
theorem bl_J0_indexOf_0f7a4_0 {x : ap_X} {g : ap_G} (hc : ap_Cx x g cJ0_indexOf_0f7a4 RJ0 2) {K : Int32 → ap_Mem → Prop} (hz : ap_Ends x g 3 (some .int) (ap_Qi K))   {w0 : Nat} (hw0 : w0 < 6)   {x1 : Int32} {M : ap_Mem}  (h : w_J0_indexOf_0f7a4   w0 x1 M K) : ap_V x g 2 0 [(0, .ref (ap_gK g w0)), (1, .int x1)] [] M := by
  have hg := hc.2.2.2.2.2.2.2.1
  unfold w_J0_indexOf_0f7a4 at h
  refine ap_aload_n (q := 1) hc dJ0_indexOf_0f7a4_0 rfl rfl 0 rfl ?_
  refine ap_iload_n (q := 2) hc dJ0_indexOf_0f7a4_1 rfl rfl 1 rfl ?_
  refine ap_iconst (q := 3) hc dJ0_indexOf_0f7a4_2 rfl ic_0 ?_
  refine ap_callT (q := 6) (As := [.int x1, .int 0]) hc (ok_J0_indexOf_7cf53 hg hw0 h) ml_RJ0_633 lk_J0_indexOf_7cf53 lv_J0_indexOf_7cf53 hw0 rfl (ap_RmE hz (by decide)) rfl rfl (Nat.le_of_ble_eq_true rfl) dJ0_indexOf_0f7a4_3 rfl (ap_ki (fun r_1 M_2 h => ?_))
  exact ap_iret hc hz rfl dJ0_indexOf_0f7a4_6 h
theorem ok_J0_indexOf_0f7a4 {l : Launch} {g : ap_G} (hg : ap_GOK g) {w0 : Nat} (hw0 : w0 < 6) {x1 : Int32} {M : ap_Mem} {K : Int32 → ap_Mem → Prop} (h : w_J0_indexOf_0f7a4 w0 x1 M K) : ap_Ct l g yJ0_indexOf_0f7a4 cJ0_indexOf_0f7a4 2 (some .int) 3 [.ref (ap_gK g w0), .int x1] M (ap_Qi K) := by
  refine ap_Ct_of hg (by decide +kernel) (Nat.le_of_ble_eq_true rfl) (fun x hx hc hz => ?_)
  subst hx
  exact bl_J0_indexOf_0f7a4_0 hc hz hw0 h
def w_J6_bitCount_0f7a4    (x0 : Int32) (M : ap_Mem) (K : Int32 → ap_Mem → Prop) : Prop :=
∀ x0_1 : Int32, x0_1 = x0 - ((x0.toUInt32 >>> ((1 : Int32).toUInt32 &&& Int32.toUInt32 31)).toInt32 &&& 1431655765) → ∀ x0_2 : Int32, x0_2 = (x0_1 &&& 858993459) + ((x0_1.toUInt32 >>> ((2 : Int32).toUInt32 &&& Int32.toUInt32 31)).toInt32 &&& 858993459) → ∀ x0_3 : Int32, x0_3 = (x0_2 + (x0_2.toUInt32 >>> ((4 : Int32).toUInt32 &&& Int32.toUInt32 31)).toInt32) &&& 252645135 → ∀ x0_4 : Int32, x0_4 = x0_3 + (x0_3.toUInt32 >>> ((8 : Int32).toUInt32 &&& Int32.toUInt32 31)).toInt32 → ∀ x0_5 : Int32, x0_5 = x0_4 + (x0_4.toUInt32 >>> ((16 : Int32).toUInt32 &&& Int32.toUInt32 31)).toInt32 → K (x0_5 &&& 63) M
theorem bl_J6_bitCount_0f7a4_0 {x : ap_X} {g : ap_G} (hc : ap_Cx x g cJ6_bitCount_0f7a4 RJ6 1) {K : Int32 → ap_Mem → Prop} (hz : ap_Ends x g 0 (some .int) (ap_Qi K))       {x0 : Int32} {M : ap_Mem}  (h : w_J6_bitCount_0f7a4    x0 M K) : ap_V x g 1 0 [(0, .int x0)] [] M := by
  unfold w_J6_bitCount_0f7a4 at h
  refine ap_iload_n (q := 1) hc dJ6_bitCount_0f7a4_0 rfl rfl 0 rfl ?_
  refine ap_iload_n (q := 2) hc dJ6_bitCount_0f7a4_1 rfl rfl 0 rfl ?_
  refine ap_iconst (q := 3) hc dJ6_bitCount_0f7a4_2 rfl ic_1 ?_
  refine ap_iushr (v := (x0.toUInt32 >>> ((1 : Int32).toUInt32 &&& Int32.toUInt32 31)).toInt32) (q := 4) hc dJ6_bitCount_0f7a4_3 rfl rfl ?_
  refine ap_ldcw (q := 7) hc dJ6_bitCount_0f7a4_4 rfl ct_RJ6_265 ?_
  refine ap_iand (q := 8) hc dJ6_bitCount_0f7a4_7 rfl ?_
  refine ap_isub (q := 9) hc dJ6_bitCount_0f7a4_8 rfl ?_
  obtain ⟨x0_1, ex0_1, h⟩ := ap_nm h
  refine ap_istore_n (q := 10) (lo2 := [(0, .int x0_1)]) hc dJ6_bitCount_0f7a4_9 rfl rfl ex0_1 (by decide) rfl ?_
  refine ap_iload_n (q := 11) hc dJ6_bitCount_0f7a4_10 rfl rfl 0 rfl ?_
  refine ap_ldcw (q := 14) hc dJ6_bitCount_0f7a4_11 rfl ct_RJ6_266 ?_
  refine ap_iand (q := 15) hc dJ6_bitCount_0f7a4_14 rfl ?_
  refine ap_iload_n (q := 16) hc dJ6_bitCount_0f7a4_15 rfl rfl 0 rfl ?_
  refine ap_iconst (q := 17) hc dJ6_bitCount_0f7a4_16 rfl ic_2 ?_
  refine ap_iushr (v := (x0_1.toUInt32 >>> ((2 : Int32).toUInt32 &&& Int32.toUInt32 31)).toInt32) (q := 18) hc dJ6_bitCount_0f7a4_17 rfl rfl ?_
  refine ap_ldcw (q := 21) hc dJ6_bitCount_0f7a4_18 rfl ct_RJ6_266 ?_
  refine ap_iand (q := 22) hc dJ6_bitCount_0f7a4_21 rfl ?_
  refine ap_iadd (q := 23) hc dJ6_bitCount_0f7a4_22 rfl ?_
  obtain ⟨x0_2, ex0_2, h⟩ := ap_nm h
  refine ap_istore_n (q := 24) (lo2 := [(0, .int x0_2)]) hc dJ6_bitCount_0f7a4_23 rfl rfl ex0_2 (by decide) rfl ?_
  refine ap_iload_n (q := 25) hc dJ6_bitCount_0f7a4_24 rfl rfl 0 rfl ?_
  refine ap_iload_n (q := 26) hc dJ6_bitCount_0f7a4_25 rfl rfl 0 rfl ?_
  refine ap_iconst (q := 27) hc dJ6_bitCount_0f7a4_26 rfl ic_4 ?_
  refine ap_iushr (v := (x0_2.toUInt32 >>> ((4 : Int32).toUInt32 &&& Int32.toUInt32 31)).toInt32) (q := 28) hc dJ6_bitCount_0f7a4_27 rfl rfl ?_
  refine ap_iadd (q := 29) hc dJ6_bitCount_0f7a4_28 rfl ?_
  refine ap_ldcw (q := 32) hc dJ6_bitCount_0f7a4_29 rfl ct_RJ6_267 ?_
  refine ap_iand (q := 33) hc dJ6_bitCount_0f7a4_32 rfl ?_
  obtain ⟨x0_3, ex0_3, h⟩ := ap_nm h
  refine ap_istore_n (q := 34) (lo2 := [(0, .int x0_3)]) hc dJ6_bitCount_0f7a4_33 rfl rfl ex0_3 (by decide) rfl ?_
  refine ap_iload_n (q := 35) hc dJ6_bitCount_0f7a4_34 rfl rfl 0 rfl ?_
  refine ap_iload_n (q := 36) hc dJ6_bitCount_0f7a4_35 rfl rfl 0 rfl ?_
  refine ap_bipush (q := 38) hc dJ6_bitCount_0f7a4_36 rfl bc_8 ?_
  refine ap_iushr (v := (x0_3.toUInt32 >>> ((8 : Int32).toUInt32 &&& Int32.toUInt32 31)).toInt32) (q := 39) hc dJ6_bitCount_0f7a4_38 rfl rfl ?_
  refine ap_iadd (q := 40) hc dJ6_bitCount_0f7a4_39 rfl ?_
  obtain ⟨x0_4, ex0_4, h⟩ := ap_nm h
  refine ap_istore_n (q := 41) (lo2 := [(0, .int x0_4)]) hc dJ6_bitCount_0f7a4_40 rfl rfl ex0_4 (by decide) rfl ?_
  refine ap_iload_n (q := 42) hc dJ6_bitCount_0f7a4_41 rfl rfl 0 rfl ?_
  refine ap_iload_n (q := 43) hc dJ6_bitCount_0f7a4_42 rfl rfl 0 rfl ?_
  refine ap_bipush (q := 45) hc dJ6_bitCount_0f7a4_43 rfl bc_16 ?_
  refine ap_iushr (v := (x0_4.toUInt32 >>> ((16 : Int32).toUInt32 &&& Int32.toUInt32 31)).toInt32) (q := 46) hc dJ6_bitCount_0f7a4_45 rfl rfl ?_
  refine ap_iadd (q := 47) hc dJ6_bitCount_0f7a4_46 rfl ?_
  obtain ⟨x0_5, ex0_5, h⟩ := ap_nm h
  refine ap_istore_n (q := 48) (lo2 := [(0, .int x0_5)]) hc dJ6_bitCount_0f7a4_47 rfl rfl ex0_5 (by decide) rfl ?_
  refine ap_iload_n (q := 49) hc dJ6_bitCount_0f7a4_48 rfl rfl 0 rfl ?_
  refine ap_bipush (q := 51) hc dJ6_bitCount_0f7a4_49 rfl bc_63 ?_
  refine ap_iand (q := 52) hc dJ6_bitCount_0f7a4_51 rfl ?_
  exact ap_iret hc hz rfl dJ6_bitCount_0f7a4_52 h
theorem ok_J6_bitCount_0f7a4 {l : Launch} {g : ap_G} (hg : ap_GOK g)   {x0 : Int32} {M : ap_Mem} {K : Int32 → ap_Mem → Prop} (h : w_J6_bitCount_0f7a4  x0 M K) : ap_Ct l g yJ6_bitCount_0f7a4 cJ6_bitCount_0f7a4 1 (some .int) 0 [.int x0] M (ap_Qi K) := by
  refine ap_Ct_of hg (by decide +kernel) (Nat.le_of_ble_eq_true rfl) (fun x hx hc hz => ?_)
  subst hx
  exact bl_J6_bitCount_0f7a4_0 hc hz  h
