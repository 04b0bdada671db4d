theorem bc_m10 : (Int8.ofInt (-10)).toInt32 = (-10) := by decide +kernel
theorem bc_m6 : (Int8.ofInt (-6)).toInt32 = (-6) := by decide +kernel
theorem bc_m5 : (Int8.ofInt (-5)).toInt32 = (-5) := by decide +kernel
theorem bc_m4 : (Int8.ofInt (-4)).toInt32 = (-4) := by decide +kernel
theorem bc_m3 : (Int8.ofInt (-3)).toInt32 = (-3) := by decide +kernel
theorem bc_m2 : (Int8.ofInt (-2)).toInt32 = (-2) := by decide +kernel
theorem bc_6 : (Int8.ofInt 6).toInt32 = 6 := by decide +kernel
theorem bc_7 : (Int8.ofInt 7).toInt32 = 7 := by decide +kernel
theorem bc_8 : (Int8.ofInt 8).toInt32 = 8 := by decide +kernel
theorem bc_9 : (Int8.ofInt 9).toInt32 = 9 := by decide +kernel
theorem bc_10 : (Int8.ofInt 10).toInt32 = 10 := by decide +kernel
theorem bc_11 : (Int8.ofInt 11).toInt32 = 11 := by decide +kernel
theorem bc_12 : (Int8.ofInt 12).toInt32 = 12 := by decide +kernel
theorem bc_13 : (Int8.ofInt 13).toInt32 = 13 := by decide +kernel
theorem bc_14 : (Int8.ofInt 14).toInt32 = 14 := by decide +kernel
theorem bc_15 : (Int8.ofInt 15).toInt32 = 15 := by decide +kernel
theorem bc_16 : (Int8.ofInt 16).toInt32 = 16 := by decide +kernel
theorem bc_17 : (Int8.ofInt 17).toInt32 = 17 := by decide +kernel
theorem bc_18 : (Int8.ofInt 18).toInt32 = 18 := by decide +kernel
theorem bc_20 : (Int8.ofInt 20).toInt32 = 20 := by decide +kernel
theorem bc_21 : (Int8.ofInt 21).toInt32 = 21 := by decide +kernel
theorem bc_24 : (Int8.ofInt 24).toInt32 = 24 := by decide +kernel
theorem bc_29 : (Int8.ofInt 29).toInt32 = 29 := by decide +kernel
theorem bc_30 : (Int8.ofInt 30).toInt32 = 30 := by decide +kernel
theorem bc_31 : (Int8.ofInt 31).toInt32 = 31 := by decide +kernel
theorem bc_32 : (Int8.ofInt 32).toInt32 = 32 := by decide +kernel
theorem bc_33 : (Int8.ofInt 33).toInt32 = 33 := by decide +kernel
theorem bc_34 : (Int8.ofInt 34).toInt32 = 34 := by decide +kernel
theorem bc_35 : (Int8.ofInt 35).toInt32 = 35 := by decide +kernel
theorem bc_36 : (Int8.ofInt 36).toInt32 = 36 := by decide +kernel
theorem bc_37 : (Int8.ofInt 37).toInt32 = 37 := by decide +kernel
theorem bc_38 : (Int8.ofInt 38).toInt32 = 38 := by decide +kernel
theorem bc_40 : (Int8.ofInt 40).toInt32 = 40 := by decide +kernel
theorem bc_41 : (Int8.ofInt 41).toInt32 = 41 := by decide +kernel
theorem bc_44 : (Int8.ofInt 44).toInt32 = 44 := by decide +kernel
theorem bc_48 : (Int8.ofInt 48).toInt32 = 48 := by decide +kernel
theorem bc_50 : (Int8.ofInt 50).toInt32 = 50 := by decide +kernel
theorem bc_51 : (Int8.ofInt 51).toInt32 = 51 := by decide +kernel
theorem bc_57 : (Int8.ofInt 57).toInt32 = 57 := by decide +kernel
theorem bc_59 : (Int8.ofInt 59).toInt32 = 59 := by decide +kernel
theorem bc_60 : (Int8.ofInt 60).toInt32 = 60 := by decide +kernel
theorem bc_61 : (Int8.ofInt 61).toInt32 = 61 := by decide +kernel
theorem bc_63 : (Int8.ofInt 63).toInt32 = 63 := by decide +kernel
theorem bc_74 : (Int8.ofInt 74).toInt32 = 74 := by decide +kernel
theorem bc_84 : (Int8.ofInt 84).toInt32 = 84 := by decide +kernel
theorem bc_89 : (Int8.ofInt 89).toInt32 = 89 := by decide +kernel
theorem bc_94 : (Int8.ofInt 94).toInt32 = 94 := by decide +kernel
theorem bc_98 : (Int8.ofInt 98).toInt32 = 98 := by decide +kernel
theorem bc_99 : (Int8.ofInt 99).toInt32 = 99 := by decide +kernel
theorem bc_100 : (Int8.ofInt 100).toInt32 = 100 := by decide +kernel
theorem bc_102 : (Int8.ofInt 102).toInt32 = 102 := by decide +kernel
theorem bc_104 : (Int8.ofInt 104).toInt32 = 104 := by decide +kernel
theorem bc_110 : (Int8.ofInt 110).toInt32 = 110 := by decide +kernel
theorem bc_118 : (Int8.ofInt 118).toInt32 = 118 := by decide +kernel
theorem bc_124 : (Int8.ofInt 124).toInt32 = 124 := by decide +kernel
theorem bc_126 : (Int8.ofInt 126).toInt32 = 126 := by decide +kernel
theorem bc_127 : (Int8.ofInt 127).toInt32 = 127 := by decide +kernel
theorem ic_m1 : Int32.ofInt (-1) = (-1) := by decide +kernel
theorem ic_0 : Int32.ofInt 0 = 0 := by decide +kernel
theorem ic_1 : Int32.ofInt 1 = 1 := by decide +kernel
theorem ic_2 : Int32.ofInt 2 = 2 := by decide +kernel
theorem ic_3 : Int32.ofInt 3 = 3 := by decide +kernel
theorem ic_4 : Int32.ofInt 4 = 4 := by decide +kernel
theorem ic_5 : Int32.ofInt 5 = 5 := by decide +kernel
theorem sc_m200 : (Int16.ofInt (-200)).toInt32 = (-200) := by decide +kernel
theorem sc_140 : (Int16.ofInt 140).toInt32 = 140 := by decide +kernel
theorem sc_226 : (Int16.ofInt 226).toInt32 = 226 := by decide +kernel
theorem sc_231 : (Int16.ofInt 231).toInt32 = 231 := by decide +kernel
theorem sc_236 : (Int16.ofInt 236).toInt32 = 236 := by decide +kernel
theorem sc_255 : (Int16.ofInt 255).toInt32 = 255 := by decide +kernel
theorem sc_936 : (Int16.ofInt 936).toInt32 = 936 := by decide +kernel
theorem sc_9999 : (Int16.ofInt 9999).toInt32 = 9999 := by decide +kernel
theorem ct_RX8_106 : Cond.constant RX8 106 (-999999) ∈ ap_TW := ap_tw (k := 611) (by decide +kernel) (by decide +kernel)
theorem ct_RX2_66 : Cond.constant RX2 66 1000000 ∈ ap_TW := ap_tw (k := 730) (by decide +kernel) (by decide +kernel)
theorem ct_RX7_73 : Cond.constant RX7 73 65535 ∈ ap_TW := ap_tw (k := 661) (by decide +kernel) (by decide +kernel)
theorem ct_RX9_139 : Cond.constant RX9 139 (-999999) ∈ ap_TW := ap_tw (k := 1026) (by decide +kernel) (by decide +kernel)
theorem ct_RX9_161 : Cond.constant RX9 161 1000000000 ∈ ap_TW := ap_tw (k := 1109) (by decide +kernel) (by decide +kernel)
theorem ct_RJ6_265 : Cond.constant RJ6 265 1431655765 ∈ ap_TW := ap_tw (k := 763) (by decide +kernel) (by decide +kernel)
theorem ct_RJ6_266 : Cond.constant RJ6 266 858993459 ∈ ap_TW := ap_tw (k := 764) (by decide +kernel) (by decide +kernel)
theorem ct_RJ6_267 : Cond.constant RJ6 267 252645135 ∈ ap_TW := ap_tw (k := 765) (by decide +kernel) (by decide +kernel)
theorem ct_RX8_219 : Cond.constantLong RX8 219 (-9223372036854775808) ∈ ap_TW := ap_tw (k := 803) (by decide +kernel) (by decide +kernel)
theorem ct_RX9_179 : Cond.constantLong RX9 179 (-9223372036854775808) ∈ ap_TW := ap_tw (k := 1165) (by decide +kernel) (by decide +kernel)
theorem fl_RX8_253 : Cond.fieldLink RX8 253 RX8 "ABOVE" "[I" ∈ ap_TW := ap_tw (k := 866) (by decide +kernel) (by decide +kernel)
theorem fl_RX0_44 : Cond.fieldLink RX0 44 RX0 "BODIES" "[I" ∈ ap_TW := ap_tw (k := 845) (by decide +kernel) (by decide +kernel)
theorem fl_RX2_102 : Cond.fieldLink RX2 102 RX2 "STRIDES_TO_NEXT" "[I" ∈ ap_TW := ap_tw (k := 717) (by decide +kernel) (by decide +kernel)
theorem fl_RJ0_9 : Cond.fieldLink RJ0 9 RJ0 "value" "[B" ∈ ap_TW := ap_tw (k := 1248) (by decide +kernel) (by decide +kernel)
theorem fl_RJ0_15 : Cond.fieldLink RJ0 15 RJ0 "coder" "B" ∈ ap_TW := ap_tw (k := 1249) (by decide +kernel) (by decide +kernel)
theorem fl_RJ0_38 : Cond.fieldLink RJ0 38 RJ0 "COMPACT_STRINGS" "Z" ∈ ap_TW := ap_tw (k := 423) (by decide +kernel) (by decide +kernel)
theorem fl_RJ0_1053 : Cond.fieldLink RJ0 1053 RJ3 "SIOOBE_FORMATTER" "Ljava/util/function/BiFunction;" ∈ ap_TW := ap_tw (k := 439) (by decide +kernel) (by decide +kernel)
theorem ml_RX8_50 : Cond.methodLink RX8 50 yX5_add ∈ ap_TW := ap_tw (k := 375) (by decide +kernel) (by decide +kernel)
theorem ml_RX8_60 : Cond.methodLink RX8 60 yX4_reads ∈ ap_TW := ap_tw (k := 383) (by decide +kernel) (by decide +kernel)
theorem ml_RX8_64 : Cond.methodLink RX8 64 yX5_clear ∈ ap_TW := ap_tw (k := 573) (by decide +kernel) (by decide +kernel)
theorem ml_RX8_78 : Cond.methodLink RX8 78 yX7_copyFrom ∈ ap_TW := ap_tw (k := 574) (by decide +kernel) (by decide +kernel)
theorem ml_RX8_84 : Cond.methodLink RX8 84 yX8_isKind ∈ ap_TW := ap_tw (k := 586) (by decide +kernel) (by decide +kernel)
theorem ml_RX8_88 : Cond.methodLink RX8 88 yX8_isCell ∈ ap_TW := ap_tw (k := 589) (by decide +kernel) (by decide +kernel)
theorem ml_RX8_91 : Cond.methodLink RX8 91 yX8_isDigit ∈ ap_TW := ap_tw (k := 592) (by decide +kernel) (by decide +kernel)
theorem ml_RX8_98 : Cond.methodLink RX8 98 yX3_add ∈ ap_TW := ap_tw (k := 595) (by decide +kernel) (by decide +kernel)
theorem ml_RX8_103 : Cond.methodLink RX8 103 yX3_has ∈ ap_TW := ap_tw (k := 607) (by decide +kernel) (by decide +kernel)
theorem ml_RX8_117 : Cond.methodLink RX8 117 yX3_isAway ∈ ap_TW := ap_tw (k := 612) (by decide +kernel) (by decide +kernel)
theorem ml_RX8_120 : Cond.methodLink RX8 120 yX2_begin ∈ ap_TW := ap_tw (k := 616) (by decide +kernel) (by decide +kernel)
theorem ml_RX8_124 : Cond.methodLink RX8 124 yX2_lure ∈ ap_TW := ap_tw (k := 635) (by decide +kernel) (by decide +kernel)
theorem ml_RX8_127 : Cond.methodLink RX8 127 yX2_reckon ∈ ap_TW := ap_tw (k := 662) (by decide +kernel) (by decide +kernel)
theorem ml_RX8_130 : Cond.methodLink RX8 130 yX2_tug ∈ ap_TW := ap_tw (k := 670) (by decide +kernel) (by decide +kernel)
theorem ml_RX8_136 : Cond.methodLink RX8 136 yX3_setAway ∈ ap_TW := ap_tw (k := 686) (by decide +kernel) (by decide +kernel)
theorem ml_RX8_154 : Cond.methodLink RX8 154 yX1_cellsLainOn ∈ ap_TW := ap_tw (k := 695) (by decide +kernel) (by decide +kernel)
theorem ml_RX8_157 : Cond.methodLink RX8 157 yX2_draw ∈ ap_TW := ap_tw (k := 699) (by decide +kernel) (by decide +kernel)
theorem ml_RX8_164 : Cond.methodLink RX8 164 yX8_isFuture ∈ ap_TW := ap_tw (k := 708) (by decide +kernel) (by decide +kernel)
theorem ml_RX8_167 : Cond.methodLink RX8 167 yX2_go ∈ ap_TW := ap_tw (k := 711) (by decide +kernel) (by decide +kernel)
theorem ml_RX8_172 : Cond.methodLink RX8 172 yX1_copyFrom ∈ ap_TW := ap_tw (k := 721) (by decide +kernel) (by decide +kernel)
theorem ml_RX8_175 : Cond.methodLink RX8 175 yX2_goSteps ∈ ap_TW := ap_tw (k := 726) (by decide +kernel) (by decide +kernel)
theorem ml_RX8_178 : Cond.methodLink RX8 178 yX2_comesTo ∈ ap_TW := ap_tw (k := 736) (by decide +kernel) (by decide +kernel)
theorem ml_RX8_181 : Cond.methodLink RX8 181 yX8_isEither ∈ ap_TW := ap_tw (k := 744) (by decide +kernel) (by decide +kernel)
theorem ml_RX8_184 : Cond.methodLink RX8 184 yX2_again ∈ ap_TW := ap_tw (k := 747) (by decide +kernel) (by decide +kernel)
theorem ml_RX8_190 : Cond.methodLink RX8 190 yX2_putPerson ∈ ap_TW := ap_tw (k := 752) (by decide +kernel) (by decide +kernel)
theorem ml_RX8_194 : Cond.methodLink RX8 194 yJ6_bitCount_0f7a4 ∈ ap_TW := ap_tw (k := 760) (by decide +kernel) (by decide +kernel)
theorem ml_RX8_213 : Cond.methodLink RX8 213 yX2_isAsSeen ∈ ap_TW := ap_tw (k := 782) (by decide +kernel) (by decide +kernel)
theorem ml_RX8_216 : Cond.methodLink RX8 216 yX2_makePerson ∈ ap_TW := ap_tw (k := 791) (by decide +kernel) (by decide +kernel)
theorem ml_RX8_221 : Cond.methodLink RX8 221 yX8_inLowestTerms ∈ ap_TW := ap_tw (k := 804) (by decide +kernel) (by decide +kernel)
theorem ml_RX8_225 : Cond.methodLink RX8 225 yX8_far ∈ ap_TW := ap_tw (k := 811) (by decide +kernel) (by decide +kernel)
theorem ml_RX8_234 : Cond.methodLink RX8 234 yX2_follow ∈ ap_TW := ap_tw (k := 820) (by decide +kernel) (by decide +kernel)
theorem ml_RX8_243 : Cond.methodLink RX8 243 yX0_start ∈ ap_TW := ap_tw (k := 837) (by decide +kernel) (by decide +kernel)
theorem ml_RX8_247 : Cond.methodLink RX8 247 yX0_inTrace ∈ ap_TW := ap_tw (k := 857) (by decide +kernel) (by decide +kernel)
theorem ml_RX8_256 : Cond.methodLink RX8 256 yX6_copyFrom ∈ ap_TW := ap_tw (k := 871) (by decide +kernel) (by decide +kernel)
theorem ml_RX0_40 : Cond.methodLink RX0 40 yX0_run ∈ ap_TW := ap_tw (k := 841) (by decide +kernel) (by decide +kernel)
theorem ml_RX0_50 : Cond.methodLink RX0 50 yX0_note ∈ ap_TW := ap_tw (k := 849) (by decide +kernel) (by decide +kernel)
theorem ml_RX2_45 : Cond.methodLink RX2 45 yX3_copyFrom ∈ ap_TW := ap_tw (k := 620) (by decide +kernel) (by decide +kernel)
theorem ml_RX2_50 : Cond.methodLink RX2 50 yX7_copyFrom ∈ ap_TW := ap_tw (k := 625) (by decide +kernel) (by decide +kernel)
theorem ml_RX2_54 : Cond.methodLink RX2 54 yX1_copyFrom ∈ ap_TW := ap_tw (k := 626) (by decide +kernel) (by decide +kernel)
theorem ml_RX2_57 : Cond.methodLink RX2 57 yX2_again ∈ ap_TW := ap_tw (k := 631) (by decide +kernel) (by decide +kernel)
theorem ml_RX2_67 : Cond.methodLink RX2 67 yX2_go ∈ ap_TW := ap_tw (k := 731) (by decide +kernel) (by decide +kernel)
theorem ml_RX2_74 : Cond.methodLink RX2 74 yX3_setAway ∈ ap_TW := ap_tw (k := 824) (by decide +kernel) (by decide +kernel)
theorem ml_RX2_95 : Cond.methodLink RX2 95 yX2_reckon ∈ ap_TW := ap_tw (k := 715) (by decide +kernel) (by decide +kernel)
theorem ml_RX2_98 : Cond.methodLink RX2 98 yX2_draw ∈ ap_TW := ap_tw (k := 716) (by decide +kernel) (by decide +kernel)
theorem ml_RX2_118 : Cond.methodLink RX2 118 yX2_phase ∈ ap_TW := ap_tw (k := 639) (by decide +kernel) (by decide +kernel)
theorem ml_RX2_122 : Cond.methodLink RX2 122 yX7_weigh ∈ ap_TW := ap_tw (k := 643) (by decide +kernel) (by decide +kernel)
theorem ml_RX2_133 : Cond.methodLink RX2 133 yX2_tug ∈ ap_TW := ap_tw (k := 703) (by decide +kernel) (by decide +kernel)
theorem ml_RX2_136 : Cond.methodLink RX2 136 yX3_isAway ∈ ap_TW := ap_tw (k := 666) (by decide +kernel) (by decide +kernel)
theorem ml_RX2_148 : Cond.methodLink RX2 148 yX2_tugBut ∈ ap_TW := ap_tw (k := 667) (by decide +kernel) (by decide +kernel)
theorem ml_RX3_31 : Cond.methodLink RX3 31 yX3_setAway ∈ ap_TW := ap_tw (k := 599) (by decide +kernel) (by decide +kernel)
theorem ml_RX4_44 : Cond.methodLink RX4 44 yX5_copyFrom ∈ ap_TW := ap_tw (k := 387) (by decide +kernel) (by decide +kernel)
theorem ml_RX4_48 : Cond.methodLink RX4 48 yX7_clear ∈ ap_TW := ap_tw (k := 396) (by decide +kernel) (by decide +kernel)
theorem ml_RX4_51 : Cond.methodLink RX4 51 yX4_readsClause ∈ ap_TW := ap_tw (k := 400) (by decide +kernel) (by decide +kernel)
theorem ml_RX4_58 : Cond.methodLink RX4 58 yX4_takes ∈ ap_TW := ap_tw (k := 463) (by decide +kernel) (by decide +kernel)
theorem ml_RX4_62 : Cond.methodLink RX4 62 yX4_next ∈ ap_TW := ap_tw (k := 404) (by decide +kernel) (by decide +kernel)
theorem ml_RX4_72 : Cond.methodLink RX4 72 yX4_takesAll ∈ ap_TW := ap_tw (k := 411) (by decide +kernel) (by decide +kernel)
theorem ml_RX4_76 : Cond.methodLink RX4 76 yX4_takesNumber ∈ ap_TW := ap_tw (k := 467) (by decide +kernel) (by decide +kernel)
theorem ml_RX4_79 : Cond.methodLink RX4 79 yX7_begin ∈ ap_TW := ap_tw (k := 533) (by decide +kernel) (by decide +kernel)
theorem ml_RX4_83 : Cond.methodLink RX4 83 yX4_readsExpression ∈ ap_TW := ap_tw (k := 537) (by decide +kernel) (by decide +kernel)
theorem ml_RX4_86 : Cond.methodLink RX4 86 yX4_takesOpening ∈ ap_TW := ap_tw (k := 541) (by decide +kernel) (by decide +kernel)
theorem ml_RX4_89 : Cond.methodLink RX4 89 yX4_readsTest ∈ ap_TW := ap_tw (k := 549) (by decide +kernel) (by decide +kernel)
theorem ml_RX4_92 : Cond.methodLink RX4 92 yX4_takesClosing ∈ ap_TW := ap_tw (k := 564) (by decide +kernel) (by decide +kernel)
theorem ml_RX4_95 : Cond.methodLink RX4 95 yX4_settle ∈ ap_TW := ap_tw (k := 568) (by decide +kernel) (by decide +kernel)
theorem ml_RX4_98 : Cond.methodLink RX4 98 yX4_push ∈ ap_TW := ap_tw (k := 545) (by decide +kernel) (by decide +kernel)
theorem ml_RX4_101 : Cond.methodLink RX4 101 yX7_put ∈ ap_TW := ap_tw (k := 572) (by decide +kernel) (by decide +kernel)
theorem ml_RX4_106 : Cond.methodLink RX4 106 yX4_takesOneOf ∈ ap_TW := ap_tw (k := 472) (by decide +kernel) (by decide +kernel)
theorem ml_RX4_112 : Cond.methodLink RX4 112 yX7_putTest ∈ ap_TW := ap_tw (k := 555) (by decide +kernel) (by decide +kernel)
theorem ml_RX4_124 : Cond.methodLink RX4 124 yJ0_length_8abf5 ∈ ap_TW := ap_tw (k := 415) (by decide +kernel) (by decide +kernel)
theorem ml_RX4_129 : Cond.methodLink RX4 129 yJ0_charAt_5068e ∈ ap_TW := ap_tw (k := 425) (by decide +kernel) (by decide +kernel)
theorem ml_RX4_133 : Cond.methodLink RX4 133 yJ0_indexOf_0f7a4 ∈ ap_TW := ap_tw (k := 476) (by decide +kernel) (by decide +kernel)
theorem ml_RX5_28 : Cond.methodLink RX5 28 yX5_clear ∈ ap_TW := ap_tw (k := 391) (by decide +kernel) (by decide +kernel)
theorem ml_RX5_32 : Cond.methodLink RX5 32 yX5_add ∈ ap_TW := ap_tw (k := 395) (by decide +kernel) (by decide +kernel)
theorem ml_RX6_57 : Cond.methodLink RX6 57 yX5_copyFrom ∈ ap_TW := ap_tw (k := 875) (by decide +kernel) (by decide +kernel)
theorem ml_RX6_61 : Cond.methodLink RX6 61 yX7_copyFrom ∈ ap_TW := ap_tw (k := 876) (by decide +kernel) (by decide +kernel)
theorem ml_RX6_64 : Cond.methodLink RX6 64 yX3_copyFrom ∈ ap_TW := ap_tw (k := 877) (by decide +kernel) (by decide +kernel)
theorem ml_RX6_67 : Cond.methodLink RX6 67 yX1_copyFrom ∈ ap_TW := ap_tw (k := 878) (by decide +kernel) (by decide +kernel)
theorem ml_RX7_47 : Cond.methodLink RX7 47 yX7_put ∈ ap_TW := ap_tw (k := 559) (by decide +kernel) (by decide +kernel)
theorem ml_RX7_66 : Cond.methodLink RX7 66 yX7_whereHolds ∈ ap_TW := ap_tw (k := 653) (by decide +kernel) (by decide +kernel)
theorem ml_RX7_70 : Cond.methodLink RX7 70 yX7_whereTest ∈ ap_TW := ap_tw (k := 657) (by decide +kernel) (by decide +kernel)
theorem ml_RX9_35 : Cond.methodLink RX9 35 yX9_in ∈ ap_TW := ap_tw (k := 949) (by decide +kernel) (by decide +kernel)
theorem ml_RX9_39 : Cond.methodLink RX9 39 yX9_size ∈ ap_TW := ap_tw (k := 1034) (by decide +kernel) (by decide +kernel)
theorem ml_RX9_53 : Cond.methodLink RX9 53 yX9_here ∈ ap_TW := ap_tw (k := 960) (by decide +kernel) (by decide +kernel)
theorem ml_RX9_57 : Cond.methodLink RX9 57 yJ0_length_8abf5 ∈ ap_TW := ap_tw (k := 973) (by decide +kernel) (by decide +kernel)
theorem ml_RX9_62 : Cond.methodLink RX9 62 yJ0_charAt_5068e ∈ ap_TW := ap_tw (k := 974) (by decide +kernel) (by decide +kernel)
theorem ml_RX9_66 : Cond.methodLink RX9 66 yX9_must ∈ ap_TW := ap_tw (k := 975) (by decide +kernel) (by decide +kernel)
theorem ml_RX9_76 : Cond.methodLink RX9 76 yX9_factor ∈ ap_TW := ap_tw (k := 996) (by decide +kernel) (by decide +kernel)
theorem ml_RX9_79 : Cond.methodLink RX9 79 yX9_emits ∈ ap_TW := ap_tw (k := 1000) (by decide +kernel) (by decide +kernel)
theorem ml_RX9_82 : Cond.methodLink RX9 82 yX9_some ∈ ap_TW := ap_tw (k := 988) (by decide +kernel) (by decide +kernel)
theorem ml_RX9_87 : Cond.methodLink RX9 87 yX9_among ∈ ap_TW := ap_tw (k := 1005) (by decide +kernel) (by decide +kernel)
theorem ml_RX9_93 : Cond.methodLink RX9 93 yX9_figures ∈ ap_TW := ap_tw (k := 979) (by decide +kernel) (by decide +kernel)
theorem ml_RX9_96 : Cond.methodLink RX9 96 yX9_every ∈ ap_TW := ap_tw (k := 992) (by decide +kernel) (by decide +kernel)
theorem ml_RX9_99 : Cond.methodLink RX9 99 yX9_spells ∈ ap_TW := ap_tw (k := 969) (by decide +kernel) (by decide +kernel)
theorem ml_RX9_105 : Cond.methodLink RX9 105 yX9_tellsHere ∈ ap_TW := ap_tw (k := 965) (by decide +kernel) (by decide +kernel)
theorem ml_RX9_111 : Cond.methodLink RX9 111 yX9_much ∈ ap_TW := ap_tw (k := 984) (by decide +kernel) (by decide +kernel)
theorem ml_RX9_116 : Cond.methodLink RX9 116 yX9_clauseHere ∈ ap_TW := ap_tw (k := 956) (by decide +kernel) (by decide +kernel)
theorem ml_RX9_119 : Cond.methodLink RX9 119 yX9_far ∈ ap_TW := ap_tw (k := 1031) (by decide +kernel) (by decide +kernel)
theorem ml_RX9_123 : Cond.methodLink RX9 123 yX9_tellsOf ∈ ap_TW := ap_tw (k := 1037) (by decide +kernel) (by decide +kernel)
theorem ml_RX9_126 : Cond.methodLink RX9 126 yX9_lureOf ∈ ap_TW := ap_tw (k := 1027) (by decide +kernel) (by decide +kernel)
theorem ml_RX9_129 : Cond.methodLink RX9 129 yX9_tugOf ∈ ap_TW := ap_tw (k := 1041) (by decide +kernel) (by decide +kernel)
theorem ml_RX9_132 : Cond.methodLink RX9 132 yX9_isCell ∈ ap_TW := ap_tw (k := 1015) (by decide +kernel) (by decide +kernel)
theorem ml_RX9_136 : Cond.methodLink RX9 136 yX9_isPerson ∈ ap_TW := ap_tw (k := 1022) (by decide +kernel) (by decide +kernel)
theorem ml_RX9_140 : Cond.methodLink RX9 140 yX9_becomes ∈ ap_TW := ap_tw (k := 1053) (by decide +kernel) (by decide +kernel)
theorem ml_RX9_143 : Cond.methodLink RX9 143 yX9_manyLain ∈ ap_TW := ap_tw (k := 1069) (by decide +kernel) (by decide +kernel)
theorem ml_RX9_146 : Cond.methodLink RX9 146 yX9_drawOf ∈ ap_TW := ap_tw (k := 1073) (by decide +kernel) (by decide +kernel)
theorem ml_RX9_149 : Cond.methodLink RX9 149 yX9_goes ∈ ap_TW := ap_tw (k := 1081) (by decide +kernel) (by decide +kernel)
theorem ml_RX9_152 : Cond.methodLink RX9 152 yX9_keeps ∈ ap_TW := ap_tw (k := 1089) (by decide +kernel) (by decide +kernel)
theorem ml_RX9_155 : Cond.methodLink RX9 155 yX9_goesOn ∈ ap_TW := ap_tw (k := 1093) (by decide +kernel) (by decide +kernel)
theorem ml_RX9_158 : Cond.methodLink RX9 158 yX9_goesBack ∈ ap_TW := ap_tw (k := 1097) (by decide +kernel) (by decide +kernel)
theorem ml_RX9_162 : Cond.methodLink RX9 162 yX9_stepsTo ∈ ap_TW := ap_tw (k := 1105) (by decide +kernel) (by decide +kernel)
theorem ml_RX9_165 : Cond.methodLink RX9 165 yX9_countOf ∈ ap_TW := ap_tw (k := 1122) (by decide +kernel) (by decide +kernel)
theorem ml_RX9_168 : Cond.methodLink RX9 168 yX9_isKept ∈ ap_TW := ap_tw (k := 1125) (by decide +kernel) (by decide +kernel)
theorem ml_RX9_172 : Cond.methodLink RX9 172 yX9_isAsSeen ∈ ap_TW := ap_tw (k := 1149) (by decide +kernel) (by decide +kernel)
theorem ml_RX9_175 : Cond.methodLink RX9 175 yX9_areAsSeen ∈ ap_TW := ap_tw (k := 1145) (by decide +kernel) (by decide +kernel)
theorem ml_RX9_181 : Cond.methodLink RX9 181 yX9_lowest ∈ ap_TW := ap_tw (k := 1166) (by decide +kernel) (by decide +kernel)
theorem ml_RX9_185 : Cond.methodLink RX9 185 yX9_goesBy ∈ ap_TW := ap_tw (k := 1181) (by decide +kernel) (by decide +kernel)
theorem ml_RX9_192 : Cond.methodLink RX9 192 yX9_ranBody ∈ ap_TW := ap_tw (k := 1204) (by decide +kernel) (by decide +kernel)
theorem ml_RX9_201 : Cond.methodLink RX9 201 yX9_isUnder ∈ ap_TW := ap_tw (k := 1201) (by decide +kernel) (by decide +kernel)
theorem ml_RX9_204 : Cond.methodLink RX9 204 yX9_plainStands ∈ ap_TW := ap_tw (k := 1208) (by decide +kernel) (by decide +kernel)
theorem ml_RX9_207 : Cond.methodLink RX9 207 yX9_standsActs ∈ ap_TW := ap_tw (k := 1197) (by decide +kernel) (by decide +kernel)
theorem ml_RX9_213 : Cond.methodLink RX9 213 yX9_plainLooks ∈ ap_TW := ap_tw (k := 1216) (by decide +kernel) (by decide +kernel)
theorem ml_RX9_216 : Cond.methodLink RX9 216 yX9_looksActs ∈ ap_TW := ap_tw (k := 1212) (by decide +kernel) (by decide +kernel)
theorem ml_RX9_219 : Cond.methodLink RX9 219 yX9_plainTelling ∈ ap_TW := ap_tw (k := 1224) (by decide +kernel) (by decide +kernel)
theorem ml_RX9_222 : Cond.methodLink RX9 222 yX9_tellsActs ∈ ap_TW := ap_tw (k := 1220) (by decide +kernel) (by decide +kernel)
theorem ml_RJ0_335 : Cond.methodLink RJ0 335 yJ0_coder_7d493 ∈ ap_TW := ap_tw (k := 419) (by decide +kernel) (by decide +kernel)
theorem ml_RJ0_492 : Cond.methodLink RJ0 492 yJ0_isLatin1_aae02 ∈ ap_TW := ap_tw (k := 429) (by decide +kernel) (by decide +kernel)
theorem ml_RJ0_495 : Cond.methodLink RJ0 495 yJ1_charAt_3b067 ∈ ap_TW := ap_tw (k := 433) (by decide +kernel) (by decide +kernel)
theorem ml_RJ0_505 : Cond.methodLink RJ0 505 yJ0_length_8abf5 ∈ ap_TW := ap_tw (k := 484) (by decide +kernel) (by decide +kernel)
theorem ml_RJ0_633 : Cond.methodLink RJ0 633 yJ0_indexOf_7cf53 ∈ ap_TW := ap_tw (k := 480) (by decide +kernel) (by decide +kernel)
theorem ml_RJ0_637 : Cond.methodLink RJ0 637 yJ1_indexOf_4cfef ∈ ap_TW := ap_tw (k := 485) (by decide +kernel) (by decide +kernel)
theorem ml_RJ0_1059 : Cond.methodLink RJ0 1059 yJ3_checkIndex_8e157 ∈ ap_TW := ap_tw (k := 441) (by decide +kernel) (by decide +kernel)
theorem ml_RJ1_9 : Cond.methodLink RJ1 9 yJ0_checkIndex_df160 ∈ ap_TW := ap_tw (k := 436) (by decide +kernel) (by decide +kernel)
theorem ml_RJ1_88 : Cond.methodLink RJ1 88 yJ1_canEncode_9a6ad ∈ ap_TW := ap_tw (k := 488) (by decide +kernel) (by decide +kernel)
theorem ml_RJ1_95 : Cond.methodLink RJ1 95 yJ1_indexOfChar_4cfef ∈ ap_TW := ap_tw (k := 495) (by decide +kernel) (by decide +kernel)
theorem in_X0 : ∀ w ∈ u_ws RX0 TX0 5, w ∈ ap_TW := fun w hw => List.mem_filter.mpr ⟨(by decide +kernel : ∀ w ∈ u_ws RX0 TX0 5, w ∈ lw_tbl) w hw, (by decide +kernel : ∀ w ∈ u_ws RX0 TX0 5, goodWord w = true) w hw⟩
theorem in_X1 : ∀ w ∈ u_ws RX1 TX1 3, w ∈ ap_TW := fun w hw => List.mem_filter.mpr ⟨(by decide +kernel : ∀ w ∈ u_ws RX1 TX1 3, w ∈ lw_tbl) w hw, (by decide +kernel : ∀ w ∈ u_ws RX1 TX1 3, goodWord w = true) w hw⟩
theorem in_X2 : ∀ w ∈ u_ws RX2 TX2 6, w ∈ ap_TW := fun w hw => List.mem_filter.mpr ⟨(by decide +kernel : ∀ w ∈ u_ws RX2 TX2 6, w ∈ lw_tbl) w hw, (by decide +kernel : ∀ w ∈ u_ws RX2 TX2 6, goodWord w = true) w hw⟩
theorem in_X3 : ∀ w ∈ u_ws RX3 TX3 6, w ∈ ap_TW := fun w hw => List.mem_filter.mpr ⟨(by decide +kernel : ∀ w ∈ u_ws RX3 TX3 6, w ∈ lw_tbl) w hw, (by decide +kernel : ∀ w ∈ u_ws RX3 TX3 6, goodWord w = true) w hw⟩
theorem in_X4 : ∀ w ∈ u_ws RX4 TX4 7, w ∈ ap_TW := fun w hw => List.mem_filter.mpr ⟨(by decide +kernel : ∀ w ∈ u_ws RX4 TX4 7, w ∈ lw_tbl) w hw, (by decide +kernel : ∀ w ∈ u_ws RX4 TX4 7, goodWord w = true) w hw⟩
theorem in_X5 : ∀ w ∈ u_ws RX5 TX5 3, w ∈ ap_TW := fun w hw => List.mem_filter.mpr ⟨(by decide +kernel : ∀ w ∈ u_ws RX5 TX5 3, w ∈ lw_tbl) w hw, (by decide +kernel : ∀ w ∈ u_ws RX5 TX5 3, goodWord w = true) w hw⟩
theorem in_X6 : ∀ w ∈ u_ws RX6 TX6 9, w ∈ ap_TW := fun w hw => List.mem_filter.mpr ⟨(by decide +kernel : ∀ w ∈ u_ws RX6 TX6 9, w ∈ lw_tbl) w hw, (by decide +kernel : ∀ w ∈ u_ws RX6 TX6 9, goodWord w = true) w hw⟩
theorem in_X7 : ∀ w ∈ u_ws RX7 TX7 11, w ∈ ap_TW := fun w hw => List.mem_filter.mpr ⟨(by decide +kernel : ∀ w ∈ u_ws RX7 TX7 11, w ∈ lw_tbl) w hw, (by decide +kernel : ∀ w ∈ u_ws RX7 TX7 11, goodWord w = true) w hw⟩
theorem in_X8 : ∀ w ∈ u_ws RX8 TX8 6, w ∈ ap_TW := fun w hw => List.mem_filter.mpr ⟨(by decide +kernel : ∀ w ∈ u_ws RX8 TX8 6, w ∈ lw_tbl) w hw, (by decide +kernel : ∀ w ∈ u_ws RX8 TX8 6, goodWord w = true) w hw⟩
theorem in_X9 : ∀ w ∈ u_ws RX9 TX9 17, w ∈ ap_TW := fun w hw => List.mem_filter.mpr ⟨(by decide +kernel : ∀ w ∈ u_ws RX9 TX9 17, w ∈ lw_tbl) w hw, (by decide +kernel : ∀ w ∈ u_ws RX9 TX9 17, goodWord w = true) w hw⟩
theorem lg_RX8_12 : ap_LG RX8 12 8 0 1 := ⟨RX8, TX8, 6, rfl, in_X8, by decide, rfl, by decide, ap_tw (k := 352) (by decide +kernel) (by decide +kernel), rfl⟩
theorem lg_RX8_18 : ap_LG RX8 18 8 1 32 := ⟨RX8, TX8, 6, rfl, in_X8, by decide, rfl, by decide, ap_tw (k := 353) (by decide +kernel) (by decide +kernel), rfl⟩
theorem lg_RX8_21 : ap_LG RX8 21 8 2 0 := ⟨RX8, TX8, 6, rfl, in_X8, by decide, rfl, by decide, ap_tw (k := 354) (by decide +kernel) (by decide +kernel), rfl⟩
theorem lg_RX8_28 : ap_LG RX8 28 8 3 63 := ⟨RX8, TX8, 6, rfl, in_X8, by decide, rfl, by decide, ap_tw (k := 355) (by decide +kernel) (by decide +kernel), rfl⟩
theorem lg_RX8_35 : ap_LG RX8 35 8 4 76 := ⟨RX8, TX8, 6, rfl, in_X8, by decide, rfl, by decide, ap_tw (k := 356) (by decide +kernel) (by decide +kernel), rfl⟩
theorem lg_RX8_42 : ap_LG RX8 42 8 5 96 := ⟨RX8, TX8, 6, rfl, in_X8, by decide, rfl, by decide, ap_tw (k := 357) (by decide +kernel) (by decide +kernel), rfl⟩
theorem lg_RX8_46 : ap_LG RX8 46 6 0 1 := ⟨RX6, TX6, 9, rfl, in_X6, by decide, rfl, by decide, ap_tw (k := 222) (by decide +kernel) (by decide +kernel), rfl⟩
theorem lg_RX8_56 : ap_LG RX8 56 6 2 0 := ⟨RX6, TX6, 9, rfl, in_X6, by decide, rfl, by decide, ap_tw (k := 227) (by decide +kernel) (by decide +kernel), rfl⟩
theorem lg_RX8_68 : ap_LG RX8 68 4 1 0 := ⟨RX4, TX4, 7, rfl, in_X4, by decide, rfl, by decide, ap_tw (k := 274) (by decide +kernel) (by decide +kernel), rfl⟩
theorem lg_RX8_71 : ap_LG RX8 71 6 1 4 := ⟨RX6, TX6, 9, rfl, in_X6, by decide, rfl, by decide, ap_tw (k := 225) (by decide +kernel) (by decide +kernel), rfl⟩
theorem lg_RX8_75 : ap_LG RX8 75 4 0 1 := ⟨RX4, TX4, 7, rfl, in_X4, by decide, rfl, by decide, ap_tw (k := 272) (by decide +kernel) (by decide +kernel), rfl⟩
theorem lg_RX8_94 : ap_LG RX8 94 6 3 12 := ⟨RX6, TX6, 9, rfl, in_X6, by decide, rfl, by decide, ap_tw (k := 230) (by decide +kernel) (by decide +kernel), rfl⟩
theorem lg_RX8_107 : ap_LG RX8 107 3 0 1 := ⟨RX3, TX3, 6, rfl, in_X3, by decide, rfl, by decide, ap_tw (k := 166) (by decide +kernel) (by decide +kernel), rfl⟩
theorem lg_RX8_111 : ap_LG RX8 111 3 1 2 := ⟨RX3, TX3, 6, rfl, in_X3, by decide, rfl, by decide, ap_tw (k := 172) (by decide +kernel) (by decide +kernel), rfl⟩
theorem lg_RX8_114 : ap_LG RX8 114 3 2 3 := ⟨RX3, TX3, 6, rfl, in_X3, by decide, rfl, by decide, ap_tw (k := 176) (by decide +kernel) (by decide +kernel), rfl⟩
theorem lg_RX8_133 : ap_LG RX8 133 3 3 4 := ⟨RX3, TX3, 6, rfl, in_X3, by decide, rfl, by decide, ap_tw (k := 179) (by decide +kernel) (by decide +kernel), rfl⟩
theorem lg_RX8_140 : ap_LG RX8 140 6 4 17 := ⟨RX6, TX6, 9, rfl, in_X6, by decide, rfl, by decide, ap_tw (k := 233) (by decide +kernel) (by decide +kernel), rfl⟩
theorem lg_RX8_144 : ap_LG RX8 144 1 1 0 := ⟨RX1, TX1, 3, rfl, in_X1, by decide, rfl, by decide, ap_tw (k := 210) (by decide +kernel) (by decide +kernel), rfl⟩
theorem lg_RX8_148 : ap_LG RX8 148 1 2 0 := ⟨RX1, TX1, 3, rfl, in_X1, by decide, rfl, by decide, ap_tw (k := 212) (by decide +kernel) (by decide +kernel), rfl⟩
theorem lg_RX8_151 : ap_LG RX8 151 7 6 0 := ⟨RX7, TX7, 11, rfl, in_X7, by decide, rfl, by decide, ap_tw (k := 126) (by decide +kernel) (by decide +kernel), rfl⟩
theorem lg_RX8_161 : ap_LG RX8 161 1 0 1 := ⟨RX1, TX1, 3, rfl, in_X1, by decide, rfl, by decide, ap_tw (k := 207) (by decide +kernel) (by decide +kernel), rfl⟩
theorem lg_RX8_171 : ap_LG RX8 171 2 1 6 := ⟨RX2, TX2, 6, rfl, in_X2, by decide, rfl, by decide, ap_tw (k := 310) (by decide +kernel) (by decide +kernel), rfl⟩
theorem lg_RX8_187 : ap_LG RX8 187 3 5 0 := ⟨RX3, TX3, 6, rfl, in_X3, by decide, rfl, by decide, ap_tw (k := 185) (by decide +kernel) (by decide +kernel), rfl⟩
theorem lg_RX8_199 : ap_LG RX8 199 2 0 1 := ⟨RX2, TX2, 6, rfl, in_X2, by decide, rfl, by decide, ap_tw (k := 308) (by decide +kernel) (by decide +kernel), rfl⟩
theorem lg_RX8_200 : ap_LG RX8 200 3 4 0 := ⟨RX3, TX3, 6, rfl, in_X3, by decide, rfl, by decide, ap_tw (k := 182) (by decide +kernel) (by decide +kernel), rfl⟩
theorem lg_RX8_203 : ap_LG RX8 203 6 5 19 := ⟨RX6, TX6, 9, rfl, in_X6, by decide, rfl, by decide, ap_tw (k := 235) (by decide +kernel) (by decide +kernel), rfl⟩
theorem lg_RX8_206 : ap_LG RX8 206 5 2 0 := ⟨RX5, TX5, 3, rfl, in_X5, by decide, rfl, by decide, ap_tw (k := 104) (by decide +kernel) (by decide +kernel), rfl⟩
theorem lg_RX8_207 : ap_LG RX8 207 5 0 1 := ⟨RX5, TX5, 3, rfl, in_X5, by decide, rfl, by decide, ap_tw (k := 97) (by decide +kernel) (by decide +kernel), rfl⟩
theorem lg_RX8_210 : ap_LG RX8 210 6 6 22 := ⟨RX6, TX6, 9, rfl, in_X6, by decide, rfl, by decide, ap_tw (k := 237) (by decide +kernel) (by decide +kernel), rfl⟩
theorem lg_RX8_228 : ap_LG RX8 228 6 7 25 := ⟨RX6, TX6, 9, rfl, in_X6, by decide, rfl, by decide, ap_tw (k := 239) (by decide +kernel) (by decide +kernel), rfl⟩
theorem lg_RX8_231 : ap_LG RX8 231 5 1 2 := ⟨RX5, TX5, 3, rfl, in_X5, by decide, rfl, by decide, ap_tw (k := 100) (by decide +kernel) (by decide +kernel), rfl⟩
theorem lg_RX8_237 : ap_LG RX8 237 6 8 28 := ⟨RX6, TX6, 9, rfl, in_X6, by decide, rfl, by decide, ap_tw (k := 241) (by decide +kernel) (by decide +kernel), rfl⟩
theorem lg_RX8_240 : ap_LG RX8 240 0 1 0 := ⟨RX0, TX0, 5, rfl, in_X0, by decide, rfl, by decide, ap_tw (k := 337) (by decide +kernel) (by decide +kernel), rfl⟩
theorem lg_RX8_250 : ap_LG RX8 250 0 0 1 := ⟨RX0, TX0, 5, rfl, in_X0, by decide, rfl, by decide, ap_tw (k := 335) (by decide +kernel) (by decide +kernel), rfl⟩
theorem lg_RX0_11 : ap_LG RX0 11 0 0 1 := ⟨RX0, TX0, 5, rfl, in_X0, by decide, rfl, by decide, ap_tw (k := 334) (by decide +kernel) (by decide +kernel), rfl⟩
theorem lg_RX0_15 : ap_LG RX0 15 0 1 0 := ⟨RX0, TX0, 5, rfl, in_X0, by decide, rfl, by decide, ap_tw (k := 336) (by decide +kernel) (by decide +kernel), rfl⟩
theorem lg_RX0_19 : ap_LG RX0 19 0 2 0 := ⟨RX0, TX0, 5, rfl, in_X0, by decide, rfl, by decide, ap_tw (k := 338) (by decide +kernel) (by decide +kernel), rfl⟩
theorem lg_RX0_22 : ap_LG RX0 22 0 3 0 := ⟨RX0, TX0, 5, rfl, in_X0, by decide, rfl, by decide, ap_tw (k := 339) (by decide +kernel) (by decide +kernel), rfl⟩
theorem lg_RX0_25 : ap_LG RX0 25 0 4 0 := ⟨RX0, TX0, 5, rfl, in_X0, by decide, rfl, by decide, ap_tw (k := 340) (by decide +kernel) (by decide +kernel), rfl⟩
theorem lg_RX0_34 : ap_LG RX0 34 3 0 1 := ⟨RX3, TX3, 6, rfl, in_X3, by decide, rfl, by decide, ap_tw (k := 165) (by decide +kernel) (by decide +kernel), rfl⟩
theorem lg_RX0_38 : ap_LG RX0 38 3 1 2 := ⟨RX3, TX3, 6, rfl, in_X3, by decide, rfl, by decide, ap_tw (k := 170) (by decide +kernel) (by decide +kernel), rfl⟩
theorem lg_RX1_9 : ap_LG RX1 9 1 0 1 := ⟨RX1, TX1, 3, rfl, in_X1, by decide, rfl, by decide, ap_tw (k := 205) (by decide +kernel) (by decide +kernel), rfl⟩
theorem lg_RX1_15 : ap_LG RX1 15 1 1 0 := ⟨RX1, TX1, 3, rfl, in_X1, by decide, rfl, by decide, ap_tw (k := 208) (by decide +kernel) (by decide +kernel), rfl⟩
theorem lg_RX1_19 : ap_LG RX1 19 1 2 0 := ⟨RX1, TX1, 3, rfl, in_X1, by decide, rfl, by decide, ap_tw (k := 211) (by decide +kernel) (by decide +kernel), rfl⟩
theorem lg_RX2_12 : ap_LG RX2 12 2 0 1 := ⟨RX2, TX2, 6, rfl, in_X2, by decide, rfl, by decide, ap_tw (k := 307) (by decide +kernel) (by decide +kernel), rfl⟩
theorem lg_RX2_21 : ap_LG RX2 21 2 1 6 := ⟨RX2, TX2, 6, rfl, in_X2, by decide, rfl, by decide, ap_tw (k := 309) (by decide +kernel) (by decide +kernel), rfl⟩
theorem lg_RX2_25 : ap_LG RX2 25 2 2 8 := ⟨RX2, TX2, 6, rfl, in_X2, by decide, rfl, by decide, ap_tw (k := 311) (by decide +kernel) (by decide +kernel), rfl⟩
theorem lg_RX2_31 : ap_LG RX2 31 2 3 10 := ⟨RX2, TX2, 6, rfl, in_X2, by decide, rfl, by decide, ap_tw (k := 312) (by decide +kernel) (by decide +kernel), rfl⟩
theorem lg_RX2_35 : ap_LG RX2 35 2 4 18 := ⟨RX2, TX2, 6, rfl, in_X2, by decide, rfl, by decide, ap_tw (k := 313) (by decide +kernel) (by decide +kernel), rfl⟩
theorem lg_RX2_39 : ap_LG RX2 39 2 5 19 := ⟨RX2, TX2, 6, rfl, in_X2, by decide, rfl, by decide, ap_tw (k := 314) (by decide +kernel) (by decide +kernel), rfl⟩
theorem lg_RX2_42 : ap_LG RX2 42 6 3 12 := ⟨RX6, TX6, 9, rfl, in_X6, by decide, rfl, by decide, ap_tw (k := 229) (by decide +kernel) (by decide +kernel), rfl⟩
theorem lg_RX2_49 : ap_LG RX2 49 6 1 4 := ⟨RX6, TX6, 9, rfl, in_X6, by decide, rfl, by decide, ap_tw (k := 224) (by decide +kernel) (by decide +kernel), rfl⟩
theorem lg_RX2_53 : ap_LG RX2 53 6 4 17 := ⟨RX6, TX6, 9, rfl, in_X6, by decide, rfl, by decide, ap_tw (k := 232) (by decide +kernel) (by decide +kernel), rfl⟩
theorem lg_RX2_60 : ap_LG RX2 60 3 2 3 := ⟨RX3, TX3, 6, rfl, in_X3, by decide, rfl, by decide, ap_tw (k := 175) (by decide +kernel) (by decide +kernel), rfl⟩
theorem lg_RX2_63 : ap_LG RX2 63 3 1 2 := ⟨RX3, TX3, 6, rfl, in_X3, by decide, rfl, by decide, ap_tw (k := 171) (by decide +kernel) (by decide +kernel), rfl⟩
theorem lg_RX2_71 : ap_LG RX2 71 1 1 0 := ⟨RX1, TX1, 3, rfl, in_X1, by decide, rfl, by decide, ap_tw (k := 209) (by decide +kernel) (by decide +kernel), rfl⟩
theorem lg_RX2_78 : ap_LG RX2 78 5 2 0 := ⟨RX5, TX5, 3, rfl, in_X5, by decide, rfl, by decide, ap_tw (k := 103) (by decide +kernel) (by decide +kernel), rfl⟩
theorem lg_RX2_83 : ap_LG RX2 83 5 1 2 := ⟨RX5, TX5, 3, rfl, in_X5, by decide, rfl, by decide, ap_tw (k := 99) (by decide +kernel) (by decide +kernel), rfl⟩
theorem lg_RX2_92 : ap_LG RX2 92 5 0 1 := ⟨RX5, TX5, 3, rfl, in_X5, by decide, rfl, by decide, ap_tw (k := 95) (by decide +kernel) (by decide +kernel), rfl⟩
theorem lg_RX2_112 : ap_LG RX2 112 1 0 1 := ⟨RX1, TX1, 3, rfl, in_X1, by decide, rfl, by decide, ap_tw (k := 206) (by decide +kernel) (by decide +kernel), rfl⟩
theorem lg_RX2_115 : ap_LG RX2 115 1 2 0 := ⟨RX1, TX1, 3, rfl, in_X1, by decide, rfl, by decide, ap_tw (k := 213) (by decide +kernel) (by decide +kernel), rfl⟩
theorem lg_RX2_126 : ap_LG RX2 126 7 9 6 := ⟨RX7, TX7, 11, rfl, in_X7, by decide, rfl, by decide, ap_tw (k := 132) (by decide +kernel) (by decide +kernel), rfl⟩
theorem lg_RX2_129 : ap_LG RX2 129 7 6 0 := ⟨RX7, TX7, 11, rfl, in_X7, by decide, rfl, by decide, ap_tw (k := 127) (by decide +kernel) (by decide +kernel), rfl⟩
theorem lg_RX2_132 : ap_LG RX2 132 3 5 0 := ⟨RX3, TX3, 6, rfl, in_X3, by decide, rfl, by decide, ap_tw (k := 184) (by decide +kernel) (by decide +kernel), rfl⟩
theorem lg_RX2_139 : ap_LG RX2 139 3 0 1 := ⟨RX3, TX3, 6, rfl, in_X3, by decide, rfl, by decide, ap_tw (k := 168) (by decide +kernel) (by decide +kernel), rfl⟩
theorem lg_RX2_142 : ap_LG RX2 142 3 3 4 := ⟨RX3, TX3, 6, rfl, in_X3, by decide, rfl, by decide, ap_tw (k := 180) (by decide +kernel) (by decide +kernel), rfl⟩
theorem lg_RX2_145 : ap_LG RX2 145 7 10 7 := ⟨RX7, TX7, 11, rfl, in_X7, by decide, rfl, by decide, ap_tw (k := 134) (by decide +kernel) (by decide +kernel), rfl⟩
theorem lg_RX2_152 : ap_LG RX2 152 7 7 0 := ⟨RX7, TX7, 11, rfl, in_X7, by decide, rfl, by decide, ap_tw (k := 129) (by decide +kernel) (by decide +kernel), rfl⟩
theorem lg_RX3_9 : ap_LG RX3 9 3 0 1 := ⟨RX3, TX3, 6, rfl, in_X3, by decide, rfl, by decide, ap_tw (k := 164) (by decide +kernel) (by decide +kernel), rfl⟩
theorem lg_RX3_15 : ap_LG RX3 15 3 1 2 := ⟨RX3, TX3, 6, rfl, in_X3, by decide, rfl, by decide, ap_tw (k := 169) (by decide +kernel) (by decide +kernel), rfl⟩
theorem lg_RX3_18 : ap_LG RX3 18 3 2 3 := ⟨RX3, TX3, 6, rfl, in_X3, by decide, rfl, by decide, ap_tw (k := 174) (by decide +kernel) (by decide +kernel), rfl⟩
theorem lg_RX3_21 : ap_LG RX3 21 3 3 4 := ⟨RX3, TX3, 6, rfl, in_X3, by decide, rfl, by decide, ap_tw (k := 178) (by decide +kernel) (by decide +kernel), rfl⟩
theorem lg_RX3_24 : ap_LG RX3 24 3 4 0 := ⟨RX3, TX3, 6, rfl, in_X3, by decide, rfl, by decide, ap_tw (k := 181) (by decide +kernel) (by decide +kernel), rfl⟩
theorem lg_RX3_28 : ap_LG RX3 28 3 5 0 := ⟨RX3, TX3, 6, rfl, in_X3, by decide, rfl, by decide, ap_tw (k := 183) (by decide +kernel) (by decide +kernel), rfl⟩
theorem lg_RX4_12 : ap_LG RX4 12 4 0 1 := ⟨RX4, TX4, 7, rfl, in_X4, by decide, rfl, by decide, ap_tw (k := 271) (by decide +kernel) (by decide +kernel), rfl⟩
theorem lg_RX4_18 : ap_LG RX4 18 4 1 0 := ⟨RX4, TX4, 7, rfl, in_X4, by decide, rfl, by decide, ap_tw (k := 273) (by decide +kernel) (by decide +kernel), rfl⟩
theorem lg_RX4_27 : ap_LG RX4 27 4 2 9 := ⟨RX4, TX4, 7, rfl, in_X4, by decide, rfl, by decide, ap_tw (k := 275) (by decide +kernel) (by decide +kernel), rfl⟩
theorem lg_RX4_31 : ap_LG RX4 31 4 3 12 := ⟨RX4, TX4, 7, rfl, in_X4, by decide, rfl, by decide, ap_tw (k := 276) (by decide +kernel) (by decide +kernel), rfl⟩
theorem lg_RX4_35 : ap_LG RX4 35 4 4 0 := ⟨RX4, TX4, 7, rfl, in_X4, by decide, rfl, by decide, ap_tw (k := 277) (by decide +kernel) (by decide +kernel), rfl⟩
theorem lg_RX4_38 : ap_LG RX4 38 4 5 0 := ⟨RX4, TX4, 7, rfl, in_X4, by decide, rfl, by decide, ap_tw (k := 278) (by decide +kernel) (by decide +kernel), rfl⟩
theorem lg_RX4_41 : ap_LG RX4 41 4 6 0 := ⟨RX4, TX4, 7, rfl, in_X4, by decide, rfl, by decide, ap_tw (k := 279) (by decide +kernel) (by decide +kernel), rfl⟩
theorem lg_RX4_55 : ap_LG RX4 55 5 2 0 := ⟨RX5, TX5, 3, rfl, in_X5, by decide, rfl, by decide, ap_tw (k := 102) (by decide +kernel) (by decide +kernel), rfl⟩
theorem lg_RX4_137 : ap_LG RX4 137 5 0 1 := ⟨RX5, TX5, 3, rfl, in_X5, by decide, rfl, by decide, ap_tw (k := 96) (by decide +kernel) (by decide +kernel), rfl⟩
theorem lg_RX5_9 : ap_LG RX5 9 5 2 0 := ⟨RX5, TX5, 3, rfl, in_X5, by decide, rfl, by decide, ap_tw (k := 101) (by decide +kernel) (by decide +kernel), rfl⟩
theorem lg_RX5_21 : ap_LG RX5 21 5 0 1 := ⟨RX5, TX5, 3, rfl, in_X5, by decide, rfl, by decide, ap_tw (k := 94) (by decide +kernel) (by decide +kernel), rfl⟩
theorem lg_RX5_25 : ap_LG RX5 25 5 1 2 := ⟨RX5, TX5, 3, rfl, in_X5, by decide, rfl, by decide, ap_tw (k := 98) (by decide +kernel) (by decide +kernel), rfl⟩
theorem lg_RX6_14 : ap_LG RX6 14 6 0 1 := ⟨RX6, TX6, 9, rfl, in_X6, by decide, rfl, by decide, ap_tw (k := 221) (by decide +kernel) (by decide +kernel), rfl⟩
theorem lg_RX6_23 : ap_LG RX6 23 6 1 4 := ⟨RX6, TX6, 9, rfl, in_X6, by decide, rfl, by decide, ap_tw (k := 223) (by decide +kernel) (by decide +kernel), rfl⟩
theorem lg_RX6_27 : ap_LG RX6 27 6 2 0 := ⟨RX6, TX6, 9, rfl, in_X6, by decide, rfl, by decide, ap_tw (k := 226) (by decide +kernel) (by decide +kernel), rfl⟩
theorem lg_RX6_34 : ap_LG RX6 34 6 3 12 := ⟨RX6, TX6, 9, rfl, in_X6, by decide, rfl, by decide, ap_tw (k := 228) (by decide +kernel) (by decide +kernel), rfl⟩
theorem lg_RX6_41 : ap_LG RX6 41 6 4 17 := ⟨RX6, TX6, 9, rfl, in_X6, by decide, rfl, by decide, ap_tw (k := 231) (by decide +kernel) (by decide +kernel), rfl⟩
theorem lg_RX6_45 : ap_LG RX6 45 6 5 19 := ⟨RX6, TX6, 9, rfl, in_X6, by decide, rfl, by decide, ap_tw (k := 234) (by decide +kernel) (by decide +kernel), rfl⟩
theorem lg_RX6_48 : ap_LG RX6 48 6 6 22 := ⟨RX6, TX6, 9, rfl, in_X6, by decide, rfl, by decide, ap_tw (k := 236) (by decide +kernel) (by decide +kernel), rfl⟩
theorem lg_RX6_51 : ap_LG RX6 51 6 7 25 := ⟨RX6, TX6, 9, rfl, in_X6, by decide, rfl, by decide, ap_tw (k := 238) (by decide +kernel) (by decide +kernel), rfl⟩
theorem lg_RX6_54 : ap_LG RX6 54 6 8 28 := ⟨RX6, TX6, 9, rfl, in_X6, by decide, rfl, by decide, ap_tw (k := 240) (by decide +kernel) (by decide +kernel), rfl⟩
theorem lg_RX7_11 : ap_LG RX7 11 7 0 1 := ⟨RX7, TX7, 11, rfl, in_X7, by decide, rfl, by decide, ap_tw (k := 119) (by decide +kernel) (by decide +kernel), rfl⟩
theorem lg_RX7_15 : ap_LG RX7 15 7 1 2 := ⟨RX7, TX7, 11, rfl, in_X7, by decide, rfl, by decide, ap_tw (k := 120) (by decide +kernel) (by decide +kernel), rfl⟩
theorem lg_RX7_18 : ap_LG RX7 18 7 2 3 := ⟨RX7, TX7, 11, rfl, in_X7, by decide, rfl, by decide, ap_tw (k := 121) (by decide +kernel) (by decide +kernel), rfl⟩
theorem lg_RX7_21 : ap_LG RX7 21 7 3 4 := ⟨RX7, TX7, 11, rfl, in_X7, by decide, rfl, by decide, ap_tw (k := 122) (by decide +kernel) (by decide +kernel), rfl⟩
theorem lg_RX7_24 : ap_LG RX7 24 7 4 0 := ⟨RX7, TX7, 11, rfl, in_X7, by decide, rfl, by decide, ap_tw (k := 123) (by decide +kernel) (by decide +kernel), rfl⟩
theorem lg_RX7_28 : ap_LG RX7 28 7 5 0 := ⟨RX7, TX7, 11, rfl, in_X7, by decide, rfl, by decide, ap_tw (k := 124) (by decide +kernel) (by decide +kernel), rfl⟩
theorem lg_RX7_31 : ap_LG RX7 31 7 6 0 := ⟨RX7, TX7, 11, rfl, in_X7, by decide, rfl, by decide, ap_tw (k := 125) (by decide +kernel) (by decide +kernel), rfl⟩
theorem lg_RX7_34 : ap_LG RX7 34 7 7 0 := ⟨RX7, TX7, 11, rfl, in_X7, by decide, rfl, by decide, ap_tw (k := 128) (by decide +kernel) (by decide +kernel), rfl⟩
theorem lg_RX7_38 : ap_LG RX7 38 7 8 5 := ⟨RX7, TX7, 11, rfl, in_X7, by decide, rfl, by decide, ap_tw (k := 130) (by decide +kernel) (by decide +kernel), rfl⟩
theorem lg_RX7_41 : ap_LG RX7 41 7 9 6 := ⟨RX7, TX7, 11, rfl, in_X7, by decide, rfl, by decide, ap_tw (k := 131) (by decide +kernel) (by decide +kernel), rfl⟩
theorem lg_RX7_44 : ap_LG RX7 44 7 10 7 := ⟨RX7, TX7, 11, rfl, in_X7, by decide, rfl, by decide, ap_tw (k := 133) (by decide +kernel) (by decide +kernel), rfl⟩
theorem lg_RX7_57 : ap_LG RX7 57 3 2 3 := ⟨RX3, TX3, 6, rfl, in_X3, by decide, rfl, by decide, ap_tw (k := 177) (by decide +kernel) (by decide +kernel), rfl⟩
theorem lg_RX7_74 : ap_LG RX7 74 3 0 1 := ⟨RX3, TX3, 6, rfl, in_X3, by decide, rfl, by decide, ap_tw (k := 167) (by decide +kernel) (by decide +kernel), rfl⟩
theorem lg_RX7_77 : ap_LG RX7 77 3 1 2 := ⟨RX3, TX3, 6, rfl, in_X3, by decide, rfl, by decide, ap_tw (k := 173) (by decide +kernel) (by decide +kernel), rfl⟩
theorem lg_RX9_9 : ap_LG RX9 9 9 1 1 := ⟨RX9, TX9, 17, rfl, in_X9, by decide, rfl, by decide, ap_tw (k := 893) (by decide +kernel) (by decide +kernel), rfl⟩
theorem lg_RX9_15 : ap_LG RX9 15 9 2 2 := ⟨RX9, TX9, 17, rfl, in_X9, by decide, rfl, by decide, ap_tw (k := 894) (by decide +kernel) (by decide +kernel), rfl⟩
theorem lg_RX9_18 : ap_LG RX9 18 9 3 3 := ⟨RX9, TX9, 17, rfl, in_X9, by decide, rfl, by decide, ap_tw (k := 895) (by decide +kernel) (by decide +kernel), rfl⟩
theorem lg_RX9_21 : ap_LG RX9 21 9 10 4 := ⟨RX9, TX9, 17, rfl, in_X9, by decide, rfl, by decide, ap_tw (k := 902) (by decide +kernel) (by decide +kernel), rfl⟩
theorem lg_RX9_24 : ap_LG RX9 24 9 11 5 := ⟨RX9, TX9, 17, rfl, in_X9, by decide, rfl, by decide, ap_tw (k := 903) (by decide +kernel) (by decide +kernel), rfl⟩
theorem lg_RX9_28 : ap_LG RX9 28 9 12 6 := ⟨RX9, TX9, 17, rfl, in_X9, by decide, rfl, by decide, ap_tw (k := 904) (by decide +kernel) (by decide +kernel), rfl⟩
theorem lg_RX9_43 : ap_LG RX9 43 9 6 0 := ⟨RX9, TX9, 17, rfl, in_X9, by decide, rfl, by decide, ap_tw (k := 898) (by decide +kernel) (by decide +kernel), rfl⟩
theorem lg_RX9_46 : ap_LG RX9 46 9 7 0 := ⟨RX9, TX9, 17, rfl, in_X9, by decide, rfl, by decide, ap_tw (k := 899) (by decide +kernel) (by decide +kernel), rfl⟩
theorem lg_RX9_49 : ap_LG RX9 49 9 8 0 := ⟨RX9, TX9, 17, rfl, in_X9, by decide, rfl, by decide, ap_tw (k := 900) (by decide +kernel) (by decide +kernel), rfl⟩
theorem lg_RX9_70 : ap_LG RX9 70 9 5 0 := ⟨RX9, TX9, 17, rfl, in_X9, by decide, rfl, by decide, ap_tw (k := 897) (by decide +kernel) (by decide +kernel), rfl⟩
theorem lg_RX9_73 : ap_LG RX9 73 9 9 0 := ⟨RX9, TX9, 17, rfl, in_X9, by decide, rfl, by decide, ap_tw (k := 901) (by decide +kernel) (by decide +kernel), rfl⟩
theorem lg_RX9_189 : ap_LG RX9 189 9 13 0 := ⟨RX9, TX9, 17, rfl, in_X9, by decide, rfl, by decide, ap_tw (k := 905) (by decide +kernel) (by decide +kernel), rfl⟩
theorem lg_RX9_195 : ap_LG RX9 195 9 15 0 := ⟨RX9, TX9, 17, rfl, in_X9, by decide, rfl, by decide, ap_tw (k := 907) (by decide +kernel) (by decide +kernel), rfl⟩
theorem lg_RX9_198 : ap_LG RX9 198 9 14 0 := ⟨RX9, TX9, 17, rfl, in_X9, by decide, rfl, by decide, ap_tw (k := 906) (by decide +kernel) (by decide +kernel), rfl⟩
theorem lg_RX9_210 : ap_LG RX9 210 9 16 0 := ⟨RX9, TX9, 17, rfl, in_X9, by decide, rfl, by decide, ap_tw (k := 908) (by decide +kernel) (by decide +kernel), rfl⟩
theorem lg_RX9_225 : ap_LG RX9 225 9 4 0 := ⟨RX9, TX9, 17, rfl, in_X9, by decide, rfl, by decide, ap_tw (k := 896) (by decide +kernel) (by decide +kernel), rfl⟩
theorem lp_RX8_21 : ap_LP RX8 21 8 2 .boolean := ⟨RX8, TX8, 6, tyX8, rfl, in_X8, by decide, rfl, by decide, ap_tw (k := 354) (by decide +kernel) (by decide +kernel), rfl, tyX8_ok, nmX8, rfl, by decide +kernel⟩
theorem lp_RX8_56 : ap_LP RX8 56 6 2 .int := ⟨RX6, TX6, 9, tyX6, rfl, in_X6, by decide, rfl, by decide, ap_tw (k := 227) (by decide +kernel) (by decide +kernel), rfl, tyX6_ok, nmX6, rfl, by decide +kernel⟩
theorem lp_RX8_144 : ap_LP RX8 144 1 1 .int := ⟨RX1, TX1, 3, tyX1, rfl, in_X1, by decide, rfl, by decide, ap_tw (k := 210) (by decide +kernel) (by decide +kernel), rfl, tyX1_ok, nmX1, rfl, by decide +kernel⟩
theorem lp_RX8_200 : ap_LP RX8 200 3 4 .int := ⟨RX3, TX3, 6, tyX3, rfl, in_X3, by decide, rfl, by decide, ap_tw (k := 182) (by decide +kernel) (by decide +kernel), rfl, tyX3_ok, nmX3, rfl, by decide +kernel⟩
theorem lp_RX8_240 : ap_LP RX8 240 0 1 .int := ⟨RX0, TX0, 5, tyX0, rfl, in_X0, by decide, rfl, by decide, ap_tw (k := 337) (by decide +kernel) (by decide +kernel), rfl, tyX0_ok, nmX0, rfl, by decide +kernel⟩
theorem lp_RX0_15 : ap_LP RX0 15 0 1 .int := ⟨RX0, TX0, 5, tyX0, rfl, in_X0, by decide, rfl, by decide, ap_tw (k := 336) (by decide +kernel) (by decide +kernel), rfl, tyX0_ok, nmX0, rfl, by decide +kernel⟩
theorem lp_RX0_19 : ap_LP RX0 19 0 2 .int := ⟨RX0, TX0, 5, tyX0, rfl, in_X0, by decide, rfl, by decide, ap_tw (k := 338) (by decide +kernel) (by decide +kernel), rfl, tyX0_ok, nmX0, rfl, by decide +kernel⟩
theorem lp_RX0_22 : ap_LP RX0 22 0 3 .int := ⟨RX0, TX0, 5, tyX0, rfl, in_X0, by decide, rfl, by decide, ap_tw (k := 339) (by decide +kernel) (by decide +kernel), rfl, tyX0_ok, nmX0, rfl, by decide +kernel⟩
theorem lp_RX0_25 : ap_LP RX0 25 0 4 .int := ⟨RX0, TX0, 5, tyX0, rfl, in_X0, by decide, rfl, by decide, ap_tw (k := 340) (by decide +kernel) (by decide +kernel), rfl, tyX0_ok, nmX0, rfl, by decide +kernel⟩
theorem lp_RX1_15 : ap_LP RX1 15 1 1 .int := ⟨RX1, TX1, 3, tyX1, rfl, in_X1, by decide, rfl, by decide, ap_tw (k := 208) (by decide +kernel) (by decide +kernel), rfl, tyX1_ok, nmX1, rfl, by decide +kernel⟩
theorem lp_RX1_19 : ap_LP RX1 19 1 2 .int := ⟨RX1, TX1, 3, tyX1, rfl, in_X1, by decide, rfl, by decide, ap_tw (k := 211) (by decide +kernel) (by decide +kernel), rfl, tyX1_ok, nmX1, rfl, by decide +kernel⟩
theorem lp_RX2_71 : ap_LP RX2 71 1 1 .int := ⟨RX1, TX1, 3, tyX1, rfl, in_X1, by decide, rfl, by decide, ap_tw (k := 209) (by decide +kernel) (by decide +kernel), rfl, tyX1_ok, nmX1, rfl, by decide +kernel⟩
theorem lp_RX2_115 : ap_LP RX2 115 1 2 .int := ⟨RX1, TX1, 3, tyX1, rfl, in_X1, by decide, rfl, by decide, ap_tw (k := 213) (by decide +kernel) (by decide +kernel), rfl, tyX1_ok, nmX1, rfl, by decide +kernel⟩
theorem lp_RX3_24 : ap_LP RX3 24 3 4 .int := ⟨RX3, TX3, 6, tyX3, rfl, in_X3, by decide, rfl, by decide, ap_tw (k := 181) (by decide +kernel) (by decide +kernel), rfl, tyX3_ok, nmX3, rfl, by decide +kernel⟩
theorem lp_RX3_28 : ap_LP RX3 28 3 5 .int := ⟨RX3, TX3, 6, tyX3, rfl, in_X3, by decide, rfl, by decide, ap_tw (k := 183) (by decide +kernel) (by decide +kernel), rfl, tyX3_ok, nmX3, rfl, by decide +kernel⟩
theorem lp_RX4_18 : ap_LP RX4 18 4 1 .int := ⟨RX4, TX4, 7, tyX4, rfl, in_X4, by decide, rfl, by decide, ap_tw (k := 273) (by decide +kernel) (by decide +kernel), rfl, tyX4_ok, nmX4, rfl, by decide +kernel⟩
theorem lp_RX4_35 : ap_LP RX4 35 4 4 .int := ⟨RX4, TX4, 7, tyX4, rfl, in_X4, by decide, rfl, by decide, ap_tw (k := 277) (by decide +kernel) (by decide +kernel), rfl, tyX4_ok, nmX4, rfl, by decide +kernel⟩
theorem lp_RX4_38 : ap_LP RX4 38 4 5 .int := ⟨RX4, TX4, 7, tyX4, rfl, in_X4, by decide, rfl, by decide, ap_tw (k := 278) (by decide +kernel) (by decide +kernel), rfl, tyX4_ok, nmX4, rfl, by decide +kernel⟩
theorem lp_RX4_41 : ap_LP RX4 41 4 6 .int := ⟨RX4, TX4, 7, tyX4, rfl, in_X4, by decide, rfl, by decide, ap_tw (k := 279) (by decide +kernel) (by decide +kernel), rfl, tyX4_ok, nmX4, rfl, by decide +kernel⟩
theorem lp_RX5_9 : ap_LP RX5 9 5 2 .int := ⟨RX5, TX5, 3, tyX5, rfl, in_X5, by decide, rfl, by decide, ap_tw (k := 101) (by decide +kernel) (by decide +kernel), rfl, tyX5_ok, nmX5, rfl, by decide +kernel⟩
theorem lp_RX6_27 : ap_LP RX6 27 6 2 .int := ⟨RX6, TX6, 9, tyX6, rfl, in_X6, by decide, rfl, by decide, ap_tw (k := 226) (by decide +kernel) (by decide +kernel), rfl, tyX6_ok, nmX6, rfl, by decide +kernel⟩
theorem lp_RX7_24 : ap_LP RX7 24 7 4 .int := ⟨RX7, TX7, 11, tyX7, rfl, in_X7, by decide, rfl, by decide, ap_tw (k := 123) (by decide +kernel) (by decide +kernel), rfl, tyX7_ok, nmX7, rfl, by decide +kernel⟩
theorem lp_RX7_28 : ap_LP RX7 28 7 5 .int := ⟨RX7, TX7, 11, tyX7, rfl, in_X7, by decide, rfl, by decide, ap_tw (k := 124) (by decide +kernel) (by decide +kernel), rfl, tyX7_ok, nmX7, rfl, by decide +kernel⟩
theorem lp_RX7_31 : ap_LP RX7 31 7 6 .int := ⟨RX7, TX7, 11, tyX7, rfl, in_X7, by decide, rfl, by decide, ap_tw (k := 125) (by decide +kernel) (by decide +kernel), rfl, tyX7_ok, nmX7, rfl, by decide +kernel⟩
theorem lp_RX7_34 : ap_LP RX7 34 7 7 .boolean := ⟨RX7, TX7, 11, tyX7, rfl, in_X7, by decide, rfl, by decide, ap_tw (k := 128) (by decide +kernel) (by decide +kernel), rfl, tyX7_ok, nmX7, rfl, by decide +kernel⟩
theorem lp_RX9_43 : ap_LP RX9 43 9 6 .int := ⟨RX9, TX9, 17, tyX9, rfl, in_X9, by decide, rfl, by decide, ap_tw (k := 898) (by decide +kernel) (by decide +kernel), rfl, tyX9_ok, nmX9, rfl, by decide +kernel⟩
theorem lp_RX9_46 : ap_LP RX9 46 9 7 .int := ⟨RX9, TX9, 17, tyX9, rfl, in_X9, by decide, rfl, by decide, ap_tw (k := 899) (by decide +kernel) (by decide +kernel), rfl, tyX9_ok, nmX9, rfl, by decide +kernel⟩
theorem lp_RX9_49 : ap_LP RX9 49 9 8 .boolean := ⟨RX9, TX9, 17, tyX9, rfl, in_X9, by decide, rfl, by decide, ap_tw (k := 900) (by decide +kernel) (by decide +kernel), rfl, tyX9_ok, nmX9, rfl, by decide +kernel⟩
theorem lp_RX9_70 : ap_LP RX9 70 9 5 .int := ⟨RX9, TX9, 17, tyX9, rfl, in_X9, by decide, rfl, by decide, ap_tw (k := 897) (by decide +kernel) (by decide +kernel), rfl, tyX9_ok, nmX9, rfl, by decide +kernel⟩
theorem lp_RX9_73 : ap_LP RX9 73 9 9 .int := ⟨RX9, TX9, 17, tyX9, rfl, in_X9, by decide, rfl, by decide, ap_tw (k := 901) (by decide +kernel) (by decide +kernel), rfl, tyX9_ok, nmX9, rfl, by decide +kernel⟩
theorem lp_RX9_189 : ap_LP RX9 189 9 13 .int := ⟨RX9, TX9, 17, tyX9, rfl, in_X9, by decide, rfl, by decide, ap_tw (k := 905) (by decide +kernel) (by decide +kernel), rfl, tyX9_ok, nmX9, rfl, by decide +kernel⟩
theorem lp_RX9_195 : ap_LP RX9 195 9 15 .int := ⟨RX9, TX9, 17, tyX9, rfl, in_X9, by decide, rfl, by decide, ap_tw (k := 907) (by decide +kernel) (by decide +kernel), rfl, tyX9_ok, nmX9, rfl, by decide +kernel⟩
theorem lp_RX9_198 : ap_LP RX9 198 9 14 .int := ⟨RX9, TX9, 17, tyX9, rfl, in_X9, by decide, rfl, by decide, ap_tw (k := 906) (by decide +kernel) (by decide +kernel), rfl, tyX9_ok, nmX9, rfl, by decide +kernel⟩
theorem lp_RX9_210 : ap_LP RX9 210 9 16 .int := ⟨RX9, TX9, 17, tyX9, rfl, in_X9, by decide, rfl, by decide, ap_tw (k := 908) (by decide +kernel) (by decide +kernel), rfl, tyX9_ok, nmX9, rfl, by decide +kernel⟩
theorem lp_RX9_225 : ap_LP RX9 225 9 4 .boolean := ⟨RX9, TX9, 17, tyX9, rfl, in_X9, by decide, rfl, by decide, ap_tw (k := 896) (by decide +kernel) (by decide +kernel), rfl, tyX9_ok, nmX9, rfl, by decide +kernel⟩
theorem lm_RJ1_38 : ap_LM RJ1 38 Lib.Math.min.name Lib.Math.min.code 2 := ⟨ap_tw (k := 492) (by decide +kernel) (by decide +kernel), ap_tw (k := 493) (by decide +kernel) (by decide +kernel), ap_tw (k := 56) (by decide +kernel) (by decide +kernel), ap_tw (k := 494) (by decide +kernel) (by decide +kernel)⟩
theorem lm_RJ1_92 : ap_LM RJ1 92 Lib.Math.max.name Lib.Math.max.code 2 := ⟨ap_tw (k := 491) (by decide +kernel) (by decide +kernel), ap_tw (k := 92) (by decide +kernel) (by decide +kernel), ap_tw (k := 56) (by decide +kernel) (by decide +kernel), ap_tw (k := 93) (by decide +kernel) (by decide +kernel)⟩
theorem lm_RX0_28 : ap_LM RX0 28 Lib.Math.min.name Lib.Math.min.code 2 := ⟨ap_tw (k := 861) (by decide +kernel) (by decide +kernel), ap_tw (k := 493) (by decide +kernel) (by decide +kernel), ap_tw (k := 56) (by decide +kernel) (by decide +kernel), ap_tw (k := 494) (by decide +kernel) (by decide +kernel)⟩
theorem lm_RX2_86 : ap_LM RX2 86 Lib.Math.max.name Lib.Math.max.code 2 := ⟨ap_tw (k := 786) (by decide +kernel) (by decide +kernel), ap_tw (k := 92) (by decide +kernel) (by decide +kernel), ap_tw (k := 56) (by decide +kernel) (by decide +kernel), ap_tw (k := 93) (by decide +kernel) (by decide +kernel)⟩
theorem lm_RX4_116 : ap_LM RX4 116 Lib.Math.max.name Lib.Math.max.code 2 := ⟨ap_tw (k := 563) (by decide +kernel) (by decide +kernel), ap_tw (k := 92) (by decide +kernel) (by decide +kernel), ap_tw (k := 56) (by decide +kernel) (by decide +kernel), ap_tw (k := 93) (by decide +kernel) (by decide +kernel)⟩
theorem lm_RX8_258 : ap_LM RX8 258 Lib.Math.abs.name Lib.Math.abs.code 1 := ⟨ap_tw (k := 650) (by decide +kernel) (by decide +kernel), ap_tw (k := 651) (by decide +kernel) (by decide +kernel), ap_tw (k := 56) (by decide +kernel) (by decide +kernel), ap_tw (k := 652) (by decide +kernel) (by decide +kernel)⟩
theorem la_RX1_22 : ap_LA RX1 22 := ⟨ap_tw (k := 630) (by decide +kernel) (by decide +kernel), ap_tw (k := 580) (by decide +kernel) (by decide +kernel), ap_tw (k := 579) (by decide +kernel) (by decide +kernel), ap_tw (k := 69) (by decide +kernel) (by decide +kernel)⟩
theorem la_RX3_35 : ap_LA RX3 35 := ⟨ap_tw (k := 624) (by decide +kernel) (by decide +kernel), ap_tw (k := 580) (by decide +kernel) (by decide +kernel), ap_tw (k := 579) (by decide +kernel) (by decide +kernel), ap_tw (k := 69) (by decide +kernel) (by decide +kernel)⟩
theorem la_RX7_51 : ap_LA RX7 51 := ⟨ap_tw (k := 578) (by decide +kernel) (by decide +kernel), ap_tw (k := 580) (by decide +kernel) (by decide +kernel), ap_tw (k := 579) (by decide +kernel) (by decide +kernel), ap_tw (k := 69) (by decide +kernel) (by decide +kernel)⟩
theorem lk_J0_charAt_5068e : ap_LK yJ0_charAt_5068e cJ0_charAt_5068e 2 (some .char) 1 := ⟨⟨ap_tw (k := 428) (by decide +kernel) (by decide +kernel), ap_tw (k := 64) (by decide +kernel) (by decide +kernel), by decide⟩, by decide +kernel, by decide +kernel, by decide +kernel⟩
theorem lv_J0_charAt_5068e : ap_LV yJ0_charAt_5068e := ⟨ap_tw (k := 426) (by decide +kernel) (by decide +kernel), ap_tw (k := 427) (by decide +kernel) (by decide +kernel)⟩
theorem lk_J0_checkIndex_df160 : ap_LK yJ0_checkIndex_df160 cJ0_checkIndex_df160 2 none 2 := ⟨⟨ap_tw (k := 438) (by decide +kernel) (by decide +kernel), ap_tw (k := 64) (by decide +kernel) (by decide +kernel), by decide⟩, by decide +kernel, by decide +kernel, by decide +kernel⟩
theorem ls_J0_checkIndex_df160 : Cond.static yJ0_checkIndex_df160 ∈ ap_TW := ap_tw (k := 437) (by decide +kernel) (by decide +kernel)
theorem lk_J0_coder_7d493 : ap_LK yJ0_coder_7d493 cJ0_coder_7d493 1 (some .byte) 0 := ⟨⟨ap_tw (k := 422) (by decide +kernel) (by decide +kernel), ap_tw (k := 64) (by decide +kernel) (by decide +kernel), by decide⟩, by decide +kernel, by decide +kernel, by decide +kernel⟩
theorem lv_J0_coder_7d493 : ap_LV yJ0_coder_7d493 := ⟨ap_tw (k := 420) (by decide +kernel) (by decide +kernel), ap_tw (k := 421) (by decide +kernel) (by decide +kernel)⟩
theorem lk_J0_indexOf_0f7a4 : ap_LK yJ0_indexOf_0f7a4 cJ0_indexOf_0f7a4 2 (some .int) 1 := ⟨⟨ap_tw (k := 479) (by decide +kernel) (by decide +kernel), ap_tw (k := 64) (by decide +kernel) (by decide +kernel), by decide⟩, by decide +kernel, by decide +kernel, by decide +kernel⟩
theorem lv_J0_indexOf_0f7a4 : ap_LV yJ0_indexOf_0f7a4 := ⟨ap_tw (k := 477) (by decide +kernel) (by decide +kernel), ap_tw (k := 478) (by decide +kernel) (by decide +kernel)⟩
theorem lk_J0_indexOf_7cf53 : ap_LK yJ0_indexOf_7cf53 cJ0_indexOf_7cf53 3 (some .int) 2 := ⟨⟨ap_tw (k := 483) (by decide +kernel) (by decide +kernel), ap_tw (k := 64) (by decide +kernel) (by decide +kernel), by decide⟩, by decide +kernel, by decide +kernel, by decide +kernel⟩
theorem lv_J0_indexOf_7cf53 : ap_LV yJ0_indexOf_7cf53 := ⟨ap_tw (k := 481) (by decide +kernel) (by decide +kernel), ap_tw (k := 482) (by decide +kernel) (by decide +kernel)⟩
theorem lk_J0_isLatin1_aae02 : ap_LK yJ0_isLatin1_aae02 cJ0_isLatin1_aae02 1 (some .boolean) 0 := ⟨⟨ap_tw (k := 432) (by decide +kernel) (by decide +kernel), ap_tw (k := 64) (by decide +kernel) (by decide +kernel), by decide⟩, by decide +kernel, by decide +kernel, by decide +kernel⟩
theorem lv_J0_isLatin1_aae02 : ap_LV yJ0_isLatin1_aae02 := ⟨ap_tw (k := 430) (by decide +kernel) (by decide +kernel), ap_tw (k := 431) (by decide +kernel) (by decide +kernel)⟩
theorem lk_J0_length_8abf5 : ap_LK yJ0_length_8abf5 cJ0_length_8abf5 1 (some .int) 0 := ⟨⟨ap_tw (k := 418) (by decide +kernel) (by decide +kernel), ap_tw (k := 64) (by decide +kernel) (by decide +kernel), by decide⟩, by decide +kernel, by decide +kernel, by decide +kernel⟩
theorem lv_J0_length_8abf5 : ap_LV yJ0_length_8abf5 := ⟨ap_tw (k := 416) (by decide +kernel) (by decide +kernel), ap_tw (k := 417) (by decide +kernel) (by decide +kernel)⟩
theorem lk_J1_canEncode_9a6ad : ap_LK yJ1_canEncode_9a6ad cJ1_canEncode_9a6ad 1 (some .boolean) 1 := ⟨⟨ap_tw (k := 490) (by decide +kernel) (by decide +kernel), ap_tw (k := 65) (by decide +kernel) (by decide +kernel), by decide⟩, by decide +kernel, by decide +kernel, by decide +kernel⟩
theorem ls_J1_canEncode_9a6ad : Cond.static yJ1_canEncode_9a6ad ∈ ap_TW := ap_tw (k := 489) (by decide +kernel) (by decide +kernel)
theorem lk_J1_charAt_3b067 : ap_LK yJ1_charAt_3b067 cJ1_charAt_3b067 2 (some .char) 2 := ⟨⟨ap_tw (k := 435) (by decide +kernel) (by decide +kernel), ap_tw (k := 65) (by decide +kernel) (by decide +kernel), by decide⟩, by decide +kernel, by decide +kernel, by decide +kernel⟩
theorem ls_J1_charAt_3b067 : Cond.static yJ1_charAt_3b067 ∈ ap_TW := ap_tw (k := 434) (by decide +kernel) (by decide +kernel)
theorem lk_J1_indexOfChar_4cfef : ap_LK yJ1_indexOfChar_4cfef cJ1_indexOfChar_4cfef 6 (some .int) 4 := ⟨⟨ap_tw (k := 497) (by decide +kernel) (by decide +kernel), ap_tw (k := 65) (by decide +kernel) (by decide +kernel), by decide⟩, by decide +kernel, by decide +kernel, by decide +kernel⟩
theorem ls_J1_indexOfChar_4cfef : Cond.static yJ1_indexOfChar_4cfef ∈ ap_TW := ap_tw (k := 496) (by decide +kernel) (by decide +kernel)
theorem lk_J1_indexOf_4cfef : ap_LK yJ1_indexOf_4cfef cJ1_indexOf_4cfef 4 (some .int) 4 := ⟨⟨ap_tw (k := 487) (by decide +kernel) (by decide +kernel), ap_tw (k := 65) (by decide +kernel) (by decide +kernel), by decide⟩, by decide +kernel, by decide +kernel, by decide +kernel⟩
theorem ls_J1_indexOf_4cfef : Cond.static yJ1_indexOf_4cfef ∈ ap_TW := ap_tw (k := 486) (by decide +kernel) (by decide +kernel)
theorem lk_J3_checkIndex_8e157 : ap_LK yJ3_checkIndex_8e157 cJ3_checkIndex_8e157 3 (some .int) 3 := ⟨⟨ap_tw (k := 443) (by decide +kernel) (by decide +kernel), ap_tw (k := 66) (by decide +kernel) (by decide +kernel), by decide⟩, by decide +kernel, by decide +kernel, by decide +kernel⟩
theorem ls_J3_checkIndex_8e157 : Cond.static yJ3_checkIndex_8e157 ∈ ap_TW := ap_tw (k := 442) (by decide +kernel) (by decide +kernel)
theorem lk_J6_bitCount_0f7a4 : ap_LK yJ6_bitCount_0f7a4 cJ6_bitCount_0f7a4 1 (some .int) 1 := ⟨⟨ap_tw (k := 762) (by decide +kernel) (by decide +kernel), ap_tw (k := 70) (by decide +kernel) (by decide +kernel), by decide⟩, by decide +kernel, by decide +kernel, by decide +kernel⟩
theorem ls_J6_bitCount_0f7a4 : Cond.static yJ6_bitCount_0f7a4 ∈ ap_TW := ap_tw (k := 761) (by decide +kernel) (by decide +kernel)
theorem lk_X0_inTrace : ap_LK yX0_inTrace cX0_inTrace 1 (some .int) 0 := ⟨⟨ap_tw (k := 860) (by decide +kernel) (by decide +kernel), ap_tw (k := 62) (by decide +kernel) (by decide +kernel), by decide⟩, by decide +kernel, by decide +kernel, by decide +kernel⟩
theorem lv_X0_inTrace : ap_LV yX0_inTrace := ⟨ap_tw (k := 858) (by decide +kernel) (by decide +kernel), ap_tw (k := 859) (by decide +kernel) (by decide +kernel)⟩
theorem lk_X0_note : ap_LK yX0_note cX0_note 2 none 1 := ⟨⟨ap_tw (k := 852) (by decide +kernel) (by decide +kernel), ap_tw (k := 62) (by decide +kernel) (by decide +kernel), by decide⟩, by decide +kernel, by decide +kernel, by decide +kernel⟩
theorem lv_X0_note : ap_LV yX0_note := ⟨ap_tw (k := 851) (by decide +kernel) (by decide +kernel), ap_tw (k := 16) (by decide +kernel) (by decide +kernel)⟩
theorem lk_X0_run : ap_LK yX0_run cX0_run 8 (some .int) 4 := ⟨⟨ap_tw (k := 844) (by decide +kernel) (by decide +kernel), ap_tw (k := 62) (by decide +kernel) (by decide +kernel), by decide⟩, by decide +kernel, by decide +kernel, by decide +kernel⟩
theorem lv_X0_run : ap_LV yX0_run := ⟨ap_tw (k := 843) (by decide +kernel) (by decide +kernel), ap_tw (k := 15) (by decide +kernel) (by decide +kernel)⟩
theorem lk_X0_start : ap_LK yX0_start cX0_start 5 (some .int) 4 := ⟨⟨ap_tw (k := 840) (by decide +kernel) (by decide +kernel), ap_tw (k := 62) (by decide +kernel) (by decide +kernel), by decide⟩, by decide +kernel, by decide +kernel, by decide +kernel⟩
theorem lv_X0_start : ap_LV yX0_start := ⟨ap_tw (k := 838) (by decide +kernel) (by decide +kernel), ap_tw (k := 839) (by decide +kernel) (by decide +kernel)⟩
theorem lk_X1_cellsLainOn : ap_LK yX1_cellsLainOn cX1_cellsLainOn 3 (some .int) 0 := ⟨⟨ap_tw (k := 698) (by decide +kernel) (by decide +kernel), ap_tw (k := 59) (by decide +kernel) (by decide +kernel), by decide⟩, by decide +kernel, by decide +kernel, by decide +kernel⟩
theorem lv_X1_cellsLainOn : ap_LV yX1_cellsLainOn := ⟨ap_tw (k := 696) (by decide +kernel) (by decide +kernel), ap_tw (k := 697) (by decide +kernel) (by decide +kernel)⟩
theorem lk_X1_copyFrom : ap_LK yX1_copyFrom cX1_copyFrom 2 none 1 := ⟨⟨ap_tw (k := 629) (by decide +kernel) (by decide +kernel), ap_tw (k := 59) (by decide +kernel) (by decide +kernel), by decide⟩, by decide +kernel, by decide +kernel, by decide +kernel⟩
theorem lv_X1_copyFrom : ap_LV yX1_copyFrom := ⟨ap_tw (k := 627) (by decide +kernel) (by decide +kernel), ap_tw (k := 628) (by decide +kernel) (by decide +kernel)⟩
theorem lk_X2_again : ap_LK yX2_again cX2_again 1 none 0 := ⟨⟨ap_tw (k := 634) (by decide +kernel) (by decide +kernel), ap_tw (k := 61) (by decide +kernel) (by decide +kernel), by decide⟩, by decide +kernel, by decide +kernel, by decide +kernel⟩
theorem lv_X2_again : ap_LV yX2_again := ⟨ap_tw (k := 632) (by decide +kernel) (by decide +kernel), ap_tw (k := 633) (by decide +kernel) (by decide +kernel)⟩
theorem lk_X2_begin : ap_LK yX2_begin cX2_begin 3 none 1 := ⟨⟨ap_tw (k := 619) (by decide +kernel) (by decide +kernel), ap_tw (k := 61) (by decide +kernel) (by decide +kernel), by decide⟩, by decide +kernel, by decide +kernel, by decide +kernel⟩
theorem lv_X2_begin : ap_LV yX2_begin := ⟨ap_tw (k := 617) (by decide +kernel) (by decide +kernel), ap_tw (k := 618) (by decide +kernel) (by decide +kernel)⟩
theorem lk_X2_comesTo : ap_LK yX2_comesTo cX2_comesTo 4 (some .int) 2 := ⟨⟨ap_tw (k := 739) (by decide +kernel) (by decide +kernel), ap_tw (k := 61) (by decide +kernel) (by decide +kernel), by decide⟩, by decide +kernel, by decide +kernel, by decide +kernel⟩
theorem lv_X2_comesTo : ap_LV yX2_comesTo := ⟨ap_tw (k := 737) (by decide +kernel) (by decide +kernel), ap_tw (k := 738) (by decide +kernel) (by decide +kernel)⟩
theorem lk_X2_draw : ap_LK yX2_draw cX2_draw 4 (some .int) 1 := ⟨⟨ap_tw (k := 702) (by decide +kernel) (by decide +kernel), ap_tw (k := 61) (by decide +kernel) (by decide +kernel), by decide⟩, by decide +kernel, by decide +kernel, by decide +kernel⟩
theorem lv_X2_draw : ap_LV yX2_draw := ⟨ap_tw (k := 700) (by decide +kernel) (by decide +kernel), ap_tw (k := 701) (by decide +kernel) (by decide +kernel)⟩
theorem lk_X2_follow : ap_LK yX2_follow cX2_follow 3 none 2 := ⟨⟨ap_tw (k := 823) (by decide +kernel) (by decide +kernel), ap_tw (k := 61) (by decide +kernel) (by decide +kernel), by decide⟩, by decide +kernel, by decide +kernel, by decide +kernel⟩
theorem lv_X2_follow : ap_LV yX2_follow := ⟨ap_tw (k := 821) (by decide +kernel) (by decide +kernel), ap_tw (k := 822) (by decide +kernel) (by decide +kernel)⟩
theorem lk_X2_go : ap_LK yX2_go cX2_go 7 none 1 := ⟨⟨ap_tw (k := 714) (by decide +kernel) (by decide +kernel), ap_tw (k := 61) (by decide +kernel) (by decide +kernel), by decide⟩, by decide +kernel, by decide +kernel, by decide +kernel⟩
theorem lv_X2_go : ap_LV yX2_go := ⟨ap_tw (k := 712) (by decide +kernel) (by decide +kernel), ap_tw (k := 713) (by decide +kernel) (by decide +kernel)⟩
theorem lk_X2_goSteps : ap_LK yX2_goSteps cX2_goSteps 3 none 1 := ⟨⟨ap_tw (k := 729) (by decide +kernel) (by decide +kernel), ap_tw (k := 61) (by decide +kernel) (by decide +kernel), by decide⟩, by decide +kernel, by decide +kernel, by decide +kernel⟩
theorem lv_X2_goSteps : ap_LV yX2_goSteps := ⟨ap_tw (k := 727) (by decide +kernel) (by decide +kernel), ap_tw (k := 728) (by decide +kernel) (by decide +kernel)⟩
theorem lk_X2_isAsSeen : ap_LK yX2_isAsSeen cX2_isAsSeen 5 (some .boolean) 1 := ⟨⟨ap_tw (k := 785) (by decide +kernel) (by decide +kernel), ap_tw (k := 61) (by decide +kernel) (by decide +kernel), by decide⟩, by decide +kernel, by decide +kernel, by decide +kernel⟩
theorem lv_X2_isAsSeen : ap_LV yX2_isAsSeen := ⟨ap_tw (k := 783) (by decide +kernel) (by decide +kernel), ap_tw (k := 784) (by decide +kernel) (by decide +kernel)⟩
theorem lk_X2_lure : ap_LK yX2_lure cX2_lure 3 (some .int) 2 := ⟨⟨ap_tw (k := 638) (by decide +kernel) (by decide +kernel), ap_tw (k := 61) (by decide +kernel) (by decide +kernel), by decide⟩, by decide +kernel, by decide +kernel, by decide +kernel⟩
theorem lv_X2_lure : ap_LV yX2_lure := ⟨ap_tw (k := 636) (by decide +kernel) (by decide +kernel), ap_tw (k := 637) (by decide +kernel) (by decide +kernel)⟩
theorem lk_X2_makePerson : ap_LK yX2_makePerson cX2_makePerson 3 none 2 := ⟨⟨ap_tw (k := 794) (by decide +kernel) (by decide +kernel), ap_tw (k := 61) (by decide +kernel) (by decide +kernel), by decide⟩, by decide +kernel, by decide +kernel, by decide +kernel⟩
theorem lv_X2_makePerson : ap_LV yX2_makePerson := ⟨ap_tw (k := 792) (by decide +kernel) (by decide +kernel), ap_tw (k := 793) (by decide +kernel) (by decide +kernel)⟩
theorem lk_X2_phase : ap_LK yX2_phase cX2_phase 1 (some .int) 0 := ⟨⟨ap_tw (k := 642) (by decide +kernel) (by decide +kernel), ap_tw (k := 61) (by decide +kernel) (by decide +kernel), by decide⟩, by decide +kernel, by decide +kernel, by decide +kernel⟩
theorem lv_X2_phase : ap_LV yX2_phase := ⟨ap_tw (k := 641) (by decide +kernel) (by decide +kernel), ap_tw (k := 12) (by decide +kernel) (by decide +kernel)⟩
theorem lk_X2_putPerson : ap_LK yX2_putPerson cX2_putPerson 3 none 2 := ⟨⟨ap_tw (k := 755) (by decide +kernel) (by decide +kernel), ap_tw (k := 61) (by decide +kernel) (by decide +kernel), by decide⟩, by decide +kernel, by decide +kernel, by decide +kernel⟩
theorem lv_X2_putPerson : ap_LV yX2_putPerson := ⟨ap_tw (k := 753) (by decide +kernel) (by decide +kernel), ap_tw (k := 754) (by decide +kernel) (by decide +kernel)⟩
theorem lk_X2_reckon : ap_LK yX2_reckon cX2_reckon 5 none 0 := ⟨⟨ap_tw (k := 665) (by decide +kernel) (by decide +kernel), ap_tw (k := 61) (by decide +kernel) (by decide +kernel), by decide⟩, by decide +kernel, by decide +kernel, by decide +kernel⟩
theorem lv_X2_reckon : ap_LV yX2_reckon := ⟨ap_tw (k := 663) (by decide +kernel) (by decide +kernel), ap_tw (k := 664) (by decide +kernel) (by decide +kernel)⟩
theorem lk_X2_tug : ap_LK yX2_tug cX2_tug 4 (some .int) 2 := ⟨⟨ap_tw (k := 673) (by decide +kernel) (by decide +kernel), ap_tw (k := 61) (by decide +kernel) (by decide +kernel), by decide⟩, by decide +kernel, by decide +kernel, by decide +kernel⟩
theorem lv_X2_tug : ap_LV yX2_tug := ⟨ap_tw (k := 671) (by decide +kernel) (by decide +kernel), ap_tw (k := 672) (by decide +kernel) (by decide +kernel)⟩
theorem lk_X2_tugBut : ap_LK yX2_tugBut cX2_tugBut 4 (some .int) 4 := ⟨⟨ap_tw (k := 669) (by decide +kernel) (by decide +kernel), ap_tw (k := 61) (by decide +kernel) (by decide +kernel), by decide⟩, by decide +kernel, by decide +kernel, by decide +kernel⟩
theorem ls_X2_tugBut : Cond.static yX2_tugBut ∈ ap_TW := ap_tw (k := 668) (by decide +kernel) (by decide +kernel)
theorem lk_X3_add : ap_LK yX3_add cX3_add 5 (some .int) 3 := ⟨⟨ap_tw (k := 598) (by decide +kernel) (by decide +kernel), ap_tw (k := 58) (by decide +kernel) (by decide +kernel), by decide⟩, by decide +kernel, by decide +kernel, by decide +kernel⟩
theorem lv_X3_add : ap_LV yX3_add := ⟨ap_tw (k := 596) (by decide +kernel) (by decide +kernel), ap_tw (k := 597) (by decide +kernel) (by decide +kernel)⟩
theorem lk_X3_copyFrom : ap_LK yX3_copyFrom cX3_copyFrom 2 none 1 := ⟨⟨ap_tw (k := 623) (by decide +kernel) (by decide +kernel), ap_tw (k := 58) (by decide +kernel) (by decide +kernel), by decide⟩, by decide +kernel, by decide +kernel, by decide +kernel⟩
theorem lv_X3_copyFrom : ap_LV yX3_copyFrom := ⟨ap_tw (k := 621) (by decide +kernel) (by decide +kernel), ap_tw (k := 622) (by decide +kernel) (by decide +kernel)⟩
theorem lk_X3_has : ap_LK yX3_has cX3_has 2 (some .boolean) 1 := ⟨⟨ap_tw (k := 610) (by decide +kernel) (by decide +kernel), ap_tw (k := 58) (by decide +kernel) (by decide +kernel), by decide⟩, by decide +kernel, by decide +kernel, by decide +kernel⟩
theorem lv_X3_has : ap_LV yX3_has := ⟨ap_tw (k := 608) (by decide +kernel) (by decide +kernel), ap_tw (k := 609) (by decide +kernel) (by decide +kernel)⟩
theorem lk_X3_isAway : ap_LK yX3_isAway cX3_isAway 2 (some .boolean) 1 := ⟨⟨ap_tw (k := 615) (by decide +kernel) (by decide +kernel), ap_tw (k := 58) (by decide +kernel) (by decide +kernel), by decide⟩, by decide +kernel, by decide +kernel, by decide +kernel⟩
theorem lv_X3_isAway : ap_LV yX3_isAway := ⟨ap_tw (k := 613) (by decide +kernel) (by decide +kernel), ap_tw (k := 614) (by decide +kernel) (by decide +kernel)⟩
theorem lk_X3_setAway : ap_LK yX3_setAway cX3_setAway 3 none 2 := ⟨⟨ap_tw (k := 602) (by decide +kernel) (by decide +kernel), ap_tw (k := 58) (by decide +kernel) (by decide +kernel), by decide⟩, by decide +kernel, by decide +kernel, by decide +kernel⟩
theorem lv_X3_setAway : ap_LV yX3_setAway := ⟨ap_tw (k := 600) (by decide +kernel) (by decide +kernel), ap_tw (k := 601) (by decide +kernel) (by decide +kernel)⟩
theorem lk_X4_next : ap_LK yX4_next cX4_next 1 (some .int) 0 := ⟨⟨ap_tw (k := 407) (by decide +kernel) (by decide +kernel), ap_tw (k := 60) (by decide +kernel) (by decide +kernel), by decide⟩, by decide +kernel, by decide +kernel, by decide +kernel⟩
theorem lv_X4_next : ap_LV yX4_next := ⟨ap_tw (k := 406) (by decide +kernel) (by decide +kernel), ap_tw (k := 1) (by decide +kernel) (by decide +kernel)⟩
theorem lk_X4_push : ap_LK yX4_push cX4_push 2 none 1 := ⟨⟨ap_tw (k := 548) (by decide +kernel) (by decide +kernel), ap_tw (k := 60) (by decide +kernel) (by decide +kernel), by decide⟩, by decide +kernel, by decide +kernel, by decide +kernel⟩
theorem lv_X4_push : ap_LV yX4_push := ⟨ap_tw (k := 547) (by decide +kernel) (by decide +kernel), ap_tw (k := 8) (by decide +kernel) (by decide +kernel)⟩
theorem lk_X4_reads : ap_LK yX4_reads cX4_reads 3 (some .boolean) 1 := ⟨⟨ap_tw (k := 386) (by decide +kernel) (by decide +kernel), ap_tw (k := 60) (by decide +kernel) (by decide +kernel), by decide⟩, by decide +kernel, by decide +kernel, by decide +kernel⟩
theorem lv_X4_reads : ap_LV yX4_reads := ⟨ap_tw (k := 384) (by decide +kernel) (by decide +kernel), ap_tw (k := 385) (by decide +kernel) (by decide +kernel)⟩
theorem lk_X4_readsClause : ap_LK yX4_readsClause cX4_readsClause 3 (some .boolean) 0 := ⟨⟨ap_tw (k := 403) (by decide +kernel) (by decide +kernel), ap_tw (k := 60) (by decide +kernel) (by decide +kernel), by decide⟩, by decide +kernel, by decide +kernel, by decide +kernel⟩
theorem lv_X4_readsClause : ap_LV yX4_readsClause := ⟨ap_tw (k := 402) (by decide +kernel) (by decide +kernel), ap_tw (k := 0) (by decide +kernel) (by decide +kernel)⟩
theorem lk_X4_readsExpression : ap_LK yX4_readsExpression cX4_readsExpression 2 (some .boolean) 0 := ⟨⟨ap_tw (k := 540) (by decide +kernel) (by decide +kernel), ap_tw (k := 60) (by decide +kernel) (by decide +kernel), by decide⟩, by decide +kernel, by decide +kernel, by decide +kernel⟩
theorem lv_X4_readsExpression : ap_LV yX4_readsExpression := ⟨ap_tw (k := 539) (by decide +kernel) (by decide +kernel), ap_tw (k := 6) (by decide +kernel) (by decide +kernel)⟩
theorem lk_X4_readsTest : ap_LK yX4_readsTest cX4_readsTest 4 (some .boolean) 0 := ⟨⟨ap_tw (k := 552) (by decide +kernel) (by decide +kernel), ap_tw (k := 60) (by decide +kernel) (by decide +kernel), by decide⟩, by decide +kernel, by decide +kernel, by decide +kernel⟩
theorem lv_X4_readsTest : ap_LV yX4_readsTest := ⟨ap_tw (k := 551) (by decide +kernel) (by decide +kernel), ap_tw (k := 9) (by decide +kernel) (by decide +kernel)⟩
theorem lk_X4_settle : ap_LK yX4_settle cX4_settle 3 none 1 := ⟨⟨ap_tw (k := 571) (by decide +kernel) (by decide +kernel), ap_tw (k := 60) (by decide +kernel) (by decide +kernel), by decide⟩, by decide +kernel, by decide +kernel, by decide +kernel⟩
theorem lv_X4_settle : ap_LV yX4_settle := ⟨ap_tw (k := 570) (by decide +kernel) (by decide +kernel), ap_tw (k := 11) (by decide +kernel) (by decide +kernel)⟩
theorem lk_X4_takes : ap_LK yX4_takes cX4_takes 3 (some .boolean) 1 := ⟨⟨ap_tw (k := 466) (by decide +kernel) (by decide +kernel), ap_tw (k := 60) (by decide +kernel) (by decide +kernel), by decide⟩, by decide +kernel, by decide +kernel, by decide +kernel⟩
theorem lv_X4_takes : ap_LV yX4_takes := ⟨ap_tw (k := 465) (by decide +kernel) (by decide +kernel), ap_tw (k := 3) (by decide +kernel) (by decide +kernel)⟩
theorem lk_X4_takesAll : ap_LK yX4_takesAll cX4_takesAll 3 (some .boolean) 1 := ⟨⟨ap_tw (k := 414) (by decide +kernel) (by decide +kernel), ap_tw (k := 60) (by decide +kernel) (by decide +kernel), by decide⟩, by decide +kernel, by decide +kernel, by decide +kernel⟩
theorem lv_X4_takesAll : ap_LV yX4_takesAll := ⟨ap_tw (k := 413) (by decide +kernel) (by decide +kernel), ap_tw (k := 2) (by decide +kernel) (by decide +kernel)⟩
theorem lk_X4_takesClosing : ap_LK yX4_takesClosing cX4_takesClosing 2 none 0 := ⟨⟨ap_tw (k := 567) (by decide +kernel) (by decide +kernel), ap_tw (k := 60) (by decide +kernel) (by decide +kernel), by decide⟩, by decide +kernel, by decide +kernel, by decide +kernel⟩
theorem lv_X4_takesClosing : ap_LV yX4_takesClosing := ⟨ap_tw (k := 566) (by decide +kernel) (by decide +kernel), ap_tw (k := 10) (by decide +kernel) (by decide +kernel)⟩
theorem lk_X4_takesNumber : ap_LK yX4_takesNumber cX4_takesNumber 3 (some .int) 0 := ⟨⟨ap_tw (k := 470) (by decide +kernel) (by decide +kernel), ap_tw (k := 60) (by decide +kernel) (by decide +kernel), by decide⟩, by decide +kernel, by decide +kernel, by decide +kernel⟩
theorem lv_X4_takesNumber : ap_LV yX4_takesNumber := ⟨ap_tw (k := 469) (by decide +kernel) (by decide +kernel), ap_tw (k := 4) (by decide +kernel) (by decide +kernel)⟩
theorem lk_X4_takesOneOf : ap_LK yX4_takesOneOf cX4_takesOneOf 4 (some .int) 1 := ⟨⟨ap_tw (k := 475) (by decide +kernel) (by decide +kernel), ap_tw (k := 60) (by decide +kernel) (by decide +kernel), by decide⟩, by decide +kernel, by decide +kernel, by decide +kernel⟩
theorem lv_X4_takesOneOf : ap_LV yX4_takesOneOf := ⟨ap_tw (k := 474) (by decide +kernel) (by decide +kernel), ap_tw (k := 5) (by decide +kernel) (by decide +kernel)⟩
theorem lk_X4_takesOpening : ap_LK yX4_takesOpening cX4_takesOpening 2 none 0 := ⟨⟨ap_tw (k := 544) (by decide +kernel) (by decide +kernel), ap_tw (k := 60) (by decide +kernel) (by decide +kernel), by decide⟩, by decide +kernel, by decide +kernel, by decide +kernel⟩
theorem lv_X4_takesOpening : ap_LV yX4_takesOpening := ⟨ap_tw (k := 543) (by decide +kernel) (by decide +kernel), ap_tw (k := 7) (by decide +kernel) (by decide +kernel)⟩
theorem lk_X5_add : ap_LK yX5_add cX5_add 3 (some .int) 2 := ⟨⟨ap_tw (k := 378) (by decide +kernel) (by decide +kernel), ap_tw (k := 55) (by decide +kernel) (by decide +kernel), by decide⟩, by decide +kernel, by decide +kernel, by decide +kernel⟩
theorem lv_X5_add : ap_LV yX5_add := ⟨ap_tw (k := 376) (by decide +kernel) (by decide +kernel), ap_tw (k := 377) (by decide +kernel) (by decide +kernel)⟩
theorem lk_X5_clear : ap_LK yX5_clear cX5_clear 1 (some .int) 0 := ⟨⟨ap_tw (k := 394) (by decide +kernel) (by decide +kernel), ap_tw (k := 55) (by decide +kernel) (by decide +kernel), by decide⟩, by decide +kernel, by decide +kernel, by decide +kernel⟩
theorem lv_X5_clear : ap_LV yX5_clear := ⟨ap_tw (k := 392) (by decide +kernel) (by decide +kernel), ap_tw (k := 393) (by decide +kernel) (by decide +kernel)⟩
theorem lk_X5_copyFrom : ap_LK yX5_copyFrom cX5_copyFrom 3 none 1 := ⟨⟨ap_tw (k := 390) (by decide +kernel) (by decide +kernel), ap_tw (k := 55) (by decide +kernel) (by decide +kernel), by decide⟩, by decide +kernel, by decide +kernel, by decide +kernel⟩
theorem lv_X5_copyFrom : ap_LV yX5_copyFrom := ⟨ap_tw (k := 388) (by decide +kernel) (by decide +kernel), ap_tw (k := 389) (by decide +kernel) (by decide +kernel)⟩
theorem lk_X6_copyFrom : ap_LK yX6_copyFrom cX6_copyFrom 2 none 1 := ⟨⟨ap_tw (k := 874) (by decide +kernel) (by decide +kernel), ap_tw (k := 54) (by decide +kernel) (by decide +kernel), by decide⟩, by decide +kernel, by decide +kernel, by decide +kernel⟩
theorem lv_X6_copyFrom : ap_LV yX6_copyFrom := ⟨ap_tw (k := 872) (by decide +kernel) (by decide +kernel), ap_tw (k := 873) (by decide +kernel) (by decide +kernel)⟩
theorem lk_X7_begin : ap_LK yX7_begin cX7_begin 3 none 2 := ⟨⟨ap_tw (k := 536) (by decide +kernel) (by decide +kernel), ap_tw (k := 57) (by decide +kernel) (by decide +kernel), by decide⟩, by decide +kernel, by decide +kernel, by decide +kernel⟩
theorem lv_X7_begin : ap_LV yX7_begin := ⟨ap_tw (k := 534) (by decide +kernel) (by decide +kernel), ap_tw (k := 535) (by decide +kernel) (by decide +kernel)⟩
theorem lk_X7_clear : ap_LK yX7_clear cX7_clear 1 none 0 := ⟨⟨ap_tw (k := 399) (by decide +kernel) (by decide +kernel), ap_tw (k := 57) (by decide +kernel) (by decide +kernel), by decide⟩, by decide +kernel, by decide +kernel, by decide +kernel⟩
theorem lv_X7_clear : ap_LV yX7_clear := ⟨ap_tw (k := 397) (by decide +kernel) (by decide +kernel), ap_tw (k := 398) (by decide +kernel) (by decide +kernel)⟩
theorem lk_X7_copyFrom : ap_LK yX7_copyFrom cX7_copyFrom 2 none 1 := ⟨⟨ap_tw (k := 577) (by decide +kernel) (by decide +kernel), ap_tw (k := 57) (by decide +kernel) (by decide +kernel), by decide⟩, by decide +kernel, by decide +kernel, by decide +kernel⟩
theorem lv_X7_copyFrom : ap_LV yX7_copyFrom := ⟨ap_tw (k := 575) (by decide +kernel) (by decide +kernel), ap_tw (k := 576) (by decide +kernel) (by decide +kernel)⟩
theorem lk_X7_put : ap_LK yX7_put cX7_put 2 none 1 := ⟨⟨ap_tw (k := 562) (by decide +kernel) (by decide +kernel), ap_tw (k := 57) (by decide +kernel) (by decide +kernel), by decide⟩, by decide +kernel, by decide +kernel, by decide +kernel⟩
theorem lv_X7_put : ap_LV yX7_put := ⟨ap_tw (k := 560) (by decide +kernel) (by decide +kernel), ap_tw (k := 561) (by decide +kernel) (by decide +kernel)⟩
theorem lk_X7_putTest : ap_LK yX7_putTest cX7_putTest 4 none 3 := ⟨⟨ap_tw (k := 558) (by decide +kernel) (by decide +kernel), ap_tw (k := 57) (by decide +kernel) (by decide +kernel), by decide⟩, by decide +kernel, by decide +kernel, by decide +kernel⟩
theorem lv_X7_putTest : ap_LV yX7_putTest := ⟨ap_tw (k := 556) (by decide +kernel) (by decide +kernel), ap_tw (k := 557) (by decide +kernel) (by decide +kernel)⟩
theorem lk_X7_weigh : ap_LK yX7_weigh cX7_weigh 8 none 3 := ⟨⟨ap_tw (k := 646) (by decide +kernel) (by decide +kernel), ap_tw (k := 57) (by decide +kernel) (by decide +kernel), by decide⟩, by decide +kernel, by decide +kernel, by decide +kernel⟩
theorem lv_X7_weigh : ap_LV yX7_weigh := ⟨ap_tw (k := 644) (by decide +kernel) (by decide +kernel), ap_tw (k := 645) (by decide +kernel) (by decide +kernel)⟩
theorem lk_X7_whereHolds : ap_LK yX7_whereHolds cX7_whereHolds 11 (some .int) 4 := ⟨⟨ap_tw (k := 656) (by decide +kernel) (by decide +kernel), ap_tw (k := 57) (by decide +kernel) (by decide +kernel), by decide⟩, by decide +kernel, by decide +kernel, by decide +kernel⟩
theorem lv_X7_whereHolds : ap_LV yX7_whereHolds := ⟨ap_tw (k := 655) (by decide +kernel) (by decide +kernel), ap_tw (k := 13) (by decide +kernel) (by decide +kernel)⟩
theorem lk_X7_whereTest : ap_LK yX7_whereTest cX7_whereTest 11 (some .int) 4 := ⟨⟨ap_tw (k := 660) (by decide +kernel) (by decide +kernel), ap_tw (k := 57) (by decide +kernel) (by decide +kernel), by decide⟩, by decide +kernel, by decide +kernel, by decide +kernel⟩
theorem lv_X7_whereTest : ap_LV yX7_whereTest := ⟨ap_tw (k := 659) (by decide +kernel) (by decide +kernel), ap_tw (k := 14) (by decide +kernel) (by decide +kernel)⟩
theorem lk_X8_far : ap_LK yX8_far cX8_far 2 (some .int) 2 := ⟨⟨ap_tw (k := 649) (by decide +kernel) (by decide +kernel), ap_tw (k := 53) (by decide +kernel) (by decide +kernel), by decide⟩, by decide +kernel, by decide +kernel, by decide +kernel⟩
theorem ls_X8_far : Cond.static yX8_far ∈ ap_TW := ap_tw (k := 648) (by decide +kernel) (by decide +kernel)
theorem lk_X8_inLowestTerms : ap_LK yX8_inLowestTerms cX8_inLowestTerms 7 (some .long) 3 := ⟨⟨ap_tw (k := 806) (by decide +kernel) (by decide +kernel), ap_tw (k := 53) (by decide +kernel) (by decide +kernel), by decide⟩, by decide +kernel, by decide +kernel, by decide +kernel⟩
theorem ls_X8_inLowestTerms : Cond.static yX8_inLowestTerms ∈ ap_TW := ap_tw (k := 805) (by decide +kernel) (by decide +kernel)
theorem lk_X8_isCell : ap_LK yX8_isCell cX8_isCell 1 (some .boolean) 1 := ⟨⟨ap_tw (k := 591) (by decide +kernel) (by decide +kernel), ap_tw (k := 53) (by decide +kernel) (by decide +kernel), by decide⟩, by decide +kernel, by decide +kernel, by decide +kernel⟩
theorem ls_X8_isCell : Cond.static yX8_isCell ∈ ap_TW := ap_tw (k := 590) (by decide +kernel) (by decide +kernel)
theorem lk_X8_isDigit : ap_LK yX8_isDigit cX8_isDigit 1 (some .boolean) 1 := ⟨⟨ap_tw (k := 594) (by decide +kernel) (by decide +kernel), ap_tw (k := 53) (by decide +kernel) (by decide +kernel), by decide⟩, by decide +kernel, by decide +kernel, by decide +kernel⟩
theorem ls_X8_isDigit : Cond.static yX8_isDigit ∈ ap_TW := ap_tw (k := 593) (by decide +kernel) (by decide +kernel)
theorem lk_X8_isEither : ap_LK yX8_isEither cX8_isEither 1 (some .boolean) 1 := ⟨⟨ap_tw (k := 746) (by decide +kernel) (by decide +kernel), ap_tw (k := 53) (by decide +kernel) (by decide +kernel), by decide⟩, by decide +kernel, by decide +kernel, by decide +kernel⟩
theorem ls_X8_isEither : Cond.static yX8_isEither ∈ ap_TW := ap_tw (k := 745) (by decide +kernel) (by decide +kernel)
theorem lk_X8_isFuture : ap_LK yX8_isFuture cX8_isFuture 1 (some .boolean) 1 := ⟨⟨ap_tw (k := 710) (by decide +kernel) (by decide +kernel), ap_tw (k := 53) (by decide +kernel) (by decide +kernel), by decide⟩, by decide +kernel, by decide +kernel, by decide +kernel⟩
theorem ls_X8_isFuture : Cond.static yX8_isFuture ∈ ap_TW := ap_tw (k := 709) (by decide +kernel) (by decide +kernel)
theorem lk_X8_isKind : ap_LK yX8_isKind cX8_isKind 1 (some .boolean) 1 := ⟨⟨ap_tw (k := 588) (by decide +kernel) (by decide +kernel), ap_tw (k := 53) (by decide +kernel) (by decide +kernel), by decide⟩, by decide +kernel, by decide +kernel, by decide +kernel⟩
theorem ls_X8_isKind : Cond.static yX8_isKind ∈ ap_TW := ap_tw (k := 587) (by decide +kernel) (by decide +kernel)
theorem lk_X9_among : ap_LK yX9_among cX9_among 3 (some .int) 1 := ⟨⟨ap_tw (k := 1008) (by decide +kernel) (by decide +kernel), ap_tw (k := 63) (by decide +kernel) (by decide +kernel), by decide⟩, by decide +kernel, by decide +kernel, by decide +kernel⟩
theorem lv_X9_among : ap_LV yX9_among := ⟨ap_tw (k := 1007) (by decide +kernel) (by decide +kernel), ap_tw (k := 28) (by decide +kernel) (by decide +kernel)⟩
theorem lk_X9_areAsSeen : ap_LK yX9_areAsSeen cX9_areAsSeen 3 (some .boolean) 0 := ⟨⟨ap_tw (k := 1148) (by decide +kernel) (by decide +kernel), ap_tw (k := 63) (by decide +kernel) (by decide +kernel), by decide⟩, by decide +kernel, by decide +kernel, by decide +kernel⟩
theorem lv_X9_areAsSeen : ap_LV yX9_areAsSeen := ⟨ap_tw (k := 1147) (by decide +kernel) (by decide +kernel), ap_tw (k := 42) (by decide +kernel) (by decide +kernel)⟩
theorem lk_X9_becomes : ap_LK yX9_becomes cX9_becomes 4 (some .int) 2 := ⟨⟨ap_tw (k := 1056) (by decide +kernel) (by decide +kernel), ap_tw (k := 63) (by decide +kernel) (by decide +kernel), by decide⟩, by decide +kernel, by decide +kernel, by decide +kernel⟩
theorem lv_X9_becomes : ap_LV yX9_becomes := ⟨ap_tw (k := 1055) (by decide +kernel) (by decide +kernel), ap_tw (k := 33) (by decide +kernel) (by decide +kernel)⟩
theorem lk_X9_clauseHere : ap_LK yX9_clauseHere cX9_clauseHere 1 none 0 := ⟨⟨ap_tw (k := 959) (by decide +kernel) (by decide +kernel), ap_tw (k := 63) (by decide +kernel) (by decide +kernel), by decide⟩, by decide +kernel, by decide +kernel, by decide +kernel⟩
theorem lv_X9_clauseHere : ap_LV yX9_clauseHere := ⟨ap_tw (k := 958) (by decide +kernel) (by decide +kernel), ap_tw (k := 17) (by decide +kernel) (by decide +kernel)⟩
theorem lk_X9_countOf : ap_LK yX9_countOf cX9_countOf 3 (some .int) 1 := ⟨⟨ap_tw (k := 1124) (by decide +kernel) (by decide +kernel), ap_tw (k := 63) (by decide +kernel) (by decide +kernel), by decide⟩, by decide +kernel, by decide +kernel, by decide +kernel⟩
theorem ls_X9_countOf : Cond.static yX9_countOf ∈ ap_TW := ap_tw (k := 1123) (by decide +kernel) (by decide +kernel)
theorem lk_X9_drawOf : ap_LK yX9_drawOf cX9_drawOf 4 (some .int) 1 := ⟨⟨ap_tw (k := 1076) (by decide +kernel) (by decide +kernel), ap_tw (k := 63) (by decide +kernel) (by decide +kernel), by decide⟩, by decide +kernel, by decide +kernel, by decide +kernel⟩
theorem lv_X9_drawOf : ap_LV yX9_drawOf := ⟨ap_tw (k := 1075) (by decide +kernel) (by decide +kernel), ap_tw (k := 35) (by decide +kernel) (by decide +kernel)⟩
theorem lk_X9_emits : ap_LK yX9_emits cX9_emits 2 none 1 := ⟨⟨ap_tw (k := 1003) (by decide +kernel) (by decide +kernel), ap_tw (k := 63) (by decide +kernel) (by decide +kernel), by decide⟩, by decide +kernel, by decide +kernel, by decide +kernel⟩
theorem lv_X9_emits : ap_LV yX9_emits := ⟨ap_tw (k := 1002) (by decide +kernel) (by decide +kernel), ap_tw (k := 27) (by decide +kernel) (by decide +kernel)⟩
theorem lk_X9_every : ap_LK yX9_every cX9_every 1 none 0 := ⟨⟨ap_tw (k := 995) (by decide +kernel) (by decide +kernel), ap_tw (k := 63) (by decide +kernel) (by decide +kernel), by decide⟩, by decide +kernel, by decide +kernel, by decide +kernel⟩
theorem lv_X9_every : ap_LV yX9_every := ⟨ap_tw (k := 994) (by decide +kernel) (by decide +kernel), ap_tw (k := 25) (by decide +kernel) (by decide +kernel)⟩
theorem lk_X9_factor : ap_LK yX9_factor cX9_factor 5 none 0 := ⟨⟨ap_tw (k := 999) (by decide +kernel) (by decide +kernel), ap_tw (k := 63) (by decide +kernel) (by decide +kernel), by decide⟩, by decide +kernel, by decide +kernel, by decide +kernel⟩
theorem lv_X9_factor : ap_LV yX9_factor := ⟨ap_tw (k := 998) (by decide +kernel) (by decide +kernel), ap_tw (k := 26) (by decide +kernel) (by decide +kernel)⟩
theorem lk_X9_far : ap_LK yX9_far cX9_far 2 (some .int) 2 := ⟨⟨ap_tw (k := 1033) (by decide +kernel) (by decide +kernel), ap_tw (k := 63) (by decide +kernel) (by decide +kernel), by decide⟩, by decide +kernel, by decide +kernel, by decide +kernel⟩
theorem ls_X9_far : Cond.static yX9_far ∈ ap_TW := ap_tw (k := 1032) (by decide +kernel) (by decide +kernel)
theorem lk_X9_figures : ap_LK yX9_figures cX9_figures 3 (some .int) 0 := ⟨⟨ap_tw (k := 982) (by decide +kernel) (by decide +kernel), ap_tw (k := 63) (by decide +kernel) (by decide +kernel), by decide⟩, by decide +kernel, by decide +kernel, by decide +kernel⟩
theorem lv_X9_figures : ap_LV yX9_figures := ⟨ap_tw (k := 981) (by decide +kernel) (by decide +kernel), ap_tw (k := 22) (by decide +kernel) (by decide +kernel)⟩
theorem lk_X9_goes : ap_LK yX9_goes cX9_goes 6 none 0 := ⟨⟨ap_tw (k := 1084) (by decide +kernel) (by decide +kernel), ap_tw (k := 63) (by decide +kernel) (by decide +kernel), by decide⟩, by decide +kernel, by decide +kernel, by decide +kernel⟩
theorem lv_X9_goes : ap_LV yX9_goes := ⟨ap_tw (k := 1083) (by decide +kernel) (by decide +kernel), ap_tw (k := 36) (by decide +kernel) (by decide +kernel)⟩
theorem lk_X9_goesBack : ap_LK yX9_goesBack cX9_goesBack 2 none 0 := ⟨⟨ap_tw (k := 1100) (by decide +kernel) (by decide +kernel), ap_tw (k := 63) (by decide +kernel) (by decide +kernel), by decide⟩, by decide +kernel, by decide +kernel, by decide +kernel⟩
theorem lv_X9_goesBack : ap_LV yX9_goesBack := ⟨ap_tw (k := 1099) (by decide +kernel) (by decide +kernel), ap_tw (k := 39) (by decide +kernel) (by decide +kernel)⟩
theorem lk_X9_goesBy : ap_LK yX9_goesBy cX9_goesBy 3 none 2 := ⟨⟨ap_tw (k := 1184) (by decide +kernel) (by decide +kernel), ap_tw (k := 63) (by decide +kernel) (by decide +kernel), by decide⟩, by decide +kernel, by decide +kernel, by decide +kernel⟩
theorem lv_X9_goesBy : ap_LV yX9_goesBy := ⟨ap_tw (k := 1183) (by decide +kernel) (by decide +kernel), ap_tw (k := 44) (by decide +kernel) (by decide +kernel)⟩
theorem lk_X9_goesOn : ap_LK yX9_goesOn cX9_goesOn 3 none 1 := ⟨⟨ap_tw (k := 1096) (by decide +kernel) (by decide +kernel), ap_tw (k := 63) (by decide +kernel) (by decide +kernel), by decide⟩, by decide +kernel, by decide +kernel, by decide +kernel⟩
theorem lv_X9_goesOn : ap_LV yX9_goesOn := ⟨ap_tw (k := 1095) (by decide +kernel) (by decide +kernel), ap_tw (k := 38) (by decide +kernel) (by decide +kernel)⟩
theorem lk_X9_here : ap_LK yX9_here cX9_here 1 (some .int) 0 := ⟨⟨ap_tw (k := 963) (by decide +kernel) (by decide +kernel), ap_tw (k := 63) (by decide +kernel) (by decide +kernel), by decide⟩, by decide +kernel, by decide +kernel, by decide +kernel⟩
theorem lv_X9_here : ap_LV yX9_here := ⟨ap_tw (k := 962) (by decide +kernel) (by decide +kernel), ap_tw (k := 18) (by decide +kernel) (by decide +kernel)⟩
theorem lk_X9_in : ap_LK yX9_in cX9_in 3 (some .boolean) 3 := ⟨⟨ap_tw (k := 951) (by decide +kernel) (by decide +kernel), ap_tw (k := 63) (by decide +kernel) (by decide +kernel), by decide⟩, by decide +kernel, by decide +kernel, by decide +kernel⟩
theorem ls_X9_in : Cond.static yX9_in ∈ ap_TW := ap_tw (k := 950) (by decide +kernel) (by decide +kernel)
theorem lk_X9_isAsSeen : ap_LK yX9_isAsSeen cX9_isAsSeen 4 (some .boolean) 1 := ⟨⟨ap_tw (k := 1152) (by decide +kernel) (by decide +kernel), ap_tw (k := 63) (by decide +kernel) (by decide +kernel), by decide⟩, by decide +kernel, by decide +kernel, by decide +kernel⟩
theorem lv_X9_isAsSeen : ap_LV yX9_isAsSeen := ⟨ap_tw (k := 1151) (by decide +kernel) (by decide +kernel), ap_tw (k := 43) (by decide +kernel) (by decide +kernel)⟩
theorem lk_X9_isCell : ap_LK yX9_isCell cX9_isCell 1 (some .boolean) 1 := ⟨⟨ap_tw (k := 1017) (by decide +kernel) (by decide +kernel), ap_tw (k := 63) (by decide +kernel) (by decide +kernel), by decide⟩, by decide +kernel, by decide +kernel, by decide +kernel⟩
theorem ls_X9_isCell : Cond.static yX9_isCell ∈ ap_TW := ap_tw (k := 1016) (by decide +kernel) (by decide +kernel)
theorem lk_X9_isKept : ap_LK yX9_isKept cX9_isKept 5 (some .boolean) 2 := ⟨⟨ap_tw (k := 1128) (by decide +kernel) (by decide +kernel), ap_tw (k := 63) (by decide +kernel) (by decide +kernel), by decide⟩, by decide +kernel, by decide +kernel, by decide +kernel⟩
theorem lv_X9_isKept : ap_LV yX9_isKept := ⟨ap_tw (k := 1127) (by decide +kernel) (by decide +kernel), ap_tw (k := 41) (by decide +kernel) (by decide +kernel)⟩
theorem lk_X9_isPerson : ap_LK yX9_isPerson cX9_isPerson 2 (some .boolean) 1 := ⟨⟨ap_tw (k := 1025) (by decide +kernel) (by decide +kernel), ap_tw (k := 63) (by decide +kernel) (by decide +kernel), by decide⟩, by decide +kernel, by decide +kernel, by decide +kernel⟩
theorem lv_X9_isPerson : ap_LV yX9_isPerson := ⟨ap_tw (k := 1024) (by decide +kernel) (by decide +kernel), ap_tw (k := 29) (by decide +kernel) (by decide +kernel)⟩
theorem lk_X9_isUnder : ap_LK yX9_isUnder cX9_isUnder 2 (some .boolean) 2 := ⟨⟨ap_tw (k := 1203) (by decide +kernel) (by decide +kernel), ap_tw (k := 63) (by decide +kernel) (by decide +kernel), by decide⟩, by decide +kernel, by decide +kernel, by decide +kernel⟩
theorem ls_X9_isUnder : Cond.static yX9_isUnder ∈ ap_TW := ap_tw (k := 1202) (by decide +kernel) (by decide +kernel)
theorem lk_X9_keeps : ap_LK yX9_keeps cX9_keeps 2 none 0 := ⟨⟨ap_tw (k := 1092) (by decide +kernel) (by decide +kernel), ap_tw (k := 63) (by decide +kernel) (by decide +kernel), by decide⟩, by decide +kernel, by decide +kernel, by decide +kernel⟩
theorem lv_X9_keeps : ap_LV yX9_keeps := ⟨ap_tw (k := 1091) (by decide +kernel) (by decide +kernel), ap_tw (k := 37) (by decide +kernel) (by decide +kernel)⟩
theorem lk_X9_looksActs : ap_LK yX9_looksActs cX9_looksActs 2 (some .int) 1 := ⟨⟨ap_tw (k := 1215) (by decide +kernel) (by decide +kernel), ap_tw (k := 63) (by decide +kernel) (by decide +kernel), by decide⟩, by decide +kernel, by decide +kernel, by decide +kernel⟩
theorem lv_X9_looksActs : ap_LV yX9_looksActs := ⟨ap_tw (k := 1214) (by decide +kernel) (by decide +kernel), ap_tw (k := 48) (by decide +kernel) (by decide +kernel)⟩
theorem lk_X9_lowest : ap_LK yX9_lowest cX9_lowest 11 (some .long) 3 := ⟨⟨ap_tw (k := 1168) (by decide +kernel) (by decide +kernel), ap_tw (k := 63) (by decide +kernel) (by decide +kernel), by decide⟩, by decide +kernel, by decide +kernel, by decide +kernel⟩
theorem ls_X9_lowest : Cond.static yX9_lowest ∈ ap_TW := ap_tw (k := 1167) (by decide +kernel) (by decide +kernel)
theorem lk_X9_lureOf : ap_LK yX9_lureOf cX9_lureOf 12 (some .int) 2 := ⟨⟨ap_tw (k := 1030) (by decide +kernel) (by decide +kernel), ap_tw (k := 63) (by decide +kernel) (by decide +kernel), by decide⟩, by decide +kernel, by decide +kernel, by decide +kernel⟩
theorem lv_X9_lureOf : ap_LV yX9_lureOf := ⟨ap_tw (k := 1029) (by decide +kernel) (by decide +kernel), ap_tw (k := 30) (by decide +kernel) (by decide +kernel)⟩
theorem lk_X9_manyLain : ap_LK yX9_manyLain cX9_manyLain 3 (some .int) 0 := ⟨⟨ap_tw (k := 1072) (by decide +kernel) (by decide +kernel), ap_tw (k := 63) (by decide +kernel) (by decide +kernel), by decide⟩, by decide +kernel, by decide +kernel, by decide +kernel⟩
theorem lv_X9_manyLain : ap_LV yX9_manyLain := ⟨ap_tw (k := 1071) (by decide +kernel) (by decide +kernel), ap_tw (k := 34) (by decide +kernel) (by decide +kernel)⟩
theorem lk_X9_much : ap_LK yX9_much cX9_much 4 none 2 := ⟨⟨ap_tw (k := 987) (by decide +kernel) (by decide +kernel), ap_tw (k := 63) (by decide +kernel) (by decide +kernel), by decide⟩, by decide +kernel, by decide +kernel, by decide +kernel⟩
theorem lv_X9_much : ap_LV yX9_much := ⟨ap_tw (k := 986) (by decide +kernel) (by decide +kernel), ap_tw (k := 23) (by decide +kernel) (by decide +kernel)⟩
theorem lk_X9_must : ap_LK yX9_must cX9_must 2 none 1 := ⟨⟨ap_tw (k := 978) (by decide +kernel) (by decide +kernel), ap_tw (k := 63) (by decide +kernel) (by decide +kernel), by decide⟩, by decide +kernel, by decide +kernel, by decide +kernel⟩
theorem lv_X9_must : ap_LV yX9_must := ⟨ap_tw (k := 977) (by decide +kernel) (by decide +kernel), ap_tw (k := 21) (by decide +kernel) (by decide +kernel)⟩
theorem lk_X9_plainLooks : ap_LK yX9_plainLooks cX9_plainLooks 2 (some .int) 1 := ⟨⟨ap_tw (k := 1219) (by decide +kernel) (by decide +kernel), ap_tw (k := 63) (by decide +kernel) (by decide +kernel), by decide⟩, by decide +kernel, by decide +kernel, by decide +kernel⟩
theorem lv_X9_plainLooks : ap_LV yX9_plainLooks := ⟨ap_tw (k := 1218) (by decide +kernel) (by decide +kernel), ap_tw (k := 49) (by decide +kernel) (by decide +kernel)⟩
theorem lk_X9_plainStands : ap_LK yX9_plainStands cX9_plainStands 2 (some .int) 1 := ⟨⟨ap_tw (k := 1211) (by decide +kernel) (by decide +kernel), ap_tw (k := 63) (by decide +kernel) (by decide +kernel), by decide⟩, by decide +kernel, by decide +kernel, by decide +kernel⟩
theorem lv_X9_plainStands : ap_LV yX9_plainStands := ⟨ap_tw (k := 1210) (by decide +kernel) (by decide +kernel), ap_tw (k := 47) (by decide +kernel) (by decide +kernel)⟩
theorem lk_X9_plainTelling : ap_LK yX9_plainTelling cX9_plainTelling 2 (some .int) 1 := ⟨⟨ap_tw (k := 1227) (by decide +kernel) (by decide +kernel), ap_tw (k := 63) (by decide +kernel) (by decide +kernel), by decide⟩, by decide +kernel, by decide +kernel, by decide +kernel⟩
theorem lv_X9_plainTelling : ap_LV yX9_plainTelling := ⟨ap_tw (k := 1226) (by decide +kernel) (by decide +kernel), ap_tw (k := 51) (by decide +kernel) (by decide +kernel)⟩
theorem lk_X9_ranBody : ap_LK yX9_ranBody cX9_ranBody 2 none 1 := ⟨⟨ap_tw (k := 1207) (by decide +kernel) (by decide +kernel), ap_tw (k := 63) (by decide +kernel) (by decide +kernel), by decide⟩, by decide +kernel, by decide +kernel, by decide +kernel⟩
theorem lv_X9_ranBody : ap_LV yX9_ranBody := ⟨ap_tw (k := 1206) (by decide +kernel) (by decide +kernel), ap_tw (k := 46) (by decide +kernel) (by decide +kernel)⟩
theorem lk_X9_size : ap_LK yX9_size cX9_size 1 (some .int) 1 := ⟨⟨ap_tw (k := 1036) (by decide +kernel) (by decide +kernel), ap_tw (k := 63) (by decide +kernel) (by decide +kernel), by decide⟩, by decide +kernel, by decide +kernel, by decide +kernel⟩
theorem ls_X9_size : Cond.static yX9_size ∈ ap_TW := ap_tw (k := 1035) (by decide +kernel) (by decide +kernel)
theorem lk_X9_some : ap_LK yX9_some cX9_some 1 none 0 := ⟨⟨ap_tw (k := 991) (by decide +kernel) (by decide +kernel), ap_tw (k := 63) (by decide +kernel) (by decide +kernel), by decide⟩, by decide +kernel, by decide +kernel, by decide +kernel⟩
theorem lv_X9_some : ap_LV yX9_some := ⟨ap_tw (k := 990) (by decide +kernel) (by decide +kernel), ap_tw (k := 24) (by decide +kernel) (by decide +kernel)⟩
theorem lk_X9_spells : ap_LK yX9_spells cX9_spells 3 none 1 := ⟨⟨ap_tw (k := 972) (by decide +kernel) (by decide +kernel), ap_tw (k := 63) (by decide +kernel) (by decide +kernel), by decide⟩, by decide +kernel, by decide +kernel, by decide +kernel⟩
theorem lv_X9_spells : ap_LV yX9_spells := ⟨ap_tw (k := 971) (by decide +kernel) (by decide +kernel), ap_tw (k := 20) (by decide +kernel) (by decide +kernel)⟩
theorem lk_X9_standsActs : ap_LK yX9_standsActs cX9_standsActs 2 (some .int) 1 := ⟨⟨ap_tw (k := 1200) (by decide +kernel) (by decide +kernel), ap_tw (k := 63) (by decide +kernel) (by decide +kernel), by decide⟩, by decide +kernel, by decide +kernel, by decide +kernel⟩
theorem lv_X9_standsActs : ap_LV yX9_standsActs := ⟨ap_tw (k := 1199) (by decide +kernel) (by decide +kernel), ap_tw (k := 45) (by decide +kernel) (by decide +kernel)⟩
theorem lk_X9_stepsTo : ap_LK yX9_stepsTo cX9_stepsTo 5 (some .int) 2 := ⟨⟨ap_tw (k := 1108) (by decide +kernel) (by decide +kernel), ap_tw (k := 63) (by decide +kernel) (by decide +kernel), by decide⟩, by decide +kernel, by decide +kernel, by decide +kernel⟩
theorem lv_X9_stepsTo : ap_LV yX9_stepsTo := ⟨ap_tw (k := 1107) (by decide +kernel) (by decide +kernel), ap_tw (k := 40) (by decide +kernel) (by decide +kernel)⟩
theorem lk_X9_tellsActs : ap_LK yX9_tellsActs cX9_tellsActs 3 (some .int) 1 := ⟨⟨ap_tw (k := 1223) (by decide +kernel) (by decide +kernel), ap_tw (k := 63) (by decide +kernel) (by decide +kernel), by decide⟩, by decide +kernel, by decide +kernel, by decide +kernel⟩
theorem lv_X9_tellsActs : ap_LV yX9_tellsActs := ⟨ap_tw (k := 1222) (by decide +kernel) (by decide +kernel), ap_tw (k := 50) (by decide +kernel) (by decide +kernel)⟩
theorem lk_X9_tellsHere : ap_LK yX9_tellsHere cX9_tellsHere 4 none 2 := ⟨⟨ap_tw (k := 968) (by decide +kernel) (by decide +kernel), ap_tw (k := 63) (by decide +kernel) (by decide +kernel), by decide⟩, by decide +kernel, by decide +kernel, by decide +kernel⟩
theorem lv_X9_tellsHere : ap_LV yX9_tellsHere := ⟨ap_tw (k := 967) (by decide +kernel) (by decide +kernel), ap_tw (k := 19) (by decide +kernel) (by decide +kernel)⟩
theorem lk_X9_tellsOf : ap_LK yX9_tellsOf cX9_tellsOf 3 (some .int) 2 := ⟨⟨ap_tw (k := 1040) (by decide +kernel) (by decide +kernel), ap_tw (k := 63) (by decide +kernel) (by decide +kernel), by decide⟩, by decide +kernel, by decide +kernel, by decide +kernel⟩
theorem lv_X9_tellsOf : ap_LV yX9_tellsOf := ⟨ap_tw (k := 1039) (by decide +kernel) (by decide +kernel), ap_tw (k := 31) (by decide +kernel) (by decide +kernel)⟩
theorem lk_X9_tugOf : ap_LK yX9_tugOf cX9_tugOf 6 (some .int) 2 := ⟨⟨ap_tw (k := 1044) (by decide +kernel) (by decide +kernel), ap_tw (k := 63) (by decide +kernel) (by decide +kernel), by decide⟩, by decide +kernel, by decide +kernel, by decide +kernel⟩
theorem lv_X9_tugOf : ap_LV yX9_tugOf := ⟨ap_tw (k := 1043) (by decide +kernel) (by decide +kernel), ap_tw (k := 32) (by decide +kernel) (by decide +kernel)⟩
theorem ty_0_1 {q : Nat} (h : ap_kd q = 0) : ap_kd (q + 1) = 20 := ap_ty (P := fun q => ap_kd (q + 1) = 20) (by decide +kernel) (by decide) h
theorem ty_1_1 {q : Nat} (h : ap_kd q = 1) : ap_kd (q + 1) = 20 := ap_ty (P := fun q => ap_kd (q + 1) = 20) (by decide +kernel) (by decide) h
theorem ty_2_1 {q : Nat} (h : ap_kd q = 2) : ap_kd (q + 1) = 3 := ap_ty (P := fun q => ap_kd (q + 1) = 3) (by decide +kernel) (by decide) h
theorem ty_2_2 {q : Nat} (h : ap_kd q = 2) : ap_kd (q + 2) = 20 := ap_ty (P := fun q => ap_kd (q + 2) = 20) (by decide +kernel) (by decide) h
theorem ty_2_3 {q : Nat} (h : ap_kd q = 2) : ap_kd (q + 3) = 20 := ap_ty (P := fun q => ap_kd (q + 3) = 20) (by decide +kernel) (by decide) h
theorem ty_2_4 {q : Nat} (h : ap_kd q = 2) : ap_kd (q + 4) = 20 := ap_ty (P := fun q => ap_kd (q + 4) = 20) (by decide +kernel) (by decide) h
theorem ty_2_5 {q : Nat} (h : ap_kd q = 2) : ap_kd (q + 5) = 20 := ap_ty (P := fun q => ap_kd (q + 5) = 20) (by decide +kernel) (by decide) h
theorem ty_2_6 {q : Nat} (h : ap_kd q = 2) : ap_kd (q + 6) = 1 := ap_ty (P := fun q => ap_kd (q + 6) = 1) (by decide +kernel) (by decide) h
theorem ty_2_7 {q : Nat} (h : ap_kd q = 2) : ap_kd (q + 7) = 20 := ap_ty (P := fun q => ap_kd (q + 7) = 20) (by decide +kernel) (by decide) h
theorem ty_2_8 {q : Nat} (h : ap_kd q = 2) : ap_kd (q + 8) = 1 := ap_ty (P := fun q => ap_kd (q + 8) = 1) (by decide +kernel) (by decide) h
theorem ty_2_10 {q : Nat} (h : ap_kd q = 2) : ap_kd (q + 10) = 7 := ap_ty (P := fun q => ap_kd (q + 10) = 7) (by decide +kernel) (by decide) h
theorem ty_2_16 {q : Nat} (h : ap_kd q = 2) : ap_kd (q + 16) = 20 := ap_ty (P := fun q => ap_kd (q + 16) = 20) (by decide +kernel) (by decide) h
theorem ty_2_17 {q : Nat} (h : ap_kd q = 2) : ap_kd (q + 17) = 20 := ap_ty (P := fun q => ap_kd (q + 17) = 20) (by decide +kernel) (by decide) h
theorem ty_2_18 {q : Nat} (h : ap_kd q = 2) : ap_kd (q + 18) = 20 := ap_ty (P := fun q => ap_kd (q + 18) = 20) (by decide +kernel) (by decide) h
theorem ty_2_19 {q : Nat} (h : ap_kd q = 2) : ap_kd (q + 19) = 20 := ap_ty (P := fun q => ap_kd (q + 19) = 20) (by decide +kernel) (by decide) h
theorem ty_3_1 {q : Nat} (h : ap_kd q = 3) : ap_kd (q + 1) = 20 := ap_ty (P := fun q => ap_kd (q + 1) = 20) (by decide +kernel) (by decide) h
theorem ty_3_2 {q : Nat} (h : ap_kd q = 3) : ap_kd (q + 2) = 20 := ap_ty (P := fun q => ap_kd (q + 2) = 20) (by decide +kernel) (by decide) h
theorem ty_3_3 {q : Nat} (h : ap_kd q = 3) : ap_kd (q + 3) = 20 := ap_ty (P := fun q => ap_kd (q + 3) = 20) (by decide +kernel) (by decide) h
theorem ty_3_4 {q : Nat} (h : ap_kd q = 3) : ap_kd (q + 4) = 20 := ap_ty (P := fun q => ap_kd (q + 4) = 20) (by decide +kernel) (by decide) h
theorem ty_4_1 {q : Nat} (h : ap_kd q = 4) : ap_kd (q + 1) = 7 := ap_ty (P := fun q => ap_kd (q + 1) = 7) (by decide +kernel) (by decide) h
theorem ty_4_9 {q : Nat} (h : ap_kd q = 4) : ap_kd (q + 9) = 5 := ap_ty (P := fun q => ap_kd (q + 9) = 5) (by decide +kernel) (by decide) h
theorem ty_4_10 {q : Nat} (h : ap_kd q = 4) : ap_kd (q + 10) = 20 := ap_ty (P := fun q => ap_kd (q + 10) = 20) (by decide +kernel) (by decide) h
theorem ty_4_12 {q : Nat} (h : ap_kd q = 4) : ap_kd (q + 12) = 20 := ap_ty (P := fun q => ap_kd (q + 12) = 20) (by decide +kernel) (by decide) h
theorem ty_5_1 {q : Nat} (h : ap_kd q = 5) : ap_kd (q + 1) = 20 := ap_ty (P := fun q => ap_kd (q + 1) = 20) (by decide +kernel) (by decide) h
theorem ty_5_2 {q : Nat} (h : ap_kd q = 5) : ap_kd (q + 2) = 20 := ap_ty (P := fun q => ap_kd (q + 2) = 20) (by decide +kernel) (by decide) h
theorem ty_6_1 {q : Nat} (h : ap_kd q = 6) : ap_kd (q + 1) = 5 := ap_ty (P := fun q => ap_kd (q + 1) = 5) (by decide +kernel) (by decide) h
theorem ty_6_4 {q : Nat} (h : ap_kd q = 6) : ap_kd (q + 4) = 7 := ap_ty (P := fun q => ap_kd (q + 4) = 7) (by decide +kernel) (by decide) h
theorem ty_6_12 {q : Nat} (h : ap_kd q = 6) : ap_kd (q + 12) = 3 := ap_ty (P := fun q => ap_kd (q + 12) = 3) (by decide +kernel) (by decide) h
theorem ty_6_17 {q : Nat} (h : ap_kd q = 6) : ap_kd (q + 17) = 1 := ap_ty (P := fun q => ap_kd (q + 17) = 1) (by decide +kernel) (by decide) h
theorem ty_6_19 {q : Nat} (h : ap_kd q = 6) : ap_kd (q + 19) = 5 := ap_ty (P := fun q => ap_kd (q + 19) = 5) (by decide +kernel) (by decide) h
theorem ty_6_22 {q : Nat} (h : ap_kd q = 6) : ap_kd (q + 22) = 5 := ap_ty (P := fun q => ap_kd (q + 22) = 5) (by decide +kernel) (by decide) h
theorem ty_6_25 {q : Nat} (h : ap_kd q = 6) : ap_kd (q + 25) = 5 := ap_ty (P := fun q => ap_kd (q + 25) = 5) (by decide +kernel) (by decide) h
theorem ty_6_28 {q : Nat} (h : ap_kd q = 6) : ap_kd (q + 28) = 5 := ap_ty (P := fun q => ap_kd (q + 28) = 5) (by decide +kernel) (by decide) h
theorem ty_7_1 {q : Nat} (h : ap_kd q = 7) : ap_kd (q + 1) = 20 := ap_ty (P := fun q => ap_kd (q + 1) = 20) (by decide +kernel) (by decide) h
theorem ty_7_2 {q : Nat} (h : ap_kd q = 7) : ap_kd (q + 2) = 20 := ap_ty (P := fun q => ap_kd (q + 2) = 20) (by decide +kernel) (by decide) h
theorem ty_7_3 {q : Nat} (h : ap_kd q = 7) : ap_kd (q + 3) = 20 := ap_ty (P := fun q => ap_kd (q + 3) = 20) (by decide +kernel) (by decide) h
theorem ty_7_4 {q : Nat} (h : ap_kd q = 7) : ap_kd (q + 4) = 20 := ap_ty (P := fun q => ap_kd (q + 4) = 20) (by decide +kernel) (by decide) h
theorem ty_7_5 {q : Nat} (h : ap_kd q = 7) : ap_kd (q + 5) = 20 := ap_ty (P := fun q => ap_kd (q + 5) = 20) (by decide +kernel) (by decide) h
theorem ty_7_6 {q : Nat} (h : ap_kd q = 7) : ap_kd (q + 6) = 20 := ap_ty (P := fun q => ap_kd (q + 6) = 20) (by decide +kernel) (by decide) h
theorem ty_7_7 {q : Nat} (h : ap_kd q = 7) : ap_kd (q + 7) = 20 := ap_ty (P := fun q => ap_kd (q + 7) = 20) (by decide +kernel) (by decide) h
theorem ty_8_1 {q : Nat} (h : ap_kd q = 8) : ap_kd (q + 1) = 6 := ap_ty (P := fun q => ap_kd (q + 1) = 6) (by decide +kernel) (by decide) h
theorem ty_8_2 {q : Nat} (h : ap_kd q = 8) : ap_kd (q + 2) = 5 := ap_ty (P := fun q => ap_kd (q + 2) = 5) (by decide +kernel) (by decide) h
theorem ty_8_5 {q : Nat} (h : ap_kd q = 8) : ap_kd (q + 5) = 7 := ap_ty (P := fun q => ap_kd (q + 5) = 7) (by decide +kernel) (by decide) h
theorem ty_8_13 {q : Nat} (h : ap_kd q = 8) : ap_kd (q + 13) = 3 := ap_ty (P := fun q => ap_kd (q + 13) = 3) (by decide +kernel) (by decide) h
theorem ty_8_14 {q : Nat} (h : ap_kd q = 8) : ap_kd (q + 14) = 20 := ap_ty (P := fun q => ap_kd (q + 14) = 20) (by decide +kernel) (by decide) h
theorem ty_8_15 {q : Nat} (h : ap_kd q = 8) : ap_kd (q + 15) = 20 := ap_ty (P := fun q => ap_kd (q + 15) = 20) (by decide +kernel) (by decide) h
theorem ty_8_16 {q : Nat} (h : ap_kd q = 8) : ap_kd (q + 16) = 20 := ap_ty (P := fun q => ap_kd (q + 16) = 20) (by decide +kernel) (by decide) h
theorem ty_8_17 {q : Nat} (h : ap_kd q = 8) : ap_kd (q + 17) = 20 := ap_ty (P := fun q => ap_kd (q + 17) = 20) (by decide +kernel) (by decide) h
theorem ty_8_18 {q : Nat} (h : ap_kd q = 8) : ap_kd (q + 18) = 1 := ap_ty (P := fun q => ap_kd (q + 18) = 1) (by decide +kernel) (by decide) h
theorem ty_8_19 {q : Nat} (h : ap_kd q = 8) : ap_kd (q + 19) = 20 := ap_ty (P := fun q => ap_kd (q + 19) = 20) (by decide +kernel) (by decide) h
theorem ty_8_20 {q : Nat} (h : ap_kd q = 8) : ap_kd (q + 20) = 5 := ap_ty (P := fun q => ap_kd (q + 20) = 5) (by decide +kernel) (by decide) h
theorem ty_8_21 {q : Nat} (h : ap_kd q = 8) : ap_kd (q + 21) = 20 := ap_ty (P := fun q => ap_kd (q + 21) = 20) (by decide +kernel) (by decide) h
theorem ty_8_23 {q : Nat} (h : ap_kd q = 8) : ap_kd (q + 23) = 5 := ap_ty (P := fun q => ap_kd (q + 23) = 5) (by decide +kernel) (by decide) h
theorem ty_8_26 {q : Nat} (h : ap_kd q = 8) : ap_kd (q + 26) = 5 := ap_ty (P := fun q => ap_kd (q + 26) = 5) (by decide +kernel) (by decide) h
theorem ty_8_27 {q : Nat} (h : ap_kd q = 8) : ap_kd (q + 27) = 20 := ap_ty (P := fun q => ap_kd (q + 27) = 20) (by decide +kernel) (by decide) h
theorem ty_8_28 {q : Nat} (h : ap_kd q = 8) : ap_kd (q + 28) = 20 := ap_ty (P := fun q => ap_kd (q + 28) = 20) (by decide +kernel) (by decide) h
theorem ty_8_29 {q : Nat} (h : ap_kd q = 8) : ap_kd (q + 29) = 5 := ap_ty (P := fun q => ap_kd (q + 29) = 5) (by decide +kernel) (by decide) h
theorem ty_8_30 {q : Nat} (h : ap_kd q = 8) : ap_kd (q + 30) = 20 := ap_ty (P := fun q => ap_kd (q + 30) = 20) (by decide +kernel) (by decide) h
theorem ty_8_31 {q : Nat} (h : ap_kd q = 8) : ap_kd (q + 31) = 20 := ap_ty (P := fun q => ap_kd (q + 31) = 20) (by decide +kernel) (by decide) h
theorem ty_8_32 {q : Nat} (h : ap_kd q = 8) : ap_kd (q + 32) = 6 := ap_ty (P := fun q => ap_kd (q + 32) = 6) (by decide +kernel) (by decide) h
theorem ty_8_63 {q : Nat} (h : ap_kd q = 8) : ap_kd (q + 63) = 4 := ap_ty (P := fun q => ap_kd (q + 63) = 4) (by decide +kernel) (by decide) h
theorem ty_8_64 {q : Nat} (h : ap_kd q = 8) : ap_kd (q + 64) = 7 := ap_ty (P := fun q => ap_kd (q + 64) = 7) (by decide +kernel) (by decide) h
theorem ty_8_76 {q : Nat} (h : ap_kd q = 8) : ap_kd (q + 76) = 2 := ap_ty (P := fun q => ap_kd (q + 76) = 2) (by decide +kernel) (by decide) h
theorem ty_8_77 {q : Nat} (h : ap_kd q = 8) : ap_kd (q + 77) = 3 := ap_ty (P := fun q => ap_kd (q + 77) = 3) (by decide +kernel) (by decide) h
theorem ty_8_82 {q : Nat} (h : ap_kd q = 8) : ap_kd (q + 82) = 1 := ap_ty (P := fun q => ap_kd (q + 82) = 1) (by decide +kernel) (by decide) h
theorem ty_8_83 {q : Nat} (h : ap_kd q = 8) : ap_kd (q + 83) = 20 := ap_ty (P := fun q => ap_kd (q + 83) = 20) (by decide +kernel) (by decide) h
theorem ty_8_96 {q : Nat} (h : ap_kd q = 8) : ap_kd (q + 96) = 0 := ap_ty (P := fun q => ap_kd (q + 96) = 0) (by decide +kernel) (by decide) h
theorem ty_8_97 {q : Nat} (h : ap_kd q = 8) : ap_kd (q + 97) = 20 := ap_ty (P := fun q => ap_kd (q + 97) = 20) (by decide +kernel) (by decide) h
theorem ty_9_1 {q : Nat} (h : ap_kd q = 9) : ap_kd (q + 1) = 20 := ap_ty (P := fun q => ap_kd (q + 1) = 20) (by decide +kernel) (by decide) h
theorem ty_9_2 {q : Nat} (h : ap_kd q = 9) : ap_kd (q + 2) = 20 := ap_ty (P := fun q => ap_kd (q + 2) = 20) (by decide +kernel) (by decide) h
theorem ty_9_3 {q : Nat} (h : ap_kd q = 9) : ap_kd (q + 3) = 20 := ap_ty (P := fun q => ap_kd (q + 3) = 20) (by decide +kernel) (by decide) h
theorem ty_9_4 {q : Nat} (h : ap_kd q = 9) : ap_kd (q + 4) = 20 := ap_ty (P := fun q => ap_kd (q + 4) = 20) (by decide +kernel) (by decide) h
theorem ty_9_5 {q : Nat} (h : ap_kd q = 9) : ap_kd (q + 5) = 21 := ap_ty (P := fun q => ap_kd (q + 5) = 21) (by decide +kernel) (by decide) h
theorem ty_9_6 {q : Nat} (h : ap_kd q = 9) : ap_kd (q + 6) = 20 := ap_ty (P := fun q => ap_kd (q + 6) = 20) (by decide +kernel) (by decide) h
theorem tn_0_1 {q : Nat} (h : ap_kd q = 0) : ap_ln (q + 1) = 20 := ap_ty (P := fun q => ap_ln (q + 1) = 20) (by decide +kernel) (by decide) h
theorem tn_1_1 {q : Nat} (h : ap_kd q = 1) : ap_ln (q + 1) = 16 := ap_ty (P := fun q => ap_ln (q + 1) = 16) (by decide +kernel) (by decide) h
theorem tn_2_2 {q : Nat} (h : ap_kd q = 2) : ap_ln (q + 2) = 6 := ap_ty (P := fun q => ap_ln (q + 2) = 6) (by decide +kernel) (by decide) h
theorem tn_2_3 {q : Nat} (h : ap_kd q = 2) : ap_ln (q + 3) = 6 := ap_ty (P := fun q => ap_ln (q + 3) = 6) (by decide +kernel) (by decide) h
theorem tn_2_4 {q : Nat} (h : ap_kd q = 2) : ap_ln (q + 4) = 6 := ap_ty (P := fun q => ap_ln (q + 4) = 6) (by decide +kernel) (by decide) h
theorem tn_2_5 {q : Nat} (h : ap_kd q = 2) : ap_ln (q + 5) = 24 := ap_ty (P := fun q => ap_ln (q + 5) = 24) (by decide +kernel) (by decide) h
theorem tn_2_7 {q : Nat} (h : ap_kd q = 2) : ap_ln (q + 7) = 16 := ap_ty (P := fun q => ap_ln (q + 7) = 16) (by decide +kernel) (by decide) h
theorem tn_2_16 {q : Nat} (h : ap_kd q = 2) : ap_ln (q + 16) = 16 := ap_ty (P := fun q => ap_ln (q + 16) = 16) (by decide +kernel) (by decide) h
theorem tn_2_17 {q : Nat} (h : ap_kd q = 2) : ap_ln (q + 17) = 16 := ap_ty (P := fun q => ap_ln (q + 17) = 16) (by decide +kernel) (by decide) h
theorem tn_2_18 {q : Nat} (h : ap_kd q = 2) : ap_ln (q + 18) = 960 := ap_ty (P := fun q => ap_ln (q + 18) = 960) (by decide +kernel) (by decide) h
theorem tn_2_19 {q : Nat} (h : ap_kd q = 2) : ap_ln (q + 19) = 6 := ap_ty (P := fun q => ap_ln (q + 19) = 6) (by decide +kernel) (by decide) h
theorem tn_3_1 {q : Nat} (h : ap_kd q = 3) : ap_ln (q + 1) = 6 := ap_ty (P := fun q => ap_ln (q + 1) = 6) (by decide +kernel) (by decide) h
theorem tn_3_2 {q : Nat} (h : ap_kd q = 3) : ap_ln (q + 2) = 6 := ap_ty (P := fun q => ap_ln (q + 2) = 6) (by decide +kernel) (by decide) h
theorem tn_3_3 {q : Nat} (h : ap_kd q = 3) : ap_ln (q + 3) = 6 := ap_ty (P := fun q => ap_ln (q + 3) = 6) (by decide +kernel) (by decide) h
theorem tn_3_4 {q : Nat} (h : ap_kd q = 3) : ap_ln (q + 4) = 24 := ap_ty (P := fun q => ap_ln (q + 4) = 24) (by decide +kernel) (by decide) h
theorem tn_4_10 {q : Nat} (h : ap_kd q = 4) : ap_ln (q + 10) = 100 := ap_ty (P := fun q => ap_ln (q + 10) = 100) (by decide +kernel) (by decide) h
theorem tn_4_12 {q : Nat} (h : ap_kd q = 4) : ap_ln (q + 12) = 17 := ap_ty (P := fun q => ap_ln (q + 12) = 17) (by decide +kernel) (by decide) h
theorem tn_7_1 {q : Nat} (h : ap_kd q = 7) : ap_ln (q + 1) = 10 := ap_ty (P := fun q => ap_ln (q + 1) = 10) (by decide +kernel) (by decide) h
theorem tn_7_2 {q : Nat} (h : ap_kd q = 7) : ap_ln (q + 2) = 10 := ap_ty (P := fun q => ap_ln (q + 2) = 10) (by decide +kernel) (by decide) h
theorem tn_7_3 {q : Nat} (h : ap_kd q = 7) : ap_ln (q + 3) = 10 := ap_ty (P := fun q => ap_ln (q + 3) = 10) (by decide +kernel) (by decide) h
theorem tn_7_4 {q : Nat} (h : ap_kd q = 7) : ap_ln (q + 4) = 100 := ap_ty (P := fun q => ap_ln (q + 4) = 100) (by decide +kernel) (by decide) h
theorem tn_7_5 {q : Nat} (h : ap_kd q = 7) : ap_ln (q + 5) = 13 := ap_ty (P := fun q => ap_ln (q + 5) = 13) (by decide +kernel) (by decide) h
theorem tn_7_6 {q : Nat} (h : ap_kd q = 7) : ap_ln (q + 6) = 16 := ap_ty (P := fun q => ap_ln (q + 6) = 16) (by decide +kernel) (by decide) h
theorem tn_7_7 {q : Nat} (h : ap_kd q = 7) : ap_ln (q + 7) = 16 := ap_ty (P := fun q => ap_ln (q + 7) = 16) (by decide +kernel) (by decide) h
theorem tn_8_14 {q : Nat} (h : ap_kd q = 8) : ap_ln (q + 14) = 6 := ap_ty (P := fun q => ap_ln (q + 14) = 6) (by decide +kernel) (by decide) h
theorem tn_8_15 {q : Nat} (h : ap_kd q = 8) : ap_ln (q + 15) = 6 := ap_ty (P := fun q => ap_ln (q + 15) = 6) (by decide +kernel) (by decide) h
theorem tn_8_16 {q : Nat} (h : ap_kd q = 8) : ap_ln (q + 16) = 6 := ap_ty (P := fun q => ap_ln (q + 16) = 6) (by decide +kernel) (by decide) h
theorem tn_8_17 {q : Nat} (h : ap_kd q = 8) : ap_ln (q + 17) = 24 := ap_ty (P := fun q => ap_ln (q + 17) = 24) (by decide +kernel) (by decide) h
theorem tn_8_19 {q : Nat} (h : ap_kd q = 8) : ap_ln (q + 19) = 16 := ap_ty (P := fun q => ap_ln (q + 19) = 16) (by decide +kernel) (by decide) h
theorem tn_8_21 {q : Nat} (h : ap_kd q = 8) : ap_ln (q + 21) = 10 := ap_ty (P := fun q => ap_ln (q + 21) = 10) (by decide +kernel) (by decide) h
theorem tn_8_27 {q : Nat} (h : ap_kd q = 8) : ap_ln (q + 27) = 8 := ap_ty (P := fun q => ap_ln (q + 27) = 8) (by decide +kernel) (by decide) h
theorem tn_8_28 {q : Nat} (h : ap_kd q = 8) : ap_ln (q + 28) = 8 := ap_ty (P := fun q => ap_ln (q + 28) = 8) (by decide +kernel) (by decide) h
theorem tn_8_30 {q : Nat} (h : ap_kd q = 8) : ap_ln (q + 30) = 8 := ap_ty (P := fun q => ap_ln (q + 30) = 8) (by decide +kernel) (by decide) h
theorem tn_8_31 {q : Nat} (h : ap_kd q = 8) : ap_ln (q + 31) = 8 := ap_ty (P := fun q => ap_ln (q + 31) = 8) (by decide +kernel) (by decide) h
theorem tn_8_83 {q : Nat} (h : ap_kd q = 8) : ap_ln (q + 83) = 16 := ap_ty (P := fun q => ap_ln (q + 83) = 16) (by decide +kernel) (by decide) h
theorem tn_8_97 {q : Nat} (h : ap_kd q = 8) : ap_ln (q + 97) = 20 := ap_ty (P := fun q => ap_ln (q + 97) = 20) (by decide +kernel) (by decide) h
theorem tn_9_1 {q : Nat} (h : ap_kd q = 9) : ap_ln (q + 1) = 936 := ap_ty (P := fun q => ap_ln (q + 1) = 936) (by decide +kernel) (by decide) h
theorem tn_9_2 {q : Nat} (h : ap_kd q = 9) : ap_ln (q + 2) = 936 := ap_ty (P := fun q => ap_ln (q + 2) = 936) (by decide +kernel) (by decide) h
theorem tn_9_3 {q : Nat} (h : ap_kd q = 9) : ap_ln (q + 3) = 30 := ap_ty (P := fun q => ap_ln (q + 3) = 30) (by decide +kernel) (by decide) h
theorem tn_9_4 {q : Nat} (h : ap_kd q = 9) : ap_ln (q + 4) = 6 := ap_ty (P := fun q => ap_ln (q + 4) = 6) (by decide +kernel) (by decide) h
theorem tn_9_5 {q : Nat} (h : ap_kd q = 9) : ap_ln (q + 5) = 64 := ap_ty (P := fun q => ap_ln (q + 5) = 64) (by decide +kernel) (by decide) h
theorem tn_9_6 {q : Nat} (h : ap_kd q = 9) : ap_ln (q + 6) = 20 := ap_ty (P := fun q => ap_ln (q + 6) = 20) (by decide +kernel) (by decide) h
