/-! numbers of the pure part: an int that is a natural number -/
theorem l_0 : (0 : Int32) = nI 0 := rfl
theorem l_1 : (1 : Int32) = nI 1 := rfl
theorem l_2 : (2 : Int32) = nI 2 := rfl
theorem l_3 : (3 : Int32) = nI 3 := rfl
theorem l_4 : (4 : Int32) = nI 4 := rfl
theorem l_5 : (5 : Int32) = nI 5 := rfl
theorem l_6 : (6 : Int32) = nI 6 := rfl
theorem l_7 : (7 : Int32) = nI 7 := rfl
theorem l_8 : (8 : Int32) = nI 8 := rfl
theorem l_9 : (9 : Int32) = nI 9 := rfl
theorem l_10 : (10 : Int32) = nI 10 := rfl
theorem l_11 : (11 : Int32) = nI 11 := rfl
theorem l_12 : (12 : Int32) = nI 12 := rfl
theorem l_13 : (13 : Int32) = nI 13 := rfl
theorem l_14 : (14 : Int32) = nI 14 := rfl
theorem l_15 : (15 : Int32) = nI 15 := rfl
theorem l_16 : (16 : Int32) = nI 16 := rfl
theorem l_17 : (17 : Int32) = nI 17 := rfl
theorem l_18 : (18 : Int32) = nI 18 := rfl
theorem l_19 : (19 : Int32) = nI 19 := rfl
theorem l_20 : (20 : Int32) = nI 20 := rfl
theorem l_21 : (21 : Int32) = nI 21 := rfl
theorem l_22 : (22 : Int32) = nI 22 := rfl
theorem l_23 : (23 : Int32) = nI 23 := rfl
theorem l_24 : (24 : Int32) = nI 24 := rfl
theorem l_25 : (25 : Int32) = nI 25 := rfl
theorem l_26 : (26 : Int32) = nI 26 := rfl
theorem l_27 : (27 : Int32) = nI 27 := rfl
theorem l_28 : (28 : Int32) = nI 28 := rfl
theorem l_29 : (29 : Int32) = nI 29 := rfl
theorem l_30 : (30 : Int32) = nI 30 := rfl
theorem l_31 : (31 : Int32) = nI 31 := rfl
theorem l_32 : (32 : Int32) = nI 32 := rfl
theorem l_33 : (33 : Int32) = nI 33 := rfl
theorem l_34 : (34 : Int32) = nI 34 := rfl
theorem l_35 : (35 : Int32) = nI 35 := rfl
theorem l_36 : (36 : Int32) = nI 36 := rfl
theorem l_37 : (37 : Int32) = nI 37 := rfl
theorem l_38 : (38 : Int32) = nI 38 := rfl
theorem l_39 : (39 : Int32) = nI 39 := rfl
theorem l_40 : (40 : Int32) = nI 40 := rfl
theorem l_41 : (41 : Int32) = nI 41 := rfl
theorem l_42 : (42 : Int32) = nI 42 := rfl
theorem l_43 : (43 : Int32) = nI 43 := rfl
theorem l_44 : (44 : Int32) = nI 44 := rfl
theorem l_45 : (45 : Int32) = nI 45 := rfl
theorem l_46 : (46 : Int32) = nI 46 := rfl
theorem l_47 : (47 : Int32) = nI 47 := rfl
theorem l_48 : (48 : Int32) = nI 48 := rfl
theorem l_49 : (49 : Int32) = nI 49 := rfl
theorem l_50 : (50 : Int32) = nI 50 := rfl
theorem l_51 : (51 : Int32) = nI 51 := rfl
theorem l_52 : (52 : Int32) = nI 52 := rfl
theorem l_53 : (53 : Int32) = nI 53 := rfl
theorem l_54 : (54 : Int32) = nI 54 := rfl
theorem l_55 : (55 : Int32) = nI 55 := rfl
theorem l_56 : (56 : Int32) = nI 56 := rfl
theorem l_57 : (57 : Int32) = nI 57 := rfl
theorem l_58 : (58 : Int32) = nI 58 := rfl
theorem l_59 : (59 : Int32) = nI 59 := rfl
theorem l_60 : (60 : Int32) = nI 60 := rfl
theorem l_61 : (61 : Int32) = nI 61 := rfl
theorem l_62 : (62 : Int32) = nI 62 := rfl
theorem l_63 : (63 : Int32) = nI 63 := rfl
theorem l_64 : (64 : Int32) = nI 64 := rfl
theorem l_65 : (65 : Int32) = nI 65 := rfl
theorem l_66 : (66 : Int32) = nI 66 := rfl
theorem l_67 : (67 : Int32) = nI 67 := rfl
theorem l_68 : (68 : Int32) = nI 68 := rfl
theorem l_69 : (69 : Int32) = nI 69 := rfl
theorem l_70 : (70 : Int32) = nI 70 := rfl
theorem l_71 : (71 : Int32) = nI 71 := rfl
theorem l_72 : (72 : Int32) = nI 72 := rfl
theorem l_73 : (73 : Int32) = nI 73 := rfl
theorem l_74 : (74 : Int32) = nI 74 := rfl
theorem l_75 : (75 : Int32) = nI 75 := rfl
theorem l_76 : (76 : Int32) = nI 76 := rfl
theorem l_77 : (77 : Int32) = nI 77 := rfl
theorem l_78 : (78 : Int32) = nI 78 := rfl
theorem l_79 : (79 : Int32) = nI 79 := rfl
theorem l_80 : (80 : Int32) = nI 80 := rfl
theorem l_81 : (81 : Int32) = nI 81 := rfl
theorem l_82 : (82 : Int32) = nI 82 := rfl
theorem l_83 : (83 : Int32) = nI 83 := rfl
theorem l_84 : (84 : Int32) = nI 84 := rfl
theorem l_85 : (85 : Int32) = nI 85 := rfl
theorem l_86 : (86 : Int32) = nI 86 := rfl
theorem l_87 : (87 : Int32) = nI 87 := rfl
theorem l_88 : (88 : Int32) = nI 88 := rfl
theorem l_89 : (89 : Int32) = nI 89 := rfl
theorem l_90 : (90 : Int32) = nI 90 := rfl
theorem l_91 : (91 : Int32) = nI 91 := rfl
theorem l_92 : (92 : Int32) = nI 92 := rfl
theorem l_93 : (93 : Int32) = nI 93 := rfl
theorem l_94 : (94 : Int32) = nI 94 := rfl
theorem l_95 : (95 : Int32) = nI 95 := rfl
theorem l_96 : (96 : Int32) = nI 96 := rfl
theorem l_97 : (97 : Int32) = nI 97 := rfl
theorem l_98 : (98 : Int32) = nI 98 := rfl
theorem l_99 : (99 : Int32) = nI 99 := rfl
theorem l_100 : (100 : Int32) = nI 100 := rfl
theorem l_101 : (101 : Int32) = nI 101 := rfl
theorem l_102 : (102 : Int32) = nI 102 := rfl
theorem l_103 : (103 : Int32) = nI 103 := rfl
theorem l_104 : (104 : Int32) = nI 104 := rfl
theorem l_105 : (105 : Int32) = nI 105 := rfl
theorem l_106 : (106 : Int32) = nI 106 := rfl
theorem l_107 : (107 : Int32) = nI 107 := rfl
theorem l_108 : (108 : Int32) = nI 108 := rfl
theorem l_109 : (109 : Int32) = nI 109 := rfl
theorem l_110 : (110 : Int32) = nI 110 := rfl
theorem l_111 : (111 : Int32) = nI 111 := rfl
theorem l_112 : (112 : Int32) = nI 112 := rfl
theorem l_113 : (113 : Int32) = nI 113 := rfl
theorem l_114 : (114 : Int32) = nI 114 := rfl
theorem l_115 : (115 : Int32) = nI 115 := rfl
theorem l_116 : (116 : Int32) = nI 116 := rfl
theorem l_117 : (117 : Int32) = nI 117 := rfl
theorem l_118 : (118 : Int32) = nI 118 := rfl
theorem l_119 : (119 : Int32) = nI 119 := rfl
theorem l_120 : (120 : Int32) = nI 120 := rfl
theorem l_121 : (121 : Int32) = nI 121 := rfl
theorem l_122 : (122 : Int32) = nI 122 := rfl
theorem l_123 : (123 : Int32) = nI 123 := rfl
theorem l_124 : (124 : Int32) = nI 124 := rfl
theorem l_125 : (125 : Int32) = nI 125 := rfl
theorem l_126 : (126 : Int32) = nI 126 := rfl
theorem l_127 : (127 : Int32) = nI 127 := rfl
theorem l_200 : (200 : Int32) = nI 200 := rfl
theorem l_226 : (226 : Int32) = nI 226 := rfl
theorem l_231 : (231 : Int32) = nI 231 := rfl
theorem l_236 : (236 : Int32) = nI 236 := rfl
theorem l_140 : (140 : Int32) = nI 140 := rfl
theorem l_936 : (936 : Int32) = nI 936 := rfl
theorem l_9999 : (9999 : Int32) = nI 9999 := rfl
theorem l_1000000 : (1000000 : Int32) = nI 1000000 := rfl
theorem n_vp {n N : Nat} (h : n < 2147483648) : vp_in (nI n) N ↔ n < N := by
  rw [vp_in_iff, nI_toInt h]
  omega
theorem n_lt {a b : Nat} (ha : a < 2147483648) (hb : b < 2147483648) : nI a < nI b ↔ a < b := nI_ltI ha hb
theorem n_le {a b : Nat} (ha : a < 2147483648) (hb : b < 2147483648) : nI a ≤ nI b ↔ a ≤ b := nI_leI ha hb
theorem n_eq {a b : Nat} (ha : a < 2147483648) (hb : b < 2147483648) : nI a = nI b ↔ a = b := nI_eq ha hb
theorem n_cl {n : Nat} (h : n < 2147483648) : (nI n).toNatClampNeg = n := nI_clamp h
theorem n_sub {a b : Nat} (h : b ≤ a) : nI a - nI b = nI (a - b) := pk_sub h
theorem n_div {a b : Nat} (ha : a < 2147483648) (h0 : 0 < b) (hb : b < 2147483648) : nI a / nI b = nI (a / b) := pk_div ha h0 hb
theorem n_rem {a b : Nat} (ha : a < 2147483648) (h0 : 0 < b) (hb : b < 2147483648) : nI a - nI a / nI b * nI b = nI (a % b) := pk_rem ha h0 hb
theorem n_m1 {a : Nat} (ha : a < 2147483648) : ¬ nI a = -1 := by
  intro h
  have h1 := congrArg Int32.toInt h
  rw [nI_toInt ha] at h1
  have h2 : (-1 : Int32).toInt = -1 := by decide
  omega
theorem n_m1' {a : Nat} (ha : a < 2147483648) : ¬ (-1 : Int32) = nI a := fun h => n_m1 ha h.symm
theorem n_neg {a : Nat} (ha : a < 2147483648) : ¬ nI a < nI 0 := by
  rw [n_lt ha (by decide)]
  omega
theorem n_nonneg {a : Nat} (ha : a < 2147483648) : nI 0 ≤ nI a := by
  rw [n_le (by decide) ha]
  omega
theorem n_one {a : Nat} : nI a + nI 1 = nI (a + 1) := nI_add a 1
theorem n_ix (x : Int32) {n : Nat} (hn : n < 2147483648) : (x < nI 0 ∨ (nI 0 ≤ x ∧ nI n ≤ x)) ∨ ∃ j : Nat, j < n ∧ x = nI j := by
  rcases pk_ix x hn with h | h | h
  · exact Or.inl (Or.inl h)
  · rcases Int32.lt_or_le x 0 with h2 | h2
    · exact Or.inl (Or.inl h2)
    · exact Or.inl (Or.inr ⟨h2, h⟩)
  · exact Or.inr h
/-! the memory read back -/
theorem mu_at (M : ap_Mem) (q i : Nat) (v : Int32) (a j : Nat) : ap_mu M q i v a j = if a = q ∧ j = i then v else M a j := by
  unfold ap_mu
  by_cases h : a = q
  · subst h
    simp [upd]
  · simp [h]
theorem mu_row (M : ap_Mem) (q i : Nat) (v : Int32) (a : Nat) : ap_mu M q i v a = if a = q then upd (M q) i v else M a := rfl
theorem upd_at (f : Nat → Int32) (i : Nat) (v : Int32) (j : Nat) : upd f i v j = if j = i then v else f j := rfl
theorem mc_at (M : ap_Mem) (a0 a1 n a j : Nat) : ap_mc M a0 a1 0 0 n a j = if a = a1 ∧ j < n then M a0 j else M a j := by
  unfold ap_mc va_cpy
  by_cases h : a = a1
  · subst h
    by_cases h2 : j < n
    · simp [h2]
    · simp [h2]
  · simp [h]
theorem k_0 : (0 : Int32).toNatClampNeg = 0 := by decide
theorem k_1 : (1 : Int32).toNatClampNeg = 1 := by decide
theorem k_2 : (2 : Int32).toNatClampNeg = 2 := by decide
theorem k_3 : (3 : Int32).toNatClampNeg = 3 := by decide
theorem k_4 : (4 : Int32).toNatClampNeg = 4 := by decide
theorem k_5 : (5 : Int32).toNatClampNeg = 5 := by decide
theorem k_6 : (6 : Int32).toNatClampNeg = 6 := by decide
theorem k_7 : (7 : Int32).toNatClampNeg = 7 := by decide
theorem k_8 : (8 : Int32).toNatClampNeg = 8 := by decide
theorem k_9 : (9 : Int32).toNatClampNeg = 9 := by decide
theorem k_10 : (10 : Int32).toNatClampNeg = 10 := by decide
theorem k_11 : (11 : Int32).toNatClampNeg = 11 := by decide
theorem k_12 : (12 : Int32).toNatClampNeg = 12 := by decide
theorem k_13 : (13 : Int32).toNatClampNeg = 13 := by decide
theorem k_14 : (14 : Int32).toNatClampNeg = 14 := by decide
theorem k_15 : (15 : Int32).toNatClampNeg = 15 := by decide
theorem k_16 : (16 : Int32).toNatClampNeg = 16 := by decide
theorem k_17 : (17 : Int32).toNatClampNeg = 17 := by decide
theorem k_18 : (18 : Int32).toNatClampNeg = 18 := by decide
theorem k_19 : (19 : Int32).toNatClampNeg = 19 := by decide
theorem k_20 : (20 : Int32).toNatClampNeg = 20 := by decide
theorem k_21 : (21 : Int32).toNatClampNeg = 21 := by decide
theorem k_22 : (22 : Int32).toNatClampNeg = 22 := by decide
theorem k_23 : (23 : Int32).toNatClampNeg = 23 := by decide
theorem k_24 : (24 : Int32).toNatClampNeg = 24 := by decide
theorem k_25 : (25 : Int32).toNatClampNeg = 25 := by decide
theorem k_26 : (26 : Int32).toNatClampNeg = 26 := by decide
theorem k_27 : (27 : Int32).toNatClampNeg = 27 := by decide
theorem k_28 : (28 : Int32).toNatClampNeg = 28 := by decide
theorem k_29 : (29 : Int32).toNatClampNeg = 29 := by decide
theorem k_30 : (30 : Int32).toNatClampNeg = 30 := by decide
theorem k_31 : (31 : Int32).toNatClampNeg = 31 := by decide
theorem k_32 : (32 : Int32).toNatClampNeg = 32 := by decide
theorem k_33 : (33 : Int32).toNatClampNeg = 33 := by decide
theorem k_34 : (34 : Int32).toNatClampNeg = 34 := by decide
theorem k_35 : (35 : Int32).toNatClampNeg = 35 := by decide
theorem k_36 : (36 : Int32).toNatClampNeg = 36 := by decide
theorem k_37 : (37 : Int32).toNatClampNeg = 37 := by decide
theorem k_38 : (38 : Int32).toNatClampNeg = 38 := by decide
theorem k_39 : (39 : Int32).toNatClampNeg = 39 := by decide
theorem k_40 : (40 : Int32).toNatClampNeg = 40 := by decide
theorem k_41 : (41 : Int32).toNatClampNeg = 41 := by decide
theorem k_42 : (42 : Int32).toNatClampNeg = 42 := by decide
theorem k_43 : (43 : Int32).toNatClampNeg = 43 := by decide
theorem k_44 : (44 : Int32).toNatClampNeg = 44 := by decide
theorem k_45 : (45 : Int32).toNatClampNeg = 45 := by decide
theorem k_46 : (46 : Int32).toNatClampNeg = 46 := by decide
theorem k_47 : (47 : Int32).toNatClampNeg = 47 := by decide
theorem k_48 : (48 : Int32).toNatClampNeg = 48 := by decide
theorem k_49 : (49 : Int32).toNatClampNeg = 49 := by decide
theorem k_50 : (50 : Int32).toNatClampNeg = 50 := by decide
theorem k_51 : (51 : Int32).toNatClampNeg = 51 := by decide
theorem k_52 : (52 : Int32).toNatClampNeg = 52 := by decide
theorem k_53 : (53 : Int32).toNatClampNeg = 53 := by decide
theorem k_54 : (54 : Int32).toNatClampNeg = 54 := by decide
theorem k_55 : (55 : Int32).toNatClampNeg = 55 := by decide
theorem k_56 : (56 : Int32).toNatClampNeg = 56 := by decide
theorem k_57 : (57 : Int32).toNatClampNeg = 57 := by decide
theorem k_58 : (58 : Int32).toNatClampNeg = 58 := by decide
theorem k_59 : (59 : Int32).toNatClampNeg = 59 := by decide
theorem k_60 : (60 : Int32).toNatClampNeg = 60 := by decide
theorem k_61 : (61 : Int32).toNatClampNeg = 61 := by decide
theorem k_62 : (62 : Int32).toNatClampNeg = 62 := by decide
theorem k_63 : (63 : Int32).toNatClampNeg = 63 := by decide
theorem k_64 : (64 : Int32).toNatClampNeg = 64 := by decide
theorem k_65 : (65 : Int32).toNatClampNeg = 65 := by decide
theorem k_66 : (66 : Int32).toNatClampNeg = 66 := by decide
theorem k_67 : (67 : Int32).toNatClampNeg = 67 := by decide
theorem k_68 : (68 : Int32).toNatClampNeg = 68 := by decide
theorem k_69 : (69 : Int32).toNatClampNeg = 69 := by decide
theorem k_70 : (70 : Int32).toNatClampNeg = 70 := by decide
theorem k_71 : (71 : Int32).toNatClampNeg = 71 := by decide
theorem k_72 : (72 : Int32).toNatClampNeg = 72 := by decide
theorem k_73 : (73 : Int32).toNatClampNeg = 73 := by decide
theorem k_74 : (74 : Int32).toNatClampNeg = 74 := by decide
theorem k_75 : (75 : Int32).toNatClampNeg = 75 := by decide
theorem k_76 : (76 : Int32).toNatClampNeg = 76 := by decide
theorem k_77 : (77 : Int32).toNatClampNeg = 77 := by decide
theorem k_78 : (78 : Int32).toNatClampNeg = 78 := by decide
theorem k_79 : (79 : Int32).toNatClampNeg = 79 := by decide
theorem k_80 : (80 : Int32).toNatClampNeg = 80 := by decide
theorem k_81 : (81 : Int32).toNatClampNeg = 81 := by decide
theorem k_82 : (82 : Int32).toNatClampNeg = 82 := by decide
theorem k_83 : (83 : Int32).toNatClampNeg = 83 := by decide
theorem k_84 : (84 : Int32).toNatClampNeg = 84 := by decide
theorem k_85 : (85 : Int32).toNatClampNeg = 85 := by decide
theorem k_86 : (86 : Int32).toNatClampNeg = 86 := by decide
theorem k_87 : (87 : Int32).toNatClampNeg = 87 := by decide
theorem k_88 : (88 : Int32).toNatClampNeg = 88 := by decide
theorem k_89 : (89 : Int32).toNatClampNeg = 89 := by decide
theorem k_90 : (90 : Int32).toNatClampNeg = 90 := by decide
theorem k_91 : (91 : Int32).toNatClampNeg = 91 := by decide
theorem k_92 : (92 : Int32).toNatClampNeg = 92 := by decide
theorem k_93 : (93 : Int32).toNatClampNeg = 93 := by decide
theorem k_94 : (94 : Int32).toNatClampNeg = 94 := by decide
theorem k_95 : (95 : Int32).toNatClampNeg = 95 := by decide
theorem k_96 : (96 : Int32).toNatClampNeg = 96 := by decide
theorem k_97 : (97 : Int32).toNatClampNeg = 97 := by decide
theorem k_98 : (98 : Int32).toNatClampNeg = 98 := by decide
theorem k_99 : (99 : Int32).toNatClampNeg = 99 := by decide
theorem k_100 : (100 : Int32).toNatClampNeg = 100 := by decide
theorem k_101 : (101 : Int32).toNatClampNeg = 101 := by decide
theorem k_102 : (102 : Int32).toNatClampNeg = 102 := by decide
theorem k_103 : (103 : Int32).toNatClampNeg = 103 := by decide
theorem k_104 : (104 : Int32).toNatClampNeg = 104 := by decide
theorem k_105 : (105 : Int32).toNatClampNeg = 105 := by decide
theorem k_106 : (106 : Int32).toNatClampNeg = 106 := by decide
theorem k_107 : (107 : Int32).toNatClampNeg = 107 := by decide
theorem k_108 : (108 : Int32).toNatClampNeg = 108 := by decide
theorem k_109 : (109 : Int32).toNatClampNeg = 109 := by decide
theorem k_110 : (110 : Int32).toNatClampNeg = 110 := by decide
theorem k_111 : (111 : Int32).toNatClampNeg = 111 := by decide
theorem k_112 : (112 : Int32).toNatClampNeg = 112 := by decide
theorem k_113 : (113 : Int32).toNatClampNeg = 113 := by decide
theorem k_114 : (114 : Int32).toNatClampNeg = 114 := by decide
theorem k_115 : (115 : Int32).toNatClampNeg = 115 := by decide
theorem k_116 : (116 : Int32).toNatClampNeg = 116 := by decide
theorem k_117 : (117 : Int32).toNatClampNeg = 117 := by decide
theorem k_118 : (118 : Int32).toNatClampNeg = 118 := by decide
theorem k_119 : (119 : Int32).toNatClampNeg = 119 := by decide
theorem k_120 : (120 : Int32).toNatClampNeg = 120 := by decide
theorem k_121 : (121 : Int32).toNatClampNeg = 121 := by decide
theorem k_122 : (122 : Int32).toNatClampNeg = 122 := by decide
theorem k_123 : (123 : Int32).toNatClampNeg = 123 := by decide
theorem k_124 : (124 : Int32).toNatClampNeg = 124 := by decide
theorem k_125 : (125 : Int32).toNatClampNeg = 125 := by decide
theorem k_126 : (126 : Int32).toNatClampNeg = 126 := by decide
theorem k_127 : (127 : Int32).toNatClampNeg = 127 := by decide
theorem k_128 : (128 : Int32).toNatClampNeg = 128 := by decide
theorem k_129 : (129 : Int32).toNatClampNeg = 129 := by decide
theorem k_130 : (130 : Int32).toNatClampNeg = 130 := by decide
theorem k_131 : (131 : Int32).toNatClampNeg = 131 := by decide
theorem v_0 : vp_in 0 936 ↔ True := by rw [vp_in_iff]; decide
theorem v_1 : vp_in 1 936 ↔ True := by rw [vp_in_iff]; decide
theorem v_2 : vp_in 2 936 ↔ True := by rw [vp_in_iff]; decide
theorem v_3 : vp_in 3 936 ↔ True := by rw [vp_in_iff]; decide
theorem v_4 : vp_in 4 936 ↔ True := by rw [vp_in_iff]; decide
theorem v_5 : vp_in 5 936 ↔ True := by rw [vp_in_iff]; decide
theorem v_6 : vp_in 6 936 ↔ True := by rw [vp_in_iff]; decide
theorem v_7 : vp_in 7 936 ↔ True := by rw [vp_in_iff]; decide
theorem v_8 : vp_in 8 936 ↔ True := by rw [vp_in_iff]; decide
theorem v_9 : vp_in 9 936 ↔ True := by rw [vp_in_iff]; decide
theorem v_10 : vp_in 10 936 ↔ True := by rw [vp_in_iff]; decide
theorem v_11 : vp_in 11 936 ↔ True := by rw [vp_in_iff]; decide
theorem v_12 : vp_in 12 936 ↔ True := by rw [vp_in_iff]; decide
theorem v_13 : vp_in 13 936 ↔ True := by rw [vp_in_iff]; decide
theorem v_14 : vp_in 14 936 ↔ True := by rw [vp_in_iff]; decide
theorem v_15 : vp_in 15 936 ↔ True := by rw [vp_in_iff]; decide
theorem v_16 : vp_in 16 936 ↔ True := by rw [vp_in_iff]; decide
theorem v_17 : vp_in 17 936 ↔ True := by rw [vp_in_iff]; decide
theorem v_18 : vp_in 18 936 ↔ True := by rw [vp_in_iff]; decide
theorem v_19 : vp_in 19 936 ↔ True := by rw [vp_in_iff]; decide
theorem v_20 : vp_in 20 936 ↔ True := by rw [vp_in_iff]; decide
theorem v_21 : vp_in 21 936 ↔ True := by rw [vp_in_iff]; decide
theorem v_22 : vp_in 22 936 ↔ True := by rw [vp_in_iff]; decide
theorem v_23 : vp_in 23 936 ↔ True := by rw [vp_in_iff]; decide
theorem v_24 : vp_in 24 936 ↔ True := by rw [vp_in_iff]; decide
theorem v_25 : vp_in 25 936 ↔ True := by rw [vp_in_iff]; decide
theorem v_26 : vp_in 26 936 ↔ True := by rw [vp_in_iff]; decide
theorem v_27 : vp_in 27 936 ↔ True := by rw [vp_in_iff]; decide
theorem v_28 : vp_in 28 936 ↔ True := by rw [vp_in_iff]; decide
theorem v_29 : vp_in 29 936 ↔ True := by rw [vp_in_iff]; decide
theorem v_30 : vp_in 30 936 ↔ True := by rw [vp_in_iff]; decide
theorem v_31 : vp_in 31 936 ↔ True := by rw [vp_in_iff]; decide
theorem v_32 : vp_in 32 936 ↔ True := by rw [vp_in_iff]; decide
theorem v_33 : vp_in 33 936 ↔ True := by rw [vp_in_iff]; decide
theorem v_34 : vp_in 34 936 ↔ True := by rw [vp_in_iff]; decide
theorem v_35 : vp_in 35 936 ↔ True := by rw [vp_in_iff]; decide
theorem v_36 : vp_in 36 936 ↔ True := by rw [vp_in_iff]; decide
theorem v_37 : vp_in 37 936 ↔ True := by rw [vp_in_iff]; decide
theorem v_38 : vp_in 38 936 ↔ True := by rw [vp_in_iff]; decide
theorem v_39 : vp_in 39 936 ↔ True := by rw [vp_in_iff]; decide
theorem v_40 : vp_in 40 936 ↔ True := by rw [vp_in_iff]; decide
theorem v_41 : vp_in 41 936 ↔ True := by rw [vp_in_iff]; decide
theorem v_42 : vp_in 42 936 ↔ True := by rw [vp_in_iff]; decide
theorem v_43 : vp_in 43 936 ↔ True := by rw [vp_in_iff]; decide
theorem v_44 : vp_in 44 936 ↔ True := by rw [vp_in_iff]; decide
theorem v_45 : vp_in 45 936 ↔ True := by rw [vp_in_iff]; decide
theorem v_46 : vp_in 46 936 ↔ True := by rw [vp_in_iff]; decide
theorem v_47 : vp_in 47 936 ↔ True := by rw [vp_in_iff]; decide
theorem v_48 : vp_in 48 936 ↔ True := by rw [vp_in_iff]; decide
theorem v_49 : vp_in 49 936 ↔ True := by rw [vp_in_iff]; decide
theorem v_50 : vp_in 50 936 ↔ True := by rw [vp_in_iff]; decide
theorem v_51 : vp_in 51 936 ↔ True := by rw [vp_in_iff]; decide
theorem v_52 : vp_in 52 936 ↔ True := by rw [vp_in_iff]; decide
theorem v_53 : vp_in 53 936 ↔ True := by rw [vp_in_iff]; decide
theorem v_54 : vp_in 54 936 ↔ True := by rw [vp_in_iff]; decide
theorem v_55 : vp_in 55 936 ↔ True := by rw [vp_in_iff]; decide
theorem v_56 : vp_in 56 936 ↔ True := by rw [vp_in_iff]; decide
theorem v_57 : vp_in 57 936 ↔ True := by rw [vp_in_iff]; decide
theorem v_58 : vp_in 58 936 ↔ True := by rw [vp_in_iff]; decide
theorem v_59 : vp_in 59 936 ↔ True := by rw [vp_in_iff]; decide
theorem v_60 : vp_in 60 936 ↔ True := by rw [vp_in_iff]; decide
theorem v_61 : vp_in 61 936 ↔ True := by rw [vp_in_iff]; decide
theorem v_62 : vp_in 62 936 ↔ True := by rw [vp_in_iff]; decide
theorem v_63 : vp_in 63 936 ↔ True := by rw [vp_in_iff]; decide
theorem v_64 : vp_in 64 936 ↔ True := by rw [vp_in_iff]; decide
theorem v_65 : vp_in 65 936 ↔ True := by rw [vp_in_iff]; decide
theorem v_66 : vp_in 66 936 ↔ True := by rw [vp_in_iff]; decide
theorem v_67 : vp_in 67 936 ↔ True := by rw [vp_in_iff]; decide
theorem v_68 : vp_in 68 936 ↔ True := by rw [vp_in_iff]; decide
theorem v_69 : vp_in 69 936 ↔ True := by rw [vp_in_iff]; decide
theorem v_70 : vp_in 70 936 ↔ True := by rw [vp_in_iff]; decide
theorem v_71 : vp_in 71 936 ↔ True := by rw [vp_in_iff]; decide
theorem v_72 : vp_in 72 936 ↔ True := by rw [vp_in_iff]; decide
theorem v_73 : vp_in 73 936 ↔ True := by rw [vp_in_iff]; decide
theorem v_74 : vp_in 74 936 ↔ True := by rw [vp_in_iff]; decide
theorem v_75 : vp_in 75 936 ↔ True := by rw [vp_in_iff]; decide
theorem v_76 : vp_in 76 936 ↔ True := by rw [vp_in_iff]; decide
theorem v_77 : vp_in 77 936 ↔ True := by rw [vp_in_iff]; decide
theorem v_78 : vp_in 78 936 ↔ True := by rw [vp_in_iff]; decide
theorem v_79 : vp_in 79 936 ↔ True := by rw [vp_in_iff]; decide
theorem v_80 : vp_in 80 936 ↔ True := by rw [vp_in_iff]; decide
theorem v_81 : vp_in 81 936 ↔ True := by rw [vp_in_iff]; decide
theorem v_82 : vp_in 82 936 ↔ True := by rw [vp_in_iff]; decide
theorem v_83 : vp_in 83 936 ↔ True := by rw [vp_in_iff]; decide
theorem v_84 : vp_in 84 936 ↔ True := by rw [vp_in_iff]; decide
theorem v_85 : vp_in 85 936 ↔ True := by rw [vp_in_iff]; decide
theorem v_86 : vp_in 86 936 ↔ True := by rw [vp_in_iff]; decide
theorem v_87 : vp_in 87 936 ↔ True := by rw [vp_in_iff]; decide
theorem v_88 : vp_in 88 936 ↔ True := by rw [vp_in_iff]; decide
theorem v_89 : vp_in 89 936 ↔ True := by rw [vp_in_iff]; decide
theorem v_90 : vp_in 90 936 ↔ True := by rw [vp_in_iff]; decide
theorem v_91 : vp_in 91 936 ↔ True := by rw [vp_in_iff]; decide
theorem v_92 : vp_in 92 936 ↔ True := by rw [vp_in_iff]; decide
theorem v_93 : vp_in 93 936 ↔ True := by rw [vp_in_iff]; decide
theorem v_94 : vp_in 94 936 ↔ True := by rw [vp_in_iff]; decide
theorem v_95 : vp_in 95 936 ↔ True := by rw [vp_in_iff]; decide
theorem v_96 : vp_in 96 936 ↔ True := by rw [vp_in_iff]; decide
theorem v_97 : vp_in 97 936 ↔ True := by rw [vp_in_iff]; decide
theorem v_98 : vp_in 98 936 ↔ True := by rw [vp_in_iff]; decide
theorem v_99 : vp_in 99 936 ↔ True := by rw [vp_in_iff]; decide
theorem v_100 : vp_in 100 936 ↔ True := by rw [vp_in_iff]; decide
theorem v_101 : vp_in 101 936 ↔ True := by rw [vp_in_iff]; decide
theorem v_102 : vp_in 102 936 ↔ True := by rw [vp_in_iff]; decide
theorem v_103 : vp_in 103 936 ↔ True := by rw [vp_in_iff]; decide
theorem v_104 : vp_in 104 936 ↔ True := by rw [vp_in_iff]; decide
theorem v_105 : vp_in 105 936 ↔ True := by rw [vp_in_iff]; decide
theorem v_106 : vp_in 106 936 ↔ True := by rw [vp_in_iff]; decide
theorem v_107 : vp_in 107 936 ↔ True := by rw [vp_in_iff]; decide
theorem v_108 : vp_in 108 936 ↔ True := by rw [vp_in_iff]; decide
theorem v_109 : vp_in 109 936 ↔ True := by rw [vp_in_iff]; decide
theorem v_110 : vp_in 110 936 ↔ True := by rw [vp_in_iff]; decide
theorem v_111 : vp_in 111 936 ↔ True := by rw [vp_in_iff]; decide
theorem v_112 : vp_in 112 936 ↔ True := by rw [vp_in_iff]; decide
theorem v_113 : vp_in 113 936 ↔ True := by rw [vp_in_iff]; decide
theorem v_114 : vp_in 114 936 ↔ True := by rw [vp_in_iff]; decide
theorem v_115 : vp_in 115 936 ↔ True := by rw [vp_in_iff]; decide
theorem v_116 : vp_in 116 936 ↔ True := by rw [vp_in_iff]; decide
theorem v_117 : vp_in 117 936 ↔ True := by rw [vp_in_iff]; decide
theorem v_118 : vp_in 118 936 ↔ True := by rw [vp_in_iff]; decide
theorem v_119 : vp_in 119 936 ↔ True := by rw [vp_in_iff]; decide
theorem v_120 : vp_in 120 936 ↔ True := by rw [vp_in_iff]; decide
theorem v_121 : vp_in 121 936 ↔ True := by rw [vp_in_iff]; decide
theorem v_122 : vp_in 122 936 ↔ True := by rw [vp_in_iff]; decide
theorem v_123 : vp_in 123 936 ↔ True := by rw [vp_in_iff]; decide
theorem v_124 : vp_in 124 936 ↔ True := by rw [vp_in_iff]; decide
theorem v_125 : vp_in 125 936 ↔ True := by rw [vp_in_iff]; decide
theorem v_126 : vp_in 126 936 ↔ True := by rw [vp_in_iff]; decide
theorem v_127 : vp_in 127 936 ↔ True := by rw [vp_in_iff]; decide
theorem v_128 : vp_in 128 936 ↔ True := by rw [vp_in_iff]; decide
theorem v_129 : vp_in 129 936 ↔ True := by rw [vp_in_iff]; decide
theorem v_130 : vp_in 130 936 ↔ True := by rw [vp_in_iff]; decide
theorem v_131 : vp_in 131 936 ↔ True := by rw [vp_in_iff]; decide
theorem mu_s (M : ap_Mem) (q i : Nat) (v : Int32) : ap_mu M q i v q i = v := by rw [mu_at, if_pos ⟨rfl, rfl⟩]
theorem mu_o (M : ap_Mem) {q i : Nat} (v : Int32) {a j : Nat} (h : a ≠ q ∨ j ≠ i) : ap_mu M q i v a j = M a j := by
  rw [mu_at, if_neg]
  rintro ⟨rfl, rfl⟩
  rcases h with h | h <;> exact h rfl
theorem upd_s (f : Nat → Int32) (i : Nat) (v : Int32) : upd f i v i = v := if_pos rfl
theorem upd_o (f : Nat → Int32) {i j : Nat} (v : Int32) (h : j ≠ i) : upd f i v j = f j := if_neg h
