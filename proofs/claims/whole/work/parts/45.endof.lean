/-! the law, if the towns agree -/
theorem x_cmpR (r : Int64) : lg_cmp r r = 0 := by
  unfold lg_cmp
  simp
theorem ap_pure_of (ht : e_Pair (fun M K => w_X8_town 0 M K) (fun M K => w_X9_town 98 M K)) (L : Nat) (xs : Nat → Int32) (hL : L ≤ 2048) : w_law_18 L xs 600 0 ap_M0 := by
  have lp : ∀ (j i : Nat) (M : ap_Mem), i + j = 513 → e_Inv M → w_law_18 L xs (86 + 1 + j) (nI (4 * i)) M := by
    intro j
    induction j with
    | zero =>
      intro i M hi hI
      show w_law_18_s L xs (w_law_18 L xs 86) (nI (4 * i)) M
      unfold w_law_18_s
      have hx : ∀ L, L ≤ 2048 → nI L - 4 < nI 2052 := by decide +kernel
      have : i = 513 := by omega
      subst this
      rw [if_pos (hx L hL)]
    | succ j ih =>
      intro i M hi hI
      show w_law_18_s L xs (w_law_18 L xs (86 + 1 + j)) (nI (4 * i)) M
      unfold w_law_18_s
      by_cases hex : nI L - 4 < nI (4 * i)
      · rw [if_pos hex]
      have h4 : 4 * i + 4 ≤ L := by
        by_cases hl : 4 ≤ L
        · rw [l_4, n_sub hl, n_lt (by omega) (by omega)] at hex
          omega
        · exfalso
          apply hex
          have hs : ∀ L, L < 4 → nI L - 4 < 0 := by decide +kernel
          have h0 : (0 : Int32) ≤ nI (4 * i) := by rw [l_0]; exact n_nonneg (by omega)
          have := hs L (by omega)
          grind
      have hk : ∀ M2, e_Inv M2 → w_law_1097 (w_law_18 L xs (86 + 1 + j)) (nI (4 * i)) M2 := by
        intro M2 h2
        unfold w_law_1097
        rintro _ rfl
        rw [l_4, nI_add]
        exact ih (i + 1) M2 (by omega) h2
      have v1 : vp_in (nI (4 * i) + 1) L = True := by rw [l_1, nI_add, n_vp (by omega)]; exact eq_true (by omega)
      have v2 : vp_in (nI (4 * i) + 2) L = True := by rw [l_2, nI_add, n_vp (by omega)]; exact eq_true (by omega)
      have v3 : vp_in (nI (4 * i) + 3) L = True := by rw [l_3, nI_add, n_vp (by omega)]; exact eq_true (by omega)
      rw [if_neg hex]
      refine ⟨by rw [n_vp (by omega)]; omega, ?_⟩
      generalize (xs (nI (4 * i)).toNatClampNeg) &&& 63 = what
      by_cases g0 : what = 0
      · rw [if_pos g0]
        simp only [v1, v2, v3, true_and]
        exact mn_X8_feed (fun r1 M1 h => mn_X9_feed (fun r2 M2 h2 => by rw [if_pos h2.1]; exact hk M2 h2.2) h) (p_feed _ M hI)
      rw [if_neg g0]
      by_cases g1 : what = 1
      · rw [if_pos g1]
        exact mn_X8_town (fun r1 M1 h => mn_X9_town (fun r2 M2 h2 => by rw [if_pos h2.1]; exact hk M2 h2.2) h) (ht M hI)
      rw [if_neg g1]
      by_cases g2 : what = 2
      · rw [if_pos g2]
        simp only [v1, v2, v3, true_and]
        exact mn_X8_person (fun r1 M1 h => mn_X9_person (fun r2 M2 h2 => by rw [if_pos h2.1]; exact hk M2 h2.2) h) (p_person _ _ _ M hI)
      rw [if_neg g2]
      by_cases g3 : what = 3
      · rw [if_pos g3]
        simp only [v1, v2, v3, true_and]
        exact mn_X8_of (fun r1 M1 h => mn_X9_of (fun r2 M2 h2 => by rw [if_pos h2.1]; exact hk M2 h2.2) h) (p_of _ _ M hI)
      rw [if_neg g3]
      by_cases g4 : what = 4
      · rw [if_pos g4]
        simp only [v1, v2, v3, true_and]
        exact mn_X8_line (fun r1 M1 h => mn_X9_line (fun r2 M2 h2 => by rw [if_pos h2.1]; exact hk M2 h2.2) h) (p_line _ _ _ M hI)
      rw [if_neg g4]
      by_cases g5 : what = 5
      · rw [if_pos g5]
        simp only [v1, v2, v3, true_and]
        exact mn_X8_move (fun r1 M1 h => mn_X9_move (fun r2 M2 h2 => by rw [if_pos h2.1]; exact hk M2 h2.2) h) (p_move _ _ M hI)
      rw [if_neg g5]
      by_cases g6 : what = 6
      · rw [if_pos g6]
        simp only [v1, v2, v3, true_and]
        by_cases ha : xs (nI (4 * i) + 2).toNatClampNeg = 0
        · simp only [ha, if_true]
          exact mn_X8_away (fun r1 M1 h => mn_X9_away (fun r2 M2 h2 => by rw [if_pos h2.1]; exact hk M2 h2.2) h) (p_away _ _ M hI)
        · simp only [ha, if_false]
          exact mn_X8_away (fun r1 M1 h => mn_X9_away (fun r2 M2 h2 => by rw [if_pos h2.1]; exact hk M2 h2.2) h) (p_away _ _ M hI)
      rw [if_neg g6]
      by_cases g7 : what = 7
      · rw [if_pos g7]
        simp only [v1, v2, v3, true_and]
        exact mn_X8_lay (fun r1 M1 h => mn_X9_lay (fun r2 M2 h2 => by rw [if_pos h2.1]; exact hk M2 h2.2) h) (p_lay _ M hI)
      rw [if_neg g7]
      by_cases g8 : what = 8
      · rw [if_pos g8]
        simp only [v1, v2, v3, true_and]
        exact mn_X8_told (fun r1 M1 h => mn_X9_told (fun r2 M2 h2 => by rw [if_pos h2.1]; exact hk M2 h2.2) h) (p_told _ M hI)
      rw [if_neg g8]
      by_cases g9 : what = 9
      · rw [if_pos g9]
        simp only [v1, v2, v3, true_and]
        exact mn_X8_pass (fun r1 M1 h => mn_X9_pass (fun r2 M2 h2 => by rw [if_pos h2.1]; exact hk M2 h2.2) h) (p_pass _ M hI)
      rw [if_neg g9]
      by_cases g10 : what = 10
      · rw [if_pos g10]
        simp only [v1, v2, v3, true_and]
        exact mn_X8_on (fun r1 M1 h => mn_X9_on (fun r2 M2 h2 => by rw [if_pos h2.1]; exact hk M2 h2.2) h) (p_on _ _ M hI)
      rw [if_neg g10]
      by_cases g11 : what = 11
      · rw [if_pos g11]
        simp only [v1, v2, v3, true_and]
        exact mn_X8_finds (fun r1 M1 h => mn_X9_finds (fun r2 M2 h2 => by rw [if_pos h2.1]; exact hk M2 h2.2) h) (p_finds _ M hI)
      rw [if_neg g11]
      by_cases g12 : what = 12
      · rw [if_pos g12]
        simp only [v1, v2, v3, true_and]
        exact mn_X8_soonest (fun r1 M1 h => mn_X9_soonest (fun r2 M2 h2 => by rw [if_pos h2.1]; exact hk M2 h2.2) h) (p_soonest _ _ M hI)
      rw [if_neg g12]
      by_cases g13 : what = 13
      · rw [if_pos g13]
        simp only [v1, v2, v3, true_and]
        exact mn_X8_call (fun r1 M1 h => mn_X9_call (fun r2 M2 h2 => by rw [if_pos h2.1]; exact hk M2 h2.2) h) (p_call _ M hI)
      rw [if_neg g13]
      by_cases g14 : what = 14
      · rw [if_pos g14]
        simp only [v1, v2, v3, true_and]
        exact mn_X8_kept (fun r1 M1 h => mn_X9_kept (fun r2 M2 h2 => by rw [if_pos h2.1]; exact hk M2 h2.2) h) (p_kept _ M hI)
      rw [if_neg g14]
      by_cases g15 : what = 15
      · rw [if_pos g15]
        simp only [v1, v2, v3, true_and]
        exact mn_X8_walk (fun r1 M1 h => mn_X9_walk (fun r2 M2 h2 => by rw [if_pos h2.1]; exact hk M2 h2.2) h) (p_walk _ M hI)
      rw [if_neg g15]
      by_cases g16 : what = 16
      · rw [if_pos g16]
        simp only [v1, v2, v3, true_and]
        exact mn_X8_met (fun r1 M1 h => mn_X9_met (fun r2 M2 h2 => by rw [if_pos h2.1]; exact hk M2 h2.2) h) (p_met _ M hI)
      rw [if_neg g16]
      by_cases g17 : what = 17
      · rw [if_pos g17]
        simp only [v1, v2, v3, true_and]
        exact mn_X8_see (fun r1 M1 h => mn_X9_see (fun r2 M2 h2 => by rw [if_pos h2.1]; exact hk M2 h2.2) h) (p_see _ _ M hI)
      rw [if_neg g17]
      by_cases g18 : what = 18
      · rw [if_pos g18]
        simp only [v1, v2, v3, true_and]
        exact mn_X8_doors (fun r1 M1 h => mn_X9_doors (fun r2 M2 h2 => by rw [if_pos h2.1]; exact hk M2 h2.2) h) (p_doors _ M hI)
      rw [if_neg g18]
      by_cases g19 : what = 19
      · rw [if_pos g19]
        simp only [v1, v2, v3, true_and]
        exact mn_X8_firm (fun r1 M1 h => mn_X9_firm (fun r2 M2 h2 => by rw [if_pos h2.1]; exact hk M2 h2.2) h) (p_firm _ _ M hI)
      rw [if_neg g19]
      by_cases g20 : what = 20
      · rw [if_pos g20]
        exact mn_X8_sought (fun r1 M1 h => mn_X9_sought (fun r2 M2 h2 => by rw [if_pos h2.1]; exact hk M2 h2.2) h) (p_sought M hI)
      rw [if_neg g20]
      by_cases g21 : what = 21
      · rw [if_pos g21]
        simp only [v1, v2, v3, true_and]
        exact mn_X8_odds (fun r1 M1 h => mn_X9_odds (fun r2 M2 h2 => by rw [if_pos (show lg_cmp r1 r2 = 0 by rw [h2.1]; exact x_cmpR _)]; exact hk M2 h2.2) h) (p_odds _ _ _ M hI)
      rw [if_neg g21]
      by_cases g22 : what = 22
      · rw [if_pos g22]
        simp only [v1, v2, v3, true_and]
        exact mn_X8_mean (fun r1 M1 h => mn_X9_mean (fun r2 M2 h2 => by rw [if_pos (show lg_cmp r1 r2 = 0 by rw [h2.1]; exact x_cmpR _)]; exact hk M2 h2.2) h) (p_mean _ _ M hI)
      rw [if_neg g22]
      by_cases g23 : what = 23
      · rw [if_pos g23]
        simp only [v1, v2, v3, true_and]
        exact mn_X8_plan (fun r1 M1 h => mn_X9_plan (fun r2 M2 h2 => by rw [if_pos h2.1]; exact hk M2 h2.2) h) (p_plan _ _ M hI)
      rw [if_neg g23]
      by_cases g24 : what = 24
      · rw [if_pos g24]
        simp only [v1, v2, v3, true_and]
        exact mn_X8_done (fun r1 M1 h => mn_X9_done (fun r2 M2 h2 => by rw [if_pos h2.1]; exact hk M2 h2.2) h) (p_done _ M hI)
      rw [if_neg g24]
      by_cases g25 : what = 25
      · rw [if_pos g25]
        simp only [v1, v2, v3, true_and]
        exact mn_X8_book (fun r1 M1 h => mn_X9_book (fun r2 M2 h2 => by rw [if_pos h2.1]; exact hk M2 h2.2) h) (p_book _ _ M hI)
      rw [if_neg g25]
      by_cases g26 : what = 26
      · rw [if_pos g26]
        exact mn_X8_looked (fun r1 M1 h => mn_X9_looked (fun r2 M2 h2 => by rw [if_pos h2.1]; exact hk M2 h2.2) h) (p_looked M hI)
      rw [if_neg g26]
      by_cases g27 : what = 27
      · rw [if_pos g27]
        simp only [v1, v2, v3, true_and]
        exact mn_X8_act (fun r1 M1 h => mn_X9_act (fun r2 M2 h2 => by rw [if_pos h2.1]; exact hk M2 h2.2) h) (p_act _ _ _ M hI)
      rw [if_neg g27]
      by_cases g28 : what = 28
      · rw [if_pos g28]
        simp only [v1, v2, v3, true_and]
        exact mn_X8_trace (fun r1 M1 h => mn_X9_trace (fun r2 M2 h2 => by rw [if_pos h2.1]; exact hk M2 h2.2) h) (p_trace _ M hI)
      rw [if_neg g28]
      by_cases g29 : what = 29
      · rw [if_pos g29]
        simp only [v1, v2, v3, true_and]
        exact mn_X8_as (fun r1 M1 h => mn_X9_as (fun r2 M2 h2 => by rw [if_pos h2.1]; exact hk M2 h2.2) h) (p_as _ _ M hI)
      rw [if_neg g29]
      by_cases g30 : what = 30
      · rw [if_pos g30]
        exact mn_X8_image (fun r1 M1 h => mn_X9_image (fun r2 M2 h2 => by rw [if_pos h2.1]; exact hk M2 h2.2) h) (p_image M hI)
      rw [if_neg g30]
      by_cases g31 : what = 31
      · rw [if_pos g31]
        exact mn_X8_undo (fun r1 M1 h => mn_X9_undo (fun r2 M2 h2 => by rw [if_pos h2.1]; exact hk M2 h2.2) h) (p_undo M hI)
      rw [if_neg g31]
      by_cases g32 : what = 32
      · rw [if_pos g32]
        simp only [v1, v2, v3, true_and]
        exact mn_X8_count (fun r1 M1 h => mn_X9_count (fun r2 M2 h2 => by rw [if_pos h2.1]; exact hk M2 h2.2) h) (p_count _ M hI)
      rw [if_neg g32]
      exact hk M hI
  exact lp 513 0 ap_M0 (by omega) e_Inv0
