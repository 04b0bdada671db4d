theorem p_feed (x : Int32) : e_Pair (fun M K => w_X8_feed 0 x M K) (fun M K => w_X9_feed 98 x M K) := by
  intro M hI
  obtain ⟨n, hn, f1, m1, h4⟩ := hI.1.1
  show w_X8_feed 0 x M _
  rcases e_ix x (n := 128) (by decide) with h | ⟨c, hc, rfl⟩
  · have e2 : ∀ M' K, w_X9_in x 0 127 M' K = K 0 M' := fun M' K => by rw [l_127]; exact m_in0 (by decide) h
    rcases h with h | ⟨h1, h2⟩
    · simp [w_X8_feed, w_X9_feed, h, e2, hI]
    · have h3 : ¬ x ≤ 127 := i_nle (i_lt1 (n := 127) (by decide) h2)
      have h5 : ¬ x < 0 := i_nlt h1
      simp [w_X8_feed, w_X9_feed, h5, h3, e2, hI]
  · have h3 : nI c ≤ 127 := by rw [l_127, n_le (by omega) (by decide)]; omega
    have h5 : ¬ nI c < 0 := n_neg (by omega)
    have e2 : ∀ M' K, w_X9_in (nI c) 0 127 M' K = K 1 M' := fun M' K => by rw [l_127, l_0]; exact m_in1 (by omega) (by omega) (by decide)
    by_cases hlt : n < 100
    · have hne : ¬ n = 100 := by omega
      have e1 : ∀ K, w_X5_add 2 (nI c) 0 M K = K (nI (n + 1)) (ap_mu (ap_mu (ap_mu M 3 n (nI c)) 4 n 0) 2 2 (nI (n + 1))) := fun K => c_add (N := 100) rfl rfl (by decide) m1 hlt
      simp (disch := omega) [w_X8_feed, w_X9_feed, h5, h3, e2, e1, mu_s, mu_o, f1, k_36, v_36, l_100, l_126, n_eq, hne, nI_add, n_cl, n_vp, nI_1, hlt]
      refine ⟨by omega, e_set hI (fun a ha => by simp (disch := omega) only [ap_mu_n]) (e_uTape hI.1 (fun a ha hb => by simp (disch := omega) only [ap_mu_n]) (fun j hj hb => by simp (disch := omega) only [mu_o]) ?_)⟩
      refine ⟨n + 1, hlt, by simp (disch := omega) only [mu_s], by simp (disch := omega) only [mu_s, mu_o], fun i hi => ?_⟩
      by_cases hin : i = n
      · subst hin
        exact ⟨c, hc, by simp (disch := omega) only [mu_s, mu_o], by simp (disch := omega) only [mu_s, mu_o]⟩
      · obtain ⟨c2, hc2, e3, e4⟩ := h4 i (by omega)
        exact ⟨c2, hc2, by simp (disch := omega) only [mu_o, e3], by simp (disch := omega) only [mu_o, e4]⟩
    · have hne : n = 100 := by omega
      subst hne
      have e1 : ∀ K, w_X5_add 2 (nI c) 0 M K = K (-4) M := fun K => c_addF (N := 100) rfl (by decide) m1 (by decide) (by omega)
      simp (disch := omega) [w_X8_feed, w_X9_feed, h5, h3, e2, e1, f1, k_36, v_36, l_100, hI]
theorem p_walk (x : Int32) : e_Pair (fun M K => w_X8_walk 0 x M K) (fun M K => w_X9_walk 98 x M K) := by
  intro M hI
  obtain ⟨n, hn, f1, m1, h4⟩ := hI.1.2.2.2.2.1
  show w_X8_walk 0 x M _
  by_cases hm : x = -1
  · subst hm
    simp [w_X8_walk, w_X9_walk, c_clear, k_32, v_32]
    refine e_set hI (fun a ha => by simp (disch := omega) only [ap_mu_n]) (e_uWalk hI.1 (fun a ha hb => by simp (disch := omega) only [ap_mu_n]) (fun j hj hb => by simp (disch := omega) only [mu_o]) ?_)
    exact ⟨0, by omega, by simp (disch := omega) only [mu_s, ← l_0], by simp (disch := omega) only [mu_s, mu_o, ← l_0], fun i hi => absurd hi (by omega)⟩
  rcases e_ix x (n := 16) (by decide) with h | ⟨c, hc, rfl⟩
  · have e1 : ∀ M' K, w_X8_isCell x M' K = K 0 M' := fun M' K => c_isCell0 h
    have e2 : ∀ M' K, w_X9_isCell x M' K = K 0 M' := fun M' K => m_isCell0 h
    simp [w_X8_walk, w_X9_walk, hm, e1, e2, hI]
  have e1 : ∀ M' K, w_X8_isCell (nI c) M' K = K 1 M' := fun M' K => c_isCell1 hc
  have e2 : ∀ M' K, w_X9_isCell (nI c) M' K = K 1 M' := fun M' K => m_isCell1 hc
  by_cases hlt : n < 10
  · have hne : ¬ n = 10 := by omega
    have e4 : ∀ K, w_X5_add 20 (nI c) 0 M K = K (nI (n + 1)) (ap_mu (ap_mu (ap_mu M 21 n (nI c)) 22 n 0) 20 2 (nI (n + 1))) := fun K => c_add (N := 10) rfl rfl (by decide) m1 hlt
    simp (disch := omega) [w_X8_walk, w_X9_walk, hm, e1, e2, e4, mu_s, mu_o, f1, k_32, v_32, l_10, l_74, n_eq, hne, nI_add, n_cl, n_vp, nI_1]
    refine ⟨by omega, e_set hI (fun a ha => by simp (disch := omega) only [ap_mu_n]) (e_uWalk hI.1 (fun a ha hb => by simp (disch := omega) only [ap_mu_n]) (fun j hj hb => by simp (disch := omega) only [mu_o]) ?_)⟩
    refine ⟨n + 1, hlt, by simp (disch := omega) only [mu_s], by simp (disch := omega) only [mu_s, mu_o], fun i hi => ?_⟩
    by_cases hin : i = n
    · subst hin
      exact ⟨c, hc, by simp (disch := omega) only [mu_s, mu_o], by simp (disch := omega) only [mu_s, mu_o]⟩
    · obtain ⟨c2, hc2, e5, e6⟩ := h4 i (by omega)
      exact ⟨c2, hc2, by simp (disch := omega) only [mu_o, e5], by simp (disch := omega) only [mu_o, e6]⟩
  · have hne : n = 10 := by omega
    subst hne
    have e4 : ∀ K, w_X5_add 20 (nI c) 0 M K = K (-4) M := fun K => c_addF (N := 10) rfl (by decide) m1 (by decide) (by omega)
    simp (disch := omega) [w_X8_walk, w_X9_walk, hm, e1, e2, e4, f1, k_32, v_32, l_10, hI]
theorem p_see (x y : Int32) : e_Pair (fun M K => w_X8_see 0 x y M K) (fun M K => w_X9_see 98 x y M K) := by
  intro M hI
  obtain ⟨n, hn, f1, m1, h4⟩ := hI.1.2.2.2.2.2.1
  show w_X8_see 0 x y M _
  by_cases hm : x = -1
  · subst hm
    simp [w_X8_see, w_X9_see, c_clear, k_33, v_33]
    refine e_set hI (fun a ha => by simp (disch := omega) only [ap_mu_n]) (e_uSeen hI.1 (fun a ha hb => by simp (disch := omega) only [ap_mu_n]) (fun j hj hb => by simp (disch := omega) only [mu_o]) ?_)
    exact ⟨0, by omega, by simp (disch := omega) only [mu_s, ← l_0], by simp (disch := omega) only [mu_s, mu_o, ← l_0], fun i hi => absurd hi (by omega)⟩
  rcases e_ix x (n := 16) (by decide) with h | ⟨c, hc, rfl⟩
  · have e1 : ∀ M' K, w_X8_isCell x M' K = K 0 M' := fun M' K => c_isCell0 h
    have e2 : ∀ M' K, w_X9_isCell x M' K = K 0 M' := fun M' K => m_isCell0 h
    simp [w_X8_see, w_X9_see, hm, e1, e2, hI]
  have e1 : ∀ M' K, w_X8_isCell (nI c) M' K = K 1 M' := fun M' K => c_isCell1 hc
  have e2 : ∀ M' K, w_X9_isCell (nI c) M' K = K 1 M' := fun M' K => m_isCell1 hc
  rcases e_ix y (n := 21) (by decide) with h | ⟨k, hk, rfl⟩
  · have e3 : ∀ M' K, w_X9_in y 0 20 M' K = K 0 M' := fun M' K => by rw [l_20]; exact m_in0 (by decide) h
    rcases h with h | ⟨h1, h2⟩
    · simp [w_X8_see, w_X9_see, hm, e1, e2, e3, h, hI]
    · have h3 : ¬ y ≤ 20 := i_nle (i_lt1 (n := 20) (by decide) h2)
      have h5 : ¬ y < 0 := i_nlt h1
      simp [w_X8_see, w_X9_see, hm, e1, e2, e3, h3, h5, hI]
  have h3 : nI k ≤ 20 := by rw [l_20, n_le (by omega) (by decide)]; omega
  have h5 : ¬ nI k < 0 := n_neg (by omega)
  have e3 : ∀ M' K, w_X9_in (nI k) 0 20 M' K = K 1 M' := fun M' K => by rw [l_20, l_0]; exact m_in1 (by omega) (by omega) (by decide)
  by_cases hlt : n < 5
  · have hne : ¬ n = 5 := by omega
    have e4 : ∀ K, w_X5_add 23 (nI c) (nI k) M K = K (nI (n + 1)) (ap_mu (ap_mu (ap_mu M 24 n (nI c)) 25 n (nI k)) 23 2 (nI (n + 1))) := fun K => c_add (N := 5) rfl rfl (by decide) m1 hlt
    simp (disch := omega) [w_X8_see, w_X9_see, hm, e1, e2, e3, h5, h3, e4, mu_s, mu_o, f1, k_33, v_33, l_5, l_84, l_89, n_eq, hne, nI_add, n_cl, n_vp, nI_1]
    refine ⟨by omega, by omega, e_set hI (fun a ha => by simp (disch := omega) only [ap_mu_n]) (e_uSeen hI.1 (fun a ha hb => by simp (disch := omega) only [ap_mu_n]) (fun j hj hb => by simp (disch := omega) only [mu_o]) ?_)⟩
    refine ⟨n + 1, hlt, by simp (disch := omega) only [mu_s], by simp (disch := omega) only [mu_s, mu_o], fun i hi => ?_⟩
    by_cases hin : i = n
    · subst hin
      exact ⟨⟨c, hc, by simp (disch := omega) only [mu_s, mu_o], by simp (disch := omega) only [mu_s, mu_o]⟩, ⟨k, by omega, by simp (disch := omega) only [mu_s, mu_o], by simp (disch := omega) only [mu_s, mu_o]⟩⟩
    · obtain ⟨⟨c2, hc2, e5, e6⟩, h7⟩ := h4 i (by omega)
      exact ⟨⟨c2, hc2, by simp (disch := omega) only [mu_o, e5], by simp (disch := omega) only [mu_o, e6]⟩, by simpa (disch := omega) only [mu_o] using h7⟩
  · have hne : n = 5 := by omega
    subst hne
    have e4 : ∀ K, w_X5_add 23 (nI c) (nI k) M K = K (-4) M := fun K => c_addF (N := 5) rfl (by decide) m1 (by decide) (by omega)
    simp (disch := omega) [w_X8_see, w_X9_see, hm, e1, e2, e3, h5, h3, e4, f1, k_33, v_33, l_5, hI]
theorem p_book (x y : Int32) : e_Pair (fun M K => w_X8_book 0 x y M K) (fun M K => w_X9_book 98 x y M K) := by
  intro M hI
  obtain ⟨n, hn, f1, m1, h4⟩ := hI.1.2.2.2.2.2.2.2
  show w_X8_book 0 x y M _
  by_cases hm : x = -1
  · subst hm
    simp [w_X8_book, w_X9_book, c_clear, k_35, v_35]
    refine e_set hI (fun a ha => by simp (disch := omega) only [ap_mu_n]) (e_uBook hI.1 (fun a ha hb => by simp (disch := omega) only [ap_mu_n]) (fun j hj hb => by simp (disch := omega) only [mu_o]) ?_)
    exact ⟨0, by omega, by simp (disch := omega) only [mu_s, ← l_0], by simp (disch := omega) only [mu_s, mu_o, ← l_0], fun i hi => absurd hi (by omega)⟩
  rcases e_ix x (n := 16) (by decide) with h | ⟨c, hc, rfl⟩
  · have e1 : ∀ M' K, w_X8_isCell x M' K = K 0 M' := fun M' K => c_isCell0 h
    have e2 : ∀ M' K, w_X9_isCell x M' K = K 0 M' := fun M' K => m_isCell0 h
    simp [w_X8_book, w_X9_book, hm, e1, e2, hI]
  have e1 : ∀ M' K, w_X8_isCell (nI c) M' K = K 1 M' := fun M' K => c_isCell1 hc
  have e2 : ∀ M' K, w_X9_isCell (nI c) M' K = K 1 M' := fun M' K => m_isCell1 hc
  rcases e_ix y (n := 100) (by decide) with h | ⟨k, hk, rfl⟩
  · have e3 : ∀ M' K, w_X9_in y 0 99 M' K = K 0 M' := fun M' K => by rw [l_99]; exact m_in0 (by decide) h
    rcases h with h | ⟨h1, h2⟩
    · simp [w_X8_book, w_X9_book, hm, e1, e2, e3, h, hI]
    · have h3 : ¬ y ≤ 99 := i_nle (i_lt1 (n := 99) (by decide) h2)
      have h5 : ¬ y < 0 := i_nlt h1
      simp [w_X8_book, w_X9_book, hm, e1, e2, e3, h3, h5, hI]
  have h3 : nI k ≤ 99 := by rw [l_99, n_le (by omega) (by decide)]; omega
  have h5 : ¬ nI k < 0 := n_neg (by omega)
  have e3 : ∀ M' K, w_X9_in (nI k) 0 99 M' K = K 1 M' := fun M' K => by rw [l_99, l_0]; exact m_in1 (by omega) (by omega) (by decide)
  by_cases hlt : n < 8
  · have hne : ¬ n = 8 := by omega
    have e4 : ∀ K, w_X5_add 29 (nI c) (nI k) M K = K (nI (n + 1)) (ap_mu (ap_mu (ap_mu M 30 n (nI c)) 31 n (nI k)) 29 2 (nI (n + 1))) := fun K => c_add (N := 8) rfl rfl (by decide) m1 hlt
    simp (disch := omega) [w_X8_book, w_X9_book, hm, e1, e2, e3, h5, h3, e4, mu_s, mu_o, f1, k_35, v_35, l_8, l_110, l_118, n_eq, hne, nI_add, n_cl, n_vp, nI_1]
    refine ⟨by omega, by omega, e_set hI (fun a ha => by simp (disch := omega) only [ap_mu_n]) (e_uBook hI.1 (fun a ha hb => by simp (disch := omega) only [ap_mu_n]) (fun j hj hb => by simp (disch := omega) only [mu_o]) ?_)⟩
    refine ⟨n + 1, hlt, by simp (disch := omega) only [mu_s], by simp (disch := omega) only [mu_s, mu_o], fun i hi => ?_⟩
    by_cases hin : i = n
    · subst hin
      exact ⟨⟨c, hc, by simp (disch := omega) only [mu_s, mu_o], by simp (disch := omega) only [mu_s, mu_o]⟩, by simp (disch := omega) only [mu_s, mu_o]⟩
    · obtain ⟨⟨c2, hc2, e5, e6⟩, h7⟩ := h4 i (by omega)
      exact ⟨⟨c2, hc2, by simp (disch := omega) only [mu_o, e5], by simp (disch := omega) only [mu_o, e6]⟩, by simpa (disch := omega) only [mu_o] using h7⟩
  · have hne : n = 8 := by omega
    subst hne
    have e4 : ∀ K, w_X5_add 29 (nI c) (nI k) M K = K (-4) M := fun K => c_addF (N := 8) rfl (by decide) m1 (by decide) (by omega)
    simp (disch := omega) [w_X8_book, w_X9_book, hm, e1, e2, e3, h5, h3, e4, f1, k_35, v_35, l_8, hI]
