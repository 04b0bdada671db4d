theorem p_feed (x : Int32) : e_Pair (fun M K => w_X8_feed 0 x M K) (fun M K => w_X9_feed 98 x M K) := by
  intro M hI
  obtain ⟨n, hn, f1, m1, h4⟩ := hI.1.1
  show w_X8_feed 0 x M _
  rcases e_ix x (n := 128) (by decide) with h | ⟨c, hc, rfl⟩
  · have e2 : ∀ M' K, w_X9_in x 0 127 M' K = K 0 M' := fun M' K => by rw [l_127]; exact m_in0 (by decide) h
    rcases h with h | ⟨h1, h2⟩
    · simp [w_X8_feed, w_X9_feed, h, e2, hI]
    · have h3 : ¬ x ≤ 127 := i_nle (i_lt1 (n := 127) (by decide) h2)
      have h5 : ¬ x < 0 := i_nlt h1
      simp [w_X8_feed, w_X9_feed, h5, h3, e2, hI]
  · have h3 : nI c ≤ 127 := by rw [l_127, n_le (by omega) (by decide)]; omega
    have h5 : ¬ nI c < 0 := n_neg (by omega)
    have e2 : ∀ M' K, w_X9_in (nI c) 0 127 M' K = K 1 M' := fun M' K => by rw [l_127, l_0]; exact m_in1 (by omega) (by omega) (by decide)
    by_cases hlt : n < 100
    · have hne : ¬ n = 100 := by omega
      have e1 : ∀ K, w_X5_add 2 (nI c) 0 M K = K (nI (n + 1)) (ap_mu (ap_mu (ap_mu M 3 n (nI c)) 4 n 0) 2 2 (nI (n + 1))) := fun K => c_add (N := 100) rfl rfl (by decide) m1 hlt
      simp (disch := omega) [w_X8_feed, w_X9_feed, h5, h3, e2, e1, mu_s, mu_o, f1, k_36, v_36, l_100, l_126, n_eq, hne, nI_add, n_cl, n_vp, nI_1, hlt]
      refine ⟨by omega, e_set hI (fun a ha => by simp (disch := omega) only [ap_mu_n]) (e_uTape hI.1 (fun a ha hb => by simp (disch := omega) only [ap_mu_n]) (fun j hj hb => by simp (disch := omega) only [mu_o]) ?_)⟩
      refine ⟨n + 1, hlt, by simp (disch := omega) only [mu_s], by simp (disch := omega) only [mu_s, mu_o], fun i hi => ?_⟩
      by_cases hin : i = n
      · subst hin
        exact ⟨c, hc, by simp (disch := omega) only [mu_s, mu_o], by simp (disch := omega) only [mu_s, mu_o]⟩
      · obtain ⟨c2, hc2, e3, e4⟩ := h4 i (by omega)
        exact ⟨c2, hc2, by simp (disch := omega) only [mu_o, e3], by simp (disch := omega) only [mu_o, e4]⟩
    · have hne : n = 100 := by omega
      subst hne
      have e1 : ∀ K, w_X5_add 2 (nI c) 0 M K = K (-4) M := fun K => c_addF (N := 100) rfl (by decide) m1 (by decide) (by omega)
      simp (disch := omega) [w_X8_feed, w_X9_feed, h5, h3, e2, e1, f1, k_36, v_36, l_100, hI]
