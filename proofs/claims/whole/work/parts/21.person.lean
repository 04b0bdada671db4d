theorem c_folkAdd {n A : Nat} {a b c : Int32} {M : ap_Mem} {K : Int32 → ap_Mem → Prop} (hn : n < 6) (hA : A < 64) (m5 : M 13 5 = nI n) (m4 : M 13 4 = nI A) : w_X3_add 13 a b c M K = K (nI n) (ap_mu (ap_mu (ap_mu (ap_mu (ap_mu (ap_mu (ap_mu (ap_mu (ap_mu M 14 n a) 15 n b) 16 n c) 13 4 (nI (e_off A n))) 17 (n * 4) 0) 17 (n * 4 + 1) 0) 17 (n * 4 + 2) 0) 17 (n * 4 + 3) 0) 13 5 (nI (n + 1))) := by
  have h1 : nI n < 6 := by rw [l_6, n_lt (by omega) (by decide)]; exact hn
  have e2 : ∀ (M' : ap_Mem) K, M' 13 4 = nI A → w_X3_setAway 13 (nI n) 0 M' K = K (ap_mu M' 13 4 (nI (e_off A n))) := fun M' K h => c_setAway0 h hA hn
  have h4 : n * 4 < 24 := by omega
  have h5 : n * 4 + 1 < 24 := by omega
  have h6 : n * 4 + 2 < 24 := by omega
  have h7 : n * 4 + 3 < 24 := by omega
  have q0 : nI (n * 4) + 0 = nI (n * 4) := by rw [l_0, nI_add, Nat.add_zero]
  have q1 : nI (n * 4) + 1 = nI (n * 4 + 1) := nI_1 _
  have q2 : nI (n * 4) + 2 = nI (n * 4 + 2) := by rw [l_2, nI_add]
  have q3 : nI (n * 4) + 3 = nI (n * 4 + 3) := by rw [l_3, nI_add]
  have q4 : nI n * 4 = nI (n * 4) := by rw [l_4, pk_mul]
  have q5 : nI (n + 1) - 1 = nI n := nI_pred n
  have u : ∀ n x M, w_X3_add_54 13 K (n + 1) x M = w_X3_add_54_s (w_X3_add_54 13 K n) 13 x M K := fun _ _ _ => rfl
  simp (disch := first | omega | simp (disch := omega) only [mu_o, m4]) [w_X3_add, m5, h1, n_vp, n_cl, mu_s, mu_o, e2, hn]
  rw [u 4095]
  simp (disch := omega) [w_X3_add_54_s, m5, n_vp, n_cl, mu_s, mu_o, q0, q1, q2, q3, q4, q5, h4, h5, h6, h7, nI_1]
  rw [u 4094]
  simp (disch := omega) [w_X3_add_54_s, m5, n_vp, n_cl, mu_s, mu_o, q0, q1, q2, q3, q4, q5, h4, h5, h6, h7, nI_1]
  rw [u 4093]
  simp (disch := omega) [w_X3_add_54_s, m5, n_vp, n_cl, mu_s, mu_o, q0, q1, q2, q3, q4, q5, h4, h5, h6, h7, nI_1]
  rw [u 4092]
  simp (disch := omega) [w_X3_add_54_s, m5, n_vp, n_cl, mu_s, mu_o, q0, q1, q2, q3, q4, q5, h4, h5, h6, h7, nI_1]
  rw [u 4091]
  simp (disch := omega) [w_X3_add_54_s, m5, n_vp, n_cl, mu_s, mu_o, q0, q1, q2, q3, q4, q5, h4, h5, h6, h7, nI_1]
theorem m_folkAdd {n : Nat} {M : ap_Mem} {K : Int32 → ap_Mem → Prop} (hn : n < 6) (f30 : M 99 30 = nI n) : w_X9_person_103 98 K 4096 (nI n) 0 M = K (nI n) (ap_mu (ap_mu (ap_mu (ap_mu (ap_mu M 99 (50 + 4 * n) 0) 99 (50 + 4 * n + 1) 0) 99 (50 + 4 * n + 2) 0) 99 (50 + 4 * n + 3) 0) 99 30 (nI (n + 1))) := by
  have h4 : 50 + 4 * n < 936 := by omega
  have h5 : 50 + 4 * n + 1 < 936 := by omega
  have h6 : 50 + 4 * n + 2 < 936 := by omega
  have h7 : 50 + 4 * n + 3 < 936 := by omega
  have q4 : 50 + 4 * nI n = nI (50 + 4 * n) := by rw [l_4, pk_mul, l_50, nI_add]
  have q0 : nI (50 + 4 * n) + 0 = nI (50 + 4 * n) := by rw [l_0, nI_add, Nat.add_zero]
  have q1 : nI (50 + 4 * n) + 1 = nI (50 + 4 * n + 1) := nI_1 _
  have q2 : nI (50 + 4 * n) + 2 = nI (50 + 4 * n + 2) := by rw [l_2, nI_add]
  have q3 : nI (50 + 4 * n) + 3 = nI (50 + 4 * n + 3) := by rw [l_3, nI_add]
  have u : ∀ n x y M, w_X9_person_103 98 K (n + 1) x y M = w_X9_person_103_s (w_X9_person_103 98 K n) 98 x y M K := fun _ _ _ _ => rfl
  rw [u 4095]
  simp (disch := omega) [w_X9_person_103_s, f30, n_vp, n_cl, mu_s, mu_o, q0, q1, q2, q3, q4, h4, h5, h6, h7, nI_1, k_30, v_30]
  rw [u 4094]
  simp (disch := omega) [w_X9_person_103_s, f30, n_vp, n_cl, mu_s, mu_o, q0, q1, q2, q3, q4, h4, h5, h6, h7, nI_1, k_30, v_30]
  rw [u 4093]
  simp (disch := omega) [w_X9_person_103_s, f30, n_vp, n_cl, mu_s, mu_o, q0, q1, q2, q3, q4, h4, h5, h6, h7, nI_1, k_30, v_30]
  rw [u 4092]
  simp (disch := omega) [w_X9_person_103_s, f30, n_vp, n_cl, mu_s, mu_o, q0, q1, q2, q3, q4, h4, h5, h6, h7, nI_1, k_30, v_30]
  rw [u 4091]
  simp (disch := omega) [w_X9_person_103_s, f30, n_vp, n_cl, mu_s, mu_o, q0, q1, q2, q3, q4, h4, h5, h6, h7, nI_1, k_30, v_30]
theorem p_person (x y z : Int32) : e_Pair (fun M K => w_X8_person 0 x y z M K) (fun M K => w_X9_person 98 x y z M K) := by
  intro M hI
  obtain ⟨n, A, hn, hA, f30, m5, m4, hp, hl⟩ := hI.1.2.2.1
  show w_X8_person 0 x y z M _
  rcases e_ix x (n := 7) (by decide) with h | ⟨kd, hkd, rfl⟩
  · have e1 : ∀ M' K, w_X8_isKind x M' K = K 0 M' := fun M' K => c_isKind0 h
    have e2 : ∀ M' K, w_X9_in x 0 6 M' K = K 0 M' := fun M' K => by rw [l_6]; exact m_in0 (by decide) h
    simp [w_X8_person, w_X9_person, e1, e2, hI]
  have e1 : ∀ M' K, w_X8_isKind (nI kd) M' K = K 1 M' := fun M' K => c_isKind1 hkd
  have e2 : ∀ M' K, w_X9_in (nI kd) 0 6 M' K = K 1 M' := fun M' K => by rw [l_6, l_0]; exact m_in1 (by omega) (by omega) (by decide)
  rcases e_ix z (n := 16) (by decide) with h | ⟨c, hc, rfl⟩
  · have e3 : ∀ M' K, w_X8_isCell z M' K = K 0 M' := fun M' K => c_isCell0 h
    have e4 : ∀ M' K, w_X9_isCell z M' K = K 0 M' := fun M' K => m_isCell0 h
    simp [w_X8_person, w_X9_person, e1, e2, e3, e4, hI]
  have e3 : ∀ M' K, w_X8_isCell (nI c) M' K = K 1 M' := fun M' K => c_isCell1 hc
  have e4 : ∀ M' K, w_X9_isCell (nI c) M' K = K 1 M' := fun M' K => m_isCell1 hc
  rcases e_ix y (n := 10) (by decide) with h | ⟨v, hv, rfl⟩
  · have e5 : ∀ M' K, w_X9_in y 0 9 M' K = K 0 M' := fun M' K => by rw [l_9]; exact m_in0 (by decide) h
    have e6 : ∀ M' K, w_X8_isDigit y M' K = K 0 M' := fun M' K => c_isDigit0 h
    simp [w_X8_person, w_X9_person, e1, e2, e3, e4, e5, e6, hI]
  have e5 : ∀ M' K, w_X9_in (nI v) 0 9 M' K = K 1 M' := fun M' K => by rw [l_9, l_0]; exact m_in1 (by omega) (by omega) (by decide)
  have e6 : ∀ M' K, w_X8_isDigit (nI v) M' K = K 1 M' := fun M' K => c_isDigit1 hv
  by_cases hlt : n < 6
  · have hne : ¬ nI n = (6 : Int32) := by rw [l_6, n_eq (by omega) (by decide)]; omega
    have e7 : ∀ K, w_X3_add 13 (nI kd) (nI v) (nI c) M K = _ := fun K => c_folkAdd hlt hA m5 m4
    have e8 : ∀ (M' : ap_Mem) K, M' 99 30 = nI n → w_X9_person_103 98 K 4096 (nI n) 0 M' = _ := fun M' K h => m_folkAdd hlt h
    have g1 : 38 + n < 936 := by omega
    have g2 : 44 + n < 936 := by omega
    have g3 : 18 + n < 936 := by omega
    have g4 : 24 + n < 936 := by omega
    have e9 := e_offB n (by omega) A hA
    simp (disch := first | omega | simp (disch := omega) only [mu_o, f30]) [w_X8_person, w_X9_person, e1, e2, e3, e4, e5, e6, e7, e8, mu_o, f30, k_30, v_30, hne, l_38, l_44, l_18, l_24, nI_add, n_vp, n_cl, g1, g2, g3, g4]
    refine e_set hI (fun a ha => by simp (disch := omega) only [ap_mu_n]) (e_uFolk hI.1 (fun a ha hb => by simp (disch := omega) only [ap_mu_n]) (fun j hj hb => by simp (disch := omega) only [mu_o]) ?_)
    refine ⟨n + 1, e_off A n, hlt, e9.1, by simp (disch := omega) only [mu_s, mu_o], by simp (disch := omega) only [mu_s, mu_o], by simp (disch := omega) only [mu_s, mu_o], fun i hi => ?_, fun j hj => ?_⟩
    · by_cases hin : i = n
      · subst hin
        refine ⟨⟨kd, by omega, by simp (disch := omega) only [mu_s, mu_o], by simp (disch := omega) only [mu_s, mu_o]⟩, ⟨v, by omega, by simp (disch := omega) only [mu_s, mu_o], by simp (disch := omega) only [mu_s, mu_o]⟩, ⟨c, hc, by simp (disch := omega) only [mu_s, mu_o], by simp (disch := omega) only [mu_s, mu_o]⟩, ?_⟩
        rw [e9.2.2 i (by omega), if_pos rfl]
        simp (disch := omega) only [mu_s, mu_o, ← l_0]
      · obtain ⟨g5, g6, g7, g8⟩ := hp i (by omega)
        refine ⟨by simpa (disch := omega) only [mu_o] using g5, by simpa (disch := omega) only [mu_o] using g6, by simpa (disch := omega) only [mu_o] using g7, ?_⟩
        rw [e9.2.2 i (by omega), if_neg hin]
        simpa (disch := omega) only [mu_o] using g8
    · rcases (by omega : j < 4 * n ∨ j = n * 4 ∨ j = n * 4 + 1 ∨ j = n * 4 + 2 ∨ j = n * 4 + 3) with h | h | h | h | h
      · simp (disch := omega) only [mu_o]
        exact hl j h
      · rw [show 50 + j = 50 + 4 * n by omega, h]
        simp (disch := omega) only [mu_s, mu_o]
      · rw [show 50 + j = 50 + 4 * n + 1 by omega, h]
        simp (disch := omega) only [mu_s, mu_o]
      · rw [show 50 + j = 50 + 4 * n + 2 by omega, h]
        simp (disch := omega) only [mu_s, mu_o]
      · rw [show 50 + j = 50 + 4 * n + 3 by omega, h]
        simp (disch := omega) only [mu_s, mu_o]
  · have hne : n = 6 := by omega
    subst hne
    have h1 : ¬ (6 : Int32) < (6 : Int32) := by decide
    simp (disch := omega) [w_X8_person, w_X9_person, w_X3_add, e1, e2, e3, e4, e5, e6, m5, h1, f30, k_30, v_30, ← l_6, hI]
