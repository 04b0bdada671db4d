theorem c_ab (a b : Nat) (h : a < 6) (hb : b < 64) : (nI b >>> (nI a &&& 31)) &&& 1 = nI (b / 2 ^ a % 2) := by
  have key : ∀ a, a < 6 → ∀ b, b < 64 → (nI b >>> (nI a &&& 31)) &&& 1 = nI (b / 2 ^ a % 2) := by decide +kernel
  exact key a h b hb
theorem m_plan55 {x y : Int32} {n : Nat} {M : ap_Mem} {K : Int32 → ap_Mem → Prop} (f1 : M 99 34 = nI n) (hlt : n < 8) : w_X9_plan_55 98 x y M K = K (nI (n + 1)) (ap_mu (ap_mu (ap_mu M 99 (94 + n) x) 99 (102 + n) y) 99 34 (nI (n + 1))) := by
  have hne : ¬ n = 8 := by omega
  have h2 : 94 + n < 936 := by omega
  have h3 : 102 + n < 936 := by omega
  simp (disch := omega) [w_X9_plan_55, mu_s, mu_o, f1, k_34, v_34, l_8, l_94, l_102, n_eq, hne, nI_add, n_cl, n_vp, nI_1, h2, h3]
theorem m_plan55F {x y : Int32} {M : ap_Mem} {K : Int32 → ap_Mem → Prop} (f1 : M 99 34 = nI 8) : w_X9_plan_55 98 x y M K = K (-4) M := by
  simp (disch := omega) [w_X9_plan_55, f1, k_34, v_34, l_8]
theorem p_plan (x y : Int32) : e_Pair (fun M K => w_X8_plan 0 x y M K) (fun M K => w_X9_plan 98 x y M K) := by
  intro M hI
  obtain ⟨n, hn, f1, m1, h4⟩ := hI.1.2.2.2.2.2.2.1
  obtain ⟨np, A, hp1, hp2, hp3, hp4, -⟩ := hI.1.2.2.1
  show w_X8_plan 0 x y M _
  by_cases hm : x = -1
  · subst hm
    simp [w_X8_plan, w_X9_plan, c_clear, k_34, v_34]
    refine e_set hI (fun a ha => by simp (disch := omega) only [ap_mu_n]) (e_uPlan hI.1 (fun a ha hb => by simp (disch := omega) only [ap_mu_n]) (fun j hj hb => by simp (disch := omega) only [mu_o]) ?_)
    exact ⟨0, by omega, by simp (disch := omega) only [mu_s, ← l_0], by simp (disch := omega) only [mu_s, mu_o, ← l_0], fun i hi => absurd hi (by omega)⟩
  have add : (x = nI 0 ∨ (x = nI 1 ∧ ∃ p, p < 6 ∧ y = nI p) ∨ (x = nI 2 ∧ ∃ p, p < 6 ∧ y = nI p) ∨ (x = nI 3 ∧ ∃ c, c < 16 ∧ y = nI c)) → w_X5_add 26 x y M (fun r1 M1 => w_X9_plan_55 98 x y M1 (fun r2 M2 => r1 = r2 ∧ e_Inv M2)) := by
    intro hx
    by_cases hlt : n < 8
    · rw [c_add (N := 8) rfl rfl (by decide) m1 hlt, m_plan55 (by simp (disch := omega) only [mu_o, f1]) hlt]
      refine ⟨rfl, e_set hI (fun a ha => by simp (disch := omega) only [ap_mu_n]) (e_uPlan hI.1 (fun a ha hb => by simp (disch := omega) only [ap_mu_n]) (fun j hj hb => by simp (disch := omega) only [mu_o]) ?_)⟩
      refine ⟨n + 1, hlt, by simp (disch := omega) only [mu_s, mu_o], by simp (disch := omega) only [mu_s, mu_o], fun i hi => ?_⟩
      by_cases hin : i = n
      · subst hin
        refine ⟨by simp (disch := omega) only [mu_s, mu_o], by simp (disch := omega) only [mu_s, mu_o], ?_⟩
        have e1 : (ap_mu (ap_mu (ap_mu (ap_mu (ap_mu (ap_mu M 27 i x) 28 i y) 26 2 (nI (i + 1))) 99 (94 + i) x) 99 (102 + i) y) 99 34 (nI (i + 1))) 99 (94 + i) = x := by simp (disch := omega) only [mu_s, mu_o]
        have e2 : (ap_mu (ap_mu (ap_mu (ap_mu (ap_mu (ap_mu M 27 i x) 28 i y) 26 2 (nI (i + 1))) 99 (94 + i) x) 99 (102 + i) y) 99 34 (nI (i + 1))) 99 (102 + i) = y := by simp (disch := omega) only [mu_s, mu_o]
        rw [e1, e2]
        exact hx
      · have h5 := h4 i (by omega)
        simpa (disch := omega) only [mu_o] using h5
    · have hne : n = 8 := by omega
      subst hne
      rw [c_addF (N := 8) rfl (by decide) m1 (by decide) (by omega), m_plan55F f1]
      exact ⟨rfl, hI⟩
  by_cases h0 : x = 0
  · subst h0
    have := add (Or.inl rfl)
    simpa [w_X8_plan, w_X9_plan, w_X9_plan_41, m_in] using this
  by_cases h1 : x = 1
  · subst h1
    rcases e_ix y (n := np) (by omega) with h | ⟨j, hj, rfl⟩
    · simp [w_X8_plan, w_X9_plan, m_in, c_has0 hp4 h, m_isPerson0 (q := 98) hp3 (by omega) h, hI]
    · have e2 : ∀ (M' : ap_Mem) K, M' 99 30 = nI np → w_X9_isPerson 98 (nI j) M' K = K 1 M' := fun M' K h => m_isPerson1 h (by omega) hj
      have := add (Or.inr (Or.inl ⟨rfl, j, by omega, rfl⟩))
      simp [w_X8_plan, c_has1 hp4 (by omega) hj]
      by_cases hlt : n < 8
      · rw [c_add (N := 8) rfl rfl (by decide) m1 hlt] at this ⊢
        simpa (disch := first | omega | simp (disch := omega) only [mu_o, hp3]) [w_X9_plan, w_X9_plan_41, m_in, e2] using this
      · rw [c_addF (N := 8) rfl (by decide) m1 (by omega) (by omega)] at this ⊢
        simpa (disch := first | omega | simp (disch := omega) only [mu_o, hp3]) [w_X9_plan, w_X9_plan_41, m_in, e2] using this
  by_cases h2 : x = 2
  · subst h2
    rcases e_ix y (n := np) (by omega) with h | ⟨j, hj, rfl⟩
    · simp [w_X8_plan, w_X9_plan, m_in, c_has0 hp4 h, m_isPerson0 (q := 98) hp3 (by omega) h, hI]
    · have e2 : ∀ (M' : ap_Mem) K, M' 99 30 = nI np → w_X9_isPerson 98 (nI j) M' K = K 1 M' := fun M' K h => m_isPerson1 h (by omega) hj
      have := add (Or.inr (Or.inr (Or.inl ⟨rfl, j, by omega, rfl⟩)))
      simp [w_X8_plan, c_has1 hp4 (by omega) hj]
      by_cases hlt : n < 8
      · rw [c_add (N := 8) rfl rfl (by decide) m1 hlt] at this ⊢
        simpa (disch := first | omega | simp (disch := omega) only [mu_o, hp3]) [w_X9_plan, w_X9_plan_41, m_in, e2] using this
      · rw [c_addF (N := 8) rfl (by decide) m1 (by omega) (by omega)] at this ⊢
        simpa (disch := first | omega | simp (disch := omega) only [mu_o, hp3]) [w_X9_plan, w_X9_plan_41, m_in, e2] using this
  by_cases h3 : x = 3
  · subst h3
    rcases e_ix y (n := 16) (by decide) with h | ⟨c, hc, rfl⟩
    · have e1 : ∀ M' K, w_X8_isCell y M' K = K 0 M' := fun M' K => c_isCell0 h
      have e2 : ∀ M' K, w_X9_isCell y M' K = K 0 M' := fun M' K => m_isCell0 h
      simp [w_X8_plan, w_X9_plan, w_X9_plan_41, m_in, e1, e2, hI]
    · have e1 : ∀ M' K, w_X8_isCell (nI c) M' K = K 1 M' := fun M' K => c_isCell1 hc
      have e2 : ∀ M' K, w_X9_isCell (nI c) M' K = K 1 M' := fun M' K => m_isCell1 hc
      have := add (Or.inr (Or.inr (Or.inr ⟨rfl, c, hc, rfl⟩)))
      simpa [w_X8_plan, w_X9_plan, w_X9_plan_41, m_in, e1, e2] using this
  · have h5 : ¬ (0 ≤ x ∧ x ≤ 3) := by grind
    simp [w_X8_plan, w_X9_plan, m_in, hm, h0, h1, h2, h3, h5, hI]
