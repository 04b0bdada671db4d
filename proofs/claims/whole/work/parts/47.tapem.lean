/-! town: the reference reads the tape -/
theorem m_here {T : Nat → Nat} {n p : Nat} {M : ap_Mem} {K : Int32 → ap_Mem → Prop} (h : t_MT T n M p) : w_X9_here 98 M K = K (t_hI T n p) M := by
  obtain ⟨h1, h2, h3, h4, h5, h6⟩ := h
  unfold w_X9_here t_hI
  rw [h4, h5, show (98 + 1 : Nat) = 99 from rfl, show (126 : Int32) = nI 126 from rfl, nI_add, n_cl (by omega), n_vp (by omega)]
  by_cases hp : p < n
  · rw [if_neg (by rw [n_le (by omega) (by omega)]; omega), h6 p hp, eq_true (by omega : 126 + p < 936), true_and, if_pos hp]
  · rw [if_pos (by rw [n_le (by omega) (by omega)]; omega), if_neg hp]
theorem t_add0 (x : Nat) : nI x + 0 = nI x := by rw [l_0, nI_add, Nat.add_zero]
theorem m_mustOk {T : Nat → Nat} {n p c : Nat} {M : ap_Mem} {K : ap_Mem → Prop} (h : t_MT T n M p) (h8 : M 98 8 = 0) (hc : c < 128) : w_X9_must 98 (nI c) M K = if t_hd T n p = c then K (ap_mu (ap_mu M 98 8 0) 98 6 (nI (p + 1))) else K (ap_mu (ap_mu M 98 8 1) 98 6 (nI p)) := by
  have h6 := h.2.2.2.1
  unfold w_X9_must
  rw [if_pos h8, m_here h, t_if (t_hIe h.2.2.1 hc)]
  by_cases e : t_hd T n p = c
  · rw [if_pos e, if_pos e]
    unfold w_X9_must_21 w_X9_must_41
    simp only [forall_eq]
    rw [eq_true ap_B0, true_and, mu_s, if_pos rfl, mu_o _ _ (by omega), h6, nI_1]
  · rw [if_neg e, if_neg e]
    unfold w_X9_must_16 w_X9_must_21 w_X9_must_41
    simp only [forall_eq]
    rw [eq_true ap_B1, true_and, mu_s, if_neg (by decide), mu_o _ _ (by omega), h6, t_add0]
theorem m_mustEr {e : Nat} {c : Int32} {M : ap_Mem} {K : ap_Mem → Prop} (h8 : M 98 8 = 1) (h6 : M 98 6 = nI e) : w_X9_must 98 c M K = K (ap_mu (ap_mu M 98 8 1) 98 6 (nI e)) := by
  unfold w_X9_must
  rw [if_neg (by rw [h8]; decide)]
  unfold w_X9_must_16 w_X9_must_21 w_X9_must_41
  simp only [forall_eq]
  rw [eq_true ap_B1, true_and, mu_s, if_neg (by decide), mu_o _ _ (by omega), h6, t_add0]
theorem t_chix : ∀ w, w < 6 → ∀ c, c < 128 → t_ix w c < ap_sL w → t_ch w (t_ix w c) = c := by decide +kernel
theorem m_among {T : Nat → Nat} {n p w : Nat} {M : ap_Mem} {K : Int32 → ap_Mem → Prop} (h : t_MT T n M p) (hw : w < 6) : w_X9_among 98 w M K = if t_ix w (t_hd T n p) < ap_sL w then K (nI (t_ix w (t_hd T n p))) (ap_mu M 98 6 (nI (p + 1))) else K (-1) M := by
  obtain ⟨-, h5, h6⟩ := t_slen w hw
  have hT := h.2.2.1
  have hle : t_ix w (t_hd T n p) ≤ ap_sL w ∧ (t_ix w (t_hd T n p) < ap_sL w → t_ch w (t_ix w (t_hd T n p)) = t_hd T n p) := by
    unfold t_hd
    split
    · exact ⟨(t_ixs w hw _ (hT p (by assumption))).2.2, t_chix w hw _ (hT p (by assumption))⟩
    · rw [t_ixn w hw]
      exact ⟨by omega, fun h => by omega⟩
  have lp : ∀ (m j fuel : Nat), j + m = ap_sL w → m < fuel → j ≤ t_ix w (t_hd T n p) → w_X9_among_2 98 w K fuel (nI j) M = if t_ix w (t_hd T n p) < ap_sL w then K (nI (t_ix w (t_hd T n p))) (ap_mu M 98 6 (nI (p + 1))) else K (-1) M := by
    intro m
    induction m with
    | zero =>
      intro j fuel hj hf hi
      obtain ⟨k, rfl⟩ : ∃ k, fuel = k + 1 := ⟨fuel - 1, by omega⟩
      show w_X9_among_2_s _ 98 w (nI j) M K = _
      unfold w_X9_among_2_s
      rw [j_len hw, if_pos (by rw [n_le (by omega) (by omega)]; omega), if_neg (by omega)]
    | succ m ih =>
      intro j fuel hj hf hi
      obtain ⟨k, rfl⟩ : ∃ k, fuel = k + 1 := ⟨fuel - 1, by omega⟩
      show w_X9_among_2_s (w_X9_among_2 98 w K k) 98 w (nI j) M K = _
      unfold w_X9_among_2_s
      have hch := (t_chs w hw j (by omega) (by omega)).2
      rw [j_len hw, if_neg (by rw [n_le (by omega) (by omega)]; omega), m_here h, j_char hw (by omega), t_if (t_hIe hT hch)]
      by_cases e : t_hd T n p = t_ch w j
      · have e2 : t_ix w (t_hd T n p) = j := by rw [e]; exact t_ixc w hw j (by omega) (by omega)
        rw [if_pos e, e2, if_pos (by omega), h.2.2.2.1, nI_1]
        simp only [forall_eq]
      · rw [if_neg e]
        simp only [forall_eq]
        rw [nI_1]
        refine ih (j + 1) k (by omega) (by omega) ?_
        by_cases e2 : j = t_ix w (t_hd T n p)
        · exfalso
          apply e
          rw [e2]
          exact (hle.2 (by omega)).symm
        · omega
  exact lp (ap_sL w) 0 4096 (by omega) (by omega) (by omega)
theorem t_dig : ∀ c, c < 128 → (((48 : Int32) ≤ nI c ∧ nI c ≤ 57) ↔ t_ix 3 c < 10) ∧ (t_ix 3 c < 10 → c = 48 + t_ix 3 c) := by decide +kernel
theorem t_dgI {T : Nat → Nat} {n p : Nat} (hT : ∀ i, i < n → T i < 128) : ((48 : Int32) ≤ t_hI T n p ∧ t_hI T n p ≤ 57) = (t_ix 3 (t_hd T n p) < 10) := by
  unfold t_hI t_hd
  by_cases h : p < n
  · rw [if_pos h, if_pos h]
    exact propext (t_dig _ (hT p h)).1
  · rw [if_neg h, if_neg h]
    decide +kernel
theorem m_figLp {T : Nat → Nat} {n p k : Nat} {M : ap_Mem} {K : Int32 → ap_Mem → Prop} (h : t_MT T n M p) (h8 : M 98 8 = 0) (ho : ∀ r, t_num T n p = .ok r → K (nI r.2) (ap_mu M 98 6 (nI r.1))) (hd : t_ix 3 (t_hd T n p) < 10) : w_X9_figures_34 98 K (k + 3) 0 0 M := by
  have hT := h.2.2.1
  have hp := t_ixlt (w := 3) (by decide) hd
  unfold t_num at ho
  rw [if_pos hd] at ho
  have e1 : t_hI T n p = nI (48 + t_ix 3 (t_hd T n p)) := by
    unfold t_hI
    rw [if_pos hp]
    unfold t_hd at hd ⊢
    rw [if_pos hp] at hd ⊢
    exact congrArg nI ((t_dig _ (hT p hp)).2 hd)
  show w_X9_figures_34_s (w_X9_figures_34 98 K (k + 2)) 98 0 0 M K
  unfold w_X9_figures_34_s
  rw [if_neg (by decide), if_pos h8, m_here h, m_in, t_if (t_dgI hT), if_pos hd, if_neg (by decide), if_pos rfl]
  unfold w_X9_figures_68
  rw [m_here h]
  rintro _ rfl _ rfl _ rfl
  rw [e1, l_10, l_0, pk_mul, nI_add, show (48 : Int32) = nI 48 from rfl, n_sub (by omega), show 10 * 0 + (48 + t_ix 3 (t_hd T n p)) - 48 = t_ix 3 (t_hd T n p) by omega, h.2.2.2.1, nI_1, nI_1]
  generalize ht : t_ix 3 (t_hd T n p) = d at *
  have h' : t_MT T n (ap_mu M 98 6 (nI (p + 1))) (p + 1) := by
    obtain ⟨h1, h2, h3, h4, h5, h6⟩ := h
    exact ⟨h1, hp, h3, by rw [mu_s], by simp (disch := omega) only [mu_o, h5], fun i hi => by simp (disch := omega) only [mu_o, h6 i hi]⟩
  have h8' : ap_mu M 98 6 (nI (p + 1)) 98 8 = 0 := by rw [mu_o _ _ (by omega), h8]
  show w_X9_figures_34_s (w_X9_figures_34 98 K (k + 1)) 98 (nI d) (nI (0 + 1)) _ K
  unfold w_X9_figures_34_s
  rw [if_neg (by decide), if_pos h8', m_here h', m_in, t_if (t_dgI hT)]
  by_cases h2 : d = 0
  · have := ho _ (by rw [if_pos h2])
    subst h2
    split
    · rw [if_neg (by decide), if_neg (by decide), if_pos (by decide)]
      exact this
    · rw [if_pos rfl]
      exact this
  · rw [if_neg h2] at ho
    by_cases h3 : t_ix 3 (t_hd T n (p + 1)) < 10
    · have := ho _ (by rw [if_pos h3])
      have hp3 := t_ixlt (w := 3) (by decide) h3
      have e3 : t_hI T n (p + 1) = nI (48 + t_ix 3 (t_hd T n (p + 1))) := by
        unfold t_hI
        rw [if_pos hp3]
        unfold t_hd at h3 ⊢
        rw [if_pos hp3] at h3 ⊢
        exact congrArg nI ((t_dig _ (hT _ hp3)).2 h3)
      rw [if_pos h3, if_neg (by decide), if_neg (by decide), l_0, if_neg (by rw [n_le (by omega) (by omega)]; omega)]
      unfold w_X9_figures_68
      rw [m_here h']
      rintro _ rfl _ rfl _ rfl
      rw [e3, l_10, pk_mul, nI_add, show (48 : Int32) = nI 48 from rfl, n_sub (by omega), show 10 * d + (48 + t_ix 3 (t_hd T n (p + 1))) - 48 = 10 * d + t_ix 3 (t_hd T n (p + 1)) by omega, mu_s, nI_1, nI_1, mu_mu]
      show w_X9_figures_34_s (w_X9_figures_34 98 K k) 98 _ _ _ K
      unfold w_X9_figures_34_s
      rw [if_pos (by decide)]
      exact this
    · have := ho _ (by rw [if_neg h3])
      rw [if_neg h3, if_pos rfl]
      exact this
theorem m_figOk {T : Nat → Nat} {n p : Nat} {M : ap_Mem} {K : Int32 → ap_Mem → Prop} (h : t_MT T n M p) (h8 : M 98 8 = 0) (ho : ∀ r, t_num T n p = .ok r → K (nI r.2) (ap_mu (ap_mu M 98 8 0) 98 6 (nI r.1))) (he : ∀ e, t_num T n p = .error e → K 0 (ap_mu M 98 8 1)) : w_X9_figures 98 M K := by
  have hT := h.2.2.1
  unfold w_X9_figures
  rw [if_pos h8, m_here h, m_in, t_if (t_dgI hT)]
  by_cases hd : t_ix 3 (t_hd T n p) < 10
  · rw [if_pos hd, if_neg (by decide)]
    unfold w_X9_figures_27
    refine ⟨ap_B0, ?_⟩
    rintro _ rfl
    refine m_figLp (k := 4093) ?_ (by rw [mu_s]) ho hd
    obtain ⟨h1, h2, h3, h4, h5, h6⟩ := h
    exact ⟨h1, h2, h3, by simp (disch := omega) only [mu_o, h4], by simp (disch := omega) only [mu_o, h5], fun i hi => by simp (disch := omega) only [mu_o, h6 i hi]⟩
  · rw [if_neg hd, if_pos rfl]
    unfold w_X9_figures_22 w_X9_figures_27
    refine ⟨ap_B1, ?_⟩
    rintro _ rfl
    show w_X9_figures_34_s (w_X9_figures_34 98 K 4095) 98 0 0 _ K
    unfold w_X9_figures_34_s
    rw [if_neg (by decide), mu_s, if_neg (by decide)]
    exact he p (by unfold t_num; rw [if_neg hd])
theorem m_figEr {M : ap_Mem} {K : Int32 → ap_Mem → Prop} (h8 : M 98 8 = 1) (h : K 0 (ap_mu M 98 8 1)) : w_X9_figures 98 M K := by
  unfold w_X9_figures
  rw [if_neg (by rw [h8]; decide)]
  unfold w_X9_figures_22 w_X9_figures_27
  refine ⟨ap_B1, ?_⟩
  rintro _ rfl
  show w_X9_figures_34_s (w_X9_figures_34 98 K 4095) 98 0 0 _ K
  unfold w_X9_figures_34_s
  rw [if_neg (by decide), mu_s, if_neg (by decide)]
  exact h
