/-! town: the reference reads an expression -/
def t_M0 (T : Nat → Nat) (n a : Nat) (M0 : ap_Mem) : Prop := a < 5 ∧ n ≤ 100 ∧ (∀ i, i < n → T i < 128) ∧ M0 98 5 = nI a ∧ M0 98 7 = nI n ∧ ∀ i, i < n → M0 99 (126 + i) = nI (T i)
def t_MF (a : Nat) (M0 M : ap_Mem) : Prop := (∀ q, q ≠ 98 → q ≠ 99 → M q = M0 q) ∧ (∀ j, j ≠ 6 → j ≠ 8 → j ≠ 9 → M 98 j = M0 98 j) ∧ (∀ j, j ≠ 226 + a → j ≠ 231 + a → ¬ (236 + 140 * a ≤ j ∧ j < 376 + 140 * a) → M 99 j = M0 99 j)
def t_MS (n a : Nat) (M0 M : ap_Mem) (p o bd : Nat) (L : List Int32) : Prop := t_MF a M0 M ∧ p ≤ n ∧ M 98 8 = 0 ∧ M 98 6 = nI p ∧ M 98 9 = nI o ∧ M 99 (226 + a) = nI bd ∧ M 99 (231 + a) = nI L.length ∧ ∀ (j : Nat) (z : Int32), L[j]? = some z → M 99 (236 + 140 * a + j) = z
def t_ME (a : Nat) (M0 M : ap_Mem) (e : Nat) : Prop := t_MF a M0 M ∧ M 98 8 = 1 ∧ M 98 6 = nI e
theorem t_MSt {T : Nat → Nat} {n a p o bd : Nat} {M0 M : ap_Mem} {L : List Int32} (h0 : t_M0 T n a M0) (h : t_MS n a M0 M p o bd L) : t_MT T n M p := by
  obtain ⟨a1, a2, a3, a4, a5, a6⟩ := h0
  obtain ⟨⟨b1, b2, b3⟩, c1, c2, c3, c4, c5, c6, c7⟩ := h
  exact ⟨a2, c1, a3, c3, by rw [b2 _ (by omega) (by omega) (by omega)]; exact a5, fun i hi => by rw [b3 _ (by omega) (by omega) (by omega)]; exact a6 i hi⟩
theorem t_MSm {n a p o bd p' o' : Nat} {M0 M M' : ap_Mem} {L : List Int32} (h : t_MS n a M0 M p o bd L) (h1 : ∀ q, q ≠ 98 → M' q = M q) (h2 : ∀ j, j ≠ 6 → j ≠ 8 → j ≠ 9 → M' 98 j = M 98 j) (h8 : M' 98 8 = 0) (h6 : M' 98 6 = nI p') (h9 : M' 98 9 = nI o') (hp : p' ≤ n) : t_MS n a M0 M' p' o' bd L := by
  obtain ⟨⟨b1, b2, b3⟩, c1, c2, c3, c4, c5, c6, c7⟩ := h
  refine ⟨⟨fun q hq hq2 => by rw [h1 q hq, b1 q hq hq2], fun j x y z => by rw [h2 j x y z, b2 j x y z], fun j x y z => by rw [h1 99 (by decide), b3 j x y z]⟩, hp, h8, h6, h9, ?_, ?_, ?_⟩
  · rw [h1 99 (by decide)]; exact c5
  · rw [h1 99 (by decide)]; exact c6
  · rw [h1 99 (by decide)]; exact c7
theorem t_MSe {n a p o bd e : Nat} {M0 M M' : ap_Mem} {L : List Int32} (h : t_MS n a M0 M p o bd L) (h1 : ∀ q, q ≠ 98 → M' q = M q) (h2 : ∀ j, j ≠ 6 → j ≠ 8 → j ≠ 9 → M' 98 j = M 98 j) (h8 : M' 98 8 = 1) (h6 : M' 98 6 = nI e) : t_ME a M0 M' e := by
  obtain ⟨⟨b1, b2, b3⟩, -⟩ := h
  exact ⟨⟨fun q hq hq2 => by rw [h1 q hq, b1 q hq hq2], fun j x y z => by rw [h2 j x y z, b2 j x y z], fun j x y z => by rw [h1 99 (by decide), b3 j x y z]⟩, h8, h6⟩
theorem t_MEm {a e : Nat} {M0 M M' : ap_Mem} (h : t_ME a M0 M e) (h1 : ∀ q, q ≠ 98 → M' q = M q) (h2 : ∀ j, j ≠ 6 → j ≠ 8 → j ≠ 9 → M' 98 j = M 98 j) (h8 : M' 98 8 = 1) (h6 : M' 98 6 = nI e) : t_ME a M0 M' e := by
  obtain ⟨⟨b1, b2, b3⟩, -⟩ := h
  exact ⟨⟨fun q hq hq2 => by rw [h1 q hq, b1 q hq hq2], fun j x y z => by rw [h2 j x y z, b2 j x y z], fun j x y z => by rw [h1 99 (by decide), b3 j x y z]⟩, h8, h6⟩
/-! the steps, from a state that is well -/
theorem m_must1 {T : Nat → Nat} {n a p o bd c : Nat} {M0 M : ap_Mem} {L : List Int32} {K : ap_Mem → Prop} (h0 : t_M0 T n a M0) (h : t_MS n a M0 M p o bd L) (hc : c < 128) (hy : t_hd T n p = c → ∀ M', t_MS n a M0 M' (p + 1) o bd L → K M') (hn : t_hd T n p ≠ c → ∀ M', t_ME a M0 M' p → K M') : w_X9_must 98 (nI c) M K := by
  have h8 := h.2.2.1
  rw [m_mustOk (t_MSt h0 h) h8 hc]
  split
  · rename_i e
    exact hy e _ (t_MSm h (fun q hq => by simp (disch := omega) only [ap_mu_n]) (fun j x y z => by simp (disch := omega) only [mu_o]) (by simp (disch := omega) only [mu_s, mu_o]) (by rw [mu_s]) (by simp (disch := omega) only [mu_o]; exact h.2.2.2.2.1) (t_hlt e hc).1)
  · rename_i e
    exact hn e _ (t_MSe h (fun q hq => by simp (disch := omega) only [ap_mu_n]) (fun j x y z => by simp (disch := omega) only [mu_o]) (by simp (disch := omega) only [mu_s, mu_o]) (by rw [mu_s]))
theorem m_must2 {a e : Nat} {c : Int32} {M0 M : ap_Mem} {K : ap_Mem → Prop} (h : t_ME a M0 M e) (hy : ∀ M', t_ME a M0 M' e → K M') : w_X9_must 98 c M K := by
  rw [m_mustEr h.2.1 h.2.2]
  exact hy _ (t_MEm h (fun q hq => by simp (disch := omega) only [ap_mu_n]) (fun j x y z => by simp (disch := omega) only [mu_o]) (by simp (disch := omega) only [mu_s, mu_o]) (by rw [mu_s]))
theorem m_emit1 {T : Nat → Nat} {n a p o bd : Nat} {x : Int32} {M0 M : ap_Mem} {L : List Int32} {K : ap_Mem → Prop} (h0 : t_M0 T n a M0) (h : t_MS n a M0 M p o bd L) (hL : L.length < 140) (hy : ∀ M', t_MS n a M0 M' p o bd (L ++ [x]) → K M') : w_X9_emits 98 x M K := by
  obtain ⟨⟨b1, b2, b3⟩, c1, c2, c3, c4, c5, c6, c7⟩ := h
  obtain ⟨a1, a2, a3, a4, a5, a6⟩ := h0
  have e5 : M 98 5 = nI a := by rw [b2 _ (by omega) (by omega) (by omega)]; exact a4
  unfold w_X9_emits
  rw [if_pos c2, show (98 + 1 : Nat) = 99 from rfl, e5, l_231, l_140, l_236, nI_add, pk_mul, nI_add, n_cl (by omega), c6, nI_add, n_cl (by omega), n_vp (by omega), n_vp (by omega)]
  refine ⟨by omega, by omega, ?_⟩
  rintro _ rfl
  rw [mu_o _ _ (by omega), e5, nI_add, n_vp (by omega), n_cl (by omega), mu_o _ _ (by omega), c6, nI_1]
  refine ⟨by omega, by omega, ?_⟩
  rintro _ rfl
  refine hy _ ⟨⟨fun q hq hq2 => ?_, fun j x y z => ?_, fun j x y z => ?_⟩, c1, ?_, ?_, ?_, ?_, ?_, fun j z hz => ?_⟩
  · simp (disch := omega) only [ap_mu_n]
    exact b1 q hq hq2
  · simp (disch := omega) only [mu_o]
    exact b2 j x y z
  · rw [mu_o _ _ (by omega), mu_o _ _ (by omega)]
    exact b3 j x y z
  · simp (disch := omega) only [mu_o, c2]
  · simp (disch := omega) only [mu_o, c3]
  · simp (disch := omega) only [mu_o, c4]
  · simp (disch := omega) only [mu_o, c5]
  · rw [mu_s, List.length_append]
    rfl
  · by_cases hj : j < L.length
    · rw [List.getElem?_append_left hj] at hz
      rw [mu_o _ _ (by omega), mu_o _ _ (by omega)]
      exact c7 j z hz
    · have hlt := (List.getElem?_eq_some_iff.mp hz).1
      rw [List.length_append] at hlt
      have hlt2 : j < L.length + 1 := hlt
      have : j = L.length := by omega
      subst this
      rw [List.getElem?_append_right (Nat.le_refl _), Nat.sub_self] at hz
      cases hz
      rw [mu_o _ _ (by omega), mu_s]
theorem m_emit2 {a e : Nat} {x : Int32} {M0 M : ap_Mem} {K : ap_Mem → Prop} (h : t_ME a M0 M e) (hy : K M) : w_X9_emits 98 x M K := by
  unfold w_X9_emits
  rw [if_neg (by rw [h.2.1]; decide)]
  exact hy
theorem m_fig1 {T : Nat → Nat} {n a p o bd : Nat} {M0 M : ap_Mem} {L : List Int32} {K : Int32 → ap_Mem → Prop} (h0 : t_M0 T n a M0) (h : t_MS n a M0 M p o bd L) (hy : ∀ r, t_num T n p = .ok r → ∀ M', t_MS n a M0 M' r.1 o bd L → K (nI r.2) M') (hn : ∀ e, t_num T n p = .error e → ∀ M', t_ME a M0 M' e → K 0 M') : w_X9_figures 98 M K := by
  refine m_figOk (t_MSt h0 h) h.2.2.1 (fun r hr => hy r hr _ ?_) (fun e he => hn e he _ ?_)
  · exact t_MSm h (fun q hq => by simp (disch := omega) only [ap_mu_n]) (fun j x y z => by simp (disch := omega) only [mu_o]) (by simp (disch := omega) only [mu_s, mu_o]) (by rw [mu_s]) (by simp (disch := omega) only [mu_o]; exact h.2.2.2.2.1) (t_numOk hr).2.1
  · rw [t_numEr he]
    exact t_MSe h (fun q hq => by simp (disch := omega) only [ap_mu_n]) (fun j x y z => by simp (disch := omega) only [mu_o]) (by rw [mu_s]) (by simp (disch := omega) only [mu_o]; exact h.2.2.2.1)
theorem m_fig2 {a e : Nat} {M0 M : ap_Mem} {K : Int32 → ap_Mem → Prop} (h : t_ME a M0 M e) (hy : ∀ M', t_ME a M0 M' e → K 0 M') : w_X9_figures 98 M K := by
  refine m_figEr h.2.1 (hy _ ?_)
  exact t_MEm h (fun q hq => by simp (disch := omega) only [ap_mu_n]) (fun j x y z => by simp (disch := omega) only [mu_o]) (by rw [mu_s]) (by simp (disch := omega) only [mu_o]; exact h.2.2)
/-! the recursion unrolled -/
theorem wr_0 (k : Nat) : wr_X9_every (k + 1) 0 = wf_X9_every (wr_X9_every k 0) (wr_X9_every k 1) (wr_X9_every k 2) := rfl
theorem wr_1 (k : Nat) : wr_X9_every (k + 1) 1 = wf_X9_factor (wr_X9_every k 0) (wr_X9_every k 1) (wr_X9_every k 2) := rfl
theorem wr_2 (k : Nat) : wr_X9_every (k + 1) 2 = wf_X9_some (wr_X9_every k 0) (wr_X9_every k 1) (wr_X9_every k 2) := rfl
theorem m_fac2 {k : Nat} {M : ap_Mem} {K : ap_Mem → Prop} (h8 : M 98 8 = 1) (hK : K M) : wr_X9_every (k + 1) 1 98 M K := by
  rw [wr_1]
  unfold wf_X9_factor
  rw [if_neg (by rw [h8]; decide)]
  exact hK
theorem m_evl2 {c0 c1 c2 : Nat → ap_Mem → (ap_Mem → Prop) → Prop} {g : Nat} {M : ap_Mem} {K : ap_Mem → Prop} (h8 : M 98 8 = 1) (hK : K M) : w_X9_every_4 c0 c1 c2 98 K (g + 1) M := by
  show w_X9_every_4_s c0 c1 c2 (w_X9_every_4 c0 c1 c2 98 K g) 98 M K
  unfold w_X9_every_4_s
  rw [if_neg (by rw [h8]; decide)]
  exact hK
theorem m_sol2 {c0 c1 c2 : Nat → ap_Mem → (ap_Mem → Prop) → Prop} {g : Nat} {M : ap_Mem} {K : ap_Mem → Prop} (h8 : M 98 8 = 1) (hK : K M) : w_X9_some_4 c0 c1 c2 98 K (g + 1) M := by
  show w_X9_some_4_s c0 c1 c2 (w_X9_some_4 c0 c1 c2 98 K g) 98 M K
  unfold w_X9_some_4_s
  rw [if_neg (by rw [h8]; decide)]
  exact hK
theorem m_eve2 {k : Nat} {M : ap_Mem} {K : ap_Mem → Prop} (h8 : M 98 8 = 1) (hK : K M) : wr_X9_every (k + 2) 0 98 M K := by
  rw [wr_0]
  unfold wf_X9_every
  exact m_fac2 h8 (m_evl2 (g := 4095) h8 hK)
theorem m_som2 {k : Nat} {M : ap_Mem} {K : ap_Mem → Prop} (h8 : M 98 8 = 1) (hK : K M) : wr_X9_every (k + 3) 2 98 M K := by
  rw [wr_2]
  unfold wf_X9_some
  exact m_eve2 h8 (m_sol2 (g := 4095) h8 hK)
theorem m_test {c0 c1 c2 : Nat → ap_Mem → (ap_Mem → Prop) → Prop} {T : Nat → Nat} {n a p o bd : Nat} {M0 M : ap_Mem} {L : List Int32} {K : ap_Mem → Prop} (h0 : t_M0 T n a M0) (h : t_MS n a M0 M p o bd L) (hL : L.length < 140) (h33 : t_hd T n p ≠ 33) (h40 : t_hd T n p ≠ 40) (hy : ∀ r, t_test T n p = .ok r → ∀ M', t_MS n a M0 M' r.1 o bd (L ++ [e_tokM r.2]) → K M') (hn : ∀ e, t_test T n p = .error e → ∀ M', t_ME a M0 M' e → K M') : wf_X9_factor c0 c1 c2 98 M K := by
  have h0' := h0
  obtain ⟨a1, a2, hT, a4, a5, a6⟩ := h0
  have h9 := h.2.2.2.2.1
  have h6 := h.2.2.2.1
  unfold wf_X9_factor
  rw [if_pos h.2.2.1, m_here (t_MSt h0' h), show (33 : Int32) = nI 33 from rfl, t_if (t_hIe hT (by decide)), if_neg h33, show (40 : Int32) = nI 40 from rfl, t_if (t_hIe hT (by decide)), if_neg h40, m_among (t_MSt h0' h) (by decide), show ap_sL 4 = 6 from rfl]
  unfold t_test at hy hn
  by_cases e1 : t_ix 4 (t_hd T n p) < 6
  · have hp := t_ixlt (w := 4) (by decide) e1
    rw [if_pos e1, if_neg (n_m1 (by omega))]
    rw [if_pos e1] at hy hn
    unfold w_X9_factor_130
    refine ⟨ap_B0, ?_⟩
    rintro _ rfl
    have h1 : t_MS n a M0 (ap_mu (ap_mu M 98 6 (nI (p + 1))) 98 8 0) (p + 1) o bd L := t_MSm h (fun q hq => by simp (disch := omega) only [ap_mu_n]) (fun j x y z => by simp (disch := omega) only [mu_o]) (by rw [mu_s]) (by simp (disch := omega) only [mu_s, mu_o]) (by simp (disch := omega) only [mu_o]; exact h9) hp
    generalize ap_mu (ap_mu M 98 6 (nI (p + 1))) 98 8 0 = M1 at h1 ⊢
    rw [if_pos h1.2.2.1, m_among (t_MSt h0' h1) (by decide), show ap_sL 5 = 3 from rfl]
    unfold w_X9_factor_150
    by_cases e2 : t_ix 5 (t_hd T n (p + 1)) < 3
    · have hp2 := t_ixlt (w := 5) (by decide) e2
      rw [if_pos e2]
      rw [if_pos e2] at hy hn
      have h2 : t_MS n a M0 (ap_mu M1 98 6 (nI (p + 1 + 1))) (p + 2) o bd L := t_MSm h1 (fun q hq => by simp (disch := omega) only [ap_mu_n]) (fun j x y z => by simp (disch := omega) only [mu_o]) (by simp (disch := omega) only [mu_o]; exact h1.2.2.1) (by rw [mu_s]) (by simp (disch := omega) only [mu_o]; exact h1.2.2.2.2.1) hp2
      generalize ap_mu M1 98 6 (nI (p + 1 + 1)) = M2 at h2 ⊢
      rw [if_pos h2.2.2.1, if_neg (n_m1 (by omega))]
      unfold w_X9_factor_169
      refine ⟨ap_B0, ?_⟩
      rintro _ rfl
      have h3 : t_MS n a M0 (ap_mu M2 98 8 0) (p + 2) o bd L := t_MSm h2 (fun q hq => by simp (disch := omega) only [ap_mu_n]) (fun j x y z => by simp (disch := omega) only [mu_o]) (by rw [mu_s]) (by simp (disch := omega) only [mu_o]; exact h2.2.2.2.1) (by simp (disch := omega) only [mu_o]; exact h2.2.2.2.2.1) hp2
      refine m_fig1 h0' h3 (fun r hr M' hM' => ?_) (fun e he M' hM' => ?_)
      · refine m_emit1 h0' hM' hL (fun M'' hM'' => ?_)
        refine hy _ (by rw [hr]; rfl) M'' ?_
        have : (nI (t_ix 4 (t_hd T n p)) + 8 * nI (t_ix 5 (t_hd T n (p + 1)))) + 32 * nI r.2 = e_tokM (t_ix 4 (t_hd T n p), t_ix 5 (t_hd T n (p + 1)), r.2) := by
          show _ = if t_ix 4 (t_hd T n p) < 6 then _ else _
          rw [if_pos e1, l_8, l_32, pk_mul, pk_mul, nI_add, nI_add]
        rw [← this]
        exact hM''
      · exact m_emit2 hM' (hn e (by rw [he]; rfl) M' hM')
    · rw [if_neg e2, if_pos h1.2.2.1, if_pos rfl]
      rw [if_neg e2] at hn
      unfold w_X9_factor_164 w_X9_factor_169
      refine ⟨ap_B1, ?_⟩
      rintro _ rfl
      have h3 : t_ME a M0 (ap_mu M1 98 8 1) (p + 1) := t_MSe h1 (fun q hq => by simp (disch := omega) only [ap_mu_n]) (fun j x y z => by simp (disch := omega) only [mu_o]) (by rw [mu_s]) (by simp (disch := omega) only [mu_o]; exact h1.2.2.2.1)
      exact m_fig2 h3 (fun M' hM' => m_emit2 hM' (hn _ rfl M' hM'))
  · rw [if_neg e1, if_pos rfl]
    rw [if_neg e1] at hn
    unfold w_X9_factor_130
    refine ⟨ap_B1, ?_⟩
    rintro _ rfl
    have h3 : t_ME a M0 (ap_mu M 98 8 1) p := t_MSe h (fun q hq => by simp (disch := omega) only [ap_mu_n]) (fun j x y z => by simp (disch := omega) only [mu_o]) (by rw [mu_s]) (by simp (disch := omega) only [mu_o]; exact h6)
    rw [mu_s, if_neg (by decide)]
    unfold w_X9_factor_150
    rw [mu_s, if_neg (by decide)]
    unfold w_X9_factor_164 w_X9_factor_169
    refine ⟨ap_B1, ?_⟩
    rintro _ rfl
    have h4 : t_ME a M0 (ap_mu (ap_mu M 98 8 1) 98 8 1) p := t_MEm h3 (fun q hq => by simp (disch := omega) only [ap_mu_n]) (fun j x y z => by simp (disch := omega) only [mu_o]) (by rw [mu_s]) (by simp (disch := omega) only [mu_o]; exact h6)
    exact m_fig2 h4 (fun M' hM' => m_emit2 hM' (hn _ rfl M' hM'))
