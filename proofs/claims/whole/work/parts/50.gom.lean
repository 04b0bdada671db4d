/-! town: the reference's recursion reads as the grammar says -/
theorem t_m6 : e_tokM (6, 0, 0) = -1 := by decide
theorem t_m7 : e_tokM (7, 0, 0) = -2 := by decide
theorem t_m8 : e_tokM (8, 0, 0) = -3 := by decide
theorem m_close1 {c0 c1 c2 : Nat → ap_Mem → (ap_Mem → Prop) → Prop} {n a p o bd : Nat} {M0 M : ap_Mem} {L : List Int32} {K : ap_Mem → Prop} (h : t_MS n a M0 M p (o + 1) bd L) (hy : ∀ M', t_MS n a M0 M' p o bd L → K M') : w_X9_factor_101 c0 c1 c2 98 M K := by
  unfold w_X9_factor_101
  rintro _ rfl
  refine hy _ (t_MSm h (fun q hq => by simp (disch := omega) only [ap_mu_n]) (fun j x y z => by simp (disch := omega) only [mu_o]) (by simp (disch := omega) only [mu_o]; exact h.2.2.1) (by simp (disch := omega) only [mu_o]; exact h.2.2.2.1) ?_ h.2.1)
  rw [mu_s, h.2.2.2.2.1, l_1, n_sub (by omega), Nat.add_sub_cancel]
theorem m_close2 {c0 c1 c2 : Nat → ap_Mem → (ap_Mem → Prop) → Prop} {a e : Nat} {M0 M : ap_Mem} {K : ap_Mem → Prop} (h : t_ME a M0 M e) (hy : ∀ M', t_ME a M0 M' e → K M') : w_X9_factor_101 c0 c1 c2 98 M K := by
  unfold w_X9_factor_101
  rintro _ rfl
  exact hy _ (t_MEm h (fun q hq => by simp (disch := omega) only [ap_mu_n]) (fun j x y z => by simp (disch := omega) only [mu_o]) (by simp (disch := omega) only [mu_o]; exact h.2.1) (by simp (disch := omega) only [mu_o]; exact h.2.2))
theorem m_open {c0 c1 c2 : Nat → ap_Mem → (ap_Mem → Prop) → Prop} {T : Nat → Nat} {n a p o bd c : Nat} {M0 M : ap_Mem} {L : List Int32} {K : ap_Mem → Prop} (h0 : t_M0 T n a M0) (h : t_MS n a M0 M p o bd L) (hc : t_hd T n p = c) (hc2 : c = 33 ∨ c = 40) (ho : o ≤ 5)
    (hy : o ≠ 5 → ∀ M', t_MS n a M0 M' (p + 1) (o + 1) bd L → if c = 33 then c1 98 M' (fun M5 => w_X9_emits 98 (-1) M5 (fun M6 => w_X9_factor_101 c0 c1 c2 98 M6 K)) else c2 98 M' (fun M3 => w_X9_must 98 41 M3 (fun M4 => w_X9_factor_101 c0 c1 c2 98 M4 K)))
    (hn : o = 5 → ∀ M', t_ME a M0 M' p → if c = 33 then c1 98 M' (fun M5 => w_X9_emits 98 (-1) M5 (fun M6 => w_X9_factor_101 c0 c1 c2 98 M6 K)) else c2 98 M' (fun M3 => w_X9_must 98 41 M3 (fun M4 => w_X9_factor_101 c0 c1 c2 98 M4 K))) : wf_X9_factor c0 c1 c2 98 M K := by
  have hT := h0.2.2.1
  have h9 := h.2.2.2.2.1
  have h6 := h.2.2.2.1
  have hp := (t_hlt hc (by omega)).1
  have step : w_X9_factor_25 c0 c1 c2 98 (nI c) M K := by
    unfold w_X9_factor_25
    have e33 : (nI c = 33) = (c = 33) := by rw [show (33 : Int32) = nI 33 from rfl, n_eq (by omega) (by omega)]
    rw [h9, l_5, t_if (propext (n_eq (by omega) (by omega)))]
    by_cases h5 : o = 5
    · rw [if_pos h5]
      unfold w_X9_factor_39
      refine ⟨ap_B1, ?_⟩
      rintro _ rfl _ rfl
      have h1 : t_ME a M0 (ap_mu (ap_mu (ap_mu M 98 8 1) 98 9 (ap_mu M 98 8 1 98 9 + 1)) 98 6 (ap_mu (ap_mu M 98 8 1) 98 9 (ap_mu M 98 8 1 98 9 + 1) 98 6 + 0)) p := t_MSe h (fun q hq => by simp (disch := omega) only [ap_mu_n]) (fun j x y z => by simp (disch := omega) only [mu_o]) (by simp (disch := omega) only [mu_s, mu_o]) (by rw [mu_s]; simp (disch := omega) only [mu_o]; rw [h6, t_add0])
      rw [if_neg (by simp (disch := omega) only [mu_s, mu_o]; decide)]
      unfold w_X9_factor_69
      rintro _ rfl
      rw [t_if e33]
      exact hn h5 _ h1
    · rw [if_neg h5]
      unfold w_X9_factor_39
      refine ⟨ap_B0, ?_⟩
      rintro _ rfl _ rfl
      have h1 : t_MS n a M0 (ap_mu (ap_mu (ap_mu M 98 8 0) 98 9 (ap_mu M 98 8 0 98 9 + 1)) 98 6 (ap_mu (ap_mu M 98 8 0) 98 9 (ap_mu M 98 8 0 98 9 + 1) 98 6 + 1)) (p + 1) (o + 1) bd L := t_MSm h (fun q hq => by simp (disch := omega) only [ap_mu_n]) (fun j x y z => by simp (disch := omega) only [mu_o]) (by simp (disch := omega) only [mu_s, mu_o]) (by rw [mu_s]; simp (disch := omega) only [mu_o]; rw [h6, nI_1]) (by rw [mu_o _ _ (by omega), mu_s, mu_o _ _ (by omega), h9, nI_1]) hp
      rw [if_pos (by simp (disch := omega) only [mu_s, mu_o])]
      unfold w_X9_factor_69
      rintro _ rfl
      rw [t_if e33]
      exact hy h5 _ h1
  have eI : t_hI T n p = nI c := by rw [t_hIe hT (by omega)]; exact hc
  unfold wf_X9_factor
  rw [if_pos h.2.2.1, m_here (t_MSt h0 h), eI]
  rcases hc2 with rfl | rfl
  · rw [if_pos (by decide)]
    exact step
  · rw [if_neg (by decide), if_pos (by decide)]
    exact step
theorem m_go {T : Nat → Nat} {n a : Nat} {M0 : ap_Mem} (h0 : t_M0 T n a M0) : ∀ f,
    (∀ k o p bd L M K, 5 * (n - p) + 1 ≤ f → 3 * (5 - o) + 4 ≤ k → o ≤ 5 → L.length ≤ p → t_MS n a M0 M p o bd L → (∀ r, t_go T n f 0 o p = .ok r → ∀ M', t_MS n a M0 M' r.1 o bd (L ++ r.2.map e_tokM) → K M') → (∀ e, t_go T n f 0 o p = .error e → ∀ M', t_ME a M0 M' e → K M') → wr_X9_every k 1 98 M K) ∧
    (∀ k o p bd L M K, 5 * (n - p) + 2 ≤ f → 3 * (5 - o) + 5 ≤ k → o ≤ 5 → L.length ≤ p → t_MS n a M0 M p o bd L → (∀ r, t_go T n f 1 o p = .ok r → ∀ M', t_MS n a M0 M' r.1 o bd (L ++ r.2.map e_tokM) → K M') → (∀ e, t_go T n f 1 o p = .error e → ∀ M', t_ME a M0 M' e → K M') → wr_X9_every k 0 98 M K) ∧
    (∀ k o p bd L M K, 5 * (n - p) + 3 ≤ f → 3 * (5 - o) + 6 ≤ k → o ≤ 5 → L.length ≤ p → t_MS n a M0 M p o bd L → (∀ r, t_go T n f 2 o p = .ok r → ∀ M', t_MS n a M0 M' r.1 o bd (L ++ r.2.map e_tokM) → K M') → (∀ e, t_go T n f 2 o p = .error e → ∀ M', t_ME a M0 M' e → K M') → wr_X9_every k 2 98 M K) ∧
    (∀ k g o p bd L M K, 5 * (n - p) + 1 ≤ f → 3 * (5 - o) + 4 ≤ k → n - p < g → o ≤ 5 → L.length ≤ p → t_MS n a M0 M p o bd L → (∀ r, t_go T n f 3 o p = .ok r → ∀ M', t_MS n a M0 M' r.1 o bd (L ++ r.2.map e_tokM) → K M') → (∀ e, t_go T n f 3 o p = .error e → ∀ M', t_ME a M0 M' e → K M') → w_X9_every_4 (wr_X9_every k 0) (wr_X9_every k 1) (wr_X9_every k 2) 98 K g M) ∧
    (∀ k g o p bd L M K, 5 * (n - p) + 1 ≤ f → 3 * (5 - o) + 5 ≤ k → n - p < g → o ≤ 5 → L.length ≤ p → t_MS n a M0 M p o bd L → (∀ r, t_go T n f 4 o p = .ok r → ∀ M', t_MS n a M0 M' r.1 o bd (L ++ r.2.map e_tokM) → K M') → (∀ e, t_go T n f 4 o p = .error e → ∀ M', t_ME a M0 M' e → K M') → w_X9_some_4 (wr_X9_every k 0) (wr_X9_every k 1) (wr_X9_every k 2) 98 K g M) := by
  have hn100 := h0.2.1
  have hT := h0.2.2.1
  intro f
  induction f with
  | zero =>
    refine ⟨?_, ?_, ?_, ?_, ?_⟩
    · intro k o p bd L M K hf
      omega
    · intro k o p bd L M K hf
      omega
    · intro k o p bd L M K hf
      omega
    · intro k g o p bd L M K hf
      omega
    · intro k g o p bd L M K hf
      omega
  | succ f ih =>
    obtain ⟨i0, i1, i2, i3, i4⟩ := ih
    obtain ⟨g0, g1, g2, g3, g4⟩ := t_good T n f
    refine ⟨?_, ?_, ?_, ?_, ?_⟩
    · intro k o p bd L M K hf hk ho hL h hy hn
      obtain ⟨k, rfl⟩ : ∃ k', k = k' + 4 := ⟨k - 4, by omega⟩
      rw [wr_1]
      rw [t_go0] at hy hn
      by_cases h33 : t_hd T n p = 33
      · rw [if_pos h33] at hy hn
        have hp := (t_hlt h33 (by decide)).1
        refine m_open h0 h h33 (Or.inl rfl) ho (fun h5 M1 hM1 => ?_) (fun h5 M1 hM1 => ?_)
        · rw [if_neg h5] at hy hn
          rw [if_pos rfl]
          refine i0 (k + 3) (o + 1) (p + 1) bd L M1 _ (by omega) (by omega) (by omega) (by omega) hM1 (fun r hr M2 hM2 => ?_) (fun e he M2 hM2 => ?_)
          · obtain ⟨q1, ⟨q2, q3, -⟩, -⟩ := g0 _ _ _ (by omega) hr
            refine m_emit1 h0 hM2 (by rw [List.length_append, List.length_map]; omega) (fun M3 hM3 => m_close1 hM3 (fun M4 hM4 => ?_))
            refine hy _ (by rw [hr]; rfl) M4 ?_
            rw [List.map_append, ← List.append_assoc]
            exact hM4
          · exact m_emit2 hM2 (m_close2 hM2 (hn e (by rw [he]; rfl)))
        · rw [if_pos h5] at hn
          rw [if_pos rfl]
          exact m_fac2 hM1.2.1 (m_emit2 hM1 (m_close2 hM1 (hn p rfl)))
      · rw [if_neg h33] at hy hn
        by_cases h40 : t_hd T n p = 40
        · rw [if_pos h40] at hy hn
          have hp := (t_hlt h40 (by decide)).1
          refine m_open h0 h h40 (Or.inr rfl) ho (fun h5 M1 hM1 => ?_) (fun h5 M1 hM1 => ?_)
          · rw [if_neg h5] at hy hn
            rw [if_neg (by decide)]
            refine i2 (k + 3) (o + 1) (p + 1) bd L M1 _ (by omega) (by omega) (by omega) (by omega) hM1 (fun r hr M2 hM2 => ?_) (fun e he M2 hM2 => ?_)
            · refine m_must1 (c := 41) h0 hM2 (by decide) (fun h41 M3 hM3 => m_close1 hM3 (fun M4 hM4 => ?_)) (fun h41 M3 hM3 => m_close2 hM3 ?_)
              · exact hy (r.1 + 1, r.2) (by rw [hr]; exact if_pos h41) M4 hM4
              · exact hn r.1 (by rw [hr]; exact if_neg h41)
            · exact m_must2 hM2 (fun M3 hM3 => m_close2 hM3 (hn e (by rw [he]; rfl)))
          · rw [if_pos h5] at hn
            rw [if_neg (by decide)]
            exact m_som2 hM1.2.1 (m_must2 hM1 (fun M3 hM3 => m_close2 hM3 (hn p rfl)))
        · rw [if_neg h40] at hy hn
          refine m_test h0 h (by have := h.2.1; omega) h33 h40 (fun r hr M' hM' => ?_) (fun e he M' hM' => ?_)
          · exact hy (r.1, [r.2]) (by rw [hr]; rfl) M' hM'
          · exact hn e (by rw [he]; rfl) M' hM'
    · intro k o p bd L M K hf hk ho hL h hy hn
      obtain ⟨k, rfl⟩ : ∃ k', k = k' + 1 := ⟨k - 1, by omega⟩
      rw [wr_0]
      unfold wf_X9_every
      rw [t_go1] at hy hn
      refine i0 k o p bd L M _ (by omega) (by omega) ho hL h (fun r hr M1 hM1 => ?_) (fun e he M1 hM1 => ?_)
      · obtain ⟨q1, ⟨q2, q3, -⟩, -⟩ := g0 _ _ _ ho hr
        rw [hr] at hy hn
        refine i3 k 4096 o r.1 bd _ M1 K (by omega) (by omega) (by omega) ho (by rw [List.length_append, List.length_map]; omega) hM1 (fun r2 hr2 M2 hM2 => ?_) (fun e he M2 hM2 => ?_)
        · refine hy (r2.1, r.2 ++ r2.2) (by show t_cat r.2 (t_go T n f 3 o r.1) = _; rw [hr2]; rfl) M2 ?_
          rw [List.map_append, ← List.append_assoc]
          exact hM2
        · exact hn e (by show t_cat r.2 (t_go T n f 3 o r.1) = _; rw [he]; rfl) M2 hM2
      · exact m_evl2 (g := 4095) hM1.2.1 (hn e (by rw [he]; rfl) M1 hM1)
    · intro k o p bd L M K hf hk ho hL h hy hn
      obtain ⟨k, rfl⟩ : ∃ k', k = k' + 1 := ⟨k - 1, by omega⟩
      rw [wr_2]
      unfold wf_X9_some
      rw [t_go2] at hy hn
      refine i1 k o p bd L M _ (by omega) (by omega) ho hL h (fun r hr M1 hM1 => ?_) (fun e he M1 hM1 => ?_)
      · obtain ⟨q1, ⟨q2, q3, -⟩, -⟩ := g1 _ _ _ ho hr
        rw [hr] at hy hn
        refine i4 k 4096 o r.1 bd _ M1 K (by omega) (by omega) (by omega) ho (by rw [List.length_append, List.length_map]; omega) hM1 (fun r2 hr2 M2 hM2 => ?_) (fun e he M2 hM2 => ?_)
        · refine hy (r2.1, r.2 ++ r2.2) (by show t_cat r.2 (t_go T n f 4 o r.1) = _; rw [hr2]; rfl) M2 ?_
          rw [List.map_append, ← List.append_assoc]
          exact hM2
        · exact hn e (by show t_cat r.2 (t_go T n f 4 o r.1) = _; rw [he]; rfl) M2 hM2
      · exact m_sol2 (g := 4095) hM1.2.1 (hn e (by rw [he]; rfl) M1 hM1)
    · intro k g o p bd L M K hf hk hg ho hL h hy hn
      obtain ⟨g, rfl⟩ : ∃ g', g = g' + 1 := ⟨g - 1, by omega⟩
      show w_X9_every_4_s (wr_X9_every k 0) (wr_X9_every k 1) (wr_X9_every k 2) (w_X9_every_4 (wr_X9_every k 0) (wr_X9_every k 1) (wr_X9_every k 2) 98 K g) 98 M K
      unfold w_X9_every_4_s
      rw [t_go3] at hy hn
      rw [if_pos h.2.2.1, m_here (t_MSt h0 h), show (38 : Int32) = nI 38 from rfl, t_if (t_hIe hT (by decide))]
      by_cases h38 : t_hd T n p = 38
      · rw [if_pos h38] at hy hn
        rw [if_pos h38]
        have hp := (t_hlt h38 (by decide)).1
        rintro _ rfl
        have h1 : t_MS n a M0 (ap_mu M 98 6 (M 98 6 + 1)) (p + 1) o bd L := t_MSm h (fun q hq => by simp (disch := omega) only [ap_mu_n]) (fun j x y z => by simp (disch := omega) only [mu_o]) (by simp (disch := omega) only [mu_o]; exact h.2.2.1) (by rw [mu_s, h.2.2.2.1, nI_1]) (by simp (disch := omega) only [mu_o]; exact h.2.2.2.2.1) hp
        refine i0 k o (p + 1) bd L _ _ (by omega) (by omega) ho (by omega) h1 (fun r hr M1 hM1 => ?_) (fun e he M1 hM1 => ?_)
        · obtain ⟨q1, ⟨q2, q3, -⟩, -⟩ := g0 _ _ _ ho hr
          rw [hr] at hy hn
          refine m_emit1 h0 hM1 (by rw [List.length_append, List.length_map]; omega) (fun M2 hM2 => ?_)
          refine i3 k g o r.1 bd _ M2 K (by omega) (by omega) (by omega) ho (by rw [List.length_append, List.length_append, List.length_map]; show L.length + r.2.length + 1 ≤ r.1; omega) hM2 (fun r2 hr2 M3 hM3 => ?_) (fun e he M3 hM3 => ?_)
          · refine hy (r2.1, (r.2 ++ [(7, 0, 0)]) ++ r2.2) (by show t_cat (r.2 ++ [(7, 0, 0)]) (t_go T n f 3 o r.1) = _; rw [hr2]; rfl) M3 ?_
            rw [List.map_append, List.map_append, ← List.append_assoc, ← List.append_assoc]
            exact hM3
          · exact hn e (by show t_cat (r.2 ++ [(7, 0, 0)]) (t_go T n f 3 o r.1) = _; rw [he]; rfl) M3 hM3
        · obtain ⟨g, rfl⟩ : ∃ g', g = g' + 1 := ⟨g - 1, by omega⟩
          exact m_emit2 hM1 (m_evl2 hM1.2.1 (hn e (by rw [he]; rfl) M1 hM1))
      · rw [if_neg h38] at hy
        rw [if_neg h38]
        exact hy (p, []) rfl M (by rw [List.map_nil, List.append_nil]; exact h)
    · intro k g o p bd L M K hf hk hg ho hL h hy hn
      obtain ⟨g, rfl⟩ : ∃ g', g = g' + 1 := ⟨g - 1, by omega⟩
      show w_X9_some_4_s (wr_X9_every k 0) (wr_X9_every k 1) (wr_X9_every k 2) (w_X9_some_4 (wr_X9_every k 0) (wr_X9_every k 1) (wr_X9_every k 2) 98 K g) 98 M K
      unfold w_X9_some_4_s
      rw [t_go4] at hy hn
      rw [if_pos h.2.2.1, m_here (t_MSt h0 h), show (124 : Int32) = nI 124 from rfl, t_if (t_hIe hT (by decide))]
      by_cases h38 : t_hd T n p = 124
      · rw [if_pos h38] at hy hn
        rw [if_pos h38]
        have hp := (t_hlt h38 (by decide)).1
        rintro _ rfl
        have h1 : t_MS n a M0 (ap_mu M 98 6 (M 98 6 + 1)) (p + 1) o bd L := t_MSm h (fun q hq => by simp (disch := omega) only [ap_mu_n]) (fun j x y z => by simp (disch := omega) only [mu_o]) (by simp (disch := omega) only [mu_o]; exact h.2.2.1) (by rw [mu_s, h.2.2.2.1, nI_1]) (by simp (disch := omega) only [mu_o]; exact h.2.2.2.2.1) hp
        refine i1 k o (p + 1) bd L _ _ (by omega) (by omega) ho (by omega) h1 (fun r hr M1 hM1 => ?_) (fun e he M1 hM1 => ?_)
        · obtain ⟨q1, ⟨q2, q3, -⟩, -⟩ := g1 _ _ _ ho hr
          rw [hr] at hy hn
          refine m_emit1 h0 hM1 (by rw [List.length_append, List.length_map]; omega) (fun M2 hM2 => ?_)
          refine i4 k g o r.1 bd _ M2 K (by omega) (by omega) (by omega) ho (by rw [List.length_append, List.length_append, List.length_map]; show L.length + r.2.length + 1 ≤ r.1; omega) hM2 (fun r2 hr2 M3 hM3 => ?_) (fun e he M3 hM3 => ?_)
          · refine hy (r2.1, (r.2 ++ [(8, 0, 0)]) ++ r2.2) (by show t_cat (r.2 ++ [(8, 0, 0)]) (t_go T n f 4 o r.1) = _; rw [hr2]; rfl) M3 ?_
            rw [List.map_append, List.map_append, ← List.append_assoc, ← List.append_assoc]
            exact hM3
          · exact hn e (by show t_cat (r.2 ++ [(8, 0, 0)]) (t_go T n f 4 o r.1) = _; rw [he]; rfl) M3 hM3
        · obtain ⟨g, rfl⟩ : ∃ g', g = g' + 1 := ⟨g - 1, by omega⟩
          exact m_emit2 hM1 (m_sol2 hM1.2.1 (hn e (by rw [he]; rfl) M1 hM1))
      · rw [if_neg h38] at hy
        rw [if_neg h38]
        exact hy (p, []) rfl M (by rw [List.map_nil, List.append_nil]; exact h)
