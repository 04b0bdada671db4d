/-! away, as bits -/
def e_on (A p : Nat) : Nat := if A / 2 ^ p % 2 = 1 then A else A + 2 ^ p
def e_off (A p : Nat) : Nat := if A / 2 ^ p % 2 = 1 then A - 2 ^ p else A
theorem e_onB : ∀ p, p < 6 → ∀ A, A < 64 → e_on A p < 64 ∧ nI A ||| (1 <<< (nI p &&& 31)) = nI (e_on A p) ∧ ∀ i, i < 6 → e_on A p / 2 ^ i % 2 = if i = p then 1 else A / 2 ^ i % 2 := by decide +kernel
theorem e_offB : ∀ p, p < 6 → ∀ A, A < 64 → e_off A p < 64 ∧ nI A &&& ((1 <<< (nI p &&& 31)) ^^^ (-1)) = nI (e_off A p) ∧ ∀ i, i < 6 → e_off A p / 2 ^ i % 2 = if i = p then 0 else A / 2 ^ i % 2 := by decide +kernel
theorem e_b2 (A p : Nat) : A / 2 ^ p % 2 = 0 ∨ A / 2 ^ p % 2 = 1 := by omega
theorem c_isAway {q p A : Nat} {M : ap_Mem} {K : Int32 → ap_Mem → Prop} (h : M q 4 = nI A) (hA : A < 64) (hp : p < 6) : w_X3_isAway q (nI p) M K = K (nI (A / 2 ^ p % 2)) M := by
  unfold w_X3_isAway
  rw [h, c_ab p A hp hA]
  rcases e_b2 A p with e | e
  · rw [e, if_neg (by decide), l_0]
  · rw [e, if_pos (by decide), l_1]
theorem c_setAway0 {q p A : Nat} {M : ap_Mem} {K : ap_Mem → Prop} (h : M q 4 = nI A) (hA : A < 64) (hp : p < 6) : w_X3_setAway q (nI p) 0 M K = K (ap_mu M q 4 (nI (e_off A p))) := by
  unfold w_X3_setAway w_X3_setAway_26
  rw [if_pos rfl, h, (e_offB p hp A hA).2.1]
  simp
theorem c_setAway1 {q p A : Nat} {v : Int32} {M : ap_Mem} {K : ap_Mem → Prop} (h : M q 4 = nI A) (hA : A < 64) (hp : p < 6) (hv : ¬ v = 0) : w_X3_setAway q (nI p) v M K = K (ap_mu M q 4 (nI (e_on A p))) := by
  unfold w_X3_setAway w_X3_setAway_26
  rw [if_neg hv, h, (e_onB p hp A hA).2.1]
  simp
theorem p_away (x y : Int32) : e_Pair (fun M K => w_X8_away 0 x y M K) (fun M K => w_X9_away 98 x y M K) := by
  intro M hI
  obtain ⟨n, A, hn, hA, f30, m5, m4, hp, hl⟩ := hI.1.2.2.1
  show w_X8_away 0 x y M _
  rcases e_ix x (n := n) (by omega) with h | ⟨p, hpn, rfl⟩
  · simp [w_X8_away, w_X9_away, c_has0 m5 h, m_isPerson0 (q := 98) f30 (by omega) h, hI]
  have e1 : ∀ (M' : ap_Mem) K, M' 99 30 = nI n → w_X9_isPerson 98 (nI p) M' K = K 1 M' := fun M' K h => m_isPerson1 h (by omega) hpn
  have f24 := (hp p hpn).2.2.2
  by_cases hy : y = 0
  · subst hy
    have e2 := e_offB p (by omega) A hA
    have e3 : ∀ M' K, w_X9_becomes 98 (24 + nI p) 0 M' K = K (M' 99 (24 + p)) (ap_mu M' 99 (24 + p) 0) := fun M' K => by rw [l_24, nI_add]; exact m_becomes (by omega)
    simp (disch := first | omega | simp (disch := omega) only [mu_o, f30]) [w_X8_away, w_X9_away, w_X9_away_22, c_has1 m5 (by omega) hpn, c_isAway (p := p) m4 hA (by omega), c_setAway0 (p := p) m4 hA (by omega), e1, e3, mu_o]
    have fin : e_Inv (ap_mu (ap_mu M 13 4 (nI (e_off A p))) 99 (24 + p) 0) := by
      refine e_set hI (fun a ha => by simp (disch := omega) only [ap_mu_n]) (e_uFolk hI.1 (fun a ha hb => by simp (disch := omega) only [ap_mu_n]) (fun j hj hb => by simp (disch := omega) only [mu_o]) ?_)
      refine ⟨n, e_off A p, hn, e2.1, by simp (disch := omega) only [mu_o, f30], by simp (disch := omega) only [mu_o, m5], by simp (disch := omega) only [mu_s, mu_o], fun i hi => ?_, fun j hj => by simp (disch := omega) only [mu_o]; exact hl j hj⟩
      obtain ⟨g1, g2, g3, g4⟩ := hp i hi
      refine ⟨by simpa (disch := omega) only [mu_o] using g1, by simpa (disch := omega) only [mu_o] using g2, by simpa (disch := omega) only [mu_o] using g3, ?_⟩
      rw [e2.2.2 i (by omega)]
      by_cases hip : i = p
      · subst hip
        rw [if_pos rfl]
        simp (disch := omega) only [mu_s, ← l_0]
      · rw [if_neg hip]
        simpa (disch := omega) only [mu_o] using g4
    rcases e_b2 A p with e | e
    · simp [e, f24, fin, ← l_0]
    · simp [e, f24, fin, ← l_1]
  · have e2 := e_onB p (by omega) A hA
    have e3 : ∀ M' K, w_X9_becomes 98 (24 + nI p) 1 M' K = K (M' 99 (24 + p)) (ap_mu M' 99 (24 + p) 1) := fun M' K => by rw [l_24, nI_add]; exact m_becomes (by omega)
    simp (disch := first | omega | simp (disch := omega) only [mu_o, f30]) [w_X8_away, w_X9_away, w_X9_away_22, c_has1 m5 (by omega) hpn, c_isAway (p := p) m4 hA (by omega), c_setAway1 (p := p) m4 hA (by omega) hy, e1, e3, mu_o, hy]
    have fin : e_Inv (ap_mu (ap_mu M 13 4 (nI (e_on A p))) 99 (24 + p) 1) := by
      refine e_set hI (fun a ha => by simp (disch := omega) only [ap_mu_n]) (e_uFolk hI.1 (fun a ha hb => by simp (disch := omega) only [ap_mu_n]) (fun j hj hb => by simp (disch := omega) only [mu_o]) ?_)
      refine ⟨n, e_on A p, hn, e2.1, by simp (disch := omega) only [mu_o, f30], by simp (disch := omega) only [mu_o, m5], by simp (disch := omega) only [mu_s, mu_o], fun i hi => ?_, fun j hj => by simp (disch := omega) only [mu_o]; exact hl j hj⟩
      obtain ⟨g1, g2, g3, g4⟩ := hp i hi
      refine ⟨by simpa (disch := omega) only [mu_o] using g1, by simpa (disch := omega) only [mu_o] using g2, by simpa (disch := omega) only [mu_o] using g3, ?_⟩
      rw [e2.2.2 i (by omega)]
      by_cases hip : i = p
      · subst hip
        rw [if_pos rfl]
        simp (disch := omega) only [mu_s, ← l_1]
      · rw [if_neg hip]
        simpa (disch := omega) only [mu_o] using g4
    rcases e_b2 A p with e | e
    · simp [e, f24, fin, ← l_0]
    · simp [e, f24, fin, ← l_1]
theorem p_move (x y : Int32) : e_Pair (fun M K => w_X8_move 0 x y M K) (fun M K => w_X9_move 98 x y M K) := by
  intro M hI
  obtain ⟨n, A, hn, hA, f30, m5, m4, hp, hl⟩ := hI.1.2.2.1
  show w_X8_move 0 x y M _
  rcases e_ix x (n := n) (by omega) with h | ⟨p, hpn, rfl⟩
  · simp [w_X8_move, w_X9_move, c_has0 m5 h, m_isPerson0 (q := 98) f30 (by omega) h, hI]
  have e1 : ∀ (M' : ap_Mem) K, M' 99 30 = nI n → w_X9_isPerson 98 (nI p) M' K = K 1 M' := fun M' K h => m_isPerson1 h (by omega) hpn
  rcases e_ix y (n := 16) (by decide) with h | ⟨c, hc, rfl⟩
  · have e2 : ∀ M' K, w_X8_isCell y M' K = K 0 M' := fun M' K => c_isCell0 h
    have e3 : ∀ M' K, w_X9_isCell y M' K = K 0 M' := fun M' K => m_isCell0 h
    simp [w_X8_move, w_X9_move, c_has1 m5 (by omega) hpn, e1, e2, e3, f30, hI]
  have e2 : ∀ M' K, w_X8_isCell (nI c) M' K = K 1 M' := fun M' K => c_isCell1 hc
  have e3 : ∀ M' K, w_X9_isCell (nI c) M' K = K 1 M' := fun M' K => m_isCell1 hc
  have e4 : ∀ M' K, w_X9_becomes 98 (18 + nI p) (nI c) M' K = K (M' 99 (18 + p)) (ap_mu M' 99 (18 + p) (nI c)) := fun M' K => by rw [l_18, nI_add]; exact m_becomes (by omega)
  obtain ⟨c0, hc0, f18, m18⟩ := (hp p hpn).2.2.1
  simp (disch := first | omega | simp (disch := omega) only [mu_o, f30]) [w_X8_move, w_X9_move, c_has1 m5 (by omega) hpn, e1, e2, e3, e4, n_vp, n_cl, mu_o, f18, m18]
  refine ⟨by omega, e_set hI (fun a ha => by simp (disch := omega) only [ap_mu_n]) (e_uFolk hI.1 (fun a ha hb => by simp (disch := omega) only [ap_mu_n]) (fun j hj hb => by simp (disch := omega) only [mu_o]) ?_)⟩
  refine ⟨n, A, hn, hA, by simp (disch := omega) only [mu_o, f30], by simp (disch := omega) only [mu_o, m5], by simp (disch := omega) only [mu_o, m4], fun i hi => ?_, fun j hj => by simp (disch := omega) only [mu_o]; exact hl j hj⟩
  obtain ⟨g1, g2, g3, g4⟩ := hp i hi
  refine ⟨by simpa (disch := omega) only [mu_o] using g1, by simpa (disch := omega) only [mu_o] using g2, ?_, by simpa (disch := omega) only [mu_o] using g4⟩
  by_cases hip : i = p
  · subst hip
    exact ⟨c, hc, by simp (disch := omega) only [mu_s, mu_o], by simp (disch := omega) only [mu_s, mu_o]⟩
  · simpa (disch := omega) only [mu_o] using g3
theorem p_lay (x : Int32) : e_Pair (fun M K => w_X8_lay 0 x M K) (fun M K => w_X9_lay 98 x M K) := by
  intro M hI
  obtain ⟨c0, t, h1, h2, f1, m1, f0, m2, hi⟩ := hI.1.2.2.2.1
  show w_X8_lay 0 x M _
  rcases e_ix x (n := 16) (by decide) with h | ⟨c, hc, rfl⟩
  · have e2 : ∀ M' K, w_X8_isCell x M' K = K 0 M' := fun M' K => c_isCell0 h
    have e3 : ∀ M' K, w_X9_isCell x M' K = K 0 M' := fun M' K => m_isCell0 h
    simp [w_X8_lay, w_X9_lay, e2, e3, hI]
  have e2 : ∀ M' K, w_X8_isCell (nI c) M' K = K 1 M' := fun M' K => c_isCell1 hc
  have e3 : ∀ M' K, w_X9_isCell (nI c) M' K = K 1 M' := fun M' K => m_isCell1 hc
  have e4 : ∀ M' K, w_X9_becomes 98 1 (nI c) M' K = K (M' 99 1) (ap_mu M' 99 1 (nI c)) := fun M' K => by rw [l_1]; exact m_becomes (by omega)
  simp (disch := omega) [w_X8_lay, w_X9_lay, e2, e3, e4, mu_o, f1, m1]
  refine e_set hI (fun a ha => by simp (disch := omega) only [ap_mu_n]) (e_uCarp hI.1 (fun a ha hb => by simp (disch := omega) only [ap_mu_n]) (fun j hj hb => by simp (disch := omega) only [mu_o]) ?_)
  refine ⟨c, t, hc, h2, by simp (disch := omega) only [mu_s, mu_o], by simp (disch := omega) only [mu_s, mu_o], by simp (disch := omega) only [mu_o, f0], by simp (disch := omega) only [mu_o, m2], fun i hi2 => ?_⟩
  simpa (disch := omega) only [mu_o] using hi i hi2
theorem p_line (x y z : Int32) : e_Pair (fun M K => w_X8_line 0 x y z M K) (fun M K => w_X9_line 98 x y z M K) := by
  intro M hI
  obtain ⟨n, A, hn, hA, f30, m5, m4, hp, hl⟩ := hI.1.2.2.1
  show w_X8_line 0 x y z M _
  rcases e_ix x (n := n) (by omega) with h | ⟨p, hpn, rfl⟩
  · simp [w_X8_line, w_X9_line, c_has0 m5 h, m_isPerson0 (q := 98) f30 (by omega) h, hI]
  have e1 : ∀ (M' : ap_Mem) K, M' 99 30 = nI n → w_X9_isPerson 98 (nI p) M' K = K 1 M' := fun M' K h => m_isPerson1 h (by omega) hpn
  rcases e_ix y (n := 4) (by decide) with h | ⟨k, hk, rfl⟩
  · have e3 : ∀ M' K, w_X9_in y 0 3 M' K = K 0 M' := fun M' K => by rw [l_3]; exact m_in0 (by decide) h
    rcases h with h | ⟨h1, h2⟩
    · simp [w_X8_line, w_X9_line, c_has1 m5 (by omega) hpn, e1, f30, e3, h, hI]
    · have h3 : ¬ y < 4 := by rw [l_4]; exact i_nlt h2
      have h5 : ¬ y < 0 := i_nlt h1
      simp [w_X8_line, w_X9_line, c_has1 m5 (by omega) hpn, e1, f30, e3, h3, h5, hI]
  have h3 : nI k < 4 := by rw [l_4, n_lt (by omega) (by decide)]; omega
  have h5 : ¬ nI k < 0 := n_neg (by omega)
  have e3 : ∀ M' K, w_X9_in (nI k) 0 3 M' K = K 1 M' := fun M' K => by rw [l_3, l_0]; exact m_in1 (by omega) (by omega) (by decide)
  rcases e_ix z (n := 10) (by decide) with h | ⟨v, hv, rfl⟩
  · have e4 : ∀ M' K, w_X9_in z 0 9 M' K = K 0 M' := fun M' K => by rw [l_9]; exact m_in0 (by decide) h
    have e5 : ∀ M' K, w_X8_isDigit z M' K = K 0 M' := fun M' K => c_isDigit0 h
    simp [w_X8_line, w_X9_line, c_has1 m5 (by omega) hpn, e1, f30, e3, e4, e5, h3, h5, hI]
  have e4 : ∀ M' K, w_X9_in (nI v) 0 9 M' K = K 1 M' := fun M' K => by rw [l_9, l_0]; exact m_in1 (by omega) (by omega) (by decide)
  have e5 : ∀ M' K, w_X8_isDigit (nI v) M' K = K 1 M' := fun M' K => c_isDigit1 hv
  obtain ⟨⟨kd, hkd, f38, m38⟩, -⟩ := hp p hpn
  have m50 := hl (4 * p + k) (by omega)
  have e6 : p * 4 + k = 4 * p + k := by omega
  have e7 : 50 + 4 * p + k = 50 + (4 * p + k) := by omega
  have h3' : nI k < nI 4 := by rw [n_lt (by omega) (by decide)]; omega
  by_cases h6 : kd = 6
  · subst h6
    simp (disch := first | omega | simp (disch := omega) only [mu_o, f30]) [w_X8_line, w_X9_line, c_has1 m5 (by omega) hpn, e1, e3, e4, e5, h3', h5, n_vp, n_cl, mu_o, l_38, l_50, l_4, l_6, nI_add, pk_mul, f38, m38, e6, e7, m50]
    refine ⟨by omega, by omega, by omega, by omega, e_set hI (fun a ha => by simp (disch := omega) only [ap_mu_n]) (e_uFolk hI.1 (fun a ha hb => by simp (disch := omega) only [ap_mu_n]) (fun j hj hb => by simp (disch := omega) only [mu_o]) ?_)⟩
    refine ⟨n, A, hn, hA, by simp (disch := omega) only [mu_o, f30], by simp (disch := omega) only [mu_o, m5], by simp (disch := omega) only [mu_o, m4], fun i hi => ?_, fun j hj => ?_⟩
    · simpa (disch := omega) only [mu_o] using hp i hi
    · by_cases hjk : j = 4 * p + k
      · subst hjk
        simp (disch := omega) only [mu_s, mu_o]
      · simp (disch := omega) only [mu_o]
        exact hl j hj
  · have h7 : ¬ nI kd = nI 6 := by rw [n_eq (by omega) (by decide)]; exact h6
    simp (disch := first | omega | simp (disch := omega) only [mu_o, f30]) [w_X8_line, w_X9_line, c_has1 m5 (by omega) hpn, e1, e3, e4, e5, h3, h5, n_vp, n_cl, mu_o, l_38, l_6, nI_add, f38, m38, h7, hI]
    omega
