theorem p_count (x : Int32) : e_Pair (fun M K => w_X8_count 0 x M K) (fun M K => w_X9_count 98 x M K) := by
  intro M hI
  obtain ⟨n0, -, g0, g1, -⟩ := hI.1.1
  obtain ⟨⟨n1, -, g2, g3, -⟩, -⟩ := hI.1.2.1
  obtain ⟨n2, A, -, -, g4, g5, -⟩ := hI.1.2.2.1
  obtain ⟨n3, -, g6, g7, -⟩ := hI.1.2.2.2.2.1
  obtain ⟨n4, -, g8, g9, -⟩ := hI.1.2.2.2.2.2.1
  obtain ⟨n5, -, g10, g11, -⟩ := hI.1.2.2.2.2.2.2.1
  obtain ⟨n6, -, g12, g13, -⟩ := hI.1.2.2.2.2.2.2.2
  obtain ⟨r, -, g14, g15, -⟩ := hI.2.2
  show w_X8_count 0 x M _
  by_cases h0 : x = 0
  · subst h0; simp [w_X8_count, w_X9_count, m_in, k_30, v_30, g4, g5, hI]
  by_cases h1 : x = 1
  · subst h1; simp [w_X8_count, w_X9_count, m_in, k_31, v_31, g2, g3, hI]
  by_cases h2 : x = 2
  · subst h2; simp [w_X8_count, w_X9_count, m_in, k_32, v_32, g6, g7, hI]
  by_cases h3 : x = 3
  · subst h3; simp [w_X8_count, w_X9_count, m_in, k_33, v_33, g8, g9, hI]
  by_cases h4 : x = 4
  · subst h4; simp [w_X8_count, w_X9_count, m_in, k_34, v_34, g10, g11, hI]
  by_cases h5 : x = 5
  · subst h5; simp [w_X8_count, w_X9_count, m_in, k_35, v_35, g12, g13, hI]
  by_cases h6 : x = 6
  · subst h6; simp [w_X8_count, w_X9_count, m_in, k_36, v_36, g0, g1, hI]
  by_cases h7 : x = 7
  · subst h7; simp [w_X8_count, w_X9_count, g14, g15, hI]
  · have h8 : ¬ (0 ≤ x ∧ x ≤ 6) := by grind
    simp [w_X8_count, w_X9_count, m_in, h0, h1, h2, h3, h4, h5, h6, h7, h8, hI]
theorem p_trace (x : Int32) : e_Pair (fun M K => w_X8_trace 0 x M K) (fun M K => w_X9_trace 98 x M K) := by
  intro M hI
  obtain ⟨r, hr, g1, g2, g3⟩ := hI.2.2
  show w_X8_trace 0 x M _
  have e1 : ap_min (nI r) 20 = nI (if r < 20 then r else 20) := by
    unfold ap_min
    rw [l_20]
    by_cases h : 20 < r
    · rw [if_pos (by rw [n_lt (by decide) (by omega)]; exact h), if_neg (by omega)]
    · rw [if_neg (by rw [n_lt (by decide) (by omega)]; exact h)]
      by_cases h2 : r < 20
      · rw [if_pos h2]
      · rw [if_neg h2, show r = 20 by omega]
  have e2 : ∀ s0 : Nat, s0 ≤ 20 → s0 = (if r < 20 then r else 20) → w_X8_trace 0 x M (fun r1 M1 => w_X9_trace_20 98 x (nI s0) 0 x M1 (fun r2 M2 => r1 = r2 ∧ e_Inv M2)) := by
    intro s0 hs hse
    rcases e_ix x (n := s0) (by omega) with h | ⟨j, hj, rfl⟩
    · have e3 : ∀ M' K, w_X9_in x 0 (nI s0 - 1) M' K = K 0 M' := fun M' K => by
        rw [m_in, if_neg]
        rintro ⟨h3, h4⟩
        rcases h with h | ⟨h5, h6⟩
        · exact absurd h3 (i_nle h)
        · have h7 := n_nonneg (a := s0) (by omega)
          rw [← l_0] at h7
          grind
      rcases h with h | ⟨h5, h6⟩
      · simp [w_X8_trace, w_X9_trace_20, h, e3, hI]
      · have h7 : ¬ x < 0 := i_nlt h5
        have h8 : ¬ x < nI s0 := i_nlt h6
        rw [← hse] at e1
        simp [w_X8_trace, w_X0_inTrace, w_X9_trace_20, h7, g2, e1, h8, e3, hI]
    · have e3 : ∀ M' K, w_X9_in (nI j) 0 (nI s0 - 1) M' K = K 1 M' := fun M' K => by
        rw [l_1, n_sub (by omega), l_0]; exact m_in1 (by omega) (by omega) (by omega)
      have h7 : ¬ nI j < 0 := n_neg (by omega)
      have h8 : nI j < nI s0 := by rw [n_lt (by omega) (by omega)]; exact hj
      rw [← hse] at e1
      have h9 := g3 j (by split at hse <;> omega) (by omega)
      have h10 : j < 20 := by omega
      simp (disch := omega) [w_X8_trace, w_X0_inTrace, w_X9_trace_20, h7, g2, e1, h8, e3, hI, n_vp, n_cl, h9, h10]
  by_cases h : r < 20
  · have h1 : ¬ (20 : Int32) ≤ nI r := by rw [l_20, n_le (by decide) (by omega)]; omega
    have e3 := e2 r (by omega) (by rw [if_pos h])
    have e4 : ∀ K, w_X9_trace 98 x M K = w_X9_trace_20 98 x (nI r) 0 x M K := fun K => by
      unfold w_X9_trace
      rw [g1, if_neg h1]
    have e5 : ∀ M' : ap_Mem, M' = M → ∀ K, w_X9_trace 98 x M' K = w_X9_trace_20 98 x (nI r) 0 x M' K := fun M' e K => by subst e; exact e4 K
    revert e3
    unfold w_X8_trace w_X0_inTrace
    simp only [e5 M rfl]
    exact id
  · have h1 : (20 : Int32) ≤ nI r := by rw [l_20, n_le (by decide) (by omega)]; omega
    have e3 := e2 20 (by omega) (by rw [if_neg h])
    have e5 : ∀ M' : ap_Mem, M' = M → ∀ K, w_X9_trace 98 x M' K = w_X9_trace_20 98 x (nI 20) 0 x M' K := fun M' e K => by
      subst e
      unfold w_X9_trace
      rw [g1, if_pos h1, ← l_20]
    revert e3
    unfold w_X8_trace w_X0_inTrace
    simp only [e5 M rfl]
    exact id
/-! the first that is otherwise -/
def e_lk (p : Nat → Prop) [DecidablePred p] : Nat → Nat → Int32
  | 0, _ => -5
  | c + 1, i => if p i then e_lk p c (i + 1) else nI i
theorem p_looked : e_Pair (fun M K => w_X8_looked 0 M K) (fun M K => w_X9_looked 98 M K) := by
  intro M hI
  obtain ⟨n, hn, f1, m1, h4⟩ := hI.1.2.2.2.2.2.2.2
  obtain ⟨c0, t, -, -, -, -, -, -, hc⟩ := hI.1.2.2.2.1
  have cl : ∀ (K : Int32 → ap_Mem → Prop) (c i fuel : Nat), i + c = n → c < fuel → w_X8_looked_2 0 K fuel (nI i) M = K (e_lk (fun i => M 19 (M 30 i).toNatClampNeg = M 31 i) c i) M := by
    intro K c
    induction c with
    | zero =>
      intro i fuel hi hf
      obtain ⟨k, rfl⟩ : ∃ k, fuel = k + 1 := ⟨fuel - 1, by omega⟩
      have h1 : nI n ≤ nI i := by rw [n_le (by omega) (by omega)]; omega
      show w_X8_looked_2_s _ 0 (nI i) M K = _
      simp [w_X8_looked_2_s, m1, h1, e_lk]
    | succ c ih =>
      intro i fuel hi hf
      obtain ⟨k, rfl⟩ : ∃ k, fuel = k + 1 := ⟨fuel - 1, by omega⟩
      have h1 : ¬ nI n ≤ nI i := by rw [n_le (by omega) (by omega)]; omega
      obtain ⟨⟨c2, hc2, f2, m2⟩, -⟩ := h4 i (by omega)
      have h2 : i < 8 := by omega
      show w_X8_looked_2_s (w_X8_looked_2 0 K k) 0 (nI i) M K = _
      have m2' : M 30 i = nI c2 := m2
      have ih2 := ih (i + 1) k (by omega) (by omega)
      by_cases hq : M 19 c2 = M 31 i
      · simp (disch := omega) [w_X8_looked_2_s, m1, h1, e_lk, n_vp, n_cl, m2', hc2, hq, h2, nI_1, ih2]
      · simp (disch := omega) [w_X8_looked_2_s, m1, h1, e_lk, n_vp, n_cl, m2', hc2, hq, h2]
  have md : ∀ (K : Int32 → ap_Mem → Prop) (c i fuel : Nat), i + c = n → c < fuel → w_X9_looked_2 98 K fuel (nI i) M = K (e_lk (fun i => M 19 (M 30 i).toNatClampNeg = M 31 i) c i) M := by
    intro K c
    induction c with
    | zero =>
      intro i fuel hi hf
      obtain ⟨k, rfl⟩ : ∃ k, fuel = k + 1 := ⟨fuel - 1, by omega⟩
      have h1 : nI n ≤ nI i := by rw [n_le (by omega) (by omega)]; omega
      show w_X9_looked_2_s _ 98 (nI i) M K = _
      simp [w_X9_looked_2_s, f1, h1, e_lk, k_35, v_35]
    | succ c ih =>
      intro i fuel hi hf
      obtain ⟨k, rfl⟩ : ∃ k, fuel = k + 1 := ⟨fuel - 1, by omega⟩
      have h1 : ¬ nI n ≤ nI i := by rw [n_le (by omega) (by omega)]; omega
      obtain ⟨⟨c2, hc2, f2, m2⟩, f3⟩ := h4 i (by omega)
      obtain ⟨l, hl, f4, m4⟩ := hc c2 hc2
      have h2 : 110 + i < 936 := by omega
      have h3 : 118 + i < 936 := by omega
      have h5 : 2 + c2 < 936 := by omega
      show w_X9_looked_2_s (w_X9_looked_2 98 K k) 98 (nI i) M K = _
      have m2' : M 30 i = nI c2 := m2
      have m4' : M 19 c2 = nI l := m4
      have f3' : M 99 (118 + i) = M 31 i := f3
      have ih2 := ih (i + 1) k (by omega) (by omega)
      by_cases hq : nI l = M 31 i
      · simp (disch := omega) [w_X9_looked_2_s, f1, h1, e_lk, n_vp, n_cl, l_110, l_118, l_2, nI_add, f2, f3', f4, m2', m4', hq, h2, h3, h5, nI_1, ih2, k_35, v_35]
      · simp (disch := omega) [w_X9_looked_2_s, f1, h1, e_lk, n_vp, n_cl, l_110, l_118, l_2, nI_add, f2, f3', f4, m2', m4', hq, h2, h3, h5, k_35, v_35]
  show w_X8_looked 0 M _
  unfold w_X8_looked
  rw [l_0, cl _ n 0 4096 (by omega) (by omega)]
  show w_X9_looked 98 M _
  unfold w_X9_looked
  rw [l_0, md _ n 0 4096 (by omega) (by omega)]
  exact ⟨rfl, hI⟩
theorem p_as (x y : Int32) : e_Pair (fun M K => w_X8_as 0 x y M K) (fun M K => w_X9_as 98 x y M K) := by
  intro M hI
  obtain ⟨n, A, hn, hA, f30, m5, m4, hp, hl⟩ := hI.1.2.2.1
  show w_X8_as 0 x y M _
  rcases e_ix x (n := n) (by omega) with h | ⟨p, hpn, rfl⟩
  · simp [w_X8_as, w_X9_as, c_has0 m5 h, m_isPerson0 (q := 98) f30 (by omega) h, hI]
  have e1 : ∀ (M' : ap_Mem) K, M' 99 30 = nI n → w_X9_isPerson 98 (nI p) M' K = K 1 M' := fun M' K h => m_isPerson1 h (by omega) hpn
  rcases e_ix y (n := 7) (by decide) with h | ⟨k, hk, rfl⟩
  · have e2 : ∀ M' K, w_X8_isKind y M' K = K 0 M' := fun M' K => c_isKind0 h
    have e3 : ∀ M' K, w_X9_in y 0 6 M' K = K 0 M' := fun M' K => by rw [l_6]; exact m_in0 (by decide) h
    simp [w_X8_as, w_X9_as, c_has1 m5 (by omega) hpn, e1, f30, e2, e3, hI]
  have e2 : ∀ M' K, w_X8_isKind (nI k) M' K = K 1 M' := fun M' K => c_isKind1 hk
  have e3 : ∀ M' K, w_X9_in (nI k) 0 6 M' K = K 1 M' := fun M' K => by rw [l_6, l_0]; exact m_in1 (by omega) (by omega) (by decide)
  obtain ⟨⟨kd, hkd, f38, m38⟩, ⟨v, hv, f44, m44⟩, -⟩ := hp p hpn
  have h1 : p < 6 := by omega
  have h2 : 38 + p < 936 := by omega
  have h3 : 44 + p < 936 := by omega
  have h4 : kd < 7 := by omega
  have key : ∀ a, a < 7 → ∃ b c, b < 7 ∧ c < 7 ∧ ap_kT 0 a = nI b ∧ ap_kT 0 b = nI c ∧ ∀ k, k < 7 → ((a = k ∨ b = k ∨ c = k) ↔ (k = 0 ∨ k = a ∨ (1 ≤ k ∧ k ≤ 3 ∧ a = k + 3))) := by
    intro a ha
    rcases (by omega : a = 0 ∨ a = 1 ∨ a = 2 ∨ a = 3 ∨ a = 4 ∨ a = 5 ∨ a = 6) with rfl | rfl | rfl | rfl | rfl | rfl | rfl
    · exact ⟨0, 0, by omega, by omega, rfl, rfl, fun k _ => by omega⟩
    · exact ⟨0, 0, by omega, by omega, rfl, rfl, fun k _ => by omega⟩
    · exact ⟨0, 0, by omega, by omega, rfl, rfl, fun k _ => by omega⟩
    · exact ⟨0, 0, by omega, by omega, rfl, rfl, fun k _ => by omega⟩
    · exact ⟨1, 0, by omega, by omega, rfl, rfl, fun k _ => by omega⟩
    · exact ⟨2, 0, by omega, by omega, rfl, rfl, fun k _ => by omega⟩
    · exact ⟨3, 0, by omega, by omega, rfl, rfl, fun k _ => by omega⟩
  obtain ⟨b, c, hb, hc, kb, kc, iff⟩ := key kd h4
  have und : ∀ M' K, w_X9_isUnder (nI kd) (nI k) M' K = (if k = 0 ∨ k = kd ∨ (1 ≤ k ∧ k ≤ 3 ∧ kd = k + 3) then K 1 M' else K 0 M') := by
    intro M' K
    unfold w_X9_isUnder
    have q1 : (nI k = 0) = (k = 0) := by rw [l_0, n_eq (by omega) (by decide)]
    have q2 : (nI k = nI kd) = (k = kd) := by rw [n_eq (by omega) (by omega)]
    have q3 : (nI k ≤ 0) = (k ≤ 0) := by rw [l_0, n_le (by omega) (by decide)]
    have q4 : (4 ≤ nI k) = (4 ≤ k) := by rw [l_4, n_le (by decide) (by omega)]
    have q5 : (nI kd = nI k + 3) = (kd = k + 3) := by rw [l_3, nI_add, n_eq (by omega) (by omega)]
    simp only [q1, q2, q3, q4, q5]
    by_cases g1 : k = 0
    · simp [g1]
    by_cases g2 : k = kd
    · simp [g2]
    by_cases g3 : 4 ≤ k
    · rw [if_neg g1, if_neg g2, if_neg (by omega), if_pos g3, if_neg (by omega)]
    by_cases g4 : kd = k + 3
    · rw [if_neg g1, if_neg g2, if_neg (by omega), if_neg g3, if_pos g4, if_pos (by omega)]
    · rw [if_neg g1, if_neg g2, if_neg (by omega), if_neg g3, if_neg g4, if_neg (by omega)]
  have q1 : (nI kd = nI k) = (kd = k) := by rw [n_eq (by omega) (by omega)]
  have q2 : (nI b = nI k) = (b = k) := by rw [n_eq (by omega) (by omega)]
  have q3 : (nI c = nI k) = (c = k) := by rw [n_eq (by omega) (by omega)]
  have iff2 := iff k hk
  by_cases g : k = 0 ∨ k = kd ∨ (1 ≤ k ∧ k ≤ 3 ∧ kd = k + 3)
  · have fin : w_X9_as 98 (nI p) (nI k) M (fun r2 M2 => nI v = r2 ∧ e_Inv M2) := by
      simp (disch := omega) [w_X9_as, e1, f30, e3, l_38, l_44, nI_add, n_vp, n_cl, f38, f44, und, g, h2, h3, hI]
    by_cases g1 : kd = k
    · simp (disch := omega) [w_X8_as, w_X8_as_63, w_X8_as_68, c_has1 m5 (by omega) hpn, e2, m38, m44, q1, g1, h1, n_vp, n_cl]
      exact fin
    by_cases g2 : b = k
    · simp (disch := omega) [w_X8_as, w_X8_as_63, w_X8_as_68, c_has1 m5 (by omega) hpn, e2, m38, m44, q1, q2, kb, g1, g2, h1, h4, n_vp, n_cl]
      exact fin
    · have g3 : c = k := by have := iff2.mpr g; omega
      simp (disch := omega) [w_X8_as, w_X8_as_63, w_X8_as_68, c_has1 m5 (by omega) hpn, e2, m38, m44, q1, q2, q3, kb, kc, g1, g2, g3, h1, h4, hb, n_vp, n_cl]
      exact fin
  · have g0 : ¬ (kd = k ∨ b = k ∨ c = k) := fun z => g (iff2.mp z)
    have g1 : ¬ kd = k := fun z => g0 (Or.inl z)
    have g2 : ¬ b = k := fun z => g0 (Or.inr (Or.inl z))
    have g3 : ¬ c = k := fun z => g0 (Or.inr (Or.inr z))
    simp (disch := omega) [w_X8_as, w_X8_as_68, c_has1 m5 (by omega) hpn, e2, m38, q1, q2, q3, kb, kc, g1, g2, g3, h1, h4, hb, n_vp, n_cl, w_X9_as, e1, f30, e3, l_38, nI_add, f38, und, g, h2, hI]
