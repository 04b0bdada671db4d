/-! small members of both sides -/
def e_no (x : Int32) (n : Nat) : Prop := x < 0 ∨ (0 ≤ x ∧ nI n ≤ x)
theorem e_ix (x : Int32) {n : Nat} (hn : n < 2147483648) : e_no x n ∨ ∃ j : Nat, j < n ∧ x = nI j := n_ix x hn
theorem i_nlt {a b : Int32} (h : b ≤ a) : ¬ a < b := by grind
theorem i_nle {a b : Int32} (h : b < a) : ¬ a ≤ b := by grind
theorem c_isCell1 {c : Nat} {M : ap_Mem} {K : Int32 → ap_Mem → Prop} (h : c < 16) : w_X8_isCell (nI c) M K = K 1 M := by
  unfold w_X8_isCell
  rw [l_0, l_16, if_neg (n_neg (by omega)), if_neg (by rw [n_le (by omega) (by omega)]; omega)]
theorem c_isCell0 {x : Int32} {M : ap_Mem} {K : Int32 → ap_Mem → Prop} (h : e_no x 16) : w_X8_isCell x M K = K 0 M := by
  unfold w_X8_isCell
  rcases h with h | ⟨h1, h2⟩
  · rw [if_pos h]
  · rw [if_neg (i_nlt h1), l_16, if_pos h2]
theorem c_isKind1 {c : Nat} {M : ap_Mem} {K : Int32 → ap_Mem → Prop} (h : c < 7) : w_X8_isKind (nI c) M K = K 1 M := by
  unfold w_X8_isKind
  rw [l_0, l_7, if_neg (n_neg (by omega)), if_neg (by rw [n_le (by omega) (by omega)]; omega)]
theorem c_isKind0 {x : Int32} {M : ap_Mem} {K : Int32 → ap_Mem → Prop} (h : e_no x 7) : w_X8_isKind x M K = K 0 M := by
  unfold w_X8_isKind
  rcases h with h | ⟨h1, h2⟩
  · rw [if_pos h]
  · rw [if_neg (i_nlt h1), l_7, if_pos h2]
theorem i_lt1 {x : Int32} {n : Nat} (hn : n < 2147483647) (h : nI (n + 1) ≤ x) : nI n < x := by
  have h1 : nI n < nI (n + 1) := by rw [n_lt (by omega) (by omega)]; omega
  grind
theorem c_isDigit1 {c : Nat} {M : ap_Mem} {K : Int32 → ap_Mem → Prop} (h : c < 10) : w_X8_isDigit (nI c) M K = K 1 M := by
  unfold w_X8_isDigit
  rw [l_0, l_9, if_neg (n_neg (by omega)), if_neg (by rw [n_lt (by omega) (by omega)]; omega)]
theorem c_isDigit0 {x : Int32} {M : ap_Mem} {K : Int32 → ap_Mem → Prop} (h : e_no x 10) : w_X8_isDigit x M K = K 0 M := by
  unfold w_X8_isDigit
  rcases h with h | ⟨h1, h2⟩
  · rw [if_pos h]
  · rw [if_neg (i_nlt h1), l_9, if_pos (i_lt1 (by decide) h2)]
theorem c_isFuture1 {c : Nat} {M : ap_Mem} {K : Int32 → ap_Mem → Prop} (h : c < 61) : w_X8_isFuture (nI c) M K = K 1 M := by
  unfold w_X8_isFuture
  rw [l_0, l_60, if_neg (n_neg (by omega)), if_neg (by rw [n_lt (by omega) (by omega)]; omega)]
theorem c_isFuture0 {x : Int32} {M : ap_Mem} {K : Int32 → ap_Mem → Prop} (h : e_no x 61) : w_X8_isFuture x M K = K 0 M := by
  unfold w_X8_isFuture
  rcases h with h | ⟨h1, h2⟩
  · rw [if_pos h]
  · rw [if_neg (i_nlt h1), l_60, if_pos (i_lt1 (by decide) h2)]
theorem c_isEither1 {c : Nat} {M : ap_Mem} {K : Int32 → ap_Mem → Prop} (h : c < 2) : w_X8_isEither (nI c) M K = K 1 M := by
  unfold w_X8_isEither
  rcases (by omega : c = 0 ∨ c = 1) with rfl | rfl
  · rw [← l_0, if_pos rfl]
  · rw [← l_1, if_neg (by decide), if_pos rfl]
theorem c_isEither0 {x : Int32} {M : ap_Mem} {K : Int32 → ap_Mem → Prop} (h : e_no x 2) : w_X8_isEither x M K = K 0 M := by
  unfold w_X8_isEither
  rw [if_neg, if_neg]
  · rintro rfl
    exact absurd h (by unfold e_no; decide)
  · rintro rfl
    exact absurd h (by unfold e_no; decide)
theorem c_has1 {q n j : Nat} {M : ap_Mem} {K : Int32 → ap_Mem → Prop} (hn : M q 5 = nI n) (h2 : n < 2147483648) (h : j < n) : w_X3_has q (nI j) M K = K 1 M := by
  unfold w_X3_has
  rw [l_0, if_neg (n_neg (by omega)), hn, if_neg (by rw [n_le (by omega) (by omega)]; omega)]
theorem c_has0 {q n : Nat} {x : Int32} {M : ap_Mem} {K : Int32 → ap_Mem → Prop} (hn : M q 5 = nI n) (h : e_no x n) : w_X3_has q x M K = K 0 M := by
  unfold w_X3_has
  rcases h with h | ⟨h1, h2⟩
  · rw [if_pos h]
  · rw [if_neg (i_nlt h1), hn, if_pos h2]
theorem m_in1 {a c b : Nat} {M : ap_Mem} {K : Int32 → ap_Mem → Prop} (h : a ≤ c) (h2 : c ≤ b) (hb : b < 2147483648) : w_X9_in (nI c) (nI a) (nI b) M K = K 1 M := by
  unfold w_X9_in
  rw [if_neg (by rw [n_lt (by omega) (by omega)]; omega), if_neg (by rw [n_lt (by omega) (by omega)]; omega)]
theorem m_in0 {n : Nat} {x : Int32} {M : ap_Mem} {K : Int32 → ap_Mem → Prop} (hn : n < 2147483647) (h : e_no x (n + 1)) : w_X9_in x 0 (nI n) M K = K 0 M := by
  unfold w_X9_in
  rcases h with h | ⟨h1, h2⟩
  · rw [if_pos h]
  · rw [if_neg (i_nlt h1), if_pos (i_lt1 hn h2)]
theorem m_in {x a b : Int32} {M : ap_Mem} {K : Int32 → ap_Mem → Prop} : w_X9_in x a b M K = if a ≤ x ∧ x ≤ b then K 1 M else K 0 M := by
  unfold w_X9_in
  by_cases h1 : x < a
  · rw [if_pos h1, if_neg (fun h => (by have := h.1; grind))]
  · by_cases h2 : b < x
    · rw [if_neg h1, if_pos h2, if_neg (fun h => (by have := h.2; grind))]
    · rw [if_neg h1, if_neg h2, if_pos ⟨by grind, by grind⟩]
theorem b_1 : ap_B 1 ↔ True := ⟨fun _ => trivial, fun _ => ap_B1⟩
theorem b_0 : ap_B 0 ↔ True := ⟨fun _ => trivial, fun _ => ap_B0⟩
theorem m_isCell1 {c : Nat} {M : ap_Mem} {K : Int32 → ap_Mem → Prop} (h : c < 16) : w_X9_isCell (nI c) M K = K 1 M := by
  unfold w_X9_isCell
  rw [l_0, l_15, m_in1 (by omega) (by omega) (by decide)]
  simp [b_1]
theorem m_isCell0 {x : Int32} {M : ap_Mem} {K : Int32 → ap_Mem → Prop} (h : e_no x 16) : w_X9_isCell x M K = K 0 M := by
  unfold w_X9_isCell
  rw [l_15, m_in0 (by decide) h]
  simp [b_0]
theorem m_isPerson1 {q n j : Nat} {M : ap_Mem} {K : Int32 → ap_Mem → Prop} (hn : M (q + 1) 30 = nI n) (h2 : n < 2147483648) (h : j < n) : w_X9_isPerson q (nI j) M K = K 1 M := by
  unfold w_X9_isPerson
  rw [l_30, n_cl (by decide), hn, l_0, l_1, n_sub (by omega), m_in1 (by omega) (by omega) (by omega)]
  simp [n_vp, ← l_1, b_1]
theorem m_isPerson0 {q n : Nat} {x : Int32} {M : ap_Mem} {K : Int32 → ap_Mem → Prop} (hn : M (q + 1) 30 = nI n) (h2 : n < 2147483648) (h : e_no x n) : w_X9_isPerson q x M K = K 0 M := by
  unfold w_X9_isPerson
  rw [l_30, n_cl (by decide), hn, m_in, if_neg]
  · simp [n_vp, b_0]
  · rintro ⟨h3, h4⟩
    rcases h with h | ⟨h5, h6⟩
    · exact absurd h3 (i_nle h)
    · have h7 := n_nonneg h2
      rw [← l_0] at h7
      grind
/-! how far two cells are -/
def e_far (a b : Nat) : Nat := (if a / 4 ≤ b / 4 then b / 4 - a / 4 else a / 4 - b / 4) + (if a % 4 ≤ b % 4 then b % 4 - a % 4 else a % 4 - b % 4)
theorem c_farv : ∀ a, a < 16 → ∀ b, b < 16 → (ap_abs ((nI a / 4) - (nI b / 4))) + (ap_abs ((nI a - nI a / 4 * 4) - (nI b - nI b / 4 * 4))) = nI (e_far a b) := by decide +kernel
theorem c_far {a b : Nat} {M : ap_Mem} {K : Int32 → ap_Mem → Prop} (ha : a < 16) (hb : b < 16) : w_X8_far (nI a) (nI b) M K = K (nI (e_far a b)) M := by
  unfold w_X8_far
  rw [c_farv a ha b hb]
theorem m_size {x : Int32} {M : ap_Mem} {K : Int32 → ap_Mem → Prop} : w_X9_size x M K = K (if 0 ≤ x then x else -x) M := by
  unfold w_X9_size
  split <;> rfl
theorem m_farv : ∀ a, a < 16 → ∀ b, b < 16 → (if 0 ≤ (nI a / 4) - (nI b / 4) then (nI a / 4) - (nI b / 4) else -((nI a / 4) - (nI b / 4))) + (if 0 ≤ (nI a - nI a / 4 * 4) - (nI b - nI b / 4 * 4) then (nI a - nI a / 4 * 4) - (nI b - nI b / 4 * 4) else -((nI a - nI a / 4 * 4) - (nI b - nI b / 4 * 4))) = nI (e_far a b) := by decide +kernel
theorem m_far {a b : Nat} {M : ap_Mem} {K : Int32 → ap_Mem → Prop} (ha : a < 16) (hb : b < 16) : w_X9_far (nI a) (nI b) M K = K (nI (e_far a b)) M := by
  unfold w_X9_far
  rw [m_size, m_size, m_farv a ha b hb]
theorem e_far_le {a b : Nat} (ha : a < 16) (hb : b < 16) : e_far a b ≤ 6 := by
  unfold e_far
  split <;> split <;> omega
theorem e_far_sym (a b : Nat) : e_far a b = e_far b a := by
  unfold e_far
  split <;> split <;> split <;> split <;> omega
/-! rows of the class -/
theorem c_add {q n N : Nat} {a b : Int32} {M : ap_Mem} {K : Int32 → ap_Mem → Prop} (h1 : ap_ln (q + 1) = N) (h2 : ap_ln (q + 2) = N) (hN : N < 2147483647) (hn : M q 2 = nI n) (hlt : n < N) : w_X5_add q a b M K = K (nI (n + 1)) (ap_mu (ap_mu (ap_mu M (q + 1) n a) (q + 2) n b) q 2 (nI (n + 1))) := by
  unfold w_X5_add
  have hlt2 := Nat.not_le.mpr hlt
  simp (disch := omega) [h1, h2, hn, n_le, n_lt, n_vp, n_cl, mu_at, hlt, hlt2, nI_1]
theorem c_addF {q n N : Nat} {a b : Int32} {M : ap_Mem} {K : Int32 → ap_Mem → Prop} (h1 : ap_ln (q + 1) = N) (hN : N < 2147483648) (hn : M q 2 = nI n) (hn2 : n < 2147483648) (hlt : N ≤ n) : w_X5_add q a b M K = K (-4) M := by
  unfold w_X5_add
  simp (disch := omega) [h1, hn, n_le, hlt]
theorem c_clear {q : Nat} {M : ap_Mem} {K : Int32 → ap_Mem → Prop} : w_X5_clear q M K = K 0 (ap_mu M q 2 0) := by
  unfold w_X5_clear
  simp
theorem m_becomes {q i : Nat} {v : Int32} {M : ap_Mem} {K : Int32 → ap_Mem → Prop} (h : i < 936) : w_X9_becomes q (nI i) v M K = K (M (q + 1) i) (ap_mu M (q + 1) i v) := by
  unfold w_X9_becomes
  simp (disch := omega) [n_vp, n_cl, h]
