/-! town: the texts, the tape read by both sides -/
theorem t_if {P Q : Prop} {dp : Decidable P} [dq : Decidable Q] (h : P = Q) {a b : Prop} : @ite Prop P dp a b = @ite Prop Q dq a b := by
  subst h
  by_cases hp : P
  · rw [if_pos hp, if_pos hp]
  · rw [if_neg hp, if_neg hp]
def t_str (w : Nat) : List Nat := [[98, 111, 114, 101, 100, 32], [104, 111, 112, 101, 32], [115, 104, 121, 32], [48, 49, 50, 51, 52, 53, 54, 55, 56, 57], [112, 107, 118, 102, 99, 115], [60, 61, 62]].getD w []
def t_ch (w j : Nat) : Nat := (t_str w).getD j 0
def t_ix (w c : Nat) : Nat := (t_str w).idxOf c
theorem t_lens : ∀ w, w < 6 → nI (ap_sL w) >>> ((0 : Int32) &&& 31) = nI (ap_sL w) := by decide +kernel
theorem t_slen : ∀ w, w < 6 → ap_sL w = (t_str w).length ∧ ap_sL w ≤ 10 ∧ 0 < ap_sL w := by decide +kernel
theorem t_chs : ∀ w, w < 6 → ∀ j, j < 10 → j < ap_sL w → (((ap_sB w j) &&& 255).toUInt32 % 65536).toInt32 = nI (t_ch w j) ∧ t_ch w j < 128 := by decide +kernel
theorem t_ixs : ∀ w, w < 6 → ∀ c, c < 128 → (∀ i, i < t_ix w c → ap_sB w i ≠ nI c) ∧ (t_ix w c < ap_sL w → ap_sB w (t_ix w c) = nI c) ∧ t_ix w c ≤ ap_sL w := by decide +kernel
theorem t_ixn : ∀ w, w < 6 → t_ix w 256 = ap_sL w := by decide +kernel
theorem t_ixc : ∀ w, w < 6 → ∀ j, j < 10 → j < ap_sL w → t_ix w (t_ch w j) = j := by decide +kernel
theorem t_u16 : ∀ c, c < 128 → ((nI c).toUInt32 % 65536).toInt32 = nI c := by decide +kernel
theorem t_i8 : ∀ c, c < 128 → (nI c).toInt8.toInt32 = nI c := by decide +kernel
theorem t_mins : ∀ w, w < 6 → ap_min (nI (ap_sL w)) (nI (ap_sL w)) = nI (ap_sL w) ∧ ap_max 0 0 = 0 := by decide +kernel
theorem j_len {w : Nat} (hw : w < 6) {M : ap_Mem} {K : Int32 → ap_Mem → Prop} : w_J0_length_8abf5 w M K = K (nI (ap_sL w)) M := by
  unfold w_J0_length_8abf5 w_J0_coder_7d493
  rw [if_neg (by decide), eq_true (by decide +kernel : narrow .byte (.int 0) = .int 0), true_and]
  dsimp only
  rw [t_lens w hw]
theorem j_latin {w : Nat} {M : ap_Mem} {K : Int32 → ap_Mem → Prop} : w_J0_isLatin1_aae02 w M K = K 1 M := by
  unfold w_J0_isLatin1_aae02
  rw [if_neg (by decide), if_pos rfl]
theorem j_char {w j : Nat} (hw : w < 6) (hj : j < ap_sL w) {M : ap_Mem} {K : Int32 → ap_Mem → Prop} : w_J0_charAt_5068e w (nI j) M K = K (nI (t_ch w j)) M := by
  obtain ⟨-, h1, -⟩ := t_slen w hw
  obtain ⟨h2, h3⟩ := t_chs w hw j (by omega) hj
  have h4 := (pk_charN (q := t_ch w j) (by omega)).1
  unfold w_J0_charAt_5068e
  rw [j_latin, if_neg (by decide)]
  unfold w_J1_charAt_3b067 w_J0_checkIndex_df160 w_J3_checkIndex_8e157
  rw [l_0, if_neg (n_neg (by omega)), if_pos (by rw [n_lt (by omega) (by omega)]; exact hj), n_cl (by omega), h2, n_vp (by omega), eq_true hj]
  dsimp only
  rw [eq_true h4, true_and, true_and, true_and]
theorem j_loop {w c : Nat} (hw : w < 6) (hc : c < 128) {M : ap_Mem} {K : Int32 → ap_Mem → Prop} : ∀ (m j fuel : Nat), j + m = ap_sL w → m < fuel → j ≤ t_ix w c → w_J1_indexOfChar_4cfef_7 w K fuel (nI (ap_sL w)) (nI c) (nI j) M = K (if t_ix w c < ap_sL w then nI (t_ix w c) else -1) M := by
  obtain ⟨h1, h2, h3⟩ := t_ixs w hw c hc
  obtain ⟨-, h5, -⟩ := t_slen w hw
  intro m
  induction m with
  | zero =>
    intro j fuel hj hf hi
    obtain ⟨k, rfl⟩ : ∃ k, fuel = k + 1 := ⟨fuel - 1, by omega⟩
    show w_J1_indexOfChar_4cfef_7_s _ w _ _ _ M K = _
    unfold w_J1_indexOfChar_4cfef_7_s
    rw [if_pos (by rw [n_le (by omega) (by omega)]; omega), if_neg (by omega)]
  | succ m ih =>
    intro j fuel hj hf hi
    obtain ⟨k, rfl⟩ : ∃ k, fuel = k + 1 := ⟨fuel - 1, by omega⟩
    show w_J1_indexOfChar_4cfef_7_s (w_J1_indexOfChar_4cfef_7 w K k) w _ _ _ M K = _
    unfold w_J1_indexOfChar_4cfef_7_s
    rw [if_neg (by rw [n_le (by omega) (by omega)]; omega), n_cl (by omega), n_vp (by omega), eq_true (by omega : j < ap_sL w), true_and]
    by_cases he : ap_sB w j = nI c
    · have : t_ix w c = j := by
        by_cases h : j < t_ix w c
        · exact absurd he (h1 j h)
        · omega
      rw [if_pos he, this, if_pos (by omega)]
    · rw [if_neg he]
      have : j ≠ t_ix w c := by
        intro h
        apply he
        rw [h]
        exact h2 (by omega)
      simp only [forall_eq]
      rw [nI_1]
      exact ih (j + 1) k (by omega) (by omega) (by omega)
theorem j_index {w c : Nat} (hw : w < 6) (hc : c < 128) {M : ap_Mem} {K : Int32 → ap_Mem → Prop} : w_J0_indexOf_0f7a4 w (nI c) M K = K (if t_ix w c < ap_sL w then nI (t_ix w c) else -1) M := by
  obtain ⟨h1, h2⟩ := t_mins w hw
  obtain ⟨-, h5, h6⟩ := t_slen w hw
  unfold w_J0_indexOf_0f7a4 w_J0_indexOf_7cf53
  rw [j_latin, if_neg (by decide), j_len hw]
  unfold w_J1_indexOf_4cfef w_J1_canEncode_9a6ad
  rw [l_0, if_neg (n_neg (by omega)), show (255 : Int32) = nI 255 from rfl, if_neg (by rw [n_lt (by omega) (by omega)]; omega)]
  dsimp only
  rw [if_neg (by decide), ← l_0, h1, h2]
  simp only [forall_eq]
  rw [l_0, if_pos (by rw [n_lt (by omega) (by omega)]; omega)]
  unfold w_J1_indexOfChar_4cfef
  simp only [forall_eq]
  rw [t_i8 c hc]
  exact j_loop hw hc (ap_sL w) 0 4096 (by omega) (by omega) (by omega)
theorem mu_mu (M : ap_Mem) (q i : Nat) (a b : Int32) : ap_mu (ap_mu M q i a) q i b = ap_mu M q i b := by
  funext x y
  rw [mu_at, mu_at, mu_at]
  split <;> rfl
/-! the tape -/
def t_hd (T : Nat → Nat) (n p : Nat) : Nat := if p < n then T p else 256
def t_hI (T : Nat → Nat) (n p : Nat) : Int32 := if p < n then nI (T p) else -1
def t_CT (T : Nat → Nat) (n : Nat) (M : ap_Mem) (p : Nat) : Prop := n ≤ 100 ∧ p ≤ n ∧ (∀ i, i < n → T i < 128) ∧ M 63 1 = nI p ∧ M 72 2 = nI n ∧ ∀ i, i < n → M 73 i = nI (T i)
def t_MT (T : Nat → Nat) (n : Nat) (M : ap_Mem) (p : Nat) : Prop := n ≤ 100 ∧ p ≤ n ∧ (∀ i, i < n → T i < 128) ∧ M 98 6 = nI p ∧ M 98 7 = nI n ∧ ∀ i, i < n → M 99 (126 + i) = nI (T i)
theorem t_hlt {T : Nat → Nat} {n p c : Nat} (h : t_hd T n p = c) (hc : c < 128) : p < n ∧ T p = c := by
  unfold t_hd at h
  split at h
  · exact ⟨by assumption, h⟩
  · omega
theorem t_hIe {T : Nat → Nat} {n p c : Nat} (hT : ∀ i, i < n → T i < 128) (hc : c < 128) : (t_hI T n p = nI c) = (t_hd T n p = c) := by
  unfold t_hI t_hd
  by_cases h : p < n
  · have := hT p h
    rw [if_pos h, if_pos h, n_eq (by omega) (by omega)]
  · rw [if_neg h, if_neg h]
    exact propext ⟨fun h => absurd h (n_m1' (by omega)), fun h => by omega⟩
theorem t_next {T : Nat → Nat} {n p : Nat} {M : ap_Mem} {K : Int32 → ap_Mem → Prop} (h : t_CT T n M p) : w_X4_next 63 M K = K (t_hI T n p) M := by
  obtain ⟨h1, h2, h3, h4, h5, h6⟩ := h
  unfold w_X4_next t_hI
  rw [h4, l_0, if_neg (n_neg (by omega)), show (63 + 9 : Nat) = 72 from rfl, show (63 + 10 : Nat) = 73 from rfl, h5]
  by_cases hp : p < n
  · rw [if_neg (by rw [n_le (by omega) (by omega)]; omega), n_cl (by omega), h6 p hp, n_vp (by omega), eq_true (by omega : p < 100), true_and, if_pos hp]
  · rw [if_pos (by rw [n_le (by omega) (by omega)]; omega), if_neg hp]
theorem t_takes {T : Nat → Nat} {n p c : Nat} {M : ap_Mem} {K : Int32 → ap_Mem → Prop} (h : t_CT T n M p) (hc : c < 128) : w_X4_takes 63 (nI c) M K = if t_hd T n p = c then K 1 (ap_mu M 63 1 (nI (p + 1))) else K 0 M := by
  unfold w_X4_takes
  rw [t_next h, t_if (t_hIe h.2.2.1 hc)]
  by_cases e : t_hd T n p = c
  · rw [if_pos e, if_pos e]
    unfold w_X4_takes_13
    rw [if_neg (by decide), h.2.2.2.1, nI_1]
    simp only [forall_eq]
    rw [eq_true ap_B1, true_and]
  · rw [if_neg e, if_neg e]
    unfold w_X4_takes_13
    rw [if_pos rfl, eq_true ap_B0, true_and]
theorem t_CTmu {T : Nat → Nat} {n p p' : Nat} {M : ap_Mem} (h : t_CT T n M p) (hp : p' ≤ n) : t_CT T n (ap_mu M 63 1 (nI p')) p' := by
  obtain ⟨h1, h2, h3, h4, h5, h6⟩ := h
  exact ⟨h1, hp, h3, by rw [mu_s], by simp (disch := omega) only [mu_o, h5], fun i hi => by simp (disch := omega) only [mu_o, h6 i hi]⟩
theorem t_ixlt {T : Nat → Nat} {n p w : Nat} (hw : w < 6) (h : t_ix w (t_hd T n p) < ap_sL w) : p < n := by
  unfold t_hd at h
  split at h
  · assumption
  · rw [t_ixn w hw] at h
    omega
theorem t_one {T : Nat → Nat} {n p w : Nat} {M : ap_Mem} {K : Int32 → ap_Mem → Prop} (h : t_CT T n M p) (hw : w < 6) : w_X4_takesOneOf 63 w M K = if t_ix w (t_hd T n p) < ap_sL w then K (nI (t_ix w (t_hd T n p))) (ap_mu M 63 1 (nI (p + 1))) else K (-1) M := by
  have hT := h.2.2.1
  obtain ⟨-, h5, h6⟩ := t_slen w hw
  unfold w_X4_takesOneOf
  rw [t_next h]
  unfold t_hI t_hd
  by_cases hp : p < n
  · have hc := hT p hp
    rw [if_pos hp, if_pos hp, l_0, if_pos (n_nonneg (by omega)), t_u16 _ hc, j_index hw hc]
    unfold w_X4_takesOneOf_19
    by_cases e : t_ix w (T p) < ap_sL w
    · rw [if_pos e, if_pos e, l_0, if_neg (n_neg (by omega)), h.2.2.2.1, nI_1]
      simp only [forall_eq]
    · rw [if_neg e, if_neg e, if_pos (by decide)]
  · rw [if_neg hp, if_neg hp, if_neg (by decide), t_ixn w hw, if_neg (by omega)]
    unfold w_X4_takesOneOf_19
    rw [if_pos (by decide)]
def t_num (T : Nat → Nat) (n p : Nat) : Except Nat (Nat × Nat) :=
  if t_ix 3 (t_hd T n p) < 10 then (if t_ix 3 (t_hd T n p) = 0 then .ok (p + 1, 0) else if t_ix 3 (t_hd T n (p + 1)) < 10 then .ok (p + 2, 10 * t_ix 3 (t_hd T n p) + t_ix 3 (t_hd T n (p + 1))) else .ok (p + 1, t_ix 3 (t_hd T n p))) else .error p
theorem t_numOk {T : Nat → Nat} {n p : Nat} {r : Nat × Nat} (h : t_num T n p = .ok r) : p < r.1 ∧ r.1 ≤ n ∧ r.2 < 100 := by
  have e : ∀ q, t_ix 3 (t_hd T n q) < 10 → q < n := fun q hq => t_ixlt (w := 3) (by decide) hq
  unfold t_num at h
  split at h
  · rename_i h1
    have := e _ h1
    split at h
    · cases h
      exact ⟨by omega, by omega, by omega⟩
    · split at h
      · rename_i h2
        have := e _ h2
        cases h
        exact ⟨by omega, by omega, by omega⟩
      · cases h
        exact ⟨by omega, by omega, by omega⟩
  · cases h
theorem t_numEr {T : Nat → Nat} {n p e : Nat} (h : t_num T n p = .error e) : e = p := by
  unfold t_num at h
  split at h
  · split at h
    · cases h
    · split at h <;> cases h
  · cases h
    rfl
theorem t_numC {T : Nat → Nat} {n p : Nat} {M : ap_Mem} {K : Int32 → ap_Mem → Prop} (h : t_CT T n M p) (ho : ∀ r, t_num T n p = .ok r → K (nI r.2) (ap_mu M 63 1 (nI r.1))) (he : ∀ e, t_num T n p = .error e → K (-1) M) : w_X4_takesNumber 63 M K := by
  unfold w_X4_takesNumber
  have e3 : ap_sL 3 = 10 := rfl
  rw [t_one h (by decide), e3]
  unfold t_num at ho he
  by_cases h1 : t_ix 3 (t_hd T n p) < 10
  · have hp := t_ixlt (w := 3) (by decide) h1
    rw [if_pos h1]
    by_cases h2 : t_ix 3 (t_hd T n p) = 0
    · have := ho _ (by rw [if_pos h1, if_pos h2])
      rw [h2, l_0, if_neg (by rw [n_lt (by omega) (by omega)]; omega)]
      exact this
    · rw [l_0, if_pos (by rw [n_lt (by omega) (by omega)]; omega), t_one (t_CTmu h (p' := p + 1) hp) (by decide), e3]
      by_cases h3 : t_ix 3 (t_hd T n (p + 1)) < 10
      · have := ho _ (by rw [if_pos h1, if_neg h2, if_pos h3])
        rw [if_pos h3, if_pos (n_nonneg (by omega)), mu_mu, l_10, pk_mul, nI_add]
        exact this
      · have := ho _ (by rw [if_pos h1, if_neg h2, if_neg h3])
        rw [if_neg h3, if_neg (by decide)]
        exact this
  · have := he _ (by rw [if_neg h1])
    rw [if_neg h1, if_neg (by decide)]
    exact this
