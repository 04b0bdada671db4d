/-! as seen: both sides try what was seen -/
def e_sk (sf ss : Nat → Nat) (cur k : Nat) : Nat → Bool
  | 0 => true
  | i + 1 => e_sk sf ss cur k i && decide (ss i = k → sf i = cur)
def e_asB (D : e_D) (sf ss : Nat → Nat) (n : Nat) : Nat → e_W → Nat → Bool
  | 0, _, _ => true
  | r + 1, w, k => e_sk sf ss w.2.1 k n && e_asB D sf ss n r (e_stp D w) (k + 1)
theorem e_skT {sf ss : Nat → Nat} {cur k : Nat} : ∀ n, (∀ i, i < n → ss i ≠ k) → e_sk sf ss cur k n = true := by
  intro n
  induction n with
  | zero => exact fun _ => rfl
  | succ n ih =>
    intro h
    show (e_sk sf ss cur k n && _) = true
    rw [ih (fun i hi => h i (by omega)), Bool.true_and]
    exact decide_eq_true (fun z => absurd z (h n (by omega)))
theorem e_asX {D : e_D} {sf ss : Nat → Nat} {n : Nat} : ∀ (r m : Nat) (w : e_W) (k : Nat), (∀ i, i < n → ss i < k + r) → e_asB D sf ss n (r + m) w k = e_asB D sf ss n r w k := by
  intro r
  induction r with
  | zero =>
    intro m
    induction m with
    | zero => exact fun _ _ _ => rfl
    | succ m ih =>
      intro w k h
      show (e_sk sf ss w.2.1 k n && e_asB D sf ss n (0 + m) (e_stp D w) (k + 1)) = true
      rw [e_skT n (fun i hi => by have := h i hi; omega), ih _ (k + 1) (fun i hi => by have := h i hi; omega)]
      rfl
  | succ r ih =>
    intro m w k h
    rw [show r + 1 + m = (r + m) + 1 by omega]
    show (_ && e_asB D sf ss n (r + m) _ (k + 1)) = (_ && e_asB D sf ss n r _ (k + 1))
    rw [ih m _ (k + 1) (fun i hi => by have := h i hi; omega)]
def e_maxN (ss : Nat → Nat) : Nat → Nat
  | 0 => 0
  | i + 1 => max (e_maxN ss i) (ss i)
theorem e_maxL {ss : Nat → Nat} {b : Nat} : ∀ n, (∀ i, i < n → ss i ≤ b) → e_maxN ss n ≤ b ∧ ∀ i, i < n → ss i ≤ e_maxN ss n := by
  intro n
  induction n with
  | zero => exact fun _ => ⟨Nat.zero_le _, fun i hi => absurd hi (by omega)⟩
  | succ n ih =>
    intro h
    obtain ⟨h1, h2⟩ := ih (fun i hi => h i (by omega))
    have h3 := h n (by omega)
    show max (e_maxN ss n) (ss n) ≤ b ∧ ∀ i, i < n + 1 → ss i ≤ max (e_maxN ss n) (ss n)
    refine ⟨by omega, fun i hi => ?_⟩
    by_cases hin : i = n
    · subst hin
      omega
    · have := h2 i (by omega)
      omega
theorem x_max {a b : Nat} (ha : a < 1000) (hb : b < 1000) : ap_max (nI a) (nI b) = nI (max a b) := by
  unfold ap_max
  by_cases h : a < b
  · rw [if_pos (by rw [n_lt (by omega) (by omega)]; exact h), Nat.max_eq_right (by omega)]
  · rw [if_neg (by rw [n_lt (by omega) (by omega)]; exact h), Nat.max_eq_left (by omega)]
def e_SeenC (M : ap_Mem) (sf ss : Nat → Nat) (n : Nat) : Prop := n ≤ 5 ∧ M 23 2 = nI n ∧ ∀ i, i < n → M 24 i = nI (sf i) ∧ M 25 i = nI (ss i) ∧ sf i < 16 ∧ ss i ≤ 20
theorem e_asO (D : e_D) {sf ss : Nat → Nat} {n : Nat} {w : e_W} {L : Nat} (hL : L ≤ 20) (h : ∀ i, i < n → ss i ≤ L) : e_asB D sf ss n (L + 1) w 0 = e_asB D sf ss n 21 w 0 := by
  have := e_asX (D := D) (sf := sf) (ss := ss) (n := n) (L + 1) (20 - L) w 0 (fun i hi => by have := h i hi; omega)
  rw [show L + 1 + (20 - L) = 21 by omega] at this
  exact this.symm
theorem c_as {D : e_D} {sf ss : Nat → Nat} {n : Nat} {w w1 : e_W} {M : ap_Mem} {K : Int32 → ap_Mem → Prop} (hC : e_CC M D w1) (hst : e_CStart M w) (hD : e_okD D) (hN : e_okN 100 w) (hs : e_SeenC M sf ss n) (h : ∀ M' w', (∀ x, ¬ (91 ≤ x ∧ x ≤ 95) → ¬ (82 ≤ x ∧ x ≤ 83) → M' x = M x) → e_CC M' D w' → K (e_bi (e_asB D sf ss n 21 w 0)) M') : w_X2_isAsSeen 76 23 M K := by
  obtain ⟨s1, s2, s3⟩ := hs
  obtain ⟨mx1, mx2⟩ := e_maxL (ss := ss) (b := 20) n (fun i hi => (s3 i hi).2.2.2)
  rw [← e_asO D mx1 mx2] at h
  generalize hL : e_maxN ss n = L at *
  have inner : ∀ (kL : Int32 → Int32 → ap_Mem → Prop) (k : Nat) (w : e_W) (M1 : ap_Mem), k ≤ 20 → (∀ x, ¬ (91 ≤ x ∧ x ≤ 95) → ¬ (82 ≤ x ∧ x ≤ 83) → M1 x = M x) → e_CC M1 D w → e_okW w → (e_sk sf ss w.2.1 k n = false → K 0 M1) → (e_sk sf ss w.2.1 k n = true → ∀ M', (∀ x, ¬ (91 ≤ x ∧ x ≤ 95) → ¬ (82 ≤ x ∧ x ≤ 83) → M' x = M x) → e_CC M' D (e_stp D w) → kL (nI L) (nI (k + 1)) M') → ∀ (m j i : Nat), i + j = n → e_sk sf ss w.2.1 k i = true → w_X2_isAsSeen_43 kL 76 23 K (m + 1 + j) (nI L) (nI k) (nI i) M1 := by
    intro kL k w M1 hk f1 hC1 hW hf ht m j
    induction j with
    | zero =>
      intro i hi hsk
      have : i = n := by omega
      subst this
      show w_X2_isAsSeen_43_s kL (w_X2_isAsSeen_43 kL 76 23 K m) 76 23 (nI L) (nI k) (nI i) M1 K
      unfold w_X2_isAsSeen_43_s
      rw [f1 23 (by omega) (by omega), s2, if_pos (by rw [n_le (by omega) (by omega)]; omega)]
      refine c_goU hC1 hD hW (fun M2 f2 h2 => ?_)
      rintro _ rfl
      rw [nI_1]
      exact ht hsk M2 (fun x a b => by rw [f2 x a b, f1 x a b]) h2
    | succ j ih =>
      intro i hi hsk
      obtain ⟨t1, t2, t3, t4⟩ := s3 i (by omega)
      have hcur := hW.2.1
      show w_X2_isAsSeen_43_s kL (w_X2_isAsSeen_43 kL 76 23 K (m + 1 + j)) 76 23 (nI L) (nI k) (nI i) M1 K
      unfold w_X2_isAsSeen_43_s
      have l25 : ap_ln (23 + 2) = 5 := rfl
      have l24 : ap_ln (23 + 1) = 5 := rfl
      rw [f1 23 (by omega) (by omega), s2, if_neg (by rw [n_le (by omega) (by omega)]; omega), l25, l24, n_vp (by omega), n_cl (by omega), show (23 + 2 : Nat) = 25 from rfl, show (23 + 1 : Nat) = 24 from rfl, f1 25 (by omega) (by omega), f1 24 (by omega) (by omega), t1, t2, show (76 + 6 : Nat) = 82 from rfl, hC1.2.1.1]
      refine ⟨by omega, ?_⟩
      have nx : e_sk sf ss w.2.1 k (i + 1) = true → w_X2_isAsSeen_82 (w_X2_isAsSeen_43 kL 76 23 K (m + 1 + j)) 76 23 (nI L) (nI k) (nI i) M1 K := by
        intro h1
        unfold w_X2_isAsSeen_82
        rintro _ rfl
        rw [nI_1]
        exact ih (i + 1) (by omega) h1
      by_cases hsi : ss i = k
      · rw [if_pos (by rw [hsi])]
        refine ⟨by omega, ?_⟩
        by_cases hfi : sf i = w.2.1
        · rw [if_pos (by rw [hfi])]
          exact nx (by show (e_sk sf ss w.2.1 k i && _) = true; rw [hsk, Bool.true_and]; exact decide_eq_true (fun _ => hfi))
        · rw [if_neg (by rw [n_eq (by omega) (by omega)]; exact hfi)]
          refine hf ?_
          cases hb : e_sk sf ss w.2.1 k n with
          | false => rfl
          | true =>
            exfalso
            have all : ∀ a, e_sk sf ss w.2.1 k a = true → ∀ b, b < a → (ss b = k → sf b = w.2.1) := by
              intro a
              induction a with
              | zero => exact fun _ b hb => absurd hb (by omega)
              | succ a iha =>
                intro ha b hb
                have ha2 : (e_sk sf ss w.2.1 k a && decide (ss a = k → sf a = w.2.1)) = true := ha
                rw [Bool.and_eq_true] at ha2
                by_cases hba : b = a
                · subst hba
                  exact of_decide_eq_true ha2.2
                · exact iha ha2.1 b (by omega)
            exact hfi (all n hb i (by omega) hsi)
      · rw [if_neg (by rw [n_eq (by omega) (by omega)]; exact hsi)]
        exact nx (by show (e_sk sf ss w.2.1 k i && _) = true; rw [hsk, Bool.true_and]; exact decide_eq_true (fun z => absurd z hsi))
  have outer : ∀ (m r k : Nat) (w : e_W) (M1 : ap_Mem), k + r = L + 1 → (∀ x, ¬ (91 ≤ x ∧ x ≤ 95) → ¬ (82 ≤ x ∧ x ≤ 83) → M1 x = M x) → e_CC M1 D w → e_okN r w → (∀ M' w', (∀ x, ¬ (91 ≤ x ∧ x ≤ 95) → ¬ (82 ≤ x ∧ x ≤ 83) → M' x = M x) → e_CC M' D w' → K (e_bi (e_asB D sf ss n r w k)) M') → w_X2_isAsSeen_35 76 23 K (m + 1 + r) (nI L) (nI k) M1 := by
    intro m r
    induction r with
    | zero =>
      intro k w M1 hk f1 hC1 hN h
      show w_X2_isAsSeen_35_s (w_X2_isAsSeen_35 76 23 K m) 76 23 (nI L) (nI k) M1 K
      unfold w_X2_isAsSeen_35_s
      rw [if_pos (by rw [n_lt (by omega) (by omega)]; omega)]
      exact h M1 w f1 hC1
    | succ r ih =>
      intro k w M1 hk f1 hC1 hN h
      show w_X2_isAsSeen_35_s (w_X2_isAsSeen_35 76 23 K (m + 1 + r)) 76 23 (nI L) (nI k) M1 K
      unfold w_X2_isAsSeen_35_s
      rw [if_neg (by rw [n_lt (by omega) (by omega)]; omega)]
      have := inner (w_X2_isAsSeen_35 76 23 K (m + 1 + r)) k w M1 (by omega) f1 hC1 (e_okNW hN) (fun hb => ?_) (fun hb M2 f2 h2 => ?_) (4095 - n) n 0 (by omega) rfl
      · rw [show 4095 - n + 1 + n = 4096 by omega] at this
        exact this
      · have := h M1 w f1 hC1
        have e : e_asB D sf ss n (r + 1) w k = false := by show (_ && _) = false; rw [hb, Bool.false_and]
        rw [e] at this
        exact this
      · refine ih (k + 1) _ M2 (by omega) f2 h2 (e_okNS hN) (fun M3 w3 f3 h3 => ?_)
        have := h M3 w3 f3 h3
        have e : e_asB D sf ss n (r + 1) w k = e_asB D sf ss n r (e_stp D w) (k + 1) := by show (_ && _) = _; rw [hb, Bool.true_and]
        rw [e] at this
        exact this
  have first : ∀ (m j i : Nat), i + j = n → w_X2_isAsSeen_4 76 23 K (m + 1 + j) (nI (e_maxN ss i)) (nI i) M := by
    intro m j
    induction j with
    | zero =>
      intro i hi
      have : i = n := by omega
      rw [this]
      show w_X2_isAsSeen_4_s (w_X2_isAsSeen_4 76 23 K m) 76 23 (nI (e_maxN ss n)) (nI n) M K
      unfold w_X2_isAsSeen_4_s
      rw [s2, if_pos (by rw [n_le (by omega) (by omega)]; omega), hL]
      refine c_again hC hst (fun M1 f1 hC1 => ?_)
      have := outer (4095 - (L + 1)) (L + 1) 0 w M1 (by omega) (fun x a b => f1 x b) hC1 (e_okNM hN (by omega)) h
      rw [show 4095 - (L + 1) + 1 + (L + 1) = 4096 by omega] at this
      exact this
    | succ j ih =>
      intro i hi
      obtain ⟨t1, t2, t3, t4⟩ := s3 i (by omega)
      have hm := (e_maxL (ss := ss) (b := 20) i (fun i hi => (s3 i (by omega)).2.2.2)).1
      show w_X2_isAsSeen_4_s (w_X2_isAsSeen_4 76 23 K (m + 1 + j)) 76 23 (nI (e_maxN ss i)) (nI i) M K
      unfold w_X2_isAsSeen_4_s
      have l25 : ap_ln (23 + 2) = 5 := rfl
      rw [s2, if_neg (by rw [n_le (by omega) (by omega)]; omega), l25, n_vp (by omega), n_cl (by omega), show (23 + 2 : Nat) = 25 from rfl, t2, x_max (by omega) (by omega)]
      refine ⟨by omega, ?_⟩
      rintro _ rfl _ rfl
      rw [nI_1]
      exact ih (i + 1) (by omega)
  unfold w_X2_isAsSeen
  have := first (4095 - n) n 0 (by omega)
  rw [show 4095 - n + 1 + n = 4096 by omega] at this
  exact this
def e_SeenM (f : Nat → Int32) (sf ss : Nat → Nat) (n : Nat) : Prop := n ≤ 5 ∧ f 33 = nI n ∧ ∀ i, i < n → f (84 + i) = nI (sf i) ∧ f (89 + i) = nI (ss i) ∧ sf i < 16 ∧ ss i ≤ 20
theorem m_as1 {D : e_D} {sf ss : Nat → Nat} {n k : Nat} {w : e_W} {M : ap_Mem} {K : Int32 → ap_Mem → Prop} (hC : e_MC (M 99) D w) (hW : e_okW w) (hs : e_SeenM (M 99) sf ss n) (hk : k ≤ 20) : K (e_bi (e_sk sf ss w.2.1 k n)) M → w_X9_isAsSeen 98 (nI k) M K := by
  intro h
  obtain ⟨s1, s2, s3⟩ := hs
  have hcur := hW.2.1
  have lp : ∀ (m j i : Nat), i + j = n → w_X9_isAsSeen_4 98 K (m + 1 + j) (nI k) (e_bi (e_sk sf ss w.2.1 k i)) (nI i) M := by
    intro m j
    induction j with
    | zero =>
      intro i hi
      have : i = n := by omega
      subst this
      show w_X9_isAsSeen_4_s (w_X9_isAsSeen_4 98 K m) 98 (nI k) _ (nI i) M K
      unfold w_X9_isAsSeen_4_s
      rw [v_33, k_33, show (98 + 1 : Nat) = 99 from rfl, s2, if_pos (by rw [n_le (by omega) (by omega)]; omega)]
      exact ⟨trivial, by unfold e_bi; split <;> simp [b_1, b_0], h⟩
    | succ j ih =>
      intro i hi
      obtain ⟨t1, t2, t3, t4⟩ := s3 i (by omega)
      have nx := ih (i + 1) (by omega)
      show w_X9_isAsSeen_4_s (w_X9_isAsSeen_4 98 K (m + 1 + j)) 98 (nI k) _ (nI i) M K
      unfold w_X9_isAsSeen_4_s
      rw [v_33, k_33, show (98 + 1 : Nat) = 99 from rfl, s2, if_neg (by rw [n_le (by omega) (by omega)]; omega)]
      refine ⟨trivial, ?_⟩
      have e54 : e_sk sf ss w.2.1 k (i + 1) = false → w_X9_isAsSeen_54 (w_X9_isAsSeen_4 98 K (m + 1 + j)) 98 (nI k) (nI i) M K := by
        intro hb
        unfold w_X9_isAsSeen_54 w_X9_isAsSeen_55
        rintro _ rfl
        rw [nI_1]
        rw [hb] at nx
        exact nx
      have e50 : e_sk sf ss w.2.1 k (i + 1) = true → w_X9_isAsSeen_50 (w_X9_isAsSeen_4 98 K (m + 1 + j)) 98 (nI k) (nI i) M K := by
        intro hb
        unfold w_X9_isAsSeen_50 w_X9_isAsSeen_55
        rintro _ rfl
        rw [nI_1]
        rw [hb] at nx
        exact nx
      cases hb : e_sk sf ss w.2.1 k i with
      | false =>
        rw [if_pos (by decide)]
        exact e54 (by show (e_sk sf ss w.2.1 k i && _) = false; rw [hb, Bool.false_and])
      | true =>
        have e : e_sk sf ss w.2.1 k (i + 1) = decide (ss i = k → sf i = w.2.1) := by show (e_sk sf ss w.2.1 k i && _) = _; rw [hb, Bool.true_and]
        rw [if_neg (by decide), l_89, nI_add, n_vp (by omega), n_cl (by omega), t2]
        refine ⟨by omega, ?_⟩
        by_cases hsi : ss i = k
        · rw [if_pos (by rw [hsi]), v_1, k_1, l_84, nI_add, n_vp (by omega), n_cl (by omega), t1, hC.2.2.1]
          refine ⟨trivial, by omega, ?_⟩
          by_cases hfi : sf i = w.2.1
          · rw [if_pos (by rw [hfi])]
            exact e50 (by rw [e]; exact decide_eq_true (fun _ => hfi))
          · rw [if_neg (by rw [n_eq (by omega) (by omega)]; exact fun z => hfi z.symm)]
            exact e54 (by rw [e]; exact decide_eq_false (fun z => hfi (z hsi)))
        · rw [if_neg (by rw [n_eq (by omega) (by omega)]; exact hsi)]
          exact e50 (by rw [e]; exact decide_eq_true (fun z => absurd z hsi))
  unfold w_X9_isAsSeen
  have := lp (4095 - n) n 0 (by omega)
  rw [show 4095 - n + 1 + n = 4096 by omega] at this
  exact this
theorem m_are {D : e_D} {sf ss : Nat → Nat} {n : Nat} {w : e_W} {M : ap_Mem} {K : Int32 → ap_Mem → Prop} (hC : e_MC (M 99) D w) (hD : e_okD D) (hN : e_okN 100 w) (hs : e_SeenM (M 99) sf ss n) (h : ∀ M', (∀ x, x ≠ 99 → x ≠ 102 → x ≠ 103 → M' x = M x) → (∀ j, M' 99 j = if j < 30 then M 101 j else M 99 j) → K (e_bi (e_asB D sf ss n 21 w 0)) M') : w_X9_areAsSeen 98 M K := by
  have out : ∀ (b : Bool) (M3 : ap_Mem), (∀ x, x ≠ 99 → x ≠ 102 → x ≠ 103 → M3 x = M x) → (∀ j, 18 ≤ j → M3 99 j = M 99 j) → e_asB D sf ss n 21 w 0 = b → w_X9_areAsSeen_30 98 (e_bi b) M3 K := by
    intro b M3 f3 g3 hb
    unfold w_X9_areAsSeen_30
    refine m_back (fun M4 f4 g4 => ⟨by unfold e_bi; split <;> simp [b_1, b_0], ?_⟩)
    rw [← hb]
    refine h M4 (fun x a b c => by rw [f4 x a, f3 x a b c]) (fun j => ?_)
    rw [g4 j, f3 101 (by decide) (by decide) (by decide)]
    split
    · rfl
    · exact g3 j (by omega)
  have lp : ∀ (m r k : Nat) (w1 : e_W) (M1 : ap_Mem), k + r = 21 → (∀ x, x ≠ 99 → x ≠ 102 → x ≠ 103 → M1 x = M x) → (∀ j, 18 ≤ j → M1 99 j = M 99 j) → e_MC (M1 99) D w1 → e_okN r w1 → e_asB D sf ss n 21 w 0 = e_asB D sf ss n r w1 k → w_X9_areAsSeen_4 98 K (m + 1 + 1 + r) 1 (nI k) M1 := by
    intro m r
    induction r with
    | zero =>
      intro k w1 M1 hk f1 g1 hC1 hN1 he
      show w_X9_areAsSeen_4_s (w_X9_areAsSeen_4 98 K (m + 1)) 98 1 (nI k) M1 K
      unfold w_X9_areAsSeen_4_s
      rw [if_pos (by rw [l_20, n_lt (by decide) (by omega)]; omega)]
      exact out true M1 f1 g1 he
    | succ r ih =>
      intro k w1 M1 hk f1 g1 hC1 hN1 he
      show w_X9_areAsSeen_4_s (w_X9_areAsSeen_4 98 K (m + 1 + 1 + r)) 98 1 (nI k) M1 K
      unfold w_X9_areAsSeen_4_s
      rw [if_neg (by rw [l_20, n_lt (by decide) (by omega)]; omega), if_neg (by decide)]
      obtain ⟨s1, s2, s3⟩ := id hs
      refine m_as1 hC1 (e_okNW hN1) ⟨s1, by rw [g1 33 (by omega)]; exact s2, fun i hi => by rw [g1 _ (by omega), g1 _ (by omega)]; exact s3 i hi⟩ (by omega) ?_
      refine m_goes hC1 hD (e_okNW hN1) (fun M2 f2 g2 h2 => ?_)
      rintro _ rfl
      rw [nI_1]
      have f20 : ∀ x, x ≠ 99 → x ≠ 102 → x ≠ 103 → M2 x = M x := fun x a b c => by rw [f2 x a b c, f1 x a b c]
      have g20 : ∀ j, 18 ≤ j → M2 99 j = M 99 j := fun j hj => by rw [g2 j hj, g1 j hj]
      cases hb : e_sk sf ss w1.2.1 k n with
      | true =>
        have e : e_asB D sf ss n (r + 1) w1 k = e_asB D sf ss n r (e_stp D w1) (k + 1) := by show (_ && _) = _; rw [hb, Bool.true_and]
        exact ih (k + 1) _ M2 (by omega) f20 g20 h2 (e_okNS hN1) (by rw [he, e])
      | false =>
        have e : e_asB D sf ss n (r + 1) w1 k = false := by show (_ && _) = false; rw [hb, Bool.false_and]
        rw [show m + 1 + 1 + r = (m + 1 + r) + 1 by omega]
        show w_X9_areAsSeen_4_s (w_X9_areAsSeen_4 98 K (m + 1 + r)) 98 0 (nI (k + 1)) M2 K
        unfold w_X9_areAsSeen_4_s
        have o := out false M2 f20 g20 (by rw [he, e])
        rw [if_pos rfl]
        split
        · exact o
        · exact o
  unfold w_X9_areAsSeen
  exact lp 4073 21 0 w M rfl (fun _ _ _ _ => rfl) (fun _ _ => rfl) hC (e_okNM hN (by decide)) rfl
