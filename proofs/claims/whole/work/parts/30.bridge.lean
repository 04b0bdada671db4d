/-! from the scene to a course, and many steps -/
def e_Sc (M : ap_Mem) (D : e_D) (w : e_W) : Prop := e_Folk M 13 (M 99) (dN D) (dA D) ∧ e_Carp M 18 (M 99) w.2.1 w.1 9999 99 ∧ e_CTown M 5 (dC D) ∧ e_MTown (M 99) (dC D) ∧ dK D = (fun p => (M 99 (38 + p)).toNatClampNeg) ∧ dV D = (fun p => (M 99 (44 + p)).toNatClampNeg) ∧ dP D = (fun p => (M 99 (18 + p)).toNatClampNeg) ∧ dL D = (fun j => M 99 (50 + j)) ∧ w.2.2 = (fun i => (M 99 (2 + i)).toNatClampNeg)
theorem e_open {M : ap_Mem} (h : e_Inv M) : ∃ D w, e_Sc M D w := by
  obtain ⟨h0, ⟨_, cs, h1, h2⟩, ⟨n, A, h3⟩, ⟨c, t, h4⟩, -⟩ := h.1
  exact ⟨(cs, n, A, fun p => (M 99 (38 + p)).toNatClampNeg, fun p => (M 99 (44 + p)).toNatClampNeg, fun p => (M 99 (18 + p)).toNatClampNeg, fun j => M 99 (50 + j)), (t, c, fun i => (M 99 (2 + i)).toNatClampNeg), h3, h4, h1, h2, rfl, rfl, rfl, rfl, rfl⟩
def e_okN (n : Nat) (w : e_W) : Prop := w.1 + n < 100000 ∧ w.2.1 < 16 ∧ ∀ i, i < 16 → w.2.2 i + n < 100000
theorem e_okNW {n : Nat} {w : e_W} (h : e_okN n w) : e_okW w := ⟨by have := h.1; omega, h.2.1, fun i hi => by have := h.2.2 i hi; omega⟩
theorem e_okNS {n : Nat} {w : e_W} {D : e_D} (h : e_okN (n + 1) w) : e_okN n (e_stp D w) := by
  refine ⟨by have := h.1; show w.1 + 1 + n < 100000; omega, (e_nxB (e_okNW h)).1, fun i hi => ?_⟩
  have := h.2.2 i hi
  show (if i = e_nx D w then w.2.2 i + 1 else w.2.2 i) + n < 100000
  split <;> omega
theorem e_okNM {n m : Nat} {w : e_W} (h : e_okN n w) (hm : m ≤ n) : e_okN m w := ⟨by have := h.1; omega, h.2.1, fun i hi => by have := h.2.2 i hi; omega⟩
theorem e_scD {M : ap_Mem} {D : e_D} {w : e_W} (h : e_Sc M D w) : e_okD D := by
  obtain ⟨⟨h1, h2, h3, h4, h5, h6, h7⟩, hc, ht, hm, k1, k2, k3, k4, k5⟩ := h
  refine ⟨h1, h2, fun p hp => ?_, ht.2.2.1⟩
  obtain ⟨⟨k, a1, a2, a3⟩, ⟨v, b1, b2, b3⟩, ⟨c, c1, c2, c3⟩, -⟩ := h6 p hp
  rw [k1, k2, k3]
  show (M 99 (38 + p)).toNatClampNeg ≤ 6 ∧ (M 99 (44 + p)).toNatClampNeg ≤ 9 ∧ (M 99 (18 + p)).toNatClampNeg < 16
  rw [a2, b2, c2, n_cl (by omega), n_cl (by omega), n_cl (by omega)]
  exact ⟨a1, b1, c1⟩
theorem e_scN {M : ap_Mem} {D : e_D} {w : e_W} (h : e_Sc M D w) : w.1 ≤ 9999 ∧ w.2.1 < 16 ∧ ∀ i, i < 16 → w.2.2 i ≤ 99 := by
  obtain ⟨hf, ⟨c1, c2, c3, c4, c5, c6, c7⟩, ht, hm, k1, k2, k3, k4, k5⟩ := h
  refine ⟨c2, c1, fun i hi => ?_⟩
  obtain ⟨k, a1, a2, a3⟩ := c7 i hi
  rw [k5]
  show (M 99 (2 + i)).toNatClampNeg ≤ 99
  rw [a2, n_cl (by omega)]
  exact a1
theorem e_scOk {M : ap_Mem} {D : e_D} {w : e_W} (h : e_Sc M D w) (n : Nat) (hn : n ≤ 1000) : e_okN n w := by
  obtain ⟨h1, h2, h3⟩ := e_scN h
  exact ⟨by omega, h2, fun i hi => by have := h3 i hi; omega⟩
theorem e_scM {M : ap_Mem} {D : e_D} {w : e_W} (h : e_Sc M D w) : e_MC (M 99) D w := by
  obtain ⟨⟨h1, h2, h3, h4, h5, h6, h7⟩, ⟨c1, c2, c3, c4, c5, c6, c7⟩, ht, hm, k1, k2, k3, k4, k5⟩ := h
  refine ⟨hm, h3, c3, c5, fun p hp => ?_, fun j hj => by rw [k4], fun i hi => ?_⟩
  · obtain ⟨⟨k, a1, a2, a3⟩, ⟨v, b1, b2, b3⟩, ⟨c, c1, c2, c3⟩, d⟩ := h6 p hp
    rw [k1, k2, k3]
    show M 99 (38 + p) = nI (M 99 (38 + p)).toNatClampNeg ∧ M 99 (44 + p) = nI (M 99 (44 + p)).toNatClampNeg ∧ M 99 (18 + p) = nI (M 99 (18 + p)).toNatClampNeg ∧ _
    rw [a2, b2, c2, n_cl (by omega), n_cl (by omega), n_cl (by omega)]
    exact ⟨rfl, rfl, rfl, d⟩
  · obtain ⟨k, a1, a2, a3⟩ := c7 i hi
    rw [k5]
    show M 99 (2 + i) = nI (M 99 (2 + i)).toNatClampNeg
    rw [a2, n_cl (by omega)]
theorem e_scF {M M' : ap_Mem} {D : e_D} {w : e_W} (h : e_Sc M D w) (hM : ∀ a, ((5 ≤ a ∧ a ≤ 19) ∨ a = 99) → M' a = M a) : e_Sc M' D w := by
  obtain ⟨hf, hc, ht, hm, k1, k2, k3, k4, k5⟩ := h
  unfold e_Sc
  rw [hM 99 (by omega)]
  exact ⟨e_fFolk1 hf (fun a ha => hM a (by omega)) (fun _ _ => rfl), e_fCarp1 hc (fun a ha => hM a (by omega)) (fun _ _ => rfl), e_fCTown ht (fun a ha => hM a (by omega)), hm, k1, k2, k3, k4, k5⟩
theorem c_begin {M : ap_Mem} {D : e_D} {w : e_W} {K : ap_Mem → Prop} (h : e_Sc M D w) (hK : ∀ M', (∀ x, ¬ (76 ≤ x ∧ x ≤ 95) → M' x = M x) → e_CC M' D w → e_CStart M' w → K M') : w_X2_begin 76 1 M K := by
  obtain ⟨hf, hc, ht, hm, k1, k2, k3, k4, k5⟩ := h
  unfold w_X2_begin
  refine c_folkCopy (q := 77) (o := 13) hf (by omega) (fun M1 f1 hf1 => ?_)
  refine c_townCopy (q := 86) (o := 5) (e_fCTown ht (fun a ha => f1 a (by omega))) (by omega) (fun M2 f2 ht2 => ?_)
  refine c_carpCopy (q := 84) (o := 18) (e_fCarp1 hc (fun a ha => by rw [f2 a (by omega), f1 a (by omega)]) (fun _ _ => rfl)) (by omega) (fun M3 f3 hc3 => ?_)
  have lp : ∀ (n j p : Nat) (M4 : ap_Mem), p + j = 6 → (∀ x, x ≠ 95 → M4 x = M3 x) → (∀ b, b < p → M4 95 b = nI 0) → w_X2_begin_35 76 1 K (n + 1 + j) (nI p) M4 := by
    intro n j
    induction j with
    | zero =>
      intro p M4 hp hf4 h0
      have : p = 6 := by omega
      subst this
      show w_X2_begin_35_s (w_X2_begin_35 76 1 K n) 76 1 (nI 6) M4 K
      unfold w_X2_begin_35_s
      rw [if_pos (by decide)]
      unfold w_X2_again
      refine c_carpCopy (q := 82) (o := 84) (e_fCarp1 hc3 (fun a ha => hf4 a (by omega)) (fun _ _ => rfl)) (by omega) (fun M5 f5 hc5 => ?_)
      have g : ∀ x, ¬ (82 ≤ x ∧ x ≤ 83) → x ≠ 95 → M5 x = M3 x := fun x h1 h2 => by rw [f5 x h1, hf4 x h2]
      refine hK M5 (fun x hx => by rw [g x (by omega) (by omega), f3 x (by omega), f2 x (by omega), f1 x (by omega)]) ⟨?_, ?_, ?_, ?_⟩ ?_
      · obtain ⟨h1, h2, h3, h4, h5, h6, h7⟩ := hf1
        have e : ∀ x, (77 ≤ x ∧ x ≤ 81) → M5 x = M1 x := fun x hx => by rw [g x (by omega) (by omega), f3 x (by omega), f2 x (by omega)]
        refine ⟨by rw [e 77 (by omega)]; exact h4, by rw [e 77 (by omega)]; exact h5, fun p hp => ?_, fun j hj => by rw [e 81 (by omega), k4]; exact h7 j hj⟩
        obtain ⟨⟨k, a1, a2, a3⟩, ⟨v, b1, b2, b3⟩, ⟨c, c1, c2, c3⟩, -⟩ := h6 p hp
        rw [e 78 (by omega), e 79 (by omega), e 80 (by omega), k1, k2, k3]
        show _ = nI (M 99 (38 + p)).toNatClampNeg ∧ _ = nI (M 99 (44 + p)).toNatClampNeg ∧ _ = nI (M 99 (18 + p)).toNatClampNeg
        rw [a2, b2, c2, n_cl (by omega), n_cl (by omega), n_cl (by omega)]
        exact ⟨a3, b3, c3⟩
      · obtain ⟨c1, c2, c3, c4, c5, c6, c7⟩ := hc5
        refine ⟨c4, c6, fun i hi => ?_⟩
        obtain ⟨k, a1, a2, a3⟩ := c7 i hi
        rw [k5]
        show _ = nI (M 99 (2 + i)).toNatClampNeg
        rw [a2, n_cl (by omega)]
        exact a3
      · exact e_fCTown ht2 (fun a ha => by rw [g a (by omega) (by omega), f3 a (by omega)])
      · intro b hb
        refine ⟨0, by decide, by rw [f5 95 (by omega)]; exact h0 b hb, fun _ ph _ hbit => ?_⟩
        rw [Nat.zero_testBit] at hbit
        exact absurd hbit (by decide)
      · obtain ⟨c1, c2, c3, c4, c5, c6, c7⟩ := hc3
        refine ⟨by rw [g 84 (by omega) (by omega)]; exact c4, by rw [g 84 (by omega) (by omega)]; exact c6, fun i hi => ?_⟩
        obtain ⟨k, a1, a2, a3⟩ := c7 i hi
        rw [g 85 (by omega) (by omega), k5]
        show _ = nI (M 99 (2 + i)).toNatClampNeg
        rw [a2, n_cl (by omega)]
        exact a3
    | succ j ih =>
      intro p M4 hp hf4 h0
      show w_X2_begin_35_s (w_X2_begin_35 76 1 K (n + 1 + j)) 76 1 (nI p) M4 K
      unfold w_X2_begin_35_s
      rw [if_neg (by rw [l_6, n_le (by decide) (by omega)]; omega)]
      refine ⟨by rw [n_vp (by omega)]; omega, ?_⟩
      rintro _ rfl _ rfl
      rw [nI_1, n_cl (by omega)]
      refine ih (p + 1) _ (by omega) (fun x hx => by simp (disch := omega) only [ap_mu_n]; exact hf4 x hx) (fun b hb => ?_)
      by_cases hbp : b = p
      · subst hbp
        simp (disch := omega) only [mu_s]
        rfl
      · simp (disch := omega) only [mu_o]
        exact h0 b (by omega)
  exact lp 4089 6 0 M3 rfl (fun _ _ => rfl) (fun b hb => absurd hb (by omega))
theorem c_again {M : ap_Mem} {D : e_D} {w w0 : e_W} {K : ap_Mem → Prop} (h : e_CC M D w) (hs : e_CStart M w0) (hK : ∀ M', (∀ x, ¬ (82 ≤ x ∧ x ≤ 83) → M' x = M x) → e_CC M' D w0 → K M') : w_X2_again 76 M K := by
  obtain ⟨s1, s2, s3⟩ := hs
  unfold w_X2_again w_X1_copyFrom
  rintro _ rfl _ rfl _ rfl
  have f : ∀ x, ¬ (82 ≤ x ∧ x ≤ 83) → (ap_mu (ap_mu (ap_mc M (76 + 8 + 1) (76 + 6 + 1) 0 0 16) (76 + 6) 1 ((ap_mc M (76 + 8 + 1) (76 + 6 + 1) 0 0 16) (76 + 8) 1)) (76 + 6) 2 ((ap_mu (ap_mc M (76 + 8 + 1) (76 + 6 + 1) 0 0 16) (76 + 6) 1 ((ap_mc M (76 + 8 + 1) (76 + 6 + 1) 0 0 16) (76 + 8) 1)) (76 + 8) 2)) x = M x := by
    intro x hx
    simp (disch := omega) only [ap_mu_n]
    funext j
    rw [mc_at, if_neg (by omega)]
  refine hK _ f ⟨e_fCF h.1 (fun a ha => f a (by omega)), ⟨?_, ?_, fun i hi => ?_⟩, e_fCTown h.2.2.1 (fun a ha => f a (by omega)), e_fCach h.2.2.2 (fun a ha => f a (by omega))⟩
  · simp (disch := omega) only [mu_s, mu_o]
    rw [mc_at, if_neg (by omega)]
    exact s1
  · simp (disch := omega) only [mu_s, mu_o]
    rw [mc_at, if_neg (by omega)]
    exact s2
  · simp (disch := omega) only [mu_o]
    rw [mc_at, if_pos ⟨by omega, hi⟩]
    exact s3 i hi
def e_it (D : e_D) : Nat → e_W → e_W
  | 0, w => w
  | n + 1, w => e_it D n (e_stp D w)
theorem e_stpU {D : e_D} {w : e_W} (h : e_okW w) : e_stpC 1000000 D w = e_stp D w := by
  unfold e_stpC e_stp
  have hb := (e_nxB (D := D) h).1
  congr 2
  funext i
  by_cases hi : i = e_nx D w
  · subst hi
    have := h.2.2 _ hb
    rw [if_pos rfl, if_pos rfl, if_pos (by omega)]
  · rw [if_neg hi, if_neg hi]
theorem c_goU {D : e_D} {w : e_W} {M : ap_Mem} {K : ap_Mem → Prop} (hC : e_CC M D w) (hD : e_okD D) (hw : e_okW w) (h : ∀ M', (∀ x, ¬ (91 ≤ x ∧ x ≤ 95) → ¬ (82 ≤ x ∧ x ≤ 83) → M' x = M x) → e_CC M' D (e_stp D w) → K M') : w_X2_go 76 1000000 M K := by
  rw [l_1000000]
  refine c_go (by decide) hC hD hw (fun M1 f1 h1 => h M1 f1 ?_)
  rw [e_stpU hw] at h1
  exact h1
theorem c_goSteps {D : e_D} {K : ap_Mem → Prop} (hD : e_okD D) {n : Nat} (hn : n ≤ 100) {w : e_W} {M : ap_Mem} (hC : e_CC M D w) (hw : e_okN n w) (h : ∀ M', (∀ x, ¬ (91 ≤ x ∧ x ≤ 95) → ¬ (82 ≤ x ∧ x ≤ 83) → M' x = M x) → e_CC M' D (e_it D n w) → K M') : w_X2_goSteps 76 (nI n) M K := by
  have lp : ∀ (m j i : Nat) (w : e_W) (M1 : ap_Mem), i + j = n → e_CC M1 D w → e_okN j w → (∀ M', (∀ x, ¬ (91 ≤ x ∧ x ≤ 95) → ¬ (82 ≤ x ∧ x ≤ 83) → M' x = M1 x) → e_CC M' D (e_it D j w) → K M') → w_X2_goSteps_2 76 K (m + 1 + j) (nI n) (nI i) M1 := by
    intro m j
    induction j with
    | zero =>
      intro i w M1 hi hC hw h
      show w_X2_goSteps_2_s (w_X2_goSteps_2 76 K m) 76 (nI n) (nI i) M1 K
      unfold w_X2_goSteps_2_s
      rw [if_pos (by rw [n_le (by omega) (by omega)]; omega)]
      exact h M1 (fun _ _ _ => rfl) hC
    | succ j ih =>
      intro i w M1 hi hC hw h
      show w_X2_goSteps_2_s (w_X2_goSteps_2 76 K (m + 1 + j)) 76 (nI n) (nI i) M1 K
      unfold w_X2_goSteps_2_s
      rw [if_neg (by rw [n_le (by omega) (by omega)]; omega)]
      refine c_goU hC hD (e_okNW hw) (fun M2 f2 h2 => ?_)
      rintro _ rfl
      rw [nI_1]
      exact ih (i + 1) _ M2 (by omega) h2 (e_okNS hw) (fun M3 f3 h3 => h M3 (fun x g1 g2 => by rw [f3 x g1 g2, f2 x g1 g2]) h3)
  unfold w_X2_goSteps
  have := lp (4095 - n) n 0 w M (by omega) hC hw h
  rw [show 4095 - n + 1 + n = 4096 by omega] at this
  exact this
def e_ct (D : e_D) (cell : Nat) : Nat → e_W → Nat → Option Nat
  | 0, _, _ => none
  | n + 1, w, k => if w.2.1 = cell then some k else e_ct D cell n (e_stp D w) (k + 1)
theorem c_comesTo {D : e_D} {K : Int32 → ap_Mem → Prop} (hD : e_okD D) {n : Nat} (hn : n ≤ 100) {cell : Nat} (hc : cell < 16) {w : e_W} {M : ap_Mem} (hC : e_CC M D w) (hw : e_okN n w) (h : ∀ M' w', (∀ x, ¬ (91 ≤ x ∧ x ≤ 95) → ¬ (82 ≤ x ∧ x ≤ 83) → M' x = M x) → e_CC M' D w' → K (match e_ct D cell n w 0 with | some k => nI k | none => -5) M') : w_X2_comesTo 76 (nI cell) (nI n - 1) M K := by
  have lp : ∀ (m j i : Nat) (w : e_W) (M1 : ap_Mem), i + j = n → e_CC M1 D w → e_okN j w → (∀ M' w', (∀ x, ¬ (91 ≤ x ∧ x ≤ 95) → ¬ (82 ≤ x ∧ x ≤ 83) → M' x = M1 x) → e_CC M' D w' → K (match e_ct D cell j w i with | some k => nI k | none => -5) M') → w_X2_comesTo_2 76 K (m + 1 + j) (nI cell) (nI n - 1) (nI i) M1 := by
    intro m j
    induction j with
    | zero =>
      intro i w M1 hi hC hw h
      show w_X2_comesTo_2_s (w_X2_comesTo_2 76 K m) 76 (nI cell) (nI n - 1) (nI i) M1 K
      unfold w_X2_comesTo_2_s
      have : ∀ n, n ≤ 100 → nI n - 1 < nI n := by decide +kernel
      have hin : i = n := by omega
      rw [if_pos (by rw [hin]; exact this n hn)]
      exact h M1 w (fun _ _ _ => rfl) hC
    | succ j ih =>
      intro i w M1 hi hC hw h
      show w_X2_comesTo_2_s (w_X2_comesTo_2 76 K (m + 1 + j)) 76 (nI cell) (nI n - 1) (nI i) M1 K
      unfold w_X2_comesTo_2_s
      have e1 : nI n - 1 = nI (n - 1) := by rw [l_1, n_sub (by omega)]
      have hk := hC.2.1.1
      have hcur := hw.2.1
      rw [if_neg (by rw [e1, n_lt (by omega) (by omega)]; omega), show (76 + 6 : Nat) = 82 from rfl, hk]
      by_cases hcc : w.2.1 = cell
      · rw [if_pos (by rw [hcc])]
        have := h M1 w (fun _ _ _ => rfl) hC
        simp only [e_ct, if_pos hcc] at this
        exact this
      · rw [if_neg (by rw [n_eq (by omega) (by omega)]; exact hcc)]
        refine c_goU hC hD (e_okNW hw) (fun M2 f2 h2 => ?_)
        rintro _ rfl
        rw [nI_1]
        refine ih (i + 1) _ M2 (by omega) h2 (e_okNS hw) (fun M3 w3 f3 h3 => ?_)
        have := h M3 w3 (fun x g1 g2 => by rw [f3 x g1 g2, f2 x g1 g2]) h3
        simp only [e_ct, if_neg hcc] at this
        exact this
  unfold w_X2_comesTo
  have := lp (4095 - n) n 0 w M (by omega) hC hw h
  rw [show 4095 - n + 1 + n = 4096 by omega] at this
  exact this
/-! the reference keeps, goes and goes back -/
theorem m_keeps {M : ap_Mem} {K : ap_Mem → Prop} (hK : ∀ M', (∀ x, x ≠ 101 → M' x = M x) → (∀ j, j < 30 → M' 101 j = M 99 j) → K M') : w_X9_keeps 98 M K := by
  have lp : ∀ (n j i : Nat) (M1 : ap_Mem), i + j = 30 → (∀ x, x ≠ 101 → M1 x = M x) → (∀ b, b < i → M1 101 b = M 99 b) → w_X9_keeps_2 98 K (n + 1 + j) (nI i) M1 := by
    intro n j
    induction j with
    | zero =>
      intro i M1 hi hf hb
      have : i = 30 := by omega
      subst this
      show w_X9_keeps_2_s (w_X9_keeps_2 98 K n) 98 (nI 30) M1 K
      unfold w_X9_keeps_2_s
      rw [if_pos (by decide)]
      exact hK M1 hf hb
    | succ j ih =>
      intro i M1 hi hf hb
      show w_X9_keeps_2_s (w_X9_keeps_2 98 K (n + 1 + j)) 98 (nI i) M1 K
      unfold w_X9_keeps_2_s
      rw [if_neg (by rw [l_30, n_le (by decide) (by omega)]; omega)]
      refine ⟨by rw [n_vp (by omega)]; omega, by rw [n_vp (by omega)]; omega, ?_⟩
      rintro _ rfl _ rfl
      rw [nI_1, n_cl (by omega)]
      refine ih (i + 1) _ (by omega) (fun x hx => by simp (disch := omega) only [ap_mu_n]; exact hf x hx) (fun b hb2 => ?_)
      by_cases hbi : b = i
      · subst hbi
        simp (disch := omega) only [mu_s]
        rw [hf 99 (by decide)]
      · simp (disch := omega) only [mu_o]
        exact hb b (by omega)
  unfold w_X9_keeps
  exact lp 4065 30 0 M rfl (fun _ _ => rfl) (fun b hb => absurd hb (by omega))
theorem m_back {M : ap_Mem} {K : ap_Mem → Prop} (hK : ∀ M', (∀ x, x ≠ 99 → M' x = M x) → (∀ j, M' 99 j = if j < 30 then M 101 j else M 99 j) → K M') : w_X9_goesBack 98 M K := by
  have lp : ∀ (n j i : Nat) (M1 : ap_Mem), i + j = 30 → (∀ x, x ≠ 99 → M1 x = M x) → (∀ b, M1 99 b = if b < i then M 101 b else M 99 b) → w_X9_goesBack_2 98 K (n + 1 + j) (nI i) M1 := by
    intro n j
    induction j with
    | zero =>
      intro i M1 hi hf hb
      have : i = 30 := by omega
      subst this
      show w_X9_goesBack_2_s (w_X9_goesBack_2 98 K n) 98 (nI 30) M1 K
      unfold w_X9_goesBack_2_s
      rw [if_pos (by decide)]
      exact hK M1 hf hb
    | succ j ih =>
      intro i M1 hi hf hb
      show w_X9_goesBack_2_s (w_X9_goesBack_2 98 K (n + 1 + j)) 98 (nI i) M1 K
      unfold w_X9_goesBack_2_s
      rw [if_neg (by rw [l_30, n_le (by decide) (by omega)]; omega)]
      refine ⟨by rw [n_vp (by omega)]; omega, by rw [n_vp (by omega)]; omega, ?_⟩
      rintro _ rfl _ rfl
      rw [nI_1, n_cl (by omega)]
      refine ih (i + 1) _ (by omega) (fun x hx => by simp (disch := omega) only [ap_mu_n]; exact hf x hx) (fun b => ?_)
      by_cases hbi : b = i
      · subst hbi
        simp (disch := omega) only [mu_s]
        rw [hf 101 (by decide), if_pos (by omega)]
      · simp (disch := omega) only [mu_o]
        rw [hb b]
        by_cases hbi2 : b < i
        · rw [if_pos hbi2, if_pos (by omega)]
        · rw [if_neg hbi2, if_neg (by omega)]
  unfold w_X9_goesBack
  exact lp 4065 30 0 M rfl (fun _ _ => rfl) (fun b => by rw [if_neg (by omega)])
theorem m_goesOn {D : e_D} {K : ap_Mem → Prop} (hD : e_okD D) {n : Nat} (hn : n ≤ 100) {w : e_W} {M : ap_Mem} (hC : e_MC (M 99) D w) (hw : e_okN n w) (h : ∀ M', (∀ x, x ≠ 99 → x ≠ 102 → x ≠ 103 → M' x = M x) → (∀ j, 18 ≤ j → M' 99 j = M 99 j) → e_MC (M' 99) D (e_it D n w) → K M') : w_X9_goesOn 98 (nI n) M K := by
  have lp : ∀ (m j i : Nat) (w : e_W) (M1 : ap_Mem), i + j = n → e_MC (M1 99) D w → e_okN j w → (∀ M', (∀ x, x ≠ 99 → x ≠ 102 → x ≠ 103 → M' x = M1 x) → (∀ j, 18 ≤ j → M' 99 j = M1 99 j) → e_MC (M' 99) D (e_it D j w) → K M') → w_X9_goesOn_2 98 K (m + 1 + j) (nI n) (nI i) M1 := by
    intro m j
    induction j with
    | zero =>
      intro i w M1 hi hC hw h
      show w_X9_goesOn_2_s (w_X9_goesOn_2 98 K m) 98 (nI n) (nI i) M1 K
      unfold w_X9_goesOn_2_s
      rw [if_pos (by rw [n_le (by omega) (by omega)]; omega)]
      exact h M1 (fun _ _ _ _ => rfl) (fun _ _ => rfl) hC
    | succ j ih =>
      intro i w M1 hi hC hw h
      show w_X9_goesOn_2_s (w_X9_goesOn_2 98 K (m + 1 + j)) 98 (nI n) (nI i) M1 K
      unfold w_X9_goesOn_2_s
      rw [if_neg (by rw [n_le (by omega) (by omega)]; omega)]
      refine m_goes hC hD (e_okNW hw) (fun M2 f2 g2 h2 => ?_)
      rintro _ rfl
      rw [nI_1]
      exact ih (i + 1) _ M2 (by omega) h2 (e_okNS hw) (fun M3 f3 g3 h3 => h M3 (fun x a b c => by rw [f3 x a b c, f2 x a b c]) (fun j hj => by rw [g3 j hj, g2 j hj]) h3)
  unfold w_X9_goesOn
  have := lp (4095 - n) n 0 w M (by omega) hC hw h
  rw [show 4095 - n + 1 + n = 4096 by omega] at this
  exact this
theorem m_stepsTo {D : e_D} {K : Int32 → ap_Mem → Prop} (hD : e_okD D) {n : Nat} (hn : n ≤ 100) {cell : Nat} (hc : cell < 16) {w : e_W} {M : ap_Mem} (hC : e_MC (M 99) D w) (hw : e_okN n w) (h : ∀ M', (∀ x, x ≠ 99 → x ≠ 102 → x ≠ 103 → M' x = M x) → (∀ j, M' 99 j = if j < 30 then M 101 j else M 99 j) → K (match e_ct D cell n w 0 with | some k => nI k | none => 1000000000) M') (most : Int32) (hm : most = nI n - 1) : w_X9_stepsTo 98 (nI cell) most M K := by
  subst hm
  have big : ∀ k, k < 1000 → ¬ nI k = 1000000000 := by decide +kernel
  have fin : ∀ (x3 : Int32) (M1 : ap_Mem), (∀ x, x ≠ 99 → x ≠ 102 → x ≠ 103 → M1 x = M x) → (∀ j, 18 ≤ j → M1 99 j = M 99 j) → (∀ M', (∀ x, x ≠ 99 → x ≠ 102 → x ≠ 103 → M' x = M x) → (∀ j, M' 99 j = if j < 30 then M 101 j else M 99 j) → K x3 M') → w_X9_stepsTo_46 98 x3 M1 K := by
    intro x3 M1 f g hk
    unfold w_X9_stepsTo_46
    refine m_back (fun M2 f2 g2 => hk M2 (fun x a b c => by rw [f2 x a, f x a b c]) (fun j => ?_))
    rw [g2 j, f 101 (by decide) (by decide) (by decide)]
    split
    · rfl
    · exact g j (by omega)
  have lp : ∀ (m j i : Nat) (w : e_W) (M1 : ap_Mem), i + j = n → e_MC (M1 99) D w → e_okN j w → (∀ x, x ≠ 99 → x ≠ 102 → x ≠ 103 → M1 x = M x) → (∀ j, 18 ≤ j → M1 99 j = M 99 j) → (∀ M', (∀ x, x ≠ 99 → x ≠ 102 → x ≠ 103 → M' x = M x) → (∀ j, M' 99 j = if j < 30 then M 101 j else M 99 j) → K (match e_ct D cell j w i with | some k => nI k | none => 1000000000) M') → w_X9_stepsTo_6 98 K (m + 1 + 1 + j) (nI cell) (nI n - 1) 1000000000 (nI i) M1 := by
    intro m j
    induction j with
    | zero =>
      intro i w M1 hi hC hw f g h
      show w_X9_stepsTo_6_s (w_X9_stepsTo_6 98 K (m + 1)) 98 (nI cell) (nI n - 1) 1000000000 (nI i) M1 K
      unfold w_X9_stepsTo_6_s
      have : ∀ n, n ≤ 100 → nI n - 1 < nI n := by decide +kernel
      have hin : i = n := by omega
      rw [if_pos (by rw [hin]; exact this n hn)]
      exact fin _ M1 f g h
    | succ j ih =>
      intro i w M1 hi hC hw f g h
      show w_X9_stepsTo_6_s (w_X9_stepsTo_6 98 K (m + 1 + 1 + j)) 98 (nI cell) (nI n - 1) 1000000000 (nI i) M1 K
      unfold w_X9_stepsTo_6_s
      have e1 : nI n - 1 = nI (n - 1) := by rw [l_1, n_sub (by omega)]
      have hcur := hw.2.1
      rw [if_neg (by rw [e1, n_lt (by omega) (by omega)]; omega), if_pos rfl, v_1, k_1, show (98 + 1 : Nat) = 99 from rfl, hC.2.2.1]
      refine ⟨trivial, ?_⟩
      by_cases hcc : w.2.1 = cell
      · rw [if_pos (by rw [hcc])]
        unfold w_X9_stepsTo_35
        refine m_goes hC hD (e_okNW hw) (fun M2 f2 g2 h2 => ?_)
        rintro _ rfl
        rw [nI_1]
        simp only [e_ct, if_pos hcc] at h
        rw [show m + 1 + 1 + j = (m + j + 1) + 1 by omega]
        show w_X9_stepsTo_6_s (w_X9_stepsTo_6 98 K (m + j + 1)) 98 (nI cell) (nI n - 1) (nI i) (nI (i + 1)) M2 K
        unfold w_X9_stepsTo_6_s
        have fn := fin (nI i) M2 (fun x a b c => by rw [f2 x a b c, f x a b c]) (fun j hj => by rw [g2 j hj, g j hj]) h
        rw [if_neg (big i (by omega))]
        split
        · exact fn
        · exact fn
      · rw [if_neg (by rw [n_eq (by omega) (by omega)]; exact hcc)]
        unfold w_X9_stepsTo_35
        refine m_goes hC hD (e_okNW hw) (fun M2 f2 g2 h2 => ?_)
        rintro _ rfl
        rw [nI_1]
        simp only [e_ct, if_neg hcc] at h
        exact ih (i + 1) _ M2 (by omega) h2 (e_okNS hw) (fun x a b c => by rw [f2 x a b c, f x a b c]) (fun j hj => by rw [g2 j hj, g j hj]) h
  unfold w_X9_stepsTo
  have := lp (4094 - n) n 0 w M (by omega) hC hw (fun _ _ _ _ => rfl) (fun _ _ => rfl) h
  rw [show 4094 - n + 1 + 1 + n = 4096 by omega] at this
  exact this
/-- at the end of a call: only the course, the frame and the reference's small rows are new -/
theorem e_keep {M M' : ap_Mem} (h : e_Inv M) (hM : ∀ a, (a < 63 ∨ (96 ≤ a ∧ a ≤ 98) ∨ a = 100 ∨ a = 104) → M' a = M a) (h9 : ∀ j, M' 99 j = M 99 j) : e_Inv M' :=
  e_same h (fun a ha => by
    by_cases h99 : a = 99
    · subst h99
      exact funext h9
    · exact hM a (by omega))
theorem e_ctB {D : e_D} {cell : Nat} : ∀ (n : Nat) (w : e_W) (i k : Nat), e_ct D cell n w i = some k → i ≤ k ∧ k < i + n := by
  intro n
  induction n with
  | zero => intro w i k h; simp [e_ct] at h
  | succ n ih =>
    intro w i k h
    simp only [e_ct] at h
    split at h
    · cases h
      omega
    · have := ih _ _ _ h
      omega
theorem p_finds (x : Int32) : e_Pair (fun M K => w_X8_finds 0 x M K) (fun M K => w_X9_finds 98 x M K) := by
  intro M hI
  obtain ⟨D, w, hS⟩ := e_open hI
  have hD := e_scD hS
  have hN := e_scOk hS 100 (by decide)
  have hMC := e_scM hS
  obtain ⟨hf, hc, -⟩ := id hS
  obtain ⟨h1, h2, h3, h4, h5, h6, h7⟩ := hf
  show w_X8_finds 0 x M _
  unfold w_X8_finds
  rcases e_ix x (n := dN D) (by omega) with h | ⟨p, hp, rfl⟩
  · rw [c_has0 (q := 0 + 13) h4 h, if_pos rfl]
    show w_X9_finds 98 x M _
    unfold w_X9_finds
    rw [m_isPerson0 (q := 98) h3 (by omega) h, if_pos rfl]
    exact ⟨rfl, hI⟩
  · rw [c_has1 (q := 0 + 13) h4 (by omega) hp, if_neg (by decide)]
    obtain ⟨-, -, ⟨a, a1, a2, a3⟩, -⟩ := h6 p hp
    refine c_begin hS (fun M1 f1 hC1 hs1 => ?_)
    rw [n_vp (by omega), n_cl (by omega), show (0 + 16 : Nat) = 13 + 3 from rfl, f1 _ (by omega), a3]
    refine ⟨by omega, ?_⟩
    refine c_comesTo (n := 61) hD (by decide) a1 hC1 (e_okNM hN (by decide)) (fun M2 w2 f2 hC2 => ?_)
    have f12 : ∀ x, ¬ (76 ≤ x ∧ x ≤ 95) → M2 x = M x := fun x hx => by rw [f2 x (by omega) (by omega), f1 x hx]
    show w_X9_finds 98 (nI p) M2 _
    unfold w_X9_finds
    have e99 := f12 99 (by omega)
    rw [m_isPerson1 (q := 98) (by show M2 99 30 = _; rw [e99]; exact h3) (by omega) hp, if_neg (by decide)]
    refine m_keeps (fun M3 f3 g3 => ?_)
    rw [l_18, nI_add, n_vp (by omega), n_cl (by omega), show (98 + 1 : Nat) = 99 from rfl, f3 99 (by decide), e99, a2]
    refine ⟨by omega, ?_⟩
    refine m_stepsTo (n := 61) hD (by decide) a1 (by rw [f3 99 (by decide), e99]; exact hMC) (e_okNM hN (by decide)) (fun M4 f4 g4 => ?_) 60 (by decide)
    have hInv : e_Inv M4 := e_keep hI (fun a ha => by rw [f4 a (by omega) (by omega) (by omega), f3 a (by omega), f12 a (by omega)]) (fun j => by
      rw [g4 j, f3 99 (by decide), e99]
      split
      · rw [g3 j (by omega), e99]
      · rfl)
    have big : ∀ k, k < 1000 → ¬ nI k = 1000000000 := by decide +kernel
    cases hct : e_ct D a 61 w 0 with
    | none =>
      show if (1000000000 : Int32) = 1000000000 then _ else _
      rw [if_pos rfl]
      exact ⟨rfl, hInv⟩
    | some k =>
      have := e_ctB _ _ _ _ hct
      show if nI k = 1000000000 then _ else _
      rw [if_neg (big k (by omega))]
      exact ⟨rfl, hInv⟩
