/-! mean -/
def e_mn (D : e_D) : Nat → Nat
  | 0 => 0
  | p + 1 => e_mn D p + (if dA D / 2 ^ p % 2 = 1 then 0 else 1)
def e_ms (D : e_D) (c : Nat) : Nat → Nat
  | 0 => 0
  | p + 1 => e_ms D c p + (if dA D / 2 ^ p % 2 = 1 then 0 else e_far (dP D p) c)
theorem e_mnL (D : e_D) : ∀ p, e_mn D p ≤ p := by
  intro p
  induction p with
  | zero => exact Nat.le_refl _
  | succ p ih =>
    show e_mn D p + _ ≤ p + 1
    split <;> omega
theorem e_msL {D : e_D} (hD : e_okD D) {c : Nat} (hc : c < 16) : ∀ p, p ≤ dN D → e_ms D c p ≤ 6 * p := by
  intro p
  induction p with
  | zero => exact fun _ => Nat.le_refl _
  | succ p ih =>
    intro hp
    have := ih (by omega)
    have h2 := e_far_le (hD.2.2.1 p (by omega)).2.2 hc
    show e_ms D c p + _ ≤ 6 * (p + 1)
    split <;> omega
theorem p_mean (x y : Int32) : e_PairL (fun M K => w_X8_mean 0 x y M K) (fun M K => w_X9_mean 98 x y M K) := by
  intro M hI
  obtain ⟨D, w, hS⟩ := e_open hI
  have hD := e_scD hS
  have hN := e_scOk hS 100 (by decide)
  have hMC := e_scM hS
  obtain ⟨⟨h1, h2, h3, h4, h5, h6, h7⟩, hc, -, -, -, -, dp, -⟩ := id hS
  have m16 : ∀ p, p < dN D → M 16 p = nI (dP D p) := fun p hp => by
    obtain ⟨-, -, ⟨a, a1, a2, a3⟩, -⟩ := h6 p hp
    rw [dp]
    show M (13 + 3) p = nI (M 99 (18 + p)).toNatClampNeg
    rw [a3, a2, n_cl (by omega)]
  -- the reference counts first
  have mo5 : ∀ (K : Int64 → ap_Mem → Prop) (M3 : ap_Mem) (m j p : Nat), M3 99 = M 99 → p + j = dN D → (w_X9_in x 0 60 M3 (fun r_3 M_4 => if r_3 = 0 then K (-9223372036854775808) M_4 else w_X9_in y 0 1 M_4 (fun r_6 M_7 => if r_6 = 0 then K (-9223372036854775808) M_7 else if nI (e_mn D (dN D)) = 0 then K (-9223372036854775808) M_7 else w_X9_keeps 98 M_7 (fun M_10 => w_X9_goesOn 98 x M_10 (fun M_11 => w_X9_mean_86 98 K 4096 y (nI (e_mn D (dN D))) 0 0 M_11))))) → w_X9_mean_5 98 K (m + 1 + j) x y (nI (e_mn D p)) (nI p) M3 := by
    intro K M3 m j
    induction j with
    | zero =>
      intro p e9 hp h
      have : p = dN D := by omega
      subst this
      show w_X9_mean_5_s (w_X9_mean_5 98 K m) 98 x y _ (nI (dN D)) M3 K
      unfold w_X9_mean_5_s
      rw [v_30, k_30, show (98 + 1 : Nat) = 99 from rfl, e9, h3, if_pos (by rw [n_le (by omega) (by omega)]; omega)]
      exact ⟨trivial, h⟩
    | succ j ih =>
      intro p e9 hp h
      show w_X9_mean_5_s (w_X9_mean_5 98 K (m + 1 + j)) 98 x y _ (nI p) M3 K
      unfold w_X9_mean_5_s
      rw [v_30, k_30, show (98 + 1 : Nat) = 99 from rfl, e9, h3, if_neg (by rw [n_le (by omega) (by omega)]; omega), l_24, nI_add, n_vp (by omega), n_cl (by omega), (hMC.2.2.2.2.1 p (by omega)).2.2.2]
      refine ⟨trivial, by omega, ?_⟩
      have nx := ih (p + 1) e9 (by omega) h
      simp only [e_mn] at nx
      rcases e_b2 (dA D) p with hA | hA
      · rw [hA, if_neg (by decide)] at nx
        rw [hA, if_pos (by decide)]
        unfold w_X9_mean_36
        rintro _ rfl _ rfl
        rw [nI_1, nI_1]
        exact nx
      · rw [hA, if_pos rfl] at nx
        rw [hA, if_neg (by decide)]
        unfold w_X9_mean_36
        rintro _ rfl _ rfl
        rw [nI_1, l_0, nI_add]
        exact nx
  have mo : ∀ (K : Int64 → ap_Mem → Prop) (M3 : ap_Mem), M3 99 = M 99 → (w_X9_in x 0 60 M3 (fun r_3 M_4 => if r_3 = 0 then K (-9223372036854775808) M_4 else w_X9_in y 0 1 M_4 (fun r_6 M_7 => if r_6 = 0 then K (-9223372036854775808) M_7 else if nI (e_mn D (dN D)) = 0 then K (-9223372036854775808) M_7 else w_X9_keeps 98 M_7 (fun M_10 => w_X9_goesOn 98 x M_10 (fun M_11 => w_X9_mean_86 98 K 4096 y (nI (e_mn D (dN D))) 0 0 M_11))))) → w_X9_mean 98 x y M3 K := by
    intro K M3 e9 h
    unfold w_X9_mean
    have := mo5 K M3 (4095 - dN D) (dN D) 0 e9 (by omega) h
    rw [show 4095 - dN D + 1 + dN D = 4096 by omega] at this
    exact this
  show w_X8_mean 0 x y M _
  unfold w_X8_mean
  rcases e_ix x (n := 61) (by decide) with h | ⟨n, hn, rfl⟩
  · rw [c_isFuture0 h, if_pos rfl]
    refine mo _ M rfl ?_
    rw [show (60 : Int32) = nI 60 from rfl, m_in0 (by decide) h, if_pos rfl]
    exact ⟨rfl, hI⟩
  rw [c_isFuture1 hn, if_neg (by decide)]
  have i60 : ∀ M' (K : Int32 → ap_Mem → Prop), w_X9_in (nI n) 0 60 M' K = K 1 M' := fun M' K => by rw [show (60 : Int32) = nI 60 from rfl, l_0, m_in1 (by omega) (by omega) (by decide)]
  rcases e_ix y (n := 2) (by decide) with h | ⟨b, hb, rfl⟩
  · rw [c_isEither0 h, if_pos rfl]
    refine mo _ M rfl ?_
    rw [i60, if_neg (by decide), l_1, m_in0 (by decide) h, if_pos rfl]
    exact ⟨rfl, hI⟩
  rw [c_isEither1 hb, if_neg (by decide)]
  have i1 : ∀ M' (K : Int32 → ap_Mem → Prop), w_X9_in (nI b) 0 1 M' K = K 1 M' := fun M' K => by rw [l_1, l_0, m_in1 (by omega) (by omega) (by decide)]; rfl
  refine c_begin hS (fun M1 f1 hC1 hs1 => ?_)
  refine c_goSteps hD (by omega) hC1 (e_okNM hN (by omega)) (fun M2 f2 hC2 => ?_)
  have f20 : ∀ x, ¬ (76 ≤ x ∧ x ≤ 95) → M2 x = M x := fun x hx => by rw [f2 x (by omega) (by omega), f1 x hx]
  have hW := e_okNW (e_itN (D := D) n 0 w (e_okNM hN (by omega)))
  generalize hw2 : e_it D n w = w2 at *
  have hcur := hW.2.1
  have e99 := f20 99 (by omega)
  have hmn := e_mnL D (dN D)
  have hms := e_msL hD hcur (dN D) (Nat.le_refl _)
  have cl : ∀ (K : Int64 → ap_Mem → Prop), K (if e_mn D (dN D) = 0 then -9223372036854775808 else e_tm (e_ms D w2.2.1 (dN D)) (e_mn D (dN D)) b) M2 → ∀ (m j p : Nat), p + j = dN D → w_X8_mean_45 0 K (m + 1 + j) (nI b) (nI (e_ms D w2.2.1 p)) (nI (e_mn D p)) (nI p) M2 := by
    intro K h m j
    induction j with
    | zero =>
      intro p hp
      have : p = dN D := by omega
      subst this
      show w_X8_mean_45_s (w_X8_mean_45 0 K m) 0 (nI b) _ _ (nI (dN D)) M2 K
      unfold w_X8_mean_45_s
      rw [show (0 + 13 : Nat) = 13 from rfl, f20 13 (by omega), h4, if_pos (by rw [n_le (by omega) (by omega)]; omega)]
      by_cases hz : e_mn D (dN D) = 0
      · rw [if_pos hz] at h
        rw [if_pos (by rw [hz]; rfl)]
        exact h
      · rw [if_neg hz] at h
        rw [if_neg (by rw [l_0, n_eq (by omega) (by decide)]; exact hz)]
        exact c_terms (by omega) (by omega) (by omega) hb h
    | succ j ih =>
      intro p hp
      have hpn : p < dN D := by omega
      show w_X8_mean_45_s (w_X8_mean_45 0 K (m + 1 + j)) 0 (nI b) _ _ (nI p) M2 K
      unfold w_X8_mean_45_s
      rw [show (0 + 13 : Nat) = 13 from rfl, f20 13 (by omega), h4, if_neg (by rw [n_le (by omega) (by omega)]; omega), c_isAway (by rw [f20 13 (by omega)]; exact h5) h2 (by omega)]
      have nx := ih (p + 1) (by omega)
      simp only [e_mn, e_ms] at nx
      rcases e_b2 (dA D) p with hA | hA
      · rw [hA, if_neg (by decide), if_neg (by decide)] at nx
        rw [hA, if_pos (by decide), n_vp (by omega), n_cl (by omega), show (0 + 82 : Nat) = 82 from rfl, show (0 + 16 : Nat) = 16 from rfl, hC2.2.1.1, f20 16 (by omega), m16 p hpn, c_far hcur (hD.2.2.1 p hpn).2.2, e_far_sym]
        refine ⟨by omega, ?_⟩
        rintro _ rfl _ rfl
        unfold w_X8_mean_107
        rintro _ rfl
        rw [nI_1, nI_1, nI_add]
        exact nx
      · rw [hA, if_pos rfl, if_pos rfl] at nx
        rw [hA, if_neg (by decide)]
        unfold w_X8_mean_107
        rintro _ rfl
        rw [nI_1]
        exact nx
  have hcl := cl (fun r1 M1 => w_X9_mean 98 (nI n) (nI b) M1 (fun r2 M2 => r1 = r2 ∧ e_Inv M2)) ?_ (4095 - dN D) (dN D) 0 (by omega)
  · rw [show 4095 - dN D + 1 + dN D = 4096 by omega] at hcl
    exact hcl
  refine mo _ M2 e99 ?_
  rw [i60, if_neg (by decide), i1, if_neg (by decide)]
  by_cases hz : e_mn D (dN D) = 0
  · rw [if_pos hz, if_pos (by rw [hz]; rfl)]
    exact ⟨rfl, e_keep hI (fun a ha => f20 a (by omega)) (fun j => by rw [e99])⟩
  rw [if_neg hz, if_neg (by rw [l_0, n_eq (by omega) (by decide)]; exact hz)]
  refine m_keeps (fun M4 f4 g4 => ?_)
  have e4 : M4 99 = M 99 := by rw [f4 99 (by decide), e99]
  refine m_goesOn hD (by omega) (by rw [e4]; exact hMC) (e_okNM hN (by omega)) (fun M5 f5 g5 hC5 => ?_)
  rw [hw2] at hC5
  have mo6 : ∀ (K : Int64 → ap_Mem → Prop), (w_X9_goesBack 98 M5 (fun M_3 => w_X9_lowest (lN (e_ms D w2.2.1 (dN D))) (nI (e_mn D (dN D))).toInt64 (nI b) M_3 (fun r_4 M_5 => K r_4 M_5))) → ∀ (m j p : Nat), p + j = dN D → w_X9_mean_86 98 K (m + 1 + j) (nI b) (nI (e_mn D (dN D))) (lN (e_ms D w2.2.1 p)) (nI p) M5 := by
    intro K h m j
    induction j with
    | zero =>
      intro p hp
      have : p = dN D := by omega
      subst this
      show w_X9_mean_86_s (w_X9_mean_86 98 K m) 98 (nI b) _ _ (nI (dN D)) M5 K
      unfold w_X9_mean_86_s
      rw [v_30, k_30, show (98 + 1 : Nat) = 99 from rfl, hC5.2.1, if_pos (by rw [n_le (by omega) (by omega)]; omega)]
      exact ⟨trivial, h⟩
    | succ j ih =>
      intro p hp
      have hpn : p < dN D := by omega
      show w_X9_mean_86_s (w_X9_mean_86 98 K (m + 1 + j)) 98 (nI b) _ _ (nI p) M5 K
      unfold w_X9_mean_86_s
      obtain ⟨u1, u2, u3, u4⟩ := hC5.2.2.2.2.1 p hpn
      rw [v_30, k_30, show (98 + 1 : Nat) = 99 from rfl, hC5.2.1, if_neg (by rw [n_le (by omega) (by omega)]; omega), l_24, nI_add, n_vp (by omega), n_cl (by omega), u4]
      refine ⟨trivial, by omega, ?_⟩
      have nx := ih (p + 1) (by omega)
      simp only [e_ms] at nx
      rcases e_b2 (dA D) p with hA | hA
      · rw [hA, if_neg (by decide)] at nx
        have hf := e_far_le (hD.2.2.1 p hpn).2.2 hcur
        rw [hA, if_pos (by decide), l_18, nI_add, n_vp (by omega), n_cl (by omega), v_1, k_1, u3, hC5.2.2.1, m_far (hD.2.2.1 p hpn).2.2 hcur, x_i64 _ (by omega)]
        refine ⟨by omega, trivial, ?_⟩
        unfold w_X9_mean_137
        rintro _ rfl _ rfl
        rw [nI_1, lN_add]
        exact nx
      · rw [hA, if_pos rfl] at nx
        rw [hA, if_neg (by decide)]
        unfold w_X9_mean_137
        rintro _ rfl _ rfl
        rw [nI_1, show (0 : Int64) = lN 0 from rfl, lN_add]
        exact nx
  have hmo := mo6 (fun r2 M2 => e_tm (e_ms D w2.2.1 (dN D)) (e_mn D (dN D)) b = r2 ∧ e_Inv M2) (m_back (fun M6 f6 g6 => ?_)) (4095 - dN D) (dN D) 0 (by omega)
  · rw [show 4095 - dN D + 1 + dN D = 4096 by omega] at hmo
    exact hmo
  · rw [x_i64 _ (by omega)]
    refine m_terms (by omega) (by omega) (by omega) hb ⟨rfl, e_end hI f20 f4 g4 (fun x a b c d => by rw [f6 x a, f5 x a c d]) (fun j => ?_)⟩
    rw [g6 j, f5 101 (by decide) (by decide) (by decide)]
    split
    · rfl
    · exact g5 j (by omega)
