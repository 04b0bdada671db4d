/-! odds, mean -/
def e_tm (a b part : Nat) : Int64 := lN ((if part = 0 then a else b) / Nat.gcd a b)
theorem x_i64 : ∀ a, a < 1000 → (nI a).toInt64 = lN a := by decide +kernel
theorem x_cmp : ∀ a, a < 1000 → (lg_cmp (lN a) 0 = 0 ↔ a = 0) ∧ 0 ≤ lg_cmp (lN a) 0 := by decide +kernel
theorem c_terms {a b part : Nat} {M : ap_Mem} {K : Int64 → ap_Mem → Prop} (ha : a < 90) (hb : b < 90) (h0 : 0 < b) (hp : part < 2) (h : K (e_tm a b part) M) : w_X8_inLowestTerms (nI a) (nI b) (nI part) M K := by
  have out : ∀ u, Nat.gcd a b = u → w_X8_inLowestTerms_39 (nI a) (nI b) (nI part) (nI u) M K := by
    intro u hu
    have hu0 : 0 < u := by rw [← hu]; exact Nat.gcd_pos_of_pos_right a h0
    have hub : u ≤ b := by rw [← hu]; exact Nat.gcd_le_right a h0
    have hd1 : a / u < 1000 := Nat.lt_of_le_of_lt (Nat.div_le_self _ _) (by omega)
    have hd2 : b / u < 1000 := Nat.lt_of_le_of_lt (Nat.div_le_self _ _) (by omega)
    have hz : ¬ nI u = 0 := by rw [l_0, n_eq (by omega) (by decide)]; omega
    unfold e_tm at h
    rw [hu] at h
    unfold w_X8_inLowestTerms_39
    rw [if_neg hz]
    rcases (by omega : part = 0 ∨ part = 1) with rfl | rfl
    · rw [if_pos (by decide), n_div (by omega) hu0 (by omega), x_i64 _ hd1]
      exact ⟨hz, h⟩
    · rw [if_neg (by decide), n_div (by omega) hu0 (by omega), x_i64 _ hd2]
      exact ⟨hz, h⟩
  have lp : ∀ (m j i u v : Nat), v ≤ j → i + j < 100 → u < 90 → v < 90 → Nat.gcd u v = Nat.gcd a b → w_X8_inLowestTerms_8 K (m + 1 + j) (nI a) (nI b) (nI part) (nI u) (nI v) (nI i) M := by
    intro m j
    induction j with
    | zero =>
      intro i u v hv hi hu hv2 hg
      have : v = 0 := by omega
      subst this
      show w_X8_inLowestTerms_8_s (w_X8_inLowestTerms_8 K m) (nI a) (nI b) (nI part) (nI u) (nI 0) (nI i) M K
      unfold w_X8_inLowestTerms_8_s
      rw [if_neg (by rw [l_100, n_le (by decide) (by omega)]; omega), if_pos (by decide)]
      exact out u (by rw [← hg, Nat.gcd_zero_right])
    | succ j ih =>
      intro i u v hv hi hu hv2 hg
      show w_X8_inLowestTerms_8_s (w_X8_inLowestTerms_8 K (m + 1 + j)) (nI a) (nI b) (nI part) (nI u) (nI v) (nI i) M K
      unfold w_X8_inLowestTerms_8_s
      rw [if_neg (by rw [l_100, n_le (by decide) (by omega)]; omega)]
      by_cases hz : v = 0
      · rw [if_pos (by rw [hz]; rfl)]
        exact out u (by rw [← hg, hz, Nat.gcd_zero_right])
      · have hz2 : ¬ nI v = 0 := by rw [l_0, n_eq (by omega) (by decide)]; exact hz
        rw [if_neg hz2, n_rem (by omega) (by omega) (by omega)]
        refine ⟨hz2, ?_⟩
        rintro _ rfl _ rfl
        rw [nI_1]
        have hm := Nat.mod_lt u (show v > 0 by omega)
        exact ih (i + 1) v (u % v) (by omega) (by omega) hv2 (by omega) (by rw [← hg, Nat.gcd_comm v (u % v), ← Nat.gcd_rec, Nat.gcd_comm])
  unfold w_X8_inLowestTerms
  have := lp (4095 - 90) 90 0 b a (by omega) (by omega) hb ha (Nat.gcd_comm b a)
  exact this
theorem m_terms {a b part : Nat} {M : ap_Mem} {K : Int64 → ap_Mem → Prop} (ha : a < 90) (hb : b < 90) (h0 : 0 < b) (hp : part < 2) (h : K (e_tm a b part) M) : w_X9_lowest (lN a) (lN b) (nI part) M K := by
  have out : ∀ u, Nat.gcd a b = u → (if nI part = 0 then ((¬ lN u = 0) ∧ K (lN a / lN u) M) else ((¬ lN u = 0) ∧ K (lN b / lN u) M)) := by
    intro u hu
    have hu0 : 0 < u := by rw [← hu]; exact Nat.gcd_pos_of_pos_right a h0
    have hub : u ≤ b := by rw [← hu]; exact Nat.gcd_le_right a h0
    have hz : ¬ lN u = 0 := by rw [show (0 : Int64) = lN 0 from rfl, lN_eq (by omega) (by decide)]; omega
    unfold e_tm at h
    rw [hu] at h
    rcases (by omega : part = 0 ∨ part = 1) with rfl | rfl
    · rw [if_pos (by decide), pk_lDiv (by omega) hu0 (by omega)]
      exact ⟨hz, h⟩
    · rw [if_neg (by decide), pk_lDiv (by omega) hu0 (by omega)]
      exact ⟨hz, h⟩
  have lp : ∀ (m j u v : Nat), v ≤ j → u < 90 → v < 90 → Nat.gcd u v = Nat.gcd a b → w_X9_lowest_17 K (m + 1 + j) (lN a) (lN b) (nI part) (lN u) (lN v) M := by
    intro m j
    induction j with
    | zero =>
      intro u v hv hu hv2 hg
      have : v = 0 := by omega
      subst this
      show w_X9_lowest_17_s (w_X9_lowest_17 K m) (lN a) (lN b) (nI part) (lN u) (lN 0) M K
      unfold w_X9_lowest_17_s
      rw [if_pos ((x_cmp 0 (by decide)).1.mpr rfl)]
      exact out u (by rw [← hg, Nat.gcd_zero_right])
    | succ j ih =>
      intro u v hv hu hv2 hg
      show w_X9_lowest_17_s (w_X9_lowest_17 K (m + 1 + j)) (lN a) (lN b) (nI part) (lN u) (lN v) M K
      unfold w_X9_lowest_17_s
      by_cases hz : v = 0
      · rw [if_pos ((x_cmp v (by omega)).1.mpr hz)]
        exact out u (by rw [← hg, hz, Nat.gcd_zero_right])
      · rw [if_neg (fun z => hz ((x_cmp v (by omega)).1.mp z)), pk_lRem (by omega) (by omega) (by omega)]
        refine ⟨by rw [show (0 : Int64) = lN 0 from rfl, lN_eq (by omega) (by decide)]; exact hz, ?_⟩
        rintro _ rfl
        have hm := Nat.mod_lt u (show v > 0 by omega)
        exact ih v (u % v) (by omega) hv2 (by omega) (by rw [← hg, Nat.gcd_comm v (u % v), ← Nat.gcd_rec, Nat.gcd_comm])
  unfold w_X9_lowest
  rw [if_pos (x_cmp a (by omega)).2]
  unfold w_X9_lowest_12
  have := lp 4005 90 a b (by omega) ha hb rfl
  exact this
def e_od (D : e_D) (w : e_W) (g n : Nat) : Nat → Nat
  | 0 => 0
  | p + 1 => e_od D w g n p + (if (e_it (e_setA D (e_on (dA D) p)) n w).2.1 = g then 1 else 0)
theorem e_odL (D : e_D) (w : e_W) (g n : Nat) : ∀ p, e_od D w g n p ≤ p := by
  intro p
  induction p with
  | zero => exact Nat.le_refl _
  | succ p ih =>
    show e_od D w g n p + _ ≤ p + 1
    split <;> omega
theorem p_odds (x y z : Int32) : e_PairL (fun M K => w_X8_odds 0 x y z M K) (fun M K => w_X9_odds 98 x y z M K) := by
  intro M hI
  obtain ⟨D, w, hS⟩ := e_open hI
  have hD := e_scD hS
  have hN := e_scOk hS 100 (by decide)
  have hMC := e_scM hS
  obtain ⟨⟨h1, h2, h3, h4, h5, h6, h7⟩, hc, -⟩ := id hS
  show w_X8_odds 0 x y z M _
  unfold w_X8_odds
  rcases e_ix x (n := 16) (by decide) with h | ⟨g, hg, rfl⟩
  · rw [c_isCell0 h, if_pos rfl]
    show w_X9_odds 98 x y z M _
    unfold w_X9_odds
    rw [m_isCell0 h, if_pos rfl]
    exact ⟨rfl, hI⟩
  rw [c_isCell1 hg, if_neg (by decide)]
  rcases e_ix y (n := 61) (by decide) with h | ⟨n, hn, rfl⟩
  · rw [c_isFuture0 h, if_pos rfl]
    show w_X9_odds 98 (nI g) y z M _
    unfold w_X9_odds
    rw [m_isCell1 hg, if_neg (by decide), show (60 : Int32) = nI 60 from rfl, m_in0 (by decide) h, if_pos rfl]
    exact ⟨rfl, hI⟩
  rw [c_isFuture1 hn, if_neg (by decide)]
  have i60 : ∀ M' (K : Int32 → ap_Mem → Prop), w_X9_in (nI n) 0 60 M' K = K 1 M' := fun M' K => by rw [show (60 : Int32) = nI 60 from rfl, l_0, m_in1 (by omega) (by omega) (by decide)]
  rcases e_ix z (n := 2) (by decide) with h | ⟨b, hb, rfl⟩
  · rw [c_isEither0 h, if_pos rfl]
    show w_X9_odds 98 (nI g) (nI n) z M _
    unfold w_X9_odds
    rw [m_isCell1 hg, if_neg (by decide), i60, if_neg (by decide), l_1, m_in0 (by decide) h, if_pos rfl]
    exact ⟨rfl, hI⟩
  rw [c_isEither1 hb, if_neg (by decide), show (0 + 13 : Nat) = 13 from rfl, h4]
  have i1 : ∀ M' (K : Int32 → ap_Mem → Prop), w_X9_in (nI b) 0 1 M' K = K 1 M' := fun M' K => by rw [l_1, l_0, m_in1 (by omega) (by omega) (by decide)]; rfl
  by_cases hz : dN D = 0
  · rw [if_pos (by rw [hz]; rfl)]
    show w_X9_odds 98 (nI g) (nI n) (nI b) M _
    unfold w_X9_odds
    rw [m_isCell1 hg, if_neg (by decide), i60, if_neg (by decide), i1, if_neg (by decide), v_30, k_30, show (98 + 1 : Nat) = 99 from rfl, h3, if_pos (by rw [hz]; rfl)]
    exact ⟨trivial, rfl, hI⟩
  rw [if_neg (by rw [l_0, n_eq (by omega) (by decide)]; exact hz)]
  refine c_begin hS (fun M1 f1 hC1 hs1 => ?_)
  have cl : ∀ (K : Int64 → ap_Mem → Prop) (m j p : Nat) (D1 : e_D) (w1 : e_W) (M2 : ap_Mem), p + j = dN D → (∀ d, e_setA D1 d = e_setA D d) → (∀ x, ¬ (76 ≤ x ∧ x ≤ 95) → M2 x = M x) → e_CC M2 D1 w1 → e_CStart M2 w → (∀ M', (∀ x, ¬ (76 ≤ x ∧ x ≤ 95) → M' x = M x) → K (e_tm (e_od D w g n (dN D)) (dN D) b) M') → w_X8_odds_55 0 K (m + 1 + j) (nI g) (nI n) (nI b) (nI (e_od D w g n p)) (nI p) M2 := by
    intro K m j
    induction j with
    | zero =>
      intro p D1 w1 M2 hp hDD f2 hC hst h
      have : p = dN D := by omega
      subst this
      show w_X8_odds_55_s (w_X8_odds_55 0 K m) 0 (nI g) (nI n) (nI b) _ (nI (dN D)) M2 K
      unfold w_X8_odds_55_s
      rw [show (0 + 13 : Nat) = 13 from rfl, f2 13 (by omega), h4, if_pos (by rw [n_le (by omega) (by omega)]; omega)]
      have := e_odL D w g n (dN D)
      exact c_terms (by omega) (by omega) (by omega) hb (h M2 f2)
    | succ j ih =>
      intro p D1 w1 M2 hp hDD f2 hC hst h
      have hpn : p < dN D := by omega
      obtain ⟨o1, o2, o3⟩ := e_onB p (by omega) (dA D) h2
      have hl := e_odL D w g n p
      show w_X8_odds_55_s (w_X8_odds_55 0 K (m + 1 + j)) 0 (nI g) (nI n) (nI b) _ (nI p) M2 K
      unfold w_X8_odds_55_s
      rw [show (0 + 13 : Nat) = 13 from rfl, f2 13 (by omega), h4, if_neg (by rw [n_le (by omega) (by omega)]; omega)]
      refine c_again hC hst (fun M3 f3 h3' => ?_)
      have e13 : M3 13 4 = nI (dA D) := by rw [f3 13 (by omega), f2 13 (by omega)]; exact h5
      rw [e13, o2]
      rintro _ rfl
      have hA := e_ccA (A := e_on (dA D) p) (M' := ap_mu M3 (0 + 77) 4 (nI (e_on (dA D) p))) h3' (by simp (disch := omega) only [mu_s]) (by simp (disch := omega) only [mu_o]) (fun x hx => by simp (disch := omega) only [ap_mu_n])
      rw [hDD] at hA
      refine c_goSteps (e_okA hD o1) (by omega) hA (e_okNM hN (by omega)) (fun M4 f4 h4' => ?_)
      have f40 : ∀ x, ¬ (76 ≤ x ∧ x ≤ 95) → M4 x = M x := fun x hx => by
        rw [f4 x (by omega) (by omega)]
        simp (disch := omega) only [ap_mu_n]
        rw [f3 x (by omega), f2 x hx]
      have hst4 : e_CStart M4 w := e_fCSt hst (fun a ha => by
        rw [f4 a (by omega) (by omega)]
        simp (disch := omega) only [ap_mu_n]
        rw [f3 a (by omega)])
      have nx := ih (p + 1) (e_setA D (e_on (dA D) p)) _ M4 (by omega) (fun d => rfl) f40 h4' hst4 h
      have hcur := (e_okNW (e_itN (D := e_setA D (e_on (dA D) p)) n 0 w (e_okNM hN (by omega)))).2.1
      rw [show (0 + 82 : Nat) = 82 from rfl, h4'.2.1.1]
      simp only [e_od] at nx
      by_cases hcc : (e_it (e_setA D (e_on (dA D) p)) n w).2.1 = g
      · rw [if_pos hcc] at nx
        rw [if_pos (by rw [hcc])]
        rintro _ rfl
        unfold w_X8_odds_127
        rintro _ rfl
        rw [nI_1, nI_1]
        exact nx
      · rw [if_neg hcc] at nx
        rw [if_neg (by rw [n_eq (by omega) (by omega)]; exact hcc)]
        unfold w_X8_odds_127
        rintro _ rfl
        rw [nI_1]
        exact nx
  have hcl := cl (fun r1 M1 => w_X9_odds 98 (nI g) (nI n) (nI b) M1 (fun r2 M2 => r1 = r2 ∧ e_Inv M2)) (4095 - dN D) (dN D) 0 D w M1 (by omega) (fun _ => rfl) f1 hC1 hs1 (fun M2 f12 => ?_)
  · rw [show 4095 - dN D + 1 + dN D = 4096 by omega] at hcl
    exact hcl
  have e99 := f12 99 (by omega)
  unfold w_X9_odds
  rw [m_isCell1 hg, if_neg (by decide), i60, if_neg (by decide), i1, if_neg (by decide), v_30, k_30, show (98 + 1 : Nat) = 99 from rfl, e99, h3, if_neg (by rw [l_0, n_eq (by omega) (by decide)]; exact hz)]
  refine ⟨trivial, ?_⟩
  have mo : ∀ (K : Int64 → ap_Mem → Prop) (m j p : Nat) (M3 : ap_Mem), p + j = dN D → (∀ x, x ≠ 99 → x ≠ 101 → x ≠ 102 → x ≠ 103 → M3 x = M2 x) → (∀ j, M3 99 j = M 99 j) → (∀ M', (∀ x, x ≠ 99 → x ≠ 101 → x ≠ 102 → x ≠ 103 → M' x = M2 x) → (∀ j, M' 99 j = M 99 j) → K (e_tm (e_od D w g n (dN D)) (dN D) b) M') → w_X9_odds_46 98 K (m + 1 + j) (nI g) (nI n) (nI b) (lN (e_od D w g n p)) (nI p) M3 := by
    intro K m j
    induction j with
    | zero =>
      intro p M3 hp f3 g3 h
      have : p = dN D := by omega
      subst this
      show w_X9_odds_46_s (w_X9_odds_46 98 K m) 98 (nI g) (nI n) (nI b) _ (nI (dN D)) M3 K
      unfold w_X9_odds_46_s
      rw [v_30, k_30, show (98 + 1 : Nat) = 99 from rfl, g3 30, h3, if_pos (by rw [n_le (by omega) (by omega)]; omega), x_i64 _ (by omega)]
      have := e_odL D w g n (dN D)
      exact ⟨trivial, trivial, m_terms (by omega) (by omega) (by omega) hb (h M3 f3 g3)⟩
    | succ j ih =>
      intro p M3 hp f3 g3 h
      have hpn : p < dN D := by omega
      obtain ⟨o1, o2, o3⟩ := e_onB p (by omega) (dA D) h2
      show w_X9_odds_46_s (w_X9_odds_46 98 K (m + 1 + j)) 98 (nI g) (nI n) (nI b) _ (nI p) M3 K
      unfold w_X9_odds_46_s
      rw [v_30, k_30, show (98 + 1 : Nat) = 99 from rfl, g3 30, h3, if_neg (by rw [n_le (by omega) (by omega)]; omega)]
      refine ⟨trivial, ?_⟩
      refine m_keeps (fun M4 f4 g4 => ?_)
      have e4 : M4 99 = M 99 := by rw [f4 99 (by decide)]; exact funext g3
      rw [l_24, nI_add, n_vp (by omega), n_cl (by omega)]
      refine ⟨by omega, ?_⟩
      rintro _ rfl
      have hA : e_MC ((ap_mu M4 99 (24 + p) 1) 99) (e_setA D (e_on (dA D) p)) w := e_mcA (f := M 99) hMC h1 (fun q hq => by
        rw [o3 q (by omega)]
        by_cases hqp : q = p
        · subst hqp
          rw [if_pos rfl]
          simp (disch := omega) only [mu_s]
          rfl
        · rw [if_neg hqp]
          simp (disch := omega) only [mu_o]
          rw [e4]
          exact (hMC.2.2.2.2.1 q hq).2.2.2) (fun j hj => by simp (disch := omega) only [mu_o]; rw [e4])
      refine m_goesOn (e_okA hD o1) (by omega) hA (e_okNM hN (by omega)) (fun M5 f5 g5 h5' => ?_)
      have hcur := (e_okNW (e_itN (D := e_setA D (e_on (dA D) p)) n 0 w (e_okNM hN (by omega)))).2.1
      rw [v_1, k_1, h5'.2.2.1]
      refine ⟨trivial, ?_⟩
      have fin : ∀ (s0 : Nat), e_od D w g n (p + 1) = e_od D w g n p + s0 → w_X9_odds_95 (w_X9_odds_46 98 K (m + 1 + j)) 98 (nI g) (nI n) (nI b) (nI p) (lN s0) (lN (e_od D w g n p)) M5 K := by
        intro s0 hs0
        unfold w_X9_odds_95
        rintro _ rfl
        refine m_back (fun M6 f6 g6 => ?_)
        rintro _ rfl
        rw [nI_1, lN_add, ← hs0]
        refine ih (p + 1) M6 (by omega) (fun x a b c d => by
          rw [f6 x a, f5 x a c d]
          simp (disch := omega) only [ap_mu_n]
          rw [f4 x b, f3 x a b c d]) (fun j => ?_) h
        rw [g6 j, f5 101 (by decide) (by decide) (by decide)]
        split
        · simp (disch := omega) only [ap_mu_n]
          rw [g4 j (by omega), g3 j]
        · rw [g5 j (by omega)]
          simp (disch := omega) only [mu_o]
          rw [e4]
      by_cases hcc : (e_it (e_setA D (e_on (dA D) p)) n w).2.1 = g
      · rw [if_pos (by rw [hcc])]
        exact fin 1 (by simp only [e_od]; rw [if_pos hcc])
      · rw [if_neg (by rw [n_eq (by omega) (by omega)]; exact hcc)]
        exact fin 0 (by simp only [e_od]; rw [if_neg hcc])
  have hmo := mo (fun r2 M3 => e_tm (e_od D w g n (dN D)) (dN D) b = r2 ∧ e_Inv M3) (4095 - dN D) (dN D) 0 M2 (by omega) (fun _ _ _ _ _ => rfl) (fun j => by rw [e99]) (fun M3 f3 g3 => ⟨rfl, e_keep hI (fun a ha => by rw [f3 a (by omega) (by omega) (by omega) (by omega), f12 a (by omega)]) g3⟩)
  rw [show 4095 - dN D + 1 + dN D = 4096 by omega] at hmo
  exact hmo
