/-! firm, sought -/
def e_fi (F : Nat → Bool) : Nat → Nat × Option Nat → Nat × Option Nat
  | 0, s => s
  | r + 1, s => e_fi F r (if F r = true then (s.1 + 1, some r) else s)
theorem p_firm (x y : Int32) : e_Pair (fun M K => w_X8_firm 0 x y M K) (fun M K => w_X9_firm 98 x y M K) := by
  intro M hI
  obtain ⟨D, w, hS⟩ := e_open hI
  have hD := e_scD hS
  have hN := e_scOk hS 100 (by decide)
  have hMC := e_scM hS
  obtain ⟨sn, sf, ss, hsC, hsM⟩ := e_seen hI
  obtain ⟨⟨h1, h2, h3, h4, h5, h6, h7⟩, hc, -⟩ := id hS
  show w_X8_firm 0 x y M _
  unfold w_X8_firm
  rcases e_ix x (n := dN D) (by omega) with h | ⟨p, hp, rfl⟩
  · rw [c_has0 (q := 0 + 13) h4 h, if_pos rfl]
    show w_X9_firm 98 x y M _
    unfold w_X9_firm
    rw [m_isPerson0 (q := 98) h3 (by omega) h, if_pos rfl]
    exact ⟨rfl, hI⟩
  rw [c_has1 (q := 0 + 13) h4 (by omega) hp, if_neg (by decide)]
  have per : ∀ M' K, M' 99 = M 99 → w_X9_isPerson 98 (nI p) M' K = K 1 M' := fun M' K e => m_isPerson1 (q := 98) (by show M' 99 30 = _; rw [e]; exact h3) (by omega) hp
  rcases e_ix y (n := 2) (by decide) with h | ⟨b, hb, rfl⟩
  · rw [c_isEither0 h, if_pos rfl]
    show w_X9_firm 98 (nI p) y M _
    unfold w_X9_firm
    rw [per _ _ rfl, if_neg (by decide), l_1, m_in0 (by decide) h, if_pos rfl]
    exact ⟨rfl, hI⟩
  rw [c_isEither1 hb, if_neg (by decide)]
  obtain ⟨-, ⟨v, v1, v2, v3⟩, -⟩ := h6 p hp
  refine c_begin hS (fun M1 f1 hC1 hs1 => ?_)
  generalize hF : (fun c => e_asB (e_setV D p c) sf ss sn 21 w 0) = F
  have hF2 : ∀ c, e_asB (e_setV D p c) sf ss sn 21 w 0 = F c := fun c => by rw [← hF]
  have t1 : ∀ r, r ≤ 10 → nI r + -1 = nI r - 1 := fun r _ => by grind
  have t2 : ∀ r, r ≤ 10 → nI (r + 1) - 1 = nI r := fun r _ => by rw [l_1, n_sub (by omega), Nat.add_sub_cancel]
  have cl : ∀ (K : Int32 → ap_Mem → Prop) (m r : Nat) (s : Nat × Option Nat) (D1 : e_D) (w1 : e_W) (M2 : ap_Mem), r ≤ 10 → (∀ d, e_setV D1 p d = e_setV D p d) → (∀ x, ¬ (76 ≤ x ∧ x ≤ 95) → M2 x = M x) → e_CC M2 D1 w1 → e_CStart M2 w → (∀ M', (∀ x, ¬ (76 ≤ x ∧ x ≤ 95) → M' x = M x) → K (if b = 0 then nI (e_fi F r s).1 else e_vo (e_fi F r s).2) M') → w_X8_firm_44 0 K (m + 1 + r) (nI p) (nI b) (e_vo s.2) (nI s.1) (nI r - 1) M2 := by
    intro K m r
    induction r with
    | zero =>
      intro s D1 w1 M2 hr hDD f2 hC hst h
      show w_X8_firm_44_s (w_X8_firm_44 0 K m) 0 (nI p) (nI b) (e_vo s.2) (nI s.1) (nI 0 - 1) M2 K
      unfold w_X8_firm_44_s
      rw [if_pos (by decide)]
      have hk := h M2 f2
      rcases (by omega : b = 0 ∨ b = 1) with rfl | rfl
      · rw [if_pos (by decide)]
        exact hk
      · rw [if_neg (by decide)]
        exact hk
    | succ r ih =>
      intro s D1 w1 M2 hr hDD f2 hC hst h
      show w_X8_firm_44_s (w_X8_firm_44 0 K (m + 1 + r)) 0 (nI p) (nI b) (e_vo s.2) (nI s.1) (nI (r + 1) - 1) M2 K
      unfold w_X8_firm_44_s
      rw [t2 r (by omega), if_neg (by rw [l_0]; exact n_neg (by omega))]
      refine c_make hC (by omega) (fun M3 f3 h3 => ?_)
      rw [hDD r] at h3
      have f30 : ∀ x, ¬ (76 ≤ x ∧ x ≤ 95) → M3 x = M x := fun x hx => by rw [f3 x (by omega) (by omega), f2 x hx]
      refine c_as h3 (e_fCSt hst (fun a ha => f3 a (by omega) (by omega))) (e_okVD hD (by omega)) hN (e_scn hsC (fun a ha => f30 a (by omega))) (fun M4 w4 f4 h4 => ?_)
      rw [hF2 r]
      have nx := fun s => ih s (e_setV D p r) w4 M4 (by omega) (fun d => e_setVV D p r d) (fun x hx => by rw [f4 x (by omega) (by omega), f30 x hx]) h4 (e_fCSt hst (fun a ha => by rw [f4 a (by omega) (by omega), f3 a (by omega) (by omega)]))
      simp only [e_fi] at h
      cases hb : F r with
      | false =>
        rw [hb, if_neg (show ¬ false = true by decide)] at h
        rw [if_pos (by decide)]
        unfold w_X8_firm_82
        rintro _ rfl
        rw [t1 r (by omega)]
        exact nx s h
      | true =>
        rw [hb, if_pos rfl] at h
        rw [if_neg (by decide)]
        rintro _ rfl
        unfold w_X8_firm_82
        rintro _ rfl
        rw [nI_1, t1 r (by omega)]
        exact nx (s.1 + 1, some r) h
  refine cl _ 4085 10 (0, none) D w M1 (by decide) (fun _ => rfl) f1 hC1 hs1 (fun M2 f12 => ?_)
  have e99 := f12 99 (by omega)
  show w_X9_firm 98 (nI p) (nI b) M2 _
  unfold w_X9_firm
  rw [per _ _ e99, if_neg (by decide), l_1, l_0, m_in1 (by omega) (by omega) (by decide), ← l_0, ← l_1, if_neg (by decide), l_44, nI_add, n_vp (by omega), n_cl (by omega), show (98 + 1 : Nat) = 99 from rfl, e99, v2]
  refine ⟨by omega, ?_⟩
  rintro _ rfl
  have mo : ∀ (K : Int32 → ap_Mem → Prop) (m r : Nat) (s : Nat × Option Nat) (M3 : ap_Mem), r ≤ 10 → (∀ x, x ≠ 99 → x ≠ 101 → x ≠ 102 → x ≠ 103 → M3 x = M2 x) → (∀ j, j ≠ 44 + p → M3 99 j = M 99 j) → (∀ M', (∀ x, x ≠ 99 → x ≠ 101 → x ≠ 102 → x ≠ 103 → M' x = M2 x) → (∀ j, M' 99 j = M 99 j) → K (if b = 0 then nI (e_fi F r s).1 else e_vo (e_fi F r s).2) M') → w_X9_firm_40 98 K (m + 1 + r) (nI p) (nI b) (nI v) (nI s.1) (e_vo s.2) (nI r - 1) M3 := by
    intro K m r
    induction r with
    | zero =>
      intro s M3 hr f3 g3 h
      show w_X9_firm_40_s (w_X9_firm_40 98 K m) 98 (nI p) (nI b) (nI v) (nI s.1) (e_vo s.2) (nI 0 - 1) M3 K
      unfold w_X9_firm_40_s
      rw [if_pos (by decide), l_44, nI_add, n_vp (by omega), n_cl (by omega), show (98 + 1 : Nat) = 99 from rfl]
      refine ⟨by omega, ?_⟩
      rintro _ rfl
      have hk := h (ap_mu M3 99 (44 + p) (nI v)) (fun x a b c d => by simp (disch := omega) only [ap_mu_n]; exact f3 x a b c d) (fun j => by
        by_cases hj : j = 44 + p
        · subst hj
          simp (disch := omega) only [mu_s]
          exact v2.symm
        · simp (disch := omega) only [mu_o]
          exact g3 j hj)
      rcases (by omega : b = 0 ∨ b = 1) with rfl | rfl
      · rw [if_pos (by decide)]
        exact hk
      · rw [if_neg (by decide)]
        exact hk
    | succ r ih =>
      intro s M3 hr f3 g3 h
      show w_X9_firm_40_s (w_X9_firm_40 98 K (m + 1 + r)) 98 (nI p) (nI b) (nI v) (nI s.1) (e_vo s.2) (nI (r + 1) - 1) M3 K
      unfold w_X9_firm_40_s
      rw [t2 r (by omega), if_neg (by rw [l_0]; exact n_neg (by omega))]
      refine m_keeps (fun M4 f4 g4 => ?_)
      have e4 : M4 99 = M3 99 := f4 99 (by decide)
      rw [l_44, nI_add, n_vp (by omega), n_cl (by omega), show (98 + 1 : Nat) = 99 from rfl]
      refine ⟨by omega, ?_⟩
      rintro _ rfl
      refine m_are (D := e_setV D p r) (w := w) (e_mcV (f := M 99) hMC h1 hp (by simp (disch := omega) only [mu_s]) (fun j hj => by simp (disch := omega) only [mu_o]; rw [e4, g3 j hj])) (e_okVD hD (by omega)) hN (e_smn hsM (fun j hj => by simp (disch := omega) only [mu_o]; rw [e4, g3 j (by omega)])) (fun M5 f5 g5 => ?_)
      rw [hF2 r]
      have nx := fun s => ih s M5 (by omega) (fun x a b c d => by
        rw [f5 x a c d]
        simp (disch := omega) only [ap_mu_n]
        rw [f4 x b, f3 x a b c d]) (fun j hj => by
        rw [g5 j]
        split
        · simp (disch := omega) only [ap_mu_n]
          rw [g4 j (by omega), g3 j hj]
        · simp (disch := omega) only [mu_o]
          rw [e4, g3 j hj])
      simp only [e_fi] at h
      cases hb : F r with
      | false =>
        rw [hb, if_neg (show ¬ false = true by decide)] at h
        rw [if_pos (by decide)]
        unfold w_X9_firm_78
        rintro _ rfl
        rw [if_pos (by decide)]
        unfold w_X9_firm_93
        rintro _ rfl
        rw [t1 r (by omega), l_0, nI_add]
        exact nx s h
      | true =>
        rw [hb, if_pos rfl] at h
        rw [if_neg (by decide)]
        unfold w_X9_firm_78
        rintro _ rfl
        rw [if_neg (by decide)]
        unfold w_X9_firm_93
        rintro _ rfl
        rw [t1 r (by omega), nI_1]
        exact nx (s.1 + 1, some r) h
  exact mo _ 4085 10 (0, none) M2 (by decide) (fun _ _ _ _ _ => rfl) (fun j _ => by rw [e99]) (fun M3 f3 g3 => ⟨rfl, e_keep hI (fun a ha => by rw [f3 a (by omega) (by omega) (by omega) (by omega), f12 a (by omega)]) g3⟩)
def e_one (n p : Nat) : Nat := (2 ^ n - 1) ^^^ 2 ^ p
theorem e_oneB : ∀ n, n ≤ 6 → ∀ p, p < n → e_one n p < 64 ∧ (((1 : Int32) <<< (nI n &&& 31)) - 1) ^^^ ((1 : Int32) <<< (nI p &&& 31)) = nI (e_one n p) ∧ ∀ q, q < n → e_one n p / 2 ^ q % 2 = if q = p then 0 else 1 := by decide +kernel
theorem p_sought : e_Pair (fun M K => w_X8_sought 0 M K) (fun M K => w_X9_sought 98 M K) := by
  intro M hI
  obtain ⟨D, w, hS⟩ := e_open hI
  have hD := e_scD hS
  have hN := e_scOk hS 100 (by decide)
  have hMC := e_scM hS
  obtain ⟨sn, sf, ss, hsC, hsM⟩ := e_seen hI
  obtain ⟨⟨h1, h2, h3, h4, h5, h6, h7⟩, hc, -⟩ := id hS
  show w_X8_sought 0 M _
  unfold w_X8_sought
  refine c_begin hS (fun M1 f1 hC1 hs1 => ?_)
  rintro _ rfl
  generalize hF : (fun c => e_asB (e_setA D (e_one (dN D) c)) sf ss sn 21 w 0) = F
  have hF2 : ∀ c, e_asB (e_setA D (e_one (dN D) c)) sf ss sn 21 w 0 = F c := fun c => by rw [← hF]
  rw [show (0 + 13 : Nat) = 13 from rfl, f1 13 (by omega), h4]
  have cl : ∀ (K : Int32 → ap_Mem → Prop) (m j p : Nat) (D1 : e_D) (w1 : e_W) (M2 : ap_Mem), p + j = dN D → (∀ d, e_setA D1 d = e_setA D d) → (∀ x, ¬ (76 ≤ x ∧ x ≤ 95) → M2 x = M x) → e_CC M2 D1 w1 → e_CStart M2 w → (∀ M', (∀ x, ¬ (76 ≤ x ∧ x ≤ 95) → M' x = M x) → K (nI (e_msk F (dN D))) M') → w_X8_sought_30 0 K (m + 1 + j) (((1 : Int32) <<< (nI (dN D) &&& 31)) - 1) (nI (e_msk F p)) (nI p) M2 := by
    intro K m j
    induction j with
    | zero =>
      intro p D1 w1 M2 hp hDD f2 hC hst h
      have : p = dN D := by omega
      subst this
      show w_X8_sought_30_s (w_X8_sought_30 0 K m) 0 _ _ (nI (dN D)) M2 K
      unfold w_X8_sought_30_s
      rw [show (0 + 13 : Nat) = 13 from rfl, f2 13 (by omega), h4, if_pos (by rw [n_le (by omega) (by omega)]; omega)]
      exact h M2 f2
    | succ j ih =>
      intro p D1 w1 M2 hp hDD f2 hC hst h
      have hpn : p < dN D := by omega
      obtain ⟨o1, o2, o3⟩ := e_oneB (dN D) h1 p hpn
      show w_X8_sought_30_s (w_X8_sought_30 0 K (m + 1 + j)) 0 _ _ (nI p) M2 K
      unfold w_X8_sought_30_s
      rw [show (0 + 13 : Nat) = 13 from rfl, f2 13 (by omega), h4, if_neg (by rw [n_le (by omega) (by omega)]; omega), show (0 + 77 : Nat) = 77 from rfl, o2]
      rintro _ rfl
      have hA := e_ccA (A := e_one (dN D) p) (M' := ap_mu M2 77 4 (nI (e_one (dN D) p))) hC (by simp (disch := omega) only [mu_s]) (by simp (disch := omega) only [mu_o]) (fun x hx => by simp (disch := omega) only [ap_mu_n])
      rw [hDD] at hA
      have f30 : ∀ x, ¬ (76 ≤ x ∧ x ≤ 95) → (ap_mu M2 77 4 (nI (e_one (dN D) p))) x = M x := fun x hx => by simp (disch := omega) only [ap_mu_n]; exact f2 x hx
      refine c_as hA (e_fCSt hst (fun a ha => by simp (disch := omega) only [ap_mu_n])) (e_okA hD o1) hN (e_scn hsC (fun a ha => f30 a (by omega))) (fun M4 w4 f4 h4' => ?_)
      rw [hF2 p]
      have nx := ih (p + 1) (e_setA D (e_one (dN D) p)) w4 M4 (by omega) (fun d => rfl) (fun x hx => by rw [f4 x (by omega) (by omega), f30 x hx]) h4' (e_fCSt hst (fun a ha => by rw [f4 a (by omega) (by omega)]; simp (disch := omega) only [ap_mu_n])) h
      have em : e_msk F (p + 1) = e_msk F p ||| (if F p = true then 2 ^ p else 0) := rfl
      rw [em] at nx
      cases hb : F p with
      | false =>
        rw [hb, if_neg (by decide), Nat.or_zero] at nx
        rw [if_pos (by decide)]
        unfold w_X8_sought_82
        rintro _ rfl
        rw [nI_1]
        exact nx
      | true =>
        rw [hb, if_pos rfl] at nx
        rw [if_neg (by decide)]
        rintro _ rfl
        unfold w_X8_sought_82
        rintro _ rfl
        rw [nI_1, x_shl p (by omega), x_or]
        exact nx
  have hcl := cl (fun r1 M1 => w_X9_sought 98 M1 (fun r2 M2 => r1 = r2 ∧ e_Inv M2)) (4095 - dN D) (dN D) 0 D w M1 (by omega) (fun _ => rfl) f1 hC1 hs1 (fun M2 f12 => ?_)
  · rw [show 4095 - dN D + 1 + dN D = 4096 by omega] at hcl
    exact hcl
  have e99 := f12 99 (by omega)
  -- the reference puts one after the other aside
  have aw : ∀ (kL : Int32 → Int32 → ap_Mem → Prop) (K : Int32 → ap_Mem → Prop) (M3 : ap_Mem) (x1 : Int32) (p : Nat), p < dN D → (∀ j, M3 99 j = M 99 j) → (∀ M', (∀ x, x ≠ 99 → M' x = M3 x) → (∀ q, q < dN D → M' 99 (24 + q) = nI (if q = p then 0 else 1)) → (∀ j, ¬ (24 ≤ j ∧ j < 30) → M' 99 j = M 99 j) → w_X9_areAsSeen 98 M' (fun r_3 M_4 => if r_3 = 0 then w_X9_sought_72 kL 98 (nI p) 0 x1 M_4 K else w_X9_sought_72 kL 98 (nI p) (1 <<< (nI p &&& 31)) x1 M_4 K)) → ∀ (m j q : Nat) (M4 : ap_Mem), q + j = dN D → (∀ x, x ≠ 99 → M4 x = M3 x) → (∀ i, i < q → M4 99 (24 + i) = nI (if i = p then 0 else 1)) → (∀ j, ¬ (24 ≤ j ∧ j < 30) → M4 99 j = M 99 j) → w_X9_sought_21 kL 98 K (m + 1 + j) x1 (nI p) (nI q) M4 := by
    intro kL K M3 x1 p hp g3 h m j
    induction j with
    | zero =>
      intro q M4 hq f4 a4 g4
      have : q = dN D := by omega
      subst this
      show w_X9_sought_21_s kL (w_X9_sought_21 kL 98 K m) 98 x1 (nI p) (nI (dN D)) M4 K
      unfold w_X9_sought_21_s
      rw [v_30, k_30, show (98 + 1 : Nat) = 99 from rfl, g4 30 (by omega), h3, if_pos (by rw [n_le (by omega) (by omega)]; omega)]
      exact ⟨trivial, h M4 f4 a4 g4⟩
    | succ j ih =>
      intro q M4 hq f4 a4 g4
      show w_X9_sought_21_s kL (w_X9_sought_21 kL 98 K (m + 1 + j)) 98 x1 (nI p) (nI q) M4 K
      unfold w_X9_sought_21_s
      rw [v_30, k_30, show (98 + 1 : Nat) = 99 from rfl, g4 30 (by omega), h3, if_neg (by rw [n_le (by omega) (by omega)]; omega), l_24, nI_add]
      refine ⟨trivial, ?_⟩
      have key : ∀ s0 : Int32, s0 = nI (if q = p then 0 else 1) → w_X9_sought_50 (w_X9_sought_21 kL 98 K (m + 1 + j)) 98 x1 (nI p) (nI q) s0 (nI (24 + q)) M4 K := by
        rintro _ rfl
        unfold w_X9_sought_50
        rw [n_vp (by omega), n_cl (by omega)]
        refine ⟨by omega, ?_⟩
        rintro _ rfl _ rfl
        rw [nI_1]
        refine ih (q + 1) _ (by omega) (fun x hx => by simp (disch := omega) only [ap_mu_n]; exact f4 x hx) (fun i hi => ?_) (fun j hj => by simp (disch := omega) only [mu_o]; exact g4 j hj)
        by_cases hiq : i = q
        · subst hiq
          simp (disch := omega) only [mu_s]
        · simp (disch := omega) only [mu_o]
          exact a4 i (by omega)
      by_cases hqp : q = p
      · rw [if_pos (by rw [hqp])]
        exact key 0 (by rw [if_pos hqp]; rfl)
      · rw [if_neg (by rw [n_eq (by omega) (by omega)]; exact hqp)]
        exact key 1 (by rw [if_neg hqp]; rfl)
  have mo : ∀ (K : Int32 → ap_Mem → Prop) (m j p : Nat) (M3 : ap_Mem), p + j = dN D → (∀ x, x ≠ 99 → x ≠ 101 → x ≠ 102 → x ≠ 103 → M3 x = M2 x) → (∀ j, M3 99 j = M 99 j) → (∀ M', (∀ x, x ≠ 99 → x ≠ 101 → x ≠ 102 → x ≠ 103 → M' x = M2 x) → (∀ j, M' 99 j = M 99 j) → K (nI (e_msk F (dN D))) M') → w_X9_sought_4 98 K (m + 1 + j) (nI (e_msk F p)) (nI p) M3 := by
    intro K m j
    induction j with
    | zero =>
      intro p M3 hp f3 g3 h
      have : p = dN D := by omega
      subst this
      show w_X9_sought_4_s (w_X9_sought_4 98 K m) 98 _ (nI (dN D)) M3 K
      unfold w_X9_sought_4_s
      rw [v_30, k_30, show (98 + 1 : Nat) = 99 from rfl, g3 30, h3, if_pos (by rw [n_le (by omega) (by omega)]; omega)]
      exact ⟨trivial, h M3 f3 g3⟩
    | succ j ih =>
      intro p M3 hp f3 g3 h
      have hpn : p < dN D := by omega
      obtain ⟨o1, o2, o3⟩ := e_oneB (dN D) h1 p hpn
      show w_X9_sought_4_s (w_X9_sought_4 98 K (m + 1 + j)) 98 _ (nI p) M3 K
      unfold w_X9_sought_4_s
      rw [v_30, k_30, show (98 + 1 : Nat) = 99 from rfl, g3 30, h3, if_neg (by rw [n_le (by omega) (by omega)]; omega)]
      refine ⟨trivial, ?_⟩
      refine m_keeps (fun M4 f4 g4 => ?_)
      have e4 : ∀ j, M4 99 j = M 99 j := fun j => by rw [f4 99 (by decide)]; exact g3 j
      have haw := aw (w_X9_sought_4 98 K (m + 1 + j)) K M4 (nI (e_msk F p)) p hpn e4 (fun M5 f5 a5 g5 => ?_) (4095 - dN D) (dN D) 0 M4 (by omega) (fun _ _ => rfl) (fun i hi => absurd hi (by omega)) (fun j _ => e4 j)
      · rw [show 4095 - dN D + 1 + dN D = 4096 by omega] at haw
        exact haw
      · refine m_are (D := e_setA D (e_one (dN D) p)) (w := w) (e_mcA (f := M 99) hMC h1 (fun q hq => by rw [a5 q hq, o3 q hq]) g5) (e_okA hD o1) hN (e_smn hsM (fun j hj => g5 j (by omega))) (fun M6 f6 g6 => ?_)
        rw [hF2 p]
        have nx := ih (p + 1) M6 (by omega) (fun x a b c d => by rw [f6 x a c d, f5 x a, f4 x b, f3 x a b c d]) (fun j => by
          rw [g6 j]
          split
          · rw [f5 101 (by decide), g4 j (by omega), g3 j]
          · rw [g5 j (by omega)]) h
        have em : e_msk F (p + 1) = e_msk F p ||| (if F p = true then 2 ^ p else 0) := rfl
        rw [em] at nx
        cases hb : F p with
        | false =>
          rw [hb, if_neg (by decide)] at nx
          rw [if_pos (by decide)]
          unfold w_X9_sought_72
          rintro _ rfl _ rfl
          rw [nI_1, l_0, x_or]
          exact nx
        | true =>
          rw [hb, if_pos rfl] at nx
          rw [if_neg (by decide)]
          unfold w_X9_sought_72
          rintro _ rfl _ rfl
          rw [nI_1, x_shl p (by omega), x_or]
          exact nx
  unfold w_X9_sought
  have hmo := mo (fun r2 M3 => nI (e_msk F (dN D)) = r2 ∧ e_Inv M3) (4095 - dN D) (dN D) 0 M2 (by omega) (fun _ _ _ _ _ => rfl) (fun j => by rw [e99]) (fun M3 f3 g3 => ⟨rfl, e_keep hI (fun a ha => by rw [f3 a (by omega) (by omega) (by omega) (by omega), f12 a (by omega)]) g3⟩)
  rw [show 4095 - dN D + 1 + dN D = 4096 by omega] at hmo
  exact hmo
