/-! told, of, on, pass -/
def e_mlN (l : Nat → Nat) : Nat → Nat
  | 0 => 0
  | i + 1 => e_mlN l i + (if 0 < l i then 1 else 0)
theorem e_mlL (l : Nat → Nat) : ∀ n, e_mlN l n ≤ n := by
  intro n
  induction n with
  | zero => exact Nat.le_refl _
  | succ n ih =>
    show e_mlN l n + _ ≤ n + 1
    split <;> omega
theorem c_many {q : Nat} {l : Nat → Nat} {M : ap_Mem} {K : Int32 → ap_Mem → Prop} (h : ∀ i, i < 16 → M (q + 1) i = nI (l i) ∧ l i < 2147483648) : w_X1_cellsLainOn q M K = K (nI (e_mlN l 16)) M := by
  have lp : ∀ (n j i : Nat), i + j = 16 → w_X1_cellsLainOn_4 q K (n + 1 + j) (nI (e_mlN l i)) (nI i) M = K (nI (e_mlN l 16)) M := by
    intro n j
    induction j with
    | zero =>
      intro i hi
      have : i = 16 := by omega
      subst this
      show w_X1_cellsLainOn_4_s (w_X1_cellsLainOn_4 q K n) q _ (nI 16) M K = _
      unfold w_X1_cellsLainOn_4_s
      rw [if_pos (by decide)]
    | succ j ih =>
      intro i hi
      show w_X1_cellsLainOn_4_s (w_X1_cellsLainOn_4 q K (n + 1 + j)) q _ (nI i) M K = _
      unfold w_X1_cellsLainOn_4_s
      obtain ⟨h1, h2⟩ := h i (by omega)
      have hi16 : i < 16 := by omega
      rw [if_neg (by rw [l_16, n_le (by decide) (by omega)]; omega), n_vp (by omega), n_cl (by omega), h1]
      simp only [hi16, true_and]
      have ih2 := ih (i + 1) (by omega)
      by_cases hl : 0 < l i
      · rw [if_neg (by rw [l_0, n_le (by omega) (by decide)]; omega)]
        unfold w_X1_cellsLainOn_25
        simp only [forall_eq, nI_1]
        rw [← ih2]
        show _ = w_X1_cellsLainOn_4 q K (n + 1 + j) (nI (e_mlN l i + (if 0 < l i then 1 else 0))) (nI (i + 1)) M
        rw [if_pos hl]
      · rw [if_pos (by rw [l_0, n_le (by omega) (by decide)]; omega)]
        unfold w_X1_cellsLainOn_25
        simp only [forall_eq, nI_1]
        rw [← ih2]
        show _ = w_X1_cellsLainOn_4 q K (n + 1 + j) (nI (e_mlN l i + (if 0 < l i then 1 else 0))) (nI (i + 1)) M
        rw [if_neg hl, l_0, nI_add]
  unfold w_X1_cellsLainOn
  exact lp 4079 16 0 rfl
theorem m_many {l : Nat → Nat} {M : ap_Mem} {K : Int32 → ap_Mem → Prop} (h : ∀ i, i < 16 → M 99 (2 + i) = nI (l i) ∧ l i < 2147483648) : w_X9_manyLain 98 M K = K (nI (e_mlN l 16)) M := by
  have lp : ∀ (n j i : Nat), i + j = 16 → w_X9_manyLain_4 98 K (n + 1 + j) (nI (e_mlN l i)) (nI i) M = K (nI (e_mlN l 16)) M := by
    intro n j
    induction j with
    | zero =>
      intro i hi
      have : i = 16 := by omega
      subst this
      show w_X9_manyLain_4_s (w_X9_manyLain_4 98 K n) 98 _ (nI 16) M K = _
      unfold w_X9_manyLain_4_s
      rw [if_pos (by decide)]
    | succ j ih =>
      intro i hi
      show w_X9_manyLain_4_s (w_X9_manyLain_4 98 K (n + 1 + j)) 98 _ (nI i) M K = _
      unfold w_X9_manyLain_4_s
      obtain ⟨h1, h2⟩ := h i (by omega)
      have hi16 : 2 + i < 936 := by omega
      rw [if_neg (by rw [l_16, n_le (by decide) (by omega)]; omega), l_2, nI_add, n_vp (by omega), n_cl (by omega), show (98 + 1 : Nat) = 99 from rfl, h1]
      simp only [hi16, true_and]
      have ih2 := ih (i + 1) (by omega)
      by_cases hl : 0 < l i
      · rw [if_neg (by rw [l_0, n_le (by omega) (by decide)]; omega)]
        unfold w_X9_manyLain_27
        simp only [forall_eq, nI_1]
        rw [← ih2]
        show _ = w_X9_manyLain_4 98 K (n + 1 + j) (nI (e_mlN l i + (if 0 < l i then 1 else 0))) (nI (i + 1)) M
        rw [if_pos hl]
      · rw [if_pos (by rw [l_0, n_le (by omega) (by decide)]; omega)]
        unfold w_X9_manyLain_27
        simp only [forall_eq, nI_1]
        rw [← ih2]
        show _ = w_X9_manyLain_4 98 K (n + 1 + j) (nI (e_mlN l i + (if 0 < l i then 1 else 0))) (nI (i + 1)) M
        rw [if_neg hl, l_0, nI_add]
  unfold w_X9_manyLain
  exact lp 4079 16 0 rfl
theorem c_lur {D : e_D} {w : e_W} {p c : Nat} {M : ap_Mem} {K : Int32 → ap_Mem → Prop} (hC : e_CC M D w) (hD : e_okD D) (hw : e_okW w) (hp : p < dN D) (hc : c < 16) (hK : ∀ M', (∀ x, ¬ (91 ≤ x ∧ x ≤ 93) → M' x = M x) → K (e_lurD D w.1 p c) M') : w_X2_lure 76 (nI p) (nI c) M K := by
  have hph := e_phL D w
  have hn := hD.1
  obtain ⟨⟨f1, f2, f3, f4⟩, hcar, htown, hcach⟩ := id hC
  obtain ⟨g1, g2, g3⟩ := f3 p hp
  obtain ⟨q1, q2, q3⟩ := hD.2.2.1 p hp
  unfold w_X2_lure
  rw [c_phase hC hw]
  refine c_weigh (q := 86) (o := 77) (by omega) (by omega) q1 q2 q3 hph htown g1 g2 g3 (fun M2 x2 l2 fr2 => ?_)
  rw [n_vp (by omega), n_cl (by omega), show (76 + 16 : Nat) = 86 + 6 from rfl, l2 c hc]
  refine ⟨hc, ?_⟩
  have := hK M2 (fun x hx => x2 x (by omega) (by omega) (by omega))
  rw [← e_lurP] at this
  exact this
theorem e_fin {M M1 M2 : ap_Mem} (h : e_Inv M) (h1 : ∀ x, ¬ (76 ≤ x ∧ x ≤ 95) → M1 x = M x) (h2 : ∀ x, x ≠ 102 → x ≠ 103 → M2 x = M1 x) : e_Inv M2 := e_same h (fun a ha => by rw [h2 a (by omega) (by omega), h1 a (by omega)])
theorem i_sub (x : Int32) (a : Nat) {c : Nat} (h : x - nI a = nI c) : x = nI (a + c) := by
  have : x = nI a + nI c := by rw [← h]; grind
  rw [this, nI_add]
theorem p_told (x : Int32) : e_Pair (fun M K => w_X8_told 0 x M K) (fun M K => w_X9_told 98 x M K) := by
  intro M hI
  obtain ⟨D, w, hS⟩ := e_open hI
  have hD := e_scD hS
  have hN := e_scOk hS 100 (by decide)
  have hNb := e_scN hS
  have hMC := e_scM hS
  obtain ⟨hf, ⟨c1, c2, c3, c4, c5, c6, c7⟩, ht, -⟩ := id hS
  have hl : ∀ i, i < 16 → M 99 (2 + i) = nI (w.2.2 i) ∧ w.2.2 i < 2147483648 := fun i hi => ⟨hMC.2.2.2.2.2.2 i hi, by have := hNb.2.2 i hi; omega⟩
  have hl2 : ∀ i, i < 16 → M (18 + 1) i = nI (w.2.2 i) ∧ w.2.2 i < 2147483648 := fun i hi => by
    obtain ⟨k, a1, a2, a3⟩ := c7 i hi
    have := (hl i hi).1
    rw [a2] at this
    exact ⟨by rw [a3, this], (hl i hi).2⟩
  show w_X8_told 0 x M _
  unfold w_X8_told
  have mm : ∀ K M', w_X9_told 98 x M' K = w_X9_told 98 x M' K := fun _ _ => rfl
  by_cases h0 : x = 0
  · rw [if_pos h0]
    show w_X9_told 98 x M _
    unfold w_X9_told
    rw [if_pos h0, v_0, k_0]
    exact ⟨trivial, by rw [show (0 + 18 : Nat) = 18 from rfl, c6]; exact c5.symm, hI⟩
  rw [if_neg h0]
  by_cases h1 : x = 1
  · rw [if_pos h1]
    show w_X9_told 98 x M _
    unfold w_X9_told
    rw [if_neg h0, if_pos h1, m_tellsB hMC.1]
    exact ⟨ht.2.2.2.2.2.2.2.1, hI⟩
  rw [if_neg h1]
  by_cases h2 : x = 2
  · rw [if_pos h2]
    show w_X9_told 98 x M _
    unfold w_X9_told
    rw [if_neg h0, if_neg h1, if_pos h2, v_1, k_1]
    exact ⟨trivial, by rw [show (0 + 18 : Nat) = 18 from rfl, c4]; exact c3.symm, hI⟩
  rw [if_neg h2]
  by_cases h3 : x = 3
  · rw [if_pos h3, c_many (q := 18) hl2]
    show w_X9_told 98 x M _
    unfold w_X9_told
    rw [if_neg h0, if_neg h1, if_neg h2, if_pos h3, m_many hl]
    exact ⟨rfl, hI⟩
  rw [if_neg h3]
  rcases e_ix (x - 10) (n := 16) (by decide) with h | ⟨c, hc, hx⟩
  · rw [c_isCell0 h, if_pos rfl]
    rcases e_ix (x - 30) (n := 16) (by decide) with g | ⟨c, hc, hx⟩
    · rw [c_isCell0 g, if_pos rfl]
      show w_X9_told 98 x M _
      unfold w_X9_told
      rw [if_neg h0, if_neg h1, if_neg h2, if_neg h3, m_isCell0 h, if_pos rfl, m_isCell0 g, if_pos rfl]
      exact ⟨rfl, hI⟩
    · rw [hx, c_isCell1 hc, if_neg (by decide), n_vp (by omega), n_cl (by omega)]
      refine ⟨hc, ?_⟩
      show w_X9_told 98 x M _
      unfold w_X9_told
      rw [if_neg h0, if_neg h1, if_neg h2, if_neg h3, m_isCell0 h, if_pos rfl, hx, m_isCell1 hc, if_neg (by decide)]
      have e : 2 + x - 30 = nI (2 + c) := by
        have : 2 + x - 30 = nI 2 + (x - 30) := by rw [← l_2]; grind
        rw [this, hx, nI_add]
      rw [e, n_vp (by omega), n_cl (by omega)]
      refine ⟨by omega, ?_, hI⟩
      rw [show (98 + 1 : Nat) = 99 from rfl, (hl c hc).1]
      exact (hl2 c hc).1
  · rw [hx, c_isCell1 hc, if_neg (by decide)]
    refine c_begin hS (fun M1 f1 hC1 hs1 => ?_)
    refine c_reckon hC1 hD (e_okNW hN) (fun M2 f2 hC2 hr2 => ?_)
    refine c_draw hC2 hD (e_okNW hN) hc hr2 ?_
    have f12 : ∀ x, ¬ (76 ≤ x ∧ x ≤ 95) → M2 x = M x := fun x hx => by rw [f2 x (by omega), f1 x hx]
    show w_X9_told 98 x M2 _
    unfold w_X9_told
    rw [if_neg h0, if_neg h1, if_neg h2, if_neg h3, hx, m_isCell1 hc, if_neg (by decide)]
    exact m_draw (by rw [f12 99 (by omega)]; exact hMC) hD (e_okNW hN) hc (fun M3 f3 => ⟨rfl, e_fin hI f12 f3⟩)
theorem p_of (x y : Int32) : e_Pair (fun M K => w_X8_of 0 x y M K) (fun M K => w_X9_of 98 x y M K) := by
  intro M hI
  obtain ⟨D, w, hS⟩ := e_open hI
  have hD := e_scD hS
  have hN := e_scOk hS 100 (by decide)
  have hMC := e_scM hS
  obtain ⟨⟨h1, h2, h3, h4, h5, h6, h7⟩, hc, ht, -⟩ := id hS
  show w_X8_of 0 x y M _
  unfold w_X8_of
  rcases e_ix x (n := dN D) (by omega) with h | ⟨p, hp, rfl⟩
  · rw [c_has0 (q := 0 + 13) h4 h, if_pos rfl]
    show w_X9_of 98 x y M _
    unfold w_X9_of
    rw [m_isPerson0 (q := 98) h3 (by omega) h, if_pos rfl]
    exact ⟨rfl, hI⟩
  rw [c_has1 (q := 0 + 13) h4 (by omega) hp, if_neg (by decide)]
  obtain ⟨⟨k, k1, k2, k3⟩, ⟨v, v1, v2, v3⟩, ⟨a, a1, a2, a3⟩, b⟩ := h6 p hp
  have per : ∀ M' K, M' 99 = M 99 → w_X9_isPerson 98 (nI p) M' K = K 1 M' := fun M' K e => m_isPerson1 (q := 98) (by show M' 99 30 = _; rw [e]; exact h3) (by omega) hp
  by_cases y0 : y = 0
  · rw [if_pos y0, n_vp (by omega), n_cl (by omega)]
    refine ⟨by omega, ?_⟩
    show w_X9_of 98 (nI p) y M _
    unfold w_X9_of
    rw [per _ _ rfl, if_neg (by decide), if_pos y0, l_38, nI_add, n_vp (by omega), n_cl (by omega)]
    exact ⟨by omega, by rw [show (0 + 14 : Nat) = 13 + 1 from rfl, k3]; exact k2.symm, hI⟩
  rw [if_neg y0]
  by_cases y1 : y = 1
  · rw [if_pos y1, n_vp (by omega), n_cl (by omega)]
    refine ⟨by omega, ?_⟩
    show w_X9_of 98 (nI p) y M _
    unfold w_X9_of
    rw [per _ _ rfl, if_neg (by decide), if_neg y0, if_pos y1, l_44, nI_add, n_vp (by omega), n_cl (by omega)]
    exact ⟨by omega, by rw [show (0 + 15 : Nat) = 13 + 2 from rfl, v3]; exact v2.symm, hI⟩
  rw [if_neg y1]
  by_cases y2 : y = 2
  · rw [if_pos y2, n_vp (by omega), n_cl (by omega)]
    refine ⟨by omega, ?_⟩
    show w_X9_of 98 (nI p) y M _
    unfold w_X9_of
    rw [per _ _ rfl, if_neg (by decide), if_neg y0, if_neg y1, if_pos y2, l_18, nI_add, n_vp (by omega), n_cl (by omega)]
    exact ⟨by omega, by rw [show (0 + 16 : Nat) = 13 + 3 from rfl, a3]; exact a2.symm, hI⟩
  rw [if_neg y2]
  by_cases y3 : y = 3
  · rw [if_pos y3, show (0 + 13 : Nat) = 13 from rfl, c_isAway h5 h2 (by omega)]
    have mo : ∀ r : Int32, r = nI (dA D / 2 ^ p % 2) → w_X9_of 98 (nI p) y M (fun r2 M2 => r = r2 ∧ e_Inv M2) := by
      rintro _ rfl
      unfold w_X9_of
      rw [per _ _ rfl, if_neg (by decide), if_neg y0, if_neg y1, if_neg y2, if_pos y3, l_24, nI_add, n_vp (by omega), n_cl (by omega)]
      exact ⟨by omega, b.symm, hI⟩
    rcases e_b2 (dA D) p with e | e
    · rw [e, if_pos (by decide)]
      exact mo 0 (by rw [e]; rfl)
    · rw [e, if_neg (by decide)]
      exact mo 1 (by rw [e]; rfl)
  rw [if_neg y3]
  rcases e_ix (y - 10) (n := 16) (by decide) with h | ⟨c, hc, hx⟩
  · rw [c_isCell0 h, if_pos rfl]
    rcases e_ix (y - 30) (n := 16) (by decide) with g | ⟨c, hc, hx⟩
    · rw [c_isCell0 g, if_pos rfl]
      show w_X9_of 98 (nI p) y M _
      unfold w_X9_of
      rw [per _ _ rfl, if_neg (by decide), if_neg y0, if_neg y1, if_neg y2, if_neg y3, m_isCell0 h, if_pos rfl, m_isCell0 g, if_pos rfl]
      exact ⟨rfl, hI⟩
    · rw [hx, c_isCell1 hc, if_neg (by decide)]
      refine c_begin hS (fun M1 f1 hC1 hs1 => ?_)
      refine c_reckon hC1 hD (e_okNW hN) (fun M2 f2 hC2 hr2 => ?_)
      refine c_tug hC2 hD (e_okNW hN) hp hc (hr2 p hp) ?_
      have f12 : ∀ x, ¬ (76 ≤ x ∧ x ≤ 95) → M2 x = M x := fun x hx => by rw [f2 x (by omega), f1 x hx]
      show w_X9_of 98 (nI p) y M2 _
      unfold w_X9_of
      rw [per _ _ (f12 99 (by omega)), if_neg (by decide), if_neg y0, if_neg y1, if_neg y2, if_neg y3, m_isCell0 h, if_pos rfl, hx, m_isCell1 hc, if_neg (by decide)]
      exact m_tug (by rw [f12 99 (by omega)]; exact hMC) hD (e_okNW hN) hp hc (fun M3 f3 => ⟨rfl, e_fin hI f12 f3⟩)
  · rw [hx, c_isCell1 hc, if_neg (by decide)]
    refine c_begin hS (fun M1 f1 hC1 hs1 => ?_)
    refine c_lur hC1 hD (e_okNW hN) hp hc (fun M2 f2 => ?_)
    have f12 : ∀ x, ¬ (76 ≤ x ∧ x ≤ 95) → M2 x = M x := fun x hx => by rw [f2 x (by omega), f1 x hx]
    show w_X9_of 98 (nI p) y M2 _
    unfold w_X9_of
    rw [per _ _ (f12 99 (by omega)), if_neg (by decide), if_neg y0, if_neg y1, if_neg y2, if_neg y3, hx, m_isCell1 hc, if_neg (by decide)]
    exact m_lur (by rw [f12 99 (by omega)]; exact hMC) hD (e_okNW hN) hp hc (fun M3 f3 => ⟨rfl, e_fin hI f12 f3⟩)
