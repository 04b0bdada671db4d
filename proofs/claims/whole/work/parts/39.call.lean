/-! call -/
def e_caC (D : e_D) (w : e_W) (g p : Nat) : Nat → Int32 × Nat → Int32 × Nat
  | 0, s => s
  | c + 1, s => match e_ct (e_setP D p c) g (e_caC D w g p c s).2 w 0 with | some k => (nI (100 * p + c), k) | none => e_caC D w g p c s
def e_caP (D : e_D) (w : e_W) (g a0 : Nat) : Nat → Int32 × Nat
  | 0 => (-5, a0)
  | p + 1 => if dA D / 2 ^ p % 2 = 1 then e_caP D w g a0 p else e_caC D w g p 16 (e_caP D w g a0 p)
theorem e_caCB {D : e_D} {w : e_W} {g p : Nat} {s : Int32 × Nat} (hs : s.2 ≤ 31) : ∀ c, (e_caC D w g p c s).2 ≤ 31 := by
  intro c
  induction c with
  | zero => exact hs
  | succ c ih =>
    simp only [e_caC]
    cases h : e_ct (e_setP D p c) g (e_caC D w g p c s).2 w 0 with
    | none => exact ih
    | some k =>
      have := e_ctB _ _ _ _ h
      show k ≤ 31
      omega
theorem e_caPB {D : e_D} {w : e_W} {g a0 : Nat} (h0 : a0 ≤ 31) : ∀ p, (e_caP D w g a0 p).2 ≤ 31 := by
  intro p
  induction p with
  | zero => exact h0
  | succ p ih =>
    simp only [e_caP]
    split
    · exact ih
    · exact e_caCB ih 16
theorem e_caN {D : e_D} {w : e_W} {g p c : Nat} {s : Int32 × Nat} (hs : s.2 ≤ 31) : e_caC D w g p (c + 1) s = if (∃ k, e_ct (e_setP D p c) g 31 w 0 = some k ∧ k < (e_caC D w g p c s).2) then (nI (100 * p + c), (e_ct (e_setP D p c) g 31 w 0).getD 0) else e_caC D w g p c s := by
  have h31 := e_caCB (D := D) (w := w) (g := g) (p := p) hs c
  have hm := e_ctM (D := e_setP D p c) (cell := g) (e_caC D w g p c s).2 (31 - (e_caC D w g p c s).2) w 0
  rw [show (e_caC D w g p c s).2 + (31 - (e_caC D w g p c s).2) = 31 by omega] at hm
  simp only [e_caC]
  rw [hm]
  cases e_ct (e_setP D p c) g 31 w 0 with
  | none => rw [if_neg (by rintro ⟨k, hk, -⟩; cases hk)]
  | some k =>
    show (match (if k < 0 + (e_caC D w g p c s).2 then some k else none) with | some k => (nI (100 * p + c), k) | none => e_caC D w g p c s) = _
    by_cases hk : k < (e_caC D w g p c s).2
    · rw [if_pos (by omega), if_pos ⟨k, rfl, hk⟩]
      rfl
    · rw [if_neg (by omega), if_neg (by rintro ⟨k2, h2, h3⟩; cases h2; exact hk h3)]
theorem e_setPid {D : e_D} {p : Nat} : e_setP D p (dP D p) = D := by
  unfold e_setP
  have : (fun q => if q = p then dP D p else D.2.2.2.2.2.1 q) = D.2.2.2.2.2.1 := by
    funext q
    by_cases h : q = p
    · rw [if_pos h, h]
    · rw [if_neg h]
  rw [this]
theorem p_call (x : Int32) : e_Pair (fun M K => w_X8_call 0 x M K) (fun M K => w_X9_call 98 x M K) := by
  intro M hI
  obtain ⟨D, w, hS⟩ := e_open hI
  have hD := e_scD hS
  have hN := e_scOk hS 100 (by decide)
  have hMC := e_scM hS
  obtain ⟨⟨h1, h2, h3, h4, h5, h6, h7⟩, hc, -, -, -, -, dp, -⟩ := id hS
  show w_X8_call 0 x M _
  unfold w_X8_call
  rcases e_ix x (n := 16) (by decide) with h | ⟨g, hg, rfl⟩
  · rw [c_isCell0 h, if_pos rfl]
    show w_X9_call 98 x M _
    unfold w_X9_call
    rw [m_isCell0 h, if_pos rfl]
    exact ⟨rfl, hI⟩
  rw [c_isCell1 hg, if_neg (by decide)]
  refine c_begin hS (fun M1 f1 hC1 hs1 => ?_)
  refine c_comesTo (n := 31) hD (by decide) hg hC1 (e_okNM hN (by decide)) (fun M2 w2 f2 hC2 => ?_)
  have f20 : ∀ x, ¬ (76 ≤ x ∧ x ≤ 95) → M2 x = M x := fun x hx => by rw [f2 x (by omega) (by omega), f1 x hx]
  have hs2 : e_CStart M2 w := e_fCSt hs1 (fun a ha => f2 a (by omega) (by omega))
  have m16 : ∀ p, p < dN D → M 16 p = nI (dP D p) := fun p hp => by
    obtain ⟨-, -, ⟨a, a1, a2, a3⟩, -⟩ := h6 p hp
    rw [dp]
    show M (13 + 3) p = nI (M 99 (18 + p)).toNatClampNeg
    rw [a3, a2, n_cl (by omega)]
  generalize ha0 : (e_ct D g 31 w 0).getD 31 = a0
  have ha31 : a0 ≤ 31 := by
    rw [← ha0]
    cases h : e_ct D g 31 w 0 with
    | none => exact Nat.le_refl 31
    | some k => have := e_ctB _ _ _ _ h; show k ≤ 31; omega
  have hvb : e_vb a0 = e_bo (e_ct D g 31 w 0) := by
    rw [← ha0]
    cases h : e_ct D g 31 w 0 with
    | none => rfl
    | some k => have := e_ctB _ _ _ _ h; show (if k = 31 then 1000000000 else nI k) = nI k; rw [if_neg (by omega)]
  have cl1 : ∀ (kL : Int32 → Int32 → Int32 → Int32 → ap_Mem → Prop) (K : Int32 → ap_Mem → Prop) (p : Nat) (s : Int32 × Nat), p < dN D → s.2 ≤ 31 → ¬ dA D / 2 ^ p % 2 = 1 → (∀ M' w', (∀ x, ¬ (76 ≤ x ∧ x ≤ 95) → M' x = M x) → e_CC M' D w' → e_CStart M' w → kL (nI g) (nI (e_caC D w g p 16 s).2) (e_caC D w g p 16 s).1 (nI (p + 1)) M') → ∀ (m j c : Nat) (D1 : e_D) (w1 : e_W) (M3 : ap_Mem), c + j = 16 → (∀ d, e_setP D1 p d = e_setP D p d) → (∀ x, ¬ (76 ≤ x ∧ x ≤ 95) → M3 x = M x) → e_CC M3 D1 w1 → e_CStart M3 w → w_X8_call_67 kL 0 K (m + 1 + j) (nI g) (nI (e_caC D w g p c s).2) (e_caC D w g p c s).1 (nI p) (nI c) M3 := by
    intro kL K p s hp hs hA hk m j
    induction j with
    | zero =>
      intro c D1 w1 M3 hc hDD f3 hC3 hs3
      have : c = 16 := by omega
      subst this
      show w_X8_call_67_s kL (w_X8_call_67 kL 0 K m) 0 (nI g) _ _ (nI p) (nI 16) M3 K
      unfold w_X8_call_67_s
      rw [if_pos (by decide)]
      unfold w_X8_call_144
      rw [n_vp (by omega), n_cl (by omega), show (0 + 16 : Nat) = 16 from rfl, f3 16 (by omega), m16 p hp]
      refine ⟨by omega, ?_⟩
      refine c_put hC3 (by omega) (fun M4 f4 h4 => ?_)
      rw [hDD, e_setPid] at h4
      rintro _ rfl
      rw [nI_1]
      exact hk M4 w1 (fun x hx => by rw [f4 x (by omega) (by omega), f3 x hx]) h4 (e_fCSt hs3 (fun a ha => f4 a (by omega) (by omega)))
    | succ j ih =>
      intro c D1 w1 M3 hc hDD f3 hC3 hs3
      have hc16 : c < 16 := by omega
      show w_X8_call_67_s kL (w_X8_call_67 kL 0 K (m + 1 + j)) 0 (nI g) _ _ (nI p) (nI c) M3 K
      unfold w_X8_call_67_s
      rw [if_neg (by rw [l_16, n_le (by decide) (by omega)]; omega), show (0 + 13 : Nat) = 13 from rfl, c_isAway (by rw [f3 13 (by omega)]; exact h5) h2 (by omega)]
      have hA0 : dA D / 2 ^ p % 2 = 0 := by omega
      rw [hA0, if_pos (by decide)]
      refine c_again hC3 hs3 (fun M4 f4 h4 => ?_)
      refine c_put h4 (by omega) (fun M5 f5 h5' => ?_)
      rw [hDD c] at h5'
      have h31 := e_caCB (D := D) (w := w) (g := g) (p := p) hs c
      refine c_comesTo (e_okPD hD hc16) (by omega) hg h5' (e_okNM hN (by omega)) (fun M6 w6 f6 h6' => ?_)
      have f60 : ∀ x, ¬ (76 ≤ x ∧ x ≤ 95) → M6 x = M x := fun x hx => by rw [f6 x (by omega) (by omega), f5 x (by omega) (by omega), f4 x (by omega), f3 x hx]
      have hs6 : e_CStart M6 w := e_fCSt hs3 (fun a ha => by rw [f6 a (by omega) (by omega), f5 a (by omega) (by omega), f4 a (by omega)])
      have nx := ih (c + 1) (e_setP D p c) w6 M6 (by omega) (fun d => e_setPP D p c d) f60 h6' hs6
      simp only [e_caC] at nx
      cases hct : e_ct (e_setP D p c) g (e_caC D w g p c s).2 w 0 with
      | none =>
        rw [hct] at nx
        show if (-5 : Int32) < 0 then _ else _
        rw [if_pos (by decide)]
        unfold w_X8_call_138
        rintro _ rfl
        rw [nI_1]
        exact nx
      | some k =>
        rw [hct] at nx
        have hk := e_ctB _ _ _ _ hct
        show if nI k < 0 then _ else _
        rw [if_neg (by rw [l_0]; exact n_neg (by omega))]
        rintro _ rfl
        unfold w_X8_call_138
        rintro _ rfl
        rw [nI_1, l_100, pk_mul, nI_add]
        exact nx
  have cl2 : ∀ (K : Int32 → ap_Mem → Prop), (∀ M', (∀ x, ¬ (76 ≤ x ∧ x ≤ 95) → M' x = M x) → K (e_caP D w g a0 (dN D)).1 M') → ∀ (m j p : Nat) (w1 : e_W) (M3 : ap_Mem), p + j = dN D → (∀ x, ¬ (76 ≤ x ∧ x ≤ 95) → M3 x = M x) → e_CC M3 D w1 → e_CStart M3 w → w_X8_call_49 0 K (m + 1 + j) (nI g) (nI (e_caP D w g a0 p).2) (e_caP D w g a0 p).1 (nI p) M3 := by
    intro K hk m j
    induction j with
    | zero =>
      intro p w1 M3 hp f3 hC3 hs3
      have : p = dN D := by omega
      subst this
      show w_X8_call_49_s (w_X8_call_49 0 K m) 0 (nI g) _ _ (nI (dN D)) M3 K
      unfold w_X8_call_49_s
      rw [show (0 + 13 : Nat) = 13 from rfl, f3 13 (by omega), h4, if_pos (by rw [n_le (by omega) (by omega)]; omega)]
      exact hk M3 f3
    | succ j ih =>
      intro p w1 M3 hp f3 hC3 hs3
      have hpn : p < dN D := by omega
      show w_X8_call_49_s (w_X8_call_49 0 K (m + 1 + j)) 0 (nI g) _ _ (nI p) M3 K
      unfold w_X8_call_49_s
      rw [show (0 + 13 : Nat) = 13 from rfl, f3 13 (by omega), h4, if_neg (by rw [n_le (by omega) (by omega)]; omega)]
      by_cases hA : dA D / 2 ^ p % 2 = 1
      · show w_X8_call_67_s (w_X8_call_49 0 K (m + 1 + j)) (w_X8_call_67 (w_X8_call_49 0 K (m + 1 + j)) 0 K 4095) 0 (nI g) _ _ (nI p) (nI 0) M3 K
        unfold w_X8_call_67_s
        rw [if_neg (by decide), show (0 + 13 : Nat) = 13 from rfl, c_isAway (by rw [f3 13 (by omega)]; exact h5) h2 (by omega), hA, if_neg (by decide)]
        unfold w_X8_call_144
        rw [n_vp (by omega), n_cl (by omega), show (0 + 16 : Nat) = 16 from rfl, f3 16 (by omega), m16 p hpn]
        refine ⟨by omega, ?_⟩
        refine c_put hC3 (by omega) (fun M4 f4 h4' => ?_)
        rw [e_setPid] at h4'
        rintro _ rfl
        rw [nI_1]
        have nx := ih (p + 1) w1 M4 (by omega) (fun x hx => by rw [f4 x (by omega) (by omega), f3 x hx]) h4' (e_fCSt hs3 (fun a ha => f4 a (by omega) (by omega)))
        simp only [e_caP, if_pos hA] at nx
        exact nx
      · refine cl1 (w_X8_call_49 0 K (m + 1 + j)) K p (e_caP D w g a0 p) hpn (e_caPB ha31 p) hA (fun M4 w4 f4 h4' hs4 => ?_) 4079 16 0 D w1 M3 rfl (fun _ => rfl) f3 hC3 hs3
        have nx := ih (p + 1) w4 M4 (by omega) f4 h4' hs4
        simp only [e_caP, if_neg hA] at nx
        exact nx
  have hcl : w_X8_call_41 0 (nI g) (nI a0) M2 (fun r1 M1 => w_X9_call 98 (nI g) M1 (fun r2 M2 => r1 = r2 ∧ e_Inv M2)) := by
    unfold w_X8_call_41
    have := cl2 (fun r1 M1 => w_X9_call 98 (nI g) M1 (fun r2 M2 => r1 = r2 ∧ e_Inv M2)) (fun M3 f12 => ?_) (4095 - dN D) (dN D) 0 w2 M2 (by omega) f20 hC2 hs2
    · rw [show 4095 - dN D + 1 + dN D = 4096 by omega] at this
      exact this
    have e99 := f12 99 (by omega)
    unfold w_X9_call
    rw [m_isCell1 hg, if_neg (by decide)]
    refine m_keeps (fun M4 f4 g4 => ?_)
    have e4 : M4 99 = M 99 := by rw [f4 99 (by decide), e99]
    refine m_stepsTo (n := 31) hD (by decide) hg (by rw [e4]; exact hMC) (e_okNM hN (by decide)) (fun M5 f5 g5 => ?_) 30 (by decide)
    show w_X9_call_27 98 _ 4096 (nI g) (e_bo (e_ct D g 31 w 0)) (-5) 0 M5
    rw [← hvb]
    have f50 : ∀ x, x ≠ 99 → x ≠ 101 → x ≠ 102 → x ≠ 103 → M5 x = M3 x := fun x a b c d => by rw [f5 x a c d, f4 x b]
    have g50 : ∀ j, M5 99 j = M 99 j := fun j => by
      rw [g5 j]
      split
      · rw [g4 j (by omega), e99]
      · rw [e4]
    have mo1 : ∀ (kL : Int32 → Int32 → Int32 → Int32 → ap_Mem → Prop) (K : Int32 → ap_Mem → Prop) (p : Nat) (s : Int32 × Nat), p < dN D → s.2 ≤ 31 → (∀ M', (∀ x, x ≠ 99 → x ≠ 101 → x ≠ 102 → x ≠ 103 → M' x = M3 x) → (∀ j, M' 99 j = M 99 j) → kL (nI g) (e_vb (if dA D / 2 ^ p % 2 = 1 then s else e_caC D w g p 16 s).2) (if dA D / 2 ^ p % 2 = 1 then s else e_caC D w g p 16 s).1 (nI (p + 1)) M') → ∀ (m j c : Nat) (M6 : ap_Mem), c + j = 16 → (∀ x, x ≠ 99 → x ≠ 101 → x ≠ 102 → x ≠ 103 → M6 x = M3 x) → (∀ j, M6 99 j = M 99 j) → w_X9_call_42 kL 98 K (m + 1 + j) (nI g) (e_vb (if dA D / 2 ^ p % 2 = 1 then s else e_caC D w g p c s).2) (if dA D / 2 ^ p % 2 = 1 then s else e_caC D w g p c s).1 (nI p) (nI c) M6 := by
      intro kL K p s hp hs hk m j
      induction j with
      | zero =>
        intro c M6 hc f6 g6
        have : c = 16 := by omega
        subst this
        show w_X9_call_42_s kL (w_X9_call_42 kL 98 K m) 98 (nI g) _ _ (nI p) (nI 16) M6 K
        unfold w_X9_call_42_s
        rw [if_pos (by decide)]
        rintro _ rfl
        rw [nI_1]
        exact hk M6 f6 g6
      | succ j ih =>
        intro c M6 hc f6 g6
        have hc16 : c < 16 := by omega
        show w_X9_call_42_s kL (w_X9_call_42 kL 98 K (m + 1 + j)) 98 (nI g) _ _ (nI p) (nI c) M6 K
        unfold w_X9_call_42_s
        rw [if_neg (by rw [l_16, n_le (by decide) (by omega)]; omega)]
        refine m_keeps (fun M7 f7 g7 => ?_)
        have e7 : M7 99 = M 99 := by rw [f7 99 (by decide)]; exact funext g6
        rw [l_24, l_18, nI_add, nI_add, n_vp (by omega), n_vp (by omega), n_cl (by omega), n_cl (by omega), show (98 + 1 : Nat) = 99 from rfl, e7, (hMC.2.2.2.2.1 p hp).2.2.2]
        refine ⟨by omega, ?_⟩
        rcases e_b2 (dA D) p with hA | hA
        · rw [hA, if_pos (by decide)]
          refine ⟨by omega, ?_⟩
          rintro _ rfl
          have hA1 : ¬ dA D / 2 ^ p % 2 = 1 := by omega
          simp only [hA1, if_false] at ih ⊢
          simp only [show ¬ (0 : Nat) = 1 by decide, if_false]
          have h31 := e_caCB (D := D) (w := w) (g := g) (p := p) hs c
          refine m_stepsTo (n := 31) (e_okPD hD hc16) (by decide) hg (e_mcP (f := M 99) hMC h1 hp (by simp (disch := omega) only [mu_s]) (fun j hj => by simp (disch := omega) only [mu_o]; rw [e7])) (e_okNM hN (by decide)) (fun M8 f8 g8 => ?_) 30 (by decide)
          have ho : ∀ k, e_ct (e_setP D p c) g 31 w 0 = some k → k < 31 := fun k hk => by have := e_ctB _ _ _ _ hk; omega
          have nx := ih (c + 1) M8 (by omega) (fun x a b c d => by
            rw [f8 x a c d]
            simp (disch := omega) only [ap_mu_n]
            rw [f7 x b, f6 x a b c d]) (fun j => by
            rw [g8 j]
            split
            · simp (disch := omega) only [ap_mu_n]
              rw [g7 j (by omega), g6 j]
            · simp (disch := omega) only [mu_o]
              rw [e7])
          rw [e_caN hs] at nx
          have le := e_less h31 (e_ct (e_setP D p c) g 31 w 0) ho
          show w_X9_call_91 (w_X9_call_42 kL 98 K (m + 1 + j)) 98 (nI g) (e_vb (e_caC D w g p c s).2) (e_caC D w g p c s).1 (nI p) (nI c) (e_bo (e_ct (e_setP D p c) g 31 w 0)) M8 K
          unfold w_X9_call_91
          by_cases hlt : ∃ k, e_ct (e_setP D p c) g 31 w 0 = some k ∧ k < (e_caC D w g p c s).2
          · rw [if_pos hlt] at nx
            have nle : ¬ e_vb (e_caC D w g p c s).2 ≤ e_bo (e_ct (e_setP D p c) g 31 w 0) := fun z => (le.mp z) hlt
            rw [if_neg nle]
            unfold w_X9_call_109
            rw [if_neg nle]
            unfold w_X9_call_122
            rintro _ rfl
            rw [nI_1, l_100, pk_mul, nI_add]
            obtain ⟨k, hk, hk2⟩ := hlt
            rw [hk] at nx ⊢
            have nx2 : w_X9_call_42 kL 98 K (m + 1 + j) (nI g) (e_vb k) (nI (100 * p + c)) (nI p) (nI (c + 1)) M8 := nx
            have hk31 := ho k hk
            have ev : e_vb k = nI k := if_neg (by omega)
            rw [ev] at nx2
            exact nx2
          · rw [if_neg hlt] at nx
            rw [if_pos (le.mpr hlt)]
            unfold w_X9_call_109
            rw [if_pos (le.mpr hlt)]
            unfold w_X9_call_122
            rintro _ rfl
            rw [nI_1]
            exact nx
        · rw [hA, if_neg (by decide)]
          have nx := ih (c + 1) M7 (by omega) (fun x a b c d => by rw [f7 x b, f6 x a b c d]) (fun j => by rw [e7])
          simp only [hA, if_true] at nx ⊢
          unfold w_X9_call_91 w_X9_call_109
          have le : e_vb s.2 ≤ 1000000000 := by
            unfold e_vb
            split
            · decide
            · exact (e_big s.2 (by omega)).2.2
          rw [if_pos le, if_pos le]
          unfold w_X9_call_122
          rintro _ rfl
          rw [nI_1]
          exact nx
    have mo2 : ∀ (K : Int32 → ap_Mem → Prop), (∀ M', (∀ x, x ≠ 99 → x ≠ 101 → x ≠ 102 → x ≠ 103 → M' x = M3 x) → (∀ j, M' 99 j = M 99 j) → K (e_caP D w g a0 (dN D)).1 M') → ∀ (m j p : Nat) (M6 : ap_Mem), p + j = dN D → (∀ x, x ≠ 99 → x ≠ 101 → x ≠ 102 → x ≠ 103 → M6 x = M3 x) → (∀ j, M6 99 j = M 99 j) → w_X9_call_27 98 K (m + 1 + j) (nI g) (e_vb (e_caP D w g a0 p).2) (e_caP D w g a0 p).1 (nI p) M6 := by
      intro K hk m j
      induction j with
      | zero =>
        intro p M6 hp f6 g6
        have : p = dN D := by omega
        subst this
        show w_X9_call_27_s (w_X9_call_27 98 K m) 98 (nI g) _ _ (nI (dN D)) M6 K
        unfold w_X9_call_27_s
        rw [v_30, k_30, show (98 + 1 : Nat) = 99 from rfl, g6 30, h3, if_pos (by rw [n_le (by omega) (by omega)]; omega)]
        exact ⟨trivial, hk M6 f6 g6⟩
      | succ j ih =>
        intro p M6 hp f6 g6
        have hpn : p < dN D := by omega
        show w_X9_call_27_s (w_X9_call_27 98 K (m + 1 + j)) 98 (nI g) _ _ (nI p) M6 K
        unfold w_X9_call_27_s
        rw [v_30, k_30, show (98 + 1 : Nat) = 99 from rfl, g6 30, h3, if_neg (by rw [n_le (by omega) (by omega)]; omega)]
        refine ⟨trivial, ?_⟩
        have := mo1 (w_X9_call_27 98 K (m + 1 + j)) K p (e_caP D w g a0 p) hpn (e_caPB ha31 p) (fun M7 f7 g7 => ih (p + 1) M7 (by omega) f7 g7) 4079 16 0 M6 rfl f6 g6
        simp only [e_caC, ite_self] at this
        exact this
    have hmo := mo2 (fun r2 M6 => (e_caP D w g a0 (dN D)).1 = r2 ∧ e_Inv M6) (fun M6 f6 g6 => ⟨rfl, e_keep hI (fun a ha => by rw [f6 a (by omega) (by omega) (by omega) (by omega), f12 a (by omega)]) g6⟩) (4095 - dN D) (dN D) 0 M5 (by omega) f50 g50
    rw [show 4095 - dN D + 1 + dN D = 4096 by omega] at hmo
    exact hmo
  cases hct : e_ct D g 31 w 0 with
  | none =>
    rw [hct] at ha0
    have : a0 = 31 := ha0.symm
    subst this
    show if (0 : Int32) ≤ -5 then _ else _
    rw [if_neg (by decide)]
    exact hcl
  | some k =>
    rw [hct] at ha0
    have : a0 = k := ha0.symm
    subst this
    show if (0 : Int32) ≤ nI a0 then _ else _
    rw [if_pos (by rw [l_0]; exact n_nonneg (by omega))]
    exact hcl
