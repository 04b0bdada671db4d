/-! on, pass -/
theorem e_end {M M2 M3 M4 : ap_Mem} (hI : e_Inv M) (f12 : ∀ x, ¬ (76 ≤ x ∧ x ≤ 95) → M2 x = M x) (f3 : ∀ x, x ≠ 101 → M3 x = M2 x) (g3 : ∀ j, j < 30 → M3 101 j = M2 99 j) (f4 : ∀ x, x ≠ 99 → x ≠ 101 → x ≠ 102 → x ≠ 103 → M4 x = M3 x) (g4 : ∀ j, M4 99 j = if j < 30 then M3 101 j else M3 99 j) : e_Inv M4 :=
  e_keep hI (fun a ha => by rw [f4 a (by omega) (by omega) (by omega) (by omega), f3 a (by omega), f12 a (by omega)]) (fun j => by
    rw [g4 j, f3 99 (by decide), f12 99 (by omega)]
    split
    · rw [g3 j (by omega), f12 99 (by omega)]
    · rfl)
theorem e_mcL {f : Nat → Int32} {D : e_D} {w : e_W} (h : e_MC f D w) (hw : e_okW w) : ∀ i, i < 16 → f (2 + i) = nI (w.2.2 i) ∧ w.2.2 i < 2147483648 := fun i hi => ⟨h.2.2.2.2.2.2 i hi, by have := hw.2.2 i hi; omega⟩
theorem e_itN {D : e_D} : ∀ (n m : Nat) (w : e_W), e_okN (n + m) w → e_okN m (e_it D n w) := by
  intro n
  induction n with
  | zero => exact fun m w h => by rw [Nat.zero_add] at h; exact h
  | succ n ih => exact fun m w h => ih m _ (e_okNS (by rw [show n + m + 1 = n + 1 + m by omega]; exact h))
theorem p_on (n y : Int32) : e_Pair (fun M K => w_X8_on 0 n y M K) (fun M K => w_X9_on 98 n y M K) := by
  intro M hI
  obtain ⟨D, w, hS⟩ := e_open hI
  have hD := e_scD hS
  have hN := e_scOk hS 100 (by decide)
  have hMC := e_scM hS
  show w_X8_on 0 n y M _
  -- the second half, r: whether y - 10 is a cell
  have go : ∀ (r : Int32), (y = 0 ∨ y = 1 ∨ ∃ c, c < 16 ∧ y = nI (10 + c)) → ((y = 0 ∨ y = 1) → r = 0) → ((∃ c, c < 16 ∧ y = nI (10 + c)) → r = 1) → w_X8_on_23 0 n y r M (fun r1 M1 => w_X9_on_21 98 n y M1 (fun r2 M2 => r1 = r2 ∧ e_Inv M2)) := by
    intro r hy hr0 hr1
    unfold w_X8_on_23
    rcases e_ix n (n := 61) (by decide) with h | ⟨k, hk, rfl⟩
    · rw [c_isFuture0 h, if_pos rfl]
      show w_X9_on_21 98 n y M _
      unfold w_X9_on_21
      rw [show (60 : Int32) = nI 60 from rfl, m_in0 (by decide) h, if_pos rfl]
      exact ⟨rfl, hI⟩
    · rw [c_isFuture1 hk, if_neg (by decide)]
      refine c_begin hS (fun M1 f1 hC1 hs1 => ?_)
      refine c_goSteps hD (by omega) hC1 (e_okNM hN (by omega)) (fun M2 f2 hC2 => ?_)
      have f12 : ∀ x, ¬ (76 ≤ x ∧ x ≤ 95) → M2 x = M x := fun x hx => by rw [f2 x (by omega) (by omega), f1 x hx]
      have hW := e_okNW (e_itN (D := D) k 0 w (e_okNM hN (by omega)))
      obtain ⟨-, ⟨k1, k2, k3⟩, -⟩ := id hC2
      have mod : ∀ r1 : Int32, (∀ M3, e_MC (M3 99) D (e_it D k w) → (∀ j, 18 ≤ j → M3 99 j = M3 99 j) → (∀ M4 s0, s0 = r1 → M4 = M3 → w_X9_on_79 98 s0 M4 (fun r2 M2 => r1 = r2 ∧ e_Inv M2)) → (if y = 0 then (vp_in 1 936 ∧ w_X9_on_79 98 (M3 (98 + 1) (1 : Int32).toNatClampNeg) M3 (fun r2 M2 => r1 = r2 ∧ e_Inv M2)) else (if y = 1 then w_X9_manyLain 98 M3 (fun r_9 M_10 => w_X9_on_79 98 r_9 M_10 (fun r2 M2 => r1 = r2 ∧ e_Inv M2)) else (vp_in ((2 + y) - 10) 936 ∧ w_X9_on_79 98 (M3 (98 + 1) ((2 + y) - 10).toNatClampNeg) M3 (fun r2 M2 => r1 = r2 ∧ e_Inv M2))))) → w_X9_on_21 98 (nI k) y M2 (fun r2 M2 => r1 = r2 ∧ e_Inv M2) := by
        intro r1 hm
        unfold w_X9_on_21
        rw [show (60 : Int32) = nI 60 from rfl, l_0, m_in1 (by omega) (by omega) (by decide), if_neg (by decide)]
        refine m_keeps (fun M3 f3 g3 => ?_)
        have e99 : M3 99 = M 99 := by rw [f3 99 (by decide), f12 99 (by omega)]
        refine m_goesOn hD (by omega) (by rw [e99]; exact hMC) (e_okNM hN (by omega)) (fun M4 f4 g4 hC4 => ?_)
        rw [← l_0]
        refine hm M4 hC4 (fun _ _ => rfl) (fun M5 s0 hs hM5 => ?_)
        subst hs hM5
        unfold w_X9_on_79
        refine m_back (fun M6 f6 g6 => ⟨rfl, e_end hI f12 f3 g3 (fun x a b c d => by rw [f6 x a, f4 x a c d]) (fun j => ?_)⟩)
        rw [g6 j, f4 101 (by decide) (by decide) (by decide)]
        split
        · rfl
        · exact g4 j (by omega)
      rcases hy with rfl | rfl | ⟨c, hc, rfl⟩
      · rw [if_pos (hr0 (Or.inl rfl)), if_pos rfl]
        refine mod _ (fun M3 hC3 _ h9 => ?_)
        rw [if_pos rfl, v_1, k_1]
        exact ⟨trivial, h9 M3 _ (by rw [show (98 + 1 : Nat) = 99 from rfl, hC3.2.2.1]; exact k1.symm) rfl⟩
      · rw [if_pos (hr0 (Or.inr rfl)), if_neg (by decide), c_many (q := 0 + 82) (fun i hi => ⟨k3 i hi, by have := hW.2.2 i hi; omega⟩)]
        refine mod _ (fun M3 hC3 _ h9 => ?_)
        rw [if_neg (by decide), if_pos rfl, m_many (e_mcL hC3 hW)]
        exact h9 M3 _ rfl rfl
      · rw [if_neg (by rw [hr1 ⟨c, hc, rfl⟩]; decide)]
        have e : nI (10 + c) - 10 = nI c := by rw [l_10, n_sub (by omega), Nat.add_sub_cancel_left]
        rw [e, n_vp (by omega), n_cl (by omega)]
        refine ⟨hc, ?_⟩
        refine mod _ (fun M3 hC3 _ h9 => ?_)
        rw [if_neg (by rw [l_0, n_eq (by omega) (by decide)]; omega), if_neg (by rw [l_1, n_eq (by omega) (by decide)]; omega)]
        have e2 : 2 + nI (10 + c) - 10 = nI (2 + c) := by rw [l_2, nI_add, l_10, n_sub (by omega)]; congr 1; omega
        rw [e2, n_vp (by omega), n_cl (by omega)]
        exact ⟨by omega, h9 M3 _ (by rw [show (98 + 1 : Nat) = 99 from rfl, hC3.2.2.2.2.2.2 c hc]; exact (k3 c hc).symm) rfl⟩
  unfold w_X8_on
  have inn : ∀ M' K, w_X9_in y 0 1 M' K = if 0 ≤ y ∧ y ≤ 1 then K 1 M' else K 0 M' := fun M' K => m_in
  by_cases y0 : y = 0
  · have no : e_no (y - 10) 16 := by rw [y0]; exact Or.inl (by decide)
    rw [c_isCell0 no, if_pos y0]
    have hg := go 0 (Or.inl y0) (fun _ => rfl) (fun ⟨c, hc, e⟩ => by rw [y0, l_0] at e; exact absurd ((n_eq (by decide) (by omega)).mp e) (by omega))
    have : ∀ M1 K, w_X9_on 98 n y M1 K = w_X9_on_21 98 n y M1 K := fun M1 K => by
      unfold w_X9_on
      rw [inn, if_pos (by rw [y0]; decide), if_neg (by decide)]
    simp only [this]
    exact hg
  by_cases y1 : y = 1
  · have no : e_no (y - 10) 16 := by rw [y1]; exact Or.inl (by decide)
    rw [c_isCell0 no, if_neg y0, if_pos y1]
    have hg := go 0 (Or.inr (Or.inl y1)) (fun _ => rfl) (fun ⟨c, hc, e⟩ => by rw [y1, l_1] at e; exact absurd ((n_eq (by decide) (by omega)).mp e) (by omega))
    have : ∀ M1 K, w_X9_on 98 n y M1 K = w_X9_on_21 98 n y M1 K := fun M1 K => by
      unfold w_X9_on
      rw [inn, if_pos (by rw [y1]; decide), if_neg (by decide)]
    simp only [this]
    exact hg
  have nin : ¬ (0 ≤ y ∧ y ≤ 1) := fun ⟨a, b⟩ => by
    rcases e_ix y (n := 2) (by decide) with h | ⟨c, hc, rfl⟩
    · rcases h with h | ⟨_, h⟩
      · exact absurd a (by grind)
      · have : nI 2 ≤ 1 := by grind
        exact absurd this (by decide)
    · rcases (by omega : c = 0 ∨ c = 1) with rfl | rfl
      · exact y0 rfl
      · exact y1 rfl
  rcases e_ix (y - 10) (n := 16) (by decide) with h | ⟨c, hc, hx⟩
  · rw [c_isCell0 h, if_neg y0, if_neg y1, if_pos rfl]
    show w_X9_on 98 n y M _
    unfold w_X9_on
    rw [inn, if_neg nin, if_pos rfl, m_isCell0 h, if_pos rfl]
    exact ⟨rfl, hI⟩
  · have hy : y = nI (10 + c) := i_sub y 10 (show y - nI 10 = nI c from hx)
    rw [hx, c_isCell1 hc, if_neg y0, if_neg y1, if_neg (by decide)]
    have hg := go 1 (Or.inr (Or.inr ⟨c, hc, hy⟩)) (fun z => absurd z (fun z => z.elim y0 y1)) (fun _ => rfl)
    have : ∀ M1 K, w_X9_on 98 n y M1 K = w_X9_on_21 98 n y M1 K := fun M1 K => by
      unfold w_X9_on
      rw [inn, if_neg nin, if_pos rfl, hx, m_isCell1 hc, if_neg (by decide)]
    simp only [this]
    exact hg
/-! pass -/
def e_okP (w : e_W) : Prop := w.1 < 99000 ∧ w.2.1 < 16 ∧ ∀ i, i < 16 → w.2.2 i ≤ 99
theorem e_okPW {w : e_W} (h : e_okP w) : e_okW w := ⟨by have := h.1; omega, h.2.1, fun i hi => by have := h.2.2 i hi; omega⟩
def e_itC (D : e_D) : Nat → e_W → e_W
  | 0, w => w
  | n + 1, w => e_itC D n (e_stpC 99 D w)
theorem e_stpCl {D : e_D} {w : e_W} (h : e_okP w) : (∀ i, i < 16 → (e_stpC 99 D w).2.2 i ≤ 99 ∧ (e_stpC 99 D w).2.2 i = if (e_stp D w).2.2 i ≤ 99 then (e_stp D w).2.2 i else 99) ∧ (e_stpC 99 D w).2.1 < 16 := by
  refine ⟨fun i hi => ?_, (e_nxB (e_okPW h)).1⟩
  have hl := h.2.2 i hi
  show (if i = e_nx D w then (if w.2.2 i < 99 then w.2.2 i + 1 else w.2.2 i) else w.2.2 i) ≤ 99 ∧ (if i = e_nx D w then (if w.2.2 i < 99 then w.2.2 i + 1 else w.2.2 i) else w.2.2 i) = if (if i = e_nx D w then w.2.2 i + 1 else w.2.2 i) ≤ 99 then (if i = e_nx D w then w.2.2 i + 1 else w.2.2 i) else 99
  by_cases h1 : i = e_nx D w
  · simp only [if_pos h1]
    by_cases h2 : w.2.2 i < 99
    · rw [if_pos h2, if_pos (by omega)]
      omega
    · rw [if_neg h2, if_neg (by omega)]
      omega
  · simp only [if_neg h1]
    rw [if_pos hl]
    exact ⟨hl, rfl⟩
theorem m_p43 {kL : Int32 → Int32 → ap_Mem → Prop} {x1 : Int32} {i : Nat} {l : Nat → Nat} {M : ap_Mem} {K : Int32 → ap_Mem → Prop} (hl : ∀ c, c < 16 → M 99 (2 + c) = nI (l c) ∧ l c < 100000) (h : ∀ M', (∀ x, x ≠ 99 → M' x = M x) → (∀ j, (j < 2 ∨ 18 ≤ j) → M' 99 j = M 99 j) → (∀ c, c < 16 → M' 99 (2 + c) = nI (if l c ≤ 99 then l c else 99)) → kL x1 (nI (i + 1)) M') : w_X9_pass_43 kL 98 K 4096 x1 (nI i) 0 M := by
  have lp : ∀ (n j c : Nat) (M1 : ap_Mem), c + j = 16 → (∀ x, x ≠ 99 → M1 x = M x) → (∀ j, (j < 2 ∨ 18 ≤ j) → M1 99 j = M 99 j) → (∀ b, b < 16 → M1 99 (2 + b) = if b < c then nI (if l b ≤ 99 then l b else 99) else nI (l b)) → w_X9_pass_43 kL 98 K (n + 1 + j) x1 (nI i) (nI c) M1 := by
    intro n j
    induction j with
    | zero =>
      intro c M1 hc f g hb
      have : c = 16 := by omega
      subst this
      show w_X9_pass_43_s kL (w_X9_pass_43 kL 98 K n) 98 x1 (nI i) (nI 16) M1 K
      unfold w_X9_pass_43_s
      rw [if_pos (by decide)]
      rintro _ rfl
      rw [nI_1]
      exact h M1 f g (fun c hc => by rw [hb c hc, if_pos hc])
    | succ j ih =>
      intro c M1 hc f g hb
      have hc2 : c < 16 := by omega
      obtain ⟨l1, l2⟩ := hl c hc2
      show w_X9_pass_43_s kL (w_X9_pass_43 kL 98 K (n + 1 + j)) 98 x1 (nI i) (nI c) M1 K
      unfold w_X9_pass_43_s
      rw [if_neg (by rw [l_16, n_le (by decide) (by omega)]; omega), l_2, nI_add, n_vp (by omega), n_cl (by omega), show (98 + 1 : Nat) = 99 from rfl, hb c hc2, if_neg (show ¬ c < c by omega)]
      refine ⟨by omega, ?_⟩
      have key : ∀ s0 : Int32, s0 = nI (if l c ≤ 99 then l c else 99) → w_X9_pass_82 (w_X9_pass_43 kL 98 K (n + 1 + j)) 98 x1 (nI i) (nI c) s0 (nI (2 + c)) M1 K := by
        rintro _ rfl
        unfold w_X9_pass_82
        refine ⟨by rw [n_vp (by omega)]; omega, ?_⟩
        rintro _ rfl _ rfl
        rw [nI_1, n_cl (by omega)]
        refine ih (c + 1) _ (by omega) (fun x hx => by simp (disch := omega) only [ap_mu_n]; exact f x hx) (fun j hj => by simp (disch := omega) only [mu_o]; exact g j hj) (fun b hb2 => ?_)
        by_cases hbc : b = c
        · subst hbc
          rw [if_pos (show b < b + 1 by omega)]
          simp (disch := omega) only [mu_s]
        · simp (disch := omega) only [mu_o]
          rw [hb b hb2]
          by_cases hb3 : b < c
          · rw [if_pos hb3, if_pos (show b < c + 1 by omega)]
          · rw [if_neg hb3, if_neg (show ¬ b < c + 1 by omega)]
      by_cases h99 : l c ≤ 99
      · rw [if_pos (by rw [l_99, n_le (by omega) (by decide)]; exact h99)]
        exact ⟨by omega, key _ (by rw [if_pos h99])⟩
      · rw [if_neg (by rw [l_99, n_le (by omega) (by decide)]; exact h99)]
        exact key _ (by rw [if_neg h99]; rfl)
  exact lp 4079 16 0 M rfl (fun _ _ => rfl) (fun _ _ => rfl) (fun b hb => by rw [if_neg (by omega)]; exact (hl b hb).1)
theorem p_pass (x : Int32) : e_Pair (fun M K => w_X8_pass 0 x M K) (fun M K => w_X9_pass 98 x M K) := by
  intro M hI
  obtain ⟨D, w, hS⟩ := e_open hI
  have hD := e_scD hS
  have hNb := e_scN hS
  have hMC := e_scM hS
  obtain ⟨hf, ⟨c1, c2, c3, c4, c5, c6, c7⟩, ht, -⟩ := id hS
  show w_X8_pass 0 x M _
  unfold w_X8_pass
  rcases e_ix x (n := 61) (by decide) with h | ⟨n, hn, rfl⟩
  · rw [c_isFuture0 h, if_pos rfl]
    show w_X9_pass 98 x M _
    unfold w_X9_pass
    rw [show (60 : Int32) = nI 60 from rfl, m_in0 (by decide) h, if_pos rfl]
    exact ⟨rfl, hI⟩
  have inn : ∀ M' K, w_X9_in (nI n) 0 60 M' K = K 1 M' := fun M' K => by rw [show (60 : Int32) = nI 60 from rfl, l_0, m_in1 (by omega) (by omega) (by decide)]
  rw [c_isFuture1 hn, if_neg (by decide), show (0 + 18 : Nat) = 18 from rfl, c6, nI_add]
  by_cases hlim : w.1 + n ≤ 9999
  · rw [if_pos (by rw [l_9999, n_le (by omega) (by decide)]; exact hlim)]
    refine c_begin hS (fun M1 f1 hC1 hs1 => ?_)
    -- the class goes
    have cl : ∀ (K : Int32 → ap_Mem → Prop) (m j i : Nat) (w : e_W) (M1 : ap_Mem), i + j = n → w.1 + j < 99000 → e_CC M1 D w → e_okP w → (∀ M', (∀ x, ¬ (91 ≤ x ∧ x ≤ 95) → ¬ (82 ≤ x ∧ x ≤ 83) → M' x = M1 x) → e_CC M' D (e_itC D j w) → w_X1_copyFrom 18 82 M' (fun M_2 => K (M_2 18 1) M_2)) → w_X8_pass_44 0 K (m + 1 + j) (nI n) (nI i) M1 := by
      intro K m j
      induction j with
      | zero =>
        intro i w M1 hi hb hC hw h
        show w_X8_pass_44_s (w_X8_pass_44 0 K m) 0 (nI n) (nI i) M1 K
        unfold w_X8_pass_44_s
        rw [if_pos (by rw [n_le (by omega) (by omega)]; omega)]
        exact h M1 (fun _ _ _ => rfl) hC
      | succ j ih =>
        intro i w M1 hi hb hC hw h
        show w_X8_pass_44_s (w_X8_pass_44 0 K (m + 1 + j)) 0 (nI n) (nI i) M1 K
        unfold w_X8_pass_44_s
        rw [if_neg (by rw [n_le (by omega) (by omega)]; omega), l_99]
        refine c_go (cap := 99) (by decide) hC hD (e_okPW hw) (fun M2 f2 h2 => ?_)
        rintro _ rfl
        rw [nI_1]
        have hs := e_stpCl (D := D) hw
        exact ih (i + 1) _ M2 (by omega) (by show w.1 + 1 + j < 99000; omega) h2 ⟨by show w.1 + 1 < 99000; omega, hs.2, fun i hi => (hs.1 i hi).1⟩ (fun M3 f3 h3 => h M3 (fun x g1 g2 => by rw [f3 x g1 g2, f2 x g1 g2]) h3)
    -- the reference goes
    have mo : ∀ (K : Int32 → ap_Mem → Prop) (m j i : Nat) (w : e_W) (M1 : ap_Mem), i + j = n → w.1 + j < 99000 → e_MC (M1 99) D w → e_okP w → (∀ M', (∀ x, x ≠ 99 → x ≠ 102 → x ≠ 103 → M' x = M1 x) → (∀ j, 18 ≤ j → M' 99 j = M1 99 j) → e_MC (M' 99) D (e_itC D j w) → e_okP (e_itC D j w) → K (nI (e_itC D j w).2.1) M') → w_X9_pass_32 98 K (m + 1 + j) (nI n) (nI i) M1 := by
      intro K m j
      induction j with
      | zero =>
        intro i w M1 hi hb hC hw h
        show w_X9_pass_32_s (w_X9_pass_32 98 K m) 98 (nI n) (nI i) M1 K
        unfold w_X9_pass_32_s
        rw [if_pos (by rw [n_le (by omega) (by omega)]; omega), v_1, k_1, show (98 + 1 : Nat) = 99 from rfl, hC.2.2.1]
        exact ⟨trivial, h M1 (fun _ _ _ _ => rfl) (fun _ _ => rfl) hC hw⟩
      | succ j ih =>
        intro i w M1 hi hb hC hw h
        show w_X9_pass_32_s (w_X9_pass_32 98 K (m + 1 + j)) 98 (nI n) (nI i) M1 K
        unfold w_X9_pass_32_s
        rw [if_neg (by rw [n_le (by omega) (by omega)]; omega)]
        have hs := e_stpCl (D := D) hw
        refine m_goes hC hD (e_okPW hw) (fun M2 f2 g2 h2 => ?_)
        refine m_p43 (l := (e_stp D w).2.2) (fun c hc => ⟨h2.2.2.2.2.2.2 c hc, ?_⟩) (fun M3 f3 g3 l3 => ?_)
        · have := hw.2.2 c hc
          show (if c = e_nx D w then w.2.2 c + 1 else w.2.2 c) < 100000
          split <;> omega
        · obtain ⟨t1, t2, t3, t4, t5, t6, t7⟩ := h2
          have hN := hD.1
          have hC3 : e_MC (M3 99) D (e_stpC 99 D w) := ⟨e_fMTown t1 (fun j hj => g3 j (by omega)), by rw [g3 _ (by omega)]; exact t2, by rw [g3 _ (by omega)]; exact t3, by rw [g3 _ (by omega)]; exact t4, fun p hp => by rw [g3 _ (by omega), g3 _ (by omega), g3 _ (by omega), g3 _ (by omega)]; exact t5 p hp, fun j hj => by rw [g3 _ (by omega)]; exact t6 j hj, fun i hi => by rw [l3 i hi, (hs.1 i hi).2]⟩
          exact ih (i + 1) _ M3 (by omega) (by show w.1 + 1 + j < 99000; omega) hC3 ⟨by show w.1 + 1 < 99000; omega, hs.2, fun i hi => (hs.1 i hi).1⟩ (fun M4 f4 g4 h4 h5 => h M4 (fun x a b c => by rw [f4 x a b c, f3 x a, f2 x a b c]) (fun j hj => by rw [g4 j hj, g3 j (by omega), g2 j hj]) h4 h5)
    have okP : e_okP w := ⟨by omega, hNb.2.1, hNb.2.2⟩
    have itT : ∀ (j : Nat) (w : e_W), (e_itC D j w).1 = w.1 + j := by
      intro j
      induction j with
      | zero => exact fun _ => rfl
      | succ j ih => exact fun w => by show (e_itC D j (e_stpC 99 D w)).1 = _; rw [ih]; show w.1 + 1 + j = _; omega
    have := cl (fun r1 M1 => w_X9_pass 98 (nI n) M1 (fun r2 M2 => r1 = r2 ∧ e_Inv M2)) (4095 - n) n 0 w M1 (by omega) (by omega) hC1 okP (fun M2 f2 hC2 => ?_)
    · rw [show 4095 - n + 1 + n = 4096 by omega] at this
      exact this
    · obtain ⟨-, ⟨k1, k2, k3⟩, -⟩ := hC2
      have f12 : ∀ x, ¬ (76 ≤ x ∧ x ≤ 95) → M2 x = M x := fun x hx => by rw [f2 x (by omega) (by omega), f1 x hx]
      unfold w_X1_copyFrom
      rintro _ rfl _ rfl _ rfl
      have q1 : (ap_mu (ap_mu (ap_mc M2 (82 + 1) (18 + 1) 0 0 16) 18 1 ((ap_mc M2 (82 + 1) (18 + 1) 0 0 16) 82 1)) 18 2 ((ap_mu (ap_mc M2 (82 + 1) (18 + 1) 0 0 16) 18 1 ((ap_mc M2 (82 + 1) (18 + 1) 0 0 16) 82 1)) 82 2)) 18 1 = nI (e_itC D n w).2.1 := by
        simp (disch := omega) only [mu_s, mu_o]
        rw [mc_at, if_neg (by omega)]
        exact k1
      have q2 : (ap_mu (ap_mu (ap_mc M2 (82 + 1) (18 + 1) 0 0 16) 18 1 ((ap_mc M2 (82 + 1) (18 + 1) 0 0 16) 82 1)) 18 2 ((ap_mu (ap_mc M2 (82 + 1) (18 + 1) 0 0 16) 18 1 ((ap_mc M2 (82 + 1) (18 + 1) 0 0 16) 82 1)) 82 2)) 18 2 = nI (e_itC D n w).1 := by
        simp (disch := omega) only [mu_s, mu_o]
        rw [mc_at, if_neg (by omega)]
        exact k2
      have q3 : ∀ i, i < 16 → (ap_mu (ap_mu (ap_mc M2 (82 + 1) (18 + 1) 0 0 16) 18 1 ((ap_mc M2 (82 + 1) (18 + 1) 0 0 16) 82 1)) 18 2 ((ap_mu (ap_mc M2 (82 + 1) (18 + 1) 0 0 16) 18 1 ((ap_mc M2 (82 + 1) (18 + 1) 0 0 16) 82 1)) 82 2)) 19 i = nI ((e_itC D n w).2.2 i) := fun i hi => by
        simp (disch := omega) only [mu_o]
        rw [mc_at, if_pos ⟨by omega, hi⟩]
        exact k3 i hi
      have q4 : ∀ x, x ≠ 18 → x ≠ 19 → (ap_mu (ap_mu (ap_mc M2 (82 + 1) (18 + 1) 0 0 16) 18 1 ((ap_mc M2 (82 + 1) (18 + 1) 0 0 16) 82 1)) 18 2 ((ap_mu (ap_mc M2 (82 + 1) (18 + 1) 0 0 16) 18 1 ((ap_mc M2 (82 + 1) (18 + 1) 0 0 16) 82 1)) 82 2)) x = M2 x := fun x h1 h2 => by
        simp (disch := omega) only [ap_mu_n]
        funext j
        rw [mc_at, if_neg (by omega)]
      rw [q1]
      generalize (ap_mu (ap_mu (ap_mc M2 (82 + 1) (18 + 1) 0 0 16) 18 1 ((ap_mc M2 (82 + 1) (18 + 1) 0 0 16) 82 1)) 18 2 ((ap_mu (ap_mc M2 (82 + 1) (18 + 1) 0 0 16) 18 1 ((ap_mc M2 (82 + 1) (18 + 1) 0 0 16) 82 1)) 82 2)) = M3 at q1 q2 q3 q4 ⊢
      have e99 : M3 99 = M 99 := by rw [q4 99 (by decide) (by decide), f12 99 (by omega)]
      show w_X9_pass 98 (nI n) M3 _
      unfold w_X9_pass
      rw [inn, if_neg (by decide), v_0, k_0, show (98 + 1 : Nat) = 99 from rfl, e99, c5, nI_add, if_pos (by rw [l_9999, n_le (by omega) (by decide)]; exact hlim)]
      refine ⟨trivial, ?_⟩
      have h32 := mo (fun r2 M2 => nI (e_itC D n w).2.1 = r2 ∧ e_Inv M2) (4095 - n) n 0 w M3 (by omega) (by omega) (by rw [e99]; exact hMC) okP (fun M4 f4 g4 hC4 h5 => ⟨rfl, ?_⟩)
      · rw [show 4095 - n + 1 + n = 4096 by omega] at h32
        exact h32
      · refine e_set hI (fun a ha => by rw [f4 a (by omega) (by omega) (by omega), q4 a (by omega) (by omega), f12 a (by omega)]) (e_uCarp hI.1 (fun a ha hb => by rw [f4 a (by omega) (by omega) (by omega), q4 a (by omega) (by omega), f12 a (by omega)]) (fun j hj hb => by rw [g4 j (by omega), e99]) ?_)
        obtain ⟨t1, t2, t3, t4, t5, t6, t7⟩ := hC4
        have f18 : M4 18 = M3 18 := f4 18 (by decide) (by decide) (by decide)
        have f19 : M4 19 = M3 19 := f4 19 (by decide) (by decide) (by decide)
        refine ⟨(e_itC D n w).2.1, (e_itC D n w).1, h5.2.1, by rw [itT]; exact hlim, t3, by show M4 18 1 = _; rw [f18]; exact q1, t4, by show M4 18 2 = _; rw [f18]; exact q2, fun i hi => ⟨_, h5.2.2 i hi, t7 i hi, by show M4 19 i = _; rw [f19]; exact q3 i hi⟩⟩
  · rw [if_neg (by rw [l_9999, n_le (by omega) (by decide)]; exact hlim)]
    show w_X9_pass 98 (nI n) M _
    unfold w_X9_pass
    rw [inn, if_neg (by decide), v_0, k_0, show (98 + 1 : Nat) = 99 from rfl, c5, nI_add, if_neg (by rw [l_9999, n_le (by omega) (by decide)]; exact hlim)]
    exact ⟨trivial, rfl, hI⟩
