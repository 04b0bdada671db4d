/-! met, done -/
def e_me (D : e_D) (wk : Nat → Nat) (s : Nat) : Nat → e_W → Nat → Option Nat
  | 0, _, _ => none
  | r + 1, w, i => if i < s then e_me D wk s r (e_stp D w) (i + 1) else if wk (i - s) = w.2.1 then some i else e_me D wk s r (e_stp D w) (i + 1)
theorem p_met (x : Int32) : e_Pair (fun M K => w_X8_met 0 x M K) (fun M K => w_X9_met 98 x M K) := by
  intro M hI
  obtain ⟨D, w, hS⟩ := e_open hI
  have hD := e_scD hS
  have hN := e_scOk hS 100 (by decide)
  have hMC := e_scM hS
  obtain ⟨n, n1, n2, n3, n4⟩ := hI.1.2.2.2.2.1
  show w_X8_met 0 x M _
  unfold w_X8_met
  rcases e_ix x (n := 2) (by decide) with h | ⟨s, hs, rfl⟩
  · rw [c_isEither0 h, if_pos rfl]
    show w_X9_met 98 x M _
    unfold w_X9_met
    rw [l_1, m_in0 (by decide) h, if_pos rfl]
    exact ⟨rfl, hI⟩
  have hwk : ∀ i, i < n → M 99 (74 + i) = nI (M 99 (74 + i)).toNatClampNeg ∧ M 21 i = nI (M 99 (74 + i)).toNatClampNeg ∧ (M 99 (74 + i)).toNatClampNeg < 16 := fun i hi => by
    obtain ⟨c, c1, c2, c3⟩ := n4 i hi
    rw [c2, n_cl (by omega)]
    exact ⟨rfl, c3, c1⟩
  generalize hwkd : (fun i => (M 99 (74 + i)).toNatClampNeg) = wk
  have hwk2 : ∀ i, i < n → M 99 (74 + i) = nI (wk i) ∧ M 21 i = nI (wk i) ∧ wk i < 16 := fun i hi => by rw [← hwkd]; exact hwk i hi
  rw [c_isEither1 hs, if_neg (by decide)]
  refine c_begin hS (fun M1 f1 hC1 hs1 => ?_)
  have cl : ∀ (K : Int32 → ap_Mem → Prop) (m r i : Nat) (w : e_W) (M2 : ap_Mem), i + r = n + s → (∀ x, ¬ (76 ≤ x ∧ x ≤ 95) → M2 x = M x) → e_CC M2 D w → e_okN r w → (∀ M', (∀ x, ¬ (76 ≤ x ∧ x ≤ 95) → M' x = M x) → K (e_vo (e_me D wk s r w i)) M') → w_X8_met_22 0 K (m + 1 + r) (nI s) (nI i) M2 := by
    intro K m r
    induction r with
    | zero =>
      intro i w M2 hi f2 hC hN h
      show w_X8_met_22_s (w_X8_met_22 0 K m) 0 (nI s) (nI i) M2 K
      unfold w_X8_met_22_s
      rw [show (0 + 20 : Nat) = 20 from rfl, f2 20 (by omega), n3, nI_add, if_pos (by rw [n_le (by omega) (by omega)]; omega)]
      exact h M2 f2
    | succ r ih =>
      intro i w M2 hi f2 hC hN h
      have hW := e_okNW hN
      have hcur := hW.2.1
      show w_X8_met_22_s (w_X8_met_22 0 K (m + 1 + r)) 0 (nI s) (nI i) M2 K
      unfold w_X8_met_22_s
      rw [show (0 + 20 : Nat) = 20 from rfl, f2 20 (by omega), n3, nI_add, if_neg (by rw [n_le (by omega) (by omega)]; omega)]
      have go : (∀ M', (∀ x, ¬ (76 ≤ x ∧ x ≤ 95) → M' x = M x) → K (e_vo (e_me D wk s r (e_stp D w) (i + 1))) M') → w_X8_met_72 (w_X8_met_22 0 K (m + 1 + r)) 0 (nI s) (nI i) M2 K := by
        intro h
        unfold w_X8_met_72
        rw [l_1]
        refine c_goSteps hD (n := 1) (by decide) hC (e_okNM hN (by omega)) (fun M3 f3 h3 => ?_)
        rintro _ rfl
        rw [nI_add]
        exact ih (i + 1) _ M3 (by omega) (fun x hx => by rw [f3 x (by omega) (by omega), f2 x hx]) h3 (e_okNS hN) h
      simp only [e_me] at h
      by_cases his : i < s
      · rw [if_pos (by rw [n_lt (by omega) (by omega)]; exact his)]
        rw [if_pos his] at h
        exact go h
      · rw [if_neg (by rw [n_lt (by omega) (by omega)]; exact his), n_sub (by omega), n_vp (by omega), n_cl (by omega)]
        rw [if_neg his] at h
        obtain ⟨a1, a2, a3⟩ := hwk2 (i - s) (by omega)
        refine ⟨by omega, ?_⟩
        rw [show (0 + 21 : Nat) = 21 from rfl, show (0 + 82 : Nat) = 82 from rfl, f2 21 (by omega), a2, hC.2.1.1]
        by_cases he : wk (i - s) = w.2.1
        · rw [if_pos (by rw [he])]
          rw [if_pos he] at h
          exact h M2 f2
        · rw [if_neg (by rw [n_eq (by omega) (by omega)]; exact he)]
          rw [if_neg he] at h
          exact go h
  have mo : ∀ (K : Int32 → ap_Mem → Prop) (m r i : Nat) (w : e_W) (M2 : ap_Mem), i + r = n + s → e_MC (M2 99) D w → M2 99 32 = nI n → (∀ i, i < n → M2 99 (74 + i) = nI (wk i)) → e_okN r w → (∀ M', (∀ x, x ≠ 99 → x ≠ 102 → x ≠ 103 → M' x = M2 x) → (∀ j, M' 99 j = if j < 30 then M2 101 j else M2 99 j) → K (e_vo (e_me D wk s r w i)) M') → w_X9_met_20 98 K (m + 1 + 1 + r) (nI s) (-5) (nI i) M2 := by
    intro K m r
    have out : ∀ (x2 : Int32) (M2 M3 : ap_Mem), (∀ x, x ≠ 99 → x ≠ 102 → x ≠ 103 → M3 x = M2 x) → (∀ j, 18 ≤ j → M3 99 j = M2 99 j) → (∀ M', (∀ x, x ≠ 99 → x ≠ 102 → x ≠ 103 → M' x = M2 x) → (∀ j, M' 99 j = if j < 30 then M2 101 j else M2 99 j) → K x2 M') → w_X9_met_81 98 x2 M3 K := by
      intro x2 M2 M3 f3 g3 h
      unfold w_X9_met_81
      refine m_back (fun M4 f4 g4 => h M4 (fun x a b c => by rw [f4 x a, f3 x a b c]) (fun j => ?_))
      rw [g4 j, f3 101 (by decide) (by decide) (by decide)]
      split
      · rfl
      · exact g3 j (by omega)
    induction r with
    | zero =>
      intro i w M2 hi hC h32 hw hN h
      show w_X9_met_20_s (w_X9_met_20 98 K (m + 1)) 98 (nI s) (-5) (nI i) M2 K
      unfold w_X9_met_20_s
      rw [v_32, k_32, show (98 + 1 : Nat) = 99 from rfl, h32, nI_add, if_pos (by rw [n_le (by omega) (by omega)]; omega)]
      exact ⟨trivial, out _ M2 M2 (fun _ _ _ _ => rfl) (fun _ _ => rfl) h⟩
    | succ r ih =>
      intro i w M2 hi hC h32 hw hN h
      have hW := e_okNW hN
      have hcur := hW.2.1
      show w_X9_met_20_s (w_X9_met_20 98 K (m + 1 + 1 + r)) 98 (nI s) (-5) (nI i) M2 K
      unfold w_X9_met_20_s
      rw [v_32, k_32, show (98 + 1 : Nat) = 99 from rfl, h32, nI_add, if_neg (by rw [n_le (by omega) (by omega)]; omega), if_pos rfl]
      refine ⟨trivial, ?_⟩
      have go : (∀ M', (∀ x, x ≠ 99 → x ≠ 102 → x ≠ 103 → M' x = M2 x) → (∀ j, M' 99 j = if j < 30 then M2 101 j else M2 99 j) → K (e_vo (e_me D wk s r (e_stp D w) (i + 1))) M') → w_X9_met_68 (w_X9_met_20 98 K (m + 1 + 1 + r)) 98 (nI s) (nI i) M2 K := by
        intro h
        unfold w_X9_met_68 w_X9_met_70
        refine m_goes hC hD hW (fun M3 f3 g3 h3 => ?_)
        rintro _ rfl
        rw [nI_1]
        refine ih (i + 1) _ M3 (by omega) h3 (by rw [g3 _ (by omega)]; exact h32) (fun j hj => by rw [g3 _ (by omega)]; exact hw j hj) (e_okNS hN) (fun M4 f4 g4 => h M4 (fun x a b c => by rw [f4 x a b c, f3 x a b c]) (fun j => ?_))
        rw [g4 j, f3 101 (by decide) (by decide) (by decide)]
        split
        · rfl
        · exact g3 j (by omega)
      simp only [e_me] at h
      by_cases his : i < s
      · rw [if_pos (by rw [n_lt (by omega) (by omega)]; exact his)]
        rw [if_pos his] at h
        exact go h
      · rw [if_neg (by rw [n_lt (by omega) (by omega)]; exact his), v_1, k_1, l_74, nI_add, n_sub (by omega), show 74 + i - s = 74 + (i - s) by omega, n_vp (by omega), n_cl (by omega)]
        rw [if_neg his] at h
        refine ⟨trivial, by omega, ?_⟩
        have hwx : wk (i - s) < 16 := (hwk2 (i - s) (by omega)).2.2
        rw [hC.2.2.1, hw _ (by omega)]
        by_cases he : wk (i - s) = w.2.1
        · rw [if_pos (by rw [he])]
          rw [if_pos he] at h
          unfold w_X9_met_70
          refine m_goes hC hD hW (fun M3 f3 g3 h3 => ?_)
          rintro _ rfl
          rw [nI_1, show m + 1 + 1 + r = (m + 1 + r) + 1 by omega]
          show w_X9_met_20_s (w_X9_met_20 98 K (m + 1 + r)) 98 (nI s) (nI i) (nI (i + 1)) M3 K
          unfold w_X9_met_20_s
          have hne : ∀ b, b < 16 → ¬ nI b = -5 := by decide +kernel
          have o := out (nI i) M2 M3 f3 g3 h
          rw [v_32, if_neg (hne i (by omega))]
          refine ⟨trivial, ?_⟩
          split
          · exact o
          · exact o
        · rw [if_neg (by rw [n_eq (by omega) (by omega)]; exact fun z => he z.symm)]
          rw [if_neg he] at h
          exact go h
  have := cl (fun r1 M1 => w_X9_met 98 (nI s) M1 (fun r2 M2 => r1 = r2 ∧ e_Inv M2)) (4095 - (n + s)) (n + s) 0 w M1 (by omega) f1 hC1 (e_okNM hN (by omega)) (fun M2 f12 => ?_)
  · rw [show 4095 - (n + s) + 1 + (n + s) = 4096 by omega] at this
    exact this
  · have e99 := f12 99 (by omega)
    unfold w_X9_met
    rw [l_1, l_0, m_in1 (by omega) (by omega) (by decide), ← l_0, if_neg (by decide)]
    refine m_keeps (fun M3 f3 g3 => ?_)
    have e399 : M3 99 = M 99 := by rw [f3 99 (by decide), e99]
    have h2 := mo (fun r2 M4 => e_vo (e_me D wk s (n + s) w 0) = r2 ∧ e_Inv M4) (4094 - (n + s)) (n + s) 0 w M3 (by omega) (by rw [e399]; exact hMC) (by rw [e399]; exact n2) (fun i hi => by rw [e399]; exact (hwk2 i hi).1) (e_okNM hN (by omega)) (fun M4 f4 g4 => ⟨rfl, e_end hI f12 f3 g3 (fun x a b c d => f4 x a c d) g4⟩)
    rw [show 4094 - (n + s) + 1 + 1 + (n + s) = 4096 by omega] at h2
    exact h2
/-! a plan -/
def e_setA (D : e_D) (A : Nat) : e_D := (D.1, D.2.1, A, D.2.2.2)
def e_fol (k a : Nat) (s : e_D × e_W) : e_D × e_W := if k = 0 then (s.1, e_stp s.1 s.2) else if k = 3 then (s.1, (s.2.1, a, s.2.2.2)) else if k = 1 then (e_setA s.1 (e_on (dA s.1) a), s.2) else (e_setA s.1 (e_off (dA s.1) a), s.2)
def e_fols (P : Nat → Nat × Nat) : Nat → Nat → e_D × e_W → e_D × e_W
  | 0, _, s => s
  | r + 1, i, s => e_fols P r (i + 1) (e_fol (P i).1 (P i).2 s)
theorem e_okA {D : e_D} {A : Nat} (h : e_okD D) (hA : A < 64) : e_okD (e_setA D A) := ⟨h.1, hA, h.2.2.1, h.2.2.2⟩
theorem e_ccA {M M' : ap_Mem} {D : e_D} {w : e_W} {A : Nat} (h : e_CC M D w) (h4 : M' 77 4 = nI A) (h5 : M' 77 5 = M 77 5) (hf : ∀ x, x ≠ 77 → M' x = M x) : e_CC M' (e_setA D A) w := by
  obtain ⟨⟨a1, a2, a3, a4⟩, b, c, d⟩ := h
  refine ⟨⟨by rw [h5]; exact a1, h4, fun p hp => by rw [hf 78 (by decide), hf 79 (by decide), hf 80 (by decide)]; exact a3 p hp, fun j hj => by rw [hf 81 (by decide)]; exact a4 j hj⟩, e_fCCa b (fun a ha => hf a (by omega)), e_fCTown c (fun a ha => hf a (by omega)), ?_⟩
  exact e_fCach d (fun a ha => hf a (by omega))
theorem e_mcA {f f' : Nat → Int32} {D : e_D} {w : e_W} {A : Nat} (h : e_MC f D w) (hn : dN D ≤ 6) (h24 : ∀ p, p < dN D → f' (24 + p) = nI (A / 2 ^ p % 2)) (hf : ∀ j, ¬ (24 ≤ j ∧ j < 30) → f' j = f j) : e_MC f' (e_setA D A) w := by
  obtain ⟨t1, t2, t3, t4, t5, t6, t7⟩ := h
  refine ⟨e_fMTown t1 (fun j hj => hf j (by omega)), by rw [hf _ (by omega)]; exact t2, by rw [hf _ (by omega)]; exact t3, by rw [hf _ (by omega)]; exact t4, fun p hp => ?_, fun j hj => by rw [hf _ (by omega)]; exact t6 j hj, fun i hi => by rw [hf _ (by omega)]; exact t7 i hi⟩
  have hp2 : p < dN D := hp
  rw [hf (38 + p) (by omega), hf (44 + p) (by omega), hf (18 + p) (by omega)]
  obtain ⟨u1, u2, u3, u4⟩ := t5 p hp
  exact ⟨u1, u2, u3, h24 p hp⟩
def e_okS (r : Nat) (s : e_D × e_W) : Prop := e_okD s.1 ∧ e_okN r s.2
theorem e_folOk {k a r : Nat} {s : e_D × e_W} (h : e_okS (r + 1) s) (hk : k = 0 ∨ (k = 1 ∧ a < 6) ∨ (k = 2 ∧ a < 6) ∨ (k = 3 ∧ a < 16)) : e_okS r (e_fol k a s) := by
  obtain ⟨h1, h2⟩ := h
  unfold e_fol
  rcases hk with rfl | ⟨rfl, ha⟩ | ⟨rfl, ha⟩ | ⟨rfl, ha⟩
  · exact ⟨h1, e_okNS h2⟩
  · exact ⟨e_okA h1 (e_onB a ha _ h1.2.1).1, e_okNM h2 (by omega)⟩
  · exact ⟨e_okA h1 (e_offB a ha _ h1.2.1).1, e_okNM h2 (by omega)⟩
  · exact ⟨h1, by obtain ⟨q1, q2, q3⟩ := h2; exact ⟨by show s.2.1 + r < 100000; omega, ha, fun i hi => by have := q3 i hi; show s.2.2.2 i + r < 100000; omega⟩⟩
theorem c_follow {k a : Nat} {s : e_D × e_W} {x2 : Int32} {M : ap_Mem} {K : ap_Mem → Prop} (hC : e_CC M s.1 s.2) (hs : e_okS 1 s) (hk : k = 0 ∨ (k = 1 ∧ a < 6) ∨ (k = 2 ∧ a < 6) ∨ (k = 3 ∧ a < 16)) (hx : k ≠ 0 → x2 = nI a) (h : ∀ M', (∀ x, ¬ (76 ≤ x ∧ x ≤ 95) → M' x = M x) → e_CC M' (e_fol k a s).1 (e_fol k a s).2 → K M') : w_X2_follow 76 (nI k) x2 M K := by
  unfold w_X2_follow
  rcases hk with rfl | ⟨rfl, ha⟩ | ⟨rfl, ha⟩ | ⟨rfl, ha⟩
  · rw [if_pos (by decide)]
    exact c_goU hC hs.1 (e_okNW hs.2) (fun M1 f1 h1 => h M1 (fun x hx => f1 x (by omega) (by omega)) h1)
  · rw [if_neg (by decide), if_neg (by decide), if_pos (by decide), hx (by decide)]
    unfold w_X2_follow_44
    rw [c_setAway1 (q := 76 + 1) hC.1.2.1 hs.1.2.1 ha (by decide)]
    exact h _ (fun x hx => by simp (disch := omega) only [ap_mu_n]) (e_ccA hC (by simp (disch := omega) only [mu_s]) (by simp (disch := omega) only [mu_o]) (fun x hx => by simp (disch := omega) only [ap_mu_n]))
  · rw [if_neg (by decide), if_neg (by decide), if_neg (by decide), hx (by decide)]
    unfold w_X2_follow_44
    rw [c_setAway0 (q := 76 + 1) hC.1.2.1 hs.1.2.1 ha]
    exact h _ (fun x hx => by simp (disch := omega) only [ap_mu_n]) (e_ccA hC (by simp (disch := omega) only [mu_s]) (by simp (disch := omega) only [mu_o]) (fun x hx => by simp (disch := omega) only [ap_mu_n]))
  · rw [if_neg (by decide), if_pos (by decide), hx (by decide)]
    rintro _ rfl
    obtain ⟨a1, ⟨a2, a3, a4⟩, a5, a6⟩ := hC
    exact h _ (fun x hx => by simp (disch := omega) only [ap_mu_n]) ⟨e_fCF a1 (fun a ha => by simp (disch := omega) only [ap_mu_n]), ⟨by simp (disch := omega) only [mu_s]; rfl, by simp (disch := omega) only [mu_o]; exact a3, fun i hi => by simp (disch := omega) only [ap_mu_n]; exact a4 i hi⟩, e_fCTown a5 (fun a ha => by simp (disch := omega) only [ap_mu_n]), e_fCach a6 (fun a ha => by simp (disch := omega) only [ap_mu_n])⟩
theorem e_mcCur {f f' : Nat → Int32} {D : e_D} {w : e_W} {c : Nat} (h : e_MC f D w) (hn : dN D ≤ 6) (h1 : f' 1 = nI c) (hf : ∀ j, j ≠ 1 → f' j = f j) : e_MC f' D (w.1, c, w.2.2) := by
  obtain ⟨t1, t2, t3, t4, t5, t6, t7⟩ := h
  refine ⟨e_fMTown t1 (fun j hj => hf j (by omega)), by rw [hf _ (by omega)]; exact t2, h1, by rw [hf _ (by omega)]; exact t4, fun p hp => ?_, fun j hj => by rw [hf _ (by omega)]; exact t6 j hj, fun i hi => by rw [hf _ (by omega)]; exact t7 i hi⟩
  rw [hf (38 + p) (by omega), hf (44 + p) (by omega), hf (18 + p) (by omega), hf (24 + p) (by omega)]
  exact t5 p hp
theorem m_goesBy {k a : Nat} {s : e_D × e_W} {x2 : Int32} {M : ap_Mem} {K : ap_Mem → Prop} (hC : e_MC (M 99) s.1 s.2) (hs : e_okS 1 s) (hk : k = 0 ∨ (k = 1 ∧ a < 6) ∨ (k = 2 ∧ a < 6) ∨ (k = 3 ∧ a < 16)) (hx : k ≠ 0 → x2 = nI a) (h : ∀ M', (∀ x, x ≠ 99 → x ≠ 102 → x ≠ 103 → M' x = M x) → (∀ j, 30 ≤ j → M' 99 j = M 99 j) → e_MC (M' 99) (e_fol k a s).1 (e_fol k a s).2 → K M') : w_X9_goesBy 98 (nI k) x2 M K := by
  have hn := hs.1.1
  unfold w_X9_goesBy
  rcases hk with rfl | ⟨rfl, ha⟩ | ⟨rfl, ha⟩ | ⟨rfl, ha⟩
  · rw [if_pos (by decide)]
    exact m_goes hC hs.1 (e_okNW hs.2) (fun M1 f1 g1 h1 => h M1 f1 (fun j hj => g1 j (by omega)) h1)
  · rw [if_neg (by decide), if_neg (by decide), if_pos (by decide), hx (by decide)]
    unfold w_X9_goesBy_44
    rw [l_24, nI_add, n_vp (by omega), n_cl (by omega)]
    refine ⟨by omega, ?_⟩
    rintro _ rfl
    refine h _ (fun x a b c => by simp (disch := omega) only [ap_mu_n]) (fun j hj => by simp (disch := omega) only [mu_o]) (e_mcA hC hn (fun p hp => ?_) (fun j hj => by simp (disch := omega) only [mu_o]))
    rw [(e_onB a ha _ hs.1.2.1).2.2 p (by omega)]
    by_cases hpa : p = a
    · subst hpa
      rw [if_pos rfl]
      simp (disch := omega) only [mu_s]
      rfl
    · rw [if_neg hpa]
      simp (disch := omega) only [mu_o]
      exact (hC.2.2.2.2.1 p hp).2.2.2
  · rw [if_neg (by decide), if_neg (by decide), if_neg (by decide), hx (by decide)]
    unfold w_X9_goesBy_44
    rw [l_24, nI_add, n_vp (by omega), n_cl (by omega)]
    refine ⟨by omega, ?_⟩
    rintro _ rfl
    refine h _ (fun x a b c => by simp (disch := omega) only [ap_mu_n]) (fun j hj => by simp (disch := omega) only [mu_o]) (e_mcA hC hn (fun p hp => ?_) (fun j hj => by simp (disch := omega) only [mu_o]))
    rw [(e_offB a ha _ hs.1.2.1).2.2 p (by omega)]
    by_cases hpa : p = a
    · subst hpa
      rw [if_pos rfl]
      simp (disch := omega) only [mu_s]
      rfl
    · rw [if_neg hpa]
      simp (disch := omega) only [mu_o]
      exact (hC.2.2.2.2.1 p hp).2.2.2
  · rw [if_neg (by decide), if_pos (by decide), hx (by decide), v_1, k_1]
    refine ⟨trivial, ?_⟩
    rintro _ rfl
    exact h _ (fun x a b c => by simp (disch := omega) only [ap_mu_n]) (fun j hj => by simp (disch := omega) only [mu_o]) (e_mcCur hC hn (by simp (disch := omega) only [mu_s]) (fun j hj => by simp (disch := omega) only [mu_o]))
