/-! soonest, call -/
theorem e_ctM {D : e_D} {cell : Nat} : ∀ (n m : Nat) (w : e_W) (i : Nat), e_ct D cell n w i = match e_ct D cell (n + m) w i with | some k => if k < i + n then some k else none | none => none := by
  intro n
  induction n with
  | zero =>
    intro m w i
    cases h : e_ct D cell (0 + m) w i with
    | none => rfl
    | some k =>
      have := e_ctB _ _ _ _ h
      show none = if k < i + 0 then some k else none
      rw [if_neg (by omega)]
  | succ n ih =>
    intro m w i
    rw [show n + 1 + m = n + m + 1 by omega]
    simp only [e_ct]
    by_cases hc : w.2.1 = cell
    · rw [if_pos hc, if_pos hc]
      show some i = if i < i + (n + 1) then some i else none
      rw [if_pos (by omega)]
    · rw [if_neg hc, if_neg hc, ih m]
      cases e_ct D cell (n + m) (e_stp D w) (i + 1) with
      | none => rfl
      | some k =>
        show (if k < i + 1 + n then some k else none) = if k < i + (n + 1) then some k else none
        rw [show i + 1 + n = i + (n + 1) by omega]
def e_so (D : e_D) (w : e_W) (g : Nat) : Nat → Option Nat × Nat
  | 0 => (none, 31)
  | i + 1 => if i = g then e_so D w g i else match e_ct D g (e_so D w g i).2 (w.1, i, w.2.2) 0 with | some k => (some i, k) | none => e_so D w g i
def e_vo (b : Option Nat) : Int32 := match b with | some i => nI i | none => -5
def e_vb (a : Nat) : Int32 := if a = 31 then 1000000000 else nI a
theorem e_soI (D : e_D) (w : e_W) (g : Nat) : ∀ i, (e_so D w g i).2 ≤ 31 ∧ ((e_so D w g i).1 = none ↔ (e_so D w g i).2 = 31) ∧ ∀ b, (e_so D w g i).1 = some b → b < 16 ∨ b < i := by
  intro i
  induction i with
  | zero => exact ⟨Nat.le_refl 31, by simp [e_so], by simp [e_so]⟩
  | succ i ih =>
    simp only [e_so]
    split
    · exact ⟨ih.1, ih.2.1, fun b hb => by have := ih.2.2 b hb; omega⟩
    · cases h : e_ct D g (e_so D w g i).2 (w.1, i, w.2.2) 0 with
      | none => exact ⟨ih.1, ih.2.1, fun b hb => by have := ih.2.2 b hb; omega⟩
      | some k =>
        have hk := e_ctB _ _ _ _ h
        have h1 := ih.1
        refine ⟨by show k ≤ 31; omega, ?_, fun b hb => ?_⟩
        · show some i = none ↔ k = 31
          constructor
          · intro z; cases z
          · intro z; omega
        · have : some i = some b := hb
          cases this
          exact Or.inr (by omega)
theorem e_okX {n : Nat} {w : e_W} {i : Nat} (h : e_okN n w) (hi : i < 16) : e_okN n (w.1, i, w.2.2) := ⟨h.1, hi, h.2.2⟩
theorem c_so {D : e_D} {w : e_W} {g : Nat} {x2 : Int32} {K : Int32 → ap_Mem → Prop} (M0 : ap_Mem) (hD : e_okD D) (hN : e_okN 100 w) (hg : g < 16) (h : ∀ M', (∀ x, ¬ (76 ≤ x ∧ x ≤ 95) → M' x = M0 x) → K (if x2 = 0 then e_vo (e_so D w g 16).1 else match (e_so D w g 16).1 with | some _ => nI (e_so D w g 16).2 | none => -5) M') (n : Nat) : ∀ (j i : Nat) (w1 : e_W) (M : ap_Mem), i + j = 16 → (∀ x, ¬ (76 ≤ x ∧ x ≤ 95) → M x = M0 x) → e_CC M D w1 → e_CStart M w → w_X8_soonest_37 0 K (n + 1 + j) (nI g) x2 (e_vo (e_so D w g i).1) (nI (e_so D w g i).2) (nI i) M := by
  intro j
  induction j with
  | zero =>
    intro i w1 M hi hf hC hs
    have : i = 16 := by omega
    subst this
    show w_X8_soonest_37_s (w_X8_soonest_37 0 K n) 0 (nI g) x2 _ _ (nI 16) M K
    unfold w_X8_soonest_37_s
    rw [if_pos (by decide)]
    have hK := h M hf
    have hI := (e_soI D w g 16)
    by_cases hx : x2 = 0
    · rw [if_pos hx] at hK ⊢
      exact hK
    · rw [if_neg hx] at hK ⊢
      cases hb : (e_so D w g 16).1 with
      | none =>
        rw [hb] at hK
        rw [if_neg (by show ¬ (0 : Int32) ≤ -5; decide)]
        exact hK
      | some b =>
        rw [hb] at hK
        have hb2 := hI.2.2 b hb
        rw [if_pos (by show (0 : Int32) ≤ nI b; rw [l_0]; exact n_nonneg (by omega))]
        exact hK
  | succ j ih =>
    intro i w1 M hi hf hC hs
    have hi16 : i < 16 := by omega
    show w_X8_soonest_37_s (w_X8_soonest_37 0 K (n + 1 + j)) 0 (nI g) x2 _ _ (nI i) M K
    unfold w_X8_soonest_37_s
    rw [if_neg (by rw [l_16, n_le (by decide) (by omega)]; omega)]
    have nx : ∀ (w2 : e_W) (M2 : ap_Mem) (b : Option Nat) (a : Nat), e_so D w g (i + 1) = (b, a) → (∀ x, ¬ (76 ≤ x ∧ x ≤ 95) → M2 x = M0 x) → e_CC M2 D w2 → e_CStart M2 w → w_X8_soonest_98 (w_X8_soonest_37 0 K (n + 1 + j)) 0 (nI g) x2 (e_vo b) (nI a) (nI i) M2 K := by
      intro w2 M2 b a he f2 h2 s2
      unfold w_X8_soonest_98
      rintro _ rfl
      rw [nI_1]
      have := ih (i + 1) w2 M2 (by omega) f2 h2 s2
      rw [he] at this
      exact this
    by_cases hig : i = g
    · rw [if_pos (by rw [hig])]
      exact nx w1 M _ _ (by simp only [e_so]; rw [if_pos hig]) hf hC hs
    · rw [if_neg (by rw [n_eq (by omega) (by omega)]; exact hig)]
      refine c_again hC hs (fun M1 f1 hC1 => ?_)
      rintro _ rfl
      have hC2 : e_CC (ap_mu M1 (0 + 82) 1 (nI i)) D (w.1, i, w.2.2) := by
        obtain ⟨a1, ⟨a2, a3, a4⟩, a5, a6⟩ := hC1
        exact ⟨e_fCF a1 (fun a ha => by simp (disch := omega) only [ap_mu_n]), ⟨by simp (disch := omega) only [mu_s], by simp (disch := omega) only [mu_o]; exact a3, fun i hi => by simp (disch := omega) only [mu_o]; exact a4 i hi⟩, e_fCTown a5 (fun a ha => by simp (disch := omega) only [ap_mu_n]), e_fCach a6 (fun a ha => by simp (disch := omega) only [ap_mu_n])⟩
      have h31 := (e_soI D w g i).1
      refine c_comesTo hD (by omega) hg hC2 (e_okNM (e_okX hN hi16) (by omega)) (fun M2 w2 f2 h2 => ?_)
      have f20 : ∀ x, ¬ (76 ≤ x ∧ x ≤ 95) → M2 x = M0 x := fun x hx => by
        rw [f2 x (by omega) (by omega)]
        simp (disch := omega) only [ap_mu_n]
        rw [f1 x (by omega), hf x hx]
      have s2 : e_CStart M2 w := e_fCSt hs (fun a ha => by
        rw [f2 a (by omega) (by omega)]
        simp (disch := omega) only [ap_mu_n]
        rw [f1 a (by omega)])
      cases hct : e_ct D g (e_so D w g i).2 (w.1, i, w.2.2) 0 with
      | none =>
        show if (-5 : Int32) < 0 then _ else _
        rw [if_pos (by decide)]
        exact nx w2 M2 _ _ (by simp only [e_so]; rw [if_neg hig, hct]) f20 h2 s2
      | some k =>
        have hk := e_ctB _ _ _ _ hct
        show if nI k < 0 then _ else _
        rw [if_neg (by rw [l_0]; exact n_neg (by omega))]
        exact nx w2 M2 (some i) k (by simp only [e_so]; rw [if_neg hig, hct]) f20 h2 s2
theorem e_big : ∀ k, k < 1000 → ¬ nI k = 1000000000 ∧ ¬ (1000000000 : Int32) ≤ nI k ∧ nI k ≤ 1000000000 := by decide +kernel
def e_bo (o : Option Nat) : Int32 := match o with | some k => nI k | none => 1000000000
/-- how the reference takes the lesser -/
theorem e_less {a : Nat} (ha : a ≤ 31) (o : Option Nat) (ho : ∀ k, o = some k → k < 31) : (e_vb a ≤ e_bo o) = ¬ (∃ k, o = some k ∧ k < a) := by
  unfold e_vb
  apply propext
  cases o with
  | none =>
    constructor
    · rintro _ ⟨k, hk, -⟩
      cases hk
    · intro _
      split
      · show (1000000000 : Int32) ≤ 1000000000
        decide
      · exact (e_big a (by omega)).2.2
  | some k =>
    have hk := ho k rfl
    show (if a = 31 then 1000000000 else nI a) ≤ nI k ↔ _
    by_cases h : a = 31
    · rw [if_pos h]
      constructor
      · exact fun z => absurd z (e_big k (by omega)).2.1
      · exact fun z => absurd ⟨k, rfl, by omega⟩ z
    · rw [if_neg h, n_le (by omega) (by omega)]
      constructor
      · rintro h1 ⟨k2, h2, h3⟩
        cases h2
        omega
      · intro h1
        exact Nat.le_of_not_lt (fun z => h1 ⟨k, rfl, z⟩)
theorem m_so {D : e_D} {w : e_W} {g : Nat} {x2 : Int32} {K : Int32 → ap_Mem → Prop} (M0 : ap_Mem) (hMC : e_MC (M0 99) D w) (hD : e_okD D) (hN : e_okN 100 w) (hg : g < 16) (h : ∀ M', (∀ x, x ≠ 99 → x ≠ 101 → x ≠ 102 → x ≠ 103 → M' x = M0 x) → (∀ j, M' 99 j = M0 99 j) → K (if x2 = 0 then e_vo (e_so D w g 16).1 else match (e_so D w g 16).1 with | some _ => nI (e_so D w g 16).2 | none => -5) M') (n : Nat) : ∀ (j i : Nat) (M : ap_Mem), i + j = 16 → (∀ x, x ≠ 99 → x ≠ 101 → x ≠ 102 → x ≠ 103 → M x = M0 x) → (∀ j, M 99 j = M0 99 j) → w_X9_soonest_28 98 K (n + 1 + j) (nI g) x2 (e_vo (e_so D w g i).1) (e_vb (e_so D w g i).2) (nI i) M := by
  intro j
  induction j with
  | zero =>
    intro i M hi hf h9
    have : i = 16 := by omega
    subst this
    show w_X9_soonest_28_s (w_X9_soonest_28 98 K n) 98 (nI g) x2 _ _ (nI 16) M K
    unfold w_X9_soonest_28_s
    rw [if_pos (by decide)]
    have hK := h M hf h9
    have hI := (e_soI D w g 16)
    cases hb : (e_so D w g 16).1 with
    | none =>
      rw [hb] at hK
      rw [if_pos (by rfl)]
      split at hK
      · exact hK
      · exact hK
    | some b =>
      rw [hb] at hK
      have hb2 := hI.2.2 b hb
      have h31 : ¬ (e_so D w g 16).2 = 31 := fun z => by
        have := hI.2.1.mpr z
        rw [hb] at this
        cases this
      have ev : e_vb (e_so D w g 16).2 = nI (e_so D w g 16).2 := if_neg h31
      have hne : ∀ b, b < 16 → ¬ nI b = -5 := by decide +kernel
      rw [if_neg (show ¬ e_vo (some b) = -5 from hne b (by omega)), ev]
      by_cases hx : x2 = 0
      · rw [if_pos hx] at hK ⊢
        exact hK
      · rw [if_neg hx] at hK ⊢
        exact hK
  | succ j ih =>
    intro i M hi hf h9
    have hi16 : i < 16 := by omega
    have e9 : M 99 = M0 99 := funext h9
    have h31 := (e_soI D w g i).1
    have hw := hN
    obtain ⟨t1, t2, t3, t4, t5, t6, t7⟩ := hMC
    show w_X9_soonest_28_s (w_X9_soonest_28 98 K (n + 1 + j)) 98 (nI g) x2 _ _ (nI i) M K
    unfold w_X9_soonest_28_s
    rw [if_neg (by rw [l_16, n_le (by decide) (by omega)]; omega)]
    refine m_keeps (fun M1 f1 g1 => ?_)
    refine ⟨by rw [v_1]; trivial, ?_⟩
    rintro _ rfl
    rw [k_1, show (98 + 1 : Nat) = 99 from rfl]
    have fin : ∀ (o : Option Nat) (M2 : ap_Mem), (∀ k, o = some k → k < 31) → (e_so D w g (i + 1) = if (∃ k, o = some k ∧ k < (e_so D w g i).2) then (some i, o.getD 0) else e_so D w g i) → (∀ x, x ≠ 99 → x ≠ 102 → x ≠ 103 → M2 x = M1 x) → (∀ j, 30 ≤ j → M2 99 j = M1 99 j) → w_X9_soonest_65 (w_X9_soonest_28 98 K (n + 1 + j)) 98 (nI g) x2 (e_vo (e_so D w g i).1) (e_vb (e_so D w g i).2) (nI i) (e_bo o) M2 K := by
      intro o M2 ho hs f2 g2
      unfold w_X9_soonest_65
      refine m_back (fun M3 f3 g3 => ?_)
      have f30 : ∀ x, x ≠ 99 → x ≠ 101 → x ≠ 102 → x ≠ 103 → M3 x = M0 x := fun x a b c d => by rw [f3 x a, f2 x a c d, f1 x b, hf x a b c d]
      have g30 : ∀ j, M3 99 j = M0 99 j := fun j => by
        rw [g3 j, f2 101 (by decide) (by decide) (by decide)]
        split
        · rw [g1 j (by omega), e9]
        · rw [g2 j (by omega), f1 99 (by decide), e9]
      have nx := ih (i + 1) M3 (by omega) f30 g30
      rw [hs] at nx
      have le := e_less h31 o ho
      by_cases hlt : ∃ k, o = some k ∧ k < (e_so D w g i).2
      · rw [if_pos hlt] at nx
        obtain ⟨k, rfl, hk⟩ := hlt
        have nle := e_less h31 (some k) ho
        rw [if_neg (fun z => (nle.mp z) ⟨k, rfl, hk⟩)]
        unfold w_X9_soonest_84
        have : ¬ e_vb (e_so D w g i).2 ≤ nI k := by
          intro z
          exact (nle.mp z) ⟨k, rfl, hk⟩
        show if e_vb (e_so D w g i).2 ≤ nI k then _ else _
        rw [if_neg this]
        unfold w_X9_soonest_99
        rintro _ rfl
        rw [nI_1]
        have hk31 := ho k rfl
        have e2 : e_vb k = nI k := if_neg (by omega)
        show w_X9_soonest_28 98 K (n + 1 + j) (nI g) x2 (nI i) (nI k) (nI (i + 1)) M3
        have nx2 : w_X9_soonest_28 98 K (n + 1 + j) (nI g) x2 (nI i) (e_vb k) (nI (i + 1)) M3 := nx
        rw [e2] at nx2
        exact nx2
      · rw [if_neg hlt] at nx
        rw [if_pos (le.mpr hlt)]
        unfold w_X9_soonest_84
        rw [if_pos (le.mpr hlt)]
        unfold w_X9_soonest_99
        rintro _ rfl
        rw [nI_1]
        exact nx
    by_cases hig : i = g
    · rw [if_pos (by rw [hig])]
      refine fin none _ (fun k hk => by cases hk) ?_ (fun x a b c => by simp (disch := omega) only [ap_mu_n]) (fun j hj => by simp (disch := omega) only [mu_o])
      rw [if_neg (by rintro ⟨k, hk, -⟩; cases hk)]
      simp only [e_so]
      rw [if_pos hig]
    · rw [if_neg (by rw [n_eq (by omega) (by omega)]; exact hig)]
      have hM : e_MC ((ap_mu M1 99 1 (nI i)) 99) D (w.1, i, w.2.2) := by
        have e1 : M1 99 = M0 99 := by rw [f1 99 (by decide), e9]
        refine ⟨e_fMTown t1 (fun j hj => by simp (disch := omega) only [mu_o]; rw [e1]), by simp (disch := omega) only [mu_o]; rw [e1]; exact t2, by simp (disch := omega) only [mu_s], by simp (disch := omega) only [mu_o]; rw [e1]; exact t4, fun p hp => ?_, fun j hj => by simp (disch := omega) only [mu_o]; rw [e1]; exact t6 j hj, fun i hi => by simp (disch := omega) only [mu_o]; rw [e1]; exact t7 i hi⟩
        have hn := hD.1
        simp (disch := omega) only [mu_o]
        rw [e1]
        exact t5 p hp
      refine m_stepsTo (n := 31) hD (by decide) hg hM (e_okNM (e_okX hN hi16) (by decide)) (fun M3 f3 g3 => ?_) 30 (by decide)
      refine fin (e_ct D g 31 (w.1, i, w.2.2) 0) M3 (fun k hk => by have := e_ctB _ _ _ _ hk; omega) ?_ (fun x a b c => by rw [f3 x a b c]; simp (disch := omega) only [ap_mu_n]) (fun j hj => by
        rw [g3 j, if_neg (by omega)]
        simp (disch := omega) only [mu_o])
      have hm := e_ctM (D := D) (cell := g) (e_so D w g i).2 (31 - (e_so D w g i).2) (w.1, i, w.2.2) 0
      rw [show (e_so D w g i).2 + (31 - (e_so D w g i).2) = 31 by omega] at hm
      simp only [e_so]
      rw [if_neg hig, hm]
      cases e_ct D g 31 (w.1, i, w.2.2) 0 with
      | none =>
        rw [if_neg (by rintro ⟨k, hk, -⟩; cases hk)]
      | some k =>
        show (match (if k < 0 + (e_so D w g i).2 then some k else none) with | some k => (some i, k) | none => e_so D w g i) = _
        by_cases hk : k < (e_so D w g i).2
        · rw [if_pos (by omega), if_pos ⟨k, rfl, hk⟩]
          rfl
        · rw [if_neg (by omega), if_neg (by rintro ⟨k2, h2, h3⟩; cases h2; exact hk h3)]
theorem p_soonest (x y : Int32) : e_Pair (fun M K => w_X8_soonest 0 x y M K) (fun M K => w_X9_soonest 98 x y M K) := by
  intro M hI
  obtain ⟨D, w, hS⟩ := e_open hI
  have hD := e_scD hS
  have hN := e_scOk hS 100 (by decide)
  have hMC := e_scM hS
  show w_X8_soonest 0 x y M _
  unfold w_X8_soonest
  rcases e_ix x (n := 16) (by decide) with h | ⟨g, hg, rfl⟩
  · rw [c_isCell0 h, if_pos rfl]
    show w_X9_soonest 98 x y M _
    unfold w_X9_soonest
    rw [m_isCell0 h, if_pos rfl]
    exact ⟨rfl, hI⟩
  rw [c_isCell1 hg, if_neg (by decide)]
  rcases e_ix y (n := 2) (by decide) with h | ⟨b, hb, rfl⟩
  · rw [c_isEither0 h, if_pos rfl]
    show w_X9_soonest 98 (nI g) y M _
    unfold w_X9_soonest
    rw [m_isCell1 hg, if_neg (by decide), l_1, m_in0 (by decide) h, if_pos rfl]
    exact ⟨rfl, hI⟩
  rw [c_isEither1 hb, if_neg (by decide)]
  refine c_begin hS (fun M1 f1 hC1 hs1 => ?_)
  refine c_so (x2 := nI b) M1 hD hN hg (fun M2 f2 => ?_) 4079 16 0 w M1 rfl (fun _ _ => rfl) hC1 hs1
  have f12 : ∀ x, ¬ (76 ≤ x ∧ x ≤ 95) → M2 x = M x := fun x hx => by rw [f2 x hx, f1 x hx]
  show w_X9_soonest 98 (nI g) (nI b) M2 _
  unfold w_X9_soonest
  rw [m_isCell1 hg, if_neg (by decide), l_0, l_1, m_in1 (by omega) (by omega) (by decide), ← l_0, ← l_1, if_neg (by decide)]
  refine m_so (x2 := nI b) M2 (by rw [f12 99 (by omega)]; exact hMC) hD hN hg (fun M3 f3 g3 => ⟨rfl, e_keep hI (fun a ha => by rw [f3 a (by omega) (by omega) (by omega) (by omega), f12 a (by omega)]) (fun j => by rw [g3 j, f12 99 (by omega)])⟩) 4079 16 0 M2 rfl (fun _ _ _ _ _ => rfl) (fun _ => rfl)
