/-! kept -/
def e_cntN (m : Nat) : Nat → Nat
  | 0 => 0
  | i + 1 => e_cntN m i + (if m.testBit i = true then 1 else 0)
def e_cnt (m : Nat) : Nat := e_cntN m 6
theorem e_cntL (m : Nat) : ∀ i, e_cntN m i ≤ i := by
  intro i
  induction i with
  | zero => exact Nat.le_refl _
  | succ i ih =>
    show e_cntN m i + _ ≤ i + 1
    split <;> omega
def e_b1 (x0 : Int32) : Int32 := x0 - ((x0.toUInt32 >>> ((1 : Int32).toUInt32 &&& Int32.toUInt32 31)).toInt32 &&& 1431655765)
def e_b2' (x0 : Int32) : Int32 := (x0 &&& 858993459) + ((x0.toUInt32 >>> ((2 : Int32).toUInt32 &&& Int32.toUInt32 31)).toInt32 &&& 858993459)
def e_b3 (x0 : Int32) : Int32 := (x0 + (x0.toUInt32 >>> ((4 : Int32).toUInt32 &&& Int32.toUInt32 31)).toInt32) &&& 252645135
def e_b4 (x0 : Int32) : Int32 := x0 + (x0.toUInt32 >>> ((8 : Int32).toUInt32 &&& Int32.toUInt32 31)).toInt32
def e_b5 (x0 : Int32) : Int32 := x0 + (x0.toUInt32 >>> ((16 : Int32).toUInt32 &&& Int32.toUInt32 31)).toInt32
theorem e_bc : ∀ m, m < 64 → e_b5 (e_b4 (e_b3 (e_b2' (e_b1 (nI m))))) &&& 63 = nI (e_cnt m) := by decide +kernel
theorem c_bits {m : Nat} {M : ap_Mem} {K : Int32 → ap_Mem → Prop} (hm : m < 64) : w_J6_bitCount_0f7a4 (nI m) M K = K (nI (e_cnt m)) M := by
  have : w_J6_bitCount_0f7a4 (nI m) M K = K (e_b5 (e_b4 (e_b3 (e_b2' (e_b1 (nI m))))) &&& 63) M := by
    unfold w_J6_bitCount_0f7a4
    simp only [forall_eq]
    rfl
  rw [this, e_bc m hm]
theorem m_cnt {m : Nat} {M : ap_Mem} {K : Int32 → ap_Mem → Prop} (hm : m < 64) : w_X9_countOf (nI m) M K = K (nI (e_cnt m)) M := by
  have lp : ∀ (n j i : Nat), i + j = 6 → w_X9_countOf_4 K (n + 1 + j) (nI m) (nI (e_cntN m i)) (nI i) M = K (nI (e_cnt m)) M := by
    intro n j
    induction j with
    | zero =>
      intro i hi
      have : i = 6 := by omega
      subst this
      show w_X9_countOf_4_s (w_X9_countOf_4 K n) (nI m) _ (nI 6) M K = _
      unfold w_X9_countOf_4_s
      rw [if_pos (by decide)]
      rfl
    | succ j ih =>
      intro i hi
      show w_X9_countOf_4_s (w_X9_countOf_4 K (n + 1 + j)) (nI m) _ (nI i) M K = _
      unfold w_X9_countOf_4_s
      rw [if_neg (by rw [l_6, n_le (by decide) (by omega)]; omega), x_bit (by omega) (by omega)]
      simp only [forall_eq, nI_1]
      rw [← ih (i + 1) (by omega)]
      have : nI (e_cntN m i) + e_bi (m.testBit i) = nI (e_cntN m (i + 1)) := by
        show _ = nI (e_cntN m i + (if m.testBit i = true then 1 else 0))
        cases m.testBit i
        · show nI (e_cntN m i) + 0 = _
          rw [l_0, nI_add]
          rfl
        · show nI (e_cntN m i) + 1 = _
          rw [nI_1]
          rfl
      rw [this]
  unfold w_X9_countOf
  exact lp 4089 6 0 rfl
theorem e_ctN {D : e_D} {g : Nat} : ∀ (n : Nat) (w : e_W) (i j : Nat), (e_ct D g n w i).isNone = (e_ct D g n w j).isNone := by
  intro n
  induction n with
  | zero => exact fun _ _ _ => rfl
  | succ n ih =>
    intro w i j
    simp only [e_ct]
    split
    · rfl
    · exact ih _ _ _
def e_kp (D : e_D) (w : e_W) (g m : Nat) : Bool := (e_ct (e_setA D (dA D ||| m)) g 30 (e_stp (e_setA D (dA D ||| m)) w) 0).isNone
def e_x3 (b : Option Nat) : Nat := match b with | none => 7 | some b => e_cnt b
def e_ke (F : Nat → Bool) : Nat → Option Nat
  | 0 => none
  | m + 1 => if e_cnt m < e_x3 (e_ke F m) ∧ F m = true then some m else e_ke F m
theorem e_keB (F : Nat → Bool) : ∀ m b, e_ke F m = some b → b < m := by
  intro m
  induction m with
  | zero => intro b h; cases h
  | succ m ih =>
    intro b h
    simp only [e_ke] at h
    split at h
    · cases h
      omega
    · have := ih b h
      omega
theorem e_bN (a q : Nat) : a / 2 ^ q % 2 = if a.testBit q = true then 1 else 0 := by
  rw [Nat.testBit_eq_decide_div_mod_eq]
  by_cases h : a / 2 ^ q % 2 = 1
  · rw [h]; rfl
  · have : a / 2 ^ q % 2 = 0 := by omega
    rw [this]; rfl
theorem p_kept (x : Int32) : e_Pair (fun M K => w_X8_kept 0 x M K) (fun M K => w_X9_kept 98 x M K) := by
  intro M hI
  obtain ⟨D, w, hS⟩ := e_open hI
  have hD := e_scD hS
  have hN := e_scOk hS 100 (by decide)
  have hMC := e_scM hS
  obtain ⟨⟨h1, h2, h3, h4, h5, h6, h7⟩, hc, -⟩ := id hS
  show w_X8_kept 0 x M _
  unfold w_X8_kept
  rcases e_ix x (n := 16) (by decide) with h | ⟨g, hg, rfl⟩
  · rw [c_isCell0 h, if_pos rfl]
    show w_X9_kept 98 x M _
    unfold w_X9_kept
    rw [m_isCell0 h, if_pos rfl]
    exact ⟨rfl, hI⟩
  rw [c_isCell1 hg, if_neg (by decide)]
  refine c_begin hS (fun M1 f1 hC1 hs1 => ?_)
  have hp64 : 2 ^ dN D ≤ 64 := Nat.pow_le_pow_right (n := 2) (by decide) (show dN D ≤ 6 by omega)
  have oA : ∀ m, m < 64 → dA D ||| m < 64 := fun m hm => Nat.or_lt_two_pow (n := 6) h2 hm
  generalize hF : (fun m => e_kp D w g m) = F
  have hF2 : ∀ m, e_kp D w g m = F m := fun m => by rw [← hF]
  have hc6 : ∀ m, e_cnt m ≤ 6 := fun m => e_cntL m 6
  have hx7 : ∀ b, e_x3 b ≤ 7 := fun b => by
    cases b with
    | none => exact Nat.le_refl 7
    | some b => have := hc6 b; show e_cnt b ≤ 7; omega
  have cl : ∀ (K : Int32 → ap_Mem → Prop) (n j m : Nat) (D1 : e_D) (w1 : e_W) (M2 : ap_Mem), m + j = 2 ^ dN D → (∀ d, e_setA D1 d = e_setA D d) → (∀ x, ¬ (76 ≤ x ∧ x ≤ 95) → M2 x = M x) → e_CC M2 D1 w1 → e_CStart M2 w → (∀ M', (∀ x, ¬ (76 ≤ x ∧ x ≤ 95) → M' x = M x) → K (e_vo (e_ke F (2 ^ dN D))) M') → w_X8_kept_29 0 K (n + 1 + j) (nI g) (e_vo (e_ke F m)) (nI (e_x3 (e_ke F m))) (nI m) M2 := by
    intro K n j
    induction j with
    | zero =>
      intro m D1 w1 M2 hm hDD f2 hC hst h
      have : m = 2 ^ dN D := by omega
      rw [this]
      show w_X8_kept_29_s (w_X8_kept_29 0 K n) 0 (nI g) _ _ (nI (2 ^ dN D)) M2 K
      unfold w_X8_kept_29_s
      rw [show (0 + 13 : Nat) = 13 from rfl, f2 13 (by omega), h4, x_shl _ (by omega), if_pos (by rw [n_le (by omega) (by omega)]; omega)]
      exact h M2 f2
    | succ j ih =>
      intro m D1 w1 M2 hm hDD f2 hC hst h
      have hm64 : m < 64 := by omega
      show w_X8_kept_29_s (w_X8_kept_29 0 K (n + 1 + j)) 0 (nI g) _ _ (nI m) M2 K
      unfold w_X8_kept_29_s
      rw [show (0 + 13 : Nat) = 13 from rfl, f2 13 (by omega), h4, x_shl _ (by omega), if_neg (by rw [n_le (by omega) (by omega)]; omega), c_bits hm64]
      have b1 := hc6 m
      have b2 := hx7 (e_ke F m)
      have keep : ∀ (D2 : e_D) (w2 : e_W) (M3 : ap_Mem), e_ke F (m + 1) = e_ke F m → (∀ d, e_setA D2 d = e_setA D d) → (∀ x, ¬ (76 ≤ x ∧ x ≤ 95) → M3 x = M x) → e_CC M3 D2 w2 → e_CStart M3 w → w_X8_kept_118 (w_X8_kept_29 0 K (n + 1 + j)) 0 (nI g) (e_vo (e_ke F m)) (nI (e_x3 (e_ke F m))) (nI m) M3 K := by
        intro D2 w2 M3 he hd f3 h3' hs3
        unfold w_X8_kept_118
        rintro _ rfl
        rw [nI_1]
        have nx := ih (m + 1) D2 w2 M3 (by omega) hd f3 h3' hs3 h
        rw [he] at nx
        exact nx
      by_cases hlt : e_cnt m < e_x3 (e_ke F m)
      · rw [if_pos (by rw [n_lt (by omega) (by omega)]; exact hlt)]
        refine c_again hC hst (fun M3 f3 h3' => ?_)
        have e13 : M3 13 4 = nI (dA D) := by rw [f3 13 (by omega), f2 13 (by omega)]; exact h5
        rw [e13, x_or]
        rintro _ rfl
        have hA := e_ccA (A := dA D ||| m) (M' := ap_mu M3 (0 + 77) 4 (nI (dA D ||| m))) h3' (by simp (disch := omega) only [mu_s]) (by simp (disch := omega) only [mu_o]) (fun x hx => by simp (disch := omega) only [ap_mu_n])
        rw [hDD] at hA
        rw [l_1]
        refine c_goSteps (n := 1) (e_okA hD (oA m hm64)) (by decide) hA (e_okNM hN (by decide)) (fun M4 f4 h4' => ?_)
        refine c_comesTo (n := 30) (e_okA hD (oA m hm64)) (by decide) hg h4' (e_itN 1 30 w (e_okNM hN (by decide))) (fun M5 w5 f5 h5' => ?_)
        have f50 : ∀ x, ¬ (76 ≤ x ∧ x ≤ 95) → M5 x = M x := fun x hx => by
          rw [f5 x (by omega) (by omega), f4 x (by omega) (by omega)]
          simp (disch := omega) only [ap_mu_n]
          rw [f3 x (by omega), f2 x hx]
        have hst5 : e_CStart M5 w := e_fCSt hst (fun a ha => by
          rw [f5 a (by omega) (by omega), f4 a (by omega) (by omega)]
          simp (disch := omega) only [ap_mu_n]
          rw [f3 a (by omega)])
        have hk := hF2 m
        unfold e_kp at hk
        have eit : e_it (e_setA D (dA D ||| m)) 1 w = e_stp (e_setA D (dA D ||| m)) w := rfl
        rw [eit]
        cases hct : e_ct (e_setA D (dA D ||| m)) g 30 (e_stp (e_setA D (dA D ||| m)) w) 0 with
        | some k =>
          rw [hct] at hk
          have hkb := e_ctB _ _ _ _ hct
          show if (0 : Int32) ≤ nI k then _ else _
          rw [if_pos (by rw [l_0]; exact n_nonneg (by omega))]
          have hk2 : F m = false := hk.symm
          exact keep (e_setA D (dA D ||| m)) w5 M5 (by simp only [e_ke]; rw [if_neg (fun z => by rw [hk2] at z; exact absurd z.2 (by decide))]) (fun d => rfl) f50 h5' hst5
        | none =>
          rw [hct] at hk
          show if (0 : Int32) ≤ -5 then _ else _
          rw [if_neg (by decide), c_bits hm64]
          unfold w_X8_kept_118
          rintro _ rfl
          rw [nI_1]
          have nx := ih (m + 1) (e_setA D (dA D ||| m)) w5 M5 (by omega) (fun d => rfl) f50 h5' hst5 h
          simp only [e_ke] at nx
          rw [if_pos ⟨hlt, by rw [← hk]; rfl⟩] at nx
          exact nx
      · rw [if_neg (by rw [n_lt (by omega) (by omega)]; exact hlt)]
        exact keep D1 w1 M2 (by simp only [e_ke]; rw [if_neg (fun z => hlt z.1)]) hDD f2 hC hst
  have hcl := cl (fun r1 M1 => w_X9_kept 98 (nI g) M1 (fun r2 M2 => r1 = r2 ∧ e_Inv M2)) (4095 - 2 ^ dN D) (2 ^ dN D) 0 D w M1 (by omega) (fun _ => rfl) f1 hC1 hs1 (fun M2 f12 => ?_)
  · rw [show 4095 - 2 ^ dN D + 1 + 2 ^ dN D = 4096 by omega] at hcl
    exact hcl
  have e99 := f12 99 (by omega)
  unfold w_X9_kept
  rw [m_isCell1 hg, if_neg (by decide)]
  -- one mask
  have one : ∀ (K : Int32 → ap_Mem → Prop) (m : Nat) (M3 : ap_Mem), m < 64 → (∀ j, M3 99 j = M 99 j) → (∀ M', (∀ x, x ≠ 99 → x ≠ 101 → x ≠ 102 → x ≠ 103 → M' x = M3 x) → (∀ j, M' 99 j = M 99 j) → K (e_bi (F m)) M') → w_X9_isKept 98 (nI g) (nI m) M3 K := by
    intro K m M3 hm g3 h
    unfold w_X9_isKept
    refine m_keeps (fun M4 f4 g4 => ?_)
    have e4 : M4 99 = M 99 := by rw [f4 99 (by decide)]; exact funext g3
    have out : ∀ (b : Bool) (M5 : ap_Mem), F m = b → (∀ x, x ≠ 99 → x ≠ 102 → x ≠ 103 → M5 x = M4 x) → (∀ j, 30 ≤ j → M5 99 j = M 99 j) → w_X9_isKept_96 98 (e_bi b) M5 K := by
      intro b M5 hb f5 g5
      unfold w_X9_isKept_96
      refine m_back (fun M6 f6 g6 => ⟨by unfold e_bi; split <;> simp [b_1, b_0], ?_⟩)
      rw [← hb]
      refine h M6 (fun x a b c d => by rw [f6 x a, f5 x a c d, f4 x b]) (fun j => ?_)
      rw [g6 j, f5 101 (by decide) (by decide) (by decide)]
      split
      · rw [g4 j (by omega), g3 j]
      · exact g5 j (by omega)
    have lp59 : ∀ (n r i : Nat) (w1 : e_W) (M5 : ap_Mem), i + r = 31 → (∀ x, x ≠ 99 → x ≠ 102 → x ≠ 103 → M5 x = M4 x) → (∀ j, 30 ≤ j → M5 99 j = M 99 j) → e_MC (M5 99) (e_setA D (dA D ||| m)) w1 → e_okN r w1 → (e_ct (e_setA D (dA D ||| m)) g r (e_stp (e_setA D (dA D ||| m)) w1) 0).isNone = F m → w_X9_isKept_59 98 K (n + 1 + 1 + r) (nI g) 1 (nI i) M5 := by
      intro n r
      induction r with
      | zero =>
        intro i w1 M5 hi f5 g5 hC5 hN5 hk
        show w_X9_isKept_59_s (w_X9_isKept_59 98 K (n + 1)) 98 (nI g) 1 (nI i) M5 K
        unfold w_X9_isKept_59_s
        rw [if_pos (by rw [l_30, n_lt (by decide) (by omega)]; omega)]
        exact out true M5 hk.symm f5 g5
      | succ r ih =>
        intro i w1 M5 hi f5 g5 hC5 hN5 hk
        show w_X9_isKept_59_s (w_X9_isKept_59 98 K (n + 1 + 1 + r)) 98 (nI g) 1 (nI i) M5 K
        unfold w_X9_isKept_59_s
        rw [if_neg (by rw [l_30, n_lt (by decide) (by omega)]; omega), if_neg (by decide)]
        refine m_goes hC5 (e_okA hD (oA m hm)) (e_okNW hN5) (fun M6 f6 g6 hC6 => ?_)
        have hcur := (e_okNW (e_okNS (D := e_setA D (dA D ||| m)) hN5)).2.1
        rw [v_1, k_1, show (98 + 1 : Nat) = 99 from rfl, hC6.2.2.1]
        refine ⟨trivial, ?_⟩
        have f60 : ∀ x, x ≠ 99 → x ≠ 102 → x ≠ 103 → M6 x = M4 x := fun x a b c => by rw [f6 x a b c, f5 x a b c]
        have g60 : ∀ j, 30 ≤ j → M6 99 j = M 99 j := fun j hj => by rw [g6 j (by omega), g5 j hj]
        by_cases hcc : (e_stp (e_setA D (dA D ||| m)) w1).2.1 = g
        · rw [if_pos (by rw [hcc])]
          unfold w_X9_isKept_89
          rintro _ rfl
          rw [nI_1, show n + 1 + 1 + r = (n + 1 + r) + 1 by omega]
          show w_X9_isKept_59_s (w_X9_isKept_59 98 K (n + 1 + r)) 98 (nI g) 0 (nI (i + 1)) M6 K
          unfold w_X9_isKept_59_s
          simp only [e_ct, if_pos hcc] at hk
          have o := out false M6 hk.symm f60 g60
          rw [if_pos rfl]
          split
          · exact o
          · exact o
        · rw [if_neg (by rw [n_eq (by omega) (by omega)]; exact hcc)]
          unfold w_X9_isKept_89
          rintro _ rfl
          rw [nI_1]
          simp only [e_ct, if_neg hcc] at hk
          refine ih (i + 1) _ M6 (by omega) f60 g60 hC6 (e_okNS hN5) (by rw [← hk]; exact e_ctN _ _ _ _)
    have lp6 : ∀ (n j q : Nat) (M5 : ap_Mem), q + j = dN D → (∀ x, x ≠ 99 → M5 x = M4 x) → (∀ i, i < q → M5 99 (24 + i) = nI ((dA D ||| m) / 2 ^ i % 2)) → (∀ j, ¬ (24 ≤ j ∧ j < 24 + q) → M5 99 j = M 99 j) → w_X9_isKept_6 98 K (n + 1 + j) (nI g) (nI m) (nI q) M5 := by
      intro n j
      induction j with
      | zero =>
        intro q M5 hq f5 a5 g5
        have : q = dN D := by omega
        subst this
        show w_X9_isKept_6_s (w_X9_isKept_6 98 K n) 98 (nI g) (nI m) (nI (dN D)) M5 K
        unfold w_X9_isKept_6_s
        rw [v_30, k_30, show (98 + 1 : Nat) = 99 from rfl, g5 30 (by omega), h3, if_pos (by rw [n_le (by omega) (by omega)]; omega)]
        refine ⟨trivial, ?_⟩
        have hk := hF2 m
        unfold e_kp at hk
        exact lp59 4064 30 1 w M5 rfl (fun x a b c => f5 x a) (fun j hj => g5 j (by omega)) (e_mcA (f := M 99) hMC h1 a5 (fun j hj => g5 j (by omega))) (e_okNM hN (by decide)) hk
      | succ j ih =>
        intro q M5 hq f5 a5 g5
        show w_X9_isKept_6_s (w_X9_isKept_6 98 K (n + 1 + j)) 98 (nI g) (nI m) (nI q) M5 K
        unfold w_X9_isKept_6_s
        rw [v_30, k_30, show (98 + 1 : Nat) = 99 from rfl, g5 30 (by omega), h3, if_neg (by rw [n_le (by omega) (by omega)]; omega), x_bit (by omega) (by omega), l_24, nI_add, n_vp (by omega), n_cl (by omega), g5 (24 + q) (by omega), (hMC.2.2.2.2.1 q (by omega)).2.2.2]
        refine ⟨trivial, ?_⟩
        have key : ∀ s0 : Int32, s0 = nI ((dA D ||| m) / 2 ^ q % 2) → w_X9_isKept_47 (w_X9_isKept_6 98 K (n + 1 + j)) 98 (nI g) (nI m) (nI q) s0 (nI (24 + q)) M5 K := by
          rintro _ rfl
          unfold w_X9_isKept_47
          rw [n_vp (by omega), n_cl (by omega)]
          refine ⟨by omega, ?_⟩
          rintro _ rfl _ rfl
          rw [nI_1]
          refine ih (q + 1) _ (by omega) (fun x hx => by simp (disch := omega) only [ap_mu_n]; exact f5 x hx) (fun i hi => ?_) (fun j hj => by simp (disch := omega) only [mu_o]; exact g5 j (by omega))
          by_cases hiq : i = q
          · subst hiq
            simp (disch := omega) only [mu_s]
          · simp (disch := omega) only [mu_o]
            exact a5 i (by omega)
        have eb := e_bN (dA D ||| m) q
        rw [Nat.testBit_or] at eb
        cases hb : m.testBit q with
        | true =>
          rw [if_pos (by decide)]
          rw [hb, Bool.or_true, if_pos rfl] at eb
          exact key 1 (by rw [eb]; rfl)
        | false =>
          rw [if_neg (by decide)]
          rw [hb, Bool.or_false, ← e_bN] at eb
          exact ⟨by omega, key _ (by rw [eb])⟩
    have := lp6 (4095 - dN D) (dN D) 0 M4 (by omega) (fun _ _ => rfl) (fun i hi => absurd hi (by omega)) (fun j _ => by rw [e4])
    rw [show 4095 - dN D + 1 + dN D = 4096 by omega] at this
    exact this
  have mo : ∀ (K : Int32 → ap_Mem → Prop) (n j m : Nat) (M3 : ap_Mem), m + j = 2 ^ dN D → (∀ x, x ≠ 99 → x ≠ 101 → x ≠ 102 → x ≠ 103 → M3 x = M2 x) → (∀ j, M3 99 j = M 99 j) → (∀ M', (∀ x, x ≠ 99 → x ≠ 101 → x ≠ 102 → x ≠ 103 → M' x = M2 x) → (∀ j, M' 99 j = M 99 j) → K (e_vo (e_ke F (2 ^ dN D))) M') → w_X9_kept_14 98 K (n + 1 + j) (nI g) (e_vo (e_ke F m)) (nI m) M3 := by
    intro K n j
    induction j with
    | zero =>
      intro m M3 hm f3 g3 h
      have : m = 2 ^ dN D := by omega
      rw [this]
      show w_X9_kept_14_s (w_X9_kept_14 98 K n) 98 (nI g) _ (nI (2 ^ dN D)) M3 K
      unfold w_X9_kept_14_s
      rw [v_30, k_30, show (98 + 1 : Nat) = 99 from rfl, g3 30, h3, x_shl _ (by omega), if_pos (by rw [n_le (by omega) (by omega)]; omega)]
      exact ⟨trivial, h M3 f3 g3⟩
    | succ j ih =>
      intro m M3 hm f3 g3 h
      have hm64 : m < 64 := by omega
      show w_X9_kept_14_s (w_X9_kept_14 98 K (n + 1 + j)) 98 (nI g) _ (nI m) M3 K
      unfold w_X9_kept_14_s
      rw [v_30, k_30, show (98 + 1 : Nat) = 99 from rfl, g3 30, h3, x_shl _ (by omega), if_neg (by rw [n_le (by omega) (by omega)]; omega)]
      refine ⟨trivial, ?_⟩
      have stay : ∀ (M4 : ap_Mem), e_ke F (m + 1) = e_ke F m → (∀ x, x ≠ 99 → x ≠ 101 → x ≠ 102 → x ≠ 103 → M4 x = M2 x) → (∀ j, M4 99 j = M 99 j) → w_X9_kept_69 (w_X9_kept_14 98 K (n + 1 + j)) 98 (nI g) (e_vo (e_ke F m)) (nI m) M4 K := by
        intro M4 he f4 g4
        unfold w_X9_kept_69 w_X9_kept_70
        rintro _ rfl
        rw [nI_1]
        have nx := ih (m + 1) M4 (by omega) f4 g4 h
        rw [he] at nx
        exact nx
      have try1 : e_cnt m < e_x3 (e_ke F m) → w_X9_kept_44 (w_X9_kept_14 98 K (n + 1 + j)) 98 (nI g) (e_vo (e_ke F m)) (nI m) M3 K := by
        intro hlt
        unfold w_X9_kept_44 w_X9_kept_49
        rw [if_neg (by decide)]
        refine one _ m M3 hm64 g3 (fun M4 f4 g4 => ?_)
        have f40 : ∀ x, x ≠ 99 → x ≠ 101 → x ≠ 102 → x ≠ 103 → M4 x = M2 x := fun x a b c d => by rw [f4 x a b c d, f3 x a b c d]
        cases hb : F m with
        | false =>
          rw [if_pos (by decide)]
          exact stay M4 (by simp only [e_ke]; rw [if_neg (fun z => by rw [hb] at z; exact absurd z.2 (by decide))]) f40 g4
        | true =>
          rw [if_neg (by decide)]
          unfold w_X9_kept_70
          rintro _ rfl
          rw [nI_1]
          have nx := ih (m + 1) M4 (by omega) f40 g4 h
          simp only [e_ke] at nx
          rw [if_pos ⟨hlt, hb⟩] at nx
          exact nx
      cases hb : e_ke F m with
      | none =>
        rw [hb] at try1
        rw [if_pos (by rfl)]
        exact try1 (by have := hc6 m; show e_cnt m < 7; omega)
      | some b =>
        have hbm := e_keB F m b hb
        have hne : ∀ b, b < 64 → ¬ nI b = -5 := by decide +kernel
        rw [hb] at try1 stay
        rw [show e_vo (some b) = nI b from rfl] at try1 stay ⊢
        rw [if_neg (hne b (by omega)), m_cnt hm64, m_cnt (by omega)]
        have b1 := hc6 m
        have b2 := hc6 b
        by_cases hlt : e_cnt m < e_cnt b
        · rw [if_neg (by rw [n_le (by omega) (by omega)]; omega)]
          exact try1 hlt
        · rw [if_pos (by rw [n_le (by omega) (by omega)]; omega)]
          unfold w_X9_kept_49
          rw [if_pos rfl]
          exact stay M3 (by simp only [e_ke]; rw [hb, if_neg (fun z => hlt z.1)]) f3 g3
  have hmo := mo (fun r2 M3 => e_vo (e_ke F (2 ^ dN D)) = r2 ∧ e_Inv M3) (4095 - 2 ^ dN D) (2 ^ dN D) 0 M2 (by omega) (fun _ _ _ _ _ => rfl) (fun j => by rw [e99]) (fun M3 f3 g3 => ⟨rfl, e_keep hI (fun a ha => by rw [f3 a (by omega) (by omega) (by omega) (by omega), f12 a (by omega)]) g3⟩)
  rw [show 4095 - 2 ^ dN D + 1 + 2 ^ dN D = 4096 by omega] at hmo
  exact hmo
