/-! doors, firm, sought -/
def e_setP (D : e_D) (p c : Nat) : e_D := (D.1, D.2.1, D.2.2.1, D.2.2.2.1, D.2.2.2.2.1, fun q => if q = p then c else D.2.2.2.2.2.1 q, D.2.2.2.2.2.2)
def e_setV (D : e_D) (p v : Nat) : e_D := (D.1, D.2.1, D.2.2.1, D.2.2.2.1, fun q => if q = p then v else D.2.2.2.2.1 q, D.2.2.2.2.2)
theorem e_setPP (D : e_D) (p c d : Nat) : e_setP (e_setP D p c) p d = e_setP D p d := by
  unfold e_setP
  congr 6
  funext q
  show (if q = p then d else if q = p then c else D.2.2.2.2.2.1 q) = if q = p then d else D.2.2.2.2.2.1 q
  split
  · rfl
  · rfl
theorem e_setVV (D : e_D) (p c d : Nat) : e_setV (e_setV D p c) p d = e_setV D p d := by
  unfold e_setV
  congr 5
  funext q
  show (if q = p then d else if q = p then c else D.2.2.2.2.1 q) = if q = p then d else D.2.2.2.2.1 q
  split
  · rfl
  · rfl
theorem e_okPD {D : e_D} {p c : Nat} (h : e_okD D) (hc : c < 16) : e_okD (e_setP D p c) := by
  refine ⟨h.1, h.2.1, fun q hq => ?_, h.2.2.2⟩
  obtain ⟨a, b, d⟩ := h.2.2.1 q hq
  refine ⟨a, b, ?_⟩
  show (if q = p then c else D.2.2.2.2.2.1 q) < 16
  split
  · exact hc
  · exact d
theorem e_okVD {D : e_D} {p v : Nat} (h : e_okD D) (hv : v ≤ 9) : e_okD (e_setV D p v) := by
  refine ⟨h.1, h.2.1, fun q hq => ?_, h.2.2.2⟩
  obtain ⟨a, b, d⟩ := h.2.2.1 q hq
  refine ⟨a, ?_, d⟩
  show (if q = p then v else D.2.2.2.2.1 q) ≤ 9
  split
  · exact hv
  · exact b
theorem e_rowP {M : ap_Mem} {D : e_D} {p c b ph : Nat} (h : e_Row M D b ph) (hb : b ≠ p) : e_Row M (e_setP D p c) b ph := by
  intro x hx
  have := h x hx
  have e : (if b = p then c else D.2.2.2.2.2.1 b) = D.2.2.2.2.2.1 b := if_neg hb
  unfold e_lurD at this ⊢
  show M 94 ((b * 10 + ph) * 16 + x) = e_tgb (dK D b) (dV D b) (e_lures (e_vs b (dK D b) (dV D b) (if b = p then c else D.2.2.2.2.2.1 b) ph x) (dC D) 6) (e_far (if b = p then c else D.2.2.2.2.2.1 b) x)
  rw [e]
  exact this
theorem e_rowV {M : ap_Mem} {D : e_D} {p v b ph : Nat} (h : e_Row M D b ph) (hb : b ≠ p) : e_Row M (e_setV D p v) b ph := by
  intro x hx
  have := h x hx
  have e : (if b = p then v else D.2.2.2.2.1 b) = D.2.2.2.2.1 b := if_neg hb
  unfold e_lurD at this ⊢
  show M 94 ((b * 10 + ph) * 16 + x) = e_tgb (dK D b) (if b = p then v else D.2.2.2.2.1 b) (e_lures (e_vs b (dK D b) (if b = p then v else D.2.2.2.2.1 b) (dP D b) ph x) (dC D) 6) (e_far (dP D b) x)
  rw [e]
  exact this
theorem c_put {D : e_D} {w : e_W} {p c : Nat} {M : ap_Mem} {K : ap_Mem → Prop} (hC : e_CC M D w) (hp : p < 6) (h : ∀ M', (∀ x, x ≠ 80 → x ≠ 95 → M' x = M x) → e_CC M' (e_setP D p c) w → K M') : w_X2_putPerson 76 (nI p) (nI c) M K := by
  obtain ⟨⟨a1, a2, a3, a4⟩, hb, hc, hd⟩ := hC
  unfold w_X2_putPerson
  rw [n_vp (by omega), n_cl (by omega), show (76 + 4 : Nat) = 80 from rfl, show (76 + 19 : Nat) = 95 from rfl]
  refine ⟨hp, ?_⟩
  rintro _ rfl
  refine ⟨hp, ?_⟩
  rintro _ rfl
  refine h _ (fun x h1 h2 => by simp (disch := omega) only [ap_mu_n]) ⟨⟨by simp (disch := omega) only [ap_mu_n]; exact a1, by simp (disch := omega) only [ap_mu_n]; exact a2, fun q hq => ?_, fun j hj => by simp (disch := omega) only [ap_mu_n]; exact a4 j hj⟩, e_fCCa hb (fun a ha => by simp (disch := omega) only [ap_mu_n]), e_fCTown hc (fun a ha => by simp (disch := omega) only [ap_mu_n]), fun q hq => ?_⟩
  · obtain ⟨u1, u2, u3⟩ := a3 q hq
    refine ⟨by simp (disch := omega) only [ap_mu_n]; exact u1, by simp (disch := omega) only [ap_mu_n]; exact u2, ?_⟩
    show _ = nI (if q = p then c else D.2.2.2.2.2.1 q)
    by_cases hqp : q = p
    · subst hqp
      rw [if_pos rfl]
      simp (disch := omega) only [mu_s, mu_o]
    · rw [if_neg hqp]
      simp (disch := omega) only [mu_o]
      exact u3
  · by_cases hqp : q = p
    · subst hqp
      exact ⟨0, by decide, by simp (disch := omega) only [mu_s]; rfl, fun _ ph _ hbit => by rw [Nat.zero_testBit] at hbit; exact absurd hbit (by decide)⟩
    · obtain ⟨R, r1, r2, r3⟩ := hd q hq
      refine ⟨R, r1, by simp (disch := omega) only [mu_o]; exact r2, fun hqn ph hph hbit => e_rowP (e_fRow (r3 hqn ph hph hbit) (by simp (disch := omega) only [ap_mu_n])) hqp⟩
theorem c_make {D : e_D} {w : e_W} {p c : Nat} {M : ap_Mem} {K : ap_Mem → Prop} (hC : e_CC M D w) (hp : p < 6) (h : ∀ M', (∀ x, x ≠ 79 → x ≠ 95 → M' x = M x) → e_CC M' (e_setV D p c) w → K M') : w_X2_makePerson 76 (nI p) (nI c) M K := by
  obtain ⟨⟨a1, a2, a3, a4⟩, hb, hc, hd⟩ := hC
  unfold w_X2_makePerson
  rw [n_vp (by omega), n_cl (by omega), show (76 + 3 : Nat) = 79 from rfl, show (76 + 19 : Nat) = 95 from rfl]
  refine ⟨hp, ?_⟩
  rintro _ rfl
  refine ⟨hp, ?_⟩
  rintro _ rfl
  refine h _ (fun x h1 h2 => by simp (disch := omega) only [ap_mu_n]) ⟨⟨by simp (disch := omega) only [ap_mu_n]; exact a1, by simp (disch := omega) only [ap_mu_n]; exact a2, fun q hq => ?_, fun j hj => by simp (disch := omega) only [ap_mu_n]; exact a4 j hj⟩, e_fCCa hb (fun a ha => by simp (disch := omega) only [ap_mu_n]), e_fCTown hc (fun a ha => by simp (disch := omega) only [ap_mu_n]), fun q hq => ?_⟩
  · obtain ⟨u1, u2, u3⟩ := a3 q hq
    refine ⟨by simp (disch := omega) only [ap_mu_n]; exact u1, ?_, by simp (disch := omega) only [ap_mu_n]; exact u3⟩
    show _ = nI (if q = p then c else D.2.2.2.2.1 q)
    by_cases hqp : q = p
    · subst hqp
      rw [if_pos rfl]
      simp (disch := omega) only [mu_s, mu_o]
    · rw [if_neg hqp]
      simp (disch := omega) only [mu_o]
      exact u2
  · by_cases hqp : q = p
    · subst hqp
      exact ⟨0, by decide, by simp (disch := omega) only [mu_s]; rfl, fun _ ph _ hbit => by rw [Nat.zero_testBit] at hbit; exact absurd hbit (by decide)⟩
    · obtain ⟨R, r1, r2, r3⟩ := hd q hq
      refine ⟨R, r1, by simp (disch := omega) only [mu_o]; exact r2, fun hqn ph hph hbit => e_rowV (e_fRow (r3 hqn ph hph hbit) (by simp (disch := omega) only [ap_mu_n])) hqp⟩
theorem e_mcP {f f' : Nat → Int32} {D : e_D} {w : e_W} {p c : Nat} (h : e_MC f D w) (hn : dN D ≤ 6) (hp : p < dN D) (h18 : f' (18 + p) = nI c) (hf : ∀ j, j ≠ 18 + p → f' j = f j) : e_MC f' (e_setP D p c) w := by
  obtain ⟨t1, t2, t3, t4, t5, t6, t7⟩ := h
  refine ⟨e_fMTown t1 (fun j hj => hf j (by omega)), by rw [hf _ (by omega)]; exact t2, by rw [hf _ (by omega)]; exact t3, by rw [hf _ (by omega)]; exact t4, fun q hq => ?_, fun j hj => by rw [hf _ (by omega)]; exact t6 j hj, fun i hi => by rw [hf _ (by omega)]; exact t7 i hi⟩
  have hq2 : q < dN D := hq
  obtain ⟨u1, u2, u3, u4⟩ := t5 q hq
  rw [hf (38 + q) (by omega), hf (44 + q) (by omega), hf (24 + q) (by omega)]
  refine ⟨u1, u2, ?_, u4⟩
  show _ = nI (if q = p then c else D.2.2.2.2.2.1 q)
  by_cases hqp : q = p
  · subst hqp
    rw [if_pos rfl]
    exact h18
  · rw [if_neg hqp, hf _ (by omega)]
    exact u3
theorem e_mcV {f f' : Nat → Int32} {D : e_D} {w : e_W} {p c : Nat} (h : e_MC f D w) (hn : dN D ≤ 6) (hp : p < dN D) (h44 : f' (44 + p) = nI c) (hf : ∀ j, j ≠ 44 + p → f' j = f j) : e_MC f' (e_setV D p c) w := by
  obtain ⟨t1, t2, t3, t4, t5, t6, t7⟩ := h
  refine ⟨e_fMTown t1 (fun j hj => hf j (by omega)), by rw [hf _ (by omega)]; exact t2, by rw [hf _ (by omega)]; exact t3, by rw [hf _ (by omega)]; exact t4, fun q hq => ?_, fun j hj => ?_, fun i hi => by rw [hf _ (by omega)]; exact t7 i hi⟩
  · have hq2 : q < dN D := hq
    obtain ⟨u1, u2, u3, u4⟩ := t5 q hq
    rw [hf (38 + q) (by omega), hf (18 + q) (by omega), hf (24 + q) (by omega)]
    refine ⟨u1, ?_, u3, u4⟩
    show _ = nI (if q = p then c else D.2.2.2.2.1 q)
    by_cases hqp : q = p
    · subst hqp
      rw [if_pos rfl]
      exact h44
    · rw [if_neg hqp, hf _ (by omega)]
      exact u2
  · rw [hf _ (by omega)]
    exact t6 j hj
def e_msk (f : Nat → Bool) : Nat → Nat
  | 0 => 0
  | i + 1 => e_msk f i ||| (if f i = true then 2 ^ i else 0)
theorem e_seen {M : ap_Mem} (h : e_Inv M) : ∃ n sf ss, e_SeenC M sf ss n ∧ e_SeenM (M 99) sf ss n := by
  obtain ⟨n, n1, n2, n3, n4⟩ := h.1.2.2.2.2.2.1
  have key : ∀ i, i < n → M 99 (84 + i) = nI (M 99 (84 + i)).toNatClampNeg ∧ M 99 (89 + i) = nI (M 99 (89 + i)).toNatClampNeg ∧ M 24 i = nI (M 99 (84 + i)).toNatClampNeg ∧ M 25 i = nI (M 99 (89 + i)).toNatClampNeg ∧ (M 99 (84 + i)).toNatClampNeg < 16 ∧ (M 99 (89 + i)).toNatClampNeg ≤ 20 := fun i hi => by
    obtain ⟨⟨c, c1, c2, c3⟩, ⟨k, k1, k2, k3⟩⟩ := n4 i hi
    rw [c2, k2, n_cl (by omega), n_cl (by omega)]
    exact ⟨rfl, rfl, c3, k3, c1, k1⟩
  refine ⟨n, fun i => (M 99 (84 + i)).toNatClampNeg, fun i => (M 99 (89 + i)).toNatClampNeg, ⟨n1, n3, fun i hi => ?_⟩, n1, n2, fun i hi => ?_⟩
  · obtain ⟨a, b, c, d, e, f⟩ := key i hi
    exact ⟨c, d, e, f⟩
  · obtain ⟨a, b, c, d, e, f⟩ := key i hi
    exact ⟨a, b, e, f⟩
theorem e_scn {M M' : ap_Mem} {sf ss : Nat → Nat} {n : Nat} (h : e_SeenC M sf ss n) (hf : ∀ a, (23 ≤ a ∧ a ≤ 25) → M' a = M a) : e_SeenC M' sf ss n := by
  unfold e_SeenC at h ⊢
  rw [hf 23 (by omega), hf 24 (by omega), hf 25 (by omega)]
  exact h
theorem e_smn {f f' : Nat → Int32} {sf ss : Nat → Nat} {n : Nat} (h : e_SeenM f sf ss n) (hf : ∀ j, (j = 33 ∨ (84 ≤ j ∧ j < 94)) → f' j = f j) : e_SeenM f' sf ss n := by
  obtain ⟨s1, s2, s3⟩ := h
  exact ⟨s1, by rw [hf _ (by omega)]; exact s2, fun i hi => by rw [hf _ (by omega), hf _ (by omega)]; exact s3 i hi⟩
theorem p_doors (x : Int32) : e_Pair (fun M K => w_X8_doors 0 x M K) (fun M K => w_X9_doors 98 x M K) := by
  intro M hI
  obtain ⟨D, w, hS⟩ := e_open hI
  have hD := e_scD hS
  have hN := e_scOk hS 100 (by decide)
  have hMC := e_scM hS
  obtain ⟨sn, sf, ss, hsC, hsM⟩ := e_seen hI
  obtain ⟨⟨h1, h2, h3, h4, h5, h6, h7⟩, hc, -⟩ := id hS
  show w_X8_doors 0 x M _
  unfold w_X8_doors
  rcases e_ix x (n := dN D) (by omega) with h | ⟨p, hp, rfl⟩
  · rw [c_has0 (q := 0 + 13) h4 h, if_pos rfl]
    show w_X9_doors 98 x M _
    unfold w_X9_doors
    rw [m_isPerson0 (q := 98) h3 (by omega) h, if_pos rfl]
    exact ⟨rfl, hI⟩
  rw [c_has1 (q := 0 + 13) h4 (by omega) hp, if_neg (by decide)]
  refine c_begin hS (fun M1 f1 hC1 hs1 => ?_)
  generalize hF : (fun c => e_asB (e_setP D p c) sf ss sn 21 w 0) = F
  have hF2 : ∀ c, e_asB (e_setP D p c) sf ss sn 21 w 0 = F c := fun c => by rw [← hF]
  have cl : ∀ (K : Int32 → ap_Mem → Prop) (m j c : Nat) (D1 : e_D) (w1 : e_W) (M2 : ap_Mem), c + j = 16 → (∀ d, e_setP D1 p d = e_setP D p d) → (∀ x, ¬ (76 ≤ x ∧ x ≤ 95) → M2 x = M x) → e_CC M2 D1 w1 → e_CStart M2 w → (∀ M', (∀ x, ¬ (76 ≤ x ∧ x ≤ 95) → M' x = M x) → K (nI (e_msk F 16)) M') → w_X8_doors_31 0 K (m + 1 + j) (nI p) (nI (e_msk F c)) (nI c) M2 := by
    intro K m j
    induction j with
    | zero =>
      intro c D1 w1 M2 hc hDD f2 hC hst h
      have : c = 16 := by omega
      subst this
      show w_X8_doors_31_s (w_X8_doors_31 0 K m) 0 (nI p) _ (nI 16) M2 K
      unfold w_X8_doors_31_s
      rw [if_pos (by decide)]
      exact h M2 f2
    | succ j ih =>
      intro c D1 w1 M2 hc hDD f2 hC hst h
      have hc16 : c < 16 := by omega
      show w_X8_doors_31_s (w_X8_doors_31 0 K (m + 1 + j)) 0 (nI p) _ (nI c) M2 K
      unfold w_X8_doors_31_s
      rw [if_neg (by rw [l_16, n_le (by decide) (by omega)]; omega)]
      refine c_put hC (by omega) (fun M3 f3 h3 => ?_)
      rw [hDD c] at h3
      have f30 : ∀ x, ¬ (76 ≤ x ∧ x ≤ 95) → M3 x = M x := fun x hx => by rw [f3 x (by omega) (by omega), f2 x hx]
      refine c_as h3 (e_fCSt hst (fun a ha => f3 a (by omega) (by omega))) (e_okPD hD hc16) hN (e_scn hsC (fun a ha => f30 a (by omega))) (fun M4 w4 f4 h4 => ?_)
      rw [hF2 c]
      have nx := ih (c + 1) (e_setP D p c) w4 M4 (by omega) (fun d => e_setPP D p c d) (fun x hx => by rw [f4 x (by omega) (by omega), f30 x hx]) h4 (e_fCSt hst (fun a ha => by rw [f4 a (by omega) (by omega), f3 a (by omega) (by omega)])) h
      have em : e_msk F (c + 1) = e_msk F c ||| (if F c = true then 2 ^ c else 0) := rfl
      rw [em] at nx
      cases hb : F c with
      | false =>
        rw [hb, if_neg (by decide), Nat.or_zero] at nx
        rw [if_pos (by decide)]
        unfold w_X8_doors_69
        rintro _ rfl
        rw [nI_1]
        exact nx
      | true =>
        rw [hb, if_pos rfl] at nx
        rw [if_neg (by decide)]
        rintro _ rfl
        unfold w_X8_doors_69
        rintro _ rfl
        rw [nI_1, x_shl c hc16, x_or]
        exact nx
  refine cl _ 4079 16 0 D w M1 rfl (fun _ => rfl) f1 hC1 hs1 (fun M2 f12 => ?_)
  have e99 := f12 99 (by omega)
  show w_X9_doors 98 (nI p) M2 _
  unfold w_X9_doors
  rw [m_isPerson1 (q := 98) (by show M2 99 30 = _; rw [e99]; exact h3) (by omega) hp, if_neg (by decide)]
  have mo : ∀ (K : Int32 → ap_Mem → Prop) (m j c : Nat) (M3 : ap_Mem), c + j = 16 → (∀ x, x ≠ 99 → x ≠ 101 → x ≠ 102 → x ≠ 103 → M3 x = M2 x) → (∀ j, M3 99 j = M 99 j) → (∀ M', (∀ x, x ≠ 99 → x ≠ 101 → x ≠ 102 → x ≠ 103 → M' x = M2 x) → (∀ j, M' 99 j = M 99 j) → K (nI (e_msk F 16)) M') → w_X9_doors_14 98 K (m + 1 + j) (nI p) (nI (e_msk F c)) (nI c) M3 := by
    intro K m j
    induction j with
    | zero =>
      intro c M3 hc f3 g3 h
      have : c = 16 := by omega
      subst this
      show w_X9_doors_14_s (w_X9_doors_14 98 K m) 98 (nI p) _ (nI 16) M3 K
      unfold w_X9_doors_14_s
      rw [if_pos (by decide)]
      exact h M3 f3 g3
    | succ j ih =>
      intro c M3 hc f3 g3 h
      have hc16 : c < 16 := by omega
      show w_X9_doors_14_s (w_X9_doors_14 98 K (m + 1 + j)) 98 (nI p) _ (nI c) M3 K
      unfold w_X9_doors_14_s
      rw [if_neg (by rw [l_16, n_le (by decide) (by omega)]; omega)]
      refine m_keeps (fun M4 f4 g4 => ?_)
      have e4 : M4 99 = M 99 := by rw [f4 99 (by decide)]; exact funext g3
      rw [l_18, nI_add, n_vp (by omega), n_cl (by omega), show (98 + 1 : Nat) = 99 from rfl]
      refine ⟨by omega, ?_⟩
      rintro _ rfl
      refine m_are (D := e_setP D p c) (w := w) (e_mcP (f := M 99) hMC h1 hp (by simp (disch := omega) only [mu_s]) (fun j hj => by simp (disch := omega) only [mu_o]; rw [e4])) (e_okPD hD hc16) hN (e_smn hsM (fun j hj => by simp (disch := omega) only [mu_o]; rw [e4])) (fun M5 f5 g5 => ?_)
      rw [hF2 c]
      have nx := ih (c + 1) M5 (by omega) (fun x a b c d => by
        rw [f5 x a c d]
        simp (disch := omega) only [ap_mu_n]
        rw [f4 x b, f3 x a b c d]) (fun j => by
        rw [g5 j]
        split
        · simp (disch := omega) only [ap_mu_n]
          rw [g4 j (by omega), g3 j]
        · simp (disch := omega) only [mu_o]
          rw [e4]) h
      have em : e_msk F (c + 1) = e_msk F c ||| (if F c = true then 2 ^ c else 0) := rfl
      rw [em] at nx
      cases hb : F c with
      | false =>
        rw [hb, if_neg (by decide)] at nx
        rw [if_pos (by decide)]
        unfold w_X9_doors_49
        rintro _ rfl _ rfl
        rw [nI_1, l_0, x_or]
        exact nx
      | true =>
        rw [hb, if_pos rfl] at nx
        rw [if_neg (by decide)]
        unfold w_X9_doors_49
        rintro _ rfl _ rfl
        rw [nI_1, x_shl c hc16, x_or]
        exact nx
  refine mo _ 4079 16 0 M2 rfl (fun _ _ _ _ _ => rfl) (fun j => by rw [e99]) (fun M3 f3 g3 => ⟨rfl, e_keep hI (fun a ha => by rw [f3 a (by omega) (by omega) (by omega) (by omega), f12 a (by omega)]) g3⟩)
