/-! the class's course -/
def e_phD (D : e_D) (w : e_W) : Nat := if e_asks (dC D) = true then w.1 % 10 else 0
theorem e_phL (D : e_D) (w : e_W) : e_phD D w < 10 := by unfold e_phD; split <;> omega
theorem e_runN {vs vs' : Nat → Nat} (h : ∀ l, l < 5 → vs' l = vs l) : ∀ (ts : List e_Tok) (s : List Bool), (∀ t ∈ ts, t.1 ≠ 5) → e_run vs' ts s = e_run vs ts s := by
  intro ts
  induction ts with
  | nil => exact fun _ _ => rfl
  | cons t ts ih =>
    intro s ht
    have e : e_gs vs' t s = e_gs vs t s := by
      have ht5 := ht t (by simp)
      unfold e_gs
      by_cases h6 : t.1 < 6
      · rw [if_pos h6, if_pos h6]
        unfold e_ev
        rw [h t.1 (by omega)]
      · rw [if_neg h6, if_neg h6]
    show e_run vs' ts (e_gs vs' t s) = e_run vs ts (e_gs vs t s)
    rw [e]
    exact ih _ (fun t2 h2 => ht t2 (List.mem_cons_of_mem _ h2))
theorem e_luresN {vs vs' : Nat → Nat} (h : ∀ l, l < 5 → vs' l = vs l) : ∀ (cs : List e_Cls) (x : Int32), e_asks cs = false → e_lures vs' cs x = e_lures vs cs x := by
  intro cs
  induction cs with
  | nil => exact fun _ _ => rfl
  | cons c cs ih =>
    intro x ha
    have ha2 : (c.2.2.any (fun t => t.1 == 5)) = false ∧ e_asks cs = false := by
      unfold e_asks at ha ⊢
      rw [List.any_cons, Bool.or_eq_false_iff] at ha
      exact ha
    have e : e_lure1 vs' c x = e_lure1 vs c x := by
      unfold e_lure1 e_holds
      rw [e_runN h c.2.2 [] (fun t ht h5 => by have := List.any_eq_false.mp ha2.1 t ht; simp [h5] at this)]
    show e_lures vs' cs (e_lure1 vs' c x) = e_lures vs cs (e_lure1 vs c x)
    rw [e]
    exact ih _ ha2.2
theorem e_lurP (D : e_D) (w : e_W) (p c : Nat) : e_lurD D (e_phD D w) p c = e_lurD D w.1 p c := by
  unfold e_lurD e_phD
  by_cases h : e_asks (dC D) = true
  · rw [if_pos h]
    have : e_vs p (dK D p) (dV D p) (dP D p) (w.1 % 10) c = e_vs p (dK D p) (dV D p) (dP D p) w.1 c := by
      funext l
      unfold e_vs
      rw [Nat.mod_mod]
    rw [this]
  · rw [if_neg h]
    refine e_luresN (fun l hl => ?_) _ _ (by simpa using h)
    unfold e_vs
    by_cases h0 : l = 0
    · rw [if_pos h0, if_pos h0]
    by_cases h1 : l = 1
    · rw [if_neg h0, if_neg h0, if_pos h1, if_pos h1]
    by_cases h2 : l = 2
    · rw [if_neg h0, if_neg h0, if_neg h1, if_neg h1, if_pos h2, if_pos h2]
    by_cases h3 : l = 3
    · rw [if_neg h0, if_neg h0, if_neg h1, if_neg h1, if_neg h2, if_neg h2, if_pos h3, if_pos h3]
    by_cases h4 : l = 4
    · rw [if_neg h0, if_neg h0, if_neg h1, if_neg h1, if_neg h2, if_neg h2, if_neg h3, if_neg h3, if_pos h4, if_pos h4]
    · omega
def e_CFolk (M : ap_Mem) (D : e_D) : Prop := M 77 5 = nI (dN D) ∧ M 77 4 = nI (dA D) ∧ (∀ p, p < dN D → M 78 p = nI (dK D p) ∧ M 79 p = nI (dV D p) ∧ M 80 p = nI (dP D p)) ∧ ∀ j, j < 4 * dN D → M 81 j = dL D j
def e_CCarp (M : ap_Mem) (w : e_W) : Prop := M 82 1 = nI w.2.1 ∧ M 82 2 = nI w.1 ∧ ∀ i, i < 16 → M 83 i = nI (w.2.2 i)
def e_CStart (M : ap_Mem) (w : e_W) : Prop := M 84 1 = nI w.2.1 ∧ M 84 2 = nI w.1 ∧ ∀ i, i < 16 → M 85 i = nI (w.2.2 i)
def e_Row (M : ap_Mem) (D : e_D) (p ph : Nat) : Prop := ∀ c, c < 16 → M 94 ((p * 10 + ph) * 16 + c) = e_tgb (dK D p) (dV D p) (e_lurD D ph p c) (e_far (dP D p) c)
def e_Cach (M : ap_Mem) (D : e_D) : Prop := ∀ p, p < 6 → ∃ R, R < 1024 ∧ M 95 p = nI R ∧ (p < dN D → ∀ ph, ph < 10 → R.testBit ph = true → e_Row M D p ph)
def e_CC (M : ap_Mem) (D : e_D) (w : e_W) : Prop := e_CFolk M D ∧ e_CCarp M w ∧ e_CTown M 86 (dC D) ∧ e_Cach M D
theorem e_fCF {M M' : ap_Mem} {D : e_D} (h : e_CFolk M D) (hM : ∀ a, (77 ≤ a ∧ a ≤ 81) → M' a = M a) : e_CFolk M' D := by
  unfold e_CFolk at h ⊢
  rw [hM 77 (by omega), hM 78 (by omega), hM 79 (by omega), hM 80 (by omega), hM 81 (by omega)]
  exact h
theorem e_fCCa {M M' : ap_Mem} {w : e_W} (h : e_CCarp M w) (hM : ∀ a, (82 ≤ a ∧ a ≤ 83) → M' a = M a) : e_CCarp M' w := by
  unfold e_CCarp at h ⊢
  rw [hM 82 (by omega), hM 83 (by omega)]
  exact h
theorem e_fCSt {M M' : ap_Mem} {w : e_W} (h : e_CStart M w) (hM : ∀ a, (84 ≤ a ∧ a ≤ 85) → M' a = M a) : e_CStart M' w := by
  unfold e_CStart at h ⊢
  rw [hM 84 (by omega), hM 85 (by omega)]
  exact h
theorem e_fRow {M M' : ap_Mem} {D : e_D} {p ph : Nat} (h : e_Row M D p ph) (hM : M' 94 = M 94) : e_Row M' D p ph := by
  unfold e_Row at h ⊢
  rw [hM]
  exact h
theorem e_fCach {M M' : ap_Mem} {D : e_D} (h : e_Cach M D) (hM : ∀ a, (94 ≤ a ∧ a ≤ 95) → M' a = M a) : e_Cach M' D := by
  unfold e_Cach e_Row at h ⊢
  rw [hM 94 (by omega), hM 95 (by omega)]
  exact h
theorem e_fCC {M M' : ap_Mem} {D : e_D} {w : e_W} (h : e_CC M D w) (hM : ∀ a, ((77 ≤ a ∧ a ≤ 83) ∨ (86 ≤ a ∧ a ≤ 90) ∨ a = 94 ∨ a = 95) → M' a = M a) : e_CC M' D w :=
  ⟨e_fCF h.1 (fun a ha => hM a (by omega)), e_fCCa h.2.1 (fun a ha => hM a (by omega)), e_fCTown h.2.2.1 (fun a ha => hM a (by omega)), e_fCach h.2.2.2 (fun a ha => hM a (by omega))⟩
theorem c_phase {D : e_D} {w : e_W} {M : ap_Mem} {K : Int32 → ap_Mem → Prop} (h : e_CC M D w) (hw : e_okW w) : w_X2_phase 76 M K = K (nI (e_phD D w)) M := by
  obtain ⟨h1, ⟨k1, k2, k3⟩, ⟨t1, t2, t3, t4, t5, t6, t7, t8, t9⟩, h4⟩ := h
  have ht := hw.1
  unfold w_X2_phase e_phD
  rw [show (76 + 10 : Nat) = 86 from rfl, show (76 + 6 : Nat) = 82 from rfl, t9, k2]
  by_cases ha : e_asks (dC D) = true
  · rw [if_pos ha, if_pos ha, if_neg (by decide), l_10, n_rem (by omega) (by decide) (by decide)]
  · rw [if_neg ha, if_neg ha, if_pos rfl]
    rfl
theorem c_tgb {k v far : Nat} {l : Int32} {M : ap_Mem} {K : Int32 → ap_Mem → Prop} (hk : k ≤ 6) (hf : far < 1000) : w_X2_tugBut (nI k) l (nI v) (nI far) M K = K (e_tgb k v l far) M := by
  have far1 : (nI far = 1) = (far = 1) := by rw [l_1, n_eq (by omega) (by decide)]
  have far0 : (nI far = 0) = (far = 0) := by rw [l_0, n_eq (by omega) (by decide)]
  unfold w_X2_tugBut e_tgb
  simp only [far1, far0]
  rcases (by omega : k = 0 ∨ k = 1 ∨ k = 2 ∨ k = 3 ∨ k = 4 ∨ k = 5 ∨ k = 6) with rfl | rfl | rfl | rfl | rfl | rfl | rfl
  · rw [if_neg (by decide), if_neg (by decide), if_neg (by decide), if_neg (by decide), if_neg (by decide), if_neg (by decide)]; rfl
  · rw [if_pos (by decide)]; rfl
  · rw [if_neg (by decide), if_pos (by decide)]
    show _ = K (if far = 1 then l else 0) M
    split <;> rfl
  · rw [if_neg (by decide), if_neg (by decide), if_pos (by decide)]; rfl
  · rw [if_neg (by decide), if_neg (by decide), if_neg (by decide), if_pos (by decide)]
    show _ = K (if far = 0 then 2 * (l + nI v) else l + nI v - nI far) M
    split <;> rfl
  · rw [if_neg (by decide), if_neg (by decide), if_neg (by decide), if_neg (by decide), if_pos (by decide)]
    show _ = K (if far = 1 then l else if far = 0 then nI v else 0) M
    by_cases h0 : far = 0
    · rw [if_pos h0, if_neg (by omega), if_pos h0]
    · rw [if_neg h0]
      by_cases h1 : far = 1
      · rw [if_pos h1, if_pos h1]
      · rw [if_neg h1, if_neg h1, if_neg h0]
  · rw [if_neg (by decide), if_neg (by decide), if_neg (by decide), if_neg (by decide), if_neg (by decide), if_pos (by decide)]; rfl
theorem x_setb {R ph : Nat} (hR : R < 1024) (hp : ph < 10) : nI R ||| (1 <<< (nI ph &&& 31)) = nI (R ||| 2 ^ ph) ∧ R ||| 2 ^ ph < 1024 := by
  rw [x_shl ph (by omega), x_or]
  exact ⟨rfl, Nat.or_lt_two_pow (n := 10) hR (Nat.pow_lt_pow_right (a := 2) (by decide) hp)⟩
theorem c_r72 {kL : Int32 → Int32 → ap_Mem → Prop} {D : e_D} {w : e_W} {p : Nat} {K : ap_Mem → Prop} (hD : e_okD D) (hw : e_okW w) (hp : p < dN D) (M0 : ap_Mem) (hC : e_CC M0 D w) (hl : ∀ c, c < 16 → M0 92 c = e_lurD D (e_phD D w) p c) (hf : ∀ c, c < 16 → M0 93 c = nI (e_far (dP D p) c)) (h : ∀ M', (∀ x, x ≠ 94 → x ≠ 95 → M' x = M0 x) → e_CC M' D w → (∀ b R, M0 95 b = nI R → R < 1024 → b < 6 → ∃ R', R' < 1024 ∧ M' 95 b = nI R' ∧ (∀ i, i < 10 → R.testBit i = true → R'.testBit i = true) ∧ (b = p → R'.testBit (e_phD D w) = true)) → kL (nI (e_phD D w)) (nI (p + 1)) M') (n : Nat) : ∀ (j c : Nat) (M : ap_Mem), c + j = 16 → (∀ x, x ≠ 94 → M x = M0 x) → (∀ i, (i < (p * 10 + e_phD D w) * 16 ∨ (p * 10 + e_phD D w) * 16 + 16 ≤ i) → M 94 i = M0 94 i) → (∀ b, b < c → M 94 ((p * 10 + e_phD D w) * 16 + b) = e_tgb (dK D p) (dV D p) (e_lurD D (e_phD D w) p b) (e_far (dP D p) b)) → w_X2_reckon_72 kL 76 K (n + 1 + j) (nI (e_phD D w)) (nI p) (nI ((p * 10 + e_phD D w) * 16)) (nI c) M := by
  have hph := e_phL D w
  have hn := hD.1
  obtain ⟨⟨f1, f2, f3, f4⟩, hcar, htown, hcach⟩ := id hC
  obtain ⟨g1, g2, g3⟩ := f3 p hp
  obtain ⟨q1, q2, q3⟩ := hD.2.2.1 p hp
  intro j
  induction j with
  | zero =>
    intro c M hc hM h94 hb
    have : c = 16 := by omega
    subst this
    show w_X2_reckon_72_s kL (w_X2_reckon_72 kL 76 K n) 76 _ (nI p) _ (nI 16) M K
    unfold w_X2_reckon_72_s
    rw [if_pos (by decide)]
    refine ⟨by rw [n_vp (by omega)]; omega, by rw [n_vp (by omega)]; omega, ?_⟩
    rintro _ rfl
    obtain ⟨R, r1, r2, r3⟩ := hcach p (by omega)
    obtain ⟨s1, s2⟩ := x_setb r1 hph
    rw [n_cl (by omega), show (76 + 19 : Nat) = 95 from rfl, hM 95 (by decide), r2, s1]
    unfold w_X2_reckon_147
    rintro _ rfl
    rw [nI_1]
    refine h _ (fun x h1 h2 => by simp (disch := omega) only [ap_mu_n]; exact hM x h1) ⟨e_fCF hC.1 (fun a ha => by simp (disch := omega) only [ap_mu_n]; exact hM a (by omega)), e_fCCa hcar (fun a ha => by simp (disch := omega) only [ap_mu_n]; exact hM a (by omega)), e_fCTown htown (fun a ha => by simp (disch := omega) only [ap_mu_n]; exact hM a (by omega)), fun b hb2 => ?_⟩ (fun b R2 hR2 hR3 hb2 => ?_)
    · by_cases hbp : b = p
      · subst hbp
        refine ⟨R ||| 2 ^ e_phD D w, s2, by simp (disch := omega) only [mu_s], fun _ ph hph2 hbit => ?_⟩
        refine e_fRow (M := M) ?_ (by simp (disch := omega) only [ap_mu_n])
        by_cases he : ph = e_phD D w
        · subst he
          exact fun c hc => hb c hc
        · have : R.testBit ph = true := by
            rw [Nat.testBit_or, Nat.testBit_two_pow] at hbit
            simpa [show ¬ e_phD D w = ph by omega] using hbit
          have r4 := r3 (by omega) ph hph2 this
          intro c hc
          rw [h94 _ (by omega)]
          exact r4 c hc
      · obtain ⟨R2, u1, u2, u3⟩ := hcach b hb2
        refine ⟨R2, u1, by simp (disch := omega) only [mu_o]; rw [hM 95 (by decide)]; exact u2, fun hbn ph hph2 hbit => ?_⟩
        have r4 := u3 hbn ph hph2 hbit
        intro c hc
        simp (disch := omega) only [ap_mu_n]
        rw [h94 _ (by omega)]
        exact r4 c hc
    · by_cases hbp : b = p
      · subst hbp
        have : R2 = R := by
          rw [r2] at hR2
          exact ((n_eq (by omega) (by omega)).mp hR2).symm
        subst this
        refine ⟨R2 ||| 2 ^ e_phD D w, s2, by simp (disch := omega) only [mu_s], fun i hi hb3 => by rw [Nat.testBit_or, hb3, Bool.true_or], fun _ => by rw [Nat.testBit_or, Nat.testBit_two_pow_self, Bool.or_true]⟩
      · exact ⟨R2, hR3, by simp (disch := omega) only [mu_o]; rw [hM 95 (by decide)]; exact hR2, fun i hi hb3 => hb3, fun z => absurd z hbp⟩
  | succ j ih =>
    intro c M hc hM h94 hb
    have hc2 : c < 16 := by omega
    show w_X2_reckon_72_s kL (w_X2_reckon_72 kL 76 K (n + 1 + j)) 76 _ (nI p) _ (nI c) M K
    unfold w_X2_reckon_72_s
    rw [if_neg (by rw [l_16, n_le (by decide) (by omega)]; omega)]
    refine ⟨by rw [n_vp (by omega)]; omega, by rw [n_vp (by omega)]; omega, by rw [n_vp (by omega)]; omega, by rw [n_vp (by omega)]; omega, ?_⟩
    rw [n_cl (by omega), n_cl (by omega), show (76 + 2 : Nat) = 78 from rfl, show (76 + 3 : Nat) = 79 from rfl, show (76 + 16 : Nat) = 92 from rfl, show (76 + 17 : Nat) = 93 from rfl, hM 78 (by decide), hM 79 (by decide), hM 92 (by decide), hM 93 (by decide), g1, g2, hl c hc2, hf c hc2]
    have hfl := e_far_le q3 hc2
    rw [c_tgb q1 (by omega), nI_add]
    refine ⟨by rw [n_vp (by omega)]; omega, ?_⟩
    rintro _ rfl _ rfl
    rw [nI_1, n_cl (by omega)]
    refine ih (c + 1) _ (by omega) (fun x hx => by simp (disch := omega) only [ap_mu_n]; exact hM x hx) (fun i hi => by simp (disch := omega) only [mu_o]; exact h94 i hi) (fun b hb2 => ?_)
    by_cases hbc : b = c
    · subst hbc
      simp (disch := omega) only [mu_s]
    · simp (disch := omega) only [mu_o]
      exact hb b (by omega)
theorem c_reckon {D : e_D} {w : e_W} {M : ap_Mem} {K : ap_Mem → Prop} (hC : e_CC M D w) (hD : e_okD D) (hw : e_okW w) (h : ∀ M', (∀ x, ¬ (91 ≤ x ∧ x ≤ 95) → M' x = M x) → e_CC M' D w → (∀ p, p < dN D → ¬ dA D / 2 ^ p % 2 = 1 → e_Row M' D p (e_phD D w)) → K M') : w_X2_reckon 76 M K := by
  have hph := e_phL D w
  have hn := hD.1
  have lp : ∀ (n j p : Nat) (M1 : ap_Mem), p + j = dN D → (∀ x, ¬ (91 ≤ x ∧ x ≤ 95) → M1 x = M x) → e_CC M1 D w → (∀ b, b < p → ¬ dA D / 2 ^ b % 2 = 1 → ∃ R, R < 1024 ∧ M1 95 b = nI R ∧ R.testBit (e_phD D w) = true) → w_X2_reckon_7 76 K (n + 1 + j) (nI (e_phD D w)) (nI p) M1 := by
    intro n j
    induction j with
    | zero =>
      intro p M1 hp hf hC1 hr
      show w_X2_reckon_7_s (w_X2_reckon_7 76 K n) 76 _ (nI p) M1 K
      unfold w_X2_reckon_7_s
      rw [show (76 + 1 : Nat) = 77 from rfl, hC1.1.1, if_pos (by rw [n_le (by omega) (by omega)]; omega)]
      refine h M1 hf hC1 (fun b hb hA => ?_)
      obtain ⟨R, r1, r2, r3⟩ := hr b (by omega) hA
      obtain ⟨R2, u1, u2, u3⟩ := hC1.2.2.2 b (by omega)
      have : R2 = R := by
        rw [r2] at u2
        exact ((n_eq (by omega) (by omega)).mp u2).symm
      subst this
      exact u3 hb _ hph r3
    | succ j ih =>
      intro p M1 hp hf hC1 hr
      have hpn : p < dN D := by omega
      obtain ⟨⟨f1, f2, f3, f4⟩, hcar, htown, hcach⟩ := id hC1
      obtain ⟨g1, g2, g3⟩ := f3 p hpn
      obtain ⟨q1, q2, q3⟩ := hD.2.2.1 p hpn
      show w_X2_reckon_7_s (w_X2_reckon_7 76 K (n + 1 + j)) 76 _ (nI p) M1 K
      unfold w_X2_reckon_7_s
      rw [show (76 + 1 : Nat) = 77 from rfl, f1, if_neg (by rw [n_le (by omega) (by omega)]; omega), c_isAway f2 hD.2.1 (by omega)]
      have skip : (¬ dA D / 2 ^ p % 2 = 1 → ∃ R, R < 1024 ∧ M1 95 p = nI R ∧ R.testBit (e_phD D w) = true) → w_X2_reckon_147 (w_X2_reckon_7 76 K (n + 1 + j)) 76 (nI (e_phD D w)) (nI p) M1 K := by
        intro hs
        unfold w_X2_reckon_147
        rintro _ rfl
        rw [nI_1]
        refine ih (p + 1) M1 (by omega) hf hC1 (fun b hb hA => ?_)
        by_cases hbp : b = p
        · subst hbp
          exact hs hA
        · exact hr b (by omega) hA
      rcases e_b2 (dA D) p with hA | hA
      · rw [hA, if_pos (by decide)]
        refine ⟨by rw [n_vp (by omega)]; omega, ?_⟩
        obtain ⟨R, r1, r2, r3⟩ := hcach p (by omega)
        rw [n_cl (by omega), show (76 + 19 : Nat) = 95 from rfl, r2, x_bit (by omega) (by omega)]
        by_cases hb : R.testBit (e_phD D w) = true
        · rw [hb, if_pos (by decide)]
          exact skip (fun _ => ⟨R, r1, r2, hb⟩)
        · rw [if_neg (by simp only [e_bi, hb]; decide)]
          refine c_weigh (q := 86) (o := 77) (by omega) (by omega) q1 q2 q3 hph htown g1 g2 g3 (fun M2 x2 l2 fr2 => ?_)
          rintro _ rfl
          rw [l_10, l_16, pk_mul, nI_add, pk_mul, l_0]
          have f2' : ∀ x, ¬ (91 ≤ x ∧ x ≤ 93) → M2 x = M1 x := fun x hx => x2 x (by omega) (by omega) (by omega)
          refine c_r72 hD hw hpn M2 (e_fCC hC1 (fun a ha => f2' a (by omega))) (fun c hc => ?_) fr2 (fun M3 x3 hC3 hR3 => ?_) 4079 16 0 M2 rfl (fun _ _ => rfl) (fun _ _ => rfl) (fun b hb => absurd hb (by omega))
          · rw [l2 c hc]
            rfl
          · refine ih (p + 1) M3 (by omega) (fun x hx => by rw [x3 x (by omega) (by omega), f2' x (by omega), hf x hx]) hC3 (fun b hb2 hA2 => ?_)
            by_cases hbp : b = p
            · subst hbp
              obtain ⟨R', t1, t2, t3, t4⟩ := hR3 b R (by rw [f2' 95 (by omega)]; exact r2) r1 (by omega)
              exact ⟨R', t1, t2, t4 rfl⟩
            · obtain ⟨R2, u1, u2, u3⟩ := hr b (by omega) hA2
              obtain ⟨R', t1, t2, t3, t4⟩ := hR3 b R2 (by rw [f2' 95 (by omega)]; exact u2) u1 (by omega)
              exact ⟨R', t1, t2, t3 _ hph u3⟩
      · rw [hA, if_neg (by decide)]
        exact skip (fun z => absurd hA z)
  unfold w_X2_reckon
  rw [c_phase hC hw]
  have := lp (4095 - dN D) (dN D) 0 M (by omega) (fun _ _ => rfl) hC (fun b hb => absurd hb (by omega))
  rw [show 4095 - dN D + 1 + dN D = 4096 by omega] at this
  exact this
theorem c_tug {D : e_D} {w : e_W} {p c : Nat} {M : ap_Mem} {K : Int32 → ap_Mem → Prop} (hC : e_CC M D w) (hD : e_okD D) (hw : e_okW w) (hp : p < dN D) (hc : c < 16) (hr : ¬ dA D / 2 ^ p % 2 = 1 → e_Row M D p (e_phD D w)) (hK : K (e_tugD D w.1 p c) M) : w_X2_tug 76 (nI p) (nI c) M K := by
  have hph := e_phL D w
  have hn := hD.1
  obtain ⟨⟨f1, f2, f3, f4⟩, ⟨k1, k2, k3⟩, htown, hcach⟩ := id hC
  obtain ⟨g1, g2, g3⟩ := f3 p hp
  obtain ⟨q1, q2, q3⟩ := hD.2.2.1 p hp
  have ht := hw.1
  unfold w_X2_tug
  rw [show (76 + 1 : Nat) = 77 from rfl, c_isAway f2 hD.2.1 (by omega)]
  unfold e_tugD at hK
  rcases e_b2 (dA D) p with hA | hA
  · rw [hA, if_pos (by decide)]
    rw [if_neg (by omega)] at hK
    refine ⟨by rw [n_vp (by omega)]; omega, ?_⟩
    rw [n_cl (by omega), show (76 + 2 : Nat) = 78 from rfl, g1, show (76 + 6 : Nat) = 82 from rfl, k2]
    have hrow := hr (by omega) c hc
    rw [e_lurP] at hrow
    have fin : ∀ s0 : Int32, K (e_tgb (dK D p) (dV D p) (e_lurD D w.1 p c) (e_far (dP D p) c) + s0) M → w_X2_tug_52 76 (nI p) (nI c) s0 M K := by
      intro s0 hs
      unfold w_X2_tug_52
      rw [c_phase hC hw, l_10, l_16, pk_mul, nI_add, pk_mul, nI_add, n_vp (by omega), n_cl (by omega), show (76 + 18 : Nat) = 94 from rfl, hrow]
      exact ⟨by omega, hs⟩
    by_cases h6 : dK D p = 6
    · rw [if_pos (by rw [h6]; rfl)]
      rw [if_pos h6] at hK
      rw [l_4, n_rem (by omega) (by decide) (by decide), pk_mul, nI_add, n_vp (by omega), n_cl (by omega), show (76 + 5 : Nat) = 81 from rfl, f4 _ (by omega)]
      refine ⟨by omega, fin _ ?_⟩
      rw [Nat.mul_comm p 4]
      exact hK
    · rw [if_neg (by rw [l_6, n_eq (by omega) (by decide)]; exact h6)]
      rw [if_neg h6] at hK
      exact fin _ hK
  · rw [hA, if_neg (by decide)]
    rw [if_pos hA] at hK
    exact hK
theorem c_draw {D : e_D} {w : e_W} {c : Nat} {M : ap_Mem} {K : Int32 → ap_Mem → Prop} (hC : e_CC M D w) (hD : e_okD D) (hw : e_okW w) (hc : c < 16) (hr : ∀ p, p < dN D → ¬ dA D / 2 ^ p % 2 = 1 → e_Row M D p (e_phD D w)) (hK : K (e_drwD D w c) M) : w_X2_draw 76 (nI c) M K := by
  have hn := hD.1
  obtain ⟨⟨f1, f2, f3, f4⟩, ⟨k1, k2, k3⟩, ⟨t1, t2, t3, t4, t5, t6, t7, t8, t9⟩, hcach⟩ := id hC
  have lp : ∀ (n j p : Nat), p + j = dN D → w_X2_draw_21 76 K (n + 1 + j) (nI c) (-(nI (e_bored (dC D))) * nI (w.2.2 c) + e_sumD D w.1 c p) (nI p) M := by
    intro n j
    induction j with
    | zero =>
      intro p hp
      have : p = dN D := by omega
      subst this
      show w_X2_draw_21_s (w_X2_draw_21 76 K n) 76 (nI c) _ (nI (dN D)) M K
      unfold w_X2_draw_21_s
      rw [show (76 + 1 : Nat) = 77 from rfl, f1, if_pos (by rw [n_le (by omega) (by omega)]; omega)]
      have e : -(nI (e_bored (dC D))) * nI (w.2.2 c) + e_sumD D w.1 c (dN D) = e_drwD D w c := by
        unfold e_drwD
        grind
      rw [e]
      exact hK
    | succ j ih =>
      intro p hp
      show w_X2_draw_21_s (w_X2_draw_21 76 K (n + 1 + j)) 76 (nI c) _ (nI p) M K
      unfold w_X2_draw_21_s
      rw [show (76 + 1 : Nat) = 77 from rfl, f1, if_neg (by rw [n_le (by omega) (by omega)]; omega)]
      refine c_tug hC hD hw (by omega) hc (hr p (by omega)) ?_
      rintro _ rfl _ rfl
      have := ih (p + 1) (by omega)
      rw [nI_1]
      have e : -(nI (e_bored (dC D))) * nI (w.2.2 c) + e_sumD D w.1 c p + e_tugD D w.1 p c = -(nI (e_bored (dC D))) * nI (w.2.2 c) + e_sumD D w.1 c (p + 1) := by
        show _ = _ + (e_sumD D w.1 c p + e_tugD D w.1 p c)
        grind
      rw [e]
      exact this
  unfold w_X2_draw
  refine ⟨by rw [n_vp (by omega)]; omega, ?_⟩
  rw [n_cl (by omega), show (76 + 10 : Nat) = 86 from rfl, show (76 + 7 : Nat) = 83 from rfl, t8, k3 c hc]
  rintro _ rfl
  have := lp (4095 - dN D) (dN D) 0 (by omega)
  rw [show 4095 - dN D + 1 + dN D = 4096 by omega, show e_sumD D w.1 c 0 = 0 from rfl, show -(nI (e_bored (dC D))) * nI (w.2.2 c) + 0 = -(nI (e_bored (dC D))) * nI (w.2.2 c) by grind] at this
  exact this
/-! the class's step -/
def e_nb (cur j : Nat) : Nat := if j = 0 then (if 4 ≤ cur then cur - 4 else 16) else if j = 1 then (if cur % 4 = 0 then 16 else cur - 1) else if j = 2 then (if cur % 4 = 3 then 16 else cur + 1) else (if cur < 12 then cur + 4 else 16)
theorem e_nbS : ∀ cur, cur < 16 → ∀ j, j < 4 → (e_nb cur j < 16 ∧ nI cur + ap_kT 1 j = nI (e_nb cur j) ∧ e_far cur (e_nb cur j) = 1) ∨ (e_nb cur j = 16 ∧ ((nI cur + ap_kT 1 j < 0 ∨ (0 ≤ nI cur + ap_kT 1 j ∧ nI 16 ≤ nI cur + ap_kT 1 j)) ∨ ∃ c, c < 16 ∧ nI cur + ap_kT 1 j = nI c ∧ e_far cur c ≠ 1)) := by decide +kernel
theorem e_nbA : ∀ cur, cur < 16 → ∀ c, c < 16 → e_far c cur ≤ 1 → c = cur ∨ e_nb cur 0 = c ∨ e_nb cur 1 = c ∨ e_nb cur 2 = c ∨ e_nb cur 3 = c := by decide +kernel
def e_In (cur : Nat) (d : Nat → Int32) (j b : Nat) : Prop := b < 16 ∧ e_far b cur ≤ 1 ∧ ∀ c, c < 16 → (c = cur ∨ ∃ i, i < j ∧ e_nb cur i = c) → d c < d b ∨ (d c = d b ∧ b ≤ c)
theorem e_in4 {cur : Nat} {d : Nat → Int32} {b : Nat} (hc : cur < 16) (h : e_In cur d 4 b) : e_Best cur d b := by
  refine ⟨h.1, h.2.1, fun c hc2 hf => h.2.2 c hc2 ?_⟩
  rcases e_nbA cur hc c hc2 hf with g | g | g | g | g
  · exact Or.inl g
  · exact Or.inr ⟨0, by decide, g⟩
  · exact Or.inr ⟨1, by decide, g⟩
  · exact Or.inr ⟨2, by decide, g⟩
  · exact Or.inr ⟨3, by decide, g⟩
def e_stpC (cap : Nat) (D : e_D) (w : e_W) : e_W := (w.1 + 1, e_nx D w, fun i => if i = e_nx D w then (if w.2.2 i < cap then w.2.2 i + 1 else w.2.2 i) else w.2.2 i)
theorem c_go {D : e_D} {w : e_W} {cap : Nat} {M : ap_Mem} {K : ap_Mem → Prop} (hcap : cap ≤ 1000000) (hC : e_CC M D w) (hD : e_okD D) (hw : e_okW w) (h : ∀ M', (∀ x, ¬ (91 ≤ x ∧ x ≤ 95) → ¬ (82 ≤ x ∧ x ≤ 83) → M' x = M x) → e_CC M' D (e_stpC cap D w) → K M') : w_X2_go 76 (nI cap) M K := by
  have hcur := hw.2.1
  have ht := hw.1
  unfold w_X2_go
  refine c_reckon hC hD hw (fun M1 f1 hC1 hr => ?_)
  obtain ⟨hfo, ⟨k1, k2, k3⟩, htown, hcach⟩ := id hC1
  rw [show (76 + 6 : Nat) = 82 from rfl, k1]
  rintro _ rfl
  refine c_draw hC1 hD hw hcur hr ?_
  have fin : ∀ (b : Nat), e_In w.2.1 (e_drwD D w) 4 b → ∀ kL x3, w_X2_go_21_s kL 76 (nI cap) (nI b) x3 (nI 4) M1 K := by
    intro b hb kL x3
    have hB := e_in4 hcur hb
    have : b = e_nx D w := e_bestU hB (e_nxB hw)
    subst this
    have hb16 := hB.1
    have hl := hw.2.2 _ hb16
    unfold w_X2_go_21_s
    rw [if_pos (by decide)]
    rintro _ rfl
    rw [n_vp (by omega), n_cl (by omega), show (76 + 6 : Nat) = 82 from rfl, show (76 + 7 : Nat) = 83 from rfl]
    refine ⟨hb16, ?_⟩
    have e1 : (ap_mu M1 82 1 (nI (e_nx D w))) 83 (e_nx D w) = nI (w.2.2 (e_nx D w)) := by simp (disch := omega) only [ap_mu_n]; exact k3 _ hb16
    have e2 : ∀ M2 : ap_Mem, M2 82 2 = M1 82 2 → w_X2_go_145 76 M2 K = K (ap_mu M2 82 2 (nI (w.1 + 1))) := fun M2 h2 => by
      unfold w_X2_go_145
      rw [show (76 + 6 : Nat) = 82 from rfl, h2, k2, nI_1]
      simp only [forall_eq]
    rw [e1]
    by_cases hc : cap ≤ w.2.2 (e_nx D w)
    · rw [if_pos (by rw [n_le (by omega) (by omega)]; exact hc), e2 _ (by simp (disch := omega) only [mu_o])]
      refine h _ (fun x g1 g2 => by simp (disch := omega) only [ap_mu_n]; exact f1 x g1) ⟨e_fCF hfo (fun a ha => by simp (disch := omega) only [ap_mu_n]), ⟨by simp (disch := omega) only [mu_s, mu_o]; rfl, by simp (disch := omega) only [mu_s]; rfl, fun i hi => ?_⟩, e_fCTown htown (fun a ha => by simp (disch := omega) only [ap_mu_n]), e_fCach hcach (fun a ha => by simp (disch := omega) only [ap_mu_n])⟩
      simp (disch := omega) only [ap_mu_n]
      rw [k3 i hi]
      show _ = nI (if i = e_nx D w then (if w.2.2 i < cap then w.2.2 i + 1 else w.2.2 i) else w.2.2 i)
      by_cases hi2 : i = e_nx D w
      · subst hi2
        rw [if_pos rfl, if_neg (by omega)]
      · rw [if_neg hi2]
    · rw [if_neg (by rw [n_le (by omega) (by omega)]; exact hc)]
      refine ⟨hb16, hb16, ?_⟩
      rintro _ rfl
      rw [e2 _ (by simp (disch := omega) only [mu_o]), nI_1]
      refine h _ (fun x g1 g2 => by simp (disch := omega) only [ap_mu_n]; exact f1 x g1) ⟨e_fCF hfo (fun a ha => by simp (disch := omega) only [ap_mu_n]), ⟨by simp (disch := omega) only [mu_s, mu_o]; rfl, by simp (disch := omega) only [mu_s]; rfl, fun i hi => ?_⟩, e_fCTown htown (fun a ha => by simp (disch := omega) only [ap_mu_n]), e_fCach hcach (fun a ha => by simp (disch := omega) only [ap_mu_n])⟩
      show _ = nI (if i = e_nx D w then (if w.2.2 i < cap then w.2.2 i + 1 else w.2.2 i) else w.2.2 i)
      by_cases hi2 : i = e_nx D w
      · subst hi2
        rw [if_pos rfl, if_pos (by omega)]
        simp (disch := omega) only [mu_s, mu_o]
      · simp (disch := omega) only [mu_o]
        rw [if_neg hi2]
        exact k3 i hi
  have stp : ∀ (j b : Nat) (kL : Int32 → Int32 → Int32 → Int32 → ap_Mem → Prop), j < 4 → e_In w.2.1 (e_drwD D w) j b → (∀ b', e_In w.2.1 (e_drwD D w) (j + 1) b' → kL (nI cap) (nI b') (e_drwD D w b') (nI (j + 1)) M1) → w_X2_go_21_s kL 76 (nI cap) (nI b) (e_drwD D w b) (nI j) M1 K := by
    intro j b kL hj hb hk
    unfold w_X2_go_21_s
    rw [if_neg (by rw [n_le (by decide) (by omega)]; omega)]
    refine ⟨by rw [n_vp (by omega)]; exact hj, ?_⟩
    rw [n_cl (by omega), show (76 + 6 : Nat) = 82 from rfl, k1]
    rintro _ rfl
    have skip : e_In w.2.1 (e_drwD D w) (j + 1) b → w_X2_go_105 kL 76 (nI cap) (nI b) (e_drwD D w b) (nI j) M1 K := by
      intro hb2
      unfold w_X2_go_105
      rintro _ rfl
      rw [nI_1]
      exact hk b hb2
    have old : e_nb w.2.1 j = 16 → e_In w.2.1 (e_drwD D w) (j + 1) b := by
      intro h16
      refine ⟨hb.1, hb.2.1, fun c hc hs => hb.2.2 c hc ?_⟩
      rcases hs with g | ⟨i, g1, g2⟩
      · exact Or.inl g
      · by_cases hij : i = j
        · subst hij
          omega
        · exact Or.inr ⟨i, by omega, g2⟩
    rcases e_nbS w.2.1 hcur j hj with ⟨g1, g2, g3⟩ | ⟨g1, g2 | ⟨c, g2, g3, g4⟩⟩
    · rw [g2, c_isCell1 g1, if_neg (by decide), k1, c_far hcur g1, g3, if_pos (by decide)]
      refine c_draw hC1 hD hw g1 hr ?_
      have tk : e_In w.2.1 (e_drwD D w) (j + 1) (e_nb w.2.1 j) → w_X2_go_99 kL 76 (nI cap) (nI j) (nI (e_nb w.2.1 j)) (e_drwD D w (e_nb w.2.1 j)) M1 K := by
        intro hb2
        unfold w_X2_go_99 w_X2_go_105
        rintro _ rfl
        rw [nI_1]
        exact hk _ hb2
      have new : (∀ c, c < 16 → (e_drwD D w c < e_drwD D w b ∨ (e_drwD D w c = e_drwD D w b ∧ b ≤ c)) → e_drwD D w c < e_drwD D w (e_nb w.2.1 j) ∨ (e_drwD D w c = e_drwD D w (e_nb w.2.1 j) ∧ e_nb w.2.1 j ≤ c)) → e_In w.2.1 (e_drwD D w) (j + 1) (e_nb w.2.1 j) := by
        intro hx
        refine ⟨g1, by rw [e_far_sym, g3]; decide, fun c hc hs => ?_⟩
        by_cases hcn : e_nb w.2.1 j = c
        · subst hcn
          exact Or.inr ⟨rfl, Nat.le_refl _⟩
        · refine hx c hc (hb.2.2 c hc ?_)
          rcases hs with g | ⟨i, i1, i2⟩
          · exact Or.inl g
          · by_cases hij : i = j
            · subst hij
              exact absurd i2 hcn
            · exact Or.inr ⟨i, by omega, i2⟩
      have stay : (e_drwD D w (e_nb w.2.1 j) < e_drwD D w b ∨ (e_drwD D w (e_nb w.2.1 j) = e_drwD D w b ∧ b ≤ e_nb w.2.1 j)) → e_In w.2.1 (e_drwD D w) (j + 1) b := by
        intro hx
        refine ⟨hb.1, hb.2.1, fun c hc hs => ?_⟩
        by_cases hcn : e_nb w.2.1 j = c
        · subst hcn
          exact hx
        · refine hb.2.2 c hc ?_
          rcases hs with g | ⟨i, i1, i2⟩
          · exact Or.inl g
          · by_cases hij : i = j
            · subst hij
              exact absurd i2 hcn
            · exact Or.inr ⟨i, by omega, i2⟩
      have hb16 := hb.1
      by_cases c1 : e_drwD D w b < e_drwD D w (e_nb w.2.1 j)
      · rw [if_pos c1]
        exact tk (new (fun c hc hx => Or.inl (by grind)))
      · rw [if_neg c1]
        by_cases c2 : e_drwD D w (e_nb w.2.1 j) = e_drwD D w b
        · rw [if_pos c2]
          by_cases c3 : b ≤ e_nb w.2.1 j
          · rw [if_pos (by rw [n_le (by omega) (by omega)]; exact c3)]
            exact skip (stay (Or.inr ⟨c2, c3⟩))
          · rw [if_neg (by rw [n_le (by omega) (by omega)]; exact c3)]
            refine tk (new (fun c hc hx => ?_))
            rcases hx with hx | ⟨hx, hx2⟩
            · exact Or.inl (by rw [c2]; exact hx)
            · exact Or.inr ⟨by rw [c2]; exact hx, by omega⟩
        · rw [if_neg c2]
          exact skip (stay (Or.inl (by grind)))
    · rw [c_isCell0 g2, if_pos rfl]
      exact skip (old g1)
    · rw [g3, c_isCell1 g2, if_neg (by decide), k1, c_far hcur g2, if_neg (by rw [l_1, n_eq (by have := e_far_le hcur g2; omega) (by decide)]; exact g4)]
      exact skip (old g1)
  have i0 : e_In w.2.1 (e_drwD D w) 0 w.2.1 := by
    refine ⟨hcur, by rw [e_far0 _ hcur]; decide, fun c hc hs => ?_⟩
    rcases hs with g | ⟨i, i1, i2⟩
    · subst g
      exact Or.inr ⟨rfl, Nat.le_refl _⟩
    · omega
  show w_X2_go_21_s (w_X2_go_21 76 K 4095) 76 (nI cap) (nI w.2.1) _ (nI 0) M1 K
  refine stp 0 w.2.1 _ (by decide) i0 (fun b1 h1 => ?_)
  show w_X2_go_21_s (w_X2_go_21 76 K 4094) 76 (nI cap) (nI b1) _ (nI 1) M1 K
  refine stp 1 b1 _ (by decide) h1 (fun b2 h2 => ?_)
  show w_X2_go_21_s (w_X2_go_21 76 K 4093) 76 (nI cap) (nI b2) _ (nI 2) M1 K
  refine stp 2 b2 _ (by decide) h2 (fun b3 h3 => ?_)
  show w_X2_go_21_s (w_X2_go_21 76 K 4092) 76 (nI cap) (nI b3) _ (nI 3) M1 K
  refine stp 3 b3 _ (by decide) h3 (fun b4 h4 => ?_)
  show w_X2_go_21_s (w_X2_go_21 76 K 4091) 76 (nI cap) (nI b4) _ (nI 4) M1 K
  exact fin b4 h4 _ _
