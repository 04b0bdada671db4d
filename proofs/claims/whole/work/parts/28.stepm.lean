/-! a course: what stays (D: clauses, persons, who is away, KIND, V, CELL, LINE) and what goes (w: STEP, the carpet's cell, LAIN) -/
abbrev e_D : Type := List e_Cls × Nat × Nat × (Nat → Nat) × (Nat → Nat) × (Nat → Nat) × (Nat → Int32)
abbrev e_W : Type := Nat × Nat × (Nat → Nat)
abbrev dC (D : e_D) : List e_Cls := D.1
abbrev dN (D : e_D) : Nat := D.2.1
abbrev dA (D : e_D) : Nat := D.2.2.1
abbrev dK (D : e_D) : Nat → Nat := D.2.2.2.1
abbrev dV (D : e_D) : Nat → Nat := D.2.2.2.2.1
abbrev dP (D : e_D) : Nat → Nat := D.2.2.2.2.2.1
abbrev dL (D : e_D) : Nat → Int32 := D.2.2.2.2.2.2
def e_okD (D : e_D) : Prop := dN D ≤ 6 ∧ dA D < 64 ∧ (∀ p, p < dN D → dK D p ≤ 6 ∧ dV D p ≤ 9 ∧ dP D p < 16) ∧ ∀ c ∈ dC D, e_clsOK c
def e_okW (w : e_W) : Prop := w.1 < 100000 ∧ w.2.1 < 16 ∧ ∀ i, i < 16 → w.2.2 i < 100000
def e_tgb (k v : Nat) (l : Int32) (far : Nat) : Int32 :=
  if k = 1 then l + nI v - nI far else if k = 2 then (if far = 1 then l else 0) else if k = 3 then (l - 2 * nI far) / 2 else if k = 4 then (if far = 0 then 2 * (l + nI v) else l + nI v - nI far) else if k = 5 then (if far = 1 then l else if far = 0 then nI v else 0) else if k = 6 then (l - 2 * nI far) / 2 else l - 2 * nI far
def e_lurD (D : e_D) (t p c : Nat) : Int32 := e_lures (e_vs p (dK D p) (dV D p) (dP D p) t c) (dC D) 6
def e_tugD (D : e_D) (t p c : Nat) : Int32 := if dA D / 2 ^ p % 2 = 1 then 0 else e_tgb (dK D p) (dV D p) (e_lurD D t p c) (e_far (dP D p) c) + (if dK D p = 6 then dL D (4 * p + t % 4) else 0)
def e_sumD (D : e_D) (t c : Nat) : Nat → Int32
  | 0 => 0
  | p + 1 => e_sumD D t c p + e_tugD D t p c
def e_drwD (D : e_D) (w : e_W) (c : Nat) : Int32 := e_sumD D w.1 c (dN D) - nI (e_bored (dC D)) * nI (w.2.2 c)
/-- the reference's numbers of it -/
def e_MC (f : Nat → Int32) (D : e_D) (w : e_W) : Prop := e_MTown f (dC D) ∧ f 30 = nI (dN D) ∧ f 1 = nI w.2.1 ∧ f 0 = nI w.1 ∧ (∀ p, p < dN D → f (38 + p) = nI (dK D p) ∧ f (44 + p) = nI (dV D p) ∧ f (18 + p) = nI (dP D p) ∧ f (24 + p) = nI (dA D / 2 ^ p % 2)) ∧ (∀ j, j < 4 * dN D → f (50 + j) = dL D j) ∧ ∀ i, i < 16 → f (2 + i) = nI (w.2.2 i)
theorem m_tellsB {cs : List e_Cls} {M : ap_Mem} {K : Int32 → ap_Mem → Prop} (h : e_MTown (M 99) cs) : w_X9_tellsOf 98 226 2 M K = K (nI (e_bored cs)) M := by
  unfold w_X9_tellsOf
  simp only [v_37, k_37, true_and, show (98 + 1 : Nat) = 99 from rfl]
  rcases h with ⟨h37, hcs⟩ | ⟨r, r1, r2, r3, r4, r5, r6⟩
  · rw [h37, if_pos rfl]
    subst hcs
    rfl
  · rw [r2, if_neg (n_m1 (by omega)), l_226, nI_add, n_vp (by omega), n_cl (by omega), r3]
    apply propext
    constructor
    · exact fun h => h.2
    · exact fun h => ⟨by omega, h⟩
theorem m_lur {D : e_D} {w : e_W} {p c : Nat} {M : ap_Mem} {K : Int32 → ap_Mem → Prop} (h : e_MC (M 99) D w) (hD : e_okD D) (hw : e_okW w) (hp : p < dN D) (hc : c < 16) (hK : ∀ M', (∀ x, x ≠ 102 → x ≠ 103 → M' x = M x) → K (e_lurD D w.1 p c) M') : w_X9_lureOf 98 (nI p) (nI c) M K := by
  obtain ⟨h1, h2, h3, h4, h5, h6, h7⟩ := h
  obtain ⟨d1, d2, d3, d4⟩ := hD
  obtain ⟨p1, p2, p3, p4⟩ := h5 p hp
  obtain ⟨q1, q2, q3⟩ := d3 p hp
  exact m_lureOf h1 d4 (by omega) p1 q1 p2 q2 p3 q3 h4 (by have := hw.1; omega) hc hK
theorem m_tug {D : e_D} {w : e_W} {p c : Nat} {M : ap_Mem} {K : Int32 → ap_Mem → Prop} (h : e_MC (M 99) D w) (hD : e_okD D) (hw : e_okW w) (hp : p < dN D) (hc : c < 16) (hK : ∀ M', (∀ x, x ≠ 102 → x ≠ 103 → M' x = M x) → K (e_tugD D w.1 p c) M') : w_X9_tugOf 98 (nI p) (nI c) M K := by
  have hMC := h
  obtain ⟨h1, h2, h3, h4, h5, h6, h7⟩ := h
  have hD2 := hD
  obtain ⟨d1, d2, d3, d4⟩ := hD
  obtain ⟨p1, p2, p3, p4⟩ := h5 p hp
  obtain ⟨q1, q2, q3⟩ := d3 p hp
  have ht := hw.1
  have z0 : ∀ x : Int32, x + 0 = x := fun x => by grind
  unfold w_X9_tugOf
  rw [l_24, l_18, l_44, l_38, l_50, nI_add, nI_add, nI_add, nI_add, n_vp (by omega), n_vp (by omega), n_vp (by omega), n_vp (by omega), n_cl (by omega), n_cl (by omega), n_cl (by omega), n_cl (by omega)]
  refine ⟨by omega, ?_⟩
  rw [show (98 + 1 : Nat) = 99 from rfl, p4]
  by_cases hA : dA D / 2 ^ p % 2 = 1
  · rw [if_pos (by rw [hA]; rfl)]
    have := hK M (fun _ _ _ => rfl)
    unfold e_tugD at this
    rw [if_pos hA] at this
    exact this
  · rw [if_neg (by rw [l_1, n_eq (by omega) (by decide)]; exact hA)]
    refine m_lur hMC hD2 hw hp hc (fun M1 f1 => ?_)
    have e99 : M1 99 = M 99 := f1 99 (by decide) (by decide)
    refine ⟨by omega, ?_⟩
    rw [e99, p3, m_far q3 hc]
    refine ⟨by omega, ?_⟩
    rintro _ rfl
    refine ⟨by omega, ?_⟩
    rw [e99, p1, p2]
    have hK1 := hK M1 f1
    unfold e_tugD at hK1
    rw [if_neg hA] at hK1
    have hf := e_far_le q3 hc
    unfold e_tgb at hK1
    have i0 : ∀ (P : Prop) [Decidable P], P → ∀ a b : Prop, a → (if P then a else b) := fun P _ h a b x => by rw [if_pos h]; exact x
    have far1 : (nI (e_far (dP D p) c) = 1) = (e_far (dP D p) c = 1) := by rw [l_1, n_eq (by omega) (by decide)]
    have far0 : (nI (e_far (dP D p) c) = 0) = (e_far (dP D p) c = 0) := by rw [l_0, n_eq (by omega) (by decide)]
    simp only [far1, far0]
    rcases (by omega : dK D p = 0 ∨ dK D p = 1 ∨ dK D p = 2 ∨ dK D p = 3 ∨ dK D p = 4 ∨ dK D p = 5 ∨ dK D p = 6) with e | e | e | e | e | e | e
    · rw [e] at hK1 ⊢
      rw [if_neg (by decide), if_neg (by decide), if_neg (by decide), if_neg (by decide), if_neg (by decide), if_neg (by decide), if_neg (by decide), z0] at hK1
      rw [if_neg (by decide), if_neg (by decide), if_neg (by decide), if_neg (by decide), if_neg (by decide), if_neg (by decide)]
      exact hK1
    · rw [e] at hK1 ⊢
      rw [if_pos rfl, if_neg (by decide), z0] at hK1
      rw [if_pos (by decide)]
      exact hK1
    · rw [e] at hK1 ⊢
      rw [if_neg (by decide), if_pos rfl, if_neg (show ¬ (2 : Nat) = 6 by decide), z0] at hK1
      rw [if_neg (by decide), if_pos (by decide)]
      by_cases g : e_far (dP D p) c = 1
      · rw [if_pos g] at hK1 ⊢
        exact hK1
      · rw [if_neg g] at hK1 ⊢
        exact hK1
    · rw [e] at hK1 ⊢
      rw [if_neg (by decide), if_neg (by decide), if_pos rfl, if_neg (by decide), z0] at hK1
      rw [if_neg (by decide), if_neg (by decide), if_pos (by decide)]
      exact hK1
    · rw [e] at hK1 ⊢
      rw [if_neg (by decide), if_neg (by decide), if_neg (by decide), if_pos rfl, if_neg (show ¬ (4 : Nat) = 6 by decide), z0] at hK1
      rw [if_neg (by decide), if_neg (by decide), if_neg (by decide), if_pos (by decide)]
      by_cases g : e_far (dP D p) c = 0
      · rw [if_pos g] at hK1 ⊢
        exact hK1
      · rw [if_neg g] at hK1 ⊢
        exact hK1
    · rw [e] at hK1 ⊢
      rw [if_neg (by decide), if_neg (by decide), if_neg (by decide), if_neg (by decide), if_pos rfl, if_neg (show ¬ (5 : Nat) = 6 by decide), z0] at hK1
      rw [if_neg (by decide), if_neg (by decide), if_neg (by decide), if_neg (by decide), if_pos (by decide)]
      by_cases g : e_far (dP D p) c = 1
      · rw [if_pos g] at hK1 ⊢
        exact hK1
      · rw [if_neg g] at hK1 ⊢
        by_cases g0 : e_far (dP D p) c = 0
        · rw [if_pos g0] at hK1 ⊢
          exact hK1
        · rw [if_neg g0] at hK1 ⊢
          exact hK1
    · rw [e] at hK1 ⊢
      rw [if_neg (by decide), if_neg (by decide), if_neg (by decide), if_neg (by decide), if_neg (by decide), if_pos rfl, if_pos rfl] at hK1
      rw [if_neg (by decide), if_neg (by decide), if_neg (by decide), if_neg (by decide), if_neg (by decide), if_pos (by decide)]
      refine ⟨by rw [v_0]; trivial, ?_⟩
      rw [k_0, h4, l_4, n_rem (by omega) (by decide) (by decide), pk_mul, nI_add, nI_add, n_vp (by omega), n_cl (by omega)]
      refine ⟨by omega, ?_⟩
      rw [Nat.add_assoc, h6 _ (by omega)]
      exact hK1
theorem m_draw {D : e_D} {w : e_W} {c : Nat} {M : ap_Mem} {K : Int32 → ap_Mem → Prop} (h : e_MC (M 99) D w) (hD : e_okD D) (hw : e_okW w) (hc : c < 16) (hK : ∀ M', (∀ x, x ≠ 102 → x ≠ 103 → M' x = M x) → K (e_drwD D w c) M') : w_X9_drawOf 98 (nI c) M K := by
  have lp : ∀ (n j p : Nat) (M1 : ap_Mem), p + j = dN D → (∀ x, x ≠ 102 → x ≠ 103 → M1 x = M x) → w_X9_drawOf_4 98 K (n + 1 + j) (nI c) (e_sumD D w.1 c p) (nI p) M1 := by
    intro n j
    induction j with
    | zero =>
      intro p M1 hp hf
      have e99 : M1 99 = M 99 := hf 99 (by decide) (by decide)
      have hpn : p = dN D := by omega
      subst hpn
      show w_X9_drawOf_4_s (w_X9_drawOf_4 98 K n) 98 (nI c) (e_sumD D w.1 c (dN D)) (nI (dN D)) M1 K
      unfold w_X9_drawOf_4_s
      have hn := hD.1
      refine ⟨by rw [v_30]; trivial, ?_⟩
      rw [k_30, show (98 + 1 : Nat) = 99 from rfl, e99, h.2.1, if_pos (by rw [n_le (by omega) (by omega)]; omega), m_tellsB (by rw [e99]; exact h.1), l_2, nI_add, n_vp (by omega), n_cl (by omega)]
      refine ⟨by omega, ?_⟩
      rw [e99, h.2.2.2.2.2.2 c hc]
      exact hK M1 hf
    | succ j ih =>
      intro p M1 hp hf
      have e99 : M1 99 = M 99 := hf 99 (by decide) (by decide)
      have hn := hD.1
      show w_X9_drawOf_4_s (w_X9_drawOf_4 98 K (n + 1 + j)) 98 (nI c) (e_sumD D w.1 c p) (nI p) M1 K
      unfold w_X9_drawOf_4_s
      refine ⟨by rw [v_30]; trivial, ?_⟩
      rw [k_30, show (98 + 1 : Nat) = 99 from rfl, e99, h.2.1, if_neg (by rw [n_le (by omega) (by omega)]; omega)]
      refine m_tug (by rw [e99]; exact h) hD hw (by omega) hc (fun M2 f2 => ?_)
      rintro _ rfl _ rfl
      rw [nI_1]
      exact ih (p + 1) M2 (by omega) (fun x h1 h2 => by rw [f2 x h1 h2, hf x h1 h2])
  unfold w_X9_drawOf
  have := lp (4095 - dN D) (dN D) 0 M (by omega) (fun _ _ _ => rfl)
  have hn := hD.1
  rw [show 4095 - dN D + 1 + dN D = 4096 by omega] at this
  exact this
/-! where the carpet goes: the first of the greatest draws, of its own cell and those beside it -/
def e_pick (cur : Nat) (d : Nat → Int32) : Nat → Nat
  | 0 => 16
  | c + 1 => if e_far c cur ≤ 1 ∧ (e_pick cur d c = 16 ∨ d (e_pick cur d c) < d c) then c else e_pick cur d c
def e_nx (D : e_D) (w : e_W) : Nat := e_pick w.2.1 (e_drwD D w) 16
def e_stp (D : e_D) (w : e_W) : e_W := (w.1 + 1, e_nx D w, fun i => if i = e_nx D w then w.2.2 i + 1 else w.2.2 i)
def e_Best (cur : Nat) (d : Nat → Int32) (b : Nat) : Prop := b < 16 ∧ e_far b cur ≤ 1 ∧ ∀ c, c < 16 → e_far c cur ≤ 1 → d c < d b ∨ (d c = d b ∧ b ≤ c)
theorem e_pickS (cur : Nat) (d : Nat → Int32) : ∀ n, n ≤ 16 → (e_pick cur d n = 16 ∧ ∀ c, c < n → ¬ e_far c cur ≤ 1) ∨ (e_pick cur d n < n ∧ e_far (e_pick cur d n) cur ≤ 1 ∧ ∀ c, c < n → e_far c cur ≤ 1 → d c < d (e_pick cur d n) ∨ (d c = d (e_pick cur d n) ∧ e_pick cur d n ≤ c)) := by
  intro n
  induction n with
  | zero => exact fun _ => Or.inl ⟨rfl, fun c hc => absurd hc (by omega)⟩
  | succ n ih =>
    intro hn
    have h := ih (by omega)
    simp only [e_pick]
    split
    · rename_i g
      refine Or.inr ⟨by omega, g.1, fun c hc hf => ?_⟩
      by_cases hcn : c = n
      · subst hcn
        exact Or.inr ⟨rfl, Nat.le_refl _⟩
      · rcases h with h | ⟨h1, h2, h3⟩
        · exact absurd hf (h.2 c (by omega))
        · rcases g.2 with g2 | g2
          · omega
          · rcases h3 c (by omega) hf with h4 | ⟨h4, h5⟩
            · exact Or.inl (by grind)
            · exact Or.inl (by rw [h4]; exact g2)
    · rename_i g
      rcases h with ⟨h1, h2⟩ | ⟨h1, h2, h3⟩
      · refine Or.inl ⟨h1, fun c hc => ?_⟩
        by_cases hcn : c = n
        · subst hcn
          exact fun z => g ⟨z, Or.inl h1⟩
        · exact h2 c (by omega)
      · refine Or.inr ⟨by omega, h2, fun c hc hf => ?_⟩
        by_cases hcn : c = n
        · subst hcn
          have g2 : ¬ d (e_pick cur d c) < d c := fun z => g ⟨hf, Or.inr z⟩
          by_cases g3 : d c < d (e_pick cur d c)
          · exact Or.inl g3
          · exact Or.inr ⟨by grind, by omega⟩
        · exact h3 c (by omega) hf
theorem e_far0 : ∀ a, a < 16 → e_far a a = 0 := by decide +kernel
theorem e_pickB {cur : Nat} (d : Nat → Int32) (h : cur < 16) : e_Best cur d (e_pick cur d 16) := by
  rcases e_pickS cur d 16 (by decide) with ⟨h1, h2⟩ | ⟨h1, h2, h3⟩
  · exact absurd (by rw [e_far0 cur h]; decide) (h2 cur h)
  · exact ⟨h1, h2, h3⟩
theorem e_bestU {cur : Nat} {d : Nat → Int32} {a b : Nat} (ha : e_Best cur d a) (hb : e_Best cur d b) : a = b := by
  have h1 := ha.2.2 b hb.1 hb.2.1
  have h2 := hb.2.2 a ha.1 ha.2.1
  rcases h1 with h1 | ⟨h1, h3⟩ <;> rcases h2 with h2 | ⟨h2, h4⟩
  · exact absurd h1 (by grind)
  · exact absurd h1 (by grind)
  · exact absurd h2 (by grind)
  · omega
theorem e_nxB {D : e_D} {w : e_W} (hw : e_okW w) : e_Best w.2.1 (e_drwD D w) (e_nx D w) := e_pickB _ hw.2.1
theorem m_goes {D : e_D} {w : e_W} {M : ap_Mem} {K : ap_Mem → Prop} (h : e_MC (M 99) D w) (hD : e_okD D) (hw : e_okW w) (hK : ∀ M', (∀ x, x ≠ 99 → x ≠ 102 → x ≠ 103 → M' x = M x) → (∀ j, 18 ≤ j → M' 99 j = M 99 j) → e_MC (M' 99) D (e_stp D w) → K M') : w_X9_goes 98 M K := by
  have hcur := hw.2.1
  have ht := hw.1
  have lp : ∀ (n j c : Nat) (x2 : Int32) (M1 : ap_Mem), c + j = 16 → (∀ x, x ≠ 102 → x ≠ 103 → M1 x = M x) → (e_pick w.2.1 (e_drwD D w) c < 16 → x2 = e_drwD D w (e_pick w.2.1 (e_drwD D w) c)) → w_X9_goes_6 98 K (n + 1 + j) (if e_pick w.2.1 (e_drwD D w) c = 16 then -1 else nI (e_pick w.2.1 (e_drwD D w) c)) x2 (nI c) M1 := by
    intro n j
    induction j with
    | zero =>
      intro c x2 M1 hc hf hx
      have : c = 16 := by omega
      subst this
      have e99 : M1 99 = M 99 := hf 99 (by decide) (by decide)
      have hb := (e_nxB (D := D) hw).1
      have en : e_pick w.2.1 (e_drwD D w) 16 = e_nx D w := rfl
      rw [en]
      rw [if_neg (by omega)]
      show w_X9_goes_6_s (w_X9_goes_6 98 K n) 98 (nI (e_nx D w)) x2 (nI 16) M1 K
      unfold w_X9_goes_6_s
      rw [if_pos (by decide), l_2, nI_add, n_vp (by omega), n_cl (by omega), k_1, k_0, v_0, v_1]
      refine ⟨trivial, ?_⟩
      rintro _ rfl
      refine ⟨by omega, by omega, ?_⟩
      rintro _ rfl
      refine ⟨trivial, trivial, ?_⟩
      rintro _ rfl
      obtain ⟨h1, h2, h3, h4, h5, h6, h7⟩ := h
      simp only [show (98 + 1 : Nat) = 99 from rfl]
      have fl : (ap_mu M1 99 1 (nI (e_nx D w))) 99 (2 + e_nx D w) = nI (w.2.2 (e_nx D w)) := by simp (disch := omega) only [mu_o]; rw [e99]; exact h7 _ hb
      rw [fl]
      have ft : (ap_mu (ap_mu M1 99 1 (nI (e_nx D w))) 99 (2 + e_nx D w) (nI (w.2.2 (e_nx D w)) + 1)) 99 0 = nI w.1 := by simp (disch := omega) only [mu_o]; rw [e99]; exact h4
      rw [ft, nI_1, nI_1]
      refine hK _ (fun x g1 g2 g3 => by simp (disch := omega) only [ap_mu_n]; exact hf x g2 g3) (fun j hj => by simp (disch := omega) only [mu_o]; rw [e99]) ?_
      refine ⟨e_fMTown h1 (fun j hj => by simp (disch := omega) only [mu_o]; rw [e99]), by simp (disch := omega) only [mu_o]; rw [e99]; exact h2, by simp (disch := omega) only [mu_s, mu_o]; rfl, by simp (disch := omega) only [mu_s]; rfl, fun p hp => ?_, fun j hj => by simp (disch := omega) only [mu_o]; rw [e99]; exact h6 j hj, fun i hi => ?_⟩
      · have hn := hD.1
        simp (disch := omega) only [mu_o]
        rw [e99]
        exact h5 p hp
      · by_cases hi2 : i = e_nx D w
        · subst hi2
          simp (disch := omega) only [mu_s, mu_o]
          show _ = nI (if e_nx D w = e_nx D w then w.2.2 (e_nx D w) + 1 else w.2.2 (e_nx D w))
          rw [if_pos rfl]
        · simp (disch := omega) only [mu_o]
          rw [e99, h7 i hi]
          show _ = nI (if i = e_nx D w then w.2.2 i + 1 else w.2.2 i)
          rw [if_neg hi2]
    | succ j ih =>
      intro c x2 M1 hc hf hx
      have hc2 : c < 16 := by omega
      have e99 : M1 99 = M 99 := hf 99 (by decide) (by decide)
      show w_X9_goes_6_s (w_X9_goes_6 98 K (n + 1 + j)) 98 _ x2 (nI c) M1 K
      unfold w_X9_goes_6_s
      rw [if_neg (by rw [l_16, n_le (by decide) (by omega)]; omega), v_1, k_1, show (98 + 1 : Nat) = 99 from rfl, e99, h.2.2.1, m_far hc2 hcur]
      refine ⟨trivial, ?_⟩
      have hfl := e_far_le hc2 hcur
      have keep : ∀ (s0 : Int32) (M2 : ap_Mem), (∀ x, x ≠ 102 → x ≠ 103 → M2 x = M x) → e_pick w.2.1 (e_drwD D w) (c + 1) = e_pick w.2.1 (e_drwD D w) c → w_X9_goes_66 (w_X9_goes_6 98 K (n + 1 + j)) 98 (if e_pick w.2.1 (e_drwD D w) c = 16 then -1 else nI (e_pick w.2.1 (e_drwD D w) c)) x2 (nI c) s0 M2 K := by
        intro s0 M2 f2 hp
        unfold w_X9_goes_66 w_X9_goes_67
        rw [if_pos rfl]
        unfold w_X9_goes_79
        rw [if_pos rfl]
        unfold w_X9_goes_91
        rintro _ rfl
        have := ih (c + 1) x2 M2 (by omega) f2 (by rw [hp]; exact hx)
        rw [hp] at this
        rw [nI_1]
        exact this
      have take : ∀ (M2 : ap_Mem), (∀ x, x ≠ 102 → x ≠ 103 → M2 x = M x) → e_pick w.2.1 (e_drwD D w) (c + 1) = c → w_X9_goes_62 (w_X9_goes_6 98 K (n + 1 + j)) 98 (if e_pick w.2.1 (e_drwD D w) c = 16 then -1 else nI (e_pick w.2.1 (e_drwD D w) c)) x2 (nI c) (e_drwD D w c) M2 K := by
        intro M2 f2 hp
        unfold w_X9_goes_62 w_X9_goes_67
        rw [if_neg (by decide)]
        unfold w_X9_goes_79
        rw [if_neg (by decide)]
        unfold w_X9_goes_91
        rintro _ rfl
        have := ih (c + 1) (e_drwD D w c) M2 (by omega) f2 (by rw [hp]; exact fun _ => rfl)
        rw [hp, if_neg (by omega)] at this
        rw [nI_1]
        exact this
      by_cases hfar : e_far c w.2.1 ≤ 1
      · rw [if_neg (by rw [l_2, n_le (by decide) (by omega)]; omega)]
        refine m_draw (by rw [e99]; exact h) hD hw hc2 (fun M2 f2 => ?_)
        have f3 : ∀ x, x ≠ 102 → x ≠ 103 → M2 x = M x := fun x g1 g2 => by rw [f2 x g1 g2, hf x g1 g2]
        unfold w_X9_goes_35
        rw [v_1, k_1, show (98 + 1 : Nat) = 99 from rfl, f3 99 (by decide) (by decide), h.2.2.1, m_far hc2 hcur]
        refine ⟨trivial, ?_⟩
        rw [if_neg (by rw [l_2, n_le (by decide) (by omega)]; omega)]
        rcases e_pickS w.2.1 (e_drwD D w) c (by omega) with ⟨g1, g2⟩ | ⟨g1, g2, g3⟩
        · have hp : e_pick w.2.1 (e_drwD D w) (c + 1) = c := by simp only [e_pick]; rw [if_pos ⟨hfar, Or.inl g1⟩]
          have := take M2 f3 hp
          rw [if_pos g1] at this ⊢
          rw [if_pos rfl]
          exact this
        · have e1 : ¬ e_pick w.2.1 (e_drwD D w) c = 16 := by omega
          have hx2 := hx (by omega)
          by_cases g4 : e_drwD D w (e_pick w.2.1 (e_drwD D w) c) < e_drwD D w c
          · have hp : e_pick w.2.1 (e_drwD D w) (c + 1) = c := by simp only [e_pick]; rw [if_pos ⟨hfar, Or.inr g4⟩]
            have := take M2 f3 hp
            rw [if_neg e1] at this ⊢
            rw [if_neg (n_m1 (by omega)), if_neg (by rw [hx2]; grind)]
            exact this
          · have hp : e_pick w.2.1 (e_drwD D w) (c + 1) = e_pick w.2.1 (e_drwD D w) c := by simp only [e_pick]; rw [if_neg (fun z => z.2.elim e1 g4)]
            have := keep (e_drwD D w c) M2 f3 hp
            rw [if_neg e1] at this ⊢
            rw [if_neg (n_m1 (by omega)), if_pos (by rw [hx2]; grind)]
            exact this
      · rw [if_pos (by rw [l_2, n_le (by decide) (by omega)]; omega)]
        unfold w_X9_goes_35
        rw [v_1, k_1, show (98 + 1 : Nat) = 99 from rfl, e99, h.2.2.1, m_far hc2 hcur]
        refine ⟨trivial, ?_⟩
        rw [if_pos (by rw [l_2, n_le (by decide) (by omega)]; omega)]
        exact keep _ M1 hf (by simp only [e_pick]; rw [if_neg (fun z => hfar z.1)])
  unfold w_X9_goes
  exact lp 4079 16 0 0 M rfl (fun _ _ _ => rfl) (fun z => absurd (show (16 : Nat) < 16 from z) (by decide))
