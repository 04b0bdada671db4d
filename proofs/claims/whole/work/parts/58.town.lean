/-! town: both sides -/
theorem t_DSp {n p p' : Nat} {M0 M : ap_Mem} {cs : List e_Cls} (h : t_DS n M0 M p cs) (hp : p ≤ p') (hn : p' ≤ n) : t_DS n M0 (ap_mu M 63 1 (nI p')) p' cs := by
  obtain ⟨b1, c1, c2, c3, c4⟩ := h
  refine ⟨fun q a b => ?_, hn, by rw [mu_s], e_fCTown c3 (fun a ha => ?_), by omega⟩
  · simp (disch := omega) only [ap_mu_n]
    exact b1 q a b
  · simp (disch := omega) only [ap_mu_n]
theorem c_readsLp {T : Nat → Nat} {n : Nat} {M0 : ap_Mem} {K : Int32 → ap_Mem → Prop} (h0 : t_C0 T n M0) : ∀ (f i p fuel : Nat) (cs : List e_Cls) (M : ap_Mem), i + f = 11 → cs.length + f = 10 → f < fuel → t_DS n M0 M p cs → (∀ ds, t_cls T n f p = .ok ds → ∀ M', t_DS n M0 M' n (cs ++ ds) → K 1 M') → (∀ e, t_cls T n f p = .error e → ∀ M', t_DE M0 M' e → K 0 M') → w_X4_reads_22 63 2 K fuel (nI i) M := by
  obtain ⟨z1, z2, z3, z4⟩ := id h0
  intro f
  induction f with
  | zero =>
    intro i p fuel cs M hi hl hf h hy hn
    obtain ⟨k, rfl⟩ : ∃ k, fuel = k + 1 := ⟨fuel - 1, by omega⟩
    show w_X4_reads_22_s (w_X4_reads_22 63 2 K k) 63 2 (nI i) M K
    unfold w_X4_reads_22_s
    rw [l_10, if_pos (by rw [n_lt (by omega) (by omega)]; omega)]
    exact hn p rfl M ⟨h.1, h.2.2.1⟩
  | succ f ih =>
    intro i p fuel cs M hi hl hf h hy hn
    obtain ⟨k, rfl⟩ : ∃ k, fuel = k + 1 := ⟨fuel - 1, by omega⟩
    show w_X4_reads_22_s (w_X4_reads_22 63 2 K k) 63 2 (nI i) M K
    unfold w_X4_reads_22_s
    rw [t_clsS] at hy hn
    rw [l_10, if_neg (by rw [n_lt (by omega) (by omega)]; omega)]
    refine c_clause h0 h (by omega) (fun r hr M1 hM1 => ?_) (fun e he M1 hM1 => ?_)
    · rw [hr] at hy hn
      have hy : ∀ es, t_tl T n f r.1 = .ok es → ∀ M', t_DS n M0 M' n (cs ++ [r.2] ++ es) → K 1 M' := fun es hes M' hM' => hy (r.2 :: es) (by show t_bd (t_tl T n f r.1) _ = _; rw [hes]; rfl) M' (by rw [List.append_assoc] at hM'; exact hM')
      have hn : ∀ e, t_tl T n f r.1 = .error e → ∀ M', t_DE M0 M' e → K 0 M' := fun e he => hn e (by show t_bd (t_tl T n f r.1) _ = _; rw [he]; rfl)
      unfold t_tl at hy hn
      obtain ⟨b1, c1, c2, c3, c4⟩ := id hM1
      have e72 : M1 (63 + 9) 2 = nI n := by rw [show (63 + 9 : Nat) = 72 from rfl, b1 _ (by omega) (by omega)]; exact z3
      rw [if_neg (by decide), c2, e72]
      by_cases hrn : r.1 = n
      · rw [if_pos hrn] at hy
        rw [if_pos (by rw [hrn])]
        rw [hrn] at hM1
        exact hy [] rfl M1 (by rw [List.append_nil]; exact hM1)
      · rw [if_neg hrn] at hy hn
        rw [if_neg (by rw [n_eq (by omega) (by omega)]; exact hrn)]
        by_cases hf0 : f = 0
        · rw [if_pos hf0] at hn
          rw [if_pos (by rw [n_eq (by omega) (by omega)]; omega)]
          exact hn r.1 rfl M1 ⟨b1, c2⟩
        · rw [if_neg hf0] at hy hn
          rw [if_neg (by rw [n_eq (by omega) (by omega)]; omega)]
          have hCT : t_CT T n M1 r.1 := ⟨z1, c1, z2, c2, e72, fun i hi => by rw [b1 _ (by omega) (by omega)]; exact z4 i hi⟩
          rw [show (59 : Int32) = nI 59 from rfl, t_takes hCT (by decide)]
          by_cases h59 : t_hd T n r.1 = 59
          · rw [if_pos h59] at hy hn
            rw [if_pos h59, if_neg (by decide)]
            rintro _ rfl
            rw [nI_1]
            exact ih (i + 1) (r.1 + 1) k (cs ++ [r.2]) _ (by omega) (by rw [List.length_append]; show cs.length + 1 + f = 10; omega) (by omega) (t_DSp hM1 (by omega) (t_hlt h59 (by decide)).1) hy hn
          · rw [if_neg h59] at hn
            rw [if_neg h59, if_pos rfl]
            exact hn r.1 rfl M1 ⟨b1, c2⟩
    · rw [he] at hn
      rw [if_pos rfl]
      exact hn e rfl M1 hM1
theorem c_reads {T : Nat → Nat} {n : Nat} {M : ap_Mem} {K : Int32 → ap_Mem → Prop} (hn : n ≤ 100) (hT : ∀ i, i < n → T i < 128) (h22 : M 2 2 = nI n) (h3 : ∀ i, i < n → M 3 i = nI (T i)) (hy : ∀ ds, t_cls T n 10 0 = .ok ds → ∀ M', (∀ q, ¬ (63 ≤ q ∧ q ≤ 75) → M' q = M q) → e_CTown M' 64 ds → K 1 M') (hn2 : ∀ e, t_cls T n 10 0 = .error e → ∀ M', (∀ q, ¬ (63 ≤ q ∧ q ≤ 75) → M' q = M q) → M' 63 1 = nI e → K 0 M') : w_X4_reads 63 2 M K := by
  unfold w_X4_reads
  refine c_rcopy (n := n) (N := 100) (L := 100) rfl rfl rfl rfl (by decide) (by decide) h22 hn hn (by omega) (fun M1 f1 g1 g2 => ?_)
  have g1 : M1 72 2 = nI n := g1
  have g2 : ∀ i, i < n → M1 73 i = nI (T i) := fun i hi => by rw [← h3 i hi]; exact (g2 i hi).1
  unfold w_X7_clear
  rintro _ rfl _ rfl _ rfl _ rfl _ rfl
  rw [show (63 + 1 : Nat) = 64 from rfl]
  generalize hM0 : ap_mu (ap_mu (ap_mu (ap_mu (ap_mu M1 64 4 0) 64 5 0) 64 6 2) 64 7 0) 63 1 0 = M0
  have k1 : ∀ q, q ≠ 63 → q ≠ 64 → M0 q = M1 q := fun q a b => by rw [← hM0]; simp (disch := omega) only [ap_mu_n]
  have k2 : M0 63 1 = 0 := by rw [← hM0, mu_s]
  have k3 : M0 64 4 = 0 := by rw [← hM0]; simp (disch := omega) only [mu_o, mu_s]
  have k4 : M0 64 5 = 0 := by rw [← hM0]; simp (disch := omega) only [mu_o, mu_s]
  have k5 : M0 64 6 = 2 := by rw [← hM0]; simp (disch := omega) only [mu_o, mu_s]
  have k6 : M0 64 7 = 0 := by rw [← hM0]; simp (disch := omega) only [mu_o, mu_s]
  clear hM0
  have h0 : t_C0 T n M0 := ⟨hn, hT, by rw [k1 _ (by omega) (by omega)]; exact g1, fun i hi => by rw [k1 _ (by omega) (by omega)]; exact g2 i hi⟩
  have fr : ∀ M', t_DF M0 M' → ∀ q, ¬ (63 ≤ q ∧ q ≤ 75) → M' q = M q := fun M' hM' q hq => by rw [hM' q (by omega) (by omega), k1 q (by omega) (by omega), f1 q (by omega)]
  rw [l_1]
  refine c_readsLp h0 10 1 0 4096 [] M0 (by decide) (by decide) (by decide) ⟨fun _ _ _ => rfl, Nat.zero_le _, k2, ⟨by decide, by decide, fun c hc => by (cases hc), k3, k4, fun i c hc => by (cases hc), fun j z hz => by (cases hz), k5, k6⟩, Nat.le_refl _⟩ (fun ds hds M' hM' => hy ds hds M' (fr M' hM'.1) hM'.2.2.2.1) (fun e he M' hM' => hn2 e he M' (fr M' hM'.1) hM'.2)
theorem t_end {M M' : ap_Mem} (hI : e_Inv M) (h1 : ∀ a, (a = 0 ∨ (13 ≤ a ∧ a < 63) ∨ (96 ≤ a ∧ a ≤ 97) ∨ a = 100 ∨ a = 104) → M' a = M a) (h2 : ∀ j, ¬ (5 ≤ j ∧ j ≤ 9) → M' 98 j = M 98 j) (h3 : ∀ j, j ≠ 31 → j ≠ 36 → j ≠ 37 → j < 226 → M' 99 j = M 99 j) (ht : e_RTape M' 1 (M' 99)) (hw : e_RTown M' 1 (M' 99)) : e_Inv M' := by
  obtain ⟨⟨-, -, a3, a4, a5, a6, a7, a8⟩, hx, r, g1, g2, g3, g4⟩ := hI
  refine ⟨⟨ht, hw, e_fFolk a3 (fun a ha => h1 a (by omega)) (fun j hj => h3 j (by omega) (by omega) (by omega) (by omega)), e_fCarp a4 (fun a ha => h1 a (by omega)) (fun j hj => h3 j (by omega) (by omega) (by omega) (by omega)), e_fWalk a5 (fun a ha => h1 a (by omega)) (fun j hj => h3 j (by omega) (by omega) (by omega) (by omega)), e_fSeen a6 (fun a ha => h1 a (by omega)) (fun j hj => h3 j (by omega) (by omega) (by omega) (by omega)), e_fPlan a7 (fun a ha => h1 a (by omega)) (fun j hj => h3 j (by omega) (by omega) (by omega) (by omega)), e_fBook a8 (fun a ha => h1 a (by omega)) (fun j hj => h3 j (by omega) (by omega) (by omega) (by omega))⟩, ?_, r, g1, by rw [h2 _ (by omega)]; exact g2, by rw [h1 _ (by omega)]; exact g3, fun i hi hj => by rw [h1 _ (by omega), h1 _ (by omega)]; exact g4 i hi hj⟩
  rw [h2 4 (by omega), h1 0 (by omega), h1 100 (by omega)]
  rcases hx with h | ⟨k1, k2, k3⟩
  · exact Or.inl h
  · exact Or.inr ⟨k1, k2, e_fR k3 (fun a ha => h1 a (by omega)) (fun _ _ => rfl)⟩
theorem p_town : e_Pair (fun M K => w_X8_town 0 M K) (fun M K => w_X9_town 98 M K) := by
  intro M hI
  obtain ⟨n, hn, f36, m22, h4⟩ := hI.1.1
  obtain ⟨⟨m, hm, f31, m12, hh⟩, cs, hC, hMT⟩ := hI.1.2.1
  have m22 : M 2 2 = nI n := m22
  have hTT : ∀ i, i < n → (M 3 i).toNatClampNeg < 128 ∧ M 3 i = nI (M 3 i).toNatClampNeg ∧ M 99 (126 + i) = nI (M 3 i).toNatClampNeg := by
    intro i hi
    obtain ⟨c, hc, e1, e2⟩ := h4 i hi
    have e2 : M 3 i = nI c := e2
    rw [e2, n_cl (by omega)]
    exact ⟨hc, rfl, e1⟩
  generalize hTd : (fun i => (M 3 i).toNatClampNeg) = T at *
  have hT : ∀ i, i < n → T i < 128 ∧ M 3 i = nI (T i) ∧ M 99 (126 + i) = nI (T i) := fun i hi => by rw [← hTd]; exact hTT i hi
  clear hTT hTd
  show w_X8_town 0 M _
  unfold w_X8_town
  simp only [Nat.zero_add]
  by_cases hm5 : m = 5
  · subst hm5
    rw [m12, l_5, if_neg (by decide)]
    show w_X9_town 98 M _
    unfold w_X9_town
    rw [show (98 + 1 : Nat) = 99 from rfl, k_31, f31, if_pos (by decide)]
    exact ⟨v_31.mpr trivial, rfl, hI⟩
  · rw [m12, l_5, if_pos (by rw [n_lt (by omega) (by omega)]; omega)]
    refine c_reads (T := T) hn (fun i hi => (hT i hi).1) m22 (fun i hi => (hT i hi).2.1) (fun ds hds M1 g1 hC1 => ?_) (fun e he M1 g1 h63 => ?_)
    · rw [c_clear, if_neg (by decide)]
      refine c_townCopy (cs := ds) (e_fCTown hC1 (fun a ha => by simp (disch := omega) only [ap_mu_n])) (by omega) (fun M2 g2 hC2 => ?_)
      rintro _ rfl
      have e12 : M2 1 2 = nI m := by
        rw [g2 1 (by omega)]
        simp (disch := omega) only [mu_o]
        rw [g1 1 (by omega)]
        exact m12
      rw [e12, nI_1, mu_s, l_1, n_sub (by omega), Nat.add_sub_cancel]
      show w_X9_town 98 (ap_mu M2 1 2 (nI (m + 1))) _
      have fr : ∀ q, (q = 0 ∨ (13 ≤ q ∧ q < 63) ∨ 96 ≤ q) → ap_mu M2 1 2 (nI (m + 1)) q = M q := fun q hq => by
        simp (disch := omega) only [ap_mu_n]
        rw [g2 q (by omega)]
        simp (disch := omega) only [ap_mu_n]
        rw [g1 q (by omega)]
      have e22 : ap_mu M2 1 2 (nI (m + 1)) 2 2 = 0 := by
        simp (disch := omega) only [mu_o]
        rw [g2 2 (by omega), mu_s]
      have e12' : ap_mu M2 1 2 (nI (m + 1)) 1 2 = nI (m + 1) := by rw [mu_s]
      have hC3 : e_CTown (ap_mu M2 1 2 (nI (m + 1))) 5 ds := e_fCTown hC2 (fun a ha => by simp (disch := omega) only [ap_mu_n])
      generalize ap_mu M2 1 2 (nI (m + 1)) = M3 at fr e22 e12' hC3 ⊢
      refine m_town (T := T) (n := n) (m := m) hn (by omega) (fun i hi => (hT i hi).1) (by rw [fr 99 (by omega)]; exact f31) (by rw [fr 99 (by omega)]; exact f36) (fun i hi => by rw [fr 99 (by omega)]; exact (hT i hi).2.2) (fun es hes hlen M4 a1 a2 a3 a31 a36 a37 a226 a231 arow => ?_) (fun e he => ?_)
      · rw [hds] at hes
        cases hes
        refine ⟨rfl, t_end hI (fun a ha => by rw [a1 a (by omega) (by omega), fr a (by omega)]) (fun j hj => by rw [a2 j hj, fr 98 (by omega)]) (fun j x y z w => by rw [a3 j x y z (by omega) (by omega) (by omega), fr 99 (by omega)]) ⟨0, by decide, a36, by rw [show (1 + 1 : Nat) = 2 from rfl, a1 2 (by omega) (by omega)]; exact e22, fun i hi => absurd hi (by omega)⟩ ⟨⟨m + 1, by omega, a31, by rw [a1 1 (by omega) (by omega)]; exact e12', fun k hk hkm => ?_⟩, ds, e_fCTown hC3 (fun a ha => a1 a (by omega) (by omega)), Or.inr ⟨m, by omega, a37, a226, a231, by omega, arow⟩⟩⟩
        rw [a37, n_eq (by omega) (by omega)] at hkm
        omega
      · rw [hds] at he
        cases he
    · rw [c_clear, if_pos rfl, mu_o _ _ (by omega), h63]
      show w_X9_town 98 (ap_mu M1 2 2 0) _
      have fr : ∀ q, ¬ (63 ≤ q ∧ q ≤ 75) → q ≠ 2 → ap_mu M1 2 2 0 q = M q := fun q hq h2 => by
        simp (disch := omega) only [ap_mu_n]
        rw [g1 q (by omega)]
      have e22 : ap_mu M1 2 2 0 2 2 = 0 := mu_s ..
      generalize ap_mu M1 2 2 0 = M3 at fr e22 ⊢
      refine m_town (T := T) (n := n) (m := m) hn (by omega) (fun i hi => (hT i hi).1) (by rw [fr 99 (by omega) (by omega)]; exact f31) (by rw [fr 99 (by omega) (by omega)]; exact f36) (fun i hi => by rw [fr 99 (by omega) (by omega)]; exact (hT i hi).2.2) (fun es hes => ?_) (fun e2 he2 M4 a1 a2 a3 a36 => ?_)
      · rw [he] at hes
        cases hes
      · rw [he] at he2
        cases he2
        have b31 : M4 99 31 = M 99 31 := by rw [a3 31 (by omega) (by omega) (by omega) (by omega), fr 99 (by omega) (by omega)]
        have b37 : M4 99 37 = M 99 37 := by rw [a3 37 (by omega) (by omega) (by omega) (by omega), fr 99 (by omega) (by omega)]
        refine ⟨rfl, t_end hI (fun a ha => by rw [a1 a (by omega) (by omega), fr a (by omega) (by omega)]) (fun j hj => by rw [a2 j hj, fr 98 (by omega) (by omega)]) (fun j x y z w => by rw [a3 j y (by omega) (by omega) (by omega), fr 99 (by omega) (by omega)]) ⟨0, by decide, a36, by rw [show (1 + 1 : Nat) = 2 from rfl, a1 2 (by omega) (by omega)]; exact e22, fun i hi => absurd hi (by omega)⟩ ⟨⟨m, hm, by rw [b31]; exact f31, by rw [a1 1 (by omega) (by omega), fr 1 (by omega) (by omega)]; exact m12, fun k hk hkm => hh k hk (by rw [← b37]; exact hkm)⟩, cs, e_fCTown hC (fun a ha => by rw [a1 a (by omega) (by omega), fr a (by omega) (by omega)]), ?_⟩⟩
        rcases hMT with ⟨k1, k2⟩ | ⟨k, k1, k2, k3, k5, k6, k7⟩
        · exact Or.inl ⟨by rw [b37]; exact k1, k2⟩
        · have hkm := hh k k1 k2
          refine Or.inr ⟨k, k1, by rw [b37]; exact k2, ?_, ?_, k6, fun j z hz => ?_⟩
          · rw [a3 _ (by omega) (by omega) (by omega) (by omega), fr 99 (by omega) (by omega)]
            exact k3
          · rw [a3 _ (by omega) (by omega) (by omega) (by omega), fr 99 (by omega) (by omega)]
            exact k5
          · have hlt := (List.getElem?_eq_some_iff.mp hz).1
            rw [a3 _ (by omega) (by omega) (by omega) (by omega), fr 99 (by omega) (by omega)]
            exact k7 j z hz
