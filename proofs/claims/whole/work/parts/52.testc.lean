/-! town: the class reads a test -/
theorem t_code1 : ∀ l, l < 6 → ∀ w, w < 101 → (nI l <<< (7 &&& 31)) ||| nI w = nI (l * 128 + w) := by decide +kernel
theorem t_code2 : ∀ m, m < 768 → nI m <<< (7 &&& 31) = nI (m * 128) := by decide +kernel
theorem t_code {l w u : Nat} (h1 : l < 6) (h2 : w < 101) (h3 : u < 128) : (((nI l <<< (7 &&& 31)) ||| nI w) <<< (7 &&& 31)) ||| nI u = nI ((l * 128 + w) * 128 + u) := by
  rw [t_code1 l h1 w h2, t_code2 _ (by omega), x_or, Nat.mul_comm _ 128]
  have := Nat.two_pow_add_eq_or_of_lt (i := 7) (b := u) h3 (l * 128 + w)
  rw [show (2 : Nat) ^ 7 = 128 from rfl] at this
  rw [this]
theorem t_maxs : ∀ v, v < 100 → ap_max (nI v - 1) 0 = nI (v - 1) := by decide +kernel
theorem c_ptest {n p l g v w u : Nat} {M0 M : ap_Mem} {S : List Nat} {out : List e_Tok} {K : ap_Mem → Prop} (hn : n ≤ 100) (h : t_CS n M0 M p S out) (hp : S.length + (out.length + 1) ≤ p) (hl : l < 6) (hw : w = e_lo (l, g, v)) (hu : u = e_hi (l, g, v)) (hw2 : w < 101) (hu2 : u < 128) (hy : ∀ M', t_CS n M0 M' p S (out ++ [(l, g, v)]) → K M') : w_X7_putTest 64 (nI l) (nI w) (nI u) M K := by
  obtain ⟨⟨b1, b2⟩, c1, c2, c3, c4, c5, c6, c7, c8, c9, c10, c11, c12⟩ := h
  have e5 : (nI l = 5) = (l = 5) := by rw [l_5, n_eq (by omega) (by omega)]
  have ec : e_tokC (l, g, v) = nI ((l * 128 + w) * 128 + u) := by
    show (if l < 6 then nI ((l * 128 + e_lo (l, g, v)) * 128 + e_hi (l, g, v)) else _) = _
    rw [if_pos hl, ← hw, ← hu]
  have go : ∀ s0, ap_B s0 → s0 = (if t_asks (out ++ [(l, g, v)]) = true then 1 else 0) → w_X7_putTest_18 64 (nI l) (nI w) (nI u) s0 M K := by
    intro s0 hb hs
    unfold w_X7_putTest_18
    refine ⟨hb, ?_⟩
    rintro _ rfl
    rw [t_code hl hw2 hu2]
    refine c_putp (m := out.length) (by rw [mu_o _ _ (by omega)]; exact c8) (by omega) (hy _ ?_)
    refine ⟨⟨fun q x y z w => ?_, fun j x y => ?_⟩, c1, ?_, ?_, ?_, ?_, fun j z hz => ?_, c7, ?_, ?_, t_outA c10 (fun j => ?_), ?_, c12⟩
    · simp (disch := omega) only [ap_mu_n]
      exact b1 q x y z w
    · simp (disch := omega) only [mu_o]
      exact b2 j x y
    · simp (disch := omega) only [mu_o, c2]
    · simp (disch := omega) only [mu_o, c3]
    · simp (disch := omega) only [mu_o, c4]
    · simp (disch := omega) only [mu_o, c5]
    · simp (disch := omega) only [mu_o]
      exact c6 j z hz
    · rw [mu_s, List.length_append]
      rfl
    · simp (disch := omega) only [mu_o, mu_s]
      exact hs
    · rw [mu_o _ _ (by omega), mu_at]
      by_cases hj : j = out.length
      · rw [if_pos ⟨rfl, hj⟩, if_pos hj, ec]
      · rw [if_neg (fun h => hj h.2), if_neg hj, mu_o _ _ (by omega)]
    · rw [List.length_append]
      exact hp
  have ea : t_asks (out ++ [(l, g, v)]) = (t_asks out || (l == 5)) := by
    rw [t_anyA]
    show (t_asks out || ((l == 5) || false)) = _
    rw [Bool.or_false]
  unfold w_X7_putTest
  rw [c9]
  cases ha : t_asks out with
  | true =>
    rw [if_pos rfl, if_neg (by decide)]
    unfold w_X7_putTest_13
    exact go 1 ap_B1 (by rw [ea, ha, Bool.true_or, if_pos rfl])
  | false =>
    rw [if_pos (by decide), t_if e5]
    by_cases h5 : l = 5
    · rw [if_pos h5]
      unfold w_X7_putTest_13
      exact go 1 ap_B1 (by rw [ea, ha, h5]; rfl)
    · rw [if_neg h5]
      have : (l == 5) = false := beq_false_of_ne h5
      exact go 0 ap_B0 (by rw [ea, ha, this]; rfl)
theorem c_rtest {T : Nat → Nat} {n p : Nat} {M0 M : ap_Mem} {S : List Nat} {out : List e_Tok} {K : Int32 → ap_Mem → Prop} (h0 : t_C0 T n M0) (h : t_CS n M0 M p S out) (hy : ∀ r, t_test T n p = .ok r → ∀ M', t_CS n M0 M' r.1 S (out ++ [r.2]) → K 1 M') (hn : ∀ e, t_test T n p = .error e → ∀ M', t_CE M0 M' e → K 0 M') : w_X4_readsTest 63 M K := by
  have hn100 := h0.1
  have hlen : S.length + out.length ≤ p := h.2.2.2.2.2.2.2.2.2.2.2.1
  have hpn : p ≤ n := h.2.1
  unfold w_X4_readsTest
  unfold t_test at hy hn
  rw [t_one (t_CSt h0 h) (by decide), show ap_sL 4 = 6 from rfl]
  by_cases e1 : t_ix 4 (t_hd T n p) < 6
  · have hp := t_ixlt (w := 4) (by decide) e1
    rw [if_pos e1] at hy hn
    rw [if_pos e1, l_0, if_pos (n_nonneg (by omega))]
    have h1 := t_CSp h (p' := p + 1) (by omega) hp
    generalize ap_mu M 63 1 (nI (p + 1)) = M1 at h1 ⊢
    rw [t_one (t_CSt h0 h1) (by decide), show ap_sL 5 = 3 from rfl]
    by_cases e2 : t_ix 5 (t_hd T n (p + 1)) < 3
    · have hp2 := t_ixlt (w := 5) (by decide) e2
      rw [if_pos e2] at hy hn
      rw [if_pos e2, if_pos (n_nonneg (by omega))]
      have h2 := t_CSp h1 (p' := p + 2) (by omega) hp2
      rw [show p + 1 + 1 = p + 2 by omega]
      generalize ap_mu M1 63 1 (nI (p + 2)) = M2 at h2 ⊢
      refine t_numC (t_CSt h0 h2) (fun r hr => ?_) (fun e he => ?_)
      · obtain ⟨q1, q2, q3⟩ := t_numOk hr
        have h3 := t_CSp h2 (p' := r.1) (by omega) q2
        generalize ap_mu M2 63 1 (nI r.1) = M3 at h3 ⊢
        have hy' := hy _ (by rw [hr]; rfl)
        have e3 : (nI (t_ix 5 (t_hd T n (p + 1))) = 1) = (t_ix 5 (t_hd T n (p + 1)) = 1) := by rw [l_1, n_eq (by omega) (by omega)]
        have e4 : (nI (t_ix 5 (t_hd T n (p + 1))) = 2) = (t_ix 5 (t_hd T n (p + 1)) = 2) := by rw [l_2, n_eq (by omega) (by omega)]
        rw [if_pos (n_nonneg (by omega)), t_if e3, t_if e4]
        generalize t_ix 5 (t_hd T n (p + 1)) = g at *
        generalize t_ix 4 (t_hd T n p) = l at *
        by_cases g1 : g = 1
        · rw [if_pos g1]
          subst g1
          exact c_ptest hn100 h3 (by omega) e1 rfl rfl (by omega) (by omega) hy'
        · rw [if_neg g1]
          by_cases g2 : g = 2
          · rw [if_pos g2]
            subst g2
            rw [l_1, nI_add, show (127 : Int32) = nI 127 from rfl]
            exact c_ptest hn100 h3 (by omega) e1 rfl rfl (by omega) (by omega) hy'
          · rw [if_neg g2]
            have : g = 0 := by omega
            subst this
            unfold w_X4_readsTest_90
            rw [show (63 + 1 : Nat) = 64 from rfl]
            have ev : (nI r.2 = nI 0) = (r.2 = 0) := n_eq (by omega) (by omega) |> propext
            rw [t_if ev, ← l_0, t_maxs _ q3]
            by_cases hv : r.2 = 0
            · rw [if_pos hv, l_1]
              refine c_ptest hn100 h3 (by omega) e1 (g := 0) (v := r.2) ?_ rfl (by omega) (by omega) hy'
              rw [hv]
              rfl
            · rw [if_neg hv, l_0]
              refine c_ptest hn100 h3 (by omega) e1 (g := 0) (v := r.2) ?_ rfl (by omega) (by omega) hy'
              show 0 = (if (0 : Nat) = 1 then _ else if (0 : Nat) = 2 then _ else if r.2 = 0 then 1 else 0)
              rw [if_neg (by decide), if_neg (by decide), if_neg hv]
      · rw [if_neg (by decide), ← l_0]
        rw [t_numEr he] at he
        exact hn (p + 2) (by rw [he]; rfl) M2 (t_CSe h2)
    · rw [if_neg e2, if_neg (by decide), ← l_0]
      rw [if_neg e2] at hn
      exact hn (p + 1) rfl M1 (t_CSe h1)
  · rw [if_neg e1, if_neg (by decide)]
    rw [if_neg e1] at hn
    exact hn p rfl M (t_CSe h)
