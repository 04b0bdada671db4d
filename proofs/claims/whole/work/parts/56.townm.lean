/-! town: the reference's whole reading -/
theorem t_boredA (cs : List e_Cls) (c : e_Cls) : e_bored (cs ++ [c]) = if c.1 = 0 then c.2.1 else e_bored cs := by
  unfold e_bored
  rw [List.foldl_append]
  rfl
theorem t_progMA (cs ds : List e_Cls) : e_progM (cs ++ ds) = e_progM cs ++ e_progM ds := List.flatMap_append ..
theorem t_progM1 (c : e_Cls) : e_progM [c] = e_clsM c := by
  unfold e_progM
  rw [List.flatMap_cons, List.flatMap_nil, List.append_nil]
theorem m_loop {T : Nat → Nat} {n a : Nat} {M0 : ap_Mem} {K : Int32 → ap_Mem → Prop} (h0 : t_M0 T n a M0) : ∀ (f i p fuel : Nat) (cs : List e_Cls) (M : ap_Mem), i + f = 10 → f < fuel → t_MS n a M0 M p 0 (e_bored cs) (e_progM cs) → (e_progM cs).length ≤ p →
    (∀ ds, t_tl T n f p = .ok ds → ∀ M', t_MS n a M0 M' n 0 (e_bored (cs ++ ds)) (e_progM (cs ++ ds)) → w_X9_town_135 98 M' K) → (∀ e, t_tl T n f p = .error e → ∀ M', t_MF a M0 M' → K (-10 - nI e) M') → w_X9_town_93 98 K fuel (nI i) M := by
  have hT := h0.2.2.1
  have hn100 := h0.2.1
  have e7 : ∀ M, t_MF a M0 M → M 98 7 = nI n := fun M hM => by rw [hM.2.1 _ (by omega) (by omega) (by omega)]; exact h0.2.2.2.2.1
  have er : ∀ M e, t_ME a M0 M e → (∀ M', t_MF a M0 M' → K (-10 - nI e) M') → w_X9_town_135 98 M K := by
    intro M e hM hK
    unfold w_X9_town_135
    rw [if_neg (by rw [hM.2.1]; decide), hM.2.2]
    exact hK M hM.1
  have er2 : ∀ M p bd L, t_MS n a M0 M p 0 bd L → p ≠ n → (∀ M', t_MF a M0 M' → K (-10 - nI p) M') → w_X9_town_135 98 M K := by
    intro M p bd L hM hp hK
    have hpn := hM.2.1
    unfold w_X9_town_135
    rw [if_pos hM.2.2.1, hM.2.2.2.1, e7 M hM.1, if_neg (by rw [n_eq (by omega) (by omega)]; exact hp)]
    exact hK M hM.1
  intro f
  induction f with
  | zero =>
    intro i p fuel cs M hi hf h hL hy hn
    obtain ⟨k, rfl⟩ : ∃ k, fuel = k + 1 := ⟨fuel - 1, by omega⟩
    show w_X9_town_93_s (w_X9_town_93 98 K k) 98 (nI i) M K
    unfold w_X9_town_93_s
    unfold t_tl at hy hn
    rw [if_pos h.2.2.1, l_10, if_pos (by rw [n_le (by omega) (by omega)]; omega)]
    by_cases hp : p = n
    · rw [if_pos hp] at hy
      subst hp
      exact hy [] rfl M (by rw [List.append_nil]; exact h)
    · rw [if_neg hp, if_pos rfl] at hn
      exact er2 M p _ _ h hp (fun M' hM' => by rw [l_10]; exact hn p rfl M' hM')
  | succ f ih =>
    intro i p fuel cs M hi hf h hL hy hn
    obtain ⟨k, rfl⟩ : ∃ k, fuel = k + 1 := ⟨fuel - 1, by omega⟩
    show w_X9_town_93_s (w_X9_town_93 98 K k) 98 (nI i) M K
    unfold w_X9_town_93_s
    unfold t_tl at hy hn
    rw [if_pos h.2.2.1, l_10, if_neg (by rw [n_le (by omega) (by omega)]; omega), m_here (t_MSt h0 h), show (59 : Int32) = nI 59 from rfl, t_if (t_hIe hT (by decide))]
    by_cases hp : p = n
    · have h59 : t_hd T n p ≠ 59 := fun e => by have := (t_hlt e (by decide)).1; omega
      rw [if_neg h59]
      rw [if_pos hp] at hy
      subst hp
      exact hy [] rfl M (by rw [List.append_nil]; exact h)
    · rw [if_neg hp, if_neg (by omega)] at hy hn
      by_cases h59 : t_hd T n p = 59
      · rw [if_pos h59] at hy hn ⊢
        have hpn := (t_hlt h59 (by decide)).1
        rintro _ rfl
        have h1 : t_MS n a M0 (ap_mu M 98 6 (M 98 6 + 1)) (p + 1) 0 (e_bored cs) (e_progM cs) := t_MSm h (fun q hq => by simp (disch := omega) only [ap_mu_n]) (fun j x y z => by simp (disch := omega) only [mu_o]) (by simp (disch := omega) only [mu_o]; exact h.2.2.1) (by rw [mu_s, h.2.2.2.1, nI_1]) (by simp (disch := omega) only [mu_o]; exact h.2.2.2.2.1) hpn
        rw [t_clsS] at hy hn
        refine m_clause h0 (by omega) h1 (fun r hr M1 hM1 => ?_) (fun e he M1 hM1 => ?_)
        · obtain ⟨q1, q2, q3, q4, q5⟩ := t_clOk hn100 (by omega) hr
          rw [hr] at hy hn
          rintro _ rfl
          rw [nI_1]
          refine ih (i + 1) r.1 k (cs ++ [r.2]) M1 (by omega) (by omega) ?_ ?_ (fun ds hds M2 hM2 => ?_) (fun e he M2 hM2 => ?_)
          · rw [t_boredA, t_progMA, t_progM1]
            exact hM1
          · rw [t_progMA, t_progM1, List.length_append]
            omega
          · refine hy (r.2 :: ds) (by show t_bd (t_tl T n f r.1) _ = _; rw [hds]; rfl) M2 ?_
            rw [List.append_assoc] at hM2
            exact hM2
          · exact hn e (by show t_bd (t_tl T n f r.1) _ = _; rw [he]; rfl) M2 hM2
        · rintro _ rfl
          rw [he] at hn
          obtain ⟨k, rfl⟩ : ∃ k', k = k' + 1 := ⟨k - 1, by omega⟩
          show w_X9_town_93_s (w_X9_town_93 98 K k) 98 _ M1 K
          unfold w_X9_town_93_s
          rw [if_neg (by rw [hM1.2.1]; decide)]
          exact er M1 e hM1 (fun M' hM' => by rw [l_10]; exact hn e rfl M' hM')
      · rw [if_neg h59] at hn ⊢
        exact er2 M p _ _ h hp (fun M' hM' => by rw [l_10]; exact hn p rfl M' hM')
/-- the reference's town, from its tape -/
theorem m_town {T : Nat → Nat} {n m : Nat} {M : ap_Mem} {K : Int32 → ap_Mem → Prop} (hn : n ≤ 100) (hm : m < 5) (hT : ∀ i, i < n → T i < 128) (h31 : M 99 31 = nI m) (h36 : M 99 36 = nI n) (ht : ∀ i, i < n → M 99 (126 + i) = nI (T i))
    (hy : ∀ ds, t_cls T n 10 0 = .ok ds → (e_progM ds).length ≤ 100 → ∀ M', (∀ q, q ≠ 98 → q ≠ 99 → M' q = M q) → (∀ j, ¬ (5 ≤ j ∧ j ≤ 9) → M' 98 j = M 98 j) → (∀ j, j ≠ 31 → j ≠ 36 → j ≠ 37 → j ≠ 226 + m → j ≠ 231 + m → ¬ (236 + 140 * m ≤ j ∧ j < 376 + 140 * m) → M' 99 j = M 99 j) → M' 99 31 = nI (m + 1) → M' 99 36 = 0 → M' 99 37 = nI m → M' 99 (226 + m) = nI (e_bored ds) → M' 99 (231 + m) = nI (e_progM ds).length → (∀ (j : Nat) (z : Int32), (e_progM ds)[j]? = some z → M' 99 (236 + 140 * m + j) = z) → K (nI m) M')
    (hn2 : ∀ e, t_cls T n 10 0 = .error e → ∀ M', (∀ q, q ≠ 98 → q ≠ 99 → M' q = M q) → (∀ j, ¬ (5 ≤ j ∧ j ≤ 9) → M' 98 j = M 98 j) → (∀ j, j ≠ 36 → j ≠ 226 + m → j ≠ 231 + m → ¬ (236 + 140 * m ≤ j ∧ j < 376 + 140 * m) → M' 99 j = M 99 j) → M' 99 36 = 0 → K (-10 - nI e) M') : w_X9_town 98 M K := by
  unfold w_X9_town
  rw [show (98 + 1 : Nat) = 99 from rfl, k_31, k_36, h31, eq_true (v_31.mpr trivial), true_and, l_5, if_neg (by rw [n_eq (by omega) (by omega)]; omega), eq_true (v_36.mpr trivial), true_and]
  simp only [true_and]
  rintro _ rfl _ rfl _ rfl
  rw [mu_o _ _ (by omega), mu_o _ _ (by omega), mu_s, l_226, nI_add, n_vp (by omega), n_cl (by omega)]
  refine ⟨by omega, ?_⟩
  rintro _ rfl
  rw [mu_o _ _ (by omega), mu_o _ _ (by omega), mu_o _ _ (by omega), mu_s, l_231, nI_add, n_vp (by omega), n_cl (by omega)]
  refine ⟨by omega, ?_⟩
  rintro _ rfl _ rfl _ rfl _ rfl
  rw [mu_o (M := M) _ (by omega), h36]
  generalize hM0 : ap_mu (ap_mu (ap_mu (ap_mu (ap_mu (ap_mu (ap_mu (ap_mu M 98 5 (nI m)) 98 7 (nI n)) 99 36 0) 99 (226 + m) 2) 99 (231 + m) 0) 98 6 0) 98 8 0) 98 9 0 = M0
  have f1 : ∀ q, q ≠ 98 → q ≠ 99 → M0 q = M q := fun q a b => by rw [← hM0]; simp (disch := omega) only [ap_mu_n]
  have f2 : ∀ j, ¬ (5 ≤ j ∧ j ≤ 9) → M0 98 j = M 98 j := fun j a => by rw [← hM0]; simp (disch := omega) only [mu_o]
  have f3 : ∀ j, j ≠ 36 → j ≠ 226 + m → j ≠ 231 + m → M0 99 j = M 99 j := fun j a b c => by rw [← hM0]; simp (disch := omega) only [mu_o]
  have g5 : M0 98 5 = nI m := by rw [← hM0]; simp (disch := omega) only [mu_o, mu_s]
  have g7 : M0 98 7 = nI n := by rw [← hM0]; simp (disch := omega) only [mu_o, mu_s]
  have g6 : M0 98 6 = 0 := by rw [← hM0]; simp (disch := omega) only [mu_o, mu_s]
  have g8 : M0 98 8 = 0 := by rw [← hM0]; simp (disch := omega) only [mu_o, mu_s]
  have g9 : M0 98 9 = 0 := by rw [← hM0]; simp (disch := omega) only [mu_s]
  have g36 : M0 99 36 = 0 := by rw [← hM0]; simp (disch := omega) only [mu_o, mu_s]
  have g226 : M0 99 (226 + m) = 2 := by rw [← hM0]; simp (disch := omega) only [mu_o, mu_s]
  have g231 : M0 99 (231 + m) = 0 := by rw [← hM0]; simp (disch := omega) only [mu_o, mu_s]
  clear hM0
  have h0 : t_M0 T n m M0 := ⟨hm, hn, hT, g5, g7, fun i hi => by rw [f3 _ (by omega) (by omega) (by omega)]; exact ht i hi⟩
  have hS : t_MS n m M0 M0 0 0 (e_bored []) (e_progM []) := ⟨⟨fun _ _ _ => rfl, fun _ _ _ _ => rfl, fun _ _ _ _ => rfl⟩, Nat.zero_le _, g8, g6, g9, g226, g231, fun j z hz => by cases hz⟩
  rw [t_clsS] at hy hn2
  refine m_clause h0 (Nat.le_refl 0) hS (fun r hr M1 hM1 => ?_) (fun e he M1 hM1 => ?_)
  · obtain ⟨q1, q2, q3, q4, q5⟩ := t_clOk hn (Nat.zero_le _) hr
    rw [hr] at hy hn2
    rw [l_1]
    refine m_loop h0 9 1 r.1 4096 [r.2] M1 (by decide) (by decide) ?_ ?_ (fun ds hds M2 hM2 => ?_) (fun e he M2 hM2 => ?_)
    · have e : e_bored [r.2] = if r.2.1 = 0 then r.2.2.1 else e_bored [] := t_boredA [] r.2
      rw [e, t_progM1]
      exact hM1
    · rw [t_progM1]
      omega
    · have hy := hy (r.2 :: ds) (by show t_bd (t_tl T n 9 r.1) _ = _; rw [hds]; rfl)
      obtain ⟨⟨b1, b2, b3⟩, c1, c2, c3, c4, c5, c6, c7⟩ := hM2
      have e5 : M2 98 5 = nI m := by rw [b2 _ (by omega) (by omega) (by omega)]; exact g5
      have e7 : M2 98 7 = nI n := by rw [b2 _ (by omega) (by omega) (by omega)]; exact g7
      have e31 : M2 99 31 = nI m := by rw [b3 _ (by omega) (by omega) (by omega), f3 _ (by omega) (by omega) (by omega)]; exact h31
      have hlen : (e_progM ([r.2] ++ ds)).length ≤ 100 := by
        have : ∀ (f p : Nat) (ds : List e_Cls), p ≤ n → t_cls T n f p = .ok ds → p + (e_progM ds).length ≤ n := by
          intro f
          induction f with
          | zero =>
            intro p ds hp h
            cases h
          | succ f ih =>
            intro p ds hp h
            rw [t_clsS] at h
            obtain ⟨r, h1, h2⟩ := t_bdOk h
            obtain ⟨es, h3, h4⟩ := t_bdOk h2
            obtain ⟨q1, q2, q3, q4, q5⟩ := t_clOk hn hp h1
            cases h4
            rw [show r.2 :: es = [r.2] ++ es from rfl, t_progMA, t_progM1, List.length_append]
            unfold t_tl at h3
            split at h3
            · cases h3
              show p + ((e_clsM r.2).length + 0) ≤ n
              omega
            · split at h3
              · cases h3
              · split at h3
                · rename_i h59
                  have := ih (r.1 + 1) es (by have := (t_hlt h59 (by decide)).1; omega) h3
                  omega
                · cases h3
        have := this 10 0 (r.2 :: ds) (Nat.zero_le _) (by rw [t_clsS, hr]; show t_bd (t_tl T n 9 r.1) _ = _; rw [hds]; rfl)
        have e : (e_progM ([r.2] ++ ds)).length = (e_progM (r.2 :: ds)).length := rfl
        omega
      unfold w_X9_town_135
      rw [if_pos c2, c3, e7, if_pos rfl, show (98 + 1 : Nat) = 99 from rfl, k_31, e31, k_37, eq_true (v_31.mpr trivial), eq_true (v_37.mpr trivial), true_and, true_and]
      simp only [true_and]
      rintro _ rfl _ rfl
      rw [mu_o _ _ (by omega), mu_o _ _ (by omega), e5, nI_1]
      refine hy hlen _ (fun q a b => ?_) (fun j a => ?_) (fun j a b c d e g => ?_) ?_ ?_ ?_ ?_ ?_ (fun j z hz => ?_)
      · simp (disch := omega) only [ap_mu_n]
        rw [b1 q a b, f1 q a b]
      · simp (disch := omega) only [mu_o]
        rw [b2 j (by omega) (by omega) (by omega), f2 j a]
      · simp (disch := omega) only [mu_o]
        rw [b3 j d e g, f3 j b d e]
      · simp (disch := omega) only [mu_o, mu_s]
      · simp (disch := omega) only [mu_o]
        rw [b3 _ (by omega) (by omega) (by omega)]
        exact g36
      · rw [mu_s]
      · simp (disch := omega) only [mu_o]
        exact c5
      · simp (disch := omega) only [mu_o]
        exact c6
      · have hlt := (List.getElem?_eq_some_iff.mp hz).1
        rw [mu_o _ _ (by omega), mu_o _ _ (by omega)]
        exact c7 j z hz
    · obtain ⟨b1, b2, b3⟩ := hM2
      refine hn2 e (by show t_bd (t_tl T n 9 r.1) _ = _; rw [he]; rfl) M2 (fun q a b => ?_) (fun j a => ?_) (fun j a b c d => ?_) ?_
      · rw [b1 q a b, f1 q a b]
      · rw [b2 j (by omega) (by omega) (by omega), f2 j a]
      · rw [b3 j b c d, f3 j a b c]
      · rw [b3 _ (by omega) (by omega) (by omega)]
        exact g36
  · rw [he] at hn2
    obtain ⟨⟨b1, b2, b3⟩, c1, c2⟩ := hM1
    rw [l_1]
    show w_X9_town_93_s (w_X9_town_93 98 K 4095) 98 _ M1 K
    unfold w_X9_town_93_s
    rw [if_neg (by rw [c1]; decide)]
    unfold w_X9_town_135
    rw [if_neg (by rw [c1]; decide), c2]
    refine hn2 e rfl M1 (fun q a b => ?_) (fun j a => ?_) (fun j a b c d => ?_) ?_
    · rw [b1 q a b, f1 q a b]
    · rw [b2 j (by omega) (by omega) (by omega), f2 j a]
    · rw [b3 j b c d, f3 j a b c]
    · rw [b3 _ (by omega) (by omega) (by omega)]
      exact g36
