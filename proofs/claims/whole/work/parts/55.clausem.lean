/-! town: clauses; the reference reads them -/
def t_sp (T : Nat → Nat) (n w : Nat) : Nat → Nat → Nat → Except Nat Nat
  | 0, _, p => .ok p
  | m + 1, j, p => if t_hd T n p = t_ch w j then t_sp T n w m (j + 1) (p + 1) else .error p
def t_w (T : Nat → Nat) (n p : Nat) : Nat := if t_hd T n p = 98 then 0 else if t_hd T n p = 104 then 1 else 2
def t_cl1 (T : Nat → Nat) (n w p : Nat) : Except Nat (Nat × e_Cls) := t_bd (t_sp T n w (ap_sL w) 0 p) (fun p1 => t_bd (t_num T n p1) (fun r => if w = 0 then .ok (r.1, (0, r.2, [])) else if t_hd T n r.1 = 32 then t_bd (t_go T n 600 2 0 (r.1 + 1)) (fun s => .ok (s.1, (w, r.2, s.2))) else .error r.1))
def t_cl (T : Nat → Nat) (n p : Nat) : Except Nat (Nat × e_Cls) := t_cl1 T n (t_w T n p) p
def t_cls (T : Nat → Nat) (n : Nat) : Nat → Nat → Except Nat (List e_Cls)
  | 0, p => .error p
  | f + 1, p => t_bd (t_cl T n p) (fun r => t_bd (if r.1 = n then .ok [] else if f = 0 then .error r.1 else if t_hd T n r.1 = 59 then t_cls T n f (r.1 + 1) else .error r.1) (fun cs => .ok (r.2 :: cs)))
def t_tl (T : Nat → Nat) (n f p : Nat) : Except Nat (List e_Cls) := if p = n then .ok [] else if f = 0 then .error p else if t_hd T n p = 59 then t_cls T n f (p + 1) else .error p
theorem t_clsS (T : Nat → Nat) (n f p : Nat) : t_cls T n (f + 1) p = t_bd (t_cl T n p) (fun r => t_bd (t_tl T n f r.1) (fun cs => .ok (r.2 :: cs))) := rfl
theorem t_spOk {T : Nat → Nat} {n w : Nat} (hc : ∀ j, j < ap_sL w → t_ch w j < 128) : ∀ (m j p p1 : Nat), j + m ≤ ap_sL w → p ≤ n → t_sp T n w m j p = .ok p1 → p1 = p + m ∧ p1 ≤ n := by
  intro m
  induction m with
  | zero =>
    intro j p p1 hj hp h
    cases h
    exact ⟨rfl, hp⟩
  | succ m ih =>
    intro j p p1 hj hp h
    have h : (if t_hd T n p = t_ch w j then t_sp T n w m (j + 1) (p + 1) else .error p) = .ok p1 := h
    split at h
    · rename_i e
      have := (t_hlt e (hc j (by omega))).1
      obtain ⟨a, b⟩ := ih (j + 1) (p + 1) p1 (by omega) this h
      exact ⟨by omega, b⟩
    · cases h
theorem t_chw {w : Nat} (hw : w < 6) : ∀ j, j < ap_sL w → t_ch w j < 128 := fun j hj => (t_chs w hw j (by have := (t_slen w hw).2.1; omega) hj).2
theorem t_wlt (T : Nat → Nat) (n p : Nat) : t_w T n p ≤ 2 := by
  unfold t_w
  split
  · omega
  · split <;> omega
theorem t_clOk {T : Nat → Nat} {n p : Nat} {r : Nat × e_Cls} (hn : n ≤ 100) (hp : p ≤ n) (h : t_cl T n p = .ok r) : p < r.1 ∧ r.1 ≤ n ∧ e_clsOK r.2 ∧ p + (e_clsM r.2).length ≤ r.1 ∧ p + r.2.2.2.length ≤ r.1 := by
  have hw := t_wlt T n p
  unfold t_cl t_cl1 at h
  generalize t_w T n p = w at *
  obtain ⟨p1, h1, h2⟩ := t_bdOk h
  obtain ⟨a1, a2⟩ := t_spOk (t_chw (by omega)) _ _ _ _ (by omega) hp h1
  obtain ⟨r1, h3, h4⟩ := t_bdOk h2
  obtain ⟨b1, b2, b3⟩ := t_numOk h3
  split at h4
  · cases h4
    refine ⟨by show p < r1.1; omega, b2, ⟨by show 0 ≤ 2; omega, b3, fun _ => rfl, fun h => absurd rfl h, fun t ht => by cases ht⟩, ?_, ?_⟩
    · show p + 0 ≤ r1.1
      omega
    · show p + 0 ≤ r1.1
      omega
  · rename_i hw0
    split at h4
    · obtain ⟨s, h5, h6⟩ := t_bdOk h4
      obtain ⟨c1, ⟨c2, c3, c4⟩, c5, c6, c7⟩ := (t_good T n 600).2.2.1 _ _ _ (by decide) h5
      cases h6
      refine ⟨by show p < s.1; omega, c2, ⟨hw, b3, fun h => absurd h hw0, fun _ => ?_, c4⟩, ?_, ?_⟩
      · have := c7 0 (by decide) [] rfl
        rw [List.append_nil] at this
        exact this
      · show p + (if w = 0 then [] else s.2.map e_tokM ++ [if w = 1 then -10 - nI r1.2 else -200 - nI r1.2]).length ≤ s.1
        rw [if_neg hw0, List.length_append, List.length_map]
        show p + (s.2.length + 1) ≤ s.1
        omega
      · show p + s.2.length ≤ s.1
        omega
    · cases h4
/-! the reference -/
theorem m_spell2 {w a e : Nat} {M0 : ap_Mem} {K : ap_Mem → Prop} (hw : w < 6) (hy : ∀ M', t_ME a M0 M' e → K M') : ∀ (m j fuel : Nat) (M : ap_Mem), j + m = ap_sL w → m < fuel → t_ME a M0 M e → w_X9_spells_2 98 w K fuel (nI j) M := by
  obtain ⟨-, h5, -⟩ := t_slen w hw
  intro m
  induction m with
  | zero =>
    intro j fuel M hj hf h
    obtain ⟨k, rfl⟩ : ∃ k, fuel = k + 1 := ⟨fuel - 1, by omega⟩
    show w_X9_spells_2_s (w_X9_spells_2 98 w K k) 98 w (nI j) M K
    unfold w_X9_spells_2_s
    rw [j_len hw, if_pos (by rw [n_le (by omega) (by omega)]; omega)]
    exact hy M h
  | succ m ih =>
    intro j fuel M hj hf h
    obtain ⟨k, rfl⟩ : ∃ k, fuel = k + 1 := ⟨fuel - 1, by omega⟩
    show w_X9_spells_2_s (w_X9_spells_2 98 w K k) 98 w (nI j) M K
    unfold w_X9_spells_2_s
    rw [j_len hw, if_neg (by rw [n_le (by omega) (by omega)]; omega), j_char hw (by omega)]
    refine m_must2 h (fun M1 hM1 => ?_)
    rintro _ rfl
    rw [nI_1]
    exact ih (j + 1) k M1 (by omega) (by omega) hM1
theorem m_spell1 {T : Nat → Nat} {n a o bd w : Nat} {M0 : ap_Mem} {L : List Int32} {K : ap_Mem → Prop} (h0 : t_M0 T n a M0) (hw : w < 6) : ∀ (m j fuel p : Nat) (M : ap_Mem), j + m = ap_sL w → m < fuel → t_MS n a M0 M p o bd L → (∀ p1, t_sp T n w m j p = .ok p1 → ∀ M', t_MS n a M0 M' p1 o bd L → K M') → (∀ e, t_sp T n w m j p = .error e → ∀ M', t_ME a M0 M' e → K M') → w_X9_spells_2 98 w K fuel (nI j) M := by
  obtain ⟨-, h5, -⟩ := t_slen w hw
  intro m
  induction m with
  | zero =>
    intro j fuel p M hj hf h hy hn
    obtain ⟨k, rfl⟩ : ∃ k, fuel = k + 1 := ⟨fuel - 1, by omega⟩
    show w_X9_spells_2_s (w_X9_spells_2 98 w K k) 98 w (nI j) M K
    unfold w_X9_spells_2_s
    rw [j_len hw, if_pos (by rw [n_le (by omega) (by omega)]; omega)]
    exact hy p rfl M h
  | succ m ih =>
    intro j fuel p M hj hf h hy hn
    obtain ⟨k, rfl⟩ : ∃ k, fuel = k + 1 := ⟨fuel - 1, by omega⟩
    show w_X9_spells_2_s (w_X9_spells_2 98 w K k) 98 w (nI j) M K
    unfold w_X9_spells_2_s
    rw [j_len hw, if_neg (by rw [n_le (by omega) (by omega)]; omega), j_char hw (by omega)]
    have e : t_sp T n w (m + 1) j p = if t_hd T n p = t_ch w j then t_sp T n w m (j + 1) (p + 1) else .error p := rfl
    rw [e] at hy hn
    refine m_must1 h0 h (t_chw hw j (by omega)) (fun hc M1 hM1 => ?_) (fun hc M1 hM1 => ?_)
    · rw [if_pos hc] at hy hn
      rintro _ rfl
      rw [nI_1]
      exact ih (j + 1) k (p + 1) M1 (by omega) (by omega) hM1 hy hn
    · rw [if_neg hc] at hn
      rintro _ rfl
      rw [nI_1]
      exact m_spell2 hw (hn p rfl) m (j + 1) k M1 (by omega) (by omega) hM1
theorem m_tells {T : Nat → Nat} {n a p o bd : Nat} {M0 M : ap_Mem} {L : List Int32} {K : ap_Mem → Prop} (h0 : t_M0 T n a M0) (h : t_MS n a M0 M p o bd L) (hy : ∀ r, t_cl1 T n 0 p = .ok r → ∀ M', t_MS n a M0 M' r.1 o r.2.2.1 L → K M') (hn : ∀ e, t_cl1 T n 0 p = .error e → ∀ M', t_ME a M0 M' e → K M') : w_X9_tellsHere 98 0 226 M K := by
  unfold w_X9_tellsHere w_X9_spells
  unfold t_cl1 at hy hn
  have e0 : ap_sL 0 = 6 := rfl
  rw [l_0]
  refine m_spell1 h0 (by decide) (ap_sL 0) 0 4096 p M (by omega) (by rw [e0]; decide) h (fun p1 h1 M1 hM1 => ?_) (fun e he M1 hM1 => ?_)
  · rw [h1] at hy hn
    refine m_fig1 h0 hM1 (fun r hr M2 hM2 => ?_) (fun e he M2 hM2 => ?_)
    · obtain ⟨⟨b1, b2, b3⟩, c1, c2, c3, c4, c5, c6, c7⟩ := hM2
      have ha := h0.1
      have e5 : M2 98 5 = nI a := by rw [b2 _ (by omega) (by omega) (by omega)]; exact h0.2.2.2.1
      rw [← l_0, if_pos c2, e5, l_226, nI_add, n_vp (by omega), n_cl (by omega), show (98 + 1 : Nat) = 99 from rfl]
      refine ⟨by omega, ?_⟩
      rintro _ rfl
      refine hy (r.1, (0, r.2, [])) (by show t_bd (t_num T n p1) _ = _; rw [hr]; rfl) _ ⟨⟨fun q hq hq2 => ?_, fun j x y z => ?_, fun j x y z => ?_⟩, c1, ?_, ?_, ?_, ?_, ?_, fun j z hz => ?_⟩
      · simp (disch := omega) only [ap_mu_n]
        exact b1 q hq hq2
      · simp (disch := omega) only [mu_o]
        exact b2 j x y z
      · rw [mu_o _ _ (by omega)]
        exact b3 j x y z
      · simp (disch := omega) only [mu_o, c2]
      · simp (disch := omega) only [mu_o, c3]
      · simp (disch := omega) only [mu_o, c4]
      · rw [mu_s]
      · rw [mu_o _ _ (by omega)]
        exact c6
      · rw [mu_o _ _ (by omega)]
        exact c7 j z hz
    · rw [← l_0, if_neg (by rw [hM2.2.1]; decide)]
      exact hn e (by show t_bd (t_num T n p1) _ = _; rw [he]; rfl) M2 hM2
  · refine m_fig2 hM1 (fun M2 hM2 => ?_)
    rw [← l_0, if_neg (by rw [hM2.2.1]; decide)]
    exact hn e (by rw [he]; rfl) M2 hM2
theorem m_some {T : Nat → Nat} {n a : Nat} {M0 : ap_Mem} (h0 : t_M0 T n a M0) {p bd : Nat} {L : List Int32} {M : ap_Mem} {K : ap_Mem → Prop} (hL : L.length ≤ p) (h : t_MS n a M0 M p 0 bd L) (hy : ∀ r, t_go T n 600 2 0 p = .ok r → ∀ M', t_MS n a M0 M' r.1 0 bd (L ++ r.2.map e_tokM) → K M') (hn : ∀ e, t_go T n 600 2 0 p = .error e → ∀ M', t_ME a M0 M' e → K M') : w_X9_some 98 M K := by
  have := h0.2.1
  unfold w_X9_some
  exact (m_go h0 600).2.2.1 30 0 p bd L M K (by omega) (by decide) (by decide) hL h hy hn
theorem m_much {T : Nat → Nat} {n a p bd w : Nat} {x : Int32} {M0 M : ap_Mem} {L : List Int32} {K : ap_Mem → Prop} (h0 : t_M0 T n a M0) (hL : L.length ≤ p) (h : t_MS n a M0 M p 0 bd L) (hw : w = 1 ∧ x = -10 ∨ w = 2 ∧ x = -200) (hy : ∀ r, t_cl1 T n w p = .ok r → ∀ M', t_MS n a M0 M' r.1 0 bd (L ++ e_clsM r.2) → K M') (hn : ∀ e, t_cl1 T n w p = .error e → ∀ M', t_ME a M0 M' e → K M') : w_X9_much 98 w x M K := by
  have hw6 : w < 6 := by omega
  have hw0 : w ≠ 0 := by omega
  have hp := h.2.1
  have hn100 := h0.2.1
  obtain ⟨-, hl1, hl2⟩ := t_slen w hw6
  unfold w_X9_much w_X9_spells
  unfold t_cl1 at hy hn
  rw [l_0]
  refine m_spell1 h0 hw6 (ap_sL w) 0 4096 p M (by omega) (by omega) h (fun p1 h1 M1 hM1 => ?_) (fun e he M1 hM1 => ?_)
  · obtain ⟨a1, a2⟩ := t_spOk (t_chw hw6) _ _ _ _ (by omega) hp h1
    rw [h1] at hy hn
    refine m_fig1 h0 hM1 (fun r hr M2 hM2 => ?_) (fun e he M2 hM2 => ?_)
    · obtain ⟨b1, b2, b3⟩ := t_numOk hr
      have hy : ∀ s, (if w = 0 then .ok (r.1, (0, r.2, [])) else if t_hd T n r.1 = 32 then t_bd (t_go T n 600 2 0 (r.1 + 1)) (fun s => .ok (s.1, (w, r.2, s.2))) else .error r.1) = .ok s → ∀ M', t_MS n a M0 M' s.1 0 bd (L ++ e_clsM s.2) → K M' := fun s hs => hy s (by show t_bd (t_num T n p1) _ = _; rw [hr]; exact hs)
      have hn : ∀ e, (if w = 0 then .ok (r.1, (0, r.2, [])) else if t_hd T n r.1 = 32 then t_bd (t_go T n 600 2 0 (r.1 + 1)) (fun s => .ok (s.1, (w, r.2, s.2))) else .error r.1) = Except.error e → ∀ M', t_ME a M0 M' e → K M' := fun e he => hn e (by show t_bd (t_num T n p1) _ = _; rw [hr]; exact he)
      rw [if_neg hw0] at hy hn
      rw [show (32 : Int32) = nI 32 from rfl]
      refine m_must1 h0 hM2 (by decide) (fun h32 M3 hM3 => ?_) (fun h32 M3 hM3 => ?_)
      · rw [if_pos h32] at hy hn
        refine m_some h0 (by omega) hM3 (fun s hs M4 hM4 => ?_) (fun e he M4 hM4 => ?_)
        · obtain ⟨c1, ⟨c2, c3, c4⟩, -⟩ := (t_good T n 600).2.2.1 _ _ _ (by decide) hs
          refine m_emit1 h0 hM4 (by rw [List.length_append, List.length_map]; omega) (fun M5 hM5 => ?_)
          refine hy (s.1, (w, r.2, s.2)) (by rw [hs]; rfl) M5 ?_
          have e : e_clsM (w, r.2, s.2) = s.2.map e_tokM ++ [x - nI r.2] := by
            show (if w = 0 then [] else s.2.map e_tokM ++ [if w = 1 then -10 - nI r.2 else -200 - nI r.2]) = _
            rw [if_neg hw0]
            rcases hw with ⟨h1, h2⟩ | ⟨h1, h2⟩
            · rw [if_pos h1, h2]
            · rw [if_neg (by omega), h2]
          show t_MS n a M0 M5 s.1 0 bd (L ++ e_clsM (w, r.2, s.2))
          rw [e, ← List.append_assoc]
          exact hM5
        · exact m_emit2 hM4 (hn e (by rw [he]; rfl) M4 hM4)
      · rw [if_neg h32] at hn
        exact m_som2 (k := 27) hM3.2.1 (m_emit2 hM3 (hn r.1 rfl M3 hM3))
    · refine m_must2 hM2 (fun M3 hM3 => m_som2 (k := 27) hM3.2.1 (m_emit2 hM3 (hn e (by show t_bd (t_num T n p1) _ = _; rw [he]; rfl) M3 hM3)))
  · exact m_fig2 hM1 (fun M2 hM2 => m_must2 hM2 (fun M3 hM3 => m_som2 (k := 27) hM3.2.1 (m_emit2 hM3 (hn e (by rw [he]; rfl) M3 hM3))))
/-- a clause: what is told of bored, the rows -/
theorem m_clause {T : Nat → Nat} {n a p bd : Nat} {M0 M : ap_Mem} {L : List Int32} {K : ap_Mem → Prop} (h0 : t_M0 T n a M0) (hL : L.length ≤ p) (h : t_MS n a M0 M p 0 bd L) (hy : ∀ r, t_cl T n p = .ok r → ∀ M', t_MS n a M0 M' r.1 0 (if r.2.1 = 0 then r.2.2.1 else bd) (L ++ e_clsM r.2) → K M') (hn : ∀ e, t_cl T n p = .error e → ∀ M', t_ME a M0 M' e → K M') : w_X9_clauseHere 98 M K := by
  have hT := h0.2.2.1
  have key : ∀ w, w ≤ 2 → ∀ r, t_cl1 T n w p = .ok r → r.2.1 = w ∧ (w = 0 → e_clsM r.2 = []) := by
    intro w hw r hr
    unfold t_cl1 at hr
    obtain ⟨p1, h1, h2⟩ := t_bdOk hr
    obtain ⟨r1, h3, h4⟩ := t_bdOk h2
    split at h4
    · rename_i e
      cases h4
      exact ⟨e.symm, fun _ => rfl⟩
    · rename_i e
      split at h4
      · obtain ⟨s, h5, h6⟩ := t_bdOk h4
        cases h6
        exact ⟨rfl, fun h => absurd h e⟩
      · cases h4
  unfold w_X9_clauseHere
  unfold t_cl t_w at hy hn
  rw [m_here (t_MSt h0 h), show (98 : Int32) = nI 98 from rfl, t_if (t_hIe hT (by decide)), show (104 : Int32) = nI 104 from rfl, t_if (t_hIe hT (by decide)), show (115 : Int32) = nI 115 from rfl, t_if (t_hIe hT (by decide))]
  by_cases h98 : t_hd T n p = 98
  · rw [if_pos h98] at hy hn ⊢
    refine m_tells h0 h (fun r hr M' hM' => hy r hr M' ?_) hn
    obtain ⟨k1, k2⟩ := key 0 (by decide) r hr
    rw [if_pos k1, k2 rfl, List.append_nil]
    exact hM'
  · rw [if_neg h98] at hy hn ⊢
    by_cases h104 : t_hd T n p = 104
    · rw [if_pos h104] at hy hn ⊢
      refine m_much h0 hL h (Or.inl ⟨rfl, rfl⟩) (fun r hr M' hM' => hy r hr M' ?_) hn
      obtain ⟨k1, k2⟩ := key 1 (by decide) r hr
      rw [if_neg (by omega)]
      exact hM'
    · rw [if_neg h104] at hy hn ⊢
      by_cases h115 : t_hd T n p = 115
      · rw [if_pos h115]
        refine m_much h0 hL h (Or.inr ⟨rfl, rfl⟩) (fun r hr M' hM' => hy r hr M' ?_) hn
        obtain ⟨k1, k2⟩ := key 2 (by decide) r hr
        rw [if_neg (by omega)]
        exact hM'
      · rw [if_neg h115]
        rintro _ rfl
        refine hn p ?_ _ (t_MSe h (fun q hq => by simp (disch := omega) only [ap_mu_n]) (fun j x y z => by simp (disch := omega) only [mu_o]) (by rw [mu_s]) (by simp (disch := omega) only [mu_o]; exact h.2.2.2.1))
        unfold t_cl1
        have : t_sp T n 2 (ap_sL 2) 0 p = .error p := if_neg h115
        rw [this]
        rfl
