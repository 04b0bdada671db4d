/-! town: the class reads its clauses -/
def t_DF (M0 M : ap_Mem) : Prop := ∀ q, ¬ (63 ≤ q ∧ q ≤ 68) → q ≠ 75 → M q = M0 q
def t_DS (n : Nat) (M0 M : ap_Mem) (p : Nat) (cs : List e_Cls) : Prop := t_DF M0 M ∧ p ≤ n ∧ M 63 1 = nI p ∧ e_CTown M 64 cs ∧ (e_progC cs).length ≤ p
def t_DE (M0 M : ap_Mem) (e : Nat) : Prop := t_DF M0 M ∧ M 63 1 = nI e
def t_tok (cs : List e_Cls) : List e_Tok := cs.flatMap (fun c => c.2.2)
theorem t_progCt (cs : List e_Cls) : e_progC cs = (t_tok cs).map e_tokC := by
  unfold e_progC t_tok
  rw [List.map_flatMap]
theorem t_asksT (cs : List e_Cls) : e_asks cs = t_asks (t_tok cs) := by
  unfold e_asks t_asks t_tok
  rw [List.any_flatMap]
theorem t_progCA (cs ds : List e_Cls) : e_progC (cs ++ ds) = e_progC cs ++ e_progC ds := List.flatMap_append ..
theorem t_tokA (cs : List e_Cls) (c : e_Cls) : t_tok (cs ++ [c]) = t_tok cs ++ c.2.2 := by
  unfold t_tok
  rw [List.flatMap_append, List.flatMap_cons, List.flatMap_nil, List.append_nil]
theorem c_all {T : Nat → Nat} {n w : Nat} {K : Int32 → ap_Mem → Prop} (hw : w < 6) {M0 : ap_Mem} : ∀ (m j fuel p : Nat) (M : ap_Mem), j + m = ap_sL w → m < fuel → t_CT T n M p → (∀ q, q ≠ 63 → M q = M0 q) → (∀ k, k ≠ 1 → M 63 k = M0 63 k) →
    (∀ p1, t_sp T n w m j p = .ok p1 → ∀ M', t_CT T n M' p1 → (∀ q, q ≠ 63 → M' q = M0 q) → (∀ k, k ≠ 1 → M' 63 k = M0 63 k) → K 1 M') → (∀ e, t_sp T n w m j p = .error e → ∀ M', M' 63 1 = nI e → (∀ q, q ≠ 63 → M' q = M0 q) → K 0 M') → w_X4_takesAll_2 63 w K fuel (nI j) M := by
  obtain ⟨-, h5, -⟩ := t_slen w hw
  intro m
  induction m with
  | zero =>
    intro j fuel p M hj hf h f1 f2 hy hn
    obtain ⟨k, rfl⟩ : ∃ k, fuel = k + 1 := ⟨fuel - 1, by omega⟩
    show w_X4_takesAll_2_s (w_X4_takesAll_2 63 w K k) 63 w (nI j) M K
    unfold w_X4_takesAll_2_s
    rw [j_len hw, if_pos (by rw [n_le (by omega) (by omega)]; omega)]
    exact hy p rfl M h f1 f2
  | succ m ih =>
    intro j fuel p M hj hf h f1 f2 hy hn
    obtain ⟨k, rfl⟩ : ∃ k, fuel = k + 1 := ⟨fuel - 1, by omega⟩
    show w_X4_takesAll_2_s (w_X4_takesAll_2 63 w K k) 63 w (nI j) M K
    unfold w_X4_takesAll_2_s
    have e : t_sp T n w (m + 1) j p = if t_hd T n p = t_ch w j then t_sp T n w m (j + 1) (p + 1) else .error p := rfl
    rw [e] at hy hn
    rw [j_len hw, if_neg (by rw [n_le (by omega) (by omega)]; omega), j_char hw (by omega), t_takes h (t_chw hw j (by omega))]
    by_cases hc : t_hd T n p = t_ch w j
    · rw [if_pos hc] at hy hn
      rw [if_pos hc, if_neg (by decide)]
      rintro _ rfl
      rw [nI_1]
      exact ih (j + 1) k (p + 1) _ (by omega) (by omega) (t_CTmu h (t_hlt hc (t_chw hw j (by omega))).1) (fun q hq => by simp (disch := omega) only [ap_mu_n]; exact f1 q hq) (fun k hk => by simp (disch := omega) only [mu_o]; exact f2 k hk) hy hn
    · rw [if_neg hc] at hn
      rw [if_neg hc, if_pos rfl]
      exact hn p rfl M h.2.2.2.1 f1
theorem c_begin' {M : ap_Mem} {k m w v : Nat} {K : ap_Mem → Prop} (hw : w ≤ 2) (h4 : M 64 4 = nI k) (hk : k < 10) (h5 : M 64 5 = nI m) (hy : ∀ M', (∀ q, ¬ (64 ≤ q ∧ q ≤ 67) → M' q = M q) → (∀ j, M' 65 j = if j = k then nI w else M 65 j) → (∀ j, M' 66 j = if j = k then nI v else M 66 j) → (∀ j, M' 67 j = if j = k then nI m else M 67 j) → M' 64 4 = nI (k + 1) → (∀ j, j ≠ 4 → j ≠ 6 → M' 64 j = M 64 j) → M' 64 6 = (if w = 0 then nI v else M 64 6) → K M') : w_X7_begin 64 (nI w) (nI v) M K := by
  unfold w_X7_begin
  rw [h4, l_10, if_pos (by rw [n_lt (by omega) (by omega)]; omega), n_vp (by omega), n_cl (by omega), show (64 + 1 : Nat) = 65 from rfl, show (64 + 2 : Nat) = 66 from rfl, show (64 + 3 : Nat) = 67 from rfl]
  refine ⟨hk, ?_⟩
  rintro _ rfl
  rw [mu_o _ _ (by omega), h4, n_vp (by omega), n_cl (by omega)]
  refine ⟨hk, ?_⟩
  rintro _ rfl
  rw [mu_o _ _ (by omega), mu_o _ _ (by omega), h4, n_vp (by omega), n_cl (by omega), mu_o _ _ (by omega), mu_o _ _ (by omega), h5]
  refine ⟨hk, ?_⟩
  rintro _ rfl _ rfl
  rw [mu_o _ _ (by omega), mu_o _ _ (by omega), mu_o _ _ (by omega), h4, nI_1]
  have row : ∀ (r : Nat) (v : Int32) (M1 M2 : ap_Mem), (∀ j, M1 r j = if j = k then v else M2 r j) → ∀ j, M1 r j = if j = k then v else M2 r j := fun _ _ _ _ h => h
  have rw65 : ∀ j, ap_mu (ap_mu (ap_mu (ap_mu M 65 k (nI w)) 66 k (nI v)) 67 k (nI m)) 64 4 (nI (k + 1)) 65 j = if j = k then nI w else M 65 j := fun j => by
    rw [mu_o _ _ (by omega), mu_o _ _ (by omega), mu_o _ _ (by omega), mu_at]
    by_cases hj : j = k
    · rw [if_pos ⟨rfl, hj⟩, if_pos hj]
    · rw [if_neg (fun h => hj h.2), if_neg hj]
  have rw66 : ∀ j, ap_mu (ap_mu (ap_mu (ap_mu M 65 k (nI w)) 66 k (nI v)) 67 k (nI m)) 64 4 (nI (k + 1)) 66 j = if j = k then nI v else M 66 j := fun j => by
    rw [mu_o _ _ (by omega), mu_o _ _ (by omega), mu_at]
    by_cases hj : j = k
    · rw [if_pos ⟨rfl, hj⟩, if_pos hj]
    · rw [if_neg (fun h => hj h.2), if_neg hj, mu_o _ _ (by omega)]
  have rw67 : ∀ j, ap_mu (ap_mu (ap_mu (ap_mu M 65 k (nI w)) 66 k (nI v)) 67 k (nI m)) 64 4 (nI (k + 1)) 67 j = if j = k then nI m else M 67 j := fun j => by
    rw [mu_o _ _ (by omega), mu_at]
    by_cases hj : j = k
    · rw [if_pos ⟨rfl, hj⟩, if_pos hj]
    · rw [if_neg (fun h => hj h.2), if_neg hj, mu_o _ _ (by omega), mu_o _ _ (by omega)]
  have ew : (nI w = 0) = (w = 0) := by rw [l_0, n_eq (by omega) (by omega)]
  rw [t_if ew]
  by_cases hw0 : w = 0
  · rw [if_pos hw0]
    rintro _ rfl
    refine hy _ (fun q hq => ?_) (fun j => ?_) (fun j => ?_) (fun j => ?_) ?_ (fun j a b => ?_) ?_
    · simp (disch := omega) only [ap_mu_n]
    · rw [mu_o _ _ (by omega)]
      exact rw65 j
    · rw [mu_o _ _ (by omega)]
      exact rw66 j
    · rw [mu_o _ _ (by omega)]
      exact rw67 j
    · simp (disch := omega) only [mu_o, mu_s]
    · simp (disch := omega) only [mu_o]
    · rw [mu_s, if_pos hw0]
  · rw [if_neg hw0]
    refine hy _ (fun q hq => ?_) rw65 rw66 rw67 ?_ (fun j a b => ?_) ?_
    · simp (disch := omega) only [ap_mu_n]
    · rw [mu_s]
    · simp (disch := omega) only [mu_o]
    · rw [if_neg hw0]
      simp (disch := omega) only [mu_o]
/-- a town with one clause more -/
theorem t_CTadd {M M' : ap_Mem} {cs : List e_Cls} {c : e_Cls} (h : e_CTown M 64 cs) (hl : cs.length < 10) (hc : e_clsOK c) (hp : (e_progC (cs ++ [c])).length ≤ 100) (h4 : M' 64 4 = nI (cs.length + 1)) (h65 : ∀ j, M' 65 j = if j = cs.length then nI c.1 else M 65 j) (h66 : ∀ j, M' 66 j = if j = cs.length then nI c.2.1 else M 66 j) (h67 : ∀ j, M' 67 j = if j = cs.length then nI (e_progC cs).length else M 67 j) (h6 : M' 64 6 = if c.1 = 0 then nI c.2.1 else M 64 6) (h5 : M' 64 5 = nI (t_tok (cs ++ [c])).length) (h7 : M' 64 7 = if t_asks (t_tok (cs ++ [c])) = true then 1 else 0) (ho : t_Out M' (t_tok (cs ++ [c]))) : e_CTown M' 64 (cs ++ [c]) := by
  obtain ⟨a1, a2, a3, a4, a5, a6, a7, a8, a9⟩ := h
  refine ⟨by rw [List.length_append]; exact hl, hp, fun d hd => ?_, by rw [h4, List.length_append]; rfl, by rw [h5, t_progCt, List.length_map], fun i d hd => ?_, fun j z hz => ?_, ?_, by rw [h7, t_asksT]⟩
  · rcases List.mem_append.mp hd with h | h
    · exact a3 d h
    · rw [List.mem_singleton.mp h]
      exact hc
  · by_cases hi : i = cs.length
    · subst hi
      rw [List.getElem?_append_right (Nat.le_refl _), Nat.sub_self] at hd
      cases hd
      rw [show (64 + 1 : Nat) = 65 from rfl, show (64 + 2 : Nat) = 66 from rfl, show (64 + 3 : Nat) = 67 from rfl, h65, h66, h67, if_pos rfl, if_pos rfl, if_pos rfl, List.take_left]
      exact ⟨rfl, rfl, rfl⟩
    · have hlt := (List.getElem?_eq_some_iff.mp hd).1
      rw [List.length_append] at hlt
      have hlt : i < cs.length + 1 := hlt
      rw [List.getElem?_append_left (by omega)] at hd
      rw [show (64 + 1 : Nat) = 65 from rfl, show (64 + 2 : Nat) = 66 from rfl, show (64 + 3 : Nat) = 67 from rfl, h65, h66, h67, if_neg hi, if_neg hi, if_neg hi, List.take_append_of_le_length (by omega)]
      exact a6 i d hd
  · rw [t_progCt, List.getElem?_map] at hz
    cases ht : (t_tok (cs ++ [c]))[j]? with
    | none =>
      rw [ht] at hz
      cases hz
    | some t =>
      rw [ht] at hz
      cases hz
      exact ho j t ht
  · rw [h6, t_boredA, a8]
    split <;> rfl
theorem c_clause {T : Nat → Nat} {n p : Nat} {M0 M : ap_Mem} {cs : List e_Cls} {K : Int32 → ap_Mem → Prop} (h0 : t_C0 T n M0) (h : t_DS n M0 M p cs) (hl : cs.length < 10) (hy : ∀ r, t_cl T n p = .ok r → ∀ M', t_DS n M0 M' r.1 (cs ++ [r.2]) → K 1 M') (hn : ∀ e, t_cl T n p = .error e → ∀ M', t_DE M0 M' e → K 0 M') : w_X4_readsClause 63 M K := by
  obtain ⟨z1, z2, z3, z4⟩ := h0
  obtain ⟨b1, c1, c2, c3, c4⟩ := h
  have hCT : t_CT T n M p := ⟨z1, c1, z2, c2, by rw [b1 _ (by omega) (by omega)]; exact z3, fun i hi => by rw [b1 _ (by omega) (by omega)]; exact z4 i hi⟩
  have clok : ∀ r, t_cl T n p = .ok r → p < r.1 ∧ r.1 ≤ n ∧ e_clsOK r.2 ∧ p + (e_clsM r.2).length ≤ r.1 ∧ p + r.2.2.2.length ≤ r.1 := fun r hr => t_clOk z1 c1 hr
  have htk : (t_tok cs).length = (e_progC cs).length := by rw [t_progCt, List.length_map]
  have hout : t_Out M (t_tok cs) := fun j t ht => c3.2.2.2.2.2.2.1 j _ (by rw [t_progCt, List.getElem?_map, ht]; rfl)
  have has : M 64 7 = if t_asks (t_tok cs) = true then 1 else 0 := by rw [← t_asksT]; exact c3.2.2.2.2.2.2.2.2
  have hsz : M 64 5 = nI (t_tok cs).length := by rw [htk]; exact c3.2.2.2.2.1
  have hc4 : M 64 4 = nI cs.length := c3.2.2.2.1
  have key : ∀ w, w ≤ 2 → (∀ r, t_cl1 T n w p = .ok r → t_cl T n p = .ok r) → (∀ e, t_cl1 T n w p = .error e → t_cl T n p = .error e) → w_X4_readsClause_50 63 (nI w) w M K := by
    intro w hw ok er
    have hw6 : w < 6 := by omega
    obtain ⟨-, hl1, hl2⟩ := t_slen w hw6
    unfold w_X4_readsClause_50 w_X4_takesAll
    unfold t_cl1 at ok er
    rw [l_0]
    refine c_all hw6 (M0 := M) (ap_sL w) 0 4096 p M (by omega) (by omega) hCT (fun _ _ => rfl) (fun _ _ => rfl) (fun p1 h1 M1 k1 k2 k3 => ?_) (fun e he M1 k1 k2 => ?_)
    · obtain ⟨a1, a2⟩ := t_spOk (t_chw hw6) _ _ _ _ (by omega) c1 h1
      rw [h1] at ok er
      rw [if_neg (by decide)]
      refine t_numC k1 (fun r hr => ?_) (fun e he => ?_)
      · obtain ⟨b2, b3, b4⟩ := t_numOk hr
        have ok : ∀ s, (if w = 0 then .ok (r.1, (0, r.2, [])) else if t_hd T n r.1 = 32 then t_bd (t_go T n 600 2 0 (r.1 + 1)) (fun s => .ok (s.1, (w, r.2, s.2))) else .error r.1) = .ok s → t_cl T n p = .ok s := fun s hs => ok s (by show t_bd (t_num T n p1) _ = _; rw [hr]; exact hs)
        have er : ∀ e, (if w = 0 then .ok (r.1, (0, r.2, [])) else if t_hd T n r.1 = 32 then t_bd (t_go T n 600 2 0 (r.1 + 1)) (fun s => .ok (s.1, (w, r.2, s.2))) else .error r.1) = Except.error e → t_cl T n p = .error e := fun e he => er e (by show t_bd (t_num T n p1) _ = _; rw [hr]; exact he)
        rw [if_pos (n_nonneg (by omega)), show (63 + 1 : Nat) = 64 from rfl]
        have kT := t_CTmu k1 (p' := r.1) b3
        have kq : ∀ q, q ≠ 63 → ap_mu M1 63 1 (nI r.1) q = M q := fun q hq => by simp (disch := omega) only [ap_mu_n]; exact k2 q hq
        generalize ap_mu M1 63 1 (nI r.1) = M2 at kT kq ⊢
        refine c_begin' hw (by rw [kq 64 (by decide)]; exact hc4) hl (by rw [kq 64 (by decide)]; exact hsz) (fun M3 d1 d2 d3 d4 d5 d6 d7 => ?_)
        rw [kq 64 (by decide)] at d6 d7
        have d2 : ∀ j, M3 65 j = if j = cs.length then nI w else M 65 j := fun j => by rw [d2, kq 65 (by decide)]
        have d3 : ∀ j, M3 66 j = if j = cs.length then nI r.2 else M 66 j := fun j => by rw [d3, kq 66 (by decide)]
        have d4 : ∀ j, M3 67 j = if j = cs.length then nI (e_progC cs).length else M 67 j := fun j => by rw [d4, kq 67 (by decide), htk]
        have d1' : ∀ q, ¬ (63 ≤ q ∧ q ≤ 67) → M3 q = M q := fun q hq => by rw [d1 q (by omega), kq q (by omega)]
        have out3 : t_Out M3 (t_tok cs) := fun j t ht => by rw [d1' 68 (by omega)]; exact hout j t ht
        have h31 : M3 63 1 = nI r.1 := by rw [d1 63 (by omega)]; exact kT.2.2.2.1
        have ew : (nI w = nI 0) = (w = 0) := propext (n_eq (by omega) (by omega))
        rw [t_if ew]
        by_cases hw0 : w = 0
        · rw [if_pos hw0] at ok
          rw [if_pos hw0]
          have hr' := ok _ rfl
          obtain ⟨-, -, okc, -, q5⟩ := clok _ hr'
          have et : t_tok (cs ++ [(0, r.2, [])]) = t_tok cs := by rw [t_tokA, List.append_nil]
          refine hy _ hr' M3 ⟨fun q a b => by rw [d1' q (by omega), b1 q (by omega) b], b3, h31, t_CTadd c3 hl okc ?_ d5 (fun j => by rw [d2, hw0]) d3 d4 ?_ ?_ ?_ ?_, ?_⟩
          · rw [t_progCt, et, List.length_map]
            omega
          · rw [d7, if_pos hw0]
            rfl
          · rw [et, d6 5 (by decide) (by decide)]
            exact hsz
          · rw [et, d6 7 (by decide) (by decide)]
            exact has
          · rw [et]
            exact out3
          · show (e_progC (cs ++ [(0, r.2, [])])).length ≤ r.1
            rw [t_progCt, et, List.length_map]
            omega
        · rw [if_neg hw0] at ok er
          rw [if_neg hw0]
          have kT3 : t_CT T n M3 r.1 := ⟨z1, b3, z2, h31, by rw [d1' _ (by omega)]; exact hCT.2.2.2.2.1, fun i hi => by rw [d1' _ (by omega)]; exact hCT.2.2.2.2.2 i hi⟩
          rw [show (32 : Int32) = nI 32 from rfl, t_takes kT3 (by decide)]
          by_cases h32 : t_hd T n r.1 = 32
          · rw [if_pos h32] at ok er
            rw [if_pos h32, if_neg (by decide)]
            have hlt := (t_hlt h32 (by decide)).1
            have kT4 := t_CTmu kT3 (p' := r.1 + 1) hlt
            have kq4 : ∀ q, q ≠ 63 → ap_mu M3 63 1 (nI (r.1 + 1)) q = M3 q := fun q hq => by simp (disch := omega) only [ap_mu_n]
            generalize ap_mu M3 63 1 (nI (r.1 + 1)) = M4 at kT4 kq4 ⊢
            refine c_expr (T := T) (n := n) (p := r.1 + 1) (out := t_tok cs) ⟨z1, z2, kT4.2.2.2.2.1, kT4.2.2.2.2.2⟩ (by omega) hlt kT4.2.2.2.1 ?_ ?_ ?_ ?_ (fun s hs M5 hM5 => ?_) (fun e he M5 hM5 => ?_)
            · rw [kq4 64 (by decide), d6 5 (by decide) (by decide)]
              exact hsz
            · rw [kq4 64 (by decide), d6 7 (by decide) (by decide)]
              exact has
            · intro j t ht
              rw [kq4 68 (by decide)]
              exact out3 j t ht
            · omega
            · rw [if_neg (by decide)]
              have hr' := ok (s.1, (w, r.2, s.2)) (by rw [hs]; rfl)
              obtain ⟨-, q2, okc, -, q5⟩ := clok _ hr'
              have q5 : p + s.2.length ≤ s.1 := q5
              have q2 : s.1 ≤ n := q2
              have et : t_tok (cs ++ [(w, r.2, s.2)]) = t_tok cs ++ s.2 := t_tokA _ _
              obtain ⟨⟨g1, g2⟩, g3, g4, g5, g6, g7, g8, g9, g10, g11, g12, g13, g14⟩ := hM5
              have fr : ∀ q, q ≠ 63 → q ≠ 64 → q ≠ 68 → q ≠ 75 → M5 q = M3 q := fun q a b c d => by rw [g1 q a b c d, kq4 q a]
              have fr64 : ∀ j, j ≠ 5 → j ≠ 7 → M5 64 j = M3 64 j := fun j a b => by rw [g2 j a b, kq4 64 (by decide)]
              refine hy _ hr' M5 ⟨fun q a b => by rw [fr q (by omega) (by omega) (by omega) b, d1' q (by omega), b1 q a b], g3, g4, t_CTadd c3 hl okc ?_ ?_ (fun j => ?_) (fun j => ?_) (fun j => ?_) ?_ ?_ ?_ ?_, ?_⟩
              · rw [t_progCt, et, List.length_map, List.length_append]
                omega
              · rw [fr64 4 (by decide) (by decide)]
                exact d5
              · rw [fr 65 (by decide) (by decide) (by decide) (by decide)]
                exact d2 j
              · rw [fr 66 (by decide) (by decide) (by decide) (by decide)]
                exact d3 j
              · rw [fr 67 (by decide) (by decide) (by decide) (by decide)]
                exact d4 j
              · rw [fr64 6 (by decide) (by decide), d7]
              · rw [et]
                exact g10
              · rw [et]
                exact g11
              · rw [et]
                exact g12
              · show (e_progC (cs ++ [(w, r.2, s.2)])).length ≤ s.1
                rw [t_progCt, et, List.length_map, List.length_append]
                omega
            · rw [if_pos (by decide)]
              obtain ⟨⟨g1, g2⟩, g3⟩ := hM5
              exact hn e (er e (by rw [he]; rfl)) M5 ⟨fun q a b => by rw [g1 q (by omega) (by omega) (by omega) b, kq4 q (by omega), d1' q (by omega), b1 q a b], g3⟩
          · rw [if_neg h32] at er
            rw [if_neg h32, if_pos (by decide)]
            exact hn r.1 (er r.1 rfl) M3 ⟨fun q a b => by rw [d1' q (by omega), b1 q a b], h31⟩
      · rw [if_neg (by decide)]
        exact hn e (er e (by show t_bd (t_num T n p1) _ = _; rw [he]; rfl)) M1 ⟨fun q a b => by rw [k2 q (by omega), b1 q a b], by rw [k1.2.2.2.1, t_numEr he]⟩
    · rw [if_pos (by decide)]
      exact hn e (er e (by rw [he]; rfl)) M1 ⟨fun q a b => by rw [k2 q (by omega), b1 q a b], k1⟩
  have hT := z2
  unfold w_X4_readsClause
  rw [t_next hCT, show (98 : Int32) = nI 98 from rfl, t_if (t_hIe hT (by decide))]
  by_cases h98 : t_hd T n p = 98
  · rw [if_pos h98]
    have ew : t_w T n p = 0 := if_pos h98
    unfold w_X4_readsClause_27
    rw [if_pos rfl]
    exact key 0 (by decide) (fun r hr => by unfold t_cl; rw [ew]; exact hr) (fun e he => by unfold t_cl; rw [ew]; exact he)
  · rw [if_neg h98, t_next hCT, show (104 : Int32) = nI 104 from rfl, t_if (t_hIe hT (by decide))]
    by_cases h104 : t_hd T n p = 104
    · rw [if_pos h104]
      have ew : t_w T n p = 1 := by unfold t_w; rw [if_neg h98, if_pos h104]
      unfold w_X4_readsClause_27
      rw [if_neg (by decide), if_pos rfl]
      exact key 1 (by decide) (fun r hr => by unfold t_cl; rw [ew]; exact hr) (fun e he => by unfold t_cl; rw [ew]; exact he)
    · rw [if_neg h104]
      have ew : t_w T n p = 2 := by unfold t_w; rw [if_neg h98, if_neg h104]
      unfold w_X4_readsClause_27
      rw [if_neg (by decide), if_neg (by decide)]
      exact key 2 (by decide) (fun r hr => by unfold t_cl; rw [ew]; exact hr) (fun e he => by unfold t_cl; rw [ew]; exact he)
