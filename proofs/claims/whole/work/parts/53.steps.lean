/-! town: the class's two places, ahead of an operand and behind one -/
def t_KB (K : Int32 → ap_Mem → Prop) (x : Nat) : ap_Mem → Prop := fun M_6 => w_X4_takes 63 38 M_6 (fun r_7 M_8 => (if r_7 = 0 then (w_X4_takes 63 124 M_8 (fun r_10 M_11 => (if r_10 = 0 then (w_X4_settle 63 1 M_11 (fun M_13 => (if (M_13 63 6) = 0 then (K 1 M_13) else (K 0 M_13)))) else (w_X4_settle 63 1 M_11 (fun M_15 => w_X4_push 63 1 M_15 (fun M_16 => w_X4_readsExpression_102 (w_X4_readsExpression_17 63 K (4095 - x)) 63 (nI x) M_16 K)))))) else (w_X4_settle 63 2 M_8 (fun M_17 => w_X4_push 63 2 M_17 (fun M_18 => w_X4_readsExpression_102 (w_X4_readsExpression_17 63 K (4095 - x)) 63 (nI x) M_18 K)))))
def t_KA (K : Int32 → ap_Mem → Prop) (x : Nat) : ap_Mem → Prop := fun M_2 => w_X4_readsTest 63 M_2 (fun r_3 M_4 => (if r_3 = 0 then (K 0 M_4) else (w_X4_takesClosing 63 M_4 (t_KB K x))))
def t_A (K : Int32 → ap_Mem → Prop) (x i : Nat) (M : ap_Mem) : Prop := w_X4_takesOpening_2 63 (t_KA K x) (4096 - i) (nI i) M
def t_B (K : Int32 → ap_Mem → Prop) (x y : Nat) (M : ap_Mem) : Prop := w_X4_takesClosing_2 63 (t_KB K x) (4096 - y) (nI y) M
theorem c_enter {K : Int32 → ap_Mem → Prop} {x : Nat} {M : ap_Mem} (hx : x < 100) (h : t_A K x 0 M) : w_X4_readsExpression_17 63 K (4096 - x) (nI x) M := by
  unfold t_A t_KA t_KB at h
  rw [Nat.sub_zero, ← l_0] at h
  rw [show 4096 - x = (4095 - x) + 1 by omega]
  show w_X4_readsExpression_17_s (w_X4_readsExpression_17 63 K (4095 - x)) 63 (nI x) M K
  unfold w_X4_readsExpression_17_s w_X4_takesOpening
  rw [l_100, if_neg (by rw [n_le (by omega) (by omega)]; omega)]
  exact h
theorem c_nxt {K : Int32 → ap_Mem → Prop} {x : Nat} {M : ap_Mem} (hx : x + 1 < 100) (h : t_A K (x + 1) 0 M) : w_X4_readsExpression_102 (w_X4_readsExpression_17 63 K (4095 - x)) 63 (nI x) M K := by
  unfold w_X4_readsExpression_102
  rintro _ rfl
  rw [nI_1, show 4095 - x = 4096 - (x + 1) by omega]
  exact c_enter hx h
theorem c_A60 {K : Int32 → ap_Mem → Prop} {x i : Nat} {M : ap_Mem} (h : t_A K x (i + 1) (ap_mu M 63 5 (M 63 5 + 1))) : w_X4_takesOpening_60 (w_X4_takesOpening_2 63 (t_KA K x) (4095 - i)) 63 (nI i) M (t_KA K x) := by
  unfold w_X4_takesOpening_60
  rintro _ rfl _ rfl
  rw [nI_1, show 4095 - i = 4096 - (i + 1) by omega]
  exact h
theorem c_A1 {T : Nat → Nat} {n p x i : Nat} {M0 M : ap_Mem} {S : List Nat} {out : List e_Tok} {K : Int32 → ap_Mem → Prop} (h0 : t_C0 T n M0) (h : t_CS n M0 M p S out) (hi : i ≤ t_o S) (ho : t_o S < 5) (hS : S.length < 17) (hh : t_hd T n p = 33) (hy : ∀ M', t_CS n M0 M' (p + 1) (3 :: S) out → t_A K x (i + 1) M') : t_A K x i M := by
  have hp := (t_hlt hh (by decide)).1
  have c4 := h.2.2.2.2.1
  unfold t_A
  rw [show 4096 - i = (4095 - i) + 1 by omega]
  show w_X4_takesOpening_2_s (w_X4_takesOpening_2 63 (t_KA K x) (4095 - i)) 63 (nI i) M (t_KA K x)
  unfold w_X4_takesOpening_2_s
  rw [l_5, if_neg (by rw [n_le (by omega) (by omega)]; omega), c4, if_neg (by rw [n_le (by omega) (by omega)]; omega), show (33 : Int32) = nI 33 from rfl, t_takes (t_CSt h0 h) (by decide), if_pos hh, if_neg (by decide)]
  have h1 := t_CSp h (p' := p + 1) (by omega) hp
  generalize ap_mu M 63 1 (nI (p + 1)) = M1 at h1 ⊢
  obtain ⟨d1, d2, d3, d4, d5, d6, d7, d8, d9, d10, d11, d12, d13⟩ := id h1
  have hl : S.length + out.length ≤ p := h.2.2.2.2.2.2.2.2.2.2.2.1
  rw [l_3]
  refine c_push 3 h1 hS (c_A60 (hy _ (t_pushed (z := 3) h1 (by decide) hS (by omega) (fun q a b => ?_) (fun j => ?_) ?_ ?_ ?_ ?_)))
  · simp (disch := omega) only [ap_mu_n]
  · rw [mu_o _ _ (by omega), mu_o _ _ (by omega), mu_at]
    by_cases hj : j = S.length
    · rw [if_pos ⟨rfl, hj⟩, if_pos hj]
    · rw [if_neg (fun h => hj h.2), if_neg hj]
  · simp (disch := omega) only [mu_o, d3]
  · simp (disch := omega) only [mu_o, mu_s]
  · rw [mu_s]
    simp (disch := omega) only [mu_o]
    rw [d5, nI_1]
    show _ = nI ((if (3 : Nat) = 0 ∨ (3 : Nat) = 3 then 1 else 0) + t_o S)
    rw [if_pos (Or.inr rfl), Nat.add_comm]
  · simp (disch := omega) only [mu_o]
    rw [d6]
    show _ = nI ((if (3 : Nat) = 0 then 1 else 0) + t_b S)
    rw [if_neg (by decide), Nat.zero_add]
theorem c_A2 {T : Nat → Nat} {n p x i : Nat} {M0 M : ap_Mem} {S : List Nat} {out : List e_Tok} {K : Int32 → ap_Mem → Prop} (h0 : t_C0 T n M0) (h : t_CS n M0 M p S out) (hi : i ≤ t_o S) (ho : t_o S < 5) (hS : S.length < 17) (hh : t_hd T n p = 40) (hy : ∀ M', t_CS n M0 M' (p + 1) (0 :: S) out → t_A K x (i + 1) M') : t_A K x i M := by
  have hp := (t_hlt hh (by decide)).1
  have c4 := h.2.2.2.2.1
  unfold t_A
  rw [show 4096 - i = (4095 - i) + 1 by omega]
  show w_X4_takesOpening_2_s (w_X4_takesOpening_2 63 (t_KA K x) (4095 - i)) 63 (nI i) M (t_KA K x)
  unfold w_X4_takesOpening_2_s
  rw [l_5, if_neg (by rw [n_le (by omega) (by omega)]; omega), c4, if_neg (by rw [n_le (by omega) (by omega)]; omega), show (33 : Int32) = nI 33 from rfl, t_takes (t_CSt h0 h) (by decide), if_neg (by rw [hh]; decide), if_pos rfl, show (40 : Int32) = nI 40 from rfl, t_takes (t_CSt h0 h) (by decide), if_pos hh, if_neg (by decide)]
  have h1 := t_CSp h (p' := p + 1) (by omega) hp
  generalize ap_mu M 63 1 (nI (p + 1)) = M1 at h1 ⊢
  obtain ⟨d1, d2, d3, d4, d5, d6, d7, d8, d9, d10, d11, d12, d13⟩ := id h1
  have hl : S.length + out.length ≤ p := h.2.2.2.2.2.2.2.2.2.2.2.1
  rw [l_0]
  refine c_push 0 h1 hS ?_
  rintro _ rfl
  refine c_A60 (hy _ (t_pushed (z := 0) h1 (by decide) hS (by omega) (fun q a b => ?_) (fun j => ?_) ?_ ?_ ?_ ?_))
  · simp (disch := omega) only [ap_mu_n]
  · rw [mu_o _ _ (by omega), mu_o _ _ (by omega), mu_o _ _ (by omega), mu_at]
    by_cases hj : j = S.length
    · rw [if_pos ⟨rfl, hj⟩, if_pos hj]
    · rw [if_neg (fun h => hj h.2), if_neg hj]
  · simp (disch := omega) only [mu_o, d3]
  · simp (disch := omega) only [mu_o, mu_s]
  · rw [mu_s]
    simp (disch := omega) only [mu_o]
    rw [d5, nI_1]
    show _ = nI ((if (0 : Nat) = 0 ∨ (0 : Nat) = 3 then 1 else 0) + t_o S)
    rw [if_pos (Or.inl rfl), Nat.add_comm]
  · simp (disch := omega) only [mu_o, mu_s]
    rw [d6, nI_1]
    show _ = nI ((if (0 : Nat) = 0 then 1 else 0) + t_b S)
    rw [if_pos rfl, Nat.add_comm]
theorem c_A3 {T : Nat → Nat} {n p x i : Nat} {M0 M : ap_Mem} {S : List Nat} {out : List e_Tok} {K : Int32 → ap_Mem → Prop} (h0 : t_C0 T n M0) (h : t_CS n M0 M p S out) (hi : i ≤ t_o S) (ho : t_o S ≤ 5) (hh : t_o S = 5 ∨ (t_hd T n p ≠ 33 ∧ t_hd T n p ≠ 40)) (hy : ∀ r, t_test T n p = .ok r → ∀ M', t_CS n M0 M' r.1 S (out ++ [r.2]) → t_B K x 0 M') (hn : ∀ e, t_test T n p = .error e → ∀ M', t_CE M0 M' e → K 0 M') : t_A K x i M := by
  have c4 := h.2.2.2.2.1
  have fin : t_KA K x M := by
    unfold t_KA
    refine c_rtest h0 h (fun r hr M' hM' => ?_) (fun e he M' hM' => ?_)
    · rw [if_neg (by decide)]
      have := hy r hr M' hM'
      unfold t_B at this
      rw [Nat.sub_zero, ← l_0] at this
      unfold w_X4_takesClosing
      exact this
    · rw [if_pos rfl]
      exact hn e he M' hM'
  unfold t_A
  rw [show 4096 - i = (4095 - i) + 1 by omega]
  show w_X4_takesOpening_2_s (w_X4_takesOpening_2 63 (t_KA K x) (4095 - i)) 63 (nI i) M (t_KA K x)
  unfold w_X4_takesOpening_2_s
  by_cases hi5 : i = 5
  · rw [l_5, if_pos (by rw [n_le (by omega) (by omega)]; omega)]
    exact fin
  · rw [l_5, if_neg (by rw [n_le (by omega) (by omega)]; omega), c4]
    by_cases ho5 : t_o S = 5
    · rw [if_pos (by rw [n_le (by omega) (by omega)]; omega)]
      exact fin
    · obtain ⟨h33, h40⟩ : t_hd T n p ≠ 33 ∧ t_hd T n p ≠ 40 := by
        rcases hh with h | h
        · exact absurd h ho5
        · exact h
      rw [if_neg (by rw [n_le (by omega) (by omega)]; omega), show (33 : Int32) = nI 33 from rfl, t_takes (t_CSt h0 h) (by decide), if_neg h33, if_pos rfl, show (40 : Int32) = nI 40 from rfl, t_takes (t_CSt h0 h) (by decide), if_neg h40, if_pos rfl]
      exact fin
/-! behind an operand -/
theorem t_stlO : ∀ (S : List Nat) (out : List e_Tok), 1 ≤ t_b S → ∃ S' out', t_stl 1 S out = (0 :: S', out') ∧ t_b S' + 1 = t_b S := by
  intro S
  induction S with
  | nil =>
    intro out h
    exact absurd h (by decide)
  | cons z S ih =>
    intro out h
    by_cases hz : z < 1
    · have : z = 0 := by omega
      subst this
      refine ⟨S, out, if_pos hz, ?_⟩
      show _ = 1 + t_b S
      omega
    · have h2 : t_b (z :: S) = (if z = 0 then 1 else 0) + t_b S := rfl
      rw [if_neg (by omega), Nat.zero_add] at h2
      obtain ⟨S', out', h3, h4⟩ := ih (out ++ [t_jn z]) (by omega)
      refine ⟨S', out', ?_, by omega⟩
      rw [← h3]
      exact if_neg hz
theorem c_B0 {T : Nat → Nat} {n p x y : Nat} {M0 M : ap_Mem} {S : List Nat} {out : List e_Tok} {K : Int32 → ap_Mem → Prop} (h0 : t_C0 T n M0) (h : t_CS n M0 M p S out) (hb : y + t_b S ≤ 5) (hh : t_b S = 0 ∨ t_hd T n p ≠ 41) (hy : t_KB K x M) : t_B K x y M := by
  have c5 := h.2.2.2.2.2.1
  unfold t_B
  rw [show 4096 - y = (4095 - y) + 1 by omega]
  show w_X4_takesClosing_2_s (w_X4_takesClosing_2 63 (t_KB K x) (4095 - y)) 63 (nI y) M (t_KB K x)
  unfold w_X4_takesClosing_2_s
  by_cases hb0 : t_b S = 0
  · split
    · exact hy
    · rw [c5, hb0, if_pos (by decide)]
      exact hy
  · have h41 : t_hd T n p ≠ 41 := by
      rcases hh with h | h
      · exact absurd h hb0
      · exact h
    rw [l_5, if_neg (by rw [n_le (by omega) (by omega)]; omega), c5, l_0, if_neg (by rw [n_le (by omega) (by omega)]; omega), show (41 : Int32) = nI 41 from rfl, t_takes (t_CSt h0 h) (by decide), if_neg h41, if_pos (by decide)]
    exact hy
theorem c_B1 {T : Nat → Nat} {n p x y : Nat} {M0 M : ap_Mem} {S : List Nat} {out : List e_Tok} {K : Int32 → ap_Mem → Prop} (h0 : t_C0 T n M0) (h : t_CS n M0 M p S out) (hb : y + t_b S ≤ 5) (hb1 : 1 ≤ t_b S) (hh : t_hd T n p = 41) (hy : ∀ M' S' out', t_stl 1 S out = (0 :: S', out') → t_CS n M0 M' (p + 1) S' out' → t_B K x (y + 1) M') : t_B K x y M := by
  have hp := (t_hlt hh (by decide)).1
  have c5 := h.2.2.2.2.2.1
  unfold t_B
  rw [show 4096 - y = (4095 - y) + 1 by omega]
  show w_X4_takesClosing_2_s (w_X4_takesClosing_2 63 (t_KB K x) (4095 - y)) 63 (nI y) M (t_KB K x)
  unfold w_X4_takesClosing_2_s
  rw [l_5, if_neg (by rw [n_le (by omega) (by omega)]; omega), c5, l_0, if_neg (by rw [n_le (by omega) (by omega)]; omega), show (41 : Int32) = nI 41 from rfl, t_takes (t_CSt h0 h) (by decide), if_pos hh, if_neg (by decide)]
  have h1 := t_CSp h (p' := p + 1) (by omega) hp
  generalize ap_mu M 63 1 (nI (p + 1)) = M1 at h1 ⊢
  obtain ⟨S', out', hset, hbS⟩ := t_stlO S out hb1
  refine c_settle h0.1 (by decide) (by decide) h1 (fun M2 hM2 => ?_)
  rw [hset] at hM2
  obtain ⟨⟨b1, b2⟩, d2, d3, d4, d5, d6, d7, d8, d9, d10, d11, d12, d13⟩ := hM2
  have d4 : M2 63 4 = nI (S'.length + 1) := d4
  have d5 : M2 63 5 = nI ((if (0 : Nat) = 0 ∨ (0 : Nat) = 3 then 1 else 0) + t_o S') := d5
  have d6 : M2 63 6 = nI ((if (0 : Nat) = 0 then 1 else 0) + t_b S') := d6
  have d12 : S'.length + 1 + out'.length ≤ p + 1 := d12
  have d13 : S'.length + 1 ≤ 17 := d13
  rw [if_pos (Or.inl rfl)] at d5
  rw [if_pos rfl] at d6
  rintro _ rfl _ rfl _ rfl _ rfl
  rw [nI_1, show 4095 - y = 4096 - (y + 1) by omega]
  refine hy _ S' out' hset ⟨⟨fun q a b c d => ?_, fun j a b => ?_⟩, d2, ?_, ?_, ?_, ?_, fun j z hz => ?_, fun z hz => d8 z (List.mem_cons_of_mem _ hz), ?_, ?_, fun j t ht => ?_, by omega, by omega⟩
  · simp (disch := omega) only [ap_mu_n]
    exact b1 q a b c d
  · simp (disch := omega) only [mu_o]
    exact b2 j a b
  · simp (disch := omega) only [mu_o, d3]
  · simp (disch := omega) only [mu_o, mu_s]
    rw [d4, l_1, n_sub (by omega), Nat.add_sub_cancel]
  · simp (disch := omega) only [mu_o, mu_s]
    rw [d5, l_1, n_sub (by omega), Nat.add_sub_cancel_left]
  · simp (disch := omega) only [mu_o, mu_s]
    rw [d6, l_1, n_sub (by omega), Nat.add_sub_cancel_left]
  · simp (disch := omega) only [mu_o]
    exact d7 j z (t_below hz)
  · simp (disch := omega) only [mu_o, d9]
  · simp (disch := omega) only [mu_o, d10]
  · simp (disch := omega) only [mu_o]
    exact d11 j t ht
/-- an operator: what binds at least so firmly is settled, then it waits itself -/
theorem c_Bop {n p x z : Nat} {M0 M : ap_Mem} {S : List Nat} {out : List e_Tok} {K : Int32 → ap_Mem → Prop} (hn : n ≤ 100) (hx : x + 1 < 100) (hz : z = 1 ∨ z = 2) (hp : p + 1 ≤ n) (h : t_CS n M0 M p S out) (hS : (t_stl z S out).1.length < 17) (hy : ∀ M', t_CS n M0 M' (p + 1) (z :: (t_stl z S out).1) (t_stl z S out).2 → t_A K (x + 1) 0 M') : w_X4_settle 63 (nI z) (ap_mu M 63 1 (nI (p + 1))) (fun M_17 => w_X4_push 63 (nI z) M_17 (fun M_18 => w_X4_readsExpression_102 (w_X4_readsExpression_17 63 K (4095 - x)) 63 (nI x) M_18 K)) := by
  have hl : S.length + out.length ≤ p := h.2.2.2.2.2.2.2.2.2.2.2.1
  refine c_settle hn (by omega) (by omega) (t_CSp h (by omega) hp) (fun M2 hM2 => ?_)
  have hlen : ∀ (S : List Nat) (out : List e_Tok), (t_stl z S out).1.length + (t_stl z S out).2.length ≤ S.length + out.length := by
    intro S
    induction S with
    | nil => exact fun out => Nat.le_refl _
    | cons y S ih =>
      intro out
      by_cases hyz : y < z
      · have : t_stl z (y :: S) out = (y :: S, out) := if_pos hyz
        rw [this]
        exact Nat.le_refl _
      · have e : t_stl z (y :: S) out = t_stl z S (out ++ [t_jn y]) := if_neg hyz
        have := ih (out ++ [t_jn y])
        rw [List.length_append] at this
        have this : _ ≤ S.length + (out.length + 1) := this
        rw [e]
        show _ ≤ S.length + 1 + out.length
        omega
  have hlen := hlen S out
  generalize t_stl z S out = r at *
  obtain ⟨d1, d2, d3, d4, d5, d6, d7, d8, d9, d10, d11, d12, d13⟩ := id hM2
  refine c_push z hM2 hS (c_nxt hx (hy _ (t_pushed hM2 (by omega) hS (by omega) (fun q a b => ?_) (fun j => ?_) ?_ ?_ ?_ ?_)))
  · simp (disch := omega) only [ap_mu_n]
  · rw [mu_o _ _ (by omega), mu_at]
    by_cases hj : j = r.1.length
    · rw [if_pos ⟨rfl, hj⟩, if_pos hj]
    · rw [if_neg (fun h => hj h.2), if_neg hj]
  · simp (disch := omega) only [mu_o, d3]
  · rw [mu_s]
  · simp (disch := omega) only [mu_o]
    rw [d5]
    show _ = nI ((if z = 0 ∨ z = 3 then 1 else 0) + t_o r.1)
    rw [if_neg (by omega), Nat.zero_add]
  · simp (disch := omega) only [mu_o]
    rw [d6]
    show _ = nI ((if z = 0 then 1 else 0) + t_b r.1)
    rw [if_neg (by omega), Nat.zero_add]
theorem c_B2 {T : Nat → Nat} {n p x y : Nat} {M0 M : ap_Mem} {S : List Nat} {out : List e_Tok} {K : Int32 → ap_Mem → Prop} (h0 : t_C0 T n M0) (h : t_CS n M0 M p S out) (hb : y + t_b S ≤ 5) (hx : x + 1 < 100) (hh : t_hd T n p = 38) (hS : (t_stl 2 S out).1.length < 17) (hy : ∀ M', t_CS n M0 M' (p + 1) (2 :: (t_stl 2 S out).1) (t_stl 2 S out).2 → t_A K (x + 1) 0 M') : t_B K x y M := by
  refine c_B0 h0 h hb (Or.inr (by rw [hh]; decide)) ?_
  unfold t_KB
  rw [show (38 : Int32) = nI 38 from rfl, t_takes (t_CSt h0 h) (by decide), if_pos hh, if_neg (by decide), l_2]
  exact c_Bop h0.1 hx (Or.inr rfl) (t_hlt hh (by decide)).1 h hS hy
theorem c_B3 {T : Nat → Nat} {n p x y : Nat} {M0 M : ap_Mem} {S : List Nat} {out : List e_Tok} {K : Int32 → ap_Mem → Prop} (h0 : t_C0 T n M0) (h : t_CS n M0 M p S out) (hb : y + t_b S ≤ 5) (hx : x + 1 < 100) (hh : t_hd T n p = 124) (hS : (t_stl 1 S out).1.length < 17) (hy : ∀ M', t_CS n M0 M' (p + 1) (1 :: (t_stl 1 S out).1) (t_stl 1 S out).2 → t_A K (x + 1) 0 M') : t_B K x y M := by
  refine c_B0 h0 h hb (Or.inr (by rw [hh]; decide)) ?_
  unfold t_KB
  rw [show (38 : Int32) = nI 38 from rfl, t_takes (t_CSt h0 h) (by decide), if_neg (by rw [hh]; decide), if_pos rfl, show (124 : Int32) = nI 124 from rfl, t_takes (t_CSt h0 h) (by decide), if_pos hh, if_neg (by decide)]
  have := c_Bop (K := K) (x := x) h0.1 hx (Or.inl rfl) (t_hlt hh (by decide)).1 h hS hy
  rw [← l_1] at this
  exact this
theorem c_B4 {T : Nat → Nat} {n p x y : Nat} {M0 M : ap_Mem} {S : List Nat} {out : List e_Tok} {K : Int32 → ap_Mem → Prop} (h0 : t_C0 T n M0) (h : t_CS n M0 M p S out) (hb : y + t_b S ≤ 5) (hh : t_b S = 0 ∨ t_hd T n p ≠ 41) (h38 : t_hd T n p ≠ 38) (h124 : t_hd T n p ≠ 124) (hy : ∀ M', t_CS n M0 M' p (t_stl 1 S out).1 (t_stl 1 S out).2 → if t_b (t_stl 1 S out).1 = 0 then K 1 M' else K 0 M') : t_B K x y M := by
  refine c_B0 h0 h hb hh ?_
  unfold t_KB
  rw [show (38 : Int32) = nI 38 from rfl, t_takes (t_CSt h0 h) (by decide), if_neg h38, if_pos rfl, show (124 : Int32) = nI 124 from rfl, t_takes (t_CSt h0 h) (by decide), if_neg h124, if_pos rfl]
  rw [show w_X4_settle 63 1 M = w_X4_settle 63 (nI 1) M from rfl]
  refine c_settle h0.1 (by decide) (by decide) h (fun M2 hM2 => ?_)
  have h2 := hy M2 hM2
  have hle : t_b (t_stl 1 S out).1 ≤ (t_stl 1 S out).1.length := by
    have : ∀ S : List Nat, t_b S ≤ S.length := by
      intro S
      induction S with
      | nil => exact Nat.le_refl _
      | cons z S ih =>
        show (if z = 0 then 1 else 0) + t_b S ≤ S.length + 1
        split <;> omega
    exact this _
  have h17 := hM2.2.2.2.2.2.2.2.2.2.2.2.2
  have e : (M2 63 6 = 0) = (t_b (t_stl 1 S out).1 = 0) := by rw [hM2.2.2.2.2.2.1, l_0, n_eq (by omega) (by omega)]
  rw [t_if e]
  exact h2
