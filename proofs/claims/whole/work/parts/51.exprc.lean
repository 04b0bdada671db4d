/-! town: the class's reader of expressions, step by step -/
def t_o : List Nat → Nat
  | [] => 0
  | z :: S => (if z = 0 ∨ z = 3 then 1 else 0) + t_o S
def t_b : List Nat → Nat
  | [] => 0
  | z :: S => (if z = 0 then 1 else 0) + t_b S
def t_jn (z : Nat) : e_Tok := if z = 3 then (6, 0, 0) else if z = 2 then (7, 0, 0) else (8, 0, 0)
def t_stl (l : Nat) : List Nat → List e_Tok → List Nat × List e_Tok
  | [], out => ([], out)
  | z :: S, out => if z < l then (z :: S, out) else t_stl l S (out ++ [t_jn z])
def t_asks (out : List e_Tok) : Bool := out.any (fun t => t.1 == 5)
def t_C0 (T : Nat → Nat) (n : Nat) (M0 : ap_Mem) : Prop := n ≤ 100 ∧ (∀ i, i < n → T i < 128) ∧ M0 72 2 = nI n ∧ ∀ i, i < n → M0 73 i = nI (T i)
def t_CF (M0 M : ap_Mem) : Prop := (∀ q, q ≠ 63 → q ≠ 64 → q ≠ 68 → q ≠ 75 → M q = M0 q) ∧ (∀ j, j ≠ 5 → j ≠ 7 → M 64 j = M0 64 j)
def t_Stk (M : ap_Mem) (S : List Nat) : Prop := ∀ (j z : Nat), S.reverse[j]? = some z → M 75 j = nI z
def t_Out (M : ap_Mem) (out : List e_Tok) : Prop := ∀ (j : Nat) (t : e_Tok), out[j]? = some t → M 68 j = e_tokC t
def t_CS (n : Nat) (M0 M : ap_Mem) (p : Nat) (S : List Nat) (out : List e_Tok) : Prop :=
  t_CF M0 M ∧ p ≤ n ∧ M 63 1 = nI p ∧ M 63 4 = nI S.length ∧ M 63 5 = nI (t_o S) ∧ M 63 6 = nI (t_b S) ∧ t_Stk M S ∧ (∀ z ∈ S, z ≤ 3) ∧ M 64 5 = nI out.length ∧ M 64 7 = (if t_asks out = true then 1 else 0) ∧ t_Out M out ∧ S.length + out.length ≤ p ∧ S.length ≤ 17
def t_CE (M0 M : ap_Mem) (e : Nat) : Prop := t_CF M0 M ∧ M 63 1 = nI e
theorem t_CSt {T : Nat → Nat} {n p : Nat} {M0 M : ap_Mem} {S : List Nat} {out : List e_Tok} (h0 : t_C0 T n M0) (h : t_CS n M0 M p S out) : t_CT T n M p := by
  obtain ⟨a1, a2, a3, a4⟩ := h0
  obtain ⟨⟨b1, b2⟩, c1, c2, -⟩ := h
  exact ⟨a1, c1, a2, c2, by rw [b1 _ (by omega) (by omega) (by omega) (by omega)]; exact a3, fun i hi => by rw [b1 _ (by omega) (by omega) (by omega) (by omega)]; exact a4 i hi⟩
/-- another place on the tape -/
theorem t_CSp {n p p' : Nat} {M0 M : ap_Mem} {S : List Nat} {out : List e_Tok} (h : t_CS n M0 M p S out) (hp : p ≤ p') (hn : p' ≤ n) : t_CS n M0 (ap_mu M 63 1 (nI p')) p' S out := by
  obtain ⟨⟨b1, b2⟩, c1, c2, c3, c4, c5, c6, c7, c8, c9, c10, c11, c12⟩ := h
  refine ⟨⟨fun q x y z w => ?_, fun j x y => ?_⟩, hn, by rw [mu_s], ?_, ?_, ?_, fun j z hz => ?_, c7, ?_, ?_, fun j t ht => ?_, by omega, c12⟩
  · simp (disch := omega) only [ap_mu_n]
    exact b1 q x y z w
  · simp (disch := omega) only [mu_o]
    exact b2 j x y
  · simp (disch := omega) only [mu_o, c3]
  · simp (disch := omega) only [mu_o, c4]
  · simp (disch := omega) only [mu_o, c5]
  · simp (disch := omega) only [mu_o]
    exact c6 j z hz
  · simp (disch := omega) only [mu_o, c8]
  · simp (disch := omega) only [mu_o, c9]
  · simp (disch := omega) only [mu_o]
    exact c10 j t ht
theorem t_CEp {n p e : Nat} {M0 M : ap_Mem} {S : List Nat} {out : List e_Tok} (h : t_CS n M0 M p S out) : t_CE M0 (ap_mu M 63 1 (nI e)) e := by
  obtain ⟨⟨b1, b2⟩, -⟩ := h
  refine ⟨⟨fun q x y z w => ?_, fun j x y => ?_⟩, by rw [mu_s]⟩
  · simp (disch := omega) only [ap_mu_n]
    exact b1 q x y z w
  · simp (disch := omega) only [mu_o]
    exact b2 j x y
theorem t_CSe {n p : Nat} {M0 M : ap_Mem} {S : List Nat} {out : List e_Tok} (h : t_CS n M0 M p S out) : t_CE M0 M p := ⟨h.1, h.2.2.1⟩
theorem t_top {S : List Nat} {z : Nat} : (z :: S).reverse[S.length]? = some z := by
  rw [List.reverse_cons, List.getElem?_append_right (by rw [List.length_reverse]; exact Nat.le_refl _), List.length_reverse, Nat.sub_self]
  rfl
theorem t_below {S : List Nat} {z j y : Nat} (h : S.reverse[j]? = some y) : (z :: S).reverse[j]? = some y := by
  rw [List.reverse_cons, List.getElem?_append_left (List.getElem?_eq_some_iff.mp h).1]
  exact h
theorem t_oB : ∀ S : List Nat, t_b S ≤ t_o S := by
  intro S
  induction S with
  | nil => exact Nat.le_refl _
  | cons z S ih =>
    show (if z = 0 then 1 else 0) + t_b S ≤ (if z = 0 ∨ z = 3 then 1 else 0) + t_o S
    split <;> split <;> omega
/-! push: a new one lies on top -/
theorem c_push {n p : Nat} {M0 M : ap_Mem} {S : List Nat} {out : List e_Tok} {K : ap_Mem → Prop} (z : Nat) (h : t_CS n M0 M p S out) (hS : S.length < 17) (hy : K (ap_mu (ap_mu M 75 S.length (nI z)) 63 4 (nI (S.length + 1)))) : w_X4_push 63 (nI z) M K := by
  have c3 := h.2.2.2.1
  unfold w_X4_push
  rw [c3, l_17, if_neg (by rw [n_le (by omega) (by omega)]; omega), n_vp (by omega), n_cl (by omega), show (63 + 12 : Nat) = 75 from rfl]
  refine ⟨hS, ?_⟩
  rintro _ rfl _ rfl
  rw [mu_o _ _ (by omega), c3, nI_1]
  exact hy
/-- the state after a push, the place one further, the counts as they are to be -/
theorem t_pushed {n p z : Nat} {M0 M M' : ap_Mem} {S : List Nat} {out : List e_Tok} (h : t_CS n M0 M p S out) (hz : z ≤ 3) (hS : S.length < 17) (hp : S.length + 1 + out.length ≤ p)
    (h1 : ∀ q, q ≠ 63 → q ≠ 75 → M' q = M q) (h2 : ∀ j, M' 75 j = if j = S.length then nI z else M 75 j) (h3 : M' 63 1 = nI p) (h4 : M' 63 4 = nI (S.length + 1)) (h5 : M' 63 5 = nI (t_o (z :: S))) (h6 : M' 63 6 = nI (t_b (z :: S))) : t_CS n M0 M' p (z :: S) out := by
  obtain ⟨⟨b1, b2⟩, c1, c2, c3, c4, c5, c6, c7, c8, c9, c10, c11, c12⟩ := h
  refine ⟨⟨fun q x y w v => by rw [h1 q x v, b1 q x y w v], fun j x y => by rw [h1 64 (by decide) (by decide), b2 j x y]⟩, c1, h3, h4, h5, h6, fun j y hy => ?_, fun y hy => ?_, by rw [h1 64 (by decide) (by decide)]; exact c8, by rw [h1 64 (by decide) (by decide)]; exact c9, fun j t ht => by rw [h1 68 (by decide) (by decide)]; exact c10 j t ht, by show S.length + 1 + out.length ≤ p; omega, by show S.length + 1 ≤ 17; omega⟩
  · rw [h2]
    by_cases hj : j = S.length
    · subst hj
      rw [t_top] at hy
      cases hy
      rw [if_pos rfl]
    · rw [if_neg hj]
      have hlt := (List.getElem?_eq_some_iff.mp hy).1
      rw [List.length_reverse] at hlt
      have hlt2 : j < S.length + 1 := hlt
      rw [List.reverse_cons, List.getElem?_append_left (by rw [List.length_reverse]; omega)] at hy
      exact c6 j y hy
  · rcases List.mem_cons.mp hy with rfl | hy
    · exact hz
    · exact c7 y hy
/-! put: a part more -/
theorem c_putp {m : Nat} {v : Int32} {M : ap_Mem} {K : ap_Mem → Prop} (h5 : M 64 5 = nI m) (hm : m < 100) (hy : K (ap_mu (ap_mu M 68 m v) 64 5 (nI (m + 1)))) : w_X7_put 64 v M K := by
  unfold w_X7_put
  rw [h5, l_100, if_neg (by rw [n_le (by omega) (by omega)]; omega), n_vp (by omega), n_cl (by omega), show (64 + 4 : Nat) = 68 from rfl]
  refine ⟨hm, ?_⟩
  rintro _ rfl _ rfl
  rw [mu_o _ _ (by omega), h5, nI_1]
  exact hy
theorem t_anyA (a b : List e_Tok) : t_asks (a ++ b) = (t_asks a || t_asks b) := List.any_append
/-- an out with one part more -/
theorem t_outA {M M' : ap_Mem} {out : List e_Tok} {t : e_Tok} (h : t_Out M out) (h1 : ∀ j, M' 68 j = if j = out.length then e_tokC t else M 68 j) : t_Out M' (out ++ [t]) := by
  intro j u hu
  rw [h1]
  by_cases hj : j = out.length
  · subst hj
    rw [List.getElem?_append_right (Nat.le_refl _), Nat.sub_self] at hu
    cases hu
    rw [if_pos rfl]
  · have hlt := (List.getElem?_eq_some_iff.mp hu).1
    rw [List.length_append] at hlt
    have hlt2 : j < out.length + 1 := hlt
    rw [List.getElem?_append_left (by omega)] at hu
    rw [if_neg hj]
    exact h j u hu
/-- what is popped becomes a part -/
theorem t_popped {n p z : Nat} {M0 M M' : ap_Mem} {S : List Nat} {out : List e_Tok} (h : t_CS n M0 M p (z :: S) out) (hz : 1 ≤ z)
    (h1 : ∀ q, q ≠ 63 → q ≠ 64 → q ≠ 68 → M' q = M q) (h2 : ∀ j, M' 68 j = if j = out.length then e_tokC (t_jn z) else M 68 j) (h3 : M' 63 1 = nI p) (h4 : M' 63 4 = nI S.length) (h5 : M' 63 5 = nI (t_o S)) (h6 : M' 63 6 = M 63 6) (h7 : M' 64 5 = nI (out.length + 1)) (h8 : ∀ j, j ≠ 5 → M' 64 j = M 64 j) : t_CS n M0 M' p S (out ++ [t_jn z]) := by
  obtain ⟨⟨b1, b2⟩, c1, c2, c3, c4, c5, c6, c7, c8, c9, c10, c11, c12⟩ := h
  have hl : S.length + 1 + out.length ≤ p := c11
  have hl2 : S.length + 1 ≤ 17 := c12
  refine ⟨⟨fun q x y w v => by rw [h1 q x y w, b1 q x y w v], fun j x y => by rw [h8 j x, b2 j x y]⟩, c1, h3, h4, h5, ?_, fun j y hy => ?_, fun y hy => c7 y (List.mem_cons_of_mem _ hy), by rw [h7, List.length_append]; rfl, ?_, t_outA c10 h2, ?_, by omega⟩
  · rw [h6, c5]
    show nI ((if z = 0 then 1 else 0) + t_b S) = _
    rw [if_neg (by omega), Nat.zero_add]
  · rw [h1 75 (by decide) (by decide) (by decide)]
    exact c6 j y (t_below hy)
  · rw [h8 7 (by decide), c9, t_anyA]
    have : t_asks [t_jn z] = false := by
      unfold t_jn
      split
      · rfl
      · split <;> rfl
    rw [this, Bool.or_false]
  · rw [List.length_append]
    show S.length + (out.length + 1) ≤ p
    omega
/-- settle: what binds at least so firmly goes behind its parts -/
theorem c_settle {n p l : Nat} {M0 M : ap_Mem} {S : List Nat} {out : List e_Tok} {K : ap_Mem → Prop} (hn : n ≤ 100) (hl : 1 ≤ l) (hl2 : l ≤ 3) (h : t_CS n M0 M p S out) (hy : ∀ M', t_CS n M0 M' p (t_stl l S out).1 (t_stl l S out).2 → K M') : w_X4_settle 63 (nI l) M K := by
  have key : ∀ (S : List Nat) (x fuel : Nat) (out : List e_Tok) (M : ap_Mem), x + S.length ≤ 17 → S.length < fuel → t_CS n M0 M p S out → (∀ M', t_CS n M0 M' p (t_stl l S out).1 (t_stl l S out).2 → K M') → w_X4_settle_2 63 K fuel (nI l) (nI x) M := by
    intro S
    induction S with
    | nil =>
      intro x fuel out M hx hf h hy
      obtain ⟨k, rfl⟩ : ∃ k, fuel = k + 1 := ⟨fuel - 1, by omega⟩
      show w_X4_settle_2_s (w_X4_settle_2 63 K k) 63 (nI l) (nI x) M K
      unfold w_X4_settle_2_s
      have hK : K M := hy M h
      have c3 : M 63 4 = nI 0 := h.2.2.2.1
      split
      · exact hK
      · rw [c3, if_pos (by decide)]
        exact hK
    | cons z S ih =>
      intro x fuel out M hx hf h hy
      have hx2 : x + (S.length + 1) ≤ 17 := hx
      have hf2 : S.length + 1 < fuel := hf
      obtain ⟨k, rfl⟩ : ∃ k, fuel = k + 1 := ⟨fuel - 1, by omega⟩
      show w_X4_settle_2_s (w_X4_settle_2 63 K k) 63 (nI l) (nI x) M K
      unfold w_X4_settle_2_s
      have h' := h
      obtain ⟨⟨b1, b2⟩, c1, c2, c3, c4, c5, c6, c7, c8, c9, c10, c11, c12⟩ := h
      have c3 : M 63 4 = nI (S.length + 1) := c3
      have c11 : S.length + 1 + out.length ≤ p := c11
      have hz3 : z ≤ 3 := c7 z (List.mem_cons_self ..)
      have ctop : M 75 S.length = nI z := c6 _ _ t_top
      have e75 : (63 + 12 : Nat) = 75 := rfl
      rw [l_17, if_neg (by rw [n_le (by omega) (by omega)]; omega), c3, l_0, if_neg (by rw [n_le (by omega) (by omega)]; omega), l_1, n_sub (by omega), Nat.add_sub_cancel, n_cl (by omega), e75, ctop, t_if (propext (n_lt (by omega) (by omega))), n_vp (by omega)]
      refine ⟨by omega, ?_⟩
      by_cases hzl : z < l
      · rw [if_pos hzl]
        refine hy M ?_
        have : t_stl l (z :: S) out = (z :: S, out) := if_pos hzl
        rw [this]
        exact h'
      · rw [if_neg hzl]
        have hset : t_stl l (z :: S) out = t_stl l S (out ++ [t_jn z]) := if_neg hzl
        rw [hset] at hy
        have nxt : ∀ M', t_CS n M0 M' p S (out ++ [t_jn z]) → w_X4_settle_101 (w_X4_settle_2 63 K k) 63 (nI l) (nI x) M' K := by
          intro M' hM'
          unfold w_X4_settle_101
          rintro _ rfl
          rw [nI_1]
          exact ih (x + 1) k _ M' (by omega) (by omega) hM' hy
        rintro _ rfl
        rw [mu_s, n_cl (by omega), mu_o _ _ (by omega), ctop, n_vp (by omega)]
        refine ⟨by omega, ?_⟩
        have e3 : (nI z = 3) = (z = 3) := by rw [l_3, n_eq (by omega) (by omega)]
        have e2 : (nI z = 2) = (z = 2) := by rw [l_2, n_eq (by omega) (by omega)]
        have ho : t_o (z :: S) = (if z = 0 ∨ z = 3 then 1 else 0) + t_o S := rfl
        have g5 : ap_mu M 63 4 (nI S.length) 64 5 = nI out.length := by rw [mu_o _ _ (by omega)]; exact c8
        rw [t_if e3, t_if e2]
        by_cases h3 : z = 3
        · subst h3
          rw [if_pos rfl, show (63 + 1 : Nat) = 64 from rfl]
          refine c_putp g5 (by omega) ?_
          rintro _ rfl
          refine nxt _ (t_popped h' (by omega) (fun q x y w => ?_) (fun j => ?_) ?_ ?_ ?_ ?_ ?_ (fun j hj => ?_))
          · simp (disch := omega) only [ap_mu_n]
          · rw [mu_o _ _ (by omega), mu_o _ _ (by omega), mu_at]
            by_cases hj : j = out.length
            · rw [if_pos ⟨rfl, hj⟩, if_pos hj]
              decide
            · rw [if_neg (fun h => hj h.2), if_neg hj, mu_o _ _ (by omega)]
          · simp (disch := omega) only [mu_o]
            exact c2
          · simp (disch := omega) only [mu_o, mu_s]
          · rw [mu_s]
            simp (disch := omega) only [mu_o]
            rw [c4, ho, if_pos (Or.inr rfl), n_sub (by omega), Nat.add_sub_cancel_left]
          · simp (disch := omega) only [mu_o]
          · simp (disch := omega) only [mu_o, mu_s]
          · simp (disch := omega) only [mu_o]
        · rw [if_neg h3]
          have fin : ∀ v, v = e_tokC (t_jn z) → w_X4_settle_98 (w_X4_settle_2 63 K k) 63 (nI l) (nI x) v (ap_mu M 63 4 (nI S.length)) K := by
            rintro v rfl
            unfold w_X4_settle_98
            rw [show (63 + 1 : Nat) = 64 from rfl]
            refine c_putp g5 (by omega) ?_
            refine nxt _ (t_popped h' (by omega) (fun q x y w => ?_) (fun j => ?_) ?_ ?_ ?_ ?_ ?_ (fun j hj => ?_))
            · simp (disch := omega) only [ap_mu_n]
            · rw [mu_o _ _ (by omega), mu_at]
              by_cases hj : j = out.length
              · rw [if_pos ⟨rfl, hj⟩, if_pos hj]
              · rw [if_neg (fun h => hj h.2), if_neg hj, mu_o _ _ (by omega)]
            · simp (disch := omega) only [mu_o]
              exact c2
            · simp (disch := omega) only [mu_o, mu_s]
            · simp (disch := omega) only [mu_o]
              rw [c4, ho, if_neg (by omega), Nat.zero_add]
            · simp (disch := omega) only [mu_o]
            · simp (disch := omega) only [mu_o, mu_s]
            · simp (disch := omega) only [mu_o]
          by_cases h2 : z = 2
          · subst h2
            refine ⟨by omega, ?_⟩
            rw [if_pos rfl]
            exact fin _ (by decide)
          · refine ⟨by omega, ?_⟩
            rw [if_neg h2]
            have : z = 1 := by omega
            subst this
            exact fin _ (by decide)
  unfold w_X4_settle
  rw [l_0]
  exact key S 0 4096 out M (by have := h.2.2.2.2.2.2.2.2.2.2.2.2; omega) (by have := h.2.2.2.2.2.2.2.2.2.2.2.2; omega) h hy
