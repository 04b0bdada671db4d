/-! acts: what they answer and which bodies run -/
def e_st (k : Nat) (N x : Int32) : Int32 × List Int32 := if k = 1 ∨ k = 4 then (x * 3 + N, [11, 1]) else if k = 5 then ((x + N) ^^^ N, [51, 1]) else (x + N, [1])
def e_pl (k : Nat) (N V x : Int32) : Int32 × List Int32 := ((e_st k N x).1 - V, 2 :: (e_st k N x).2)
def e_ll (k : Nat) (N V x : Int32) : Int32 × List Int32 := if k = 2 ∨ k = 5 then (-(e_pl k N V x).1, 21 :: (e_pl k N V x).2) else if k = 6 then ((e_pl k N V x).1 + V, 61 :: (e_pl k N V x).2) else e_pl k N V x
def e_pt (k : Nat) (N V x : Int32) : Int32 × List Int32 := ((e_ll k N V x).1 * 2, 3 :: (e_ll k N V x).2)
def e_tl (k : Nat) (N V x : Int32) : Int32 × List Int32 := if k = 3 ∨ k = 6 then ((e_pt k N V x).1 ^^^ 7, 31 :: (e_pt k N V x).2) else if k = 4 then ((e_pt k N V (x - 1)).1 + (e_st k N 2).1, 41 :: ((e_pt k N V (x - 1)).2 ++ (e_st k N 2).2)) else e_pt k N V x
def e_App (M M' : ap_Mem) (cr co ir r : Nat) (bs : List Int32) : Prop :=
  (∀ a, a ≠ cr → a ≠ co → M' a = M a) ∧ (∀ j, j ≠ ir → M' cr j = M cr j) ∧ M' cr ir = nI (r + bs.length) ∧ (∀ i, i < r → M' co i = M co i) ∧ ∀ (i : Nat) (b : Int32), bs[i]? = some b → M' co (r + i) = b
theorem e_appT {M M1 M2 : ap_Mem} {cr co ir r : Nat} {b1 b2 : List Int32} (h1 : e_App M M1 cr co ir r b1) (h2 : e_App M1 M2 cr co ir (r + b1.length) b2) : e_App M M2 cr co ir r (b1 ++ b2) := by
  obtain ⟨a1, a2, a3, a4, a5⟩ := h1
  obtain ⟨c1, c2, c3, c4, c5⟩ := h2
  refine ⟨fun a ha hb => by rw [c1 a ha hb, a1 a ha hb], fun j hj => by rw [c2 j hj, a2 j hj], by rw [c3, List.length_append, Nat.add_assoc], fun i hi => by rw [c4 i (by omega), a4 i hi], fun i b hb => ?_⟩
  by_cases hi : i < b1.length
  · rw [List.getElem?_append_left hi] at hb
    rw [c4 _ (by omega)]
    exact a5 i b hb
  · rw [List.getElem?_append_right (by omega)] at hb
    have := c5 _ b hb
    rw [show r + b1.length + (i - b1.length) = r + i by omega] at this
    exact this
theorem e_app1 {M : ap_Mem} {cr co ir r : Nat} {b : Int32} (hne : cr ≠ co) : e_App M (ap_mu (ap_mu M co r b) cr ir (nI (r + 1))) cr co ir r [b] := by
  refine ⟨fun a ha hb => by simp (disch := omega) only [ap_mu_n], fun j hj => by simp (disch := omega) only [mu_o], by simp (disch := omega) only [mu_s]; rfl, fun i hi => by simp (disch := omega) only [mu_o], fun i b2 hb => ?_⟩
  have hi : i = 0 := by
    have := (List.getElem?_eq_some_iff.mp hb).1
    simp at this
    omega
  subst hi
  have e : b = b2 := by simpa using hb
  subst e
  simp (disch := omega) only [mu_s, mu_o, Nat.add_zero]
theorem c_note {r : Nat} {b : Int32} {M : ap_Mem} {K : ap_Mem → Prop} (hr : r < 20) (h : M 96 1 = nI r) : w_X0_note 96 b M K = K (ap_mu (ap_mu M 97 r b) 96 1 (nI (r + 1))) := by
  have h1 : ¬ (20 : Int32) ≤ nI r := by rw [l_20, n_le (by decide) (by omega)]; omega
  simp (disch := omega) [w_X0_note, w_X0_note_19, h, h1, n_vp, n_cl, hr, mu_o, nI_1]
theorem m_note {r : Nat} {b : Int32} {M : ap_Mem} {K : ap_Mem → Prop} (hr : r < 20) (h : M 98 13 = nI r) : w_X9_ranBody 98 b M K = K (ap_mu (ap_mu M 104 r b) 98 13 (nI (r + 1))) := by
  have h1 : ¬ (20 : Int32) ≤ nI r := by rw [l_20, n_le (by decide) (by omega)]; omega
  simp (disch := omega) [w_X9_ranBody, w_X9_ranBody_19, h, h1, n_vp, n_cl, hr, mu_o, nI_1]
/-- the body that is found -/
def e_at (a k : Nat) : Nat := (([[0, 1, 0, 0, 1, 5, 0], [0, 0, 2, 0, 0, 2, 6], [0, 0, 0, 3, 4, 0, 3]] : List (List Nat)).getD a []).getD k 0
abbrev e_Call : Type := Nat → Int32 → Int32 → Int32 → Int32 → ap_Mem → (Int32 → ap_Mem → Prop) → Prop
theorem c_find {c : e_Call} {a k q : Nat} {x d : Int32} {M : ap_Mem} {K : Int32 → ap_Mem → Prop} (ha : a < 3) (hk : k < 7) (h : w_X0_run_49 c q (nI a) x d (nI (e_at a k)) M K) : w_X0_run_15 c q K 4096 (nI a) x d (nI k) 0 M := by
  rcases (by omega : a = 0 ∨ a = 1 ∨ a = 2) with rfl | rfl | rfl <;> rcases (by omega : k = 0 ∨ k = 1 ∨ k = 2 ∨ k = 3 ∨ k = 4 ∨ k = 5 ∨ k = 6) with rfl | rfl | rfl | rfl | rfl | rfl | rfl
  · show w_X0_run_15_s c (w_X0_run_15 c q K 4095) q (nI 0) x d (nI 0) (nI 0) M K
    unfold w_X0_run_15_s
    rw [if_neg (by decide)]
    refine ⟨by rw [vp_in_iff]; decide, ?_⟩
    rw [if_neg (by decide +kernel)]
    exact h
  · show w_X0_run_15_s c (w_X0_run_15 c q K 4095) q (nI 0) x d (nI 1) (nI 0) M K
    unfold w_X0_run_15_s
    rw [if_neg (by decide)]
    refine ⟨by rw [vp_in_iff]; decide, ?_⟩
    rw [if_neg (by decide +kernel)]
    exact h
  · show w_X0_run_15_s c (w_X0_run_15 c q K 4095) q (nI 0) x d (nI 2) (nI 0) M K
    unfold w_X0_run_15_s
    rw [if_neg (by decide)]
    refine ⟨by rw [vp_in_iff]; decide, ?_⟩
    rw [if_pos (by decide +kernel)]
    refine ⟨by rw [vp_in_iff]; decide, ?_⟩
    rintro _ rfl _ rfl
    show w_X0_run_15_s c (w_X0_run_15 c q K 4094) q (nI 0) x d (nI 0) (nI 1) M K
    unfold w_X0_run_15_s
    rw [if_neg (by decide)]
    refine ⟨by rw [vp_in_iff]; decide, ?_⟩
    rw [if_neg (by decide +kernel)]
    exact h
  · show w_X0_run_15_s c (w_X0_run_15 c q K 4095) q (nI 0) x d (nI 3) (nI 0) M K
    unfold w_X0_run_15_s
    rw [if_neg (by decide)]
    refine ⟨by rw [vp_in_iff]; decide, ?_⟩
    rw [if_pos (by decide +kernel)]
    refine ⟨by rw [vp_in_iff]; decide, ?_⟩
    rintro _ rfl _ rfl
    show w_X0_run_15_s c (w_X0_run_15 c q K 4094) q (nI 0) x d (nI 0) (nI 1) M K
    unfold w_X0_run_15_s
    rw [if_neg (by decide)]
    refine ⟨by rw [vp_in_iff]; decide, ?_⟩
    rw [if_neg (by decide +kernel)]
    exact h
  · show w_X0_run_15_s c (w_X0_run_15 c q K 4095) q (nI 0) x d (nI 4) (nI 0) M K
    unfold w_X0_run_15_s
    rw [if_neg (by decide)]
    refine ⟨by rw [vp_in_iff]; decide, ?_⟩
    rw [if_pos (by decide +kernel)]
    refine ⟨by rw [vp_in_iff]; decide, ?_⟩
    rintro _ rfl _ rfl
    show w_X0_run_15_s c (w_X0_run_15 c q K 4094) q (nI 0) x d (nI 1) (nI 1) M K
    unfold w_X0_run_15_s
    rw [if_neg (by decide)]
    refine ⟨by rw [vp_in_iff]; decide, ?_⟩
    rw [if_neg (by decide +kernel)]
    exact h
  · show w_X0_run_15_s c (w_X0_run_15 c q K 4095) q (nI 0) x d (nI 5) (nI 0) M K
    unfold w_X0_run_15_s
    rw [if_neg (by decide)]
    refine ⟨by rw [vp_in_iff]; decide, ?_⟩
    rw [if_neg (by decide +kernel)]
    exact h
  · show w_X0_run_15_s c (w_X0_run_15 c q K 4095) q (nI 0) x d (nI 6) (nI 0) M K
    unfold w_X0_run_15_s
    rw [if_neg (by decide)]
    refine ⟨by rw [vp_in_iff]; decide, ?_⟩
    rw [if_pos (by decide +kernel)]
    refine ⟨by rw [vp_in_iff]; decide, ?_⟩
    rintro _ rfl _ rfl
    show w_X0_run_15_s c (w_X0_run_15 c q K 4094) q (nI 0) x d (nI 3) (nI 1) M K
    unfold w_X0_run_15_s
    rw [if_neg (by decide)]
    refine ⟨by rw [vp_in_iff]; decide, ?_⟩
    rw [if_pos (by decide +kernel)]
    refine ⟨by rw [vp_in_iff]; decide, ?_⟩
    rintro _ rfl _ rfl
    show w_X0_run_15_s c (w_X0_run_15 c q K 4093) q (nI 0) x d (nI 0) (nI 2) M K
    unfold w_X0_run_15_s
    rw [if_neg (by decide)]
    refine ⟨by rw [vp_in_iff]; decide, ?_⟩
    rw [if_neg (by decide +kernel)]
    exact h
  · show w_X0_run_15_s c (w_X0_run_15 c q K 4095) q (nI 1) x d (nI 0) (nI 0) M K
    unfold w_X0_run_15_s
    rw [if_neg (by decide)]
    refine ⟨by rw [vp_in_iff]; decide, ?_⟩
    rw [if_neg (by decide +kernel)]
    exact h
  · show w_X0_run_15_s c (w_X0_run_15 c q K 4095) q (nI 1) x d (nI 1) (nI 0) M K
    unfold w_X0_run_15_s
    rw [if_neg (by decide)]
    refine ⟨by rw [vp_in_iff]; decide, ?_⟩
    rw [if_pos (by decide +kernel)]
    refine ⟨by rw [vp_in_iff]; decide, ?_⟩
    rintro _ rfl _ rfl
    show w_X0_run_15_s c (w_X0_run_15 c q K 4094) q (nI 1) x d (nI 0) (nI 1) M K
    unfold w_X0_run_15_s
    rw [if_neg (by decide)]
    refine ⟨by rw [vp_in_iff]; decide, ?_⟩
    rw [if_neg (by decide +kernel)]
    exact h
  · show w_X0_run_15_s c (w_X0_run_15 c q K 4095) q (nI 1) x d (nI 2) (nI 0) M K
    unfold w_X0_run_15_s
    rw [if_neg (by decide)]
    refine ⟨by rw [vp_in_iff]; decide, ?_⟩
    rw [if_neg (by decide +kernel)]
    exact h
  · show w_X0_run_15_s c (w_X0_run_15 c q K 4095) q (nI 1) x d (nI 3) (nI 0) M K
    unfold w_X0_run_15_s
    rw [if_neg (by decide)]
    refine ⟨by rw [vp_in_iff]; decide, ?_⟩
    rw [if_pos (by decide +kernel)]
    refine ⟨by rw [vp_in_iff]; decide, ?_⟩
    rintro _ rfl _ rfl
    show w_X0_run_15_s c (w_X0_run_15 c q K 4094) q (nI 1) x d (nI 0) (nI 1) M K
    unfold w_X0_run_15_s
    rw [if_neg (by decide)]
    refine ⟨by rw [vp_in_iff]; decide, ?_⟩
    rw [if_neg (by decide +kernel)]
    exact h
  · show w_X0_run_15_s c (w_X0_run_15 c q K 4095) q (nI 1) x d (nI 4) (nI 0) M K
    unfold w_X0_run_15_s
    rw [if_neg (by decide)]
    refine ⟨by rw [vp_in_iff]; decide, ?_⟩
    rw [if_pos (by decide +kernel)]
    refine ⟨by rw [vp_in_iff]; decide, ?_⟩
    rintro _ rfl _ rfl
    show w_X0_run_15_s c (w_X0_run_15 c q K 4094) q (nI 1) x d (nI 1) (nI 1) M K
    unfold w_X0_run_15_s
    rw [if_neg (by decide)]
    refine ⟨by rw [vp_in_iff]; decide, ?_⟩
    rw [if_pos (by decide +kernel)]
    refine ⟨by rw [vp_in_iff]; decide, ?_⟩
    rintro _ rfl _ rfl
    show w_X0_run_15_s c (w_X0_run_15 c q K 4093) q (nI 1) x d (nI 0) (nI 2) M K
    unfold w_X0_run_15_s
    rw [if_neg (by decide)]
    refine ⟨by rw [vp_in_iff]; decide, ?_⟩
    rw [if_neg (by decide +kernel)]
    exact h
  · show w_X0_run_15_s c (w_X0_run_15 c q K 4095) q (nI 1) x d (nI 5) (nI 0) M K
    unfold w_X0_run_15_s
    rw [if_neg (by decide)]
    refine ⟨by rw [vp_in_iff]; decide, ?_⟩
    rw [if_pos (by decide +kernel)]
    refine ⟨by rw [vp_in_iff]; decide, ?_⟩
    rintro _ rfl _ rfl
    show w_X0_run_15_s c (w_X0_run_15 c q K 4094) q (nI 1) x d (nI 2) (nI 1) M K
    unfold w_X0_run_15_s
    rw [if_neg (by decide)]
    refine ⟨by rw [vp_in_iff]; decide, ?_⟩
    rw [if_neg (by decide +kernel)]
    exact h
  · show w_X0_run_15_s c (w_X0_run_15 c q K 4095) q (nI 1) x d (nI 6) (nI 0) M K
    unfold w_X0_run_15_s
    rw [if_neg (by decide)]
    refine ⟨by rw [vp_in_iff]; decide, ?_⟩
    rw [if_neg (by decide +kernel)]
    exact h
  · show w_X0_run_15_s c (w_X0_run_15 c q K 4095) q (nI 2) x d (nI 0) (nI 0) M K
    unfold w_X0_run_15_s
    rw [if_neg (by decide)]
    refine ⟨by rw [vp_in_iff]; decide, ?_⟩
    rw [if_neg (by decide +kernel)]
    exact h
  · show w_X0_run_15_s c (w_X0_run_15 c q K 4095) q (nI 2) x d (nI 1) (nI 0) M K
    unfold w_X0_run_15_s
    rw [if_neg (by decide)]
    refine ⟨by rw [vp_in_iff]; decide, ?_⟩
    rw [if_pos (by decide +kernel)]
    refine ⟨by rw [vp_in_iff]; decide, ?_⟩
    rintro _ rfl _ rfl
    show w_X0_run_15_s c (w_X0_run_15 c q K 4094) q (nI 2) x d (nI 0) (nI 1) M K
    unfold w_X0_run_15_s
    rw [if_neg (by decide)]
    refine ⟨by rw [vp_in_iff]; decide, ?_⟩
    rw [if_neg (by decide +kernel)]
    exact h
  · show w_X0_run_15_s c (w_X0_run_15 c q K 4095) q (nI 2) x d (nI 2) (nI 0) M K
    unfold w_X0_run_15_s
    rw [if_neg (by decide)]
    refine ⟨by rw [vp_in_iff]; decide, ?_⟩
    rw [if_pos (by decide +kernel)]
    refine ⟨by rw [vp_in_iff]; decide, ?_⟩
    rintro _ rfl _ rfl
    show w_X0_run_15_s c (w_X0_run_15 c q K 4094) q (nI 2) x d (nI 0) (nI 1) M K
    unfold w_X0_run_15_s
    rw [if_neg (by decide)]
    refine ⟨by rw [vp_in_iff]; decide, ?_⟩
    rw [if_neg (by decide +kernel)]
    exact h
  · show w_X0_run_15_s c (w_X0_run_15 c q K 4095) q (nI 2) x d (nI 3) (nI 0) M K
    unfold w_X0_run_15_s
    rw [if_neg (by decide)]
    refine ⟨by rw [vp_in_iff]; decide, ?_⟩
    rw [if_neg (by decide +kernel)]
    exact h
  · show w_X0_run_15_s c (w_X0_run_15 c q K 4095) q (nI 2) x d (nI 4) (nI 0) M K
    unfold w_X0_run_15_s
    rw [if_neg (by decide)]
    refine ⟨by rw [vp_in_iff]; decide, ?_⟩
    rw [if_neg (by decide +kernel)]
    exact h
  · show w_X0_run_15_s c (w_X0_run_15 c q K 4095) q (nI 2) x d (nI 5) (nI 0) M K
    unfold w_X0_run_15_s
    rw [if_neg (by decide)]
    refine ⟨by rw [vp_in_iff]; decide, ?_⟩
    rw [if_pos (by decide +kernel)]
    refine ⟨by rw [vp_in_iff]; decide, ?_⟩
    rintro _ rfl _ rfl
    show w_X0_run_15_s c (w_X0_run_15 c q K 4094) q (nI 2) x d (nI 2) (nI 1) M K
    unfold w_X0_run_15_s
    rw [if_neg (by decide)]
    refine ⟨by rw [vp_in_iff]; decide, ?_⟩
    rw [if_pos (by decide +kernel)]
    refine ⟨by rw [vp_in_iff]; decide, ?_⟩
    rintro _ rfl _ rfl
    show w_X0_run_15_s c (w_X0_run_15 c q K 4093) q (nI 2) x d (nI 0) (nI 2) M K
    unfold w_X0_run_15_s
    rw [if_neg (by decide)]
    refine ⟨by rw [vp_in_iff]; decide, ?_⟩
    rw [if_neg (by decide +kernel)]
    exact h
  · show w_X0_run_15_s c (w_X0_run_15 c q K 4095) q (nI 2) x d (nI 6) (nI 0) M K
    unfold w_X0_run_15_s
    rw [if_neg (by decide)]
    refine ⟨by rw [vp_in_iff]; decide, ?_⟩
    rw [if_pos (by decide +kernel)]
    refine ⟨by rw [vp_in_iff]; decide, ?_⟩
    rintro _ rfl _ rfl
    show w_X0_run_15_s c (w_X0_run_15 c q K 4094) q (nI 2) x d (nI 3) (nI 1) M K
    unfold w_X0_run_15_s
    rw [if_neg (by decide)]
    refine ⟨by rw [vp_in_iff]; decide, ?_⟩
    rw [if_neg (by decide +kernel)]
    exact h
theorem wr_s (n : Nat) (a : Nat) (k x : Int32) (d : Nat) (hd : d ≤ 12) (hw : Int32) {M : ap_Mem} {K : Int32 → ap_Mem → Prop} (h : w_X0_run_15 (wr_X0_run n 0) 96 K 4096 (nI a) x (nI d) k 0 M) : wr_X0_run (n + 1) 0 96 (nI a) k x (nI d) M K := by
  show wf_X0_run (wr_X0_run n 0) 96 (nI a) k x (nI d) M K
  unfold wf_X0_run
  rw [l_12, if_pos (by rw [n_le (by omega) (by decide)]; exact hd)]
  exact h
/-- the class's own state of an act -/
def e_AS (M : ap_Mem) (k : Nat) (V N : Int32) : Prop := M 96 2 = nI k ∧ M 96 3 = V ∧ M 96 4 = N
theorem e_asA {M M' : ap_Mem} {k r : Nat} {V N : Int32} {bs : List Int32} (h : e_AS M k V N) (ha : e_App M M' 96 97 1 r bs) : e_AS M' k V N := ⟨by rw [ha.2.1 2 (by decide)]; exact h.1, by rw [ha.2.1 3 (by decide)]; exact h.2.1, by rw [ha.2.1 4 (by decide)]; exact h.2.2⟩
theorem c_b1 {c : e_Call} {x d : Int32} {M : ap_Mem} {K : Int32 → ap_Mem → Prop} {r k : Nat} {V N : Int32} (hr : r < 20) (h1 : M 96 1 = nI r) (hs : e_AS M k V N) (h : ∀ M1, e_App M M1 96 97 1 r [1] → e_AS M1 k V N → K (x + N) M1) : w_X0_run_49 c 96 (nI 0) x d (nI 0) M K := by
  unfold w_X0_run_49
  refine ⟨by rw [vp_in_iff]; decide, ?_⟩
  intro x6 e6
  have e7 : x6 = 1 := by rw [e6]; decide +kernel
  rw [e7, c_note hr h1]
  have hA := e_app1 (M := M) (cr := 96) (co := 97) (ir := 1) (r := r) (b := 1) (by decide)
  have hS := e_asA hs hA
  have h9 := h _ hA hS
  rw [if_pos rfl]
  rw [hS.2.2]
  exact h9
theorem c_b2 {c : e_Call} {x d : Int32} {M : ap_Mem} {K : Int32 → ap_Mem → Prop} {r k : Nat} {V N : Int32} (hr : r < 20) (h1 : M 96 1 = nI r) (hs : e_AS M k V N) (h : ∀ M1, e_App M M1 96 97 1 r [2] → e_AS M1 k V N → c 96 (nI 0) (nI k) x (d + 1) M1 (fun r1 M2 => K (r1 - M2 96 3) M2)) : w_X0_run_49 c 96 (nI 1) x d (nI 0) M K := by
  unfold w_X0_run_49
  refine ⟨by rw [vp_in_iff]; decide, ?_⟩
  intro x6 e6
  have e7 : x6 = 2 := by rw [e6]; decide +kernel
  rw [e7, c_note hr h1]
  have hA := e_app1 (M := M) (cr := 96) (co := 97) (ir := 1) (r := r) (b := 2) (by decide)
  have hS := e_asA hs hA
  have h9 := h _ hA hS
  rw [if_neg (by decide)]
  rw [if_pos rfl]
  rw [hS.1]
  exact h9
theorem c_b3 {c : e_Call} {x d : Int32} {M : ap_Mem} {K : Int32 → ap_Mem → Prop} {r k : Nat} {V N : Int32} (hr : r < 20) (h1 : M 96 1 = nI r) (hs : e_AS M k V N) (h : ∀ M1, e_App M M1 96 97 1 r [3] → e_AS M1 k V N → c 96 (nI 1) (nI k) x (d + 1) M1 (fun r1 M2 => K (r1 * 2) M2)) : w_X0_run_49 c 96 (nI 2) x d (nI 0) M K := by
  unfold w_X0_run_49
  refine ⟨by rw [vp_in_iff]; decide, ?_⟩
  intro x6 e6
  have e7 : x6 = 3 := by rw [e6]; decide +kernel
  rw [e7, c_note hr h1]
  have hA := e_app1 (M := M) (cr := 96) (co := 97) (ir := 1) (r := r) (b := 3) (by decide)
  have hS := e_asA hs hA
  have h9 := h _ hA hS
  rw [if_neg (by decide)]
  rw [if_neg (by decide)]
  rw [if_pos rfl]
  rw [hS.1]
  exact h9
theorem c_b11 {c : e_Call} {x d : Int32} {M : ap_Mem} {K : Int32 → ap_Mem → Prop} {r k : Nat} {V N : Int32} (hr : r < 20) (h1 : M 96 1 = nI r) (hs : e_AS M k V N) (h : ∀ M1, e_App M M1 96 97 1 r [11] → e_AS M1 k V N → c 96 (nI 0) (nI 0) (x * 3) (d + 1) M1 K) : w_X0_run_49 c 96 (nI 0) x d (nI 1) M K := by
  unfold w_X0_run_49
  refine ⟨by rw [vp_in_iff]; decide, ?_⟩
  intro x6 e6
  have e7 : x6 = 11 := by rw [e6]; decide +kernel
  rw [e7, c_note hr h1]
  have hA := e_app1 (M := M) (cr := 96) (co := 97) (ir := 1) (r := r) (b := 11) (by decide)
  have hS := e_asA hs hA
  have h9 := h _ hA hS
  rw [if_neg (by decide)]
  rw [if_neg (by decide)]
  rw [if_neg (by decide)]
  rw [if_pos rfl]
  exact ⟨by rw [vp_in_iff]; decide, h9⟩
theorem c_b21 {c : e_Call} {x d : Int32} {M : ap_Mem} {K : Int32 → ap_Mem → Prop} {r k : Nat} {V N : Int32} (hr : r < 20) (h1 : M 96 1 = nI r) (hs : e_AS M k V N) (h : ∀ M1, e_App M M1 96 97 1 r [21] → e_AS M1 k V N → c 96 (nI 1) (nI 0) x (d + 1) M1 (fun r1 M2 => K (-r1) M2)) : w_X0_run_49 c 96 (nI 1) x d (nI 2) M K := by
  unfold w_X0_run_49
  refine ⟨by rw [vp_in_iff]; decide, ?_⟩
  intro x6 e6
  have e7 : x6 = 21 := by rw [e6]; decide +kernel
  rw [e7, c_note hr h1]
  have hA := e_app1 (M := M) (cr := 96) (co := 97) (ir := 1) (r := r) (b := 21) (by decide)
  have hS := e_asA hs hA
  have h9 := h _ hA hS
  rw [if_neg (by decide)]
  rw [if_neg (by decide)]
  rw [if_neg (by decide)]
  rw [if_neg (by decide)]
  rw [if_pos rfl]
  exact ⟨by rw [vp_in_iff]; decide, h9⟩
theorem c_b31 {c : e_Call} {x d : Int32} {M : ap_Mem} {K : Int32 → ap_Mem → Prop} {r k : Nat} {V N : Int32} (hr : r < 20) (h1 : M 96 1 = nI r) (hs : e_AS M k V N) (h : ∀ M1, e_App M M1 96 97 1 r [31] → e_AS M1 k V N → c 96 (nI 2) (nI 0) x (d + 1) M1 (fun r1 M2 => K (r1 ^^^ 7) M2)) : w_X0_run_49 c 96 (nI 2) x d (nI 3) M K := by
  unfold w_X0_run_49
  refine ⟨by rw [vp_in_iff]; decide, ?_⟩
  intro x6 e6
  have e7 : x6 = 31 := by rw [e6]; decide +kernel
  rw [e7, c_note hr h1]
  have hA := e_app1 (M := M) (cr := 96) (co := 97) (ir := 1) (r := r) (b := 31) (by decide)
  have hS := e_asA hs hA
  have h9 := h _ hA hS
  rw [if_neg (by decide)]
  rw [if_neg (by decide)]
  rw [if_neg (by decide)]
  rw [if_neg (by decide)]
  rw [if_neg (by decide)]
  rw [if_pos rfl]
  exact ⟨by rw [vp_in_iff]; decide, h9⟩
theorem c_b41 {c : e_Call} {x d : Int32} {M : ap_Mem} {K : Int32 → ap_Mem → Prop} {r k : Nat} {V N : Int32} (hr : r < 20) (h1 : M 96 1 = nI r) (hs : e_AS M k V N) (h : ∀ M1, e_App M M1 96 97 1 r [41] → e_AS M1 k V N → c 96 (nI 2) (nI 1) (x - 1) (d + 1) M1 (fun r1 M2 => c 96 (nI 0) (M2 96 2) 2 (d + 1) M2 (fun r2 M3 => K (r1 + r2) M3))) : w_X0_run_49 c 96 (nI 2) x d (nI 4) M K := by
  unfold w_X0_run_49
  refine ⟨by rw [vp_in_iff]; decide, ?_⟩
  intro x6 e6
  have e7 : x6 = 41 := by rw [e6]; decide +kernel
  rw [e7, c_note hr h1]
  have hA := e_app1 (M := M) (cr := 96) (co := 97) (ir := 1) (r := r) (b := 41) (by decide)
  have hS := e_asA hs hA
  have h9 := h _ hA hS
  rw [if_neg (by decide)]
  rw [if_neg (by decide)]
  rw [if_neg (by decide)]
  rw [if_neg (by decide)]
  rw [if_neg (by decide)]
  rw [if_neg (by decide)]
  rw [if_pos rfl]
  exact ⟨by rw [vp_in_iff]; decide, h9⟩
theorem c_b51 {c : e_Call} {x d : Int32} {M : ap_Mem} {K : Int32 → ap_Mem → Prop} {r k : Nat} {V N : Int32} (hr : r < 20) (h1 : M 96 1 = nI r) (hs : e_AS M k V N) (h : ∀ M1, e_App M M1 96 97 1 r [51] → e_AS M1 k V N → c 96 (nI 0) (nI 2) x (d + 1) M1 (fun r1 M2 => K (r1 ^^^ M2 96 4) M2)) : w_X0_run_49 c 96 (nI 0) x d (nI 5) M K := by
  unfold w_X0_run_49
  refine ⟨by rw [vp_in_iff]; decide, ?_⟩
  intro x6 e6
  have e7 : x6 = 51 := by rw [e6]; decide +kernel
  rw [e7, c_note hr h1]
  have hA := e_app1 (M := M) (cr := 96) (co := 97) (ir := 1) (r := r) (b := 51) (by decide)
  have hS := e_asA hs hA
  have h9 := h _ hA hS
  rw [if_neg (by decide)]
  rw [if_neg (by decide)]
  rw [if_neg (by decide)]
  rw [if_neg (by decide)]
  rw [if_neg (by decide)]
  rw [if_neg (by decide)]
  rw [if_neg (by decide)]
  rw [if_pos rfl]
  exact ⟨by rw [vp_in_iff]; decide, h9⟩
theorem c_b61 {c : e_Call} {x d : Int32} {M : ap_Mem} {K : Int32 → ap_Mem → Prop} {r k : Nat} {V N : Int32} (hr : r < 20) (h1 : M 96 1 = nI r) (hs : e_AS M k V N) (h : ∀ M1, e_App M M1 96 97 1 r [61] → e_AS M1 k V N → c 96 (nI 1) (nI 3) x (d + 1) M1 (fun r1 M2 => K (r1 + M2 96 3) M2)) : w_X0_run_49 c 96 (nI 1) x d (nI 6) M K := by
  unfold w_X0_run_49
  refine ⟨by rw [vp_in_iff]; decide, ?_⟩
  intro x6 e6
  have e7 : x6 = 61 := by rw [e6]; decide +kernel
  rw [e7, c_note hr h1]
  have hA := e_app1 (M := M) (cr := 96) (co := 97) (ir := 1) (r := r) (b := 61) (by decide)
  have hS := e_asA hs hA
  have h9 := h _ hA hS
  rw [if_neg (by decide)]
  rw [if_neg (by decide)]
  rw [if_neg (by decide)]
  rw [if_neg (by decide)]
  rw [if_neg (by decide)]
  rw [if_neg (by decide)]
  rw [if_neg (by decide)]
  rw [if_neg (by decide)]
  exact ⟨by rw [vp_in_iff]; decide, h9⟩
theorem wr_go {n a k d : Nat} {x : Int32} {M : ap_Mem} {K : Int32 → ap_Mem → Prop} (ha : a < 3) (hk : k < 7) (hd : d ≤ 12) (h : w_X0_run_49 (wr_X0_run n 0) 96 (nI a) x (nI d) (nI (e_at a k)) M K) : wr_X0_run (n + 1) 0 96 (nI a) (nI k) x (nI d) M K := by
  show wf_X0_run (wr_X0_run n 0) 96 (nI a) (nI k) x (nI d) M K
  unfold wf_X0_run
  rw [l_12, if_pos (by rw [n_le (by omega) (by decide)]; exact hd), l_0]
  exact c_find ha hk h
theorem c_s1 {n d k r fk : Nat} {x V N : Int32} {M : ap_Mem} {K : Int32 → ap_Mem → Prop} (hf : fk < 7) (he : e_at 0 fk = 0) (hd : d ≤ 12) (hr : r < 20) (h1 : M 96 1 = nI r) (hs : e_AS M k V N) (h : ∀ M', e_App M M' 96 97 1 r [1] → K (x + N) M') : wr_X0_run (n + 1) 0 96 (nI 0) (nI fk) x (nI d) M K := by
  refine wr_go (by decide) hf hd ?_
  rw [he]
  exact c_b1 hr h1 hs (fun M1 hA _ => h M1 hA)
theorem c_st {n d k r : Nat} {x V N : Int32} {M : ap_Mem} {K : Int32 → ap_Mem → Prop} (hk : k < 7) (hd : d ≤ 11) (hr : r ≤ 17) (h1 : M 96 1 = nI r) (hs : e_AS M k V N) (h : ∀ M', e_App M M' 96 97 1 r (e_st k N x).2 → K (e_st k N x).1 M') : wr_X0_run (n + 2) 0 96 (nI 0) (nI k) x (nI d) M K := by
  by_cases h14 : k = 1 ∨ k = 4
  · have e : e_st k N x = (x * 3 + N, [11, 1]) := if_pos h14
    rw [e] at h
    refine wr_go (by decide) hk (by omega) ?_
    have e2 : e_at 0 k = 1 := by rcases h14 with rfl | rfl <;> rfl
    rw [e2]
    refine c_b11 (by omega) h1 hs (fun M1 hA hS => ?_)
    rw [nI_1]
    exact c_s1 (by decide) rfl (by omega) (r := r + 1) (by omega) hA.2.2.1 hS (fun M2 hB => h M2 (e_appT hA hB))
  · by_cases h5 : k = 5
    · have e : e_st k N x = ((x + N) ^^^ N, [51, 1]) := by unfold e_st; rw [if_neg h14, if_pos h5]
      rw [e] at h
      refine wr_go (by decide) hk (by omega) ?_
      have e2 : e_at 0 k = 5 := by subst h5; rfl
      rw [e2]
      refine c_b51 (by omega) h1 hs (fun M1 hA hS => ?_)
      rw [nI_1]
      refine c_s1 (by decide) rfl (by omega) (r := r + 1) (by omega) hA.2.2.1 hS (fun M2 hB => ?_)
      rw [(e_asA hS hB).2.2]
      exact h M2 (e_appT hA hB)
    · have e : e_st k N x = (x + N, [1]) := by unfold e_st; rw [if_neg h14, if_neg h5]
      rw [e] at h
      have e2 : e_at 0 k = 0 := by rcases (by omega : k = 0 ∨ k = 2 ∨ k = 3 ∨ k = 6) with rfl | rfl | rfl | rfl <;> rfl
      exact c_s1 hk e2 (by omega) (by omega) h1 hs h
theorem e_stl (k : Nat) (N x : Int32) : (e_st k N x).2.length ≤ 2 := by
  unfold e_st
  split
  · simp
  · split <;> simp
theorem c_pl {n d k r fk : Nat} {x V N : Int32} {M : ap_Mem} {K : Int32 → ap_Mem → Prop} (hk : k < 7) (hf : fk < 7) (he : e_at 1 fk = 0) (hd : d ≤ 10) (hr : r ≤ 16) (h1 : M 96 1 = nI r) (hs : e_AS M k V N) (h : ∀ M', e_App M M' 96 97 1 r (e_pl k N V x).2 → K (e_pl k N V x).1 M') : wr_X0_run (n + 3) 0 96 (nI 1) (nI fk) x (nI d) M K := by
  refine wr_go (by decide) hf (by omega) ?_
  rw [he]
  refine c_b2 (by omega) h1 hs (fun M1 hA hS => ?_)
  rw [nI_1]
  refine c_st hk (by omega) (r := r + 1) (by omega) hA.2.2.1 hS (fun M2 hB => ?_)
  rw [(e_asA hS hB).2.1]
  exact h M2 (e_appT hA hB)
theorem c_lo {n d k r : Nat} {x V N : Int32} {M : ap_Mem} {K : Int32 → ap_Mem → Prop} (hk : k < 7) (hd : d ≤ 9) (hr : r ≤ 15) (h1 : M 96 1 = nI r) (hs : e_AS M k V N) (h : ∀ M', e_App M M' 96 97 1 r (e_ll k N V x).2 → K (e_ll k N V x).1 M') : wr_X0_run (n + 4) 0 96 (nI 1) (nI k) x (nI d) M K := by
  by_cases h25 : k = 2 ∨ k = 5
  · have e : e_ll k N V x = (-(e_pl k N V x).1, 21 :: (e_pl k N V x).2) := if_pos h25
    rw [e] at h
    refine wr_go (by decide) hk (by omega) ?_
    have e2 : e_at 1 k = 2 := by rcases h25 with rfl | rfl <;> rfl
    rw [e2]
    refine c_b21 (by omega) h1 hs (fun M1 hA hS => ?_)
    rw [nI_1]
    exact c_pl hk (by decide) rfl (by omega) (r := r + 1) (by omega) hA.2.2.1 hS (fun M2 hB => h M2 (e_appT hA hB))
  · by_cases h6 : k = 6
    · have e : e_ll k N V x = ((e_pl k N V x).1 + V, 61 :: (e_pl k N V x).2) := by unfold e_ll; rw [if_neg h25, if_pos h6]
      rw [e] at h
      refine wr_go (by decide) hk (by omega) ?_
      have e2 : e_at 1 k = 6 := by subst h6; rfl
      rw [e2]
      refine c_b61 (by omega) h1 hs (fun M1 hA hS => ?_)
      rw [nI_1]
      refine c_pl hk (by decide) rfl (by omega) (r := r + 1) (by omega) hA.2.2.1 hS (fun M2 hB => ?_)
      rw [(e_asA hS hB).2.1]
      exact h M2 (e_appT hA hB)
    · have e : e_ll k N V x = e_pl k N V x := by unfold e_ll; rw [if_neg h25, if_neg h6]
      rw [e] at h
      have e2 : e_at 1 k = 0 := by rcases (by omega : k = 0 ∨ k = 1 ∨ k = 3 ∨ k = 4) with rfl | rfl | rfl | rfl <;> rfl
      exact c_pl (n := n + 1) hk hk e2 (by omega) (by omega) h1 hs h
theorem c_pt {n d k r fk : Nat} {x V N : Int32} {M : ap_Mem} {K : Int32 → ap_Mem → Prop} (hk : k < 7) (hf : fk < 7) (he : e_at 2 fk = 0) (hd : d ≤ 8) (hr : r ≤ 14) (h1 : M 96 1 = nI r) (hs : e_AS M k V N) (h : ∀ M', e_App M M' 96 97 1 r (e_pt k N V x).2 → K (e_pt k N V x).1 M') : wr_X0_run (n + 5) 0 96 (nI 2) (nI fk) x (nI d) M K := by
  refine wr_go (by decide) hf (by omega) ?_
  rw [he]
  refine c_b3 (by omega) h1 hs (fun M1 hA hS => ?_)
  rw [nI_1]
  exact c_lo hk (by omega) (r := r + 1) (by omega) hA.2.2.1 hS (fun M2 hB => h M2 (e_appT hA hB))
theorem e_ptl (k : Nat) (N V x : Int32) : (e_pt k N V x).2.length ≤ 5 := by
  have h := e_stl k N x
  unfold e_pt e_ll e_pl
  split
  · simp; omega
  · split
    · simp; omega
    · simp; omega
theorem c_tl {n d k r : Nat} {x V N : Int32} {M : ap_Mem} {K : Int32 → ap_Mem → Prop} (hk : k < 7) (hd : d ≤ 7) (hr : r ≤ 8) (h1 : M 96 1 = nI r) (hs : e_AS M k V N) (h : ∀ M', e_App M M' 96 97 1 r (e_tl k N V x).2 → K (e_tl k N V x).1 M') : wr_X0_run (n + 6) 0 96 (nI 2) (nI k) x (nI d) M K := by
  by_cases h36 : k = 3 ∨ k = 6
  · have e : e_tl k N V x = ((e_pt k N V x).1 ^^^ 7, 31 :: (e_pt k N V x).2) := if_pos h36
    rw [e] at h
    refine wr_go (by decide) hk (by omega) ?_
    have e2 : e_at 2 k = 3 := by rcases h36 with rfl | rfl <;> rfl
    rw [e2]
    refine c_b31 (by omega) h1 hs (fun M1 hA hS => ?_)
    rw [nI_1]
    exact c_pt hk (by decide) rfl (by omega) (r := r + 1) (by omega) hA.2.2.1 hS (fun M2 hB => h M2 (e_appT hA hB))
  · by_cases h4 : k = 4
    · have e : e_tl k N V x = ((e_pt k N V (x - 1)).1 + (e_st k N 2).1, 41 :: ((e_pt k N V (x - 1)).2 ++ (e_st k N 2).2)) := by unfold e_tl; rw [if_neg h36, if_pos h4]
      rw [e] at h
      refine wr_go (by decide) hk (by omega) ?_
      have e2 : e_at 2 k = 4 := by subst h4; rfl
      rw [e2]
      refine c_b41 (by omega) h1 hs (fun M1 hA hS => ?_)
      rw [nI_1]
      refine c_pt hk (by decide) rfl (by omega) (r := r + 1) (by omega) hA.2.2.1 hS (fun M2 hB => ?_)
      have hS2 := e_asA hS hB
      have hl := e_ptl k N V (x - 1)
      rw [hS2.1]
      exact c_st (n := n + 3) hk (by omega) (r := r + 1 + (e_pt k N V (x - 1)).2.length) (by omega) hB.2.2.1 hS2 (fun M3 hC => h M3 (e_appT hA (e_appT hB hC)))
    · have e : e_tl k N V x = e_pt k N V x := by unfold e_tl; rw [if_neg h36, if_neg h4]
      rw [e] at h
      have e2 : e_at 2 k = 0 := by rcases (by omega : k = 0 ∨ k = 1 ∨ k = 2 ∨ k = 5) with rfl | rfl | rfl | rfl <;> rfl
      exact c_pt (n := n + 1) hk hk e2 (by omega) (by omega) h1 hs h
/-! the reference's acts -/
def e_MS (M : ap_Mem) (k : Nat) (V N : Int32) : Prop := M 98 14 = nI k ∧ M 98 15 = N ∧ M 98 16 = V
theorem e_msA {M M' : ap_Mem} {k r : Nat} {V N : Int32} {bs : List Int32} (h : e_MS M k V N) (ha : e_App M M' 98 104 13 r bs) : e_MS M' k V N := ⟨by rw [ha.2.1 14 (by decide)]; exact h.1, by rw [ha.2.1 15 (by decide)]; exact h.2.1, by rw [ha.2.1 16 (by decide)]; exact h.2.2⟩
theorem m_und {kd k : Nat} {M' : ap_Mem} {K : Int32 → ap_Mem → Prop} (h4 : kd < 7) (hk : 1 ≤ k ∧ k ≤ 3) : w_X9_isUnder (nI kd) (nI k) M' K = (if k = kd ∨ kd = k + 3 then K 1 M' else K 0 M') := by
  unfold w_X9_isUnder
  have q1 : (nI k = 0) = (k = 0) := by rw [l_0, n_eq (by omega) (by decide)]
  have q2 : (nI k = nI kd) = (k = kd) := by rw [n_eq (by omega) (by omega)]
  have q3 : (nI k ≤ 0) = (k ≤ 0) := by rw [l_0, n_le (by omega) (by decide)]
  have q4 : (4 ≤ nI k) = (4 ≤ k) := by rw [l_4, n_le (by decide) (by omega)]
  have q5 : (nI kd = nI k + 3) = (kd = k + 3) := by rw [l_3, nI_add, n_eq (by omega) (by omega)]
  simp only [q1, q2, q3, q4, q5]
  by_cases g2 : k = kd
  · rw [if_neg (by omega), if_pos g2, if_pos (Or.inl g2)]
  by_cases g4 : kd = k + 3
  · rw [if_neg (by omega), if_neg g2, if_neg (by omega), if_neg (by omega), if_pos g4, if_pos (Or.inr g4)]
  · rw [if_neg (by omega), if_neg g2, if_neg (by omega), if_neg (by omega), if_neg g4, if_neg (by omega)]
theorem m_ps {k r : Nat} {x V N : Int32} {M : ap_Mem} {K : Int32 → ap_Mem → Prop} (hr : r < 20) (h1 : M 98 13 = nI r) (hs : e_MS M k V N) (h : ∀ M', e_App M M' 98 104 13 r [1] → K (x + N) M') : w_X9_plainStands 98 x M K := by
  unfold w_X9_plainStands
  rw [m_note hr h1]
  have hA := e_app1 (M := M) (cr := 98) (co := 104) (ir := 13) (r := r) (b := 1) (by decide)
  rw [(e_msA hs hA).2.1]
  exact h _ hA
theorem m_st {k r : Nat} {x V N : Int32} {M : ap_Mem} {K : Int32 → ap_Mem → Prop} (hk : k < 7) (hr : r ≤ 17) (h1 : M 98 13 = nI r) (hs : e_MS M k V N) (h : ∀ M', e_App M M' 98 104 13 r (e_st k N x).2 → K (e_st k N x).1 M') : w_X9_standsActs 98 x M K := by
  unfold w_X9_standsActs
  rw [hs.1, l_1, m_und hk (by omega)]
  by_cases h14 : k = 1 ∨ k = 4
  · have e : e_st k N x = (x * 3 + N, [11, 1]) := if_pos h14
    rw [e] at h
    rw [if_pos (by omega), if_neg (by decide), m_note (by omega) h1]
    have hA := e_app1 (M := M) (cr := 98) (co := 104) (ir := 13) (r := r) (b := 11) (by decide)
    exact m_ps (r := r + 1) (by omega) hA.2.2.1 (e_msA hs hA) (fun M2 hB => h M2 (e_appT hA hB))
  · rw [if_neg (by omega), if_pos rfl, hs.1]
    have q5 : (nI k = 5) = (k = 5) := by rw [l_5, n_eq (by omega) (by decide)]
    simp only [q5]
    by_cases h5 : k = 5
    · have e : e_st k N x = ((x + N) ^^^ N, [51, 1]) := by unfold e_st; rw [if_neg h14, if_pos h5]
      rw [e] at h
      rw [if_pos h5, m_note (by omega) h1]
      have hA := e_app1 (M := M) (cr := 98) (co := 104) (ir := 13) (r := r) (b := 51) (by decide)
      refine m_ps (r := r + 1) (by omega) hA.2.2.1 (e_msA hs hA) (fun M2 hB => ?_)
      rw [(e_msA (e_msA hs hA) hB).2.1]
      exact h M2 (e_appT hA hB)
    · have e : e_st k N x = (x + N, [1]) := by unfold e_st; rw [if_neg h14, if_neg h5]
      rw [e] at h
      rw [if_neg h5]
      exact m_ps (by omega) h1 hs h
theorem m_pl {k r : Nat} {x V N : Int32} {M : ap_Mem} {K : Int32 → ap_Mem → Prop} (hk : k < 7) (hr : r ≤ 16) (h1 : M 98 13 = nI r) (hs : e_MS M k V N) (h : ∀ M', e_App M M' 98 104 13 r (e_pl k N V x).2 → K (e_pl k N V x).1 M') : w_X9_plainLooks 98 x M K := by
  unfold w_X9_plainLooks
  rw [m_note (by omega) h1]
  have hA := e_app1 (M := M) (cr := 98) (co := 104) (ir := 13) (r := r) (b := 2) (by decide)
  refine m_st hk (r := r + 1) (by omega) hA.2.2.1 (e_msA hs hA) (fun M2 hB => ?_)
  rw [(e_msA (e_msA hs hA) hB).2.2]
  exact h M2 (e_appT hA hB)
theorem m_lo {k r : Nat} {x V N : Int32} {M : ap_Mem} {K : Int32 → ap_Mem → Prop} (hk : k < 7) (hr : r ≤ 15) (h1 : M 98 13 = nI r) (hs : e_MS M k V N) (h : ∀ M', e_App M M' 98 104 13 r (e_ll k N V x).2 → K (e_ll k N V x).1 M') : w_X9_looksActs 98 x M K := by
  unfold w_X9_looksActs
  rw [hs.1, l_2, m_und hk (by omega)]
  by_cases h25 : k = 2 ∨ k = 5
  · have e : e_ll k N V x = (-(e_pl k N V x).1, 21 :: (e_pl k N V x).2) := if_pos h25
    rw [e] at h
    rw [if_pos (by omega), if_neg (by decide), m_note (by omega) h1]
    have hA := e_app1 (M := M) (cr := 98) (co := 104) (ir := 13) (r := r) (b := 21) (by decide)
    exact m_pl hk (r := r + 1) (by omega) hA.2.2.1 (e_msA hs hA) (fun M2 hB => h M2 (e_appT hA hB))
  · rw [if_neg (by omega), if_pos rfl, hs.1]
    have q5 : (nI k = 6) = (k = 6) := by rw [l_6, n_eq (by omega) (by decide)]
    simp only [q5]
    by_cases h5 : k = 6
    · have e : e_ll k N V x = ((e_pl k N V x).1 + V, 61 :: (e_pl k N V x).2) := by unfold e_ll; rw [if_neg h25, if_pos h5]
      rw [e] at h
      rw [if_pos h5, m_note (by omega) h1]
      have hA := e_app1 (M := M) (cr := 98) (co := 104) (ir := 13) (r := r) (b := 61) (by decide)
      refine m_pl hk (r := r + 1) (by omega) hA.2.2.1 (e_msA hs hA) (fun M2 hB => ?_)
      rw [(e_msA (e_msA hs hA) hB).2.2]
      exact h M2 (e_appT hA hB)
    · have e : e_ll k N V x = e_pl k N V x := by unfold e_ll; rw [if_neg h25, if_neg h5]
      rw [e] at h
      rw [if_neg h5]
      exact m_pl hk (by omega) h1 hs h
theorem m_pt {k r : Nat} {x V N : Int32} {M : ap_Mem} {K : Int32 → ap_Mem → Prop} (hk : k < 7) (hr : r ≤ 14) (h1 : M 98 13 = nI r) (hs : e_MS M k V N) (h : ∀ M', e_App M M' 98 104 13 r (e_pt k N V x).2 → K (e_pt k N V x).1 M') : w_X9_plainTelling 98 x M K := by
  unfold w_X9_plainTelling
  rw [m_note (by omega) h1]
  have hA := e_app1 (M := M) (cr := 98) (co := 104) (ir := 13) (r := r) (b := 3) (by decide)
  exact m_lo hk (r := r + 1) (by omega) hA.2.2.1 (e_msA hs hA) (fun M2 hB => h M2 (e_appT hA hB))
theorem m_tl {k r : Nat} {x V N : Int32} {M : ap_Mem} {K : Int32 → ap_Mem → Prop} (hk : k < 7) (hr : r ≤ 8) (h1 : M 98 13 = nI r) (hs : e_MS M k V N) (h : ∀ M', e_App M M' 98 104 13 r (e_tl k N V x).2 → K (e_tl k N V x).1 M') : w_X9_tellsActs 98 x M K := by
  unfold w_X9_tellsActs
  rw [hs.1, l_3, m_und hk (by omega)]
  by_cases h36 : k = 3 ∨ k = 6
  · have e : e_tl k N V x = ((e_pt k N V x).1 ^^^ 7, 31 :: (e_pt k N V x).2) := if_pos h36
    rw [e] at h
    rw [if_pos (by omega), if_neg (by decide), m_note (by omega) h1]
    have hA := e_app1 (M := M) (cr := 98) (co := 104) (ir := 13) (r := r) (b := 31) (by decide)
    exact m_pt hk (r := r + 1) (by omega) hA.2.2.1 (e_msA hs hA) (fun M2 hB => h M2 (e_appT hA hB))
  · rw [if_neg (by omega), if_pos rfl, hs.1]
    have q5 : (nI k = 4) = (k = 4) := by rw [l_4, n_eq (by omega) (by decide)]
    simp only [q5]
    by_cases h5 : k = 4
    · have e : e_tl k N V x = ((e_pt k N V (x - 1)).1 + (e_st k N 2).1, 41 :: ((e_pt k N V (x - 1)).2 ++ (e_st k N 2).2)) := by unfold e_tl; rw [if_neg h36, if_pos h5]
      rw [e] at h
      rw [if_pos h5, m_note (by omega) h1]
      have hA := e_app1 (M := M) (cr := 98) (co := 104) (ir := 13) (r := r) (b := 41) (by decide)
      refine m_pt hk (r := r + 1) (by omega) hA.2.2.1 (e_msA hs hA) (fun M2 hB => ?_)
      have hl := e_ptl k N V (x - 1)
      exact m_st hk (r := r + 1 + (e_pt k N V (x - 1)).2.length) (by omega) hB.2.2.1 (e_msA (e_msA hs hA) hB) (fun M3 hC => h M3 (e_appT hA (e_appT hB hC)))
    · have e : e_tl k N V x = e_pt k N V x := by unfold e_tl; rw [if_neg h36, if_neg h5]
      rw [e] at h
      rw [if_neg h5]
      exact m_pt hk (by omega) h1 hs h
theorem e_stn (k : Nat) (N x : Int32) : (e_st k N x).2.length ≤ 20 := Nat.le_trans (e_stl k N x) (by decide)
theorem e_lln (k : Nat) (N V x : Int32) : (e_ll k N V x).2.length ≤ 20 := by
  have h := e_stl k N x
  unfold e_ll e_pl
  split
  · simp; omega
  · split
    · simp; omega
    · simp; omega
theorem e_tln (k : Nat) (N V x : Int32) : (e_tl k N V x).2.length ≤ 20 := by
  have h := e_ptl k N V x
  have h2 := e_ptl k N V (x - 1)
  have h3 := e_stl k N 2
  unfold e_tl
  split
  · simp; omega
  · split
    · simp; omega
    · omega
/-- both have run the same bodies -/
theorem e_actEnd {M M1 M2 : ap_Mem} {bs : List Int32} {k : Nat} {V N : Int32} (hI : e_Inv M) (hl : bs.length ≤ 20) (h1 : e_App (ap_mu (ap_mu (ap_mu (ap_mu M 96 1 0) 96 2 (nI k)) 96 3 V) 96 4 N) M1 96 97 1 0 bs) (h2 : e_App (ap_mu (ap_mu (ap_mu (ap_mu M1 98 13 0) 98 14 (nI k)) 98 15 N) 98 16 V) M2 98 104 13 0 bs) : e_Inv M2 := by
  obtain ⟨a1, a2, a3, a4, a5⟩ := h1
  obtain ⟨b1, b2, b3, b4, b5⟩ := h2
  have f : ∀ a, a ≠ 96 → a ≠ 97 → a ≠ 98 → a ≠ 104 → M2 a = M a := fun a h1 h2 h3 h4 => by
    rw [b1 a h3 h4]
    simp (disch := omega) only [ap_mu_n]
    rw [a1 a h1 h2]
    simp (disch := omega) only [ap_mu_n]
  refine ⟨?_, ?_, bs.length, by omega, by rw [b3, Nat.zero_add], ?_, fun i hi hj => ?_⟩
  · rw [f 99 (by decide) (by decide) (by decide) (by decide)]
    exact e_fR hI.1 (fun a ha => f a (by omega) (by omega) (by omega) (by omega)) (fun _ _ => rfl)
  · have e98 : M2 98 4 = M 98 4 := by
      rw [b2 4 (by decide)]
      simp (disch := omega) only [mu_o]
      rw [a1 98 (by decide) (by decide)]
      simp (disch := omega) only [mu_o]
    rw [e98, f 0 (by decide) (by decide) (by decide) (by decide), f 100 (by decide) (by decide) (by decide) (by decide)]
    rcases hI.2.1 with h | ⟨h, h3, h4⟩
    · exact Or.inl h
    · exact Or.inr ⟨h, h3, e_fR h4 (fun a ha => f a (by omega) (by omega) (by omega) (by omega)) (fun _ _ => rfl)⟩
  · rw [b1 96 (by decide) (by decide)]
    simp (disch := omega) only [ap_mu_n]
    rw [a3, Nat.zero_add]
  · obtain ⟨z, hz⟩ : ∃ z, bs[i]? = some z := ⟨bs[i], List.getElem?_eq_getElem hi⟩
    have e1 := b5 i z hz
    have e2 := a5 i z hz
    rw [Nat.zero_add] at e1 e2
    rw [e1, b1 97 (by decide) (by decide)]
    simp (disch := omega) only [ap_mu_n]
    exact e2.symm
theorem p_act (x y z : Int32) : e_Pair (fun M K => w_X8_act 0 x y z M K) (fun M K => w_X9_act 98 x y z M K) := by
  intro M hI
  obtain ⟨n, A, hn, hA, f30, m5, m4, hp, hl⟩ := hI.1.2.2.1
  have none : e_Inv (ap_mu (ap_mu M 96 1 0) 98 13 0) := by
    refine ⟨?_, ?_, 0, by omega, by simp (disch := omega) only [mu_s, ← l_0], by simp (disch := omega) only [mu_s, mu_o, ← l_0], fun i hi => absurd hi (by omega)⟩
    · simp (disch := omega) only [ap_mu_n]
      exact e_fR hI.1 (fun a ha => by simp (disch := omega) only [ap_mu_n]) (fun _ _ => rfl)
    · simp (disch := omega) only [mu_o, ap_mu_n]
      rcases hI.2.1 with h | ⟨h, h3, h4⟩
      · exact Or.inl h
      · exact Or.inr ⟨h, h3, e_fR h4 (fun a ha => by simp (disch := omega) only [ap_mu_n]) (fun _ _ => rfl)⟩
  show w_X8_act 0 x y z M _
  unfold w_X8_act
  rintro _ rfl
  have m5' : (ap_mu M 96 1 0) 13 5 = nI n := by simp (disch := omega) only [mu_o]; exact m5
  have g30 : ∀ M1 : ap_Mem, M1 99 = M 99 → (ap_mu M1 98 13 0) (98 + 1) 30 = nI n := fun M1 h => by simp (disch := omega) only [mu_o]; rw [h]; exact f30
  have e99 : (ap_mu M 96 1 0) 99 = M 99 := by simp (disch := omega) only [ap_mu_n]
  rcases e_ix x (n := n) (by omega) with h | ⟨p, hpn, rfl⟩
  · rw [c_has0 (q := 0 + 13) m5' h]
    simp only [if_true]
    unfold w_X9_act
    rintro _ rfl
    rw [m_isPerson0 (g30 _ e99) (by omega) h]
    simp only [if_true]
    exact ⟨trivial, none⟩
  rw [c_has1 (q := 0 + 13) m5' (by omega) hpn, if_neg (by decide)]
  have hP : ∀ (M1 : ap_Mem) K, M1 99 = M 99 → w_X9_isPerson 98 (nI p) (ap_mu M1 98 13 0) K = K 1 (ap_mu M1 98 13 0) := fun M1 K h => m_isPerson1 (g30 M1 h) (by omega) hpn
  rcases e_ix y (n := 3) (by decide) with h | ⟨a, ha, rfl⟩
  · have e3 : ∀ M' K, w_X9_in y 0 2 M' K = K 0 M' := fun M' K => by rw [l_2]; exact m_in0 (by decide) h
    have mm : w_X9_act 98 (nI p) y z (ap_mu M 96 1 0) (fun r2 M2 => 0 = r2 ∧ e_Inv M2) := by
      unfold w_X9_act
      rintro _ rfl
      rw [hP _ _ e99, if_neg (by decide), e3, if_pos rfl]
      exact ⟨rfl, none⟩
    rcases h with h | ⟨h1, h2⟩
    · rw [if_pos h]
      exact mm
    · rw [if_neg (i_nlt h1), if_neg (by rw [l_3]; exact i_nlt h2)]
      exact mm
  have e3 : ∀ M' K, w_X9_in (nI a) 0 2 M' K = K 1 M' := fun M' K => by rw [l_2, l_0]; exact m_in1 (by omega) (by omega) (by decide)
  rw [if_neg (show ¬ nI a < 0 from n_neg (by omega)), if_pos (by rw [l_3, n_lt (by omega) (by decide)]; exact ha)]
  obtain ⟨⟨k, hk, f38, m38⟩, ⟨v, hv, f44, m44⟩, -⟩ := hp p hpn
  unfold w_X0_start
  rw [n_vp (by omega), n_cl (by omega)]
  refine ⟨by omega, ?_⟩
  rintro _ rfl
  refine ⟨by omega, ?_⟩
  rintro _ rfl _ rfl
  have c1 : (ap_mu M (0 + 96) 1 0) (0 + 13 + 1) p = nI k := by simp (disch := omega) only [mu_o]; exact m38
  have c2 : (ap_mu (ap_mu M (0 + 96) 1 0) (0 + 96) 2 (nI k)) (0 + 13 + 2) p = nI v := by simp (disch := omega) only [mu_o]; exact m44
  rw [c1, c2]
  simp only [Nat.zero_add]
  have c3 : (ap_mu (ap_mu (ap_mu (ap_mu M 96 1 0) 96 2 (nI k)) 96 3 (nI v)) 96 4 (nI p)) 96 2 = nI k := by simp (disch := omega) only [mu_s, mu_o]
  rw [c3]
  have hs : e_AS (ap_mu (ap_mu (ap_mu (ap_mu M 96 1 0) 96 2 (nI k)) 96 3 (nI v)) 96 4 (nI p)) k (nI v) (nI p) := ⟨c3, by simp (disch := omega) only [mu_s, mu_o], by simp (disch := omega) only [mu_s, mu_o]⟩
  have h0 : (ap_mu (ap_mu (ap_mu (ap_mu M 96 1 0) 96 2 (nI k)) 96 3 (nI v)) 96 4 (nI p)) 96 1 = nI 0 := by simp (disch := omega) only [mu_s, mu_o, ← l_0]
  have mod : ∀ (M1 : ap_Mem) (rv : Int32) (bs : List Int32), bs.length ≤ 20 → e_App (ap_mu (ap_mu (ap_mu (ap_mu M 96 1 0) 96 2 (nI k)) 96 3 (nI v)) 96 4 (nI p)) M1 96 97 1 0 bs →
      (∀ (M3 : ap_Mem) (K : Int32 → ap_Mem → Prop), M3 98 13 = nI 0 → e_MS M3 k (nI v) (nI p) → (∀ M', e_App M3 M' 98 104 13 0 bs → K rv M') → (if nI a = 0 then w_X9_standsActs 98 z M3 K else if nI a = 1 then w_X9_looksActs 98 z M3 K else w_X9_tellsActs 98 z M3 K)) →
      w_X9_act 98 (nI p) (nI a) z M1 (fun r2 M2 => rv = r2 ∧ e_Inv M2) := by
    intro M1 rv bs hbl hA hm
    have g99 : M1 99 = M 99 := by
      rw [hA.1 99 (by decide) (by decide)]
      simp (disch := omega) only [ap_mu_n]
    unfold w_X9_act
    rintro _ rfl
    rw [hP _ _ g99, if_neg (by decide), e3, if_neg (by decide), l_38, l_44, nI_add, nI_add, n_vp (by omega), n_cl (by omega), n_vp (by omega), n_cl (by omega)]
    refine ⟨by omega, ?_⟩
    rintro _ rfl _ rfl
    refine ⟨by omega, ?_⟩
    rintro _ rfl
    have d1 : (ap_mu M1 98 13 0) (98 + 1) (38 + p) = nI k := by simp (disch := omega) only [mu_o]; rw [g99]; exact f38
    rw [d1]
    have d2 : (ap_mu (ap_mu (ap_mu M1 98 13 0) 98 14 (nI k)) 98 15 (nI p)) (98 + 1) (44 + p) = nI v := by simp (disch := omega) only [mu_o]; rw [g99]; exact f44
    rw [d2]
    exact hm _ _ (by simp (disch := omega) only [mu_s, mu_o, ← l_0]) ⟨by simp (disch := omega) only [mu_s, mu_o], by simp (disch := omega) only [mu_s, mu_o], by simp (disch := omega) only [mu_s, mu_o]⟩ (fun M' hB => ⟨rfl, e_actEnd hI hbl hA hB⟩)
  unfold w_X0_run
  rw [l_0]
  rcases (by omega : a = 0 ∨ a = 1 ∨ a = 2) with rfl | rfl | rfl
  · refine c_st (n := 14) (d := 0) (by omega) (by omega) (r := 0) (by omega) h0 hs (fun M1 hA => ?_)
    refine mod M1 _ _ (e_stn _ _ _) hA (fun M3 K h1 h2 h3 => ?_)
    rw [if_pos (by decide)]
    exact m_st (by omega) (by omega) h1 h2 h3
  · refine c_lo (n := 12) (d := 0) (by omega) (by omega) (r := 0) (by omega) h0 hs (fun M1 hA => ?_)
    refine mod M1 _ _ (e_lln _ _ _ _) hA (fun M3 K h1 h2 h3 => ?_)
    rw [if_neg (by decide), if_pos (by decide)]
    exact m_lo (by omega) (by omega) h1 h2 h3
  · refine c_tl (n := 10) (d := 0) (by omega) (by omega) (r := 0) (by omega) h0 hs (fun M1 hA => ?_)
    refine mod M1 _ _ (e_tln _ _ _ _) hA (fun M3 K h1 h2 h3 => ?_)
    rw [if_neg (by decide), if_neg (by decide)]
    exact m_tl (by omega) (by omega) h1 h2 h3
