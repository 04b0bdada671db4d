/-! copies -/
theorem mc_i (M : ap_Mem) (a0 a1 n : Nat) {j : Nat} (h : j < n) : ap_mc M a0 a1 0 0 n a1 j = M a0 j := by rw [mc_at, if_pos ⟨rfl, h⟩]
theorem mc_o (M : ap_Mem) (a0 : Nat) {a1 n a j : Nat} (h : a ≠ a1 ∨ n ≤ j) : ap_mc M a0 a1 0 0 n a j = M a j := by
  rw [mc_at, if_neg]
  rintro ⟨h1, h2⟩
  omega
theorem mc_row (M : ap_Mem) {a0 a1 n a : Nat} (h : a ≠ a1) : ap_mc M a0 a1 0 0 n a = M a := ap_mc_n M h
theorem c_rcopy {q o n N L : Nat} {M : ap_Mem} {K : ap_Mem → Prop} (h1 : ap_ln (q + 1) = N) (h2 : ap_ln (q + 2) = N) (h3 : ap_ln (o + 1) = L) (h4 : ap_ln (o + 2) = L) (hN : N < 4000) (hL : L < 4000) (hm : M o 2 = nI n) (hn : n ≤ N) (hnL : n ≤ L) (hd : q + 2 < o ∨ o + 2 < q)
    (h : ∀ M' : ap_Mem, (∀ a, ¬ (q ≤ a ∧ a ≤ q + 2) → M' a = M a) → M' q 2 = nI n → (∀ i, i < n → M' (q + 1) i = M (o + 1) i ∧ M' (q + 2) i = M (o + 2) i) → K M') : w_X5_copyFrom q o M K := by
  unfold w_X5_copyFrom
  rw [c_clear, l_0]
  have key : ∀ (c i fuel : Nat) (M' : ap_Mem), i + c = n → c < fuel → (∀ a, ¬ (q ≤ a ∧ a ≤ q + 2) → M' a = M a) → M' q 2 = nI i → (∀ j, j < i → M' (q + 1) j = M (o + 1) j ∧ M' (q + 2) j = M (o + 2) j) → w_X5_copyFrom_7 q o K fuel (nI i) M' := by
    intro c
    induction c with
    | zero =>
      intro i fuel M' hi hf hfr hs hr
      obtain ⟨k, rfl⟩ : ∃ k, fuel = k + 1 := ⟨fuel - 1, by omega⟩
      show w_X5_copyFrom_7_s _ q o (nI i) M' K
      have h5 : M' o 2 = nI n := by rw [hfr o (by omega)]; exact hm
      unfold w_X5_copyFrom_7_s
      rw [h5, if_pos (by rw [n_le (by omega) (by omega)]; omega)]
      have e : i = n := by omega
      subst e
      exact h M' hfr hs hr
    | succ c ih =>
      intro i fuel M' hi hf hfr hs hr
      obtain ⟨k, rfl⟩ : ∃ k, fuel = k + 1 := ⟨fuel - 1, by omega⟩
      show w_X5_copyFrom_7_s (w_X5_copyFrom_7 q o K k) q o (nI i) M' K
      have h5 : M' o 2 = nI n := by rw [hfr o (by omega)]; exact hm
      unfold w_X5_copyFrom_7_s
      rw [h5, if_neg (by rw [n_le (by omega) (by omega)]; omega), h3, h4, n_vp (by omega), n_cl (by omega), c_add (N := N) h1 h2 (by omega) hs (by omega)]
      refine ⟨by omega, by omega, ?_⟩
      rintro _ rfl
      rw [nI_1]
      refine ih (i + 1) k _ (by omega) (by omega) (fun a ha => by simp (disch := omega) only [ap_mu_n]; exact hfr a ha) (by simp (disch := omega) only [mu_s]) (fun j hj => ?_)
      by_cases hji : j = i
      · subst hji
        rw [hfr (o + 1) (by omega), hfr (o + 2) (by omega)]
        exact ⟨by simp (disch := omega) only [mu_s, mu_o], by simp (disch := omega) only [mu_s, mu_o]⟩
      · simp (disch := omega) only [mu_o]
        exact hr j (by omega)
  exact key n 0 4096 _ (by omega) (by omega) (fun a ha => by simp (disch := omega) only [ap_mu_n]) (by simp (disch := omega) only [mu_s]) (fun j hj => absurd hj (by omega))
theorem c_carpCopy {q o c t mt ml : Nat} {f : Nat → Int32} {M : ap_Mem} {K : ap_Mem → Prop} (hc : e_Carp M o f c t mt ml) (hd : q + 1 < o ∨ o + 1 < q) (h : ∀ M' : ap_Mem, (∀ a, ¬ (q ≤ a ∧ a ≤ q + 1) → M' a = M a) → e_Carp M' q f c t mt ml → K M') : w_X1_copyFrom q o M K := by
  unfold w_X1_copyFrom
  rintro _ rfl _ rfl _ rfl
  obtain ⟨h1, h2, h3, h4, h5, h6, h7⟩ := hc
  refine h _ (fun a ha => by simp (disch := omega) only [ap_mu_n, mc_row]) ⟨h1, h2, h3, by simp (disch := omega) only [mu_s, mu_o, mc_o, h4], h5, by simp (disch := omega) only [mu_s, mu_o, mc_o, h6], fun i hi => ?_⟩
  simp (disch := omega) only [mu_o, mc_i]
  exact h7 i hi
theorem c_folkCopy {q o n A : Nat} {f : Nat → Int32} {M : ap_Mem} {K : ap_Mem → Prop} (hc : e_Folk M o f n A) (hd : q + 4 < o ∨ o + 4 < q) (h : ∀ M' : ap_Mem, (∀ a, ¬ (q ≤ a ∧ a ≤ q + 4) → M' a = M a) → e_Folk M' q f n A → K M') : w_X3_copyFrom q o M K := by
  unfold w_X3_copyFrom
  rintro _ rfl _ rfl _ rfl _ rfl _ rfl _ rfl
  obtain ⟨h1, h2, h3, h4, h5, h6, h7⟩ := hc
  refine h _ (fun a ha => by simp (disch := omega) only [ap_mu_n, mc_row]) ⟨h1, h2, h3, by simp (disch := omega) only [mu_s, mu_o, mc_o, h4], by simp (disch := omega) only [mu_s, mu_o, mc_o, h5], fun p hp => ?_, fun j hj => ?_⟩
  · simp (disch := omega) only [mu_o, mc_o, mc_i]
    exact h6 p hp
  · simp (disch := omega) only [mu_o, mc_o, mc_i]
    exact h7 j hj
theorem c_townCopy {q o : Nat} {cs : List e_Cls} {M : ap_Mem} {K : ap_Mem → Prop} (hc : e_CTown M o cs) (hd : q + 4 < o ∨ o + 4 < q) (h : ∀ M' : ap_Mem, (∀ a, ¬ (q ≤ a ∧ a ≤ q + 4) → M' a = M a) → e_CTown M' q cs → K M') : w_X7_copyFrom q o M K := by
  unfold w_X7_copyFrom
  rintro _ rfl _ rfl _ rfl _ rfl _ rfl _ rfl _ rfl
  obtain ⟨h1, h2, h3, h4, h5, h6, h7, h8, h9⟩ := hc
  refine ⟨?_, ?_⟩
  · simp (disch := omega) only [mu_o, mc_o]
    rw [h9]
    split
    · exact ap_B1
    · exact ap_B0
  · rintro _ rfl
    refine h _ (fun a ha => by simp (disch := omega) only [ap_mu_n, mc_row]) ⟨h1, h2, h3, by simp (disch := omega) only [mu_s, mu_o, mc_o, h4], by simp (disch := omega) only [mu_s, mu_o, mc_o, h5], fun i c hi => ?_, fun j z hj => ?_, by simp (disch := omega) only [mu_s, mu_o, mc_o, h8], by simp (disch := omega) only [mu_s, mu_o, mc_o, h9]⟩
    · have hlt := (List.getElem?_eq_some_iff.mp hi).1
      simp (disch := omega) only [mu_o, mc_o, mc_i]
      exact h6 i c hi
    · have hlt := (List.getElem?_eq_some_iff.mp hj).1
      simp (disch := omega) only [mu_o, mc_o, mc_i]
      exact h7 j z hj
/-! the image -/
theorem e_cR {M M' : ap_Mem} {b b' : Nat} {f : Nat → Int32} (ht : e_RTape M b f) (g : ∀ n, M (b + 1) 2 = nI n → M' (b' + 1) 2 = nI n ∧ ∀ i, i < n → M' (b' + 2) i = M (b + 2) i) : e_RTape M' b' f := by
  obtain ⟨n, h1, h2, h3, h4⟩ := ht
  obtain ⟨g1, g2⟩ := g n h3
  refine ⟨n, h1, h2, g1, fun i hi => ?_⟩
  rw [g2 i hi]
  exact h4 i hi
/-- what the copying of a scene needs to know of its rows: their sizes fit, they lie apart -/
theorem c_sceneCopy {q o : Nat} {f : Nat → Int32} {M : ap_Mem} {K : ap_Mem → Prop} (hqo : (q = 1 ∧ o = 32) ∨ (q = 32 ∧ o = 1)) (hR : e_R M o f) (h : ∀ M' : ap_Mem, (∀ a, ¬ (q ≤ a ∧ a < q + 31) → M' a = M a) → e_R M' q f → K M') : w_X6_copyFrom q o M K := by
  obtain ⟨⟨n1, t1, t2, t3, t4⟩, ⟨⟨n2, u1, u2, u3, u4⟩, cs, u5, u6⟩, ⟨n, A, hF⟩, ⟨c, t, hC⟩, ⟨n3, w1, w2, w3, w4⟩, ⟨n4, s1, s2, s3, s4⟩, ⟨n5, p1, p2, p3, p4⟩, ⟨n6, k1, k2, k3, k4⟩⟩ := hR
  have hlen : ∀ b, b = 1 ∨ b = 32 → ap_ln (b + 2) = 100 ∧ ap_ln (b + 3) = 100 ∧ ap_ln (b + 20) = 10 ∧ ap_ln (b + 21) = 10 ∧ ap_ln (b + 23) = 5 ∧ ap_ln (b + 24) = 5 ∧ ap_ln (b + 26) = 8 ∧ ap_ln (b + 27) = 8 ∧ ap_ln (b + 29) = 8 ∧ ap_ln (b + 30) = 8 := by
    rintro b (rfl | rfl) <;> decide +kernel
  obtain ⟨a1, a2, a3, a4, a5, a6, a7, a8, a9, a10⟩ := hlen q (by omega)
  obtain ⟨b1, b2, b3, b4, b5, b6, b7, b8, b9, b10⟩ := hlen o (by omega)
  unfold w_X6_copyFrom
  refine c_rcopy (n := n1) (N := 100) (L := 100) a1 a2 b1 b2 (by decide) (by decide) t3 t1 t1 (by omega) (fun M1 f1 r1 r2 => ?_)
  refine c_townCopy (cs := cs) (e_fCTown u5 (fun a ha => f1 a (by omega))) (by omega) (fun M2 f2 r3 => ?_)
  rintro M3 e3
  have f3 : ∀ a, ¬ (q ≤ a ∧ a < q + 31) → M3 a = M a := fun a ha => by rw [e3]; simp (disch := omega) only [ap_mu_n]; rw [f2 a (by omega), f1 a (by omega)]
  have fo : ∀ a, (o ≤ a ∧ a < o + 31) → M3 a = M a := fun a ha => f3 a (by omega)
  refine c_folkCopy (n := n) (A := A) (f := f) (e_fFolk1 hF (fun a ha => fo a (by omega)) (fun _ _ => rfl)) (by omega) (fun M4 f4 r4 => ?_)
  have g4 : ∀ a, (o ≤ a ∧ a < o + 31) → M4 a = M a := fun a ha => by rw [f4 a (by omega)]; exact fo a ha
  refine c_carpCopy (c := c) (t := t) (mt := 9999) (ml := 99) (f := f) (e_fCarp1 hC (fun a ha => g4 a (by omega)) (fun _ _ => rfl)) (by omega) (fun M5 f5 r5 => ?_)
  have g5 : ∀ a, (o ≤ a ∧ a < o + 31) → M5 a = M a := fun a ha => by rw [f5 a (by omega)]; exact g4 a ha
  refine c_rcopy (n := n3) (N := 10) (L := 10) a3 a4 b3 b4 (by decide) (by decide) (by rw [g5 _ (by omega)]; exact w3) w1 w1 (by omega) (fun M6 f6 r6 r7 => ?_)
  have g6 : ∀ a, (o ≤ a ∧ a < o + 31) → M6 a = M a := fun a ha => by rw [f6 a (by omega)]; exact g5 a ha
  refine c_rcopy (n := n4) (N := 5) (L := 5) a5 a6 b5 b6 (by decide) (by decide) (by rw [g6 _ (by omega)]; exact s3) s1 s1 (by omega) (fun M7 f7 r8 r9 => ?_)
  have g7 : ∀ a, (o ≤ a ∧ a < o + 31) → M7 a = M a := fun a ha => by rw [f7 a (by omega)]; exact g6 a ha
  refine c_rcopy (n := n5) (N := 8) (L := 8) a7 a8 b7 b8 (by decide) (by decide) (by rw [g7 _ (by omega)]; exact p3) p1 p1 (by omega) (fun M8 f8 r10 r11 => ?_)
  have g8 : ∀ a, (o ≤ a ∧ a < o + 31) → M8 a = M a := fun a ha => by rw [f8 a (by omega)]; exact g7 a ha
  refine c_rcopy (n := n6) (N := 8) (L := 8) a9 a10 b9 b10 (by decide) (by decide) (by rw [g8 _ (by omega)]; exact k3) k1 k1 (by omega) (fun M9 f9 r12 r13 => ?_)
  refine h M9 (fun a ha => by rw [f9 a (by omega), f8 a (by omega), f7 a (by omega), f6 a (by omega), f5 a (by omega), f4 a (by omega)]; exact f3 a ha) ⟨⟨n1, t1, t2, ?_, fun i hi => ?_⟩, ⟨⟨n2, u1, u2, ?_, u4⟩, cs, e_fCTown r3 (fun a ha => ?_), u6⟩, ⟨n, A, e_fFolk1 r4 (fun a ha => ?_) (fun _ _ => rfl)⟩, ⟨c, t, e_fCarp1 r5 (fun a ha => ?_) (fun _ _ => rfl)⟩, ⟨n3, w1, w2, ?_, fun i hi => ?_⟩, ⟨n4, s1, s2, ?_, fun i hi => ?_⟩, ⟨n5, p1, p2, ?_, fun i hi => ?_⟩, ⟨n6, k1, k2, r12, fun i hi => ?_⟩⟩
  · rw [f9 _ (by omega), f8 _ (by omega), f7 _ (by omega), f6 _ (by omega), f5 _ (by omega), f4 _ (by omega), e3]
    simp (disch := omega) only [mu_o]
    rw [f2 _ (by omega)]
    exact r1
  · rw [f9 _ (by omega), f8 _ (by omega), f7 _ (by omega), f6 _ (by omega), f5 _ (by omega), f4 _ (by omega), e3]
    simp (disch := omega) only [mu_o]
    rw [f2 _ (by omega), (r2 i hi).1]
    exact t4 i hi
  · rw [f9 _ (by omega), f8 _ (by omega), f7 _ (by omega), f6 _ (by omega), f5 _ (by omega), f4 _ (by omega), e3, mu_s, f2 _ (by omega), f1 _ (by omega)]
    exact u3
  · rw [f9 _ (by omega), f8 _ (by omega), f7 _ (by omega), f6 _ (by omega), f5 _ (by omega), f4 _ (by omega), e3]
    simp (disch := omega) only [ap_mu_n]
  · rw [f9 _ (by omega), f8 _ (by omega), f7 _ (by omega), f6 _ (by omega), f5 _ (by omega)]
  · rw [f9 _ (by omega), f8 _ (by omega), f7 _ (by omega), f6 _ (by omega)]
  · rw [f9 _ (by omega), f8 _ (by omega), f7 _ (by omega)]
    exact r6
  · rw [f9 _ (by omega), f8 _ (by omega), f7 _ (by omega), (r7 i hi).1, g5 _ (by omega)]
    exact w4 i hi
  · rw [f9 _ (by omega), f8 _ (by omega)]
    exact r8
  · rw [f9 _ (by omega), f8 _ (by omega), f9 _ (by omega), f8 _ (by omega), (r9 i hi).1, (r9 i hi).2, g6 _ (by omega), g6 _ (by omega)]
    exact s4 i hi
  · rw [f9 _ (by omega)]
    exact r10
  · rw [f9 _ (by omega), f9 _ (by omega), (r11 i hi).1, (r11 i hi).2, g7 _ (by omega), g7 _ (by omega)]
    exact p4 i hi
  · rw [(r13 i hi).1, (r13 i hi).2, g8 _ (by omega), g8 _ (by omega)]
    exact k4 i hi
theorem m_copyTo {K : Int32 → ap_Mem → Prop} {M0 : ap_Mem} (h : ∀ M' : ap_Mem, (∀ a, a ≠ 100 → M' a = M0 a) → (∀ j, j < 936 → M' 100 j = M0 99 j) → K (M' 99 30) (ap_mu M' 98 4 1)) : ∀ (c i fuel : Nat) (M : ap_Mem), i + c = 936 → c < fuel → (∀ a, a ≠ 100 → M a = M0 a) → (∀ j, j < i → M 100 j = M0 99 j) → w_X9_image_2 98 K fuel (nI i) M := by
  intro c
  induction c with
  | zero =>
    intro i fuel M hi hf hfr hr
    obtain ⟨k, rfl⟩ : ∃ k, fuel = k + 1 := ⟨fuel - 1, by omega⟩
    have e : i = 936 := by omega
    subst e
    show w_X9_image_2_s _ 98 (nI 936) M K
    have := h M hfr hr
    simp (disch := omega) [w_X9_image_2_s, l_936, n_le, k_30, v_30, mu_o]
    exact this
  | succ c ih =>
    intro i fuel M hi hf hfr hr
    obtain ⟨k, rfl⟩ : ∃ k, fuel = k + 1 := ⟨fuel - 1, by omega⟩
    show w_X9_image_2_s (w_X9_image_2 98 K k) 98 (nI i) M K
    unfold w_X9_image_2_s
    rw [l_936, if_neg (by rw [n_le (by omega) (by omega)]; omega), n_vp (by omega), n_cl (by omega)]
    refine ⟨by omega, by omega, ?_⟩
    rintro _ rfl _ rfl
    rw [nI_1]
    refine ih (i + 1) k _ (by omega) (by omega) (fun a ha => by simp (disch := omega) only [ap_mu_n]; exact hfr a ha) (fun j hj => ?_)
    by_cases hji : j = i
    · subst hji
      simp (disch := omega) only [mu_s]
      rw [hfr _ (by omega)]
    · simp (disch := omega) only [mu_o]
      exact hr j (by omega)
theorem m_copyFrom {K : Int32 → ap_Mem → Prop} {M0 : ap_Mem} (h : ∀ M' : ap_Mem, (∀ a, a ≠ 99 → M' a = M0 a) → (∀ j, j < 936 → M' 99 j = M0 100 j) → K (M' 99 30) M') : ∀ (c i fuel : Nat) (M : ap_Mem), i + c = 936 → c < fuel → (∀ a, a ≠ 99 → M a = M0 a) → (∀ j, j < i → M 99 j = M0 100 j) → w_X9_undo_12 98 K fuel (nI i) M := by
  intro c
  induction c with
  | zero =>
    intro i fuel M hi hf hfr hr
    obtain ⟨k, rfl⟩ : ∃ k, fuel = k + 1 := ⟨fuel - 1, by omega⟩
    have e : i = 936 := by omega
    subst e
    show w_X9_undo_12_s _ 98 (nI 936) M K
    have := h M hfr hr
    simp (disch := omega) [w_X9_undo_12_s, l_936, n_le, k_30, v_30]
    exact this
  | succ c ih =>
    intro i fuel M hi hf hfr hr
    obtain ⟨k, rfl⟩ : ∃ k, fuel = k + 1 := ⟨fuel - 1, by omega⟩
    show w_X9_undo_12_s (w_X9_undo_12 98 K k) 98 (nI i) M K
    unfold w_X9_undo_12_s
    rw [l_936, if_neg (by rw [n_le (by omega) (by omega)]; omega), n_vp (by omega), n_cl (by omega)]
    refine ⟨by omega, by omega, ?_⟩
    rintro _ rfl _ rfl
    rw [nI_1]
    refine ih (i + 1) k _ (by omega) (by omega) (fun a ha => by simp (disch := omega) only [ap_mu_n]; exact hfr a ha) (fun j hj => ?_)
    by_cases hji : j = i
    · subst hji
      simp (disch := omega) only [mu_s]
      rw [hfr _ (by omega)]
    · simp (disch := omega) only [mu_o]
      exact hr j (by omega)
theorem p_image : e_Pair (fun M K => w_X8_image 0 M K) (fun M K => w_X9_image 98 M K) := by
  intro M hI
  show w_X8_image 0 M _
  unfold w_X8_image
  refine c_sceneCopy (f := M 99) (by omega) hI.1 (fun M1 f1 r1 => ?_)
  rintro _ rfl
  obtain ⟨n, A, -, -, f30, m5, -⟩ := hI.1.2.2.1
  show w_X9_image 98 _ _
  unfold w_X9_image
  rw [l_0]
  refine m_copyTo (M0 := ap_mu M1 0 2 1) (fun M2 f2 r2 => ?_) 936 0 4096 _ (by omega) (by omega) (fun _ _ => rfl) (fun j hj => absurd hj (by omega))
  have e99 : M2 99 = M 99 := by rw [f2 _ (by omega)]; simp (disch := omega) only [ap_mu_n]; exact f1 _ (by omega)
  refine ⟨?_, ?_, ?_, ?_⟩
  · rw [e99, f30]
    simp (disch := omega) only [mu_o]
    rw [f1 _ (by omega)]
    exact m5
  · refine e_fR hI.1 (fun a ha => ?_) (fun j hj => ?_)
    · simp (disch := omega) only [ap_mu_n]
      rw [f2 _ (by omega)]
      simp (disch := omega) only [ap_mu_n]
      exact f1 _ (by omega)
    · simp (disch := omega) only [mu_o]
      rw [e99]
  · refine Or.inr ⟨by simp (disch := omega) only [mu_s], ?_, ?_⟩
    · simp (disch := omega) only [mu_o]
      rw [f2 _ (by omega), mu_s]
    · refine e_fR r1 (fun a ha => ?_) (fun j hj => ?_)
      · simp (disch := omega) only [ap_mu_n]
        rw [f2 _ (by omega)]
        simp (disch := omega) only [ap_mu_n]
      · simp (disch := omega) only [mu_o]
        rw [r2 j hj]
        simp (disch := omega) only [mu_o]
        rw [f1 _ (by omega)]
  · obtain ⟨r, g1, g2, g3, g4⟩ := hI.2.2
    refine ⟨r, g1, ?_, ?_, fun i hi hj => ?_⟩
    · simp (disch := omega) only [mu_o]
      rw [f2 _ (by omega)]
      simp (disch := omega) only [mu_o]
      rw [f1 _ (by omega)]
      exact g2
    · simp (disch := omega) only [mu_o]
      rw [f2 _ (by omega)]
      simp (disch := omega) only [mu_o]
      rw [f1 _ (by omega)]
      exact g3
    · simp (disch := omega) only [mu_o]
      rw [f2 _ (by omega), f2 _ (by omega)]
      simp (disch := omega) only [mu_o]
      rw [f1 _ (by omega), f1 _ (by omega)]
      exact g4 i hi hj
theorem p_undo : e_Pair (fun M K => w_X8_undo 0 M K) (fun M K => w_X9_undo 98 M K) := by
  intro M hI
  show w_X8_undo 0 M _
  unfold w_X8_undo
  rcases hI.2.1 with ⟨h1, h2⟩ | ⟨h1, h2, h3⟩
  · simp [h2, w_X9_undo, h1, hI]
  · rw [h2, if_neg (by decide)]
    refine c_sceneCopy (f := M 100) (by omega) h3 (fun M1 f1 r1 => ?_)
    obtain ⟨n, A, -, -, f30, m5, -⟩ := r1.2.2.1
    show w_X9_undo 98 _ _
    unfold w_X9_undo
    rw [f1 98 (by omega), h1, if_neg (by decide), l_0]
    refine m_copyFrom (M0 := M1) (fun M2 f2 r2 => ?_) 936 0 4096 _ (by omega) (by omega) (fun _ _ => rfl) (fun j hj => absurd hj (by omega))
    refine ⟨?_, ?_, ?_, ?_⟩
    · rw [r2 30 (by omega), f1 100 (by omega), f30]
      exact m5
    · refine e_fR r1 (fun a ha => f2 _ (by omega)) (fun j hj => ?_)
      rw [r2 j hj, f1 100 (by omega)]
    · refine Or.inr ⟨by rw [f2 _ (by omega), f1 _ (by omega)]; exact h1, by rw [f2 _ (by omega), f1 _ (by omega)]; exact h2, ?_⟩
      refine e_fR h3 (fun a ha => by rw [f2 _ (by omega), f1 _ (by omega)]) (fun j hj => by rw [f2 _ (by omega), f1 _ (by omega)])
    · obtain ⟨r, g1, g2, g3, g4⟩ := hI.2.2
      refine ⟨r, g1, by rw [f2 _ (by omega), f1 _ (by omega)]; exact g2, by rw [f2 _ (by omega), f1 _ (by omega)]; exact g3, fun i hi hj => ?_⟩
      rw [f2 _ (by omega), f1 _ (by omega), f2 _ (by omega), f1 _ (by omega)]
      exact g4 i hi hj
