/-! done -/
theorem p_done (x : Int32) : e_Pair (fun M K => w_X8_done 0 x M K) (fun M K => w_X9_done 98 x M K) := by
  intro M hI
  obtain ⟨D, w, hS⟩ := e_open hI
  have hD := e_scD hS
  have hN := e_scOk hS 100 (by decide)
  have hMC := e_scM hS
  obtain ⟨n, n1, n2, n3, n4⟩ := hI.1.2.2.2.2.2.2.1
  show w_X8_done 0 x M _
  unfold w_X8_done
  rcases e_ix x (n := 2) (by decide) with h | ⟨b, hb, rfl⟩
  · rw [c_isEither0 h, if_pos rfl]
    show w_X9_done 98 x M _
    unfold w_X9_done
    rw [l_1, m_in0 (by decide) h, if_pos rfl]
    exact ⟨rfl, hI⟩
  rw [c_isEither1 hb, if_neg (by decide)]
  have hP : ∃ P : Nat → Nat × Nat, ∀ i, i < n → M 99 (94 + i) = nI (P i).1 ∧ ((P i).1 ≠ 0 → M 99 (102 + i) = nI (P i).2) ∧ ((P i).1 = 0 ∨ ((P i).1 = 1 ∧ (P i).2 < 6) ∨ ((P i).1 = 2 ∧ (P i).2 < 6) ∨ ((P i).1 = 3 ∧ (P i).2 < 16)) := by
    refine ⟨fun i => ((M 99 (94 + i)).toNatClampNeg, (M 99 (102 + i)).toNatClampNeg), fun i hi => ?_⟩
    show M 99 (94 + i) = nI (M 99 (94 + i)).toNatClampNeg ∧ ((M 99 (94 + i)).toNatClampNeg ≠ 0 → M 99 (102 + i) = nI (M 99 (102 + i)).toNatClampNeg) ∧ ((M 99 (94 + i)).toNatClampNeg = 0 ∨ ((M 99 (94 + i)).toNatClampNeg = 1 ∧ (M 99 (102 + i)).toNatClampNeg < 6) ∨ ((M 99 (94 + i)).toNatClampNeg = 2 ∧ (M 99 (102 + i)).toNatClampNeg < 6) ∨ ((M 99 (94 + i)).toNatClampNeg = 3 ∧ (M 99 (102 + i)).toNatClampNeg < 16))
    obtain ⟨-, -, h | ⟨h, p, p1, p2⟩ | ⟨h, p, p1, p2⟩ | ⟨h, p, p1, p2⟩⟩ := n4 i hi
    · rw [h, n_cl (by omega)]
      exact ⟨rfl, fun z => absurd rfl z, Or.inl rfl⟩
    · rw [h, p2, n_cl (by omega), n_cl (by omega)]
      exact ⟨rfl, fun _ => rfl, Or.inr (Or.inl ⟨rfl, p1⟩)⟩
    · rw [h, p2, n_cl (by omega), n_cl (by omega)]
      exact ⟨rfl, fun _ => rfl, Or.inr (Or.inr (Or.inl ⟨rfl, p1⟩))⟩
    · rw [h, p2, n_cl (by omega), n_cl (by omega)]
      exact ⟨rfl, fun _ => rfl, Or.inr (Or.inr (Or.inr ⟨rfl, p1⟩))⟩
  obtain ⟨P, hP⟩ := hP
  have okS : ∀ (r i : Nat) (s : e_D × e_W), i + r = n → e_okS r s → e_okS 0 (e_fols P r i s) := by
    intro r
    induction r with
    | zero => exact fun i s _ h => h
    | succ r ih => exact fun i s hi h => ih (i + 1) _ (by omega) (e_folOk h (hP i (by omega)).2.2)
  refine c_begin hS (fun M1 f1 hC1 hs1 => ?_)
  have cl : ∀ (K : Int32 → ap_Mem → Prop) (m r i : Nat) (s : e_D × e_W) (M2 : ap_Mem), i + r = n → (∀ x, ¬ (76 ≤ x ∧ x ≤ 95) → M2 x = M x) → e_CC M2 s.1 s.2 → e_okS r s → (∀ M' s', s' = e_fols P r i s → (∀ x, ¬ (76 ≤ x ∧ x ≤ 95) → M' x = M x) → e_CC M' s'.1 s'.2 → e_okW s'.2 → K (if b = 0 then nI s'.2.2.1 else nI (e_mlN s'.2.2.2 16)) M') → w_X8_done_22 0 K (m + 1 + r) (nI b) (nI i) M2 := by
    intro K m r
    induction r with
    | zero =>
      intro i s M2 hi f2 hC hs h
      have hW := e_okNW hs.2
      show w_X8_done_22_s (w_X8_done_22 0 K m) 0 (nI b) (nI i) M2 K
      unfold w_X8_done_22_s
      have hk := h M2 s rfl f2 hC hW
      rw [show (0 + 26 : Nat) = 26 from rfl, f2 26 (by omega), n3, if_pos (by rw [n_le (by omega) (by omega)]; omega)]
      rcases (by omega : b = 0 ∨ b = 1) with rfl | rfl
      · rw [if_pos (by decide), show (0 + 82 : Nat) = 82 from rfl, hC.2.1.1]
        rw [if_pos rfl] at hk
        exact hk
      · rw [if_neg (by decide), c_many (q := 0 + 82) (fun i hi => ⟨hC.2.1.2.2 i hi, by have := hW.2.2 i hi; omega⟩)]
        rw [if_neg (by decide)] at hk
        exact hk
    | succ r ih =>
      intro i s M2 hi f2 hC hs h
      obtain ⟨p1, p2, p3⟩ := hP i (by omega)
      obtain ⟨q1, q2, -⟩ := n4 i (by omega)
      show w_X8_done_22_s (w_X8_done_22 0 K (m + 1 + r)) 0 (nI b) (nI i) M2 K
      unfold w_X8_done_22_s
      rw [show (0 + 26 : Nat) = 26 from rfl, f2 26 (by omega), n3, if_neg (by rw [n_le (by omega) (by omega)]; omega), n_vp (by omega), n_cl (by omega)]
      refine ⟨by omega, by omega, ?_⟩
      have e27 : M2 (0 + 27) i = nI (P i).1 := by rw [f2 (0 + 27) (by omega), ← p1]; exact q1
      have e28 : (P i).1 ≠ 0 → M2 (0 + 28) i = nI (P i).2 := fun z => by rw [f2 (0 + 28) (by omega), ← p2 z]; exact q2
      rw [e27]
      refine c_follow hC ⟨hs.1, e_okNM hs.2 (by omega)⟩ p3 e28 (fun M3 f3 h3 => ?_)
      rintro _ rfl
      rw [nI_1]
      exact ih (i + 1) _ M3 (by omega) (fun x hx => by rw [f3 x hx, f2 x hx]) h3 (e_folOk hs p3) h
  have mo : ∀ (K : Int32 → ap_Mem → Prop) (M0 : ap_Mem) (m r i : Nat) (s : e_D × e_W) (M2 : ap_Mem), i + r = n → (∀ x, x ≠ 99 → x ≠ 102 → x ≠ 103 → M2 x = M0 x) → (∀ j, 30 ≤ j → M2 99 j = M 99 j) → (∀ j, 30 ≤ j → M0 99 j = M 99 j) → e_MC (M2 99) s.1 s.2 → e_okS r s → (∀ M' s', s' = e_fols P r i s → (∀ x, x ≠ 99 → x ≠ 102 → x ≠ 103 → M' x = M0 x) → (∀ j, M' 99 j = if j < 30 then M0 101 j else M0 99 j) → K (if b = 0 then nI s'.2.2.1 else nI (e_mlN s'.2.2.2 16)) M') → w_X9_done_17 98 K (m + 1 + r) (nI b) (nI i) M2 := by
    intro K M0 m r
    induction r with
    | zero =>
      intro i s M2 hi f2 g2 g0 hC hs h
      have hW := e_okNW hs.2
      show w_X9_done_17_s (w_X9_done_17 98 K m) 98 (nI b) (nI i) M2 K
      unfold w_X9_done_17_s
      rw [v_34, k_34, show (98 + 1 : Nat) = 99 from rfl, g2 34 (by omega), n2, if_pos (by rw [n_le (by omega) (by omega)]; omega)]
      refine ⟨trivial, ?_⟩
      have out : ∀ s0, s0 = (if b = 0 then nI s.2.2.1 else nI (e_mlN s.2.2.2 16)) → w_X9_done_73 98 s0 M2 K := by
        rintro _ rfl
        unfold w_X9_done_73
        refine m_back (fun M4 f4 g4 => h M4 s rfl (fun x a b c => by rw [f4 x a, f2 x a b c]) (fun j => ?_))
        rw [g4 j, f2 101 (by decide) (by decide) (by decide)]
        split
        · rfl
        · rw [g2 j (by omega), g0 j (by omega)]
      rcases (by omega : b = 0 ∨ b = 1) with rfl | rfl
      · rw [if_pos (by decide), v_1, k_1]
        exact ⟨trivial, out _ (by rw [if_pos rfl]; exact hC.2.2.1)⟩
      · rw [if_neg (by decide), m_many (e_mcL hC hW)]
        exact out _ (by rw [if_neg (by decide)])
    | succ r ih =>
      intro i s M2 hi f2 g2 g0 hC hs h
      obtain ⟨p1, p2, p3⟩ := hP i (by omega)
      show w_X9_done_17_s (w_X9_done_17 98 K (m + 1 + r)) 98 (nI b) (nI i) M2 K
      unfold w_X9_done_17_s
      rw [v_34, k_34, show (98 + 1 : Nat) = 99 from rfl, g2 34 (by omega), n2, if_neg (by rw [n_le (by omega) (by omega)]; omega), l_94, l_102, nI_add, nI_add, n_vp (by omega), n_vp (by omega), n_cl (by omega), n_cl (by omega), g2 (94 + i) (by omega), p1]
      refine ⟨trivial, by omega, by omega, ?_⟩
      refine m_goesBy hC ⟨hs.1, e_okNM hs.2 (by omega)⟩ p3 (fun z => by rw [g2 _ (by omega)]; exact p2 z) (fun M3 f3 g3 h3 => ?_)
      rintro _ rfl
      rw [nI_1]
      exact ih (i + 1) _ M3 (by omega) (fun x a b c => by rw [f3 x a b c, f2 x a b c]) (fun j hj => by rw [g3 j hj, g2 j hj]) g0 h3 (e_folOk hs p3) h
  have ok0 : e_okS n (D, w) := ⟨hD, e_okNM hN (by omega)⟩
  have := cl (fun r1 M1 => w_X9_done 98 (nI b) M1 (fun r2 M2 => r1 = r2 ∧ e_Inv M2)) (4095 - n) n 0 (D, w) M1 (by omega) f1 hC1 ok0 (fun M2 s' hs' f12 hC2 hW2 => ?_)
  · rw [show 4095 - n + 1 + n = 4096 by omega] at this
    exact this
  · have e99 := f12 99 (by omega)
    unfold w_X9_done
    rw [l_1, l_0, m_in1 (by omega) (by omega) (by decide), ← l_0, if_neg (by decide)]
    refine m_keeps (fun M3 f3 g3 => ?_)
    have e399 : M3 99 = M 99 := by rw [f3 99 (by decide), e99]
    have h2 := mo (fun r2 M4 => (if b = 0 then nI s'.2.2.1 else nI (e_mlN s'.2.2.2 16)) = r2 ∧ e_Inv M4) M3 (4095 - n) n 0 (D, w) M3 (by omega) (fun _ _ _ _ => rfl) (fun j _ => by rw [e399]) (fun j _ => by rw [e399]) (by rw [e399]; exact hMC) ok0 (fun M4 s2 hs2 f4 g4 => ⟨by rw [hs2, hs'], e_end hI f12 f3 g3 (fun x a b c d => f4 x a c d) g4⟩)
    rw [show 4095 - n + 1 + n = 4096 by omega] at h2
    exact h2
