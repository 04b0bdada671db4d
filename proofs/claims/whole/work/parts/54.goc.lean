/-! town: the class's loop reads as the grammar says -/
def t_cln (l : Nat) (S : List Nat) : Prop := ∀ z S', S = z :: S' → z < l
theorem t_stlC {l : Nat} {S : List Nat} (h : t_cln l S) (out : List e_Tok) : t_stl l S out = (S, out) := by
  cases S with
  | nil => rfl
  | cons z S => exact if_pos (h z S rfl)
theorem t_stl12 : ∀ (S : List Nat) (out : List e_Tok), t_stl 1 S out = t_stl 1 (t_stl 2 S out).1 (t_stl 2 S out).2 := by
  intro S
  induction S with
  | nil => exact fun out => rfl
  | cons z S ih =>
    intro out
    by_cases hz : z < 2
    · have e : t_stl 2 (z :: S) out = (z :: S, out) := if_pos hz
      rw [e]
    · have e : t_stl 2 (z :: S) out = t_stl 2 S (out ++ [t_jn z]) := if_neg hz
      have e1 : t_stl 1 (z :: S) out = t_stl 1 S (out ++ [t_jn z]) := if_neg (by omega)
      rw [e, e1]
      exact ih _
theorem t_stlB {l : Nat} (hl : 1 ≤ l) : ∀ (S : List Nat) (out : List e_Tok), t_b (t_stl l S out).1 = t_b S := by
  intro S
  induction S with
  | nil => exact fun out => rfl
  | cons z S ih =>
    intro out
    by_cases hz : z < l
    · have e : t_stl l (z :: S) out = (z :: S, out) := if_pos hz
      rw [e]
    · have e : t_stl l (z :: S) out = t_stl l S (out ++ [t_jn z]) := if_neg hz
      rw [e, ih]
      show _ = (if z = 0 then 1 else 0) + t_b S
      rw [if_neg (by omega), Nat.zero_add]
theorem t_stlE {l : Nat} (hl : 1 ≤ l) {S S1 : List Nat} {out out1 : List e_Tok} (h : t_stl l S1 out1 = (S, out)) : t_b S1 = t_b S := by
  have := t_stlB hl S1 out1
  rw [h] at this
  exact this.symm
theorem t_noT {T : Nat → Nat} {n p : Nat} (h : t_hd T n p = 33 ∨ t_hd T n p = 40) : t_test T n p = .error p := by
  unfold t_test
  rcases h with h | h
  · rw [h, if_neg (by decide)]
  · rw [h, if_neg (by decide)]
theorem c_goall {T : Nat → Nat} {n : Nat} {M0 : ap_Mem} {K : Int32 → ap_Mem → Prop} (h0 : t_C0 T n M0) : ∀ f,
    (∀ x i p S out M, 5 * (n - p) + 1 ≤ f → t_CS n M0 M p S out → i ≤ t_o S → t_o S ≤ 5 → S.length ≤ t_o S + 2 * t_b S + 2 → x < p → (∀ r, t_go T n f 0 (t_o S) p = .ok r → ∀ M' x' y S1 out1, t_CS n M0 M' r.1 S1 out1 → t_stl 2 S1 out1 = t_stl 2 S (out ++ r.2) → y + t_b S1 ≤ 5 → x' < r.1 → t_B K x' y M') → (∀ e, t_go T n f 0 (t_o S) p = .error e → ∀ M', t_CE M0 M' e → K 0 M') → t_A K x i M) ∧
    (∀ x i p S out M, 5 * (n - p) + 2 ≤ f → t_CS n M0 M p S out → i ≤ t_o S → t_o S ≤ 5 → S.length ≤ t_o S + 2 * t_b S + 1 → t_cln 2 S → x < p → (∀ r, t_go T n f 1 (t_o S) p = .ok r → ∀ M' x' y S1 out1, t_CS n M0 M' r.1 S1 out1 → t_stl 2 S1 out1 = (S, out ++ r.2) → y + t_b S1 ≤ 5 → x' < r.1 → t_B K x' y M') → (∀ e, t_go T n f 1 (t_o S) p = .error e → ∀ M', t_CE M0 M' e → K 0 M') → t_A K x i M) ∧
    (∀ x i p S out M, 5 * (n - p) + 3 ≤ f → t_CS n M0 M p S out → i ≤ t_o S → t_o S ≤ 5 → S.length ≤ t_o S + 2 * t_b S → t_cln 1 S → x < p → (∀ r, t_go T n f 2 (t_o S) p = .ok r → ∀ M' x' y S1 out1, t_CS n M0 M' r.1 S1 out1 → t_stl 1 S1 out1 = (S, out ++ r.2) → y + t_b S1 ≤ 5 → x' < r.1 → t_B K x' y M') → (∀ e, t_go T n f 2 (t_o S) p = .error e → ∀ M', t_CE M0 M' e → K 0 M') → t_A K x i M) ∧
    (∀ x y p S out S1 out1 M, 5 * (n - p) + 1 ≤ f → t_CS n M0 M p S1 out1 → t_stl 2 S1 out1 = (S, out) → t_cln 2 S → t_o S ≤ 5 → y + t_b S1 ≤ 5 → S.length ≤ t_o S + 2 * t_b S + 1 → x < p → (∀ r, t_go T n f 3 (t_o S) p = .ok r → ∀ M' x' y S1 out1, t_CS n M0 M' r.1 S1 out1 → t_stl 2 S1 out1 = (S, out ++ r.2) → y + t_b S1 ≤ 5 → x' < r.1 → t_B K x' y M') → (∀ e, t_go T n f 3 (t_o S) p = .error e → ∀ M', t_CE M0 M' e → K 0 M') → t_B K x y M) ∧
    (∀ x y p S out S1 out1 M, 5 * (n - p) + 1 ≤ f → t_CS n M0 M p S1 out1 → t_stl 1 S1 out1 = (S, out) → t_cln 1 S → t_o S ≤ 5 → y + t_b S1 ≤ 5 → S.length ≤ t_o S + 2 * t_b S → x < p → t_hd T n p ≠ 38 → (∀ r, t_go T n f 4 (t_o S) p = .ok r → ∀ M' x' y S1 out1, t_CS n M0 M' r.1 S1 out1 → t_stl 1 S1 out1 = (S, out ++ r.2) → y + t_b S1 ≤ 5 → x' < r.1 → t_B K x' y M') → (∀ e, t_go T n f 4 (t_o S) p = .error e → ∀ M', t_CE M0 M' e → K 0 M') → t_B K x y M) := by
  have hn100 := h0.1
  intro f
  induction f with
  | zero =>
    refine ⟨?_, ?_, ?_, ?_, ?_⟩
    · intro x i p S out M hf
      omega
    · intro x i p S out M hf
      omega
    · intro x i p S out M hf
      omega
    · intro x y p S out S1 out1 M hf
      omega
    · intro x y p S out S1 out1 M hf
      omega
  | succ f ih =>
    obtain ⟨i0, i1, i2, i3, i4⟩ := ih
    obtain ⟨g0, g1, g2, g3, g4⟩ := t_good T n f
    refine ⟨?_, ?_, ?_, ?_, ?_⟩
    · intro x i p S out M hf h hi ho hS hx hy hn
      have hbo := t_oB S
      rw [t_go0] at hy hn
      by_cases h33 : t_hd T n p = 33
      · rw [if_pos h33] at hy hn
        have hp := (t_hlt h33 (by decide)).1
        by_cases h5 : t_o S = 5
        · rw [if_pos h5] at hn
          refine c_A3 h0 h hi ho (Or.inl h5) (fun r hr => ?_) (fun e he => ?_)
          · rw [t_noT (Or.inl h33)] at hr
            cases hr
          · rw [t_noT (Or.inl h33)] at he
            cases he
            exact hn p rfl
        · rw [if_neg h5] at hy hn
          have eo : t_o (3 :: S) = t_o S + 1 := by
            show (if (3 : Nat) = 0 ∨ (3 : Nat) = 3 then 1 else 0) + t_o S = _
            rw [if_pos (Or.inr rfl), Nat.add_comm]
          have eb : t_b (3 :: S) = t_b S := by
            show (if (3 : Nat) = 0 then 1 else 0) + t_b S = _
            rw [if_neg (by decide), Nat.zero_add]
          refine c_A1 h0 h hi (by omega) (by omega) h33 (fun M1 hM1 => ?_)
          refine i0 x (i + 1) (p + 1) (3 :: S) out M1 (by omega) hM1 (by omega) (by omega) (by show S.length + 1 ≤ _; omega) (by omega) (fun r hr M2 x' y S1 out1 k1 k2 k3 k4 => ?_) (fun e he => ?_)
          · rw [eo] at hr
            refine hy (r.1, r.2 ++ [(6, 0, 0)]) (by rw [hr]; rfl) M2 x' y S1 out1 k1 ?_ k3 k4
            rw [k2]
            show t_stl 2 (3 :: S) (out ++ r.2) = t_stl 2 S (out ++ (r.2 ++ [(6, 0, 0)]))
            rw [← List.append_assoc]
            exact if_neg (by decide)
          · rw [eo] at he
            exact hn e (by rw [he]; rfl)
      · rw [if_neg h33] at hy hn
        by_cases h40 : t_hd T n p = 40
        · rw [if_pos h40] at hy hn
          have hp := (t_hlt h40 (by decide)).1
          by_cases h5 : t_o S = 5
          · rw [if_pos h5] at hn
            refine c_A3 h0 h hi ho (Or.inl h5) (fun r hr => ?_) (fun e he => ?_)
            · rw [t_noT (Or.inr h40)] at hr
              cases hr
            · rw [t_noT (Or.inr h40)] at he
              cases he
              exact hn p rfl
          · rw [if_neg h5] at hy hn
            have eo : t_o (0 :: S) = t_o S + 1 := by
              show (if (0 : Nat) = 0 ∨ (0 : Nat) = 3 then 1 else 0) + t_o S = _
              rw [if_pos (Or.inl rfl), Nat.add_comm]
            have eb : t_b (0 :: S) = t_b S + 1 := by
              show (if (0 : Nat) = 0 then 1 else 0) + t_b S = _
              rw [if_pos rfl, Nat.add_comm]
            refine c_A2 h0 h hi (by omega) (by omega) h40 (fun M1 hM1 => ?_)
            refine i2 x (i + 1) (p + 1) (0 :: S) out M1 (by omega) hM1 (by omega) (by omega) (by show S.length + 1 ≤ _; omega) (fun z S' e => by cases e; decide) (by omega) (fun r hr M2 x' y S1 out1 k1 k2 k3 k4 => ?_) (fun e he => ?_)
            · rw [eo] at hr
              obtain ⟨q1, q2, q3, q4, -⟩ := g2 _ _ _ (by omega) hr
              have eb1 := t_stlE (by decide) k2
              by_cases h41 : t_hd T n r.1 = 41
              · refine c_B1 h0 k1 k3 (by omega) h41 (fun M3 S' out' k5 k6 => ?_)
                rw [k2] at k5
                cases k5
                exact hy (r.1 + 1, r.2) (by rw [hr]; exact if_pos h41) M3 x' (y + 1) S (out ++ r.2) k6 rfl (by omega) (by show x' < r.1 + 1; omega)
              · refine c_B4 h0 k1 k3 (Or.inr h41) q3 q4 (fun M3 k6 => ?_)
                rw [k2] at k6 ⊢
                rw [if_neg (by show ¬ t_b (0 :: S) = 0; omega)]
                exact hn r.1 (by rw [hr]; exact if_neg h41) M3 (t_CSe k6)
            · rw [eo] at he
              exact hn e (by rw [he]; rfl)
        · rw [if_neg h40] at hy hn
          refine c_A3 h0 h hi ho (Or.inr ⟨h33, h40⟩) (fun r hr M1 hM1 => ?_) (fun e he => ?_)
          · have := (t_testOk hr).1
            exact hy (r.1, [r.2]) (by rw [hr]; rfl) M1 x 0 S (out ++ [r.2]) hM1 rfl (by omega) (by show x < r.1; omega)
          · exact hn e (by rw [he]; rfl)
    · intro x i p S out M hf h hi ho hS hc hx hy hn
      rw [t_go1] at hy hn
      refine i0 x i p S out M (by omega) h hi ho (by omega) hx (fun r hr M1 x1 y1 S1 out1 k1 k2 k3 k4 => ?_) (fun e he => ?_)
      · obtain ⟨q1, ⟨q2, q3, -⟩, -⟩ := g0 _ _ _ ho hr
        rw [hr] at hy hn
        rw [t_stlC hc] at k2
        refine i3 x1 y1 r.1 S (out ++ r.2) S1 out1 M1 (by omega) k1 k2 hc ho k3 hS k4 (fun r2 hr2 M2 x2 y2 S2 out2 j1 j2 j3 j4 => ?_) (fun e he => ?_)
        · exact hy (r2.1, r.2 ++ r2.2) (by show t_cat r.2 (t_go T n f 3 (t_o S) r.1) = _; rw [hr2]; rfl) M2 x2 y2 S2 out2 j1 (by rw [j2, List.append_assoc]) j3 j4
        · exact hn e (by show t_cat r.2 (t_go T n f 3 (t_o S) r.1) = _; rw [he]; rfl)
      · exact hn e (by rw [he]; rfl)
    · intro x i p S out M hf h hi ho hS hc hx hy hn
      rw [t_go2] at hy hn
      refine i1 x i p S out M (by omega) h hi ho (by omega) (fun z S' e => by have := hc z S' e; omega) hx (fun r hr M1 x1 y1 S1 out1 k1 k2 k3 k4 => ?_) (fun e he => ?_)
      · obtain ⟨q1, ⟨q2, q3, -⟩, q4, -⟩ := g1 _ _ _ ho hr
        rw [hr] at hy hn
        have k2 : t_stl 1 S1 out1 = (S, out ++ r.2) := by
          rw [t_stl12, k2]
          exact t_stlC hc _
        refine i4 x1 y1 r.1 S (out ++ r.2) S1 out1 M1 (by omega) k1 k2 hc ho k3 hS k4 q4 (fun r2 hr2 M2 x2 y2 S2 out2 j1 j2 j3 j4 => ?_) (fun e he => ?_)
        · exact hy (r2.1, r.2 ++ r2.2) (by show t_cat r.2 (t_go T n f 4 (t_o S) r.1) = _; rw [hr2]; rfl) M2 x2 y2 S2 out2 j1 (by rw [j2, List.append_assoc]) j3 j4
        · exact hn e (by show t_cat r.2 (t_go T n f 4 (t_o S) r.1) = _; rw [he]; rfl)
      · exact hn e (by rw [he]; rfl)
    · intro x y p S out S1 out1 M hf h hs hc ho hb hS hx hy hn
      have hbo := t_oB S
      rw [t_go3] at hy hn
      by_cases h38 : t_hd T n p = 38
      · rw [if_pos h38] at hy hn
        have hp := (t_hlt h38 (by decide)).1
        have eo : t_o (2 :: S) = t_o S := by
          show (if (2 : Nat) = 0 ∨ (2 : Nat) = 3 then 1 else 0) + t_o S = _
          rw [if_neg (by decide), Nat.zero_add]
        have eb : t_b (2 :: S) = t_b S := by
          show (if (2 : Nat) = 0 then 1 else 0) + t_b S = _
          rw [if_neg (by decide), Nat.zero_add]
        refine c_B2 h0 h hb (by omega) h38 (by rw [hs]; show S.length < 17; omega) (fun M1 hM1 => ?_)
        rw [hs] at hM1
        refine i0 (x + 1) 0 (p + 1) (2 :: S) out M1 (by omega) hM1 (by omega) (by omega) (by show S.length + 1 ≤ _; omega) (by omega) (fun r hr M2 x2 y2 S2 out2 k1 k2 k3 k4 => ?_) (fun e he => ?_)
        · rw [eo] at hr
          obtain ⟨q1, ⟨q2, q3, -⟩, -⟩ := g0 _ _ _ ho hr
          rw [hr] at hy hn
          have k2 : t_stl 2 S2 out2 = (S, out ++ (r.2 ++ [(7, 0, 0)])) := by
            rw [k2, ← List.append_assoc, ← t_stlC hc]
            exact if_neg (by decide)
          refine i3 x2 y2 r.1 S _ S2 out2 M2 (by omega) k1 k2 hc ho k3 hS k4 (fun r2 hr2 M3 x3 y3 S3 out3 j1 j2 j3 j4 => ?_) (fun e he => ?_)
          · exact hy (r2.1, (r.2 ++ [(7, 0, 0)]) ++ r2.2) (by show t_cat (r.2 ++ [(7, 0, 0)]) (t_go T n f 3 (t_o S) r.1) = _; rw [hr2]; rfl) M3 x3 y3 S3 out3 j1 (by rw [j2, List.append_assoc]) j3 j4
          · exact hn e (by show t_cat (r.2 ++ [(7, 0, 0)]) (t_go T n f 3 (t_o S) r.1) = _; rw [he]; rfl)
        · rw [eo] at he
          exact hn e (by rw [he]; rfl)
      · rw [if_neg h38] at hy
        exact hy (p, []) rfl M x y S1 out1 h (by rw [hs, List.append_nil]) hb hx
    · intro x y p S out S1 out1 M hf h hs hc ho hb hS hx h38 hy hn
      have hbo := t_oB S
      rw [t_go4] at hy hn
      by_cases h124 : t_hd T n p = 124
      · rw [if_pos h124] at hy hn
        have hp := (t_hlt h124 (by decide)).1
        have eo : t_o (1 :: S) = t_o S := by
          show (if (1 : Nat) = 0 ∨ (1 : Nat) = 3 then 1 else 0) + t_o S = _
          rw [if_neg (by decide), Nat.zero_add]
        have eb : t_b (1 :: S) = t_b S := by
          show (if (1 : Nat) = 0 then 1 else 0) + t_b S = _
          rw [if_neg (by decide), Nat.zero_add]
        refine c_B3 h0 h hb (by omega) h124 (by rw [hs]; show S.length < 17; omega) (fun M1 hM1 => ?_)
        rw [hs] at hM1
        refine i1 (x + 1) 0 (p + 1) (1 :: S) out M1 (by omega) hM1 (by omega) (by omega) (by show S.length + 1 ≤ _; omega) (fun z S' e => by cases e; decide) (by omega) (fun r hr M2 x2 y2 S2 out2 k1 k2 k3 k4 => ?_) (fun e he => ?_)
        · rw [eo] at hr
          obtain ⟨q1, ⟨q2, q3, -⟩, q4, -⟩ := g1 _ _ _ ho hr
          rw [hr] at hy hn
          have k2 : t_stl 1 S2 out2 = (S, out ++ (r.2 ++ [(8, 0, 0)])) := by
            rw [t_stl12, k2, ← List.append_assoc, ← t_stlC hc]
            exact if_neg (by decide)
          refine i4 x2 y2 r.1 S _ S2 out2 M2 (by omega) k1 k2 hc ho k3 hS k4 q4 (fun r2 hr2 M3 x3 y3 S3 out3 j1 j2 j3 j4 => ?_) (fun e he => ?_)
          · exact hy (r2.1, (r.2 ++ [(8, 0, 0)]) ++ r2.2) (by show t_cat (r.2 ++ [(8, 0, 0)]) (t_go T n f 4 (t_o S) r.1) = _; rw [hr2]; rfl) M3 x3 y3 S3 out3 j1 (by rw [j2, List.append_assoc]) j3 j4
          · exact hn e (by show t_cat (r.2 ++ [(8, 0, 0)]) (t_go T n f 4 (t_o S) r.1) = _; rw [he]; rfl)
        · rw [eo] at he
          exact hn e (by rw [he]; rfl)
      · rw [if_neg h124] at hy
        exact hy (p, []) rfl M x y S1 out1 h (by rw [hs, List.append_nil]) hb hx
theorem c_expr {T : Nat → Nat} {n p : Nat} {M : ap_Mem} {out : List e_Tok} {K : Int32 → ap_Mem → Prop} (h0 : t_C0 T n M) (hp : 0 < p) (hpn : p ≤ n) (h1 : M 63 1 = nI p) (h2 : M 64 5 = nI out.length) (h3 : M 64 7 = (if t_asks out = true then 1 else 0)) (h4 : t_Out M out) (h5 : out.length ≤ p) (hy : ∀ r, t_go T n 600 2 0 p = .ok r → ∀ M', t_CS n M M' r.1 [] (out ++ r.2) → K 1 M') (hn : ∀ e, t_go T n 600 2 0 p = .error e → ∀ M', t_CE M M' e → K 0 M') : w_X4_readsExpression 63 M K := by
  have hn100 := h0.1
  unfold w_X4_readsExpression
  rintro _ rfl _ rfl _ rfl
  have hs : t_CS n M (ap_mu (ap_mu (ap_mu M 63 4 0) 63 5 0) 63 6 0) p [] out := by
    refine ⟨⟨fun q a b c d => ?_, fun j a b => ?_⟩, hpn, ?_, ?_, ?_, ?_, fun j z hz => ?_, fun z hz => ?_, ?_, ?_, fun j t ht => ?_, by show 0 + out.length ≤ p; omega, by decide⟩
    · simp (disch := omega) only [ap_mu_n]
    · simp (disch := omega) only [mu_o]
    · simp (disch := omega) only [mu_o, h1]
    · simp (disch := omega) only [mu_o, mu_s]
      rfl
    · simp (disch := omega) only [mu_o, mu_s]
      rfl
    · simp (disch := omega) only [mu_s]
      rfl
    · cases hz
    · cases hz
    · simp (disch := omega) only [mu_o, h2]
    · simp (disch := omega) only [mu_o, h3]
    · simp (disch := omega) only [mu_o]
      exact h4 j t ht
  generalize ap_mu (ap_mu (ap_mu M 63 4 0) 63 5 0) 63 6 0 = M1 at hs ⊢
  have := c_enter (K := K) (x := 0) (M := M1) (by decide) ?_
  · rw [Nat.sub_zero, ← l_0] at this
    exact this
  · refine (c_goall h0 600).2.2.1 0 0 p [] out M1 (by omega) hs (Nat.le_refl _) (by decide) (by decide) (fun z S' e => by cases e) hp (fun r hr M' x' y S1 out1 k1 k2 k3 k4 => ?_) hn
    obtain ⟨q1, q2, q3, q4, -⟩ := (t_good T n 600).2.2.1 _ _ _ (by decide) hr
    refine c_B4 h0 k1 k3 (Or.inl (t_stlE (by decide) k2)) q3 q4 (fun M3 k6 => ?_)
    rw [k2] at k6 ⊢
    rw [if_pos (by rfl)]
    exact hy r hr M3 k6
