/-! the town's worth: a test, an expression, a town -/
theorem e_m1 (x : Int32) : x + (-1) = x - 1 := by rw [Int32.sub_eq_add_neg]
def e_ev (t : e_Tok) (vs : Nat → Nat) : Bool := if t.2.1 = 0 then decide (vs t.1 < t.2.2) else if t.2.1 = 1 then decide (vs t.1 = t.2.2) else decide (t.2.2 < vs t.1)
def e_gs (vs : Nat → Nat) (t : e_Tok) (s : List Bool) : List Bool := if t.1 < 6 then e_ev t vs :: s else if t.1 = 6 then (match s with | b :: r => (!b) :: r | [] => []) else match s with | b :: a :: r => (if t.1 = 7 then a && b else a || b) :: r | r => r
def e_run (vs : Nat → Nat) : List e_Tok → List Bool → List Bool
  | [], s => s
  | t :: ts, s => e_run vs ts (e_gs vs t s)
def e_holds (vs : Nat → Nat) (ts : List e_Tok) : Bool := (e_run vs ts []).headD false
def e_lure1 (vs : Nat → Nat) (c : e_Cls) (x : Int32) : Int32 := if c.1 = 0 then x else if e_holds vs c.2.2 = true then (if c.1 = 1 then x + nI c.2.1 else x - nI c.2.1) else x
def e_lures (vs : Nat → Nat) : List e_Cls → Int32 → Int32
  | [], x => x
  | c :: cs, x => e_lures vs cs (e_lure1 vs c x)
def e_bi (b : Bool) : Int32 := if b = true then 1 else 0
def e_St (g : Nat → Int32) : List Bool → Prop
  | [] => True
  | b :: s => g s.length = e_bi b ∧ e_St g s
theorem e_stF {g g' : Nat → Int32} {s : List Bool} (h : e_St g s) (hg : ∀ i, i < s.length → g' i = g i) : e_St g' s := by
  induction s with
  | nil => trivial
  | cons b s ih =>
    refine ⟨by rw [hg _ (by simp)]; exact h.1, ih h.2 (fun i hi => hg i (by simp; omega))⟩
theorem m_code (a b c : Nat) (ha : a < 6) (hb : b < 3) (hc : c < 100) : nI (a + 8 * b + 32 * c) - nI (a + 8 * b + 32 * c) / 8 * 8 = nI a ∧ nI (a + 8 * b + 32 * c) / 8 - nI (a + 8 * b + 32 * c) / 8 / 4 * 4 = nI b ∧ nI (a + 8 * b + 32 * c) / 32 = nI c := by
  rw [l_8, l_4, l_32, n_rem (by omega) (by decide) (by decide), n_div (by omega) (by decide) (by decide), n_rem (by omega) (by decide) (by decide), n_div (by omega) (by decide) (by decide)]
  refine ⟨by congr 1; omega, by congr 1; omega, by congr 1; omega⟩
abbrev e_L5 : Type := Int32 → Int32 → Int32 → Int32 → Int32 → ap_Mem → Prop
theorem m_tok {kL : e_L5} {vs : Nat → Nat} {t : e_Tok} {S : List Bool} {i T : Nat} {x3 x4 x5 : Int32} {M : ap_Mem} {K : Int32 → ap_Mem → Prop} (hT : x5 + x4 = nI T) (hi : i < T) (hT2 : T ≤ 936) (hz : M 99 i = e_tokM t) (hvs : ∀ l, l < 6 → M 102 l = nI (vs l) ∧ vs l < 1000) (hok : e_tokOK t) (hd : (if t.1 < 6 then S.length + 1 ≤ 13 else if t.1 = 6 then 1 ≤ S.length else 2 ≤ S.length) ∧ S.length ≤ 13) (hS : e_St (M 103) S)
    (h : ∀ M', (∀ a, a ≠ 103 → M' a = M a) → e_St (M' 103) (e_gs vs t S) → kL x3 x4 x5 (nI (e_gs vs t S).length) (nI (i + 1)) M') : w_X9_lureOf_115_s kL 98 x3 x4 x5 (nI S.length) (nI i) M K := by
  unfold w_X9_lureOf_115_s
  rw [hT, if_neg (by rw [n_le (by omega) (by omega)]; omega)]
  refine ⟨by rw [n_vp (by omega)]; omega, ?_⟩
  rintro _ rfl
  rw [n_cl (by omega), show (98 + 1 : Nat) = 99 from rfl, hz]
  obtain ⟨a, b, c⟩ := t
  have next : ∀ s0 M', w_X9_lureOf_416 kL 98 x3 x4 x5 s0 (nI i) M' K = kL x3 x4 x5 s0 (nI (i + 1)) M' := fun s0 M' => by
    unfold w_X9_lureOf_416
    simp only [nI_1, forall_eq]
  rcases hok with ⟨h1, h2, h3⟩ | ⟨h1, h2⟩
  · simp only at h1 h2 h3
    have e1 : e_tokM (a, b, c) = nI (a + 8 * b + 32 * c) := if_pos h1
    obtain ⟨q1, q2, q3⟩ := m_code a b c h1 h2 h3
    simp only [if_pos h1] at hd
    have e2 : ∀ vv, e_gs vs (a, b, c) S = vv :: S ↔ e_ev (a, b, c) vs = vv := fun vv => by unfold e_gs; simp [h1]
    rw [e1, if_neg (by rw [l_0]; exact n_neg (by omega)), q1]
    refine ⟨by rw [n_vp (by omega)]; exact h1, ?_⟩
    rintro _ rfl
    rw [q2, q3, n_cl (by omega), (hvs a h1).1]
    rintro _ rfl _ rfl
    have fin : ∀ vv : Bool, e_ev (a, b, c) vs = vv → w_X9_lureOf_226 kL 98 x3 x4 x5 (nI S.length) (nI i) (e_bi vv) (nI S.length) M K := by
      intro vv hv
      unfold w_X9_lureOf_226
      refine ⟨by rw [n_vp (by omega)]; omega, by unfold e_bi; cases vv <;> simp [b_1, b_0], ?_⟩
      rintro _ rfl _ rfl
      rw [next, nI_1]
      rw [(e2 vv).mpr hv] at h
      rw [n_cl (by omega)]
      refine h _ (fun a ha => by simp (disch := omega) only [ap_mu_n]) ⟨by simp (disch := omega) only [mu_s], e_stF hS (fun j hj => by simp (disch := omega) only [mu_o])⟩
    have v1 := (hvs a h1).2
    rcases (by omega : b = 0 ∨ b = 1 ∨ b = 2) with rfl | rfl | rfl
    · rw [if_pos (by decide)]
      by_cases hh : vs a < c
      · rw [if_neg (by rw [n_le (by omega) (by omega)]; omega)]
        exact fin true (by simp [e_ev, hh])
      · rw [if_pos (by rw [n_le (by omega) (by omega)]; omega)]
        exact fin false (by simp [e_ev, hh])
    · rw [if_neg (by decide), if_pos (by decide)]
      by_cases hh : vs a = c
      · rw [if_pos (by rw [hh])]
        exact fin true (by simp [e_ev, hh])
      · rw [if_neg (by rw [n_eq (by omega) (by omega)]; omega)]
        exact fin false (by simp [e_ev, hh])
    · rw [if_neg (by decide), if_neg (by decide)]
      by_cases hh : c < vs a
      · rw [if_neg (by rw [n_le (by omega) (by omega)]; omega)]
        exact fin true (by simp [e_ev, hh])
      · rw [if_pos (by rw [n_le (by omega) (by omega)]; omega)]
        exact fin false (by simp [e_ev, hh])
  · rcases (by omega : a = 6 ∨ a = 7 ∨ a = 8) with rfl | rfl | rfl
    · have e1 : e_tokM (6, b, c) = -1 := rfl
      rw [e1, if_pos (by decide), if_pos rfl]
      cases S with
      | nil => simp at hd
      | cons v S =>
        have e2 : e_gs vs (6, b, c) (v :: S) = (!v) :: S := rfl
        rw [e2] at h
        simp only [List.length_cons] at h hd ⊢
        rw [l_1, n_sub (by omega), Nat.add_sub_cancel]
        refine ⟨by rw [n_vp (by omega)]; omega, ?_⟩
        rw [n_cl (by omega)]
        have fin : ∀ s0 : Int32, s0 = e_bi (!v) → w_X9_lureOf_264 kL 98 x3 x4 x5 (nI (S.length + 1)) (nI i) s0 (nI S.length) M K := by
          rintro _ rfl
          unfold w_X9_lureOf_264
          refine ⟨by rw [n_vp (by omega)]; omega, by unfold e_bi; cases v <;> simp [b_1, b_0], ?_⟩
          rintro _ rfl
          rw [next, n_cl (by omega)]
          refine h _ (fun a ha => by simp (disch := omega) only [ap_mu_n]) ⟨by simp (disch := omega) only [mu_s], e_stF hS.2 (fun j hj => by simp (disch := omega) only [mu_o])⟩
        rw [show (98 + 5 : Nat) = 103 from rfl, hS.1]
        cases v
        · rw [if_pos (by decide)]
          exact fin _ (by decide)
        · rw [if_neg (by decide)]
          exact fin _ (by decide)
    · have e1 : e_tokM (7, b, c) = -2 := rfl
      rw [e1, if_pos (by decide), if_neg (by decide), if_neg (by decide)]
      cases S with
      | nil => simp at hd
      | cons v S =>
      cases S with
      | nil => simp at hd
      | cons w S =>
        have e2 : e_gs vs (7, b, c) (v :: w :: S) = (w && v) :: S := rfl
        rw [e2] at h
        simp only [List.length_cons] at h hd ⊢
        rintro _ rfl
        rw [if_pos trivial, e_m1, l_1, n_sub (by omega), Nat.add_sub_cancel, n_sub (by omega), Nat.add_sub_cancel]
        refine ⟨by rw [n_vp (by omega)]; omega, ?_⟩
        rw [n_cl (by omega), n_cl (by omega)]
        have fin : ∀ s0 : Int32, s0 = e_bi (w && v) → w_X9_lureOf_350 kL 98 x3 x4 x5 (nI (S.length + 1)) (nI i) s0 (nI S.length) M K := by
          rintro _ rfl
          unfold w_X9_lureOf_350
          refine ⟨by rw [n_vp (by omega)]; omega, by unfold e_bi; cases v <;> cases w <;> simp [b_1, b_0], ?_⟩
          rintro _ rfl
          rw [next, n_cl (by omega)]
          refine h _ (fun a ha => by simp (disch := omega) only [ap_mu_n]) ⟨by simp (disch := omega) only [mu_s], e_stF hS.2.2 (fun j hj => by simp (disch := omega) only [mu_o])⟩
        have s1 := hS.1
        have s2 := hS.2.1
        simp only [List.length_cons] at s1
        rw [show (98 + 5 : Nat) = 103 from rfl, s1, s2]
        cases w
        · rw [if_pos (by decide)]
          exact fin _ (by cases v <;> decide)
        · rw [if_neg (by decide)]
          refine ⟨by rw [n_vp (by omega)]; omega, ?_⟩
          cases v
          · rw [if_pos (by decide)]
            exact fin _ (by decide)
          · rw [if_neg (by decide)]
            exact fin _ (by decide)
    · have e1 : e_tokM (8, b, c) = -3 := rfl
      rw [e1, if_pos (by decide), if_neg (by decide), if_neg (by decide)]
      cases S with
      | nil => simp at hd
      | cons v S =>
      cases S with
      | nil => simp at hd
      | cons w S =>
        have e2 : e_gs vs (8, b, c) (v :: w :: S) = (w || v) :: S := rfl
        rw [e2] at h
        simp only [List.length_cons] at h hd ⊢
        rintro _ rfl
        rw [if_neg (by decide), e_m1, l_1, n_sub (by omega), Nat.add_sub_cancel, n_sub (by omega), Nat.add_sub_cancel]
        refine ⟨by rw [n_vp (by omega)]; omega, ?_⟩
        rw [n_cl (by omega), n_cl (by omega)]
        have fin : ∀ s0 : Int32, s0 = e_bi (w || v) → w_X9_lureOf_350 kL 98 x3 x4 x5 (nI (S.length + 1)) (nI i) s0 (nI S.length) M K := by
          rintro _ rfl
          unfold w_X9_lureOf_350
          refine ⟨by rw [n_vp (by omega)]; omega, by unfold e_bi; cases v <;> cases w <;> simp [b_1, b_0], ?_⟩
          rintro _ rfl
          rw [next, n_cl (by omega)]
          refine h _ (fun a ha => by simp (disch := omega) only [ap_mu_n]) ⟨by simp (disch := omega) only [mu_s], e_stF hS.2.2 (fun j hj => by simp (disch := omega) only [mu_o])⟩
        have s1 := hS.1
        have s2 := hS.2.1
        simp only [List.length_cons] at s1
        rw [show (98 + 5 : Nat) = 103 from rfl, s1, s2]
        cases w
        · rw [if_pos (by decide)]
          refine ⟨by rw [n_vp (by omega)]; omega, ?_⟩
          cases v
          · rw [if_pos (by decide)]
            exact fin _ (by decide)
          · rw [if_neg (by decide)]
            exact fin _ (by decide)
        · rw [if_neg (by decide)]
          exact fin _ (by cases v <;> decide)
theorem e_depS {t : e_Tok} {ts : List e_Tok} {d : Nat} (h : e_dep (t :: ts) d) (hd : d ≤ 13) : (if t.1 < 6 then d + 1 ≤ 13 else if t.1 = 6 then 1 ≤ d else 2 ≤ d) ∧ d ≤ 13 := by
  simp only [e_dep] at h
  refine ⟨?_, hd⟩
  split
  · rename_i h1
    rw [if_pos h1] at h
    exact h.1
  · rename_i h1
    rw [if_neg h1] at h
    split
    · rename_i h2
      rw [if_pos h2] at h
      exact h.1
    · rename_i h2
      rw [if_neg h2] at h
      exact h.1
theorem e_gsl {vs : Nat → Nat} {t : e_Tok} {ts : List e_Tok} {S : List Bool} (h : e_dep (t :: ts) S.length) (hd : S.length ≤ 13) : e_dep ts (e_gs vs t S).length ∧ (e_gs vs t S).length ≤ 13 := by
  simp only [e_dep] at h
  unfold e_gs
  by_cases h1 : t.1 < 6
  · rw [if_pos h1] at h
    rw [if_pos h1]
    exact ⟨h.2, h.1⟩
  · rw [if_neg h1] at h
    rw [if_neg h1]
    by_cases h2 : t.1 = 6
    · rw [if_pos h2] at h
      rw [if_pos h2]
      cases S with
      | nil => simp at h
      | cons a S => exact ⟨h.2, hd⟩
    · rw [if_neg h2] at h
      rw [if_neg h2]
      cases S with
      | nil => simp at h
      | cons a S =>
      cases S with
      | nil => simp at h
      | cons b S => exact ⟨h.2, by simp at hd ⊢; omega⟩
theorem m_toks {vs : Nat → Nat} {T : Nat} {x3 x4 x5 : Int32} {K : Int32 → ap_Mem → Prop} (hT : x5 + x4 = nI T) (hT2 : T ≤ 936) (n : Nat) : ∀ (ts : List e_Tok) (S : List Bool) (i : Nat) (M : ap_Mem), i + ts.length ≤ T → (∀ (j : Nat) (t : e_Tok), ts[j]? = some t → M 99 (i + j) = e_tokM t) → (∀ l, l < 6 → M 102 l = nI (vs l) ∧ vs l < 1000) → (∀ t ∈ ts, e_tokOK t) → e_dep ts S.length → S.length ≤ 13 → e_St (M 103) S →
    (∀ M', (∀ a, a ≠ 103 → M' a = M a) → e_St (M' 103) (e_run vs ts S) → (e_run vs ts S).length = 1 → w_X9_lureOf_115 98 K n x3 x4 x5 (nI 1) (nI (i + ts.length)) M') → w_X9_lureOf_115 98 K (n + ts.length) x3 x4 x5 (nI S.length) (nI i) M := by
  intro ts
  induction ts with
  | nil =>
    intro S i M hi hz hvs hok hd hl hS h
    have h1 : S.length = 1 := hd
    rw [h1]
    exact h M (fun _ _ => rfl) hS h1
  | cons t ts ih =>
    intro S i M hi hz hvs hok hd hl hS h
    simp only [List.length_cons] at hi h ⊢
    show w_X9_lureOf_115_s (w_X9_lureOf_115 98 K (n + ts.length)) 98 x3 x4 x5 (nI S.length) (nI i) M K
    refine m_tok hT (by omega) hT2 (hz 0 t rfl) hvs (hok t (by simp)) (e_depS hd hl) hS (fun M1 f1 s1 => ?_)
    have hg := e_gsl (vs := vs) hd hl
    refine ih (e_gs vs t S) (i + 1) M1 (by omega) (fun j t2 hj => ?_) (fun l hl => by rw [f1 102 (by decide)]; exact hvs l hl) (fun t2 h2 => hok t2 (List.mem_cons_of_mem _ h2)) hg.1 hg.2 s1 (fun M2 f2 s2 h2 => ?_)
    · rw [f1 99 (by decide), Nat.add_assoc, Nat.add_comm 1 j]
      exact hz (j + 1) t2 hj
    · have := h M2 (fun a ha => by rw [f2 a ha, f1 a ha]) s2 h2
      rw [show i + (ts.length + 1) = i + 1 + ts.length by omega] at this
      exact this
theorem m_joint1 : ∀ n, n < 100 → ((-10 : Int32) - nI n < 0 ∧ ¬ (-10 : Int32) - nI n = -1 ∧ (-10 : Int32) - nI n ≤ -10 ∧ ¬ (-10 : Int32) - nI n ≤ -200 ∧ (-200 : Int32) < -10 - nI n ∧ (-10 : Int32) - (-10 - nI n) = nI n) ∧ ((-200 : Int32) - nI n < 0 ∧ ¬ (-200 : Int32) - nI n = -1 ∧ (-200 : Int32) - nI n ≤ -10 ∧ (-200 : Int32) - nI n ≤ -200 ∧ ¬ (-200 : Int32) < -200 - nI n ∧ (-200 : Int32) - (-200 - nI n) = nI n) := by decide +kernel
theorem m_joint {kL : e_L5} {vs : Nat → Nat} {c : e_Cls} {i T : Nat} {x3 x4 x5 : Int32} {b : Bool} {M : ap_Mem} {K : Int32 → ap_Mem → Prop} (hT : x5 + x4 = nI T) (hi : i < T) (hT2 : T ≤ 936) (hc : c.1 = 1 ∨ c.1 = 2) (hn : c.2.1 < 100) (hz : M 99 i = if c.1 = 1 then -10 - nI c.2.1 else -200 - nI c.2.1) (hb : M 103 0 = e_bi b) (hh : e_holds vs c.2.2 = b)
    (h : kL (e_lure1 vs c x3) x4 x5 (nI 0) (nI (i + 1)) M) : w_X9_lureOf_115_s kL 98 x3 x4 x5 (nI 1) (nI i) M K := by
  unfold w_X9_lureOf_115_s
  rw [hT, if_neg (by rw [n_le (by omega) (by omega)]; omega)]
  refine ⟨by rw [n_vp (by omega)]; omega, ?_⟩
  rintro _ rfl
  rw [n_cl (by omega), show (98 + 1 : Nat) = 99 from rfl, hz]
  have hj := m_joint1 c.2.1 hn
  have z0 : ∀ x : Int32, x + 0 = x := fun x => by grind
  have z1 : ∀ x : Int32, x - 0 = x := fun x => by grind
  unfold e_lure1 at h
  rw [if_neg (by omega), hh] at h
  rcases hc with h1 | h1
  · obtain ⟨⟨j1, j2, j3, j4, j5, j6⟩, -⟩ := hj
    rw [if_pos h1, if_pos j1, if_neg j2, if_pos j3]
    refine ⟨by rw [vp_in_iff]; decide, ?_⟩
    rw [k_0, show (98 + 5 : Nat) = 103 from rfl, hb]
    rintro _ rfl
    cases b
    · rw [if_pos (by decide)]
      unfold w_X9_lureOf_387 w_X9_lureOf_388
      rintro _ rfl
      rw [if_pos (by decide)]
      unfold w_X9_lureOf_413 w_X9_lureOf_414
      rintro _ rfl
      unfold w_X9_lureOf_416
      rintro _ rfl
      rw [nI_1, z0, z1]
      exact h
    · rw [if_neg (by decide), if_neg j4]
      unfold w_X9_lureOf_388
      rintro _ rfl
      rw [if_neg (by decide), if_pos j5]
      unfold w_X9_lureOf_413 w_X9_lureOf_414
      rintro _ rfl
      unfold w_X9_lureOf_416
      rintro _ rfl
      rw [nI_1, z1, j6]
      rw [if_pos rfl, if_pos h1] at h
      exact h
  · obtain ⟨-, ⟨j1, j2, j3, j4, j5, j6⟩⟩ := hj
    rw [if_neg (show ¬ c.1 = 1 by omega), if_pos j1, if_neg j2, if_pos j3]
    refine ⟨by rw [vp_in_iff]; decide, ?_⟩
    rw [k_0, show (98 + 5 : Nat) = 103 from rfl, hb]
    rintro _ rfl
    cases b
    · rw [if_pos (by decide)]
      unfold w_X9_lureOf_387 w_X9_lureOf_388
      rintro _ rfl
      rw [if_pos (by decide)]
      unfold w_X9_lureOf_413 w_X9_lureOf_414
      rintro _ rfl
      unfold w_X9_lureOf_416
      rintro _ rfl
      rw [nI_1, z0, z1]
      exact h
    · rw [if_neg (by decide), if_pos j4]
      unfold w_X9_lureOf_387 w_X9_lureOf_388
      rintro _ rfl
      rw [if_neg (by decide), if_neg j5]
      unfold w_X9_lureOf_414
      rintro _ rfl
      unfold w_X9_lureOf_416
      rintro _ rfl
      rw [nI_1, z0, j6]
      rw [if_pos rfl, if_neg (by omega)] at h
      exact h
theorem m_lures {vs : Nat → Nat} {T : Nat} {x4 x5 : Int32} {K : Int32 → ap_Mem → Prop} (hT : x5 + x4 = nI T) (hT2 : T ≤ 936) : ∀ (cs : List e_Cls) (n i : Nat) (x3 : Int32) (M : ap_Mem), i + (e_progM cs).length = T → (∀ (j : Nat) (z : Int32), (e_progM cs)[j]? = some z → M 99 (i + j) = z) → (∀ l, l < 6 → M 102 l = nI (vs l) ∧ vs l < 1000) → (∀ c ∈ cs, e_clsOK c) →
    (∀ M', (∀ a, a ≠ 103 → M' a = M a) → K (e_lures vs cs x3) M') → w_X9_lureOf_115 98 K (n + 1 + (e_progM cs).length) x3 x4 x5 (nI 0) (nI i) M := by
  intro cs
  induction cs with
  | nil =>
    intro n i x3 M hi hz hvs hok h
    have hi : i = T := hi
    show w_X9_lureOf_115_s (w_X9_lureOf_115 98 K n) 98 x3 x4 x5 (nI 0) (nI i) M K
    unfold w_X9_lureOf_115_s
    rw [hT, if_pos (by rw [n_le (by omega) (by omega)]; omega)]
    exact h M (fun _ _ => rfl)
  | cons c cs ih =>
    intro n i x3 M hi hz hvs hok h
    have ok := hok c (by simp)
    obtain ⟨o1, o2, o3, o4, o5⟩ := ok
    have ep : e_progM (c :: cs) = e_clsM c ++ e_progM cs := rfl
    rw [ep] at hi hz ⊢
    by_cases h0 : c.1 = 0
    · have ec : e_clsM c = [] := if_pos h0
      rw [ec, List.nil_append] at hi hz ⊢
      refine ih n i x3 M hi hz hvs (fun c2 h2 => hok c2 (List.mem_cons_of_mem _ h2)) (fun M1 f1 => ?_)
      have := h M1 f1
      have e : e_lures vs (c :: cs) x3 = e_lures vs cs x3 := by show e_lures vs cs (e_lure1 vs c x3) = _; rw [show e_lure1 vs c x3 = x3 from if_pos h0]
      rw [e] at this
      exact this
    · have ec : e_clsM c = c.2.2.map e_tokM ++ [if c.1 = 1 then -10 - nI c.2.1 else -200 - nI c.2.1] := if_neg h0
      rw [ec] at hi hz ⊢
      simp only [List.length_append, List.length_map, List.length_cons, List.length_nil] at hi ⊢
      rw [show n + 1 + (c.2.2.length + (0 + 1) + (e_progM cs).length) = (n + 1 + (e_progM cs).length + 1) + c.2.2.length by omega]
      refine m_toks hT hT2 _ c.2.2 [] i M (by omega) (fun j t hj => ?_) hvs o5 (o4 h0) (by simp) trivial (fun M1 f1 s1 l1 => ?_)
      · have hj2 := (List.getElem?_eq_some_iff.mp hj).1
        refine hz j (e_tokM t) ?_
        rw [List.append_assoc, List.getElem?_append_left (by simpa using hj2), List.getElem?_map, hj]
        rfl
      · show w_X9_lureOf_115_s (w_X9_lureOf_115 98 K (n + 1 + (e_progM cs).length)) 98 x3 x4 x5 (nI 1) (nI (i + c.2.2.length)) M1 K
        have hb : ∃ b, e_run vs c.2.2 [] = [b] := List.length_eq_one_iff.mp l1
        obtain ⟨b, hb⟩ := hb
        rw [hb] at s1
        refine m_joint (vs := vs) (c := c) (b := b) hT (by omega) hT2 (by omega) o2 ?_ s1.1 (by unfold e_holds; rw [hb]; rfl) ?_
        · rw [f1 99 (by decide)]
          refine hz c.2.2.length _ ?_
          rw [List.append_assoc, List.getElem?_append_right (by simp)]
          simp
        · refine ih n _ _ M1 (by omega) (fun j z hj => ?_) (fun l hl => by rw [f1 102 (by decide)]; exact hvs l hl) (fun c2 h2 => hok c2 (List.mem_cons_of_mem _ h2)) (fun M2 f2 => h M2 (fun a ha => by rw [f2 a ha, f1 a ha]))
          rw [f1 99 (by decide), show i + c.2.2.length + 1 + j = i + (c.2.2.length + 1 + j) by omega]
          refine hz _ z ?_
          rw [List.getElem?_append_right (by simp)]
          simp only [List.length_append, List.length_map, List.length_cons, List.length_nil]
          rw [show c.2.2.length + 1 + j - (c.2.2.length + (0 + 1)) = j by omega]
          exact hj
/-- what a test asks about: person, KIND, V, FAR, cell, STEP -/
def e_vs (p k v a t c : Nat) : Nat → Nat := fun l => if l = 0 then p else if l = 1 then k else if l = 2 then v else if l = 3 then e_far a c else if l = 4 then c else t % 10
theorem m_lureOf {cs : List e_Cls} {p k v a t c : Nat} {M : ap_Mem} {K : Int32 → ap_Mem → Prop} (hT : e_MTown (M 99) cs) (hok : ∀ c ∈ cs, e_clsOK c) (hp : p < 6) (hk : M 99 (38 + p) = nI k) (hk2 : k ≤ 6) (hv : M 99 (44 + p) = nI v) (hv2 : v ≤ 9) (ha : M 99 (18 + p) = nI a) (ha2 : a < 16) (ht : M 99 0 = nI t) (ht2 : t < 1000000) (hc : c < 16) (h : ∀ M', (∀ x, x ≠ 102 → x ≠ 103 → M' x = M x) → K (e_lures (e_vs p k v a t c) cs 6) M') : w_X9_lureOf 98 (nI p) (nI c) M K := by
  unfold w_X9_lureOf
  refine ⟨by rw [vp_in_iff]; decide, ?_⟩
  rintro _ rfl
  rw [l_38, l_44, l_18, nI_add, nI_add, nI_add, n_vp (by omega), n_vp (by omega), n_vp (by omega), n_cl (by omega), n_cl (by omega), n_cl (by omega)]
  refine ⟨by omega, by rw [vp_in_iff]; decide, ?_⟩
  rintro _ rfl
  refine ⟨by omega, by rw [vp_in_iff]; decide, ?_⟩
  rintro _ rfl
  refine ⟨by omega, ?_⟩
  have e99 : ∀ (M1 : ap_Mem) i x, ap_mu M1 (98 + 4) i x 99 = M1 99 := fun M1 i x => by simp (disch := omega) only [ap_mu_n]
  simp only [show (98 + 1 : Nat) = 99 from rfl, e99, hk, hv, ha]
  rw [m_far ha2 hc]
  refine ⟨by rw [vp_in_iff]; decide, ?_⟩
  rintro _ rfl
  refine ⟨by rw [vp_in_iff]; decide, ?_⟩
  rintro _ rfl
  refine ⟨by rw [vp_in_iff]; decide, by rw [vp_in_iff]; decide, ?_⟩
  rintro _ rfl
  simp only [e99, k_0, k_1, k_2, k_3, k_4, k_5, ht]
  rw [l_10, n_rem (by omega) (by decide) (by decide)]
  have hvs : ∀ l, l < 6 → (ap_mu (ap_mu (ap_mu (ap_mu (ap_mu (ap_mu M (98 + 4) 0 (nI p)) (98 + 4) 1 (nI k)) (98 + 4) 2 (nI v)) (98 + 4) 3 (nI (e_far a c))) (98 + 4) 4 (nI c)) (98 + 4) 5 (nI (t % 10))) 102 l = nI (e_vs p k v a t c l) ∧ e_vs p k v a t c l < 1000 := by
    intro l hl
    have := e_far_le ha2 hc
    rcases (by omega : l = 0 ∨ l = 1 ∨ l = 2 ∨ l = 3 ∨ l = 4 ∨ l = 5) with rfl | rfl | rfl | rfl | rfl | rfl
    · exact ⟨rfl, by show p < 1000; omega⟩
    · exact ⟨rfl, by show k < 1000; omega⟩
    · exact ⟨rfl, by show v < 1000; omega⟩
    · exact ⟨rfl, by show e_far a c < 1000; omega⟩
    · exact ⟨rfl, by show c < 1000; omega⟩
    · exact ⟨rfl, by show t % 10 < 1000; omega⟩
  have fr : ∀ x, x ≠ 102 → (ap_mu (ap_mu (ap_mu (ap_mu (ap_mu (ap_mu M (98 + 4) 0 (nI p)) (98 + 4) 1 (nI k)) (98 + 4) 2 (nI v)) (98 + 4) 3 (nI (e_far a c))) (98 + 4) 4 (nI c)) (98 + 4) 5 (nI (t % 10))) x = M x := fun x hx => by simp (disch := omega) only [ap_mu_n]
  generalize (ap_mu (ap_mu (ap_mu (ap_mu (ap_mu (ap_mu M (98 + 4) 0 (nI p)) (98 + 4) 1 (nI k)) (98 + 4) 2 (nI v)) (98 + 4) 3 (nI (e_far a c))) (98 + 4) 4 (nI c)) (98 + 4) 5 (nI (t % 10))) = M0 at hvs fr ⊢
  have f99 := fr 99 (by decide)
  unfold w_X9_tellsOf
  simp only [v_37, k_37, true_and, show (98 + 1 : Nat) = 99 from rfl, f99]
  rcases hT with ⟨h37, hcs⟩ | ⟨r, r1, r2, r3, r4, r5, r6⟩
  · rw [h37, if_pos rfl]
    subst hcs
    rintro _ rfl
    have e : (236 : Int32) + 140 * -1 = nI 96 := by decide
    rw [e]
    exact m_lures (T := 96) (cs := []) (by rw [l_0, nI_add]) (by decide) 4095 96 6 M0 rfl (fun j z hj => nomatch hj) hvs (fun _ hc => nomatch hc) (fun M1 f1 => h M1 (fun x h1 h2 => by rw [f1 x h2, fr x h1]))
  · rw [r2, if_neg (n_m1 (by omega)), l_231, nI_add, n_vp (by omega), n_cl (by omega), r4]
    refine ⟨by omega, ?_⟩
    rintro _ rfl
    rw [l_140, l_236, pk_mul, nI_add]
    have := m_lures (vs := e_vs p k v a t c) (T := 236 + 140 * r + (e_progM cs).length) (cs := cs) (K := K) (x4 := nI (e_progM cs).length) (x5 := nI (236 + 140 * r)) (by rw [nI_add]) (by omega) (4095 - (e_progM cs).length) (236 + 140 * r) 6 M0 rfl (fun j z hj => by rw [f99]; exact r6 j z hj) hvs hok (fun M1 f1 => h M1 (fun x h1 h2 => by rw [f1 x h2, fr x h1]))
    rw [show 4095 - (e_progM cs).length + 1 + (e_progM cs).length = 4096 by omega] at this
    exact this
