/-! town: the grammar as a function: where it fails, or where it ends and what it reads (behind its parts) -/
def t_bd {α β : Type} (x : Except Nat α) (f : α → Except Nat β) : Except Nat β := match x with
  | .error e => .error e
  | .ok r => f r
theorem t_bdOk {α β : Type} {x : Except Nat α} {f : α → Except Nat β} {r : β} (h : t_bd x f = .ok r) : ∃ a, x = .ok a ∧ f a = .ok r := by
  cases x with
  | error e => cases h
  | ok a => exact ⟨a, rfl, h⟩
def t_cat (ts : List e_Tok) (x : Except Nat (Nat × List e_Tok)) : Except Nat (Nat × List e_Tok) := t_bd x (fun r => .ok (r.1, ts ++ r.2))
theorem t_catOk {ts : List e_Tok} {x : Except Nat (Nat × List e_Tok)} {r : Nat × List e_Tok} (h : t_cat ts x = .ok r) : ∃ a, x = .ok a ∧ r = (a.1, ts ++ a.2) := by
  obtain ⟨a, h1, h2⟩ := t_bdOk h
  cases h2
  exact ⟨a, h1, rfl⟩
def t_test (T : Nat → Nat) (n p : Nat) : Except Nat (Nat × e_Tok) :=
  if t_ix 4 (t_hd T n p) < 6 then (if t_ix 5 (t_hd T n (p + 1)) < 3 then t_bd (t_num T n (p + 2)) (fun r => .ok (r.1, (t_ix 4 (t_hd T n p), t_ix 5 (t_hd T n (p + 1)), r.2))) else .error (p + 1)) else .error p
theorem t_testOk {T : Nat → Nat} {n p : Nat} {r : Nat × e_Tok} (h : t_test T n p = .ok r) : p + 2 < r.1 ∧ r.1 ≤ n ∧ r.2.1 < 6 ∧ e_tokOK r.2 := by
  unfold t_test at h
  split at h
  · split at h
    · obtain ⟨a, h1, h2⟩ := t_bdOk h
      obtain ⟨h3, h4, h5⟩ := t_numOk h1
      cases h2
      exact ⟨h3, h4, by assumption, Or.inl ⟨by assumption, by assumption, h5⟩⟩
    · cases h
  · cases h
def t_go (T : Nat → Nat) (n : Nat) : Nat → Nat → Nat → Nat → Except Nat (Nat × List e_Tok)
  | 0, _, _, p => .error p
  | f + 1, sel, o, p =>
    if sel = 0 then
      (if t_hd T n p = 33 then (if o = 5 then .error p else t_bd (t_go T n f 0 (o + 1) (p + 1)) (fun r => .ok (r.1, r.2 ++ [(6, 0, 0)])))
      else if t_hd T n p = 40 then (if o = 5 then .error p else t_bd (t_go T n f 2 (o + 1) (p + 1)) (fun r => if t_hd T n r.1 = 41 then .ok (r.1 + 1, r.2) else .error r.1))
      else t_bd (t_test T n p) (fun r => .ok (r.1, [r.2])))
    else if sel = 1 then t_bd (t_go T n f 0 o p) (fun r => t_cat r.2 (t_go T n f 3 o r.1))
    else if sel = 2 then t_bd (t_go T n f 1 o p) (fun r => t_cat r.2 (t_go T n f 4 o r.1))
    else if sel = 3 then (if t_hd T n p = 38 then t_bd (t_go T n f 0 o (p + 1)) (fun r => t_cat (r.2 ++ [(7, 0, 0)]) (t_go T n f 3 o r.1)) else .ok (p, []))
    else (if t_hd T n p = 124 then t_bd (t_go T n f 1 o (p + 1)) (fun r => t_cat (r.2 ++ [(8, 0, 0)]) (t_go T n f 4 o r.1)) else .ok (p, []))
theorem t_go0 (T : Nat → Nat) (n f o p : Nat) : t_go T n (f + 1) 0 o p = if t_hd T n p = 33 then (if o = 5 then .error p else t_bd (t_go T n f 0 (o + 1) (p + 1)) (fun r => .ok (r.1, r.2 ++ [(6, 0, 0)])))
      else if t_hd T n p = 40 then (if o = 5 then .error p else t_bd (t_go T n f 2 (o + 1) (p + 1)) (fun r => if t_hd T n r.1 = 41 then .ok (r.1 + 1, r.2) else .error r.1))
      else t_bd (t_test T n p) (fun r => .ok (r.1, [r.2])) := by
  show (if (0 : Nat) = 0 then _ else _) = _
  rw [if_pos rfl]
theorem t_go1 (T : Nat → Nat) (n f o p : Nat) : t_go T n (f + 1) 1 o p = t_bd (t_go T n f 0 o p) (fun r => t_cat r.2 (t_go T n f 3 o r.1)) := by
  show (if (1 : Nat) = 0 then _ else if (1 : Nat) = 1 then _ else _) = _
  rw [if_neg (by decide), if_pos rfl]
theorem t_go2 (T : Nat → Nat) (n f o p : Nat) : t_go T n (f + 1) 2 o p = t_bd (t_go T n f 1 o p) (fun r => t_cat r.2 (t_go T n f 4 o r.1)) := by
  show (if (2 : Nat) = 0 then _ else if (2 : Nat) = 1 then _ else if (2 : Nat) = 2 then _ else _) = _
  rw [if_neg (by decide), if_neg (by decide), if_pos rfl]
theorem t_go3 (T : Nat → Nat) (n f o p : Nat) : t_go T n (f + 1) 3 o p = if t_hd T n p = 38 then t_bd (t_go T n f 0 o (p + 1)) (fun r => t_cat (r.2 ++ [(7, 0, 0)]) (t_go T n f 3 o r.1)) else .ok (p, []) := by
  show (if (3 : Nat) = 0 then _ else if (3 : Nat) = 1 then _ else if (3 : Nat) = 2 then _ else if (3 : Nat) = 3 then _ else _) = _
  rw [if_neg (by decide), if_neg (by decide), if_neg (by decide), if_pos rfl]
theorem t_go4 (T : Nat → Nat) (n f o p : Nat) : t_go T n (f + 1) 4 o p = if t_hd T n p = 124 then t_bd (t_go T n f 1 o (p + 1)) (fun r => t_cat (r.2 ++ [(8, 0, 0)]) (t_go T n f 4 o r.1)) else .ok (p, []) := by
  show (if (4 : Nat) = 0 then _ else if (4 : Nat) = 1 then _ else if (4 : Nat) = 2 then _ else if (4 : Nat) = 3 then _ else _) = _
  rw [if_neg (by decide), if_neg (by decide), if_neg (by decide), if_neg (by decide)]
/-- what is read well: where it ends, how long it is, that its tokens are such -/
def t_G (n p : Nat) (r : Nat × List e_Tok) : Prop := r.1 ≤ n ∧ p + r.2.length ≤ r.1 ∧ ∀ t ∈ r.2, e_tokOK t
theorem t_Gcat {n p : Nat} {r r2 : Nat × List e_Tok} (h1 : t_G n p r) (h2 : t_G n r.1 r2) : t_G n p (r2.1, r.2 ++ r2.2) := by
  obtain ⟨a1, a2, a3⟩ := h1
  obtain ⟨b1, b2, b3⟩ := h2
  refine ⟨b1, by show p + (r.2 ++ r2.2).length ≤ r2.1; rw [List.length_append]; omega, fun t ht => ?_⟩
  rcases List.mem_append.mp ht with h | h
  · exact a3 t h
  · exact b3 t h
theorem t_Gadd {n p : Nat} {r : Nat × List e_Tok} {t : e_Tok} (h1 : t_G n (p + 1) r) (ht : e_tokOK t) : t_G n p (r.1, r.2 ++ [t]) := by
  obtain ⟨a1, a2, a3⟩ := h1
  refine ⟨a1, by show p + (r.2 ++ [t]).length ≤ r.1; rw [List.length_append]; show p + (r.2.length + 1) ≤ r.1; omega, fun u hu => ?_⟩
  rcases List.mem_append.mp hu with h | h
  · exact a3 u h
  · rw [List.mem_singleton.mp h]
    exact ht
def t_D (d d' : Nat) (ts : List e_Tok) : Prop := ∀ rest, e_dep rest d' → e_dep (ts ++ rest) d
theorem t_Dcat {d d1 d2 : Nat} {a b : List e_Tok} (h1 : t_D d d1 a) (h2 : t_D d1 d2 b) : t_D d d2 (a ++ b) := by
  intro rest h
  rw [List.append_assoc]
  exact h1 _ (h2 _ h)
theorem t_D1 {d : Nat} {t : e_Tok} (ht : t.1 < 6) (hd : d + 1 ≤ 13) : t_D d (d + 1) [t] := by
  intro rest h
  show if t.1 < 6 then d + 1 ≤ 13 ∧ e_dep rest (d + 1) else _
  rw [if_pos ht]
  exact ⟨hd, h⟩
theorem t_D6 {d : Nat} : t_D (d + 1) (d + 1) [(6, 0, 0)] := by
  intro rest h
  show if (6 : Nat) < 6 then _ else if (6 : Nat) = 6 then 1 ≤ d + 1 ∧ e_dep rest (d + 1) else _
  rw [if_neg (by decide), if_pos rfl]
  exact ⟨by omega, h⟩
theorem t_D7 {d k : Nat} (hk : k = 7 ∨ k = 8) : t_D (d + 2) (d + 1) [(k, 0, 0)] := by
  intro rest h
  show if k < 6 then _ else if k = 6 then _ else 2 ≤ d + 2 ∧ e_dep rest (d + 2 - 1)
  rw [if_neg (by omega), if_neg (by omega)]
  exact ⟨by omega, h⟩
theorem t_ok678 {k : Nat} (hk : 6 ≤ k ∧ k ≤ 8) : e_tokOK (k, 0, 0) := Or.inr hk
/-- the five readings, together -/
theorem t_good (T : Nat → Nat) (n : Nat) : ∀ f,
    (∀ o p r, o ≤ 5 → t_go T n f 0 o p = .ok r → p < r.1 ∧ t_G n p r ∧ ∀ d, d + 1 + 2 * (5 - o) ≤ 13 → t_D d (d + 1) r.2) ∧
    (∀ o p r, o ≤ 5 → t_go T n f 1 o p = .ok r → p < r.1 ∧ t_G n p r ∧ t_hd T n r.1 ≠ 38 ∧ ∀ d, d + 2 + 2 * (5 - o) ≤ 13 → t_D d (d + 1) r.2) ∧
    (∀ o p r, o ≤ 5 → t_go T n f 2 o p = .ok r → p < r.1 ∧ t_G n p r ∧ t_hd T n r.1 ≠ 38 ∧ t_hd T n r.1 ≠ 124 ∧ ∀ d, d + 3 + 2 * (5 - o) ≤ 13 → t_D d (d + 1) r.2) ∧
    (∀ o p r, o ≤ 5 → p ≤ n → t_go T n f 3 o p = .ok r → t_G n p r ∧ t_hd T n r.1 ≠ 38 ∧ ∀ d, d + 2 + 2 * (5 - o) ≤ 13 → t_D (d + 1) (d + 1) r.2) ∧
    (∀ o p r, o ≤ 5 → p ≤ n → t_hd T n p ≠ 38 → t_go T n f 4 o p = .ok r → t_G n p r ∧ t_hd T n r.1 ≠ 38 ∧ t_hd T n r.1 ≠ 124 ∧ ∀ d, d + 3 + 2 * (5 - o) ≤ 13 → t_D (d + 1) (d + 1) r.2) := by
  intro f
  induction f with
  | zero =>
    refine ⟨fun o p r _ h => ?_, fun o p r _ h => ?_, fun o p r _ h => ?_, fun o p r _ _ h => ?_, fun o p r _ _ _ h => ?_⟩ <;> cases h
  | succ f ih =>
    obtain ⟨i0, i1, i2, i3, i4⟩ := ih
    refine ⟨fun o p r ho h => ?_, fun o p r ho h => ?_, fun o p r ho h => ?_, fun o p r ho hp h => ?_, fun o p r ho hp hx h => ?_⟩
    · rw [t_go0] at h
      split at h
      · split at h
        · cases h
        · obtain ⟨a, h1, h2⟩ := t_bdOk h
          cases h2
          obtain ⟨g1, g2, g3⟩ := i0 _ _ _ (by omega) h1
          exact ⟨by show p < a.1; omega, t_Gadd g2 (t_ok678 (by decide)), fun d hd => t_Dcat (g3 d (by omega)) t_D6⟩
      · split at h
        · split at h
          · cases h
          · obtain ⟨a, h1, h2⟩ := t_bdOk h
            obtain ⟨g1, g2, g3, g4, g5⟩ := i2 _ _ _ (by omega) h1
            split at h2
            · rename_i h41
              cases h2
              have := (t_hlt h41 (by decide)).1
              obtain ⟨b1, b2, b3⟩ := g2
              exact ⟨by show p < a.1 + 1; omega, ⟨this, by show p + a.2.length ≤ a.1 + 1; omega, b3⟩, fun d hd => g5 d (by omega)⟩
            · cases h2
        · obtain ⟨a, h1, h2⟩ := t_bdOk h
          cases h2
          obtain ⟨g1, g2, g3, g4⟩ := t_testOk h1
          refine ⟨by show p < a.1; omega, ⟨g2, by show p + 1 ≤ a.1; omega, fun t ht => ?_⟩, fun d hd => t_D1 g3 (by omega)⟩
          rw [List.mem_singleton.mp ht]
          exact g4
    · rw [t_go1] at h
      obtain ⟨a, h1, h2⟩ := t_bdOk h
      obtain ⟨b, h3, rfl⟩ := t_catOk h2
      obtain ⟨g1, g2, g3⟩ := i0 _ _ _ ho h1
      obtain ⟨k1, k2, k3⟩ := i3 _ _ _ ho g2.1 h3
      have := k1.2.1
      exact ⟨by show p < b.1; omega, t_Gcat g2 k1, k2, fun d hd => t_Dcat (g3 d (by omega)) (k3 d (by omega))⟩
    · rw [t_go2] at h
      obtain ⟨a, h1, h2⟩ := t_bdOk h
      obtain ⟨b, h3, rfl⟩ := t_catOk h2
      obtain ⟨g1, g2, g3, g4⟩ := i1 _ _ _ ho h1
      obtain ⟨k1, k2, k3, k4⟩ := i4 _ _ _ ho g2.1 g3 h3
      have := k1.2.1
      exact ⟨by show p < b.1; omega, t_Gcat g2 k1, k2, k3, fun d hd => t_Dcat (g4 d (by omega)) (k4 d (by omega))⟩
    · rw [t_go3] at h
      split at h
      · obtain ⟨a, h1, h2⟩ := t_bdOk h
        obtain ⟨b, h3, rfl⟩ := t_catOk h2
        obtain ⟨g1, g2, g3⟩ := i0 _ _ _ ho h1
        obtain ⟨k1, k2, k3⟩ := i3 _ _ _ ho g2.1 h3
        exact ⟨t_Gcat (t_Gadd g2 (t_ok678 (by decide))) k1, k2, fun d hd => t_Dcat (t_Dcat (g3 (d + 1) (by omega)) (t_D7 (by decide))) (k3 d (by omega))⟩
      · cases h
        exact ⟨⟨hp, Nat.le_refl _, fun t ht => by cases ht⟩, by assumption, fun d hd rest h => h⟩
    · rw [t_go4] at h
      split at h
      · obtain ⟨a, h1, h2⟩ := t_bdOk h
        obtain ⟨b, h3, rfl⟩ := t_catOk h2
        obtain ⟨g1, g2, g3, g4⟩ := i1 _ _ _ ho h1
        obtain ⟨k1, k2, k3, k4⟩ := i4 _ _ _ ho g2.1 g3 h3
        exact ⟨t_Gcat (t_Gadd g2 (t_ok678 (by decide))) k1, k2, k3, fun d hd => t_Dcat (t_Dcat (g4 (d + 1) (by omega)) (t_D7 (by decide))) (k4 d (by omega))⟩
      · cases h
        exact ⟨⟨hp, Nat.le_refl _, fun t ht => by cases ht⟩, hx, by assumption, fun d hd rest h => h⟩
