/-! towns as data: a test or a joint is (letter, how, number); 6 not, 7 both, 8 either; a clause is (word, n, its expression behind its parts) -/
abbrev e_Tok : Type := Nat × Nat × Nat
abbrev e_Cls : Type := Nat × Nat × List e_Tok
def e_tokM (t : e_Tok) : Int32 := if t.1 < 6 then nI (t.1 + 8 * t.2.1 + 32 * t.2.2) else if t.1 = 6 then -1 else if t.1 = 7 then -2 else -3
def e_lo (t : e_Tok) : Nat := if t.2.1 = 1 then t.2.2 else if t.2.1 = 2 then t.2.2 + 1 else if t.2.2 = 0 then 1 else 0
def e_hi (t : e_Tok) : Nat := if t.2.1 = 1 then t.2.2 else if t.2.1 = 2 then 127 else t.2.2 - 1
def e_tokC (t : e_Tok) : Int32 := if t.1 < 6 then nI ((t.1 * 128 + e_lo t) * 128 + e_hi t) else if t.1 = 6 then -3 else if t.1 = 7 then -2 else -1
def e_tokOK (t : e_Tok) : Prop := (t.1 < 6 ∧ t.2.1 < 3 ∧ t.2.2 < 100) ∨ (6 ≤ t.1 ∧ t.1 ≤ 8)
def e_dep : List e_Tok → Nat → Prop
  | [], d => d = 1
  | t :: ts, d => if t.1 < 6 then d + 1 ≤ 13 ∧ e_dep ts (d + 1) else if t.1 = 6 then 1 ≤ d ∧ e_dep ts d else 2 ≤ d ∧ e_dep ts (d - 1)
def e_clsM (c : e_Cls) : List Int32 := if c.1 = 0 then [] else c.2.2.map e_tokM ++ [if c.1 = 1 then -10 - nI c.2.1 else -200 - nI c.2.1]
def e_progM (cs : List e_Cls) : List Int32 := cs.flatMap e_clsM
def e_progC (cs : List e_Cls) : List Int32 := cs.flatMap (fun c => c.2.2.map e_tokC)
def e_bored (cs : List e_Cls) : Nat := cs.foldl (fun b c => if c.1 = 0 then c.2.1 else b) 2
def e_asks (cs : List e_Cls) : Bool := cs.any (fun c => c.2.2.any (fun t => t.1 == 5))
def e_clsOK (c : e_Cls) : Prop := c.1 ≤ 2 ∧ c.2.1 < 100 ∧ (c.1 = 0 → c.2.2 = []) ∧ (c.1 ≠ 0 → e_dep c.2.2 0) ∧ ∀ t ∈ c.2.2, e_tokOK t
/-- the class's town at q tells the clauses cs -/
def e_CTown (M : ap_Mem) (q : Nat) (cs : List e_Cls) : Prop :=
  cs.length ≤ 10 ∧ (e_progC cs).length ≤ 100 ∧ (∀ c ∈ cs, e_clsOK c) ∧ M q 4 = nI cs.length ∧ M q 5 = nI (e_progC cs).length ∧
  (∀ (i : Nat) (c : e_Cls), cs[i]? = some c → M (q + 1) i = nI c.1 ∧ M (q + 2) i = nI c.2.1 ∧ M (q + 3) i = nI (e_progC (cs.take i)).length) ∧
  (∀ (j : Nat) (z : Int32), (e_progC cs)[j]? = some z → M (q + 4) j = z) ∧ M q 6 = nI (e_bored cs) ∧ M q 7 = (if e_asks cs = true then 1 else 0)
/-- the reference's rows tell them -/
def e_MTown (f : Nat → Int32) (cs : List e_Cls) : Prop :=
  (f 37 = -1 ∧ cs = []) ∨ ∃ h, h < 5 ∧ f 37 = nI h ∧ f (226 + h) = nI (e_bored cs) ∧ f (231 + h) = nI (e_progM cs).length ∧ (e_progM cs).length ≤ 140 ∧ ∀ (j : Nat) (z : Int32), (e_progM cs)[j]? = some z → f (236 + 140 * h + j) = z
def e_RTown (M : ap_Mem) (b : Nat) (f : Nat → Int32) : Prop := (∃ n, n ≤ 5 ∧ f 31 = nI n ∧ M b 2 = nI n ∧ ∀ h, h < 5 → f 37 = nI h → h < n) ∧ ∃ cs, e_CTown M (b + 4) cs ∧ e_MTown f cs
def e_RTape (M : ap_Mem) (b : Nat) (f : Nat → Int32) : Prop := ∃ n, n ≤ 100 ∧ f 36 = nI n ∧ M (b + 1) 2 = nI n ∧ ∀ i, i < n → ∃ c, c < 128 ∧ f (126 + i) = nI c ∧ M (b + 2) i = nI c
/-- the persons at fo, n of them, A: who is away, as bits -/
def e_Folk (M : ap_Mem) (fo : Nat) (f : Nat → Int32) (n A : Nat) : Prop :=
  n ≤ 6 ∧ A < 64 ∧ f 30 = nI n ∧ M fo 5 = nI n ∧ M fo 4 = nI A ∧
  (∀ p, p < n → (∃ k, k ≤ 6 ∧ f (38 + p) = nI k ∧ M (fo + 1) p = nI k) ∧ (∃ v, v ≤ 9 ∧ f (44 + p) = nI v ∧ M (fo + 2) p = nI v) ∧ (∃ c, c < 16 ∧ f (18 + p) = nI c ∧ M (fo + 3) p = nI c) ∧ f (24 + p) = nI (A / 2 ^ p % 2)) ∧
  ∀ j, j < 4 * n → M (fo + 4) j = f (50 + j)
def e_RFolk (M : ap_Mem) (b : Nat) (f : Nat → Int32) : Prop := ∃ n A, e_Folk M (b + 12) f n A
/-- the carpet at ca -/
def e_Carp (M : ap_Mem) (ca : Nat) (f : Nat → Int32) (c t mt ml : Nat) : Prop :=
  c < 16 ∧ t ≤ mt ∧ f 1 = nI c ∧ M ca 1 = nI c ∧ f 0 = nI t ∧ M ca 2 = nI t ∧ ∀ i, i < 16 → ∃ k, k ≤ ml ∧ f (2 + i) = nI k ∧ M (ca + 1) i = nI k
def e_RCarp (M : ap_Mem) (b : Nat) (f : Nat → Int32) : Prop := ∃ c t, e_Carp M (b + 17) f c t 9999 99
def e_RWalk (M : ap_Mem) (b : Nat) (f : Nat → Int32) : Prop := ∃ n, n ≤ 10 ∧ f 32 = nI n ∧ M (b + 19) 2 = nI n ∧ ∀ i, i < n → ∃ c, c < 16 ∧ f (74 + i) = nI c ∧ M (b + 20) i = nI c
def e_RSeen (M : ap_Mem) (b : Nat) (f : Nat → Int32) : Prop := ∃ n, n ≤ 5 ∧ f 33 = nI n ∧ M (b + 22) 2 = nI n ∧ ∀ i, i < n → (∃ c, c < 16 ∧ f (84 + i) = nI c ∧ M (b + 23) i = nI c) ∧ ∃ k, k ≤ 20 ∧ f (89 + i) = nI k ∧ M (b + 24) i = nI k
def e_RPlan (M : ap_Mem) (b : Nat) (f : Nat → Int32) : Prop := ∃ n, n ≤ 8 ∧ f 34 = nI n ∧ M (b + 25) 2 = nI n ∧ ∀ i, i < n → M (b + 26) i = f (94 + i) ∧ M (b + 27) i = f (102 + i) ∧ (f (94 + i) = nI 0 ∨ (f (94 + i) = nI 1 ∧ ∃ p, p < 6 ∧ f (102 + i) = nI p) ∨ (f (94 + i) = nI 2 ∧ ∃ p, p < 6 ∧ f (102 + i) = nI p) ∨ (f (94 + i) = nI 3 ∧ ∃ c, c < 16 ∧ f (102 + i) = nI c))
def e_RBook (M : ap_Mem) (b : Nat) (f : Nat → Int32) : Prop := ∃ n, n ≤ 8 ∧ f 35 = nI n ∧ M (b + 28) 2 = nI n ∧ ∀ i, i < n → (∃ c, c < 16 ∧ f (110 + i) = nI c ∧ M (b + 29) i = nI c) ∧ f (118 + i) = M (b + 30) i
def e_R (M : ap_Mem) (b : Nat) (f : Nat → Int32) : Prop := e_RTape M b f ∧ e_RTown M b f ∧ e_RFolk M b f ∧ e_RCarp M b f ∧ e_RWalk M b f ∧ e_RSeen M b f ∧ e_RPlan M b f ∧ e_RBook M b f
def e_Acts (M : ap_Mem) : Prop := ∃ r, r ≤ 60 ∧ M 98 13 = nI r ∧ M 96 1 = nI r ∧ ∀ i, i < r → i < 20 → M 104 i = M 97 i
def e_Inv (M : ap_Mem) : Prop := e_R M 1 (M 99) ∧ ((M 98 4 = 0 ∧ M 0 2 = 0) ∨ (M 98 4 = 1 ∧ M 0 2 = 1 ∧ e_R M 32 (M 100))) ∧ e_Acts M
/-! what doesn't touch a part leaves it -/
theorem e_fTape {M M' : ap_Mem} {b : Nat} {f f' : Nat → Int32} (h : e_RTape M b f) (hM : ∀ a, (b < a ∧ a < b + 4) → M' a = M a) (hf : ∀ j, (j = 36 ∨ (126 ≤ j ∧ j < 226)) → f' j = f j) : e_RTape M' b f' := by
  obtain ⟨n, h1, h2, h3, h4⟩ := h
  refine ⟨n, h1, by rw [hf _ (by omega), h2], by rw [hM _ (by omega), h3], fun i hi => ?_⟩
  rw [hf _ (by omega), hM _ (by omega)]
  exact h4 i hi
theorem e_fCTown {M M' : ap_Mem} {q : Nat} {cs : List e_Cls} (h : e_CTown M q cs) (hM : ∀ a, (q ≤ a ∧ a ≤ q + 4) → M' a = M a) : e_CTown M' q cs := by
  unfold e_CTown at h ⊢
  rw [hM q (by omega), hM (q + 1) (by omega), hM (q + 2) (by omega), hM (q + 3) (by omega), hM (q + 4) (by omega)]
  exact h
theorem e_fMTown {f f' : Nat → Int32} {cs : List e_Cls} (h : e_MTown f cs) (hf : ∀ j, (j = 37 ∨ (226 ≤ j ∧ j < 936)) → f' j = f j) : e_MTown f' cs := by
  rcases h with h | ⟨k, h1, h2, h3, h4, h5, h6⟩
  · exact Or.inl (by rw [hf _ (by omega)]; exact h)
  · refine Or.inr ⟨k, h1, by rw [hf _ (by omega), h2], by rw [hf _ (by omega), h3], by rw [hf _ (by omega), h4], h5, fun j z hz => ?_⟩
    have := (List.getElem?_eq_some_iff.mp hz).1
    rw [hf _ (by omega)]
    exact h6 j z hz
theorem e_fTown {M M' : ap_Mem} {b : Nat} {f f' : Nat → Int32} (h : e_RTown M b f) (hM : ∀ a, (a = b ∨ (b + 4 ≤ a ∧ a ≤ b + 8)) → M' a = M a) (hf : ∀ j, (j = 31 ∨ j = 37 ∨ (226 ≤ j ∧ j < 936)) → f' j = f j) : e_RTown M' b f' := by
  obtain ⟨⟨n, h1, h2, h3, h4⟩, cs, h5, h6⟩ := h
  refine ⟨⟨n, h1, by rw [hf _ (by omega), h2], by rw [hM _ (by omega), h3], fun k hk e => h4 k hk (by rw [← hf _ (by omega)]; exact e)⟩, cs, e_fCTown h5 (fun a ha => hM a (by omega)), e_fMTown h6 (fun j hj => hf j (by omega))⟩
theorem e_fFolk1 {M M' : ap_Mem} {fo n A : Nat} {f f' : Nat → Int32} (h : e_Folk M fo f n A) (hM : ∀ a, (fo ≤ a ∧ a ≤ fo + 4) → M' a = M a) (hf : ∀ j, ((18 ≤ j ∧ j ≤ 30) ∨ (38 ≤ j ∧ j < 74)) → f' j = f j) : e_Folk M' fo f' n A := by
  obtain ⟨h1, h2, h3, h4, h5, h6, h7⟩ := h
  refine ⟨h1, h2, by rw [hf _ (by omega), h3], by rw [hM _ (by omega), h4], by rw [hM _ (by omega), h5], fun p hp => ?_, fun j hj => ?_⟩
  · rw [hf _ (by omega), hf _ (by omega), hf _ (by omega), hf _ (by omega), hM _ (by omega), hM _ (by omega), hM _ (by omega)]
    exact h6 p hp
  · rw [hf _ (by omega), hM _ (by omega)]
    exact h7 j hj
theorem e_fFolk {M M' : ap_Mem} {b : Nat} {f f' : Nat → Int32} (h : e_RFolk M b f) (hM : ∀ a, (b + 12 ≤ a ∧ a ≤ b + 16) → M' a = M a) (hf : ∀ j, ((18 ≤ j ∧ j ≤ 30) ∨ (38 ≤ j ∧ j < 74)) → f' j = f j) : e_RFolk M' b f' := by
  obtain ⟨n, A, h⟩ := h
  exact ⟨n, A, e_fFolk1 h (fun a ha => hM a (by omega)) hf⟩
theorem e_fCarp1 {M M' : ap_Mem} {ca c t mt ml : Nat} {f f' : Nat → Int32} (h : e_Carp M ca f c t mt ml) (hM : ∀ a, (a = ca ∨ a = ca + 1) → M' a = M a) (hf : ∀ j, j < 18 → f' j = f j) : e_Carp M' ca f' c t mt ml := by
  obtain ⟨h1, h2, h3, h4, h5, h6, h7⟩ := h
  refine ⟨h1, h2, by rw [hf _ (by omega), h3], by rw [hM _ (by omega), h4], by rw [hf _ (by omega), h5], by rw [hM _ (by omega), h6], fun i hi => ?_⟩
  rw [hf _ (by omega), hM _ (by omega)]
  exact h7 i hi
theorem e_fCarp {M M' : ap_Mem} {b : Nat} {f f' : Nat → Int32} (h : e_RCarp M b f) (hM : ∀ a, (a = b + 17 ∨ a = b + 18) → M' a = M a) (hf : ∀ j, j < 18 → f' j = f j) : e_RCarp M' b f' := by
  obtain ⟨c, t, h⟩ := h
  exact ⟨c, t, e_fCarp1 h (fun a ha => hM a (by omega)) hf⟩
theorem e_fWalk {M M' : ap_Mem} {b : Nat} {f f' : Nat → Int32} (h : e_RWalk M b f) (hM : ∀ a, (b + 19 ≤ a ∧ a ≤ b + 21) → M' a = M a) (hf : ∀ j, (j = 32 ∨ (74 ≤ j ∧ j < 84)) → f' j = f j) : e_RWalk M' b f' := by
  obtain ⟨n, h1, h2, h3, h4⟩ := h
  refine ⟨n, h1, by rw [hf _ (by omega), h2], by rw [hM _ (by omega), h3], fun i hi => ?_⟩
  rw [hf _ (by omega), hM _ (by omega)]
  exact h4 i hi
theorem e_fSeen {M M' : ap_Mem} {b : Nat} {f f' : Nat → Int32} (h : e_RSeen M b f) (hM : ∀ a, (b + 22 ≤ a ∧ a ≤ b + 24) → M' a = M a) (hf : ∀ j, (j = 33 ∨ (84 ≤ j ∧ j < 94)) → f' j = f j) : e_RSeen M' b f' := by
  obtain ⟨n, h1, h2, h3, h4⟩ := h
  refine ⟨n, h1, by rw [hf _ (by omega), h2], by rw [hM _ (by omega), h3], fun i hi => ?_⟩
  rw [hf _ (by omega), hM _ (by omega), hf _ (by omega), hM _ (by omega)]
  exact h4 i hi
theorem e_fPlan {M M' : ap_Mem} {b : Nat} {f f' : Nat → Int32} (h : e_RPlan M b f) (hM : ∀ a, (b + 25 ≤ a ∧ a ≤ b + 27) → M' a = M a) (hf : ∀ j, (j = 34 ∨ (94 ≤ j ∧ j < 110)) → f' j = f j) : e_RPlan M' b f' := by
  obtain ⟨n, h1, h2, h3, h4⟩ := h
  refine ⟨n, h1, by rw [hf _ (by omega), h2], by rw [hM _ (by omega), h3], fun i hi => ?_⟩
  rw [hf (94 + i) (by omega), hM _ (by omega), hf (102 + i) (by omega), hM _ (by omega)]
  exact h4 i hi
theorem e_fBook {M M' : ap_Mem} {b : Nat} {f f' : Nat → Int32} (h : e_RBook M b f) (hM : ∀ a, (b + 28 ≤ a ∧ a ≤ b + 30) → M' a = M a) (hf : ∀ j, (j = 35 ∨ (110 ≤ j ∧ j < 126)) → f' j = f j) : e_RBook M' b f' := by
  obtain ⟨n, h1, h2, h3, h4⟩ := h
  refine ⟨n, h1, by rw [hf _ (by omega), h2], by rw [hM _ (by omega), h3], fun i hi => ?_⟩
  rw [hf _ (by omega), hM _ (by omega), hf _ (by omega), hM _ (by omega)]
  exact h4 i hi
theorem e_fR {M M' : ap_Mem} {b : Nat} {f f' : Nat → Int32} (h : e_R M b f) (hM : ∀ a, (b ≤ a ∧ a < b + 31) → M' a = M a) (hf : ∀ j, j < 936 → f' j = f j) : e_R M' b f' := by
  obtain ⟨h1, h2, h3, h4, h5, h6, h7, h8⟩ := h
  exact ⟨e_fTape h1 (fun a ha => hM a (by omega)) (fun j hj => hf j (by omega)), e_fTown h2 (fun a ha => hM a (by omega)) (fun j hj => hf j (by omega)), e_fFolk h3 (fun a ha => hM a (by omega)) (fun j hj => hf j (by omega)), e_fCarp h4 (fun a ha => hM a (by omega)) (fun j hj => hf j (by omega)), e_fWalk h5 (fun a ha => hM a (by omega)) (fun j hj => hf j (by omega)), e_fSeen h6 (fun a ha => hM a (by omega)) (fun j hj => hf j (by omega)), e_fPlan h7 (fun a ha => hM a (by omega)) (fun j hj => hf j (by omega)), e_fBook h8 (fun a ha => hM a (by omega)) (fun j hj => hf j (by omega))⟩
/-- the two sides' own cells beside the scene stay -/
theorem e_set {M M' : ap_Mem} (h : e_Inv M) (hM : ∀ a, (a = 0 ∨ (32 ≤ a ∧ a < 63) ∨ (96 ≤ a ∧ a ≤ 98) ∨ a = 100 ∨ a = 104) → M' a = M a) (hR : e_R M' 1 (M' 99)) : e_Inv M' := by
  obtain ⟨h1, h2, r, h3, h4, h5, h6⟩ := h
  refine ⟨hR, ?_, r, h3, by rw [hM _ (by omega), h4], by rw [hM _ (by omega), h5], fun i hi hj => by rw [hM _ (by omega), hM _ (by omega)]; exact h6 i hi hj⟩
  rw [hM 98 (by omega), hM 0 (by omega), hM 100 (by omega)]
  rcases h2 with h2 | ⟨h2, h7, h8⟩
  · exact Or.inl h2
  · exact Or.inr ⟨h2, h7, e_fR h8 (fun a ha => hM a (by omega)) (fun _ _ => rfl)⟩
/-- nothing that counts has changed -/
theorem e_same {M M' : ap_Mem} (h : e_Inv M) (hM : ∀ a, (a < 63 ∨ (96 ≤ a ∧ a ≤ 100) ∨ a = 104) → M' a = M a) : e_Inv M' :=
  e_set h (fun a ha => hM a (by omega)) (by rw [hM 99 (by omega)]; exact e_fR h.1 (fun a ha => hM a (by omega)) (fun _ _ => rfl))
def e_Pair (wx wm : ap_Mem → (Int32 → ap_Mem → Prop) → Prop) : Prop := ∀ M, e_Inv M → wx M (fun r1 M1 => wm M1 (fun r2 M2 => r1 = r2 ∧ e_Inv M2))
def e_PairL (wx wm : ap_Mem → (Int64 → ap_Mem → Prop) → Prop) : Prop := ∀ M, e_Inv M → wx M (fun r1 M1 => wm M1 (fun r2 M2 => r1 = r2 ∧ e_Inv M2))
theorem e_uTape {M M' : ap_Mem} {b : Nat} {f f' : Nat → Int32} (h : e_R M b f) (hM : ∀ a, (b ≤ a ∧ a < b + 31) → ¬ (b < a ∧ a < b + 4) → M' a = M a) (hf : ∀ j, j < 936 → ¬ (j = 36 ∨ (126 ≤ j ∧ j < 226)) → f' j = f j) (hx : e_RTape M' b f') : e_R M' b f' := by
  obtain ⟨h0, h1, h2, h3, h4, h5, h6, h7⟩ := h
  exact ⟨hx, e_fTown h1 (fun a ha => hM a (by omega) (by omega)) (fun j hj => hf j (by omega) (by omega)), e_fFolk h2 (fun a ha => hM a (by omega) (by omega)) (fun j hj => hf j (by omega) (by omega)), e_fCarp h3 (fun a ha => hM a (by omega) (by omega)) (fun j hj => hf j (by omega) (by omega)), e_fWalk h4 (fun a ha => hM a (by omega) (by omega)) (fun j hj => hf j (by omega) (by omega)), e_fSeen h5 (fun a ha => hM a (by omega) (by omega)) (fun j hj => hf j (by omega) (by omega)), e_fPlan h6 (fun a ha => hM a (by omega) (by omega)) (fun j hj => hf j (by omega) (by omega)), e_fBook h7 (fun a ha => hM a (by omega) (by omega)) (fun j hj => hf j (by omega) (by omega))⟩
theorem e_uTown {M M' : ap_Mem} {b : Nat} {f f' : Nat → Int32} (h : e_R M b f) (hM : ∀ a, (b ≤ a ∧ a < b + 31) → ¬ (a = b ∨ (b + 4 ≤ a ∧ a ≤ b + 11)) → M' a = M a) (hf : ∀ j, j < 936 → ¬ (j = 31 ∨ j = 37 ∨ (226 ≤ j ∧ j < 936)) → f' j = f j) (hx : e_RTown M' b f') : e_R M' b f' := by
  obtain ⟨h0, h1, h2, h3, h4, h5, h6, h7⟩ := h
  exact ⟨e_fTape h0 (fun a ha => hM a (by omega) (by omega)) (fun j hj => hf j (by omega) (by omega)), hx, e_fFolk h2 (fun a ha => hM a (by omega) (by omega)) (fun j hj => hf j (by omega) (by omega)), e_fCarp h3 (fun a ha => hM a (by omega) (by omega)) (fun j hj => hf j (by omega) (by omega)), e_fWalk h4 (fun a ha => hM a (by omega) (by omega)) (fun j hj => hf j (by omega) (by omega)), e_fSeen h5 (fun a ha => hM a (by omega) (by omega)) (fun j hj => hf j (by omega) (by omega)), e_fPlan h6 (fun a ha => hM a (by omega) (by omega)) (fun j hj => hf j (by omega) (by omega)), e_fBook h7 (fun a ha => hM a (by omega) (by omega)) (fun j hj => hf j (by omega) (by omega))⟩
theorem e_uFolk {M M' : ap_Mem} {b : Nat} {f f' : Nat → Int32} (h : e_R M b f) (hM : ∀ a, (b ≤ a ∧ a < b + 31) → ¬ (b + 12 ≤ a ∧ a ≤ b + 16) → M' a = M a) (hf : ∀ j, j < 936 → ¬ ((18 ≤ j ∧ j ≤ 30) ∨ (38 ≤ j ∧ j < 74)) → f' j = f j) (hx : e_RFolk M' b f') : e_R M' b f' := by
  obtain ⟨h0, h1, h2, h3, h4, h5, h6, h7⟩ := h
  exact ⟨e_fTape h0 (fun a ha => hM a (by omega) (by omega)) (fun j hj => hf j (by omega) (by omega)), e_fTown h1 (fun a ha => hM a (by omega) (by omega)) (fun j hj => hf j (by omega) (by omega)), hx, e_fCarp h3 (fun a ha => hM a (by omega) (by omega)) (fun j hj => hf j (by omega) (by omega)), e_fWalk h4 (fun a ha => hM a (by omega) (by omega)) (fun j hj => hf j (by omega) (by omega)), e_fSeen h5 (fun a ha => hM a (by omega) (by omega)) (fun j hj => hf j (by omega) (by omega)), e_fPlan h6 (fun a ha => hM a (by omega) (by omega)) (fun j hj => hf j (by omega) (by omega)), e_fBook h7 (fun a ha => hM a (by omega) (by omega)) (fun j hj => hf j (by omega) (by omega))⟩
theorem e_uCarp {M M' : ap_Mem} {b : Nat} {f f' : Nat → Int32} (h : e_R M b f) (hM : ∀ a, (b ≤ a ∧ a < b + 31) → ¬ (a = b + 17 ∨ a = b + 18) → M' a = M a) (hf : ∀ j, j < 936 → ¬ (j < 18) → f' j = f j) (hx : e_RCarp M' b f') : e_R M' b f' := by
  obtain ⟨h0, h1, h2, h3, h4, h5, h6, h7⟩ := h
  exact ⟨e_fTape h0 (fun a ha => hM a (by omega) (by omega)) (fun j hj => hf j (by omega) (by omega)), e_fTown h1 (fun a ha => hM a (by omega) (by omega)) (fun j hj => hf j (by omega) (by omega)), e_fFolk h2 (fun a ha => hM a (by omega) (by omega)) (fun j hj => hf j (by omega) (by omega)), hx, e_fWalk h4 (fun a ha => hM a (by omega) (by omega)) (fun j hj => hf j (by omega) (by omega)), e_fSeen h5 (fun a ha => hM a (by omega) (by omega)) (fun j hj => hf j (by omega) (by omega)), e_fPlan h6 (fun a ha => hM a (by omega) (by omega)) (fun j hj => hf j (by omega) (by omega)), e_fBook h7 (fun a ha => hM a (by omega) (by omega)) (fun j hj => hf j (by omega) (by omega))⟩
theorem e_uWalk {M M' : ap_Mem} {b : Nat} {f f' : Nat → Int32} (h : e_R M b f) (hM : ∀ a, (b ≤ a ∧ a < b + 31) → ¬ (b + 19 ≤ a ∧ a ≤ b + 21) → M' a = M a) (hf : ∀ j, j < 936 → ¬ (j = 32 ∨ (74 ≤ j ∧ j < 84)) → f' j = f j) (hx : e_RWalk M' b f') : e_R M' b f' := by
  obtain ⟨h0, h1, h2, h3, h4, h5, h6, h7⟩ := h
  exact ⟨e_fTape h0 (fun a ha => hM a (by omega) (by omega)) (fun j hj => hf j (by omega) (by omega)), e_fTown h1 (fun a ha => hM a (by omega) (by omega)) (fun j hj => hf j (by omega) (by omega)), e_fFolk h2 (fun a ha => hM a (by omega) (by omega)) (fun j hj => hf j (by omega) (by omega)), e_fCarp h3 (fun a ha => hM a (by omega) (by omega)) (fun j hj => hf j (by omega) (by omega)), hx, e_fSeen h5 (fun a ha => hM a (by omega) (by omega)) (fun j hj => hf j (by omega) (by omega)), e_fPlan h6 (fun a ha => hM a (by omega) (by omega)) (fun j hj => hf j (by omega) (by omega)), e_fBook h7 (fun a ha => hM a (by omega) (by omega)) (fun j hj => hf j (by omega) (by omega))⟩
theorem e_uSeen {M M' : ap_Mem} {b : Nat} {f f' : Nat → Int32} (h : e_R M b f) (hM : ∀ a, (b ≤ a ∧ a < b + 31) → ¬ (b + 22 ≤ a ∧ a ≤ b + 24) → M' a = M a) (hf : ∀ j, j < 936 → ¬ (j = 33 ∨ (84 ≤ j ∧ j < 94)) → f' j = f j) (hx : e_RSeen M' b f') : e_R M' b f' := by
  obtain ⟨h0, h1, h2, h3, h4, h5, h6, h7⟩ := h
  exact ⟨e_fTape h0 (fun a ha => hM a (by omega) (by omega)) (fun j hj => hf j (by omega) (by omega)), e_fTown h1 (fun a ha => hM a (by omega) (by omega)) (fun j hj => hf j (by omega) (by omega)), e_fFolk h2 (fun a ha => hM a (by omega) (by omega)) (fun j hj => hf j (by omega) (by omega)), e_fCarp h3 (fun a ha => hM a (by omega) (by omega)) (fun j hj => hf j (by omega) (by omega)), e_fWalk h4 (fun a ha => hM a (by omega) (by omega)) (fun j hj => hf j (by omega) (by omega)), hx, e_fPlan h6 (fun a ha => hM a (by omega) (by omega)) (fun j hj => hf j (by omega) (by omega)), e_fBook h7 (fun a ha => hM a (by omega) (by omega)) (fun j hj => hf j (by omega) (by omega))⟩
theorem e_uPlan {M M' : ap_Mem} {b : Nat} {f f' : Nat → Int32} (h : e_R M b f) (hM : ∀ a, (b ≤ a ∧ a < b + 31) → ¬ (b + 25 ≤ a ∧ a ≤ b + 27) → M' a = M a) (hf : ∀ j, j < 936 → ¬ (j = 34 ∨ (94 ≤ j ∧ j < 110)) → f' j = f j) (hx : e_RPlan M' b f') : e_R M' b f' := by
  obtain ⟨h0, h1, h2, h3, h4, h5, h6, h7⟩ := h
  exact ⟨e_fTape h0 (fun a ha => hM a (by omega) (by omega)) (fun j hj => hf j (by omega) (by omega)), e_fTown h1 (fun a ha => hM a (by omega) (by omega)) (fun j hj => hf j (by omega) (by omega)), e_fFolk h2 (fun a ha => hM a (by omega) (by omega)) (fun j hj => hf j (by omega) (by omega)), e_fCarp h3 (fun a ha => hM a (by omega) (by omega)) (fun j hj => hf j (by omega) (by omega)), e_fWalk h4 (fun a ha => hM a (by omega) (by omega)) (fun j hj => hf j (by omega) (by omega)), e_fSeen h5 (fun a ha => hM a (by omega) (by omega)) (fun j hj => hf j (by omega) (by omega)), hx, e_fBook h7 (fun a ha => hM a (by omega) (by omega)) (fun j hj => hf j (by omega) (by omega))⟩
theorem e_uBook {M M' : ap_Mem} {b : Nat} {f f' : Nat → Int32} (h : e_R M b f) (hM : ∀ a, (b ≤ a ∧ a < b + 31) → ¬ (b + 28 ≤ a ∧ a ≤ b + 30) → M' a = M a) (hf : ∀ j, j < 936 → ¬ (j = 35 ∨ (110 ≤ j ∧ j < 126)) → f' j = f j) (hx : e_RBook M' b f') : e_R M' b f' := by
  obtain ⟨h0, h1, h2, h3, h4, h5, h6, h7⟩ := h
  exact ⟨e_fTape h0 (fun a ha => hM a (by omega) (by omega)) (fun j hj => hf j (by omega) (by omega)), e_fTown h1 (fun a ha => hM a (by omega) (by omega)) (fun j hj => hf j (by omega) (by omega)), e_fFolk h2 (fun a ha => hM a (by omega) (by omega)) (fun j hj => hf j (by omega) (by omega)), e_fCarp h3 (fun a ha => hM a (by omega) (by omega)) (fun j hj => hf j (by omega) (by omega)), e_fWalk h4 (fun a ha => hM a (by omega) (by omega)) (fun j hj => hf j (by omega) (by omega)), e_fSeen h5 (fun a ha => hM a (by omega) (by omega)) (fun j hj => hf j (by omega) (by omega)), e_fPlan h6 (fun a ha => hM a (by omega) (by omega)) (fun j hj => hf j (by omega) (by omega)), hx⟩
