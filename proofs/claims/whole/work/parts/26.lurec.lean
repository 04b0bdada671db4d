/-! the class's worth of a town: sixteen cells at once, as bits -/
theorem x_and (a b : Nat) : nI a &&& nI b = nI (a &&& b) := Int32.toBitVec_inj.mp (BitVec.eq_of_getLsbD_eq fun i hi => by simp [nI, Nat.testBit_and])
theorem x_or (a b : Nat) : nI a ||| nI b = nI (a ||| b) := Int32.toBitVec_inj.mp (BitVec.eq_of_getLsbD_eq fun i hi => by simp [nI, Nat.testBit_or])
theorem x_xor (a b : Nat) : nI a ^^^ nI b = nI (a ^^^ b) := Int32.toBitVec_inj.mp (BitVec.eq_of_getLsbD_eq fun i hi => by simp [nI, Nat.testBit_xor])
theorem x_shl : ∀ c, c < 16 → (1 : Int32) <<< (nI c &&& 31) = nI (2 ^ c) := by decide +kernel
theorem x_s : ∀ n, n < 32 → ((nI n &&& 31).toBitVec.smod 32).toNat = n := by decide +kernel
theorem x_bit {m c : Nat} (hm : m < 2147483648) (hc : c < 32) : (nI m >>> (nI c &&& 31)) &&& 1 = e_bi (m.testBit c) := by
  rw [pk_shrN hm _ c (x_s c hc), pk_andN (Nat.lt_of_le_of_lt (Nat.div_le_self _ _) (by omega)) 1 (by decide)]
  unfold e_bi
  have := Nat.testBit_eq_decide_div_mod_eq (x := m) (i := c)
  rw [this]
  have h2 : m / 2 ^ c % 2 = 0 ∨ m / 2 ^ c % 2 = 1 := by omega
  rcases h2 with h | h
  · simp [h, ← l_0]
  · simp [h, ← l_1]
def e_Mk (m : Int32) (b : Nat → Bool) : Prop := ∃ k, k < 65536 ∧ m = nI k ∧ ∀ c, c < 16 → k.testBit c = b c
theorem x_and16 {a b : Nat} (ha : a < 65536) : a &&& b < 65536 := Nat.lt_of_le_of_lt Nat.and_le_left ha
theorem x_or16 {a b : Nat} (ha : a < 65536) (hb : b < 65536) : a ||| b < 65536 := Nat.or_lt_two_pow (n := 16) ha hb
theorem x_xor16 {a b : Nat} (ha : a < 65536) (hb : b < 65536) : a ^^^ b < 65536 := Nat.xor_lt_two_pow (n := 16) ha hb
theorem e_mkA {m n : Int32} {a b : Nat → Bool} (h : e_Mk m a) (h2 : e_Mk n b) : e_Mk (m &&& n) (fun c => a c && b c) := by
  obtain ⟨k, k1, rfl, k3⟩ := h
  obtain ⟨l, l1, rfl, l3⟩ := h2
  exact ⟨k &&& l, x_and16 k1, x_and k l, fun c hc => by rw [Nat.testBit_and, k3 c hc, l3 c hc]⟩
theorem e_mkO {m n : Int32} {a b : Nat → Bool} (h : e_Mk m a) (h2 : e_Mk n b) : e_Mk (m ||| n) (fun c => a c || b c) := by
  obtain ⟨k, k1, rfl, k3⟩ := h
  obtain ⟨l, l1, rfl, l3⟩ := h2
  exact ⟨k ||| l, x_or16 k1 l1, x_or k l, fun c hc => by rw [Nat.testBit_or, k3 c hc, l3 c hc]⟩
theorem e_bit1 : ∀ c, c < 16 → (65535 : Nat).testBit c = true := by decide +kernel
theorem e_mkN {m : Int32} {a : Nat → Bool} (h : e_Mk m a) : e_Mk (m ^^^ 65535) (fun c => !(a c)) := by
  obtain ⟨k, k1, rfl, k3⟩ := h
  refine ⟨k ^^^ 65535, x_xor16 k1 (by decide), x_xor k 65535, fun c hc => by rw [Nat.testBit_xor, k3 c hc, e_bit1 c hc, Bool.xor_true]⟩
theorem e_mk1 : e_Mk 65535 (fun _ => true) := ⟨65535, by decide, rfl, e_bit1⟩
theorem e_mk0 : e_Mk 0 (fun _ => false) := ⟨0, by decide, rfl, fun c _ => Nat.zero_testBit c⟩
theorem e_mkC {r : Int32} {f g : Nat → Bool} (h : e_Mk r f) (hf : ∀ c, c < 16 → f c = g c) : e_Mk r g := by
  obtain ⟨y, y1, y2, y3⟩ := h
  exact ⟨y, y1, y2, fun c hc => by rw [y3 c hc, hf c hc]⟩
theorem e_lohi {t : e_Tok} {x : Nat} {vs : Nat → Nat} (h : vs t.1 = x) (hx : x < 128) (hh : t.2.1 < 3) : e_ev t vs = decide (e_lo t ≤ x ∧ x ≤ e_hi t) := by
  unfold e_ev e_lo e_hi
  rw [h]
  rw [Bool.eq_iff_iff, decide_eq_true_iff]
  rcases (by omega : t.2.1 = 0 ∨ t.2.1 = 1 ∨ t.2.1 = 2) with h0 | h0 | h0
  · by_cases h4 : t.2.2 = 0
    · simp [h0, h4] <;> omega
    · simp [h0, h4] <;> omega
  · simp [h0] <;> omega
  · simp [h0] <;> omega
theorem c_code (a b c : Nat) (ha : a < 6) (hb : b < 128) (hc : c < 128) : (nI ((a * 128 + b) * 128 + c) >>> (7 &&& 31)) &&& 127 = nI b ∧ nI ((a * 128 + b) * 128 + c) &&& 127 = nI c ∧ nI ((a * 128 + b) * 128 + c) >>> (14 &&& 31) = nI a := by
  rw [pk_shrN (by omega) _ 7 (by decide), pk_shrN (by omega) _ 14 (by decide), pk_andN (by omega) 7 (by decide), pk_andN (by omega) 7 (by decide)]
  refine ⟨by congr 1; omega, by congr 1; omega, by congr 1; omega⟩
/-- what the class's town looks at: persons at o, far in its own row -/
def e_Look (M : ap_Mem) (q o p k v a : Nat) : Prop := M (o + 1) p = nI k ∧ M (o + 2) p = nI v ∧ ∀ c, c < 16 → M (q + 7) c = nI (e_far a c)
theorem c_testL {q o : Nat} {x : Nat → Nat} {lo hi : Nat} (x7 : Int32) (M : ap_Mem) (K : Int32 → ap_Mem → Prop) (hlo : lo < 128) (hhi : hi < 128) (hx : ∀ c, c < 16 → x c < 128) (h3 : x7 = 3 ∨ x7 = 4) (hr : ∀ c, c < 16 → if x7 = 3 then M (q + 7) c = nI (x c) else x c = c) (h : ∀ r, e_Mk r (fun c => decide (lo ≤ x c ∧ x c ≤ hi)) → K r M) : ∀ (j c k : Nat), c + j = 16 → k < 2 ^ c → (∀ i, i < c → k.testBit i = decide (lo ≤ x i ∧ x i ≤ hi)) → w_X7_whereTest_39 q o K (4079 + j + 1) (nI lo) (nI hi) x7 (nI k) (nI c) M := by
  intro j
  induction j with
  | zero =>
    intro c k hc hk hb
    show w_X7_whereTest_39_s (w_X7_whereTest_39 q o K 4079) q o (nI lo) (nI hi) x7 (nI k) (nI c) M K
    unfold w_X7_whereTest_39_s
    have : c = 16 := by omega
    subst this
    rw [if_pos (by decide)]
    exact h _ ⟨k, hk, rfl, hb⟩
  | succ j ih =>
    intro c k hc hk hb
    have hc2 : c < 16 := by omega
    have hk2 : k < 65536 := Nat.lt_of_lt_of_le hk (Nat.pow_le_pow_right (n := 2) (by decide) (show c ≤ 16 by omega))
    show w_X7_whereTest_39_s (w_X7_whereTest_39 q o K (4079 + j + 1)) q o (nI lo) (nI hi) x7 (nI k) (nI c) M K
    unfold w_X7_whereTest_39_s
    rw [if_neg (by rw [l_16, n_le (by decide) (by omega)]; omega)]
    have key : w_X7_whereTest_64 (w_X7_whereTest_39 q o K (4079 + j + 1)) q o (nI lo) (nI hi) x7 (nI k) (nI c) (nI (x c)) M K := by
      have hxc := hx c hc2
      unfold w_X7_whereTest_64
      have no : ¬ (lo ≤ x c ∧ x c ≤ hi) → w_X7_whereTest_89 (w_X7_whereTest_39 q o K (4079 + j + 1)) q o (nI lo) (nI hi) x7 (nI c) (nI k) M K := by
        intro hn
        unfold w_X7_whereTest_89 w_X7_whereTest_90
        rintro _ rfl _ rfl
        rw [nI_1, l_0, x_or, Nat.or_zero]
        refine ih (c + 1) k (by omega) (Nat.lt_of_lt_of_le hk (Nat.pow_le_pow_right (by decide) (by omega))) (fun i hii => ?_)
        by_cases hic : i = c
        · subst hic
          rw [Nat.testBit_lt_two_pow hk]
          simp [hn]
        · exact hb i (by omega)
      by_cases h1 : x c < lo
      · rw [if_pos (by rw [n_lt (by omega) (by omega)]; exact h1)]
        exact no (by omega)
      rw [if_neg (by rw [n_lt (by omega) (by omega)]; exact h1)]
      by_cases h2 : hi < x c
      · rw [if_pos (by rw [n_lt (by omega) (by omega)]; exact h2)]
        exact no (by omega)
      rw [if_neg (by rw [n_lt (by omega) (by omega)]; exact h2), x_shl c hc2]
      unfold w_X7_whereTest_90
      rintro _ rfl _ rfl
      rw [nI_1, x_or]
      have p2 : 2 ^ c < 2 ^ (c + 1) := Nat.pow_lt_pow_right (by decide) (by omega)
      refine ih (c + 1) _ (by omega) (Nat.or_lt_two_pow (Nat.lt_trans hk p2) p2) (fun i hii => ?_)
      rw [Nat.testBit_or, Nat.testBit_two_pow]
      by_cases hic : i = c
      · subst hic
        have : decide (lo ≤ x i ∧ x i ≤ hi) = true := decide_eq_true (by omega)
        rw [this]
        simp
      · rw [hb i (by omega)]
        simp [show ¬ c = i by omega]
    have hr2 := hr c hc2
    rcases h3 with rfl | rfl
    · rw [if_pos rfl] at hr2 ⊢
      refine ⟨by rw [n_vp (by omega)]; exact hc2, ?_⟩
      rw [n_cl (by omega), hr2]
      exact key
    · rw [if_neg (by decide)] at hr2 ⊢
      rw [hr2] at key
      exact key
theorem c_test {q o p k v a ph : Nat} {t : e_Tok} {M : ap_Mem} {K : Int32 → ap_Mem → Prop} (hl : e_Look M q o p k v a) (hp : p < 6) (hk : k ≤ 6) (hv : v ≤ 9) (ha : a < 16) (hph : ph < 10) (h1 : t.1 < 6) (h2 : t.2.1 < 3) (h3 : t.2.2 < 100) (h : ∀ r, e_Mk r (fun c => e_ev t (e_vs p k v a ph c)) → K r M) : w_X7_whereTest q o (e_tokC t) (nI p) (nI ph) M K := by
  have hlo : e_lo t < 128 := by unfold e_lo; split; omega; split; omega; split <;> omega
  have hhi : e_hi t < 128 := by unfold e_hi; split; omega; split; omega; omega
  obtain ⟨c1, c2, c3⟩ := c_code t.1 (e_lo t) (e_hi t) h1 hlo hhi
  have e1 : e_tokC t = nI ((t.1 * 128 + e_lo t) * 128 + e_hi t) := if_pos h1
  obtain ⟨m1, m2, m3⟩ := hl
  unfold w_X7_whereTest
  rw [e1, c1, c2, c3]
  rintro _ rfl _ rfl _ rfl
  have flat : ∀ x : Nat, x < 128 → (∀ c, c < 16 → e_vs p k v a ph c t.1 = x) → w_X7_whereTest_148 q o (nI (e_lo t)) (nI (e_hi t)) (nI x) M K := by
    intro x hx hvx
    unfold w_X7_whereTest_148
    by_cases g1 : e_lo t ≤ x ∧ x ≤ e_hi t
    · rw [if_neg (by rw [n_lt (by omega) (by omega)]; omega), if_neg (by rw [n_lt (by omega) (by omega)]; omega)]
      refine h _ (e_mkC e_mk1 fun c hc => ?_)
      rw [e_lohi (hvx c hc) hx h2]
      simp [g1]
    · have z : K 0 M := by
        refine h _ (e_mkC e_mk0 fun c hc => ?_)
        rw [e_lohi (hvx c hc) hx h2]
        simp [g1]
      by_cases g2 : x < e_lo t
      · rw [if_pos (by rw [n_lt (by omega) (by omega)]; exact g2)]
        exact z
      · rw [if_neg (by rw [n_lt (by omega) (by omega)]; exact g2), if_pos (by rw [n_lt (by omega) (by omega)]; omega)]
        exact z
  rcases (by omega : t.1 = 0 ∨ t.1 = 1 ∨ t.1 = 2 ∨ t.1 = 3 ∨ t.1 = 4 ∨ t.1 = 5) with h0 | h0 | h0 | h0 | h0 | h0
  · rw [h0, if_neg (by decide), if_neg (by decide), if_pos (by decide)]
    exact flat p (by omega) (fun c hc => by rw [h0]; rfl)
  · rw [h0, if_neg (by decide), if_neg (by decide), if_neg (by decide), if_pos (by decide)]
    refine ⟨by rw [n_vp (by omega)]; exact hp, ?_⟩
    rintro _ rfl
    rw [n_cl (by omega), m1]
    exact flat k (by omega) (fun c hc => by rw [h0]; rfl)
  · rw [h0, if_neg (by decide), if_neg (by decide), if_neg (by decide), if_neg (by decide), if_pos (by decide)]
    refine ⟨by rw [n_vp (by omega)]; exact hp, ?_⟩
    rintro _ rfl
    rw [n_cl (by omega), m2]
    exact flat v (by omega) (fun c hc => by rw [h0]; rfl)
  · rw [h0, if_pos (by decide)]
    unfold w_X7_whereTest_33
    refine c_testL (x := fun c => e_far a c) (nI 3) M K hlo hhi (fun c hc => by have := e_far_le ha hc; omega) (Or.inl rfl) (fun c hc => by rw [if_pos (by decide)]; exact m3 c hc) (fun r hr => h r (e_mkC hr fun c hc => ?_)) 16 0 0 rfl (by decide) (by omega)
    rw [e_lohi (x := e_far a c) (by rw [h0]; rfl) (by have := e_far_le ha hc; omega) h2]
  · rw [h0, if_neg (by decide), if_pos (by decide)]
    unfold w_X7_whereTest_33
    refine c_testL (x := fun c => c) (nI 4) M K hlo hhi (fun c hc => by omega) (Or.inr rfl) (fun c hc => by rw [if_neg (by decide)]) (fun r hr => h r (e_mkC hr fun c hc => ?_)) 16 0 0 rfl (by decide) (by omega)
    rw [e_lohi (x := c) (by rw [h0]; rfl) (by omega) h2]
  · rw [h0, if_neg (by decide), if_neg (by decide), if_neg (by decide), if_neg (by decide), if_neg (by decide)]
    exact flat ph (by omega) (fun c hc => by rw [h0]; show ph % 10 = ph; omega)
/-! an expression for sixteen cells -/
def e_gF (vs : Nat → Nat → Nat) (t : e_Tok) (S : List (Nat → Bool)) : List (Nat → Bool) := if t.1 < 6 then (fun c => e_ev t (vs c)) :: S else if t.1 = 6 then (match S with | b :: r => (fun c => !(b c)) :: r | [] => []) else match S with | b :: a :: r => (fun c => if t.1 = 7 then a c && b c else a c || b c) :: r | r => r
def e_runF (vs : Nat → Nat → Nat) : List e_Tok → List (Nat → Bool) → List (Nat → Bool)
  | [], s => s
  | t :: ts, s => e_runF vs ts (e_gF vs t s)
theorem e_gFm (vs : Nat → Nat → Nat) (t : e_Tok) (S : List (Nat → Bool)) (c : Nat) (hd : if t.1 < 6 then True else if t.1 = 6 then 1 ≤ S.length else 2 ≤ S.length) : (e_gF vs t S).map (fun f => f c) = e_gs (vs c) t (S.map (fun f => f c)) ∧ (e_gF vs t S).length = (e_gs (vs c) t (S.map (fun f => f c))).length := by
  unfold e_gF e_gs
  by_cases h1 : t.1 < 6
  · simp [h1]
  · by_cases h2 : t.1 = 6
    · rw [if_neg h1, if_neg h1, if_pos h2, if_pos h2]
      cases S <;> simp
    · rw [if_neg h1, if_neg h1, if_neg h2, if_neg h2]
      rw [if_neg h1, if_neg h2] at hd
      cases S with
      | nil => simp at hd
      | cons b S =>
      cases S with
      | nil => simp at hd
      | cons a S => simp
def e_Sm (g : Nat → Int32) : List (Nat → Bool) → Prop
  | [] => True
  | b :: s => e_Mk (g s.length) b ∧ e_Sm g s
theorem e_smF {g g' : Nat → Int32} {s : List (Nat → Bool)} (h : e_Sm g s) (hg : ∀ i, i < s.length → g' i = g i) : e_Sm g' s := by
  induction s with
  | nil => trivial
  | cons b s ih =>
    refine ⟨by rw [hg _ (by simp)]; exact h.1, ih h.2 (fun i hi => hg i (by simp; omega))⟩
theorem c_tok {kL : e_L5} {q o p k v a ph i N : Nat} {t : e_Tok} {S : List (Nat → Bool)} {M : ap_Mem} {K : Int32 → ap_Mem → Prop} (hne : o + 3 < q ∨ q + 7 < o) (hl : e_Look M q o p k v a) (hp : p < 6) (hk : k ≤ 6) (hv : v ≤ 9) (ha : a < 16) (hph : ph < 10) (hi : i < N) (hN : N ≤ 100) (hz : M (q + 4) i = e_tokC t) (hok : e_tokOK t) (hd : (if t.1 < 6 then S.length + 1 ≤ 13 else if t.1 = 6 then 1 ≤ S.length else 2 ≤ S.length) ∧ S.length ≤ 13) (hS : e_Sm (M (q + 5)) S)
    (h : ∀ M', (∀ x, x ≠ q + 5 → M' x = M x) → e_Sm (M' (q + 5)) (e_gF (fun c => e_vs p k v a ph c) t S) → kL (nI p) (nI ph) (nI N) (nI (e_gF (fun c => e_vs p k v a ph c) t S).length) (nI (i + 1)) M') : w_X7_whereHolds_38_s kL q o (nI p) (nI ph) (nI N) (nI S.length) (nI i) M K := by
  unfold w_X7_whereHolds_38_s
  rw [if_neg (by rw [n_le (by omega) (by omega)]; omega)]
  refine ⟨by rw [n_vp (by omega)]; omega, ?_⟩
  rintro _ rfl
  rw [n_cl (by omega), hz]
  obtain ⟨b0, b, c⟩ := t
  have next : ∀ s0 M', w_X7_whereHolds_188 kL q o (nI p) (nI ph) (nI N) s0 (nI i) M' K = kL (nI p) (nI ph) (nI N) s0 (nI (i + 1)) M' := fun s0 M' => by
    unfold w_X7_whereHolds_188
    simp only [nI_1, forall_eq]
  rcases hok with ⟨h1, h2, h3⟩ | ⟨h1, h2⟩
  · simp only at h1 h2 h3
    simp only [if_pos h1] at hd
    have e1 : e_gF (fun c => e_vs p k v a ph c) (b0, b, c) S = (fun x => e_ev (b0, b, c) (e_vs p k v a ph x)) :: S := if_pos h1
    rw [e1] at h
    have hn : ¬ e_tokC (b0, b, c) < 0 := by
      have : e_tokC (b0, b, c) = nI ((b0 * 128 + e_lo (b0, b, c)) * 128 + e_hi (b0, b, c)) := if_pos h1
      have hlo : e_lo (b0, b, c) < 128 := by unfold e_lo; split; simp only; omega; split; simp only; omega; split <;> omega
      have hhi : e_hi (b0, b, c) < 128 := by unfold e_hi; split; simp only; omega; split; omega; simp only; omega
      rw [this, l_0]
      exact n_neg (by omega)
    rw [if_neg hn, if_neg (by rw [l_13, n_le (by decide) (by omega)]; omega)]
    refine c_test hl hp hk hv ha hph h1 h2 h3 (fun r hr => ?_)
    refine ⟨by rw [n_vp (by omega)]; omega, ?_⟩
    rintro _ rfl _ rfl
    rw [next, nI_1, n_cl (by omega)]
    exact h _ (fun x hx => by simp (disch := omega) only [ap_mu_n]) ⟨by simp (disch := omega) only [mu_s]; exact hr, e_smF hS (fun j hj => by simp (disch := omega) only [mu_o])⟩
  · rcases (by omega : b0 = 6 ∨ b0 = 7 ∨ b0 = 8) with rfl | rfl | rfl
    · have e1 : e_tokC (6, b, c) = -3 := rfl
      rw [e1, if_pos (by decide)]
      unfold w_X7_whereHolds_89
      rw [if_pos rfl]
      cases S with
      | nil => simp at hd
      | cons f S =>
        have e2 : e_gF (fun c => e_vs p k v a ph c) (6, b, c) (f :: S) = (fun c => !(f c)) :: S := rfl
        rw [e2] at h
        simp only [List.length_cons] at h hd ⊢
        rw [if_neg (by rw [l_0, n_le (by omega) (by omega)]; omega), l_1, n_sub (by omega), Nat.add_sub_cancel, n_cl (by omega)]
        refine ⟨by rw [n_vp (by omega)]; omega, by rw [n_vp (by omega)]; omega, ?_⟩
        rintro _ rfl
        rw [next]
        exact h _ (fun x hx => by simp (disch := omega) only [ap_mu_n]) ⟨by simp (disch := omega) only [mu_s]; exact e_mkN hS.1, e_smF hS.2 (fun j hj => by simp (disch := omega) only [mu_o])⟩
    · have e1 : e_tokC (7, b, c) = -2 := rfl
      rw [e1, if_pos (by decide)]
      unfold w_X7_whereHolds_89
      rw [if_neg (by decide)]
      unfold w_X7_whereHolds_118
      cases S with
      | nil => simp at hd
      | cons f S =>
      cases S with
      | nil => simp at hd
      | cons g S =>
        have e2 : e_gF (fun c => e_vs p k v a ph c) (7, b, c) (f :: g :: S) = (fun c => g c && f c) :: S := rfl
        rw [e2] at h
        simp only [List.length_cons] at h hd ⊢
        rw [if_neg (by rw [l_1, n_le (by omega) (by omega)]; omega)]
        rintro _ rfl
        rw [e_m1, l_1, n_sub (by omega), Nat.add_sub_cancel, n_sub (by omega), Nat.add_sub_cancel, n_cl (by omega), n_cl (by omega)]
        refine ⟨by rw [n_vp (by omega)]; omega, by rw [n_vp (by omega)]; omega, ?_⟩
        rintro _ rfl
        refine ⟨by rw [n_vp (by omega)]; omega, by rw [n_vp (by omega)]; omega, ?_⟩
        rintro _ rfl
        rw [if_pos trivial]
        unfold w_X7_whereHolds_187
        refine ⟨by rw [n_vp (by omega)]; omega, ?_⟩
        rintro _ rfl
        rw [next, n_cl (by omega)]
        have s1 := hS.1
        simp only [List.length_cons] at s1
        exact h _ (fun x hx => by simp (disch := omega) only [ap_mu_n]) ⟨by simp (disch := omega) only [mu_s]; exact e_mkA hS.2.1 s1, e_smF hS.2.2 (fun j hj => by simp (disch := omega) only [mu_o])⟩
    · have e1 : e_tokC (8, b, c) = -1 := rfl
      rw [e1, if_pos (by decide)]
      unfold w_X7_whereHolds_89
      rw [if_neg (by decide)]
      unfold w_X7_whereHolds_118
      cases S with
      | nil => simp at hd
      | cons f S =>
      cases S with
      | nil => simp at hd
      | cons g S =>
        have e2 : e_gF (fun c => e_vs p k v a ph c) (8, b, c) (f :: g :: S) = (fun c => g c || f c) :: S := rfl
        rw [e2] at h
        simp only [List.length_cons] at h hd ⊢
        rw [if_neg (by rw [l_1, n_le (by omega) (by omega)]; omega)]
        rintro _ rfl
        rw [e_m1, l_1, n_sub (by omega), Nat.add_sub_cancel, n_sub (by omega), Nat.add_sub_cancel, n_cl (by omega), n_cl (by omega)]
        refine ⟨by rw [n_vp (by omega)]; omega, by rw [n_vp (by omega)]; omega, ?_⟩
        rintro _ rfl
        refine ⟨by rw [n_vp (by omega)]; omega, by rw [n_vp (by omega)]; omega, ?_⟩
        rintro _ rfl
        rw [if_neg (by decide)]
        unfold w_X7_whereHolds_187
        refine ⟨by rw [n_vp (by omega)]; omega, ?_⟩
        rintro _ rfl
        rw [next, n_cl (by omega)]
        have s1 := hS.1
        simp only [List.length_cons] at s1
        exact h _ (fun x hx => by simp (disch := omega) only [ap_mu_n]) ⟨by simp (disch := omega) only [mu_s]; exact e_mkO hS.2.1 s1, e_smF hS.2.2 (fun j hj => by simp (disch := omega) only [mu_o])⟩
theorem e_depF {vs : Nat → Nat → Nat} {t : e_Tok} {ts : List e_Tok} {S : List (Nat → Bool)} (h : e_dep (t :: ts) S.length) (hd : S.length ≤ 13) : e_dep ts (e_gF vs t S).length ∧ (e_gF vs t S).length ≤ 13 ∧ ∀ c, (e_gF vs t S).map (fun f => f c) = e_gs (vs c) t (S.map (fun f => f c)) := by
  have h9 := (e_depS h hd).1
  have hx : if t.1 < 6 then True else if t.1 = 6 then 1 ≤ S.length else 2 ≤ S.length := by
    split
    · trivial
    · rename_i g
      rw [if_neg g] at h9
      exact h9
  have hl : (S.map (fun f => f 0)).length = S.length := List.length_map ..
  have := e_gsl (vs := vs 0) (t := t) (ts := ts) (S := S.map (fun f => f 0)) (by rw [hl]; exact h) (by rw [hl]; exact hd)
  rw [← (e_gFm vs t S 0 hx).2] at this
  exact ⟨this.1, this.2, fun c => (e_gFm vs t S c hx).1⟩
theorem c_toks {q o p k v a ph N : Nat} {K : Int32 → ap_Mem → Prop} (hne : o + 3 < q ∨ q + 7 < o) (hp : p < 6) (hk : k ≤ 6) (hv : v ≤ 9) (ha : a < 16) (hph : ph < 10) (hN : N ≤ 100) (n : Nat) : ∀ (ts : List e_Tok) (S : List (Nat → Bool)) (i : Nat) (M : ap_Mem), i + ts.length = N → e_Look M q o p k v a → (∀ (j : Nat) (t : e_Tok), ts[j]? = some t → M (q + 4) (i + j) = e_tokC t) → (∀ t ∈ ts, e_tokOK t) → e_dep ts S.length → S.length ≤ 13 → e_Sm (M (q + 5)) S →
    (∀ M' r, (∀ x, x ≠ q + 5 → M' x = M x) → e_Mk r (fun c => (e_run (e_vs p k v a ph c) ts (S.map (fun f => f c))).headD false) → K r M') → w_X7_whereHolds_38 q o K (n + 1 + ts.length) (nI p) (nI ph) (nI N) (nI S.length) (nI i) M := by
  intro ts
  induction ts with
  | nil =>
    intro S i M hi hl hz hok hd hl13 hS h
    have h1 : S.length = 1 := hd
    obtain ⟨b, rfl⟩ : ∃ b, S = [b] := List.length_eq_one_iff.mp h1
    have hi : i = N := hi
    show w_X7_whereHolds_38_s (w_X7_whereHolds_38 q o K n) q o (nI p) (nI ph) (nI N) (nI 1) (nI i) M K
    unfold w_X7_whereHolds_38_s
    rw [if_pos (by rw [n_le (by omega) (by omega)]; omega), if_neg (by decide)]
    refine ⟨by rw [vp_in_iff]; decide, ?_⟩
    have e : (nI 1 - 1).toNatClampNeg = 0 := by decide
    rw [e]
    exact h M _ (fun _ _ => rfl) (e_mkC hS.1 (fun c hc => rfl))
  | cons t ts ih =>
    intro S i M hi hl hz hok hd hl13 hS h
    simp only [List.length_cons] at hi ⊢
    show w_X7_whereHolds_38_s (w_X7_whereHolds_38 q o K (n + 1 + ts.length)) q o (nI p) (nI ph) (nI N) (nI S.length) (nI i) M K
    refine c_tok hne hl hp hk hv ha hph (by omega) hN (hz 0 t rfl) (hok t (by simp)) (e_depS hd hl13) hS (fun M1 f1 s1 => ?_)
    obtain ⟨g1, g2, g3⟩ := e_depF (vs := fun c => e_vs p k v a ph c) hd hl13
    refine ih _ (i + 1) M1 (by omega) ?_ (fun j t2 hj => ?_) (fun t2 h2 => hok t2 (List.mem_cons_of_mem _ h2)) g1 g2 s1 (fun M2 r f2 hr => ?_)
    · obtain ⟨l1, l2, l3⟩ := hl
      exact ⟨by rw [f1 _ (by omega)]; exact l1, by rw [f1 _ (by omega)]; exact l2, fun c hc => by rw [f1 _ (by omega)]; exact l3 c hc⟩
    · rw [f1 _ (by omega), Nat.add_assoc, Nat.add_comm 1 j]
      exact hz (j + 1) t2 hj
    · refine h M2 r (fun x hx => by rw [f2 x hx, f1 x hx]) (e_mkC hr (fun c hc => ?_))
      rw [g3 c]
      rfl
