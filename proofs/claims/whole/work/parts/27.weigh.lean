/-! the class weighs a town -/
theorem e_progS {cs : List e_Cls} {i : Nat} {cl : e_Cls} (h : cs[i]? = some cl) : e_progC cs = e_progC (cs.take i) ++ (cl.2.2.map e_tokC ++ e_progC (cs.drop (i + 1))) ∧ e_progC (cs.take (i + 1)) = e_progC (cs.take i) ++ cl.2.2.map e_tokC := by
  obtain ⟨h1, h2⟩ := List.getElem?_eq_some_iff.mp h
  have e1 : cs.take (i + 1) = cs.take i ++ [cl] := by rw [List.take_succ, h]; rfl
  have e2 : cs = cs.take i ++ (cl :: cs.drop (i + 1)) := by rw [← h2, List.getElem_cons_drop, List.take_append_drop]
  constructor
  · conv => lhs; rw [e2]
    unfold e_progC
    rw [List.flatMap_append, List.flatMap_cons]
  · rw [e1]
    unfold e_progC
    rw [List.flatMap_append]
    simp
theorem c_holds {q o p k v a ph i : Nat} {cs : List e_Cls} {cl : e_Cls} {M : ap_Mem} {K : Int32 → ap_Mem → Prop} (hT : e_CTown M q cs) (hcl : cs[i]? = some cl) (h0 : cl.1 ≠ 0) (hne : o + 3 < q ∨ q + 7 < o) (hl : e_Look M q o p k v a) (hp : p < 6) (hk : k ≤ 6) (hv : v ≤ 9) (ha : a < 16) (hph : ph < 10)
    (h : ∀ M' r, (∀ x, x ≠ q + 5 → M' x = M x) → e_Mk r (fun c => e_holds (e_vs p k v a ph c) cl.2.2) → K r M') : w_X7_whereHolds q o (nI i) (nI p) (nI ph) M K := by
  obtain ⟨t1, t2, t3, t4, t5, t6, t7, t8, t9⟩ := hT
  have hi := (List.getElem?_eq_some_iff.mp hcl).1
  obtain ⟨s1, s2⟩ := e_progS hcl
  obtain ⟨o1, o2, o3, o4, o5⟩ := t3 cl (List.mem_of_getElem? hcl)
  have key : w_X7_whereHolds_25 q o (nI i) (nI p) (nI ph) (nI (e_progC (cs.take (i + 1))).length) M K := by
    unfold w_X7_whereHolds_25
    refine ⟨by rw [n_vp (by omega)]; omega, ?_⟩
    rw [n_cl (by omega), (t6 i cl hcl).2.2]
    rintro _ rfl
    have hlen : (e_progC cs).length = (e_progC (cs.take i)).length + (cl.2.2.length + (e_progC (cs.drop (i + 1))).length) := by rw [s1]; simp
    have hlen2 : (e_progC (cs.take (i + 1))).length = (e_progC (cs.take i)).length + cl.2.2.length := by rw [s2]; simp
    have := c_toks (q := q) (o := o) (K := K) (N := (e_progC (cs.take (i + 1))).length) hne hp hk hv ha hph (by omega) (4095 - cl.2.2.length) cl.2.2 [] (e_progC (cs.take i)).length M hlen2.symm hl (fun j t hj => ?_) o5 (o4 h0) (by decide) trivial (fun M' r f hr => h M' r f (e_mkC hr (fun c hc => rfl)))
    · rw [show 4095 - cl.2.2.length + 1 + cl.2.2.length = 4096 by omega] at this
      exact this
    · have hj2 := (List.getElem?_eq_some_iff.mp hj).1
      refine t7 _ _ ?_
      rw [s1, List.getElem?_append_right (by omega), Nat.add_sub_cancel_left, List.getElem?_append_left (by simpa using hj2), List.getElem?_map, hj]
      rfl
  unfold w_X7_whereHolds
  rw [t4, nI_1]
  by_cases hc : cs.length ≤ i + 1
  · rw [if_pos (by rw [n_le (by omega) (by omega)]; exact hc), t5]
    rw [List.take_of_length_le hc] at key
    exact key
  · rw [if_neg (by rw [n_le (by omega) (by omega)]; exact hc)]
    refine ⟨by rw [n_vp (by omega)]; omega, ?_⟩
    rw [n_cl (by omega), (t6 (i + 1) cs[i + 1] (List.getElem?_eq_getElem (by omega))).2.2]
    exact key
abbrev e_L3 : Type := Int32 → Int32 → Int32 → ap_Mem → Prop
theorem c_w114 {kL : e_L3} {q o i : Nat} {x2 x3 x5 x6 : Int32} {K : ap_Mem → Prop} {L G : Nat → Int32} (M0 : ap_Mem) (hG : ∀ c, c < 16 → L c + ((x6 >>> (nI c &&& 31)) &&& 1) * x5 = G c) (h : ∀ M', (∀ x, x ≠ q + 6 → M' x = M0 x) → (∀ c, c < 16 → M' (q + 6) c = G c) → kL x2 x3 (nI (i + 1)) M') (n : Nat) : ∀ (j c : Nat) (M : ap_Mem), c + j = 16 → (∀ x, x ≠ q + 6 → M x = M0 x) → (∀ b, b < 16 → M (q + 6) b = if b < c then G b else L b) → w_X7_weigh_114 kL q o K (n + 1 + j) x2 x3 (nI i) x5 x6 (nI c) M := by
  intro j
  induction j with
  | zero =>
    intro c M hc hf hM
    have : c = 16 := by omega
    subst this
    show w_X7_weigh_114_s kL (w_X7_weigh_114 kL q o K n) q o x2 x3 (nI i) x5 x6 (nI 16) M K
    unfold w_X7_weigh_114_s
    rw [if_pos (by decide)]
    rintro _ rfl
    rw [nI_1]
    exact h M hf (fun c hc => by rw [hM c hc, if_pos hc])
  | succ j ih =>
    intro c M hc hf hM
    have hc2 : c < 16 := by omega
    show w_X7_weigh_114_s kL (w_X7_weigh_114 kL q o K (n + 1 + j)) q o x2 x3 (nI i) x5 x6 (nI c) M K
    unfold w_X7_weigh_114_s
    rw [if_neg (by rw [l_16, n_le (by decide) (by omega)]; omega), n_cl (by omega), hM c hc2, if_neg (by omega), hG c hc2]
    refine ⟨by rw [n_vp (by omega)]; omega, by rw [n_vp (by omega)]; omega, ?_⟩
    rintro _ rfl _ rfl
    rw [nI_1]
    refine ih (c + 1) _ (by omega) (fun x hx => by simp (disch := omega) only [ap_mu_n]; exact hf x hx) (fun b hb => ?_)
    by_cases hbc : b = c
    · subst hbc
      simp (disch := omega) only [mu_s]
      rw [if_pos (by omega)]
    · simp (disch := omega) only [mu_o]
      rw [hM b hb]
      by_cases hb2 : b < c
      · rw [if_pos hb2, if_pos (by omega)]
      · rw [if_neg hb2, if_neg (by omega)]
theorem e_look {M M' : ap_Mem} {q o p k v a : Nat} (h : e_Look M q o p k v a) (hf : ∀ x, (x = o + 1 ∨ x = o + 2 ∨ x = q + 7) → M' x = M x) : e_Look M' q o p k v a := by
  obtain ⟨l1, l2, l3⟩ := h
  exact ⟨by rw [hf _ (by omega)]; exact l1, by rw [hf _ (by omega)]; exact l2, fun c hc => by rw [hf _ (by omega)]; exact l3 c hc⟩
theorem c_w46 {q o p k v a ph : Nat} {cs : List e_Cls} {K : ap_Mem → Prop} (hne : o + 3 < q ∨ q + 7 < o) (hp : p < 6) (hk : k ≤ 6) (hv : v ≤ 9) (ha : a < 16) (hph : ph < 10) (M0 : ap_Mem) (hT : e_CTown M0 q cs) (hl : e_Look M0 q o p k v a) (L0 : Nat → Int32) (h : ∀ M', (∀ x, x ≠ q + 5 → x ≠ q + 6 → M' x = M0 x) → (∀ c, c < 16 → M' (q + 6) c = e_lures (e_vs p k v a ph c) cs (L0 c)) → K M') : ∀ (rest : List e_Cls) (n i : Nat) (L : Nat → Int32) (M : ap_Mem), i ≤ cs.length → cs.drop i = rest → (∀ x, x ≠ q + 5 → x ≠ q + 6 → M x = M0 x) → (∀ c, c < 16 → M (q + 6) c = L c ∧ e_lures (e_vs p k v a ph c) rest (L c) = e_lures (e_vs p k v a ph c) cs (L0 c)) → w_X7_weigh_46 q o K (n + 1 + rest.length) (nI p) (nI ph) (nI i) M := by
  intro rest
  have hT0 := hT
  obtain ⟨t1, t2, t3, t4, t5, t6, t7, t8, t9⟩ := hT0
  induction rest with
  | nil =>
    intro n i L M hi hr hf hM
    have hi2 : cs.length ≤ i := by
      have := congrArg List.length hr
      simp at this
      omega
    show w_X7_weigh_46_s (w_X7_weigh_46 q o K n) q o (nI p) (nI ph) (nI i) M K
    unfold w_X7_weigh_46_s
    rw [hf q (by omega) (by omega), t4, if_pos (by rw [n_le (by omega) (by omega)]; exact hi2)]
    exact h M hf (fun c hc => by rw [(hM c hc).1]; exact (hM c hc).2)
  | cons cl rest ih =>
    intro n i L M hi hr hf hM
    have hcl : cs[i]? = some cl := by
      have := congrArg (fun l => l[0]?) hr
      simpa using this
    have hr2 : cs.drop (i + 1) = rest := by
      have := congrArg (List.drop 1) hr
      simpa [Nat.add_comm] using this
    have hi2 := (List.getElem?_eq_some_iff.mp hcl).1
    obtain ⟨o1, o2, o3, o4, o5⟩ := t3 cl (List.mem_of_getElem? hcl)
    obtain ⟨w1, w2, w3⟩ := t6 i cl hcl
    show w_X7_weigh_46_s (w_X7_weigh_46 q o K (n + 1 + rest.length)) q o (nI p) (nI ph) (nI i) M K
    unfold w_X7_weigh_46_s
    rw [hf q (by omega) (by omega), t4, if_neg (by rw [n_le (by omega) (by omega)]; omega), n_cl (by omega), hf (q + 1) (by omega) (by omega), w1, hf (q + 2) (by omega) (by omega), w2]
    refine ⟨by rw [n_vp (by omega)]; omega, ?_⟩
    have go : ∀ more : Int32, (∀ (b : Bool) (x : Int32), x + e_bi b * more = if cl.1 = 0 then (if b = true then x + more else x) else if b = true then (if cl.1 = 1 then x + nI cl.2.1 else x - nI cl.2.1) else x) → w_X7_weigh_84 (w_X7_weigh_46 q o K (n + 1 + rest.length)) q o (nI p) (nI ph) (nI i) more M K := by
      intro more hmore
      have z0 : ∀ x : Int32, x + 0 = x := fun x => by grind
      have z1 : ∀ x : Int32, 0 * x = 0 := fun x => by grind
      unfold w_X7_weigh_84
      refine ⟨by rw [n_vp (by omega)]; omega, ?_⟩
      rw [n_cl (by omega), hf (q + 1) (by omega) (by omega), w1]
      by_cases h0 : cl.1 = 0
      · rw [if_pos (by rw [h0]; rfl)]
        unfold w_X7_weigh_109
        refine c_w114 (L := L) (G := L) M (fun c hc => ?_) (fun M' f' hG => ?_) 4079 16 0 M rfl (fun _ _ => rfl) (fun b hb => by rw [if_neg (by omega)]; exact (hM b hb).1)
        · rw [l_0, x_bit (by decide) (by omega), Nat.zero_testBit, show e_bi false = 0 from rfl, z1, z0]
        · refine ih n (i + 1) L M' (by omega) hr2 (fun x h1 h2 => by rw [f' x h2, hf x h1 h2]) (fun c hc => ⟨hG c hc, ?_⟩)
          rw [← (hM c hc).2]
          show _ = e_lures _ rest (e_lure1 _ cl (L c))
          rw [show e_lure1 (e_vs p k v a ph c) cl (L c) = L c from if_pos h0]
      · rw [if_neg (by rw [l_0, n_eq (by omega) (by omega)]; exact h0)]
        refine c_holds (e_fCTown hT (fun x hx => hf x (by omega) (by omega))) hcl h0 hne (e_look hl (fun x hx => hf x (by omega) (by omega))) hp hk hv ha hph (fun M1 r f1 hr1 => ?_)
        obtain ⟨mk, k1, rfl, k3⟩ := hr1
        unfold w_X7_weigh_109
        refine c_w114 (L := L) (G := fun c => e_lure1 (e_vs p k v a ph c) cl (L c)) M1 (fun c hc => ?_) (fun M' f' hG => ?_) 4079 16 0 M1 rfl (fun _ _ => rfl) (fun b hb => by rw [if_neg (by omega), f1 _ (by omega)]; exact (hM b hb).1)
        · rw [x_bit (by omega) (by omega), k3 c hc, hmore, if_neg h0]
          unfold e_lure1
          rw [if_neg h0]
        · refine ih n (i + 1) _ M' (by omega) hr2 (fun x h1 h2 => by rw [f' x h2, f1 x h1, hf x h1 h2]) (fun c hc => ⟨hG c hc, ?_⟩)
          exact (hM c hc).2
    have z2 : ∀ x y : Int32, x + 0 * y = x := fun x y => by grind
    have z3 : ∀ x y : Int32, x + 1 * y = x + y := fun x y => by grind
    have z4 : ∀ x y : Int32, x + 1 * -y = x - y := fun x y => by grind
    by_cases h1 : cl.1 = 1
    · rw [if_pos (by rw [h1]; rfl)]
      refine ⟨by rw [n_vp (by omega)]; omega, go _ (fun b x => ?_)⟩
      rw [if_neg (by omega), if_pos h1]
      cases b
      · exact z2 _ _
      · exact z3 _ _
    · rw [if_neg (by rw [l_1, n_eq (by omega) (by omega)]; exact h1)]
      refine ⟨by rw [n_vp (by omega)]; omega, go _ (fun b x => ?_)⟩
      rw [if_neg h1]
      cases b
      · rw [show e_bi false = 0 from rfl, z2]
        simp
      · rw [show e_bi true = 1 from rfl, z4]
        simp
        intro _
        grind
theorem c_weigh {q o p k v a ph : Nat} {cs : List e_Cls} {M : ap_Mem} {K : ap_Mem → Prop} (hne : o + 3 < q ∨ q + 7 < o) (hp : p < 6) (hk : k ≤ 6) (hv : v ≤ 9) (ha : a < 16) (hph : ph < 10) (hT : e_CTown M q cs) (m1 : M (o + 1) p = nI k) (m2 : M (o + 2) p = nI v) (m3 : M (o + 3) p = nI a) (h : ∀ M', (∀ x, x ≠ q + 5 → x ≠ q + 6 → x ≠ q + 7 → M' x = M x) → (∀ c, c < 16 → M' (q + 6) c = e_lures (e_vs p k v a ph c) cs 6) → (∀ c, c < 16 → M' (q + 7) c = nI (e_far a c)) → K M') : w_X7_weigh q o (nI p) (nI ph) M K := by
  have l3 : ∀ (j c : Nat) (M1 : ap_Mem), c + j = 16 → (∀ x, x ≠ q + 6 → x ≠ q + 7 → M1 x = M x) → (∀ b, b < c → M1 (q + 6) b = 6 ∧ M1 (q + 7) b = nI (e_far a b)) → w_X7_weigh_3 q o K (4079 + 1 + j) (nI p) (nI ph) (nI c) M1 := by
    intro j
    induction j with
    | zero =>
      intro c M1 hc hf hb
      have : c = 16 := by omega
      subst this
      show w_X7_weigh_3_s (w_X7_weigh_3 q o K 4079) q o (nI p) (nI ph) (nI 16) M1 K
      unfold w_X7_weigh_3_s
      rw [if_pos (by decide)]
      have hl := hT.1
      have := c_w46 (K := K) hne hp hk hv ha hph M1 (e_fCTown hT (fun x hx => hf x (by omega) (by omega))) ⟨by rw [hf _ (by omega) (by omega)]; exact m1, by rw [hf _ (by omega) (by omega)]; exact m2, fun c hc => (hb c hc).2⟩ (fun _ => 6) (fun M2 f2 g2 => ?_) cs (4095 - cs.length) 0 (fun _ => 6) M1 (by omega) rfl (fun _ _ _ => rfl) (fun c hc => ⟨(hb c hc).1, rfl⟩)
      · rw [show 4095 - cs.length + 1 + cs.length = 4096 by omega] at this
        exact this
      · exact h M2 (fun x h1 h2 h3 => by rw [f2 x h1 h2, hf x h2 h3]) g2 (fun c hc => by rw [f2 _ (by omega) (by omega)]; exact (hb c hc).2)
    | succ j ih =>
      intro c M1 hc hf hb
      have hc2 : c < 16 := by omega
      show w_X7_weigh_3_s (w_X7_weigh_3 q o K (4079 + 1 + j)) q o (nI p) (nI ph) (nI c) M1 K
      unfold w_X7_weigh_3_s
      rw [if_neg (by rw [l_16, n_le (by decide) (by omega)]; omega)]
      refine ⟨by rw [n_vp (by omega)]; omega, ?_⟩
      rintro _ rfl
      refine ⟨by rw [n_vp (by omega)]; omega, ?_⟩
      rw [n_cl (by omega), n_cl (by omega)]
      have e : (ap_mu M1 (q + 6) c 6) (o + 3) p = nI a := by
        simp (disch := omega) only [mu_o]
        rw [hf _ (by omega) (by omega)]
        exact m3
      rw [e, c_far ha hc2]
      refine ⟨by rw [n_vp (by omega)]; omega, ?_⟩
      rintro _ rfl _ rfl
      rw [nI_1]
      refine ih (c + 1) _ (by omega) (fun x h1 h2 => by simp (disch := omega) only [ap_mu_n]; exact hf x h1 h2) (fun b hb2 => ?_)
      by_cases hbc : b = c
      · subst hbc
        exact ⟨by simp (disch := omega) only [mu_s, mu_o], by simp (disch := omega) only [mu_s]⟩
      · simp (disch := omega) only [mu_o]
        exact hb b (by omega)
  unfold w_X7_weigh
  exact l3 16 0 M rfl (fun _ _ _ => rfl) (fun b hb => absurd hb (by omega))
