/-! the memory of the system: for each numbered cell its numbers; what is a reference never changes -/
abbrev ap_Mem : Type := Nat → Nat → Int32
def ap_kd (q : Nat) : Nat := ap_kdL.getD q 99
def ap_ln (q : Nat) : Nat := ap_lnL.getD q 0
def ap_fo (ci k : Nat) : Nat := (ap_foL.getD ci []).getD k 0
def ap_nf (ci : Nat) : Nat := ap_nfL.getD ci 0
/-- where all lies: the classes' numbers and slots, which cells may change, the addresses of the cells, of the three tables, of the texts and their bytes, the classes of int and boolean rows -/
abbrev ap_G : Type := va_G × (Nat → Prop) × (Nat → Nat) × (Nat → Nat) × (Nat → Nat) × (Nat → Nat) × ClassId × ClassId
abbrev ap_gD (g : ap_G) : va_G := g.1
abbrev ap_gA (g : ap_G) : Nat → Prop := g.2.1
abbrev ap_ad (g : ap_G) : Nat → Nat := g.2.2.1
abbrev ap_gT (g : ap_G) : Nat → Nat := g.2.2.2.1
abbrev ap_gK (g : ap_G) : Nat → Nat := g.2.2.2.2.1
abbrev ap_gV (g : ap_G) : Nat → Nat := g.2.2.2.2.2.1
abbrev ap_gI (g : ap_G) : ClassId := g.2.2.2.2.2.2.1
abbrev ap_gZ (g : ap_G) : ClassId := g.2.2.2.2.2.2.2
def ap_fv (g : ap_G) (M : ap_Mem) (q ci k : Nat) : Value := if ap_fo ci k = 0 then .int (M q k) else .ref (ap_ad g (q + ap_fo ci k))
def ap_cell (g : ap_G) (M : ap_Mem) (q : Nat) : va_E := if ap_kd q = 20 then .inl (ap_gI g, ap_ln q, .inl (M q)) else if ap_kd q = 21 then .inl (ap_gZ g, ap_ln q, .inl (M q)) else .inr (ap_kd q, (List.range (ap_nf (ap_kd q))).map (ap_fv g M q (ap_kd q)))
def ap_ws (g : ap_G) (M : ap_Mem) : va_W := (List.range ap_NM).map (fun q => (ap_ad g q, ap_cell g M q))
def ap_GOK (g : ap_G) : Prop := (∀ i j, i < ap_NM → j < ap_NM → ap_ad g i = ap_ad g j → i = j) ∧ ∀ i, i < ap_NM → ap_gA g (ap_ad g i)
theorem ap_ws_at {g : ap_G} {M : ap_Mem} {q : Nat} (h : q < ap_NM) : (ap_ws g M)[q]? = some (ap_ad g q, ap_cell g M q) := by
  unfold ap_ws
  rw [List.getElem?_map, List.getElem?_range h]
  rfl
theorem ap_ws_len {g : ap_G} {M : ap_Mem} : (ap_ws g M).length = ap_NM := by
  unfold ap_ws
  rw [List.length_map, List.length_range]
theorem ap_ws_of {g : ap_G} {M : ap_Mem} {i : Nat} {p : Nat × va_E} (h : (ap_ws g M)[i]? = some p) : i < ap_NM ∧ p = (ap_ad g i, ap_cell g M i) := by
  have hi : i < ap_NM := by
    have h1 := (List.getElem?_eq_some_iff.mp h).1
    rw [ap_ws_len] at h1
    exact h1
  rw [ap_ws_at hi] at h
  exact ⟨hi, (Option.some.inj h).symm⟩
theorem ap_ws_D {g : ap_G} {M : ap_Mem} (hg : ap_GOK g) : va_D (ap_gA g) (ap_ws g M) := by
  refine ⟨fun i j p q hp hq e => ?_, fun k q hq => ?_⟩
  · obtain ⟨h1, rfl⟩ := ap_ws_of hp
    obtain ⟨h2, rfl⟩ := ap_ws_of hq
    exact hg.1 i j h1 h2 e
  · obtain ⟨h1, rfl⟩ := ap_ws_of hq
    exact hg.2 k h1
theorem ap_set {g : ap_G} {M M' : ap_Mem} {q : Nat} {e : va_E} (h : q < ap_NM) (he : ap_cell g M' q = e) (ho : ∀ a, a ≠ q → M' a = M a) : (ap_ws g M).set q (ap_ad g q, e) = ap_ws g M' := by
  apply List.ext_getElem?
  intro i
  by_cases hi : i < ap_NM
  · by_cases hq : q = i
    · subst hq
      rw [List.getElem?_set_self (by rw [ap_ws_len]; exact hi), ap_ws_at hi, he]
    · rw [List.getElem?_set_ne hq, ap_ws_at hi, ap_ws_at hi]
      have e1 : ap_cell g M' i = ap_cell g M i := by
        have h1 := ho i (Ne.symm hq)
        have h2 : ap_fv g M' i (ap_kd i) = ap_fv g M i (ap_kd i) := by
          funext k
          unfold ap_fv
          rw [h1]
        unfold ap_cell
        rw [h1, h2]
      rw [e1]
  · rw [List.getElem?_eq_none (by rw [List.length_set, ap_ws_len]; omega), List.getElem?_eq_none (by rw [ap_ws_len]; omega)]
theorem ap_lt {q ci : Nat} (h : ap_kd q = ci) (hc : ci ≠ 99) : q < ap_NM := by
  rcases Nat.lt_or_ge q ap_NM with h1 | h1
  · exact h1
  · refine absurd (h.symm.trans ?_) hc
    have h2 : ap_kdL[q]? = none := List.getElem?_eq_none (Nat.le_trans (Nat.le_of_ble_eq_true rfl) h1)
    unfold ap_kd
    rw [List.getD_eq_getElem?_getD, h2]
    rfl
def ap_mu (M : ap_Mem) (q i : Nat) (v : Int32) : ap_Mem := fun a => if a = q then upd (M q) i v else M a
def ap_mc (M : ap_Mem) (a0 a1 sp dp n : Nat) : ap_Mem := fun a => if a = a1 then va_cpy (M a0) (M a1) sp dp n else M a
theorem ap_mu_s (M : ap_Mem) (q i : Nat) (v : Int32) : ap_mu M q i v q = upd (M q) i v := if_pos rfl
theorem ap_mu_n (M : ap_Mem) {q i a : Nat} (v : Int32) (h : a ≠ q) : ap_mu M q i v a = M a := if_neg h
theorem ap_mc_s (M : ap_Mem) (a0 a1 sp dp n : Nat) : ap_mc M a0 a1 sp dp n a1 = va_cpy (M a0) (M a1) sp dp n := if_pos rfl
theorem ap_mc_n (M : ap_Mem) {a0 a1 sp dp n a : Nat} (h : a ≠ a1) : ap_mc M a0 a1 sp dp n a = M a := if_neg h
theorem ap_cell_i {g : ap_G} {M : ap_Mem} {q : Nat} (h : ap_kd q = 20) : ap_cell g M q = .inl (ap_gI g, ap_ln q, .inl (M q)) := if_pos h
theorem ap_cell_z {g : ap_G} {M : ap_Mem} {q : Nat} (h : ap_kd q = 21) : ap_cell g M q = .inl (ap_gZ g, ap_ln q, .inl (M q)) := by
  unfold ap_cell
  rw [if_neg (by rw [h]; decide), if_pos h]
theorem ap_cell_o {g : ap_G} {M : ap_Mem} {q ci : Nat} (h : ap_kd q = ci) (h1 : ci < 20) : ap_cell g M q = .inr (ci, (List.range (ap_nf ci)).map (ap_fv g M q ci)) := by
  subst h
  unfold ap_cell
  rw [if_neg (by omega), if_neg (by omega)]
theorem ap_set_i {g : ap_G} {M : ap_Mem} {q i : Nat} {v : Int32} (h : ap_kd q = 20) : (ap_ws g M).set q (ap_ad g q, .inl (ap_gI g, ap_ln q, .inl (upd (M q) i v))) = ap_ws g (ap_mu M q i v) :=
  ap_set (ap_lt h (by decide)) (by rw [ap_cell_i h, ap_mu_s]) (fun _ ha => ap_mu_n M v ha)
theorem ap_set_z {g : ap_G} {M : ap_Mem} {q i : Nat} {v : Int32} (h : ap_kd q = 21) : (ap_ws g M).set q (ap_ad g q, .inl (ap_gZ g, ap_ln q, .inl (upd (M q) i v))) = ap_ws g (ap_mu M q i v) :=
  ap_set (ap_lt h (by decide)) (by rw [ap_cell_z h, ap_mu_s]) (fun _ ha => ap_mu_n M v ha)
theorem ap_set_c {g : ap_G} {M : ap_Mem} {q r sp dp n : Nat} (h : ap_kd q = 20) : (ap_ws g M).set q (ap_ad g q, .inl (ap_gI g, ap_ln q, .inl (va_cpy (M r) (M q) sp dp n))) = ap_ws g (ap_mc M r q sp dp n) :=
  ap_set (ap_lt h (by decide)) (by rw [ap_cell_i h, ap_mc_s]) (fun _ ha => ap_mc_n M ha)
theorem ap_flds_at {g : ap_G} {M : ap_Mem} {q ci k : Nat} (hk : k < ap_nf ci) : ((List.range (ap_nf ci)).map (ap_fv g M q ci))[k]? = some (ap_fv g M q ci k) := by
  rw [List.getElem?_map, List.getElem?_range hk]
  rfl
theorem ap_set_o {g : ap_G} {M : ap_Mem} {q ci k : Nat} {v : Int32} (h : ap_kd q = ci) (h1 : ci < 20) (hf : ap_fo ci k = 0) : (ap_ws g M).set q (ap_ad g q, .inr (ci, ((List.range (ap_nf ci)).map (ap_fv g M q ci)).set k (.int v))) = ap_ws g (ap_mu M q k v) := by
  refine ap_set (ap_lt h (by omega)) ?_ (fun _ ha => ap_mu_n M v ha)
  rw [ap_cell_o h h1]
  refine congrArg (fun z => (Sum.inr (ci, z) : va_E)) ?_
  apply List.ext_getElem?
  intro i
  by_cases hi : i < ap_nf ci
  · rw [ap_flds_at hi]
    by_cases hq : k = i
    · subst hq
      rw [List.getElem?_set_self (by rw [List.length_map, List.length_range]; exact hi)]
      unfold ap_fv
      rw [if_pos hf, ap_mu_s, pk_us]
    · rw [List.getElem?_set_ne hq, ap_flds_at hi]
      unfold ap_fv
      rw [ap_mu_s, pk_un (Ne.symm hq)]
  · rw [List.getElem?_eq_none (by rw [List.length_map, List.length_range]; omega), List.getElem?_eq_none (by rw [List.length_set, List.length_map, List.length_range]; omega)]
/-! what never changes beside the system's own cells -/
def ap_N1 : Cond := .methodLinkNest RX7 62 yX8_far RX8
def ap_N2 : Cond := .methodLinkNest RX2 105 yX8_isCell RX8
def ap_N3 : Cond := .methodLinkNest RX2 109 yX8_far RX8
def ap_N4 : Cond := .fieldLinkNest RX0 47 RX8 "ABOVE" "[I" RX8
def ap_Env (g : ap_G) (U : State) (H : Heap) : Prop :=
  va_K (ap_gD g) ap_classes [(ap_gI g, .int), (ap_gZ g, .boolean)] U ∧ va_Nw ap_N1 U ∧ va_Nw ap_N2 U ∧ va_Nw ap_N3 U ∧ va_Nw ap_N4 U ∧
  (va_Z RX8 "ABOVE" "[I" (.ref (ap_gT g 0)) (ap_gA g) U H ∧ va_T .int (ap_gT g 0) (ap_kN 0) (fun j => .int (ap_kT 0 j)) (ap_gA g) U H) ∧
  (va_Z RX2 "STRIDES_TO_NEXT" "[I" (.ref (ap_gT g 1)) (ap_gA g) U H ∧ va_T .int (ap_gT g 1) (ap_kN 1) (fun j => .int (ap_kT 1 j)) (ap_gA g) U H) ∧
  (va_Z RX0 "BODIES" "[I" (.ref (ap_gT g 2)) (ap_gA g) U H ∧ va_T .int (ap_gT g 2) (ap_kN 2) (fun j => .int (ap_kT 2 j)) (ap_gA g) U H) ∧
  (∀ q ∈ ap_sref, vk_R q.1 q.2.1 q.2.2.1 (ap_gK g q.2.2.2) U) ∧ vk_S 6 ap_sl ap_sb (ap_gK g) (ap_gV g) (ap_gA g) U H ∧
  va_Z RJ0 "COMPACT_STRINGS" "Z" (.int 1) (ap_gA g) U H ∧ va_Zq RJ3 "SIOOBE_FORMATTER" "Ljava/util/function/BiFunction;" (ap_gA g) U H
theorem ap_Env_go {g : ap_G} {s U : State} {H : Heap} {locs : List Loc} (h : ap_Env g s s.heap) (hW : s.WarmedH U.vm) (hS : va_S (ap_gA g) s.heap H locs) : ap_Env g U H := by
  obtain ⟨h1, h2, h3, h4, h5, ⟨h6, h7⟩, ⟨h8, h9⟩, ⟨h10, h11⟩, h12, h13, h14, h15⟩ := h
  have ha := hW.alike
  exact ⟨h1.moved ha, va_Nw.warmM hW h2, va_Nw.warmM hW h3, va_Nw.warmM hW h4, va_Nw.warmF hW h5, ⟨(h6.moved ha).kept hS.2.1, (h7.moved ha).kept hS.2.1⟩, ⟨(h8.moved ha).kept hS.2.1, (h9.moved ha).kept hS.2.1⟩, ⟨(h10.moved ha).kept hS.2.1, (h11.moved ha).kept hS.2.1⟩, fun q hq => vk_R.warm hW (h12 q hq), (h13.moved ha).kept hS.2.1, (h14.moved ha).kept hS.2.1, (h15.moved ha).kept hS.2.1⟩
theorem ap_Env_vm {g : ap_G} {u U : State} {H : Heap} (hv : u.vm = U.vm) (h : ap_Env g u H) : ap_Env g U H := by
  obtain ⟨h1, h2, h3, h4, h5, ⟨h6, h7⟩, ⟨h8, h9⟩, ⟨h10, h11⟩, h12, h13, h14, h15⟩ := h
  have ha : u.vm.Alike U.vm := by rw [hv]; exact Vm.Alike.refl U.vm
  exact ⟨h1.moved ha, va_Nw.same rfl hv h2, va_Nw.same rfl hv h3, va_Nw.same rfl hv h4, va_Nw.same rfl hv h5, ⟨h6.moved ha, h7.moved ha⟩, ⟨h8.moved ha, h9.moved ha⟩, ⟨h10.moved ha, h11.moved ha⟩, fun q hq => vk_R.same hv.symm (h12 q hq), h13.moved ha, h14.moved ha, h15.moved ha⟩
/-! contracts -/
def ap_TW : List Cond := lw_tbl.filter goodWord
theorem ap_tw {k : Nat} {w : Cond} (h : lw_tbl[k]? = some w) (hg : goodWord w = true) : w ∈ ap_TW := List.mem_filter.mpr ⟨List.mem_of_getElem? h, hg⟩
def ap_rm (k : Nat) : Room := { frames := k, cells := 0, slots := 0, locals := 64 * k }
def ap_Pc (g : ap_G) (M : ap_Mem) (av : List Value) : Array Value → State → Prop := va_Pc av (fun U => ap_Env g U U.heap ∧ va_P (ap_gD g) ap_classes (ap_ws g M) U.heap)
def ap_Qc (g : ap_G) (Q : Option Value → ap_Mem → Prop) : Array Value → State → Outcome → State → Prop := fun _ st o t => (∃ (r : Option Value) (M' : ap_Mem), o = .returned r ∧ Q r M' ∧ va_P (ap_gD g) ap_classes (ap_ws g M') t.heap) ∧ va_F (ap_gA g) st t
def ap_Ct (l : Launch) (g : ap_G) (y : MethodName) (cc : ByteArray) (maxL : Nat) (ret : Option FieldType) (k : Nat) (av : List Value) (M : ap_Mem) (Q : Option Value → ap_Mem → Prop) : Prop :=
  Met l y (.code y cc maxL ret :: ap_TW) (ap_rm k) (ap_Pc g M av) (ap_Qc g Q) 0 0 (ap_gA g)
def ap_Qi (K : Int32 → ap_Mem → Prop) : Option Value → ap_Mem → Prop := fun r M => ∃ v : Int32, r = some (.int v) ∧ K v M
def ap_Ql (K : Int64 → ap_Mem → Prop) : Option Value → ap_Mem → Prop := fun r M => ∃ v : Int64, r = some (.long v) ∧ K v M
def ap_Qv (K : ap_Mem → Prop) : Option Value → ap_Mem → Prop := fun r M => r = none ∧ K M
theorem ap_blind {g : ap_G} {M : ap_Mem} {av : List Value} : FrameBlind (ap_Pc g M av) := fun a U gf mk h => ⟨h.1, ap_Env_vm (u := U) (U := U.calling gf mk a) rfl h.2.1, h.2.2⟩
/-! the walk of a body -/
abbrev ap_X : Type := Program × Launch × Env × Room × State × MethodId × Array Value × List Frame × Method × Code × Nat × Nat × (State → Prop)
abbrev xP (x : ap_X) : Program := x.1
abbrev xL (x : ap_X) : Launch := x.2.1
abbrev xE (x : ap_X) : Env := x.2.2.1
abbrev xR (x : ap_X) : Room := x.2.2.2.1
abbrev xS (x : ap_X) : State := x.2.2.2.2.1
abbrev xM (x : ap_X) : MethodId := x.2.2.2.2.2.1
abbrev xA (x : ap_X) : Array Value := x.2.2.2.2.2.2.1
abbrev xB (x : ap_X) : List Frame := x.2.2.2.2.2.2.2.1
abbrev xT (x : ap_X) : Method := x.2.2.2.2.2.2.2.2.1
abbrev xC (x : ap_X) : Code := x.2.2.2.2.2.2.2.2.2.1
abbrev xc (x : ap_X) : Nat := x.2.2.2.2.2.2.2.2.2.2.1
abbrev xs (x : ap_X) : Nat := x.2.2.2.2.2.2.2.2.2.2.2.1
abbrev xZ (x : ap_X) : State → Prop := x.2.2.2.2.2.2.2.2.2.2.2.2
def ap_Wx (x : ap_X) (H : Heap) (locs : List Loc) (gf : JFrame) : Prop := W (xP x) (xL x) (xE x) (xR x) (xS x) (xM x) (xA x) (xB x) (xT x) (xC x) H locs (xc x) (xs x) (xZ x) gf
def ap_V (x : ap_X) (g : ap_G) (nL pc : Nat) (lo : List (Nat × Value)) (st : List Value) (M : ap_Mem) : Prop :=
  ∀ (ls : Array Slot) (H : Heap) (locs : List Loc), lv_has ls nL lo → va_P (ap_gD g) ap_classes (ap_ws g M) H → va_S (ap_gA g) (xS x).heap H locs → ap_Wx x H locs (F0 (xM x) pc ls st)
def ap_Cx (x : ap_X) (g : ap_G) (cc : ByteArray) (own : String) (nL : Nat) : Prop :=
  (xP x).tables.exec = Jvm.exec ∧ (xC x).code = cc ∧ (xC x).maxLocals = nL ∧ (xS x).vm.findClass own = some (xM x).cls ∧ (∀ w ∈ ap_TW, w.before (xA x) (xS x) = true) ∧ (xT x).locks = false ∧ ap_Env g (xS x) (xS x).heap ∧ ap_GOK g ∧ xc x ≤ (xR x).cells ∧ xs x ≤ (xR x).slots
def ap_Ends (x : ap_X) (g : ap_G) (k : Nat) (ret : Option FieldType) (Q : Option Value → ap_Mem → Prop) : Prop :=
  xR x = ap_rm k ∧ xc x = 0 ∧ xs x = 0 ∧ xZ x = MQ (xB x) (ap_Qc g Q) (xA x) (xS x) 0 0 (ap_gA g) ∧ (xT x).sig.returnType = ret
theorem ap_Ct_of {l : Launch} {g : ap_G} {y : MethodName} {cc : ByteArray} {maxL : Nat} {ret : Option FieldType} {k : Nat} {av : List Value} {M : ap_Mem} {Q : Option Value → ap_Mem → Prop} (hg : ap_GOK g) (hy : plainName y.cls = true) (hlen : (lg_sl av).length ≤ maxL)
    (h : ∀ x : ap_X, xL x = l → ap_Cx x g cc y.cls maxL → ap_Ends x g k ret Q → ap_V x g maxL 0 (lv_args 0 av) [] M) : ap_Ct l g y cc maxL ret k av M Q := by
  refine Met.ofW (ws' := ap_TW) hy rfl ?_
  intro p e s m args below meth c s₁ B hml hP
  obtain ⟨rfl, hE, hPw⟩ := hP
  have hl := lv_entry av hlen
  have H := h (p, l, e, ap_rm k, s, m, av.toArray, below, meth, c, 0, 0, MQ below (ap_Qc g Q) av.toArray s 0 0 (ap_gA g)) rfl
    ⟨B.exec, B.bytes, hml, findClass_of_methodNamed B.named, fun w hw => atoms_spec B.pre w (List.mem_cons_of_mem _ hw), B.notSynchronized, hE, hg, Nat.le_refl _, Nat.le_refl _⟩ ⟨rfl, rfl, rfl, rfl, B.returns⟩
  rw [lg_entry_eq]
  exact H _ s.heap [] hl hPw va_S.rf
