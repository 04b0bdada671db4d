theorem ap_eqr {args : Array Value} {s : State} {t u : Term} {a : Nat} (h : (Cond.eq t u).before args s = true) (ht : t.eval args s none [] s = some (.ref a)) : u.eval args s none [] s = some (.ref a) := by
  cases hu : u.eval args s none [] s with
  | none => simp [Cond.before, Cond.holds, Cond.value, ht, hu] at h
  | some w =>
    simp only [Cond.before, Cond.holds, Cond.value, ht, hu] at h
    cases w <;> simp_all
theorem ap_arr {args : Array Value} {s : State} {ty : FieldType} (h : (Cond.arrayClass ty).before args s = true) : ∃ cA : ClassId, ArrOfT s cA ty ∧ s.vm.findClass ("[" ++ ty.toString) = some cA := by
  obtain ⟨cA, kA, comp, hfind, hk, hkind⟩ := Cond.arrayClass_spec h
  exact ⟨cA, fun n z => ⟨fun k h => (by cases h), kA, hk, comp, hkind⟩, hfind⟩
theorem ap_tab0 {b : Nat} {s : State} {A : Nat → Prop} (hs : ∀ c ∈ flatC (Jvm.Cond.and given_1 narrow_1), c.before #[Value.ref b] s = true) (hts : ∀ w ∈ lw_tbl, w.before #[Value.ref b] s = true) (hA : ∀ a : Nat, a < s.heap.size → ¬ A a) : ∃ t : Nat, va_Z RX8 "ABOVE" "[I" (.ref t) A s s.heap ∧ va_T .int t (ap_kN 0) (fun j => .int (ap_kT 0 j)) A s s.heap := by
  have hel : ∀ j : Nat, j < 7 → (Term.elem (.static "AheadOfPerson" "ABOVE" "[I") (.int (Int32.ofNat j))).eval #[Value.ref b] s none [] s = some (.int (ap_kT 0 j)) := by
    intro j hj
    rcases (by omega : j = 0 ∨ j = 1 ∨ j = 2 ∨ j = 3 ∨ j = 4 ∨ j = 5 ∨ j = 6) with rfl | rfl | rfl | rfl | rfl | rfl | rfl
    · exact va_eqt (hs _ (by decide +kernel))
    · exact va_eqt (hs _ (by decide +kernel))
    · exact va_eqt (hs _ (by decide +kernel))
    · exact va_eqt (hs _ (by decide +kernel))
    · exact va_eqt (hs _ (by decide +kernel))
    · exact va_eqt (hs _ (by decide +kernel))
    · exact va_eqt (hs _ (by decide +kernel))
  obtain ⟨t, ht, hT⟩ := va_Tof (tm := .static "AheadOfPerson" "ABOVE" "[I") (ty := .int) (N := 7) (f := fun j => .int (ap_kT 0 j)) (A := A) (by decide) (hs _ (by decide +kernel)) (va_eqt (hs _ (by decide +kernel))) hel hA
  exact ⟨t, va_Zref (hts _ (List.mem_of_getElem? (i := 848) (by decide +kernel))) (hts _ (List.mem_of_getElem? (i := 53) (by decide +kernel))) ht hA, hT⟩
theorem ap_tab1 {b : Nat} {s : State} {A : Nat → Prop} (hs : ∀ c ∈ flatC (Jvm.Cond.and given_1 narrow_1), c.before #[Value.ref b] s = true) (hts : ∀ w ∈ lw_tbl, w.before #[Value.ref b] s = true) (hA : ∀ a : Nat, a < s.heap.size → ¬ A a) : ∃ t : Nat, va_Z RX2 "STRIDES_TO_NEXT" "[I" (.ref t) A s s.heap ∧ va_T .int t (ap_kN 1) (fun j => .int (ap_kT 1 j)) A s s.heap := by
  have hel : ∀ j : Nat, j < 4 → (Term.elem (.static "AheadOfPerson$Course" "STRIDES_TO_NEXT" "[I") (.int (Int32.ofNat j))).eval #[Value.ref b] s none [] s = some (.int (ap_kT 1 j)) := by
    intro j hj
    rcases (by omega : j = 0 ∨ j = 1 ∨ j = 2 ∨ j = 3) with rfl | rfl | rfl | rfl
    · exact va_eqt (hs _ (by decide +kernel))
    · exact va_eqt (hs _ (by decide +kernel))
    · exact va_eqt (hs _ (by decide +kernel))
    · exact va_eqt (hs _ (by decide +kernel))
  obtain ⟨t, ht, hT⟩ := va_Tof (tm := .static "AheadOfPerson$Course" "STRIDES_TO_NEXT" "[I") (ty := .int) (N := 4) (f := fun j => .int (ap_kT 1 j)) (A := A) (by decide) (hs _ (by decide +kernel)) (va_eqt (hs _ (by decide +kernel))) hel hA
  exact ⟨t, va_Zref (hts _ (List.mem_of_getElem? (i := 718) (by decide +kernel))) (hts _ (List.mem_of_getElem? (i := 61) (by decide +kernel))) ht hA, hT⟩
theorem ap_tab2 {b : Nat} {s : State} {A : Nat → Prop} (hs : ∀ c ∈ flatC (Jvm.Cond.and given_1 narrow_1), c.before #[Value.ref b] s = true) (hts : ∀ w ∈ lw_tbl, w.before #[Value.ref b] s = true) (hA : ∀ a : Nat, a < s.heap.size → ¬ A a) : ∃ t : Nat, va_Z RX0 "BODIES" "[I" (.ref t) A s s.heap ∧ va_T .int t (ap_kN 2) (fun j => .int (ap_kT 2 j)) A s s.heap := by
  have hel : ∀ j : Nat, j < 21 → (Term.elem (.static "AheadOfPerson$Acts" "BODIES" "[I") (.int (Int32.ofNat j))).eval #[Value.ref b] s none [] s = some (.int (ap_kT 2 j)) := by
    intro j hj
    rcases (by omega : j = 0 ∨ j = 1 ∨ j = 2 ∨ j = 3 ∨ j = 4 ∨ j = 5 ∨ j = 6 ∨ j = 7 ∨ j = 8 ∨ j = 9 ∨ j = 10 ∨ j = 11 ∨ j = 12 ∨ j = 13 ∨ j = 14 ∨ j = 15 ∨ j = 16 ∨ j = 17 ∨ j = 18 ∨ j = 19 ∨ j = 20) with rfl | rfl | rfl | rfl | rfl | rfl | rfl | rfl | rfl | rfl | rfl | rfl | rfl | rfl | rfl | rfl | rfl | rfl | rfl | rfl | rfl
    · exact va_eqt (hs _ (by decide +kernel))
    · exact va_eqt (hs _ (by decide +kernel))
    · exact va_eqt (hs _ (by decide +kernel))
    · exact va_eqt (hs _ (by decide +kernel))
    · exact va_eqt (hs _ (by decide +kernel))
    · exact va_eqt (hs _ (by decide +kernel))
    · exact va_eqt (hs _ (by decide +kernel))
    · exact va_eqt (hs _ (by decide +kernel))
    · exact va_eqt (hs _ (by decide +kernel))
    · exact va_eqt (hs _ (by decide +kernel))
    · exact va_eqt (hs _ (by decide +kernel))
    · exact va_eqt (hs _ (by decide +kernel))
    · exact va_eqt (hs _ (by decide +kernel))
    · exact va_eqt (hs _ (by decide +kernel))
    · exact va_eqt (hs _ (by decide +kernel))
    · exact va_eqt (hs _ (by decide +kernel))
    · exact va_eqt (hs _ (by decide +kernel))
    · exact va_eqt (hs _ (by decide +kernel))
    · exact va_eqt (hs _ (by decide +kernel))
    · exact va_eqt (hs _ (by decide +kernel))
    · exact va_eqt (hs _ (by decide +kernel))
  obtain ⟨t, ht, hT⟩ := va_Tof (tm := .static "AheadOfPerson$Acts" "BODIES" "[I") (ty := .int) (N := 21) (f := fun j => .int (ap_kT 2 j)) (A := A) (by decide) (hs _ (by decide +kernel)) (va_eqt (hs _ (by decide +kernel))) hel hA
  exact ⟨t, va_Zref (hts _ (List.mem_of_getElem? (i := 846) (by decide +kernel))) (hts _ (List.mem_of_getElem? (i := 62) (by decide +kernel))) ht hA, hT⟩
def ap_tm : Nat → Term := fun i => match i with | 0 => Term.string "AheadOfPerson$Reader" 66 | 1 => Term.string "AheadOfPerson$Reader" 68 | 2 => Term.string "AheadOfPerson$Reader" 70 | 3 => Term.string "AheadOfPerson$Reader" 122 | 4 => Term.string "AheadOfPerson$Reader" 104 | _ => Term.string "AheadOfPerson$Reader" 110
theorem ap_texts {b : Nat} {s : State} {A : Nat → Prop} (hs : ∀ c ∈ flatC (Jvm.Cond.and given_1 narrow_1), c.before #[Value.ref b] s = true) (hts : ∀ w ∈ lw_tbl, w.before #[Value.ref b] s = true) (hA : ∀ a : Nat, a < s.heap.size → ¬ A a) : ∃ sK sV : Nat → Nat, vk_S 6 ap_sl ap_sb sK sV A s s.heap ∧ ∀ q ∈ ap_sref, vk_R q.1 q.2.1 q.2.2.1 (sK q.2.2.2) s := by
  have hel : ∀ i : Nat, i < 6 → ∀ j : Nat, j < ap_sl.getD i 0 → (Cond.eq (.elem (.field (ap_tm i) "java/lang/String" "value" "[B") (.int (Int32.ofNat j))) (.int ((ap_sb.getD i []).getD j 0))).before #[Value.ref b] s = true := by
    intro i hi j hj
    rcases (by omega : i = 0 ∨ i = 1 ∨ i = 2 ∨ i = 3 ∨ i = 4 ∨ i = 5) with rfl | rfl | rfl | rfl | rfl | rfl
    · rcases (by have h9 : ap_sl.getD 0 0 = 6 := rfl; omega : j = 0 ∨ j = 1 ∨ j = 2 ∨ j = 3 ∨ j = 4 ∨ j = 5) with rfl | rfl | rfl | rfl | rfl | rfl <;> exact hs _ (by decide +kernel)
    · rcases (by have h9 : ap_sl.getD 1 0 = 5 := rfl; omega : j = 0 ∨ j = 1 ∨ j = 2 ∨ j = 3 ∨ j = 4) with rfl | rfl | rfl | rfl | rfl <;> exact hs _ (by decide +kernel)
    · rcases (by have h9 : ap_sl.getD 2 0 = 4 := rfl; omega : j = 0 ∨ j = 1 ∨ j = 2 ∨ j = 3) with rfl | rfl | rfl | rfl <;> exact hs _ (by decide +kernel)
    · rcases (by have h9 : ap_sl.getD 3 0 = 10 := rfl; omega : j = 0 ∨ j = 1 ∨ j = 2 ∨ j = 3 ∨ j = 4 ∨ j = 5 ∨ j = 6 ∨ j = 7 ∨ j = 8 ∨ j = 9) with rfl | rfl | rfl | rfl | rfl | rfl | rfl | rfl | rfl | rfl <;> exact hs _ (by decide +kernel)
    · rcases (by have h9 : ap_sl.getD 4 0 = 6 := rfl; omega : j = 0 ∨ j = 1 ∨ j = 2 ∨ j = 3 ∨ j = 4 ∨ j = 5) with rfl | rfl | rfl | rfl | rfl | rfl <;> exact hs _ (by decide +kernel)
    · rcases (by have h9 : ap_sl.getD 5 0 = 3 := rfl; omega : j = 0 ∨ j = 1 ∨ j = 2) with rfl | rfl | rfl <;> exact hs _ (by decide +kernel)
  have hne : ∀ i j : Nat, i < 6 → j < 6 → i ≠ j → (Cond.not (Cond.eq (ap_tm i) (ap_tm j))).before #[Value.ref b] s = true ∨ (Cond.not (Cond.eq (ap_tm j) (ap_tm i))).before #[Value.ref b] s = true := by
    intro i j hi hj hij
    rcases (by omega : i = 0 ∨ i = 1 ∨ i = 2 ∨ i = 3 ∨ i = 4 ∨ i = 5) with rfl | rfl | rfl | rfl | rfl | rfl <;> rcases (by omega : j = 0 ∨ j = 1 ∨ j = 2 ∨ j = 3 ∨ j = 4 ∨ j = 5) with rfl | rfl | rfl | rfl | rfl | rfl
    · exact absurd rfl hij
    · exact Or.inl (hs _ (by decide +kernel))
    · exact Or.inl (hs _ (by decide +kernel))
    · exact Or.inl (hs _ (by decide +kernel))
    · exact Or.inl (hs _ (by decide +kernel))
    · exact Or.inl (hs _ (by decide +kernel))
    · exact Or.inr (hs _ (by decide +kernel))
    · exact absurd rfl hij
    · exact Or.inl (hs _ (by decide +kernel))
    · exact Or.inl (hs _ (by decide +kernel))
    · exact Or.inl (hs _ (by decide +kernel))
    · exact Or.inl (hs _ (by decide +kernel))
    · exact Or.inr (hs _ (by decide +kernel))
    · exact Or.inr (hs _ (by decide +kernel))
    · exact absurd rfl hij
    · exact Or.inl (hs _ (by decide +kernel))
    · exact Or.inl (hs _ (by decide +kernel))
    · exact Or.inl (hs _ (by decide +kernel))
    · exact Or.inr (hs _ (by decide +kernel))
    · exact Or.inr (hs _ (by decide +kernel))
    · exact Or.inr (hs _ (by decide +kernel))
    · exact absurd rfl hij
    · exact Or.inl (hs _ (by decide +kernel))
    · exact Or.inl (hs _ (by decide +kernel))
    · exact Or.inr (hs _ (by decide +kernel))
    · exact Or.inr (hs _ (by decide +kernel))
    · exact Or.inr (hs _ (by decide +kernel))
    · exact Or.inr (hs _ (by decide +kernel))
    · exact absurd rfl hij
    · exact Or.inl (hs _ (by decide +kernel))
    · exact Or.inr (hs _ (by decide +kernel))
    · exact Or.inr (hs _ (by decide +kernel))
    · exact Or.inr (hs _ (by decide +kernel))
    · exact Or.inr (hs _ (by decide +kernel))
    · exact Or.inr (hs _ (by decide +kernel))
    · exact absurd rfl hij
  obtain ⟨sK, sV, h1, h2⟩ := vk_Sof (N := 6) (tm := ap_tm) (len := ap_sl) (byt := ap_sb) (A := A) (fun i hi => by rcases (by omega : i = 0 ∨ i = 1 ∨ i = 2 ∨ i = 3 ∨ i = 4 ∨ i = 5) with rfl | rfl | rfl | rfl | rfl | rfl <;> decide +kernel) (fun i hi => by rcases (by omega : i = 0 ∨ i = 1 ∨ i = 2 ∨ i = 3 ∨ i = 4 ∨ i = 5) with rfl | rfl | rfl | rfl | rfl | rfl <;> exact hs _ (by decide +kernel)) (fun i hi => by rcases (by omega : i = 0 ∨ i = 1 ∨ i = 2 ∨ i = 3 ∨ i = 4 ∨ i = 5) with rfl | rfl | rfl | rfl | rfl | rfl <;> exact hs _ (by decide +kernel)) (fun i hi => by rcases (by omega : i = 0 ∨ i = 1 ∨ i = 2 ∨ i = 3 ∨ i = 4 ∨ i = 5) with rfl | rfl | rfl | rfl | rfl | rfl <;> exact hs _ (by decide +kernel)) (fun i hi => by rcases (by omega : i = 0 ∨ i = 1 ∨ i = 2 ∨ i = 3 ∨ i = 4 ∨ i = 5) with rfl | rfl | rfl | rfl | rfl | rfl <;> exact hs _ (by decide +kernel)) hel hne hA
  refine ⟨sK, sV, h1, fun q hq => ?_⟩
  rcases List.mem_cons.mp hq with rfl | hq
  · exact vk_R.of (hts _ (List.mem_of_getElem? (i := 408) (by decide +kernel))) (h2 0 (by decide))
  rcases List.mem_cons.mp hq with rfl | hq
  · exact vk_R.of (hts _ (List.mem_of_getElem? (i := 409) (by decide +kernel))) (h2 1 (by decide))
  rcases List.mem_cons.mp hq with rfl | hq
  · exact vk_R.of (hts _ (List.mem_of_getElem? (i := 410) (by decide +kernel))) (h2 2 (by decide))
  rcases List.mem_cons.mp hq with rfl | hq
  · exact vk_R.of (hts _ (List.mem_of_getElem? (i := 471) (by decide +kernel))) (h2 3 (by decide))
  rcases List.mem_cons.mp hq with rfl | hq
  · exact vk_R.of (hts _ (List.mem_of_getElem? (i := 553) (by decide +kernel))) (h2 4 (by decide))
  rcases List.mem_cons.mp hq with rfl | hq
  · exact vk_R.of (hts _ (List.mem_of_getElem? (i := 554) (by decide +kernel))) (h2 5 (by decide))
  rcases List.mem_cons.mp hq with rfl | hq
  · exact vk_R.of (hts _ (List.mem_of_getElem? (i := 964) (by decide +kernel))) (ap_eqr (t := Term.string "AheadOfPerson$Reader" 66) (hs _ (by decide +kernel)) (h2 0 (by decide)))
  rcases List.mem_cons.mp hq with rfl | hq
  · exact vk_R.of (hts _ (List.mem_of_getElem? (i := 983) (by decide +kernel))) (ap_eqr (t := Term.string "AheadOfPerson$Reader" 68) (hs _ (by decide +kernel)) (h2 1 (by decide)))
  rcases List.mem_cons.mp hq with rfl | hq
  · exact vk_R.of (hts _ (List.mem_of_getElem? (i := 1004) (by decide +kernel))) (ap_eqr (t := Term.string "AheadOfPerson$Reader" 104) (hs _ (by decide +kernel)) (h2 4 (by decide)))
  rcases List.mem_cons.mp hq with rfl | hq
  · exact vk_R.of (hts _ (List.mem_of_getElem? (i := 1009) (by decide +kernel))) (ap_eqr (t := Term.string "AheadOfPerson$Reader" 110) (hs _ (by decide +kernel)) (h2 5 (by decide)))
  rcases List.mem_cons.mp hq with rfl | hq
  · exact vk_R.of (hts _ (List.mem_of_getElem? (i := 1010) (by decide +kernel))) (ap_eqr (t := Term.string "AheadOfPerson$Reader" 70) (hs _ (by decide +kernel)) (h2 2 (by decide)))
  exact absurd hq List.not_mem_nil

set_option maxRecDepth 1000000 in
set_option maxHeartbeats 4000000 in
theorem ap_flat (D : va_G) (A : Nat → Prop) (a1 a2 gT gK gV : Nat → Nat) (cI cZ : ClassId) : ([] ++ wl_Ahead cI cZ a1) ++ wl_Model cI cZ a2 = ap_ws (D, A, (fun i => if i < 98 then a1 i else a2 (i - 98)), gT, gK, gV, cI, cZ) ap_M0 := rfl
/-- what holds at the law's entry -/
def lw_At (p : Program) (s : State) (m : MethodId) (meth : Method) (c : Code) (b L : Nat) (xs : Nat → Int32) : Prop :=
  p.tables.exec = Jvm.exec ∧ c.code = code ∧ meth.sig.returnType = ret ∧ c.maxLocals = 4 ∧ s.vm.findClass R_law = some m.cls ∧ (∀ w ∈ lw_tbl, w.before #[Value.ref b] s = true) ∧ va_X b L xs s s.heap ∧ b < s.heap.size ∧ meth.locks = false ∧ (Jvm.Cond.and given_1 narrow_1).before #[Value.ref b] s = true
theorem cl_R_law_7 : Cond.classLink R_law 7 RX8 ∈ ap_TW := ap_tw (k := 71) (by decide +kernel) (by decide +kernel)
theorem cl_R_law_10 : Cond.classLink R_law 10 RX9 ∈ ap_TW := ap_tw (k := 887) (by decide +kernel) (by decide +kernel)
theorem ml_R_law_9 : Cond.methodLink R_law 9 yX8_init ∈ ap_TW := ap_tw (k := 73) (by decide +kernel) (by decide +kernel)
theorem ml_R_law_12 : Cond.methodLink R_law 12 yX9_init ∈ ap_TW := ap_tw (k := 889) (by decide +kernel) (by decide +kernel)
theorem im_8 : Cond.instantiable RX8 6 ∈ ap_TW ∧ Cond.initialized RX8 ∈ ap_TW := ⟨ap_tw (k := 72) (by decide +kernel) (by decide +kernel), ap_tw (k := 53) (by decide +kernel) (by decide +kernel)⟩
theorem df_8 : ∀ j, j < 6 → defaultValue (tyX8 j) = vp_V [.null, .null, .int 0, .null, .null, .null] j := by decide +kernel
theorem lk_X8_init : ap_LK yX8_init cX8_init 1 none 0 := ⟨⟨ap_tw (k := 75) (by decide +kernel) (by decide +kernel), ap_tw (k := 53) (by decide +kernel) (by decide +kernel), by decide⟩, by decide +kernel, by decide +kernel, by decide +kernel⟩
theorem li_X8_init : Cond.instanceMethod yX8_init ∈ ap_TW := ap_tw (k := 74) (by decide +kernel) (by decide +kernel)
theorem im_9 : Cond.instantiable RX9 17 ∈ ap_TW ∧ Cond.initialized RX9 ∈ ap_TW := ⟨ap_tw (k := 888) (by decide +kernel) (by decide +kernel), ap_tw (k := 63) (by decide +kernel) (by decide +kernel)⟩
theorem df_9 : ∀ j, j < 17 → defaultValue (tyX9 j) = vp_V [.int 0, .null, .null, .null, .int 0, .int 0, .int 0, .int 0, .int 0, .int 0, .null, .null, .null, .int 0, .int 0, .int 0, .int 0] j := by decide +kernel
theorem lk_X9_init : ap_LK yX9_init cX9_init 1 none 0 := ⟨⟨ap_tw (k := 891) (by decide +kernel) (by decide +kernel), ap_tw (k := 63) (by decide +kernel) (by decide +kernel), by decide⟩, by decide +kernel, by decide +kernel, by decide +kernel⟩
theorem li_X9_init : Cond.instanceMethod yX9_init ∈ ap_TW := ap_tw (k := 890) (by decide +kernel) (by decide +kernel)
set_option maxHeartbeats 8000000 in
set_option maxRecDepth 1000000 in
theorem ap_env {b : Nat} {s : State} (hs : ∀ c ∈ flatC (Jvm.Cond.and given_1 narrow_1), c.before #[Value.ref b] s = true) (hts : ∀ w ∈ lw_tbl, w.before #[Value.ref b] s = true) :
    ∃ (D : va_G) (gT gK gV : Nat → Nat) (cI cZ : ClassId), ap_Kc D cI cZ s ∧ ∀ ad : Nat → Nat, ap_Env (D, (fun q : Nat => s.heap.size ≤ q), ad, gT, gK, gV, cI, cZ) s s.heap := by
  have hA : ∀ a : Nat, a < s.heap.size → ¬ (fun q : Nat => s.heap.size ≤ q) a := fun a h => Nat.not_le.mpr h
  obtain ⟨cI, hI1, hI2⟩ := ap_arr (ty := .int) (hts _ (List.mem_of_getElem? (i := 112) (by decide +kernel)))
  obtain ⟨cZ, hZ1, hZ2⟩ := ap_arr (ty := .boolean) (hts _ (List.mem_of_getElem? (i := 944) (by decide +kernel)))
  obtain ⟨c0, i0, k0⟩ := u_known (C := RX0) (T := TX0) (N := 5) (n := 5) hts (fun w hw => (List.mem_filter.mp (in_X0 w hw)).1) (hts _ (List.mem_filter.mp im_0.1).1)
  obtain ⟨c1, i1, k1⟩ := u_known (C := RX1) (T := TX1) (N := 3) (n := 3) hts (fun w hw => (List.mem_filter.mp (in_X1 w hw)).1) (hts _ (List.mem_filter.mp im_1.1).1)
  obtain ⟨c2, i2, k2⟩ := u_known (C := RX2) (T := TX2) (N := 6) (n := 6) hts (fun w hw => (List.mem_filter.mp (in_X2 w hw)).1) (hts _ (List.mem_filter.mp im_2.1).1)
  obtain ⟨c3, i3, k3⟩ := u_known (C := RX3) (T := TX3) (N := 6) (n := 6) hts (fun w hw => (List.mem_filter.mp (in_X3 w hw)).1) (hts _ (List.mem_filter.mp im_3.1).1)
  obtain ⟨c4, i4, k4⟩ := u_known (C := RX4) (T := TX4) (N := 7) (n := 7) hts (fun w hw => (List.mem_filter.mp (in_X4 w hw)).1) (hts _ (List.mem_filter.mp im_4.1).1)
  obtain ⟨c5, i5, k5⟩ := u_known (C := RX5) (T := TX5) (N := 3) (n := 3) hts (fun w hw => (List.mem_filter.mp (in_X5 w hw)).1) (hts _ (List.mem_filter.mp im_5.1).1)
  obtain ⟨c6, i6, k6⟩ := u_known (C := RX6) (T := TX6) (N := 9) (n := 9) hts (fun w hw => (List.mem_filter.mp (in_X6 w hw)).1) (hts _ (List.mem_filter.mp im_6.1).1)
  obtain ⟨c7, i7, k7⟩ := u_known (C := RX7) (T := TX7) (N := 11) (n := 11) hts (fun w hw => (List.mem_filter.mp (in_X7 w hw)).1) (hts _ (List.mem_filter.mp im_7.1).1)
  obtain ⟨c8, i8, k8⟩ := u_known (C := RX8) (T := TX8) (N := 6) (n := 6) hts (fun w hw => (List.mem_filter.mp (in_X8 w hw)).1) (hts _ (List.mem_filter.mp im_8.1).1)
  obtain ⟨c9, i9, k9⟩ := u_known (C := RX9) (T := TX9) (N := 17) (n := 17) hts (fun w hw => (List.mem_filter.mp (in_X9 w hw)).1) (hts _ (List.mem_filter.mp im_9.1).1)
  obtain ⟨dC, dI, hKc⟩ : ∃ (dC : Nat → ClassId) (dI : Nat → Nat → Nat), ∀ (k : Nat) (q : vw_C), ap_classes[k]? = some q → u_Kn s q.1 q.2.1 q.2.2 (dC k) (dI k) := by
    refine ⟨fun k => if k = 0 then c0 else if k = 1 then c1 else if k = 2 then c2 else if k = 3 then c3 else if k = 4 then c4 else if k = 5 then c5 else if k = 6 then c6 else if k = 7 then c7 else if k = 8 then c8 else c9, fun k => if k = 0 then i0 else if k = 1 then i1 else if k = 2 then i2 else if k = 3 then i3 else if k = 4 then i4 else if k = 5 then i5 else if k = 6 then i6 else if k = 7 then i7 else if k = 8 then i8 else i9, ?_⟩
    intro k q hq
    match k, hq with
    | 0, hq => cases hq; exact k0
    | 1, hq => cases hq; exact k1
    | 2, hq => cases hq; exact k2
    | 3, hq => cases hq; exact k3
    | 4, hq => cases hq; exact k4
    | 5, hq => cases hq; exact k5
    | 6, hq => cases hq; exact k6
    | 7, hq => cases hq; exact k7
    | 8, hq => cases hq; exact k8
    | 9, hq => cases hq; exact k9
    | k + 10, hq => simp [ap_classes] at hq
  obtain ⟨t0, z0, y0⟩ := ap_tab0 hs hts hA
  obtain ⟨t1, z1, y1⟩ := ap_tab1 hs hts hA
  obtain ⟨t2, z2, y2⟩ := ap_tab2 hs hts hA
  obtain ⟨sK, sV, hS1, hS2⟩ := ap_texts hs hts hA
  have hK : va_K (dC, dI) ap_classes [(cI, .int), (cZ, .boolean)] s := by
    refine ⟨hKc, fun k q hq => ?_⟩
    match k, hq with
    | 0, hq => cases hq; exact ⟨hI1, hI2⟩
    | 1, hq => cases hq; exact ⟨hZ1, hZ2⟩
    | k + 2, hq => simp at hq
  refine ⟨(dC, dI), (fun j => if j = 0 then t0 else if j = 1 then t1 else t2), sK, sV, cI, cZ, ⟨hK, ?_⟩, fun ad => ⟨hK, va_Nw.of rfl (hts _ (List.mem_of_getElem? (i := 647) (by decide +kernel))), va_Nw.of rfl (hts _ (List.mem_of_getElem? (i := 719) (by decide +kernel))), va_Nw.of rfl (hts _ (List.mem_of_getElem? (i := 720) (by decide +kernel))), va_Nw.of rfl (hts _ (List.mem_of_getElem? (i := 847) (by decide +kernel))), ⟨z0, y0⟩, ⟨z1, y1⟩, ⟨z2, y2⟩, hS2, hS1, ?_, ?_⟩⟩
  · intro w hw
    rcases List.mem_cons.mp hw with rfl | hw
    · exact va_Nw.of rfl (hts _ (List.mem_of_getElem? (i := 81) (by decide +kernel)))
    rcases List.mem_cons.mp hw with rfl | hw
    · exact va_Nw.of rfl (hts _ (List.mem_of_getElem? (i := 115) (by decide +kernel)))
    rcases List.mem_cons.mp hw with rfl | hw
    · exact va_Nw.of rfl (hts _ (List.mem_of_getElem? (i := 160) (by decide +kernel)))
    rcases List.mem_cons.mp hw with rfl | hw
    · exact va_Nw.of rfl (hts _ (List.mem_of_getElem? (i := 201) (by decide +kernel)))
    rcases List.mem_cons.mp hw with rfl | hw
    · exact va_Nw.of rfl (hts _ (List.mem_of_getElem? (i := 263) (by decide +kernel)))
    rcases List.mem_cons.mp hw with rfl | hw
    · exact va_Nw.of rfl (hts _ (List.mem_of_getElem? (i := 268) (by decide +kernel)))
    rcases List.mem_cons.mp hw with rfl | hw
    · exact va_Nw.of rfl (hts _ (List.mem_of_getElem? (i := 297) (by decide +kernel)))
    rcases List.mem_cons.mp hw with rfl | hw
    · exact va_Nw.of rfl (hts _ (List.mem_of_getElem? (i := 302) (by decide +kernel)))
    rcases List.mem_cons.mp hw with rfl | hw
    · exact va_Nw.of rfl (hts _ (List.mem_of_getElem? (i := 304) (by decide +kernel)))
    rcases List.mem_cons.mp hw with rfl | hw
    · exact va_Nw.of rfl (hts _ (List.mem_of_getElem? (i := 306) (by decide +kernel)))
    rcases List.mem_cons.mp hw with rfl | hw
    · exact va_Nw.of rfl (hts _ (List.mem_of_getElem? (i := 330) (by decide +kernel)))
    exact absurd hw List.not_mem_nil
  · exact va_Zof (hts _ (List.mem_of_getElem? (i := 424) (by decide +kernel))) (hts _ (List.mem_of_getElem? (i := 64) (by decide +kernel))) (va_eqi (hs _ (by decide +kernel))) hA
  · exact va_Zqof (hts _ (List.mem_of_getElem? (i := 440) (by decide +kernel))) (hts _ (List.mem_of_getElem? (i := 66) (by decide +kernel))) (hs _ (by decide +kernel)) hA
set_option maxHeartbeats 8000000 in
set_option maxRecDepth 1000000 in
theorem whole_start {p : Program} {e : Env} {s : State} {m : MethodId} {below : List Frame} {meth : Method} {c : Code} (l : Launch) (hflags : l.flags = flags0) {b L : Nat} {xs : Nat → Int32} (hL : L ≤ 2048) (C0 : lw_At p s m meth c b L xs) : W p l e room_1 s m #[Value.ref b] below meth c s.heap [] 0 0 (lw_Z below #[Value.ref b] s) (entryFrame m ([Value.ref b] : List Value).toArray 4) := by
  obtain ⟨hx, hb, hr, hml, hown, hts, hX, hbl, hlocks, hgv⟩ := C0
  obtain ⟨D, gT, gK, gV, cI, cZ, hKc, hEnv⟩ := ap_env (flat_of_before _ hgv) hts
  have hci : ap_Ci (p, l, e, room_1, s, m, #[Value.ref b], below, meth, c, 105, 4775, lw_Z below #[Value.ref b] s) D (fun q : Nat => s.heap.size ≤ q) cI cZ code R_law 4 := ⟨hx, hb, hml, hown, fun w hw => hts w (List.mem_filter.mp hw).1, hlocks, hKc, fun q h => h⟩
  have hl := lv_entry ([.ref b]) (n := 4) (Nat.le_of_ble_eq_true rfl)
  rw [lg_entry_eq]
  generalize (lg_sl ([.ref b]) ++ List.replicate (4 - (lg_sl ([.ref b])).length) Slot.unset).toArray = ls at hl ⊢
  have hl : lv_has ls 4 [(0, .ref b)] := hl
  suffices h : ap_U (p, l, e, room_1, s, m, #[Value.ref b], below, meth, c, 105, 4775, lw_Z below #[Value.ref b] s) D (fun q : Nat => s.heap.size ≤ q) 4 0 [(0, .ref b)] [] [] 0 0 from h ls s.heap [] hl (fun k q h => by simp at h) ⟨fun i j p q h => by simp at h, fun k q h => by simp at h⟩ va_S.rf
  refine ap_Unew (q := 3) (ci := 8) (fs := [.null, .null, .int 0, .null, .null, .null]) rfl in_X8 tyX8_ok cl_R_law_7 im_8.1 im_8.2 df_8 (Nat.le_of_ble_eq_true rfl) (Nat.le_of_ble_eq_true rfl) hci dL_law_0 rfl (fun p1 => ?_)
  refine ap_Udup (q := 4) hci dL_law_3 rfl rfl ?_
  refine ap_Ucall (q := 7) (As := []) (wr := []) (ct_Ahead (l := l) (D := D) (cI := cI) (cZ := cZ)) ml_R_law_9 lk_X8_init li_X8_init rfl ⟨Nat.le_of_ble_eq_true rfl, Nat.le_of_ble_eq_true rfl, Nat.le_of_ble_eq_true rfl, Nat.le_of_ble_eq_true rfl⟩ rfl rfl (Nat.le_of_ble_eq_true rfl) hci dL_law_4 rfl (fun a1 e1 => ?_)
  rw [← e1]
  refine ap_Uastore (q := 8) (lo2 := [(1, .ref (a1 0)), (0, .ref b)]) hci dL_law_7 rfl rfl (by decide) rfl ?_
  refine ap_Unew (q := 11) (ci := 9) (fs := [.int 0, .null, .null, .null, .int 0, .int 0, .int 0, .int 0, .int 0, .int 0, .null, .null, .null, .int 0, .int 0, .int 0, .int 0]) rfl in_X9 tyX9_ok cl_R_law_10 im_9.1 im_9.2 df_9 (Nat.le_of_ble_eq_true rfl) (Nat.le_of_ble_eq_true rfl) hci dL_law_8 rfl (fun p2 => ?_)
  refine ap_Udup (q := 12) hci dL_law_11 rfl rfl ?_
  refine ap_Ucall (q := 15) (As := []) (wr := [] ++ wl_Ahead cI cZ a1) (ct_Model (l := l) (D := D) (cI := cI) (cZ := cZ)) ml_R_law_12 lk_X9_init li_X9_init rfl ⟨Nat.le_of_ble_eq_true rfl, Nat.le_of_ble_eq_true rfl, Nat.le_of_ble_eq_true rfl, Nat.le_of_ble_eq_true rfl⟩ rfl rfl (Nat.le_of_ble_eq_true rfl) hci dL_law_12 rfl (fun a2 e2 => ?_)
  rw [← e2]
  refine ap_Uastore (q := 16) (lo2 := [(2, .ref (a2 0)), (1, .ref (a1 0)), (0, .ref b)]) hci dL_law_15 rfl rfl (by decide) rfl ?_
  refine ap_Uiconst (q := 17) hci dL_law_16 rfl ic_0 ?_
  refine ap_Uistore (q := 18) (lo2 := [(3, .int 0), (2, .ref (a2 0)), (1, .ref (a1 0)), (0, .ref b)]) hci dL_law_17 rfl rfl (by decide) rfl ?_
  intro ls H locs hl hP hD hS
  rw [ap_flat D (fun q : Nat => s.heap.size ≤ q) a1 a2 gT gK gV cI cZ] at hP hD
  have hg : ap_GOK (D, (fun q : Nat => s.heap.size ≤ q), (fun i => if i < 98 then a1 i else a2 (i - 98)), gT, gK, gV, cI, cZ) := ⟨fun i j hi hj h => hD.1 i j _ _ (ap_ws_at hi) (ap_ws_at hj) h, fun i hi => hD.2 i _ (ap_ws_at hi)⟩
  have hcx : ap_Cx (p, l, e, room_1, s, m, #[Value.ref b], below, meth, c, 105, 4775, lw_Z below #[Value.ref b] s) (D, (fun q : Nat => s.heap.size ≤ q), (fun i => if i < 98 then a1 i else a2 (i - 98)), gT, gK, gV, cI, cZ) code R_law 4 := ⟨hx, hb, hml, hown, fun w hw => hts w (List.mem_filter.mp hw).1, hlocks, hEnv _, hg, Nat.le_of_ble_eq_true rfl, Nat.le_of_ble_eq_true rfl⟩
  have hLx : ap_Lx (p, l, e, room_1, s, m, #[Value.ref b], below, meth, c, 105, 4775, lw_Z below #[Value.ref b] s) (D, (fun q : Nat => s.heap.size ≤ q), (fun i => if i < 98 then a1 i else a2 (i - 98)), gT, gK, gV, cI, cZ) b L xs := ⟨rfl, rfl, rfl, rfl, Nat.le_of_ble_eq_true rfl, Nat.le_of_ble_eq_true rfl, hr, hX, hbl⟩
  exact bl_L_law_18 hcx hLx 600 0 ap_M0 (ap_pure L xs hL) ls H locs (lv_sub hl [3, 2, 1, 0] rfl) hP hS
set_option maxHeartbeats 4000000 in
theorem lw_walk (l : Launch) (hflags : l.flags = flags0) (b : Addr) (xs : List Int32) : MetFree l x (headSpec (Jvm.Cond.code x code maxLocals ret :: tables_1) room_1) (lw_P b xs) (fun _ _ _ _ _ => True) lw_Q := by
  refine MetFree.of_bodyS (code := code) (maxLocals := maxLocals) (ret := ret) (by decide) ?_ ?_
  · intro args s m h hn
    obtain ⟨meth, c, h1, h2, h3, h4, h5, h6, -, -⟩ := Cond.code_spec hn (atoms_spec (ws := Jvm.Cond.code x code maxLocals ret :: tables_1) h _ List.mem_cons_self)
    exact ⟨meth, c, h1, h2, h3, h4, h5, h6⟩
  · intro p e s m args below meth c s₁ B hml0 hP _
    obtain ⟨rfl, hx, hbd, hgv⟩ := hP
    obtain ⟨scr, harrAt, hlist, hof, hsmall⟩ := hx
    obtain ⟨hcb, hkn, -, -⟩ := State.arrayAt?_spec harrAt
    have hown : s.vm.findClass R_law = some m.cls := findClass_of_methodNamed B.named
    have hts0 : ∀ c ∈ (Jvm.Cond.code x code maxLocals ret :: tables_1), c.before #[Value.ref b] s = true := atoms_spec (ws := Jvm.Cond.code x code maxLocals ret :: tables_1) B.pre
    have hts : ∀ w ∈ lw_tbl, w.before #[Value.ref b] s = true := k2_hts_sels lw_privs (fun w hw => hts0 w (List.mem_cons_of_mem _ hw)) lw_privs_ok
    have hml : c.maxLocals = 4 := B.maxLocals_eq (hts0 _ List.mem_cons_self)
    have X₀ : Stand p l e room_1 s m #[Value.ref b] below meth c s₁ [] 0 0 := Stand.of_body B
    have hh0 : s₁.heap = s.heap := by rw [B.state]; rfl
    have hsz : scr.slots.size = xs.length := by rw [← Array.length_toList, hlist, List.length_map]
    have hval : ∀ j : Nat, j < xs.length → scr.slots[j]? = some (.int (xs.getD j 0)) := fun j hj => by
      rw [← Array.getElem?_toList, hlist]
      simp [hj]
    have hbl : b < s.heap.size := (Array.getElem?_eq_some_iff.mp hcb).1
    have hX : va_X b xs.length (fun j => xs.getD j 0) s s.heap := ⟨scr, hcb, hof, hkn, hsz, hval⟩
    have K : W p l e room_1 s m #[Value.ref b] below meth c s₁.heap [] 0 0 (lw_Z below #[Value.ref b] s) (entryFrame m ([Value.ref b] : List Value).toArray 4) := by
      rw [hh0]
      exact whole_start l hflags hbd ⟨B.exec, B.bytes, B.returns, hml, hown, hts, hX, hbl, B.notSynchronized, hgv⟩
    obtain ⟨t, a1, o, b1, b2, b3⟩ := K s₁ rfl X₀
    exact ⟨t, o, a1, b1, b2, b3⟩
theorem lw_pre_spec {args : Array Value} {s : State} (h : (Jvm.Cond.and given_1 narrow_1).before args s = true) (hr : rest_1_c.before args s = true) : ∃ (b : Addr) (xs : List Int32), lw_P b xs args s := by
  have hs := flat_of_before _ h
  have hq := flat_of_before _ hr
  have hc : (Cond.count 1).before args s = true := hs _ (by decide +kernel)
  have harr : (Cond.arrayOf (.arg 0) .int).before args s = true := hs _ (by decide +kernel)
  have hle : (Cond.le (.length (.arg 0)) (.int 2048)).before args s = true := hs _ (by decide +kernel)
  have hlen : (Cond.isInt (.length (.arg 0))).before args s = true := hq _ (by decide +kernel)
  have hall : (Cond.all (.arg 0) (.isInt (.elem (.arg 0) (.index 0)))).before args s = true := hq _ (by decide +kernel)
  obtain ⟨b, xs, hb, hx⟩ := State.ints_of_pre rfl harr hlen hall
  have hsm : xs.length < 2 ^ 31 := hx.choose_spec.2.2.2
  have hev : (Term.length (.arg 0)).eval args s none [] s = some (.int xs.length.toInt32) := hx.length_eval hb
  have hv := Cond.le_ints hev (show (Term.int 2048).eval args s none [] s = some (.int 2048) from rfl)
  have hd : xs.length.toInt32 ≤ 2048 := by
    simpa [Cond.before, Cond.holds, hv] using hle
  have hN : xs.length ≤ 2048 := (Int32.ofNat_le_ofNat hsm (by decide)).mp (show Int32.ofNat xs.length ≤ Int32.ofNat 2048 from hd)
  exact ⟨b, xs, Cond.one_arg hc (show args[0]? = some (.ref b) from hb), hx, hN, h⟩
theorem lw_comes (l : Launch) (hflags : l.flags = flags0) : Comes l x (Jvm.Cond.code x code maxLocals ret :: tables_1) room_1 (fun tb e args s => Calls_1 tb e args s ∧ rest_1 tb e args s ∧ Pre_1 tb e args s)
    (fun _ _ args s o t => lw_Q args s o t) := by
  intro p e ha hc hk s m args below hf hfit hheap happ hpre
  obtain ⟨b, xs, hP⟩ := lw_pre_spec hpre.2.2 hpre.2.1
  obtain ⟨k, o, h1, h2, h3, hQ⟩ := lw_walk l hflags b xs p e ha hc hk s m args below hf ((Spec.applies_iff_loose hf).mp happ).1 hP trivial
  exact ⟨k, o, h1, h2, h3, hQ⟩
theorem lw_frame {s t : State} {o : Outcome} {args : Array Value} (h : Framed s o t [] 600000 7302250) :
    Framed s o t (fieldLocs frame_1_writes args s ++ arrayLocs frame_1_arrays args s ++ staticLocs frame_1_statics s) 600000 7302250 := h
theorem lw_limb (L : Cond) (hL : ∀ (args : Array Value) (s t : State), L.after args s (.returned (some (.int 1))) t = true) :
    ArmFor flags0 classFile x code maxLocals ret World_1 tables_1 room_1 Calls_1 rest_1 Pre_1
      (fun tb e a s o t => postC L tb e a s o t ∧ Framed s o t (fieldLocs frame_1_writes a s ++ arrayLocs frame_1_arrays a s ++ staticLocs frame_1_statics s) 600000 7302250) := by
  intro l hflags _ _ p e ha hc hk s m args below hf hfit hheap happ hpre
  obtain ⟨k, o, h1, h2, h3, rfl, hF⟩ := lw_comes l hflags p e ha hc hk s m args below hf hfit hheap happ hpre
  exact ⟨k, _, h1, h2, h3, hL args s _, lw_frame hF⟩
theorem i_vc : Claimed_1_1 ∧ Claimed_1_2 := ⟨lw_limb limb_1_1 (fun args s t => by simp [limb_1_1, Cond.after, Cond.holds, Cond.value]), lw_limb limb_1_2 (fun args s t => Cond.after_iff.mpr (by
  first | (rw [show limb_1_2 = Cond.eq .result (.int 1) from rfl, Cond.eq_ints (x := 1) (y := 1) rfl rfl]; simp; done) | (simp [limb_1_2, Cond.value, Term.eval]; done)))⟩
