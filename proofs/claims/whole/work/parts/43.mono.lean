/-! each is monotone in its ends -/
theorem ite_m {c : Prop} [Decidable c] {A B A2 B2 : Prop} (h : A → A2) (g : B → B2) : (if c then A else B) → (if c then A2 else B2) := by
  by_cases hc : c
  · rw [if_pos hc, if_pos hc]
    exact h
  · rw [if_neg hc, if_neg hc]
    exact g
theorem and_m {A B B2 : Prop} (h : B → B2) : A ∧ B → A ∧ B2 := fun z => ⟨z.1, h z.2⟩
theorem all_m {T : Type} {B B2 : T → Prop} (h : ∀ x, B x → B2 x) : (∀ x, B x) → ∀ x, B2 x := fun z x => h x (z x)
theorem imp_m {A B B2 : Prop} (h : B → B2) : (A → B) → A → B2 := fun z a => h (z a)
theorem mn_J0_coder_7d493 {w0 : Nat} {M : ap_Mem} {K Kz2 : Int32 → ap_Mem → Prop} (hK : ∀ u0 u1, K u0 u1 → Kz2 u0 u1) : w_J0_coder_7d493 w0 M K → w_J0_coder_7d493 w0 M Kz2 := by
  unfold w_J0_coder_7d493
  repeat' first | with_reducible exact fun h => h | with_reducible exact hK _ _ | with_reducible refine and_m ?_ | with_reducible refine ite_m ?_ ?_ | with_reducible refine all_m (fun _ => ?_) | with_reducible refine imp_m ?_
theorem mn_J0_length_8abf5 {w0 : Nat} {M : ap_Mem} {K Kz2 : Int32 → ap_Mem → Prop} (hK : ∀ u0 u1, K u0 u1 → Kz2 u0 u1) : w_J0_length_8abf5 w0 M K → w_J0_length_8abf5 w0 M Kz2 := by
  unfold w_J0_length_8abf5
  repeat' first | with_reducible exact fun h => h | with_reducible exact hK _ _ | with_reducible refine and_m ?_ | with_reducible refine ite_m ?_ ?_ | with_reducible refine mn_J0_coder_7d493  (fun _ _ => ?_) | with_reducible refine all_m (fun _ => ?_) | with_reducible refine imp_m ?_
theorem mn_J0_isLatin1_aae02 {w0 : Nat} {M : ap_Mem} {K Kz2 : Int32 → ap_Mem → Prop} (hK : ∀ u0 u1, K u0 u1 → Kz2 u0 u1) : w_J0_isLatin1_aae02 w0 M K → w_J0_isLatin1_aae02 w0 M Kz2 := by
  unfold w_J0_isLatin1_aae02
  repeat' first | with_reducible exact fun h => h | with_reducible exact hK _ _ | with_reducible refine and_m ?_ | with_reducible refine ite_m ?_ ?_ | with_reducible refine all_m (fun _ => ?_) | with_reducible refine imp_m ?_
theorem mn_J3_checkIndex_8e157_9 {x0 : Int32} {x1 : Int32} {M : ap_Mem} {K Kz2 : Int32 → ap_Mem → Prop} (hK : ∀ u0 u1, K u0 u1 → Kz2 u0 u1) : w_J3_checkIndex_8e157_9 x0 x1 M K → w_J3_checkIndex_8e157_9 x0 x1 M Kz2 := by
  unfold w_J3_checkIndex_8e157_9
  repeat' first | with_reducible exact fun h => h | with_reducible exact hK _ _ | with_reducible refine and_m ?_ | with_reducible refine ite_m ?_ ?_ | with_reducible refine all_m (fun _ => ?_) | with_reducible refine imp_m ?_
theorem mn_J3_checkIndex_8e157 {x0 : Int32} {x1 : Int32} {M : ap_Mem} {K Kz2 : Int32 → ap_Mem → Prop} (hK : ∀ u0 u1, K u0 u1 → Kz2 u0 u1) : w_J3_checkIndex_8e157 x0 x1 M K → w_J3_checkIndex_8e157 x0 x1 M Kz2 := by
  unfold w_J3_checkIndex_8e157
  repeat' first | with_reducible exact fun h => h | with_reducible exact hK _ _ | with_reducible refine and_m ?_ | with_reducible refine ite_m ?_ ?_ | with_reducible refine mn_J3_checkIndex_8e157_9  (fun _ _ => ?_) | with_reducible refine all_m (fun _ => ?_) | with_reducible refine imp_m ?_
theorem mn_J0_checkIndex_df160 {x0 : Int32} {x1 : Int32} {M : ap_Mem} {K Kz2 : ap_Mem → Prop} (hK : ∀ u0, K u0 → Kz2 u0) : w_J0_checkIndex_df160 x0 x1 M K → w_J0_checkIndex_df160 x0 x1 M Kz2 := by
  unfold w_J0_checkIndex_df160
  repeat' first | with_reducible exact fun h => h | with_reducible exact hK _ | with_reducible refine and_m ?_ | with_reducible refine ite_m ?_ ?_ | with_reducible refine mn_J3_checkIndex_8e157  (fun _ _ => ?_) | with_reducible refine all_m (fun _ => ?_) | with_reducible refine imp_m ?_
theorem mn_J1_charAt_3b067 {b0 : Nat} {x1 : Int32} {M : ap_Mem} {K Kz2 : Int32 → ap_Mem → Prop} (hK : ∀ u0 u1, K u0 u1 → Kz2 u0 u1) : w_J1_charAt_3b067 b0 x1 M K → w_J1_charAt_3b067 b0 x1 M Kz2 := by
  unfold w_J1_charAt_3b067
  repeat' first | with_reducible exact fun h => h | with_reducible exact hK _ _ | with_reducible refine and_m ?_ | with_reducible refine ite_m ?_ ?_ | with_reducible refine mn_J0_checkIndex_df160  (fun _ => ?_) | with_reducible refine all_m (fun _ => ?_) | with_reducible refine imp_m ?_
theorem mn_J0_charAt_5068e {w0 : Nat} {x1 : Int32} {M : ap_Mem} {K Kz2 : Int32 → ap_Mem → Prop} (hK : ∀ u0 u1, K u0 u1 → Kz2 u0 u1) : w_J0_charAt_5068e w0 x1 M K → w_J0_charAt_5068e w0 x1 M Kz2 := by
  unfold w_J0_charAt_5068e
  repeat' first | with_reducible exact fun h => h | with_reducible exact hK _ _ | with_reducible refine and_m ?_ | with_reducible refine ite_m ?_ ?_ | with_reducible refine mn_J0_isLatin1_aae02  (fun _ _ => ?_) | with_reducible refine mn_J1_charAt_3b067  (fun _ _ => ?_) | with_reducible refine all_m (fun _ => ?_) | with_reducible refine imp_m ?_
theorem mn_J1_canEncode_9a6ad {x0 : Int32} {M : ap_Mem} {K Kz2 : Int32 → ap_Mem → Prop} (hK : ∀ u0 u1, K u0 u1 → Kz2 u0 u1) : w_J1_canEncode_9a6ad x0 M K → w_J1_canEncode_9a6ad x0 M Kz2 := by
  unfold w_J1_canEncode_9a6ad
  repeat' first | with_reducible exact fun h => h | with_reducible exact hK _ _ | with_reducible refine and_m ?_ | with_reducible refine ite_m ?_ ?_ | with_reducible refine all_m (fun _ => ?_) | with_reducible refine imp_m ?_
theorem mn_J1_indexOfChar_4cfef_7_s {b0 : Nat} {x3 : Int32} {x4 : Int32} {x5 : Int32} {M : ap_Mem} {kL7 kL7z2 : Int32 → Int32 → Int32 → ap_Mem → Prop} {K Kz2 : Int32 → ap_Mem → Prop} (hkL7 : ∀ u0 u1 u2 u3, kL7 u0 u1 u2 u3 → kL7z2 u0 u1 u2 u3) (hK : ∀ u0 u1, K u0 u1 → Kz2 u0 u1) : w_J1_indexOfChar_4cfef_7_s kL7 b0 x3 x4 x5 M K → w_J1_indexOfChar_4cfef_7_s kL7z2 b0 x3 x4 x5 M Kz2 := by
  unfold w_J1_indexOfChar_4cfef_7_s
  repeat' first | with_reducible exact fun h => h | with_reducible exact hkL7 _ _ _ _ | with_reducible exact hK _ _ | with_reducible refine and_m ?_ | with_reducible refine ite_m ?_ ?_ | with_reducible refine all_m (fun _ => ?_) | with_reducible refine imp_m ?_
theorem mn_J1_indexOfChar_4cfef_7 {b0 : Nat} {K Kz2 : Int32 → ap_Mem → Prop} (hK : ∀ u0 u1, K u0 u1 → Kz2 u0 u1) : ∀ (n : Nat) (v0 : Int32) (v1 : Int32) (v2 : Int32) (v3 : ap_Mem), w_J1_indexOfChar_4cfef_7 b0 K n v0 v1 v2 v3 → w_J1_indexOfChar_4cfef_7 b0 Kz2 n v0 v1 v2 v3 := by
  intro n
  induction n with
  | zero => exact fun _ _ _ _ h => h
  | succ n ih => exact fun _ _ _ _ => mn_J1_indexOfChar_4cfef_7_s ih hK
theorem mn_J1_indexOfChar_4cfef {b0 : Nat} {x1 : Int32} {x2 : Int32} {x3 : Int32} {M : ap_Mem} {K Kz2 : Int32 → ap_Mem → Prop} (hK : ∀ u0 u1, K u0 u1 → Kz2 u0 u1) : w_J1_indexOfChar_4cfef b0 x1 x2 x3 M K → w_J1_indexOfChar_4cfef b0 x1 x2 x3 M Kz2 := by
  unfold w_J1_indexOfChar_4cfef
  repeat' first | with_reducible exact fun h => h | with_reducible exact hK _ _ | with_reducible refine and_m ?_ | with_reducible refine ite_m ?_ ?_ | with_reducible refine mn_J1_indexOfChar_4cfef_7  (fun _ _ => ?_) _ _ _ _ _ | with_reducible refine all_m (fun _ => ?_) | with_reducible refine imp_m ?_
theorem mn_J1_indexOf_4cfef {b0 : Nat} {x1 : Int32} {x2 : Int32} {x3 : Int32} {M : ap_Mem} {K Kz2 : Int32 → ap_Mem → Prop} (hK : ∀ u0 u1, K u0 u1 → Kz2 u0 u1) : w_J1_indexOf_4cfef b0 x1 x2 x3 M K → w_J1_indexOf_4cfef b0 x1 x2 x3 M Kz2 := by
  unfold w_J1_indexOf_4cfef
  repeat' first | with_reducible exact fun h => h | with_reducible exact hK _ _ | with_reducible refine and_m ?_ | with_reducible refine ite_m ?_ ?_ | with_reducible refine mn_J1_canEncode_9a6ad  (fun _ _ => ?_) | with_reducible refine mn_J1_indexOfChar_4cfef  (fun _ _ => ?_) | with_reducible refine all_m (fun _ => ?_) | with_reducible refine imp_m ?_
theorem mn_J0_indexOf_7cf53 {w0 : Nat} {x1 : Int32} {x2 : Int32} {M : ap_Mem} {K Kz2 : Int32 → ap_Mem → Prop} (hK : ∀ u0 u1, K u0 u1 → Kz2 u0 u1) : w_J0_indexOf_7cf53 w0 x1 x2 M K → w_J0_indexOf_7cf53 w0 x1 x2 M Kz2 := by
  unfold w_J0_indexOf_7cf53
  repeat' first | with_reducible exact fun h => h | with_reducible exact hK _ _ | with_reducible refine and_m ?_ | with_reducible refine ite_m ?_ ?_ | with_reducible refine mn_J0_isLatin1_aae02  (fun _ _ => ?_) | with_reducible refine mn_J0_length_8abf5  (fun _ _ => ?_) | with_reducible refine mn_J1_indexOf_4cfef  (fun _ _ => ?_) | with_reducible refine all_m (fun _ => ?_) | with_reducible refine imp_m ?_
theorem mn_J0_indexOf_0f7a4 {w0 : Nat} {x1 : Int32} {M : ap_Mem} {K Kz2 : Int32 → ap_Mem → Prop} (hK : ∀ u0 u1, K u0 u1 → Kz2 u0 u1) : w_J0_indexOf_0f7a4 w0 x1 M K → w_J0_indexOf_0f7a4 w0 x1 M Kz2 := by
  unfold w_J0_indexOf_0f7a4
  repeat' first | with_reducible exact fun h => h | with_reducible exact hK _ _ | with_reducible refine and_m ?_ | with_reducible refine ite_m ?_ ?_ | with_reducible refine mn_J0_indexOf_7cf53  (fun _ _ => ?_) | with_reducible refine all_m (fun _ => ?_) | with_reducible refine imp_m ?_
theorem mn_J6_bitCount_0f7a4 {x0 : Int32} {M : ap_Mem} {K Kz2 : Int32 → ap_Mem → Prop} (hK : ∀ u0 u1, K u0 u1 → Kz2 u0 u1) : w_J6_bitCount_0f7a4 x0 M K → w_J6_bitCount_0f7a4 x0 M Kz2 := by
  unfold w_J6_bitCount_0f7a4
  repeat' first | with_reducible exact fun h => h | with_reducible exact hK _ _ | with_reducible refine and_m ?_ | with_reducible refine ite_m ?_ ?_ | with_reducible refine all_m (fun _ => ?_) | with_reducible refine imp_m ?_
theorem mn_X5_add {q : Nat} {x1 : Int32} {x2 : Int32} {M : ap_Mem} {K Kz2 : Int32 → ap_Mem → Prop} (hK : ∀ u0 u1, K u0 u1 → Kz2 u0 u1) : w_X5_add q x1 x2 M K → w_X5_add q x1 x2 M Kz2 := by
  unfold w_X5_add
  repeat' first | with_reducible exact fun h => h | with_reducible exact hK _ _ | with_reducible refine and_m ?_ | with_reducible refine ite_m ?_ ?_ | with_reducible refine all_m (fun _ => ?_) | with_reducible refine imp_m ?_
theorem mn_X5_clear {q : Nat} {M : ap_Mem} {K Kz2 : Int32 → ap_Mem → Prop} (hK : ∀ u0 u1, K u0 u1 → Kz2 u0 u1) : w_X5_clear q M K → w_X5_clear q M Kz2 := by
  unfold w_X5_clear
  repeat' first | with_reducible exact fun h => h | with_reducible exact hK _ _ | with_reducible refine and_m ?_ | with_reducible refine ite_m ?_ ?_ | with_reducible refine all_m (fun _ => ?_) | with_reducible refine imp_m ?_
theorem mn_X5_copyFrom_7_s {q : Nat} {o1 : Nat} {x2 : Int32} {M : ap_Mem} {kL7 kL7z2 : Int32 → ap_Mem → Prop} {K Kz2 : ap_Mem → Prop} (hkL7 : ∀ u0 u1, kL7 u0 u1 → kL7z2 u0 u1) (hK : ∀ u0, K u0 → Kz2 u0) : w_X5_copyFrom_7_s kL7 q o1 x2 M K → w_X5_copyFrom_7_s kL7z2 q o1 x2 M Kz2 := by
  unfold w_X5_copyFrom_7_s
  repeat' first | with_reducible exact fun h => h | with_reducible exact hkL7 _ _ | with_reducible exact hK _ | with_reducible refine and_m ?_ | with_reducible refine ite_m ?_ ?_ | with_reducible refine mn_X5_add  (fun _ _ => ?_) | with_reducible refine all_m (fun _ => ?_) | with_reducible refine imp_m ?_
theorem mn_X5_copyFrom_7 {q : Nat} {o1 : Nat} {K Kz2 : ap_Mem → Prop} (hK : ∀ u0, K u0 → Kz2 u0) : ∀ (n : Nat) (v0 : Int32) (v1 : ap_Mem), w_X5_copyFrom_7 q o1 K n v0 v1 → w_X5_copyFrom_7 q o1 Kz2 n v0 v1 := by
  intro n
  induction n with
  | zero => exact fun _ _ h => h
  | succ n ih => exact fun _ _ => mn_X5_copyFrom_7_s ih hK
theorem mn_X5_copyFrom {q : Nat} {o1 : Nat} {M : ap_Mem} {K Kz2 : ap_Mem → Prop} (hK : ∀ u0, K u0 → Kz2 u0) : w_X5_copyFrom q o1 M K → w_X5_copyFrom q o1 M Kz2 := by
  unfold w_X5_copyFrom
  repeat' first | with_reducible exact fun h => h | with_reducible exact hK _ | with_reducible refine and_m ?_ | with_reducible refine ite_m ?_ ?_ | with_reducible refine mn_X5_clear  (fun _ _ => ?_) | with_reducible refine mn_X5_copyFrom_7  (fun _ => ?_) _ _ _ | with_reducible refine all_m (fun _ => ?_) | with_reducible refine imp_m ?_
theorem mn_X8_isKind {x0 : Int32} {M : ap_Mem} {K Kz2 : Int32 → ap_Mem → Prop} (hK : ∀ u0 u1, K u0 u1 → Kz2 u0 u1) : w_X8_isKind x0 M K → w_X8_isKind x0 M Kz2 := by
  unfold w_X8_isKind
  repeat' first | with_reducible exact fun h => h | with_reducible exact hK _ _ | with_reducible refine and_m ?_ | with_reducible refine ite_m ?_ ?_ | with_reducible refine all_m (fun _ => ?_) | with_reducible refine imp_m ?_
theorem mn_X8_isCell {x0 : Int32} {M : ap_Mem} {K Kz2 : Int32 → ap_Mem → Prop} (hK : ∀ u0 u1, K u0 u1 → Kz2 u0 u1) : w_X8_isCell x0 M K → w_X8_isCell x0 M Kz2 := by
  unfold w_X8_isCell
  repeat' first | with_reducible exact fun h => h | with_reducible exact hK _ _ | with_reducible refine and_m ?_ | with_reducible refine ite_m ?_ ?_ | with_reducible refine all_m (fun _ => ?_) | with_reducible refine imp_m ?_
theorem mn_X8_isDigit {x0 : Int32} {M : ap_Mem} {K Kz2 : Int32 → ap_Mem → Prop} (hK : ∀ u0 u1, K u0 u1 → Kz2 u0 u1) : w_X8_isDigit x0 M K → w_X8_isDigit x0 M Kz2 := by
  unfold w_X8_isDigit
  repeat' first | with_reducible exact fun h => h | with_reducible exact hK _ _ | with_reducible refine and_m ?_ | with_reducible refine ite_m ?_ ?_ | with_reducible refine all_m (fun _ => ?_) | with_reducible refine imp_m ?_
theorem mn_X3_setAway_26 {q : Nat} {s0 : Int32} {M : ap_Mem} {K Kz2 : ap_Mem → Prop} (hK : ∀ u0, K u0 → Kz2 u0) : w_X3_setAway_26 q s0 M K → w_X3_setAway_26 q s0 M Kz2 := by
  unfold w_X3_setAway_26
  repeat' first | with_reducible exact fun h => h | with_reducible exact hK _ | with_reducible refine and_m ?_ | with_reducible refine ite_m ?_ ?_ | with_reducible refine all_m (fun _ => ?_) | with_reducible refine imp_m ?_
theorem mn_X3_setAway {q : Nat} {x1 : Int32} {x2 : Int32} {M : ap_Mem} {K Kz2 : ap_Mem → Prop} (hK : ∀ u0, K u0 → Kz2 u0) : w_X3_setAway q x1 x2 M K → w_X3_setAway q x1 x2 M Kz2 := by
  unfold w_X3_setAway
  repeat' first | with_reducible exact fun h => h | with_reducible exact hK _ | with_reducible refine and_m ?_ | with_reducible refine ite_m ?_ ?_ | with_reducible refine mn_X3_setAway_26  (fun _ => ?_) | with_reducible refine all_m (fun _ => ?_) | with_reducible refine imp_m ?_
theorem mn_X3_add_54_s {q : Nat} {x4 : Int32} {M : ap_Mem} {kL54 kL54z2 : Int32 → ap_Mem → Prop} {K Kz2 : Int32 → ap_Mem → Prop} (hkL54 : ∀ u0 u1, kL54 u0 u1 → kL54z2 u0 u1) (hK : ∀ u0 u1, K u0 u1 → Kz2 u0 u1) : w_X3_add_54_s kL54 q x4 M K → w_X3_add_54_s kL54z2 q x4 M Kz2 := by
  unfold w_X3_add_54_s
  repeat' first | with_reducible exact fun h => h | with_reducible exact hkL54 _ _ | with_reducible exact hK _ _ | with_reducible refine and_m ?_ | with_reducible refine ite_m ?_ ?_ | with_reducible refine all_m (fun _ => ?_) | with_reducible refine imp_m ?_
theorem mn_X3_add_54 {q : Nat} {K Kz2 : Int32 → ap_Mem → Prop} (hK : ∀ u0 u1, K u0 u1 → Kz2 u0 u1) : ∀ (n : Nat) (v0 : Int32) (v1 : ap_Mem), w_X3_add_54 q K n v0 v1 → w_X3_add_54 q Kz2 n v0 v1 := by
  intro n
  induction n with
  | zero => exact fun _ _ h => h
  | succ n ih => exact fun _ _ => mn_X3_add_54_s ih hK
theorem mn_X3_add {q : Nat} {x1 : Int32} {x2 : Int32} {x3 : Int32} {M : ap_Mem} {K Kz2 : Int32 → ap_Mem → Prop} (hK : ∀ u0 u1, K u0 u1 → Kz2 u0 u1) : w_X3_add q x1 x2 x3 M K → w_X3_add q x1 x2 x3 M Kz2 := by
  unfold w_X3_add
  repeat' first | with_reducible exact fun h => h | with_reducible exact hK _ _ | with_reducible refine and_m ?_ | with_reducible refine ite_m ?_ ?_ | with_reducible refine mn_X3_setAway  (fun _ => ?_) | with_reducible refine mn_X3_add_54  (fun _ _ => ?_) _ _ _ | with_reducible refine all_m (fun _ => ?_) | with_reducible refine imp_m ?_
theorem mn_X3_has {q : Nat} {x1 : Int32} {M : ap_Mem} {K Kz2 : Int32 → ap_Mem → Prop} (hK : ∀ u0 u1, K u0 u1 → Kz2 u0 u1) : w_X3_has q x1 M K → w_X3_has q x1 M Kz2 := by
  unfold w_X3_has
  repeat' first | with_reducible exact fun h => h | with_reducible exact hK _ _ | with_reducible refine and_m ?_ | with_reducible refine ite_m ?_ ?_ | with_reducible refine all_m (fun _ => ?_) | with_reducible refine imp_m ?_
theorem mn_X3_isAway {q : Nat} {x1 : Int32} {M : ap_Mem} {K Kz2 : Int32 → ap_Mem → Prop} (hK : ∀ u0 u1, K u0 u1 → Kz2 u0 u1) : w_X3_isAway q x1 M K → w_X3_isAway q x1 M Kz2 := by
  unfold w_X3_isAway
  repeat' first | with_reducible exact fun h => h | with_reducible exact hK _ _ | with_reducible refine and_m ?_ | with_reducible refine ite_m ?_ ?_ | with_reducible refine all_m (fun _ => ?_) | with_reducible refine imp_m ?_
theorem mn_X3_copyFrom {q : Nat} {o1 : Nat} {M : ap_Mem} {K Kz2 : ap_Mem → Prop} (hK : ∀ u0, K u0 → Kz2 u0) : w_X3_copyFrom q o1 M K → w_X3_copyFrom q o1 M Kz2 := by
  unfold w_X3_copyFrom
  repeat' first | with_reducible exact fun h => h | with_reducible exact hK _ | with_reducible refine and_m ?_ | with_reducible refine ite_m ?_ ?_ | with_reducible refine all_m (fun _ => ?_) | with_reducible refine imp_m ?_
theorem mn_X1_copyFrom {q : Nat} {o1 : Nat} {M : ap_Mem} {K Kz2 : ap_Mem → Prop} (hK : ∀ u0, K u0 → Kz2 u0) : w_X1_copyFrom q o1 M K → w_X1_copyFrom q o1 M Kz2 := by
  unfold w_X1_copyFrom
  repeat' first | with_reducible exact fun h => h | with_reducible exact hK _ | with_reducible refine and_m ?_ | with_reducible refine ite_m ?_ ?_ | with_reducible refine all_m (fun _ => ?_) | with_reducible refine imp_m ?_
theorem mn_X8_far {x0 : Int32} {x1 : Int32} {M : ap_Mem} {K Kz2 : Int32 → ap_Mem → Prop} (hK : ∀ u0 u1, K u0 u1 → Kz2 u0 u1) : w_X8_far x0 x1 M K → w_X8_far x0 x1 M Kz2 := by
  unfold w_X8_far
  repeat' first | with_reducible exact fun h => h | with_reducible exact hK _ _ | with_reducible refine and_m ?_ | with_reducible refine ite_m ?_ ?_ | with_reducible refine all_m (fun _ => ?_) | with_reducible refine imp_m ?_
theorem mn_X1_cellsLainOn_25 {q : Nat} {x2 : Int32} {s0 : Int32} {s1 : Int32} {M : ap_Mem} {kL4 kL4z2 : Int32 → Int32 → ap_Mem → Prop} {K Kz2 : Int32 → ap_Mem → Prop} (hkL4 : ∀ u0 u1 u2, kL4 u0 u1 u2 → kL4z2 u0 u1 u2) (hK : ∀ u0 u1, K u0 u1 → Kz2 u0 u1) : w_X1_cellsLainOn_25 kL4 q x2 s0 s1 M K → w_X1_cellsLainOn_25 kL4z2 q x2 s0 s1 M Kz2 := by
  unfold w_X1_cellsLainOn_25
  repeat' first | with_reducible exact fun h => h | with_reducible exact hkL4 _ _ _ | with_reducible exact hK _ _ | with_reducible refine and_m ?_ | with_reducible refine ite_m ?_ ?_ | with_reducible refine all_m (fun _ => ?_) | with_reducible refine imp_m ?_
theorem mn_X1_cellsLainOn_4_s {q : Nat} {x1 : Int32} {x2 : Int32} {M : ap_Mem} {kL4 kL4z2 : Int32 → Int32 → ap_Mem → Prop} {K Kz2 : Int32 → ap_Mem → Prop} (hkL4 : ∀ u0 u1 u2, kL4 u0 u1 u2 → kL4z2 u0 u1 u2) (hK : ∀ u0 u1, K u0 u1 → Kz2 u0 u1) : w_X1_cellsLainOn_4_s kL4 q x1 x2 M K → w_X1_cellsLainOn_4_s kL4z2 q x1 x2 M Kz2 := by
  unfold w_X1_cellsLainOn_4_s
  repeat' first | with_reducible exact fun h => h | with_reducible exact hkL4 _ _ _ | with_reducible exact hK _ _ | with_reducible refine and_m ?_ | with_reducible refine ite_m ?_ ?_ | with_reducible refine mn_X1_cellsLainOn_25  (fun _ _ _ => ?_) (fun _ _ => ?_) | with_reducible refine all_m (fun _ => ?_) | with_reducible refine imp_m ?_
theorem mn_X1_cellsLainOn_4 {q : Nat} {K Kz2 : Int32 → ap_Mem → Prop} (hK : ∀ u0 u1, K u0 u1 → Kz2 u0 u1) : ∀ (n : Nat) (v0 : Int32) (v1 : Int32) (v2 : ap_Mem), w_X1_cellsLainOn_4 q K n v0 v1 v2 → w_X1_cellsLainOn_4 q Kz2 n v0 v1 v2 := by
  intro n
  induction n with
  | zero => exact fun _ _ _ h => h
  | succ n ih => exact fun _ _ _ => mn_X1_cellsLainOn_4_s ih hK
theorem mn_X1_cellsLainOn {q : Nat} {M : ap_Mem} {K Kz2 : Int32 → ap_Mem → Prop} (hK : ∀ u0 u1, K u0 u1 → Kz2 u0 u1) : w_X1_cellsLainOn q M K → w_X1_cellsLainOn q M Kz2 := by
  unfold w_X1_cellsLainOn
  repeat' first | with_reducible exact fun h => h | with_reducible exact hK _ _ | with_reducible refine and_m ?_ | with_reducible refine ite_m ?_ ?_ | with_reducible refine mn_X1_cellsLainOn_4  (fun _ _ => ?_) _ _ _ _ | with_reducible refine all_m (fun _ => ?_) | with_reducible refine imp_m ?_
theorem mn_X8_isFuture {x0 : Int32} {M : ap_Mem} {K Kz2 : Int32 → ap_Mem → Prop} (hK : ∀ u0 u1, K u0 u1 → Kz2 u0 u1) : w_X8_isFuture x0 M K → w_X8_isFuture x0 M Kz2 := by
  unfold w_X8_isFuture
  repeat' first | with_reducible exact fun h => h | with_reducible exact hK _ _ | with_reducible refine and_m ?_ | with_reducible refine ite_m ?_ ?_ | with_reducible refine all_m (fun _ => ?_) | with_reducible refine imp_m ?_
theorem mn_X8_isEither {x0 : Int32} {M : ap_Mem} {K Kz2 : Int32 → ap_Mem → Prop} (hK : ∀ u0 u1, K u0 u1 → Kz2 u0 u1) : w_X8_isEither x0 M K → w_X8_isEither x0 M Kz2 := by
  unfold w_X8_isEither
  repeat' first | with_reducible exact fun h => h | with_reducible exact hK _ _ | with_reducible refine and_m ?_ | with_reducible refine ite_m ?_ ?_ | with_reducible refine all_m (fun _ => ?_) | with_reducible refine imp_m ?_
theorem mn_X8_inLowestTerms_39 {x0 : Int32} {x1 : Int32} {x2 : Int32} {x3 : Int32} {M : ap_Mem} {K Kz2 : Int64 → ap_Mem → Prop} (hK : ∀ u0 u1, K u0 u1 → Kz2 u0 u1) : w_X8_inLowestTerms_39 x0 x1 x2 x3 M K → w_X8_inLowestTerms_39 x0 x1 x2 x3 M Kz2 := by
  unfold w_X8_inLowestTerms_39
  repeat' first | with_reducible exact fun h => h | with_reducible exact hK _ _ | with_reducible refine and_m ?_ | with_reducible refine ite_m ?_ ?_ | with_reducible refine all_m (fun _ => ?_) | with_reducible refine imp_m ?_
theorem mn_X8_inLowestTerms_8_s {x0 : Int32} {x1 : Int32} {x2 : Int32} {x3 : Int32} {x4 : Int32} {x5 : Int32} {M : ap_Mem} {kL8 kL8z2 : Int32 → Int32 → Int32 → Int32 → Int32 → Int32 → ap_Mem → Prop} {K Kz2 : Int64 → ap_Mem → Prop} (hkL8 : ∀ u0 u1 u2 u3 u4 u5 u6, kL8 u0 u1 u2 u3 u4 u5 u6 → kL8z2 u0 u1 u2 u3 u4 u5 u6) (hK : ∀ u0 u1, K u0 u1 → Kz2 u0 u1) : w_X8_inLowestTerms_8_s kL8 x0 x1 x2 x3 x4 x5 M K → w_X8_inLowestTerms_8_s kL8z2 x0 x1 x2 x3 x4 x5 M Kz2 := by
  unfold w_X8_inLowestTerms_8_s
  repeat' first | with_reducible exact fun h => h | with_reducible exact hkL8 _ _ _ _ _ _ _ | with_reducible exact hK _ _ | with_reducible refine and_m ?_ | with_reducible refine ite_m ?_ ?_ | with_reducible refine mn_X8_inLowestTerms_39  (fun _ _ => ?_) | with_reducible refine all_m (fun _ => ?_) | with_reducible refine imp_m ?_
theorem mn_X8_inLowestTerms_8  {K Kz2 : Int64 → ap_Mem → Prop} (hK : ∀ u0 u1, K u0 u1 → Kz2 u0 u1) : ∀ (n : Nat) (v0 : Int32) (v1 : Int32) (v2 : Int32) (v3 : Int32) (v4 : Int32) (v5 : Int32) (v6 : ap_Mem), w_X8_inLowestTerms_8 K n v0 v1 v2 v3 v4 v5 v6 → w_X8_inLowestTerms_8 Kz2 n v0 v1 v2 v3 v4 v5 v6 := by
  intro n
  induction n with
  | zero => exact fun _ _ _ _ _ _ _ h => h
  | succ n ih => exact fun _ _ _ _ _ _ _ => mn_X8_inLowestTerms_8_s ih hK
theorem mn_X8_inLowestTerms {x0 : Int32} {x1 : Int32} {x2 : Int32} {M : ap_Mem} {K Kz2 : Int64 → ap_Mem → Prop} (hK : ∀ u0 u1, K u0 u1 → Kz2 u0 u1) : w_X8_inLowestTerms x0 x1 x2 M K → w_X8_inLowestTerms x0 x1 x2 M Kz2 := by
  unfold w_X8_inLowestTerms
  repeat' first | with_reducible exact fun h => h | with_reducible exact hK _ _ | with_reducible refine and_m ?_ | with_reducible refine ite_m ?_ ?_ | with_reducible refine mn_X8_inLowestTerms_8  (fun _ _ => ?_) _ _ _ _ _ _ _ _ | with_reducible refine all_m (fun _ => ?_) | with_reducible refine imp_m ?_
theorem mn_X0_note_19 {q : Nat} {M : ap_Mem} {K Kz2 : ap_Mem → Prop} (hK : ∀ u0, K u0 → Kz2 u0) : w_X0_note_19 q M K → w_X0_note_19 q M Kz2 := by
  unfold w_X0_note_19
  repeat' first | with_reducible exact fun h => h | with_reducible exact hK _ | with_reducible refine and_m ?_ | with_reducible refine ite_m ?_ ?_ | with_reducible refine all_m (fun _ => ?_) | with_reducible refine imp_m ?_
theorem mn_X0_note {q : Nat} {x1 : Int32} {M : ap_Mem} {K Kz2 : ap_Mem → Prop} (hK : ∀ u0, K u0 → Kz2 u0) : w_X0_note q x1 M K → w_X0_note q x1 M Kz2 := by
  unfold w_X0_note
  repeat' first | with_reducible exact fun h => h | with_reducible exact hK _ | with_reducible refine and_m ?_ | with_reducible refine ite_m ?_ ?_ | with_reducible refine mn_X0_note_19  (fun _ => ?_) | with_reducible refine all_m (fun _ => ?_) | with_reducible refine imp_m ?_
theorem mn_X0_run_49 {c_X0_run : Nat → Int32 → Int32 → Int32 → Int32 → ap_Mem → (Int32 → ap_Mem → Prop) → Prop} {q : Nat} {x1 : Int32} {x3 : Int32} {x4 : Int32} {x5 : Int32} {M : ap_Mem} {K Kz2 : Int32 → ap_Mem → Prop} (hc_X0_run : ∀ a0 a1 a2 a3 a4 a5 (J J2 : Int32 → ap_Mem → Prop), (∀ u0 u1, J u0 u1 → J2 u0 u1) → c_X0_run a0 a1 a2 a3 a4 a5 J → c_X0_run a0 a1 a2 a3 a4 a5 J2) (hK : ∀ u0 u1, K u0 u1 → Kz2 u0 u1) : w_X0_run_49 c_X0_run q x1 x3 x4 x5 M K → w_X0_run_49 c_X0_run q x1 x3 x4 x5 M Kz2 := by
  unfold w_X0_run_49
  repeat' first | with_reducible exact fun h => h | with_reducible exact hK _ _ | with_reducible refine hc_X0_run _ _ _ _ _ _ _ _ (fun _ _ => ?_) | with_reducible refine and_m ?_ | with_reducible refine ite_m ?_ ?_ | with_reducible refine mn_X0_note  (fun _ => ?_) | with_reducible refine all_m (fun _ => ?_) | with_reducible refine imp_m ?_
theorem mn_X0_run_15_s {c_X0_run : Nat → Int32 → Int32 → Int32 → Int32 → ap_Mem → (Int32 → ap_Mem → Prop) → Prop} {q : Nat} {x1 : Int32} {x3 : Int32} {x4 : Int32} {x5 : Int32} {x6 : Int32} {M : ap_Mem} {kL15 kL15z2 : Int32 → Int32 → Int32 → Int32 → Int32 → ap_Mem → Prop} {K Kz2 : Int32 → ap_Mem → Prop} (hc_X0_run : ∀ a0 a1 a2 a3 a4 a5 (J J2 : Int32 → ap_Mem → Prop), (∀ u0 u1, J u0 u1 → J2 u0 u1) → c_X0_run a0 a1 a2 a3 a4 a5 J → c_X0_run a0 a1 a2 a3 a4 a5 J2) (hkL15 : ∀ u0 u1 u2 u3 u4 u5, kL15 u0 u1 u2 u3 u4 u5 → kL15z2 u0 u1 u2 u3 u4 u5) (hK : ∀ u0 u1, K u0 u1 → Kz2 u0 u1) : w_X0_run_15_s c_X0_run kL15 q x1 x3 x4 x5 x6 M K → w_X0_run_15_s c_X0_run kL15z2 q x1 x3 x4 x5 x6 M Kz2 := by
  unfold w_X0_run_15_s
  repeat' first | with_reducible exact fun h => h | with_reducible exact hkL15 _ _ _ _ _ _ | with_reducible exact hK _ _ | with_reducible refine hc_X0_run _ _ _ _ _ _ _ _ (fun _ _ => ?_) | with_reducible refine and_m ?_ | with_reducible refine ite_m ?_ ?_ | with_reducible refine mn_X0_run_49 hc_X0_run (fun _ _ => ?_) | with_reducible refine all_m (fun _ => ?_) | with_reducible refine imp_m ?_
theorem mn_X0_run_15 {c_X0_run : Nat → Int32 → Int32 → Int32 → Int32 → ap_Mem → (Int32 → ap_Mem → Prop) → Prop} {q : Nat} {K Kz2 : Int32 → ap_Mem → Prop} (hc_X0_run : ∀ a0 a1 a2 a3 a4 a5 (J J2 : Int32 → ap_Mem → Prop), (∀ u0 u1, J u0 u1 → J2 u0 u1) → c_X0_run a0 a1 a2 a3 a4 a5 J → c_X0_run a0 a1 a2 a3 a4 a5 J2) (hK : ∀ u0 u1, K u0 u1 → Kz2 u0 u1) : ∀ (n : Nat) (v0 : Int32) (v1 : Int32) (v2 : Int32) (v3 : Int32) (v4 : Int32) (v5 : ap_Mem), w_X0_run_15 c_X0_run q K n v0 v1 v2 v3 v4 v5 → w_X0_run_15 c_X0_run q Kz2 n v0 v1 v2 v3 v4 v5 := by
  intro n
  induction n with
  | zero => exact fun _ _ _ _ _ _ h => h
  | succ n ih => exact fun _ _ _ _ _ _ => mn_X0_run_15_s hc_X0_run ih hK
theorem mn_wf_X0_run {c_X0_run : Nat → Int32 → Int32 → Int32 → Int32 → ap_Mem → (Int32 → ap_Mem → Prop) → Prop} {q : Nat} {x1 : Int32} {x2 : Int32} {x3 : Int32} {x4 : Int32} {M : ap_Mem} {K Kz2 : Int32 → ap_Mem → Prop} (hc_X0_run : ∀ a0 a1 a2 a3 a4 a5 (J J2 : Int32 → ap_Mem → Prop), (∀ u0 u1, J u0 u1 → J2 u0 u1) → c_X0_run a0 a1 a2 a3 a4 a5 J → c_X0_run a0 a1 a2 a3 a4 a5 J2) (hK : ∀ u0 u1, K u0 u1 → Kz2 u0 u1) : wf_X0_run c_X0_run q x1 x2 x3 x4 M K → wf_X0_run c_X0_run q x1 x2 x3 x4 M Kz2 := by
  unfold wf_X0_run
  repeat' first | with_reducible exact fun h => h | with_reducible exact hK _ _ | with_reducible refine hc_X0_run _ _ _ _ _ _ _ _ (fun _ _ => ?_) | with_reducible refine and_m ?_ | with_reducible refine ite_m ?_ ?_ | with_reducible refine mn_X0_run_15 hc_X0_run (fun _ _ => ?_) _ _ _ _ _ _ _ | with_reducible refine all_m (fun _ => ?_) | with_reducible refine imp_m ?_
theorem mr_X0_run : ∀ (n : Nat) (q : Nat) (x1 x2 x3 x4 : Int32) (M : ap_Mem) (K Kz2 : Int32 → ap_Mem → Prop), (∀ u0 u1, K u0 u1 → Kz2 u0 u1) → wr_X0_run n 0 q x1 x2 x3 x4 M K → wr_X0_run n 0 q x1 x2 x3 x4 M Kz2 := by
  intro n
  induction n with
  | zero => exact fun _ _ _ _ _ _ _ _ _ h => h
  | succ n ih => exact fun q x1 x2 x3 x4 M K K2 hK => mn_wf_X0_run ih hK
theorem mn_X0_run {q : Nat} {x1 : Int32} {x2 : Int32} {x3 : Int32} {x4 : Int32} {M : ap_Mem} {K Kz2 : Int32 → ap_Mem → Prop} (hK : ∀ u0 u1, K u0 u1 → Kz2 u0 u1) : w_X0_run q x1 x2 x3 x4 M K → w_X0_run q x1 x2 x3 x4 M Kz2 := by
  unfold w_X0_run
  repeat' first | with_reducible exact fun h => h | with_reducible exact hK _ _ | with_reducible refine and_m ?_ | with_reducible refine ite_m ?_ ?_ | with_reducible exact mr_X0_run _ _ _ _ _ _ _ _ _ hK | with_reducible refine all_m (fun _ => ?_) | with_reducible refine imp_m ?_
theorem mn_X0_start {q : Nat} {o1 : Nat} {x2 : Int32} {x3 : Int32} {x4 : Int32} {M : ap_Mem} {K Kz2 : Int32 → ap_Mem → Prop} (hK : ∀ u0 u1, K u0 u1 → Kz2 u0 u1) : w_X0_start q o1 x2 x3 x4 M K → w_X0_start q o1 x2 x3 x4 M Kz2 := by
  unfold w_X0_start
  repeat' first | with_reducible exact fun h => h | with_reducible exact hK _ _ | with_reducible refine and_m ?_ | with_reducible refine ite_m ?_ ?_ | with_reducible refine mn_X0_run  (fun _ _ => ?_) | with_reducible refine all_m (fun _ => ?_) | with_reducible refine imp_m ?_
theorem mn_X0_inTrace {q : Nat} {M : ap_Mem} {K Kz2 : Int32 → ap_Mem → Prop} (hK : ∀ u0 u1, K u0 u1 → Kz2 u0 u1) : w_X0_inTrace q M K → w_X0_inTrace q M Kz2 := by
  unfold w_X0_inTrace
  repeat' first | with_reducible exact fun h => h | with_reducible exact hK _ _ | with_reducible refine and_m ?_ | with_reducible refine ite_m ?_ ?_ | with_reducible refine all_m (fun _ => ?_) | with_reducible refine imp_m ?_
theorem mn_X7_clear {q : Nat} {M : ap_Mem} {K Kz2 : ap_Mem → Prop} (hK : ∀ u0, K u0 → Kz2 u0) : w_X7_clear q M K → w_X7_clear q M Kz2 := by
  unfold w_X7_clear
  repeat' first | with_reducible exact fun h => h | with_reducible exact hK _ | with_reducible refine and_m ?_ | with_reducible refine ite_m ?_ ?_ | with_reducible refine all_m (fun _ => ?_) | with_reducible refine imp_m ?_
theorem mn_X7_begin {q : Nat} {x1 : Int32} {x2 : Int32} {M : ap_Mem} {K Kz2 : ap_Mem → Prop} (hK : ∀ u0, K u0 → Kz2 u0) : w_X7_begin q x1 x2 M K → w_X7_begin q x1 x2 M Kz2 := by
  unfold w_X7_begin
  repeat' first | with_reducible exact fun h => h | with_reducible exact hK _ | with_reducible refine and_m ?_ | with_reducible refine ite_m ?_ ?_ | with_reducible refine all_m (fun _ => ?_) | with_reducible refine imp_m ?_
theorem mn_X7_put {q : Nat} {x1 : Int32} {M : ap_Mem} {K Kz2 : ap_Mem → Prop} (hK : ∀ u0, K u0 → Kz2 u0) : w_X7_put q x1 M K → w_X7_put q x1 M Kz2 := by
  unfold w_X7_put
  repeat' first | with_reducible exact fun h => h | with_reducible exact hK _ | with_reducible refine and_m ?_ | with_reducible refine ite_m ?_ ?_ | with_reducible refine all_m (fun _ => ?_) | with_reducible refine imp_m ?_
theorem mn_X7_putTest_18 {q : Nat} {x1 : Int32} {x2 : Int32} {x3 : Int32} {s0 : Int32} {M : ap_Mem} {K Kz2 : ap_Mem → Prop} (hK : ∀ u0, K u0 → Kz2 u0) : w_X7_putTest_18 q x1 x2 x3 s0 M K → w_X7_putTest_18 q x1 x2 x3 s0 M Kz2 := by
  unfold w_X7_putTest_18
  repeat' first | with_reducible exact fun h => h | with_reducible exact hK _ | with_reducible refine and_m ?_ | with_reducible refine ite_m ?_ ?_ | with_reducible refine mn_X7_put  (fun _ => ?_) | with_reducible refine all_m (fun _ => ?_) | with_reducible refine imp_m ?_
theorem mn_X7_putTest_13 {q : Nat} {x1 : Int32} {x2 : Int32} {x3 : Int32} {M : ap_Mem} {K Kz2 : ap_Mem → Prop} (hK : ∀ u0, K u0 → Kz2 u0) : w_X7_putTest_13 q x1 x2 x3 M K → w_X7_putTest_13 q x1 x2 x3 M Kz2 := by
  unfold w_X7_putTest_13
  repeat' first | with_reducible exact fun h => h | with_reducible exact hK _ | with_reducible refine and_m ?_ | with_reducible refine ite_m ?_ ?_ | with_reducible refine mn_X7_putTest_18  (fun _ => ?_) | with_reducible refine all_m (fun _ => ?_) | with_reducible refine imp_m ?_
theorem mn_X7_putTest {q : Nat} {x1 : Int32} {x2 : Int32} {x3 : Int32} {M : ap_Mem} {K Kz2 : ap_Mem → Prop} (hK : ∀ u0, K u0 → Kz2 u0) : w_X7_putTest q x1 x2 x3 M K → w_X7_putTest q x1 x2 x3 M Kz2 := by
  unfold w_X7_putTest
  repeat' first | with_reducible exact fun h => h | with_reducible exact hK _ | with_reducible refine and_m ?_ | with_reducible refine ite_m ?_ ?_ | with_reducible refine mn_X7_putTest_13  (fun _ => ?_) | with_reducible refine mn_X7_putTest_18  (fun _ => ?_) | with_reducible refine all_m (fun _ => ?_) | with_reducible refine imp_m ?_
theorem mn_X7_copyFrom {q : Nat} {o1 : Nat} {M : ap_Mem} {K Kz2 : ap_Mem → Prop} (hK : ∀ u0, K u0 → Kz2 u0) : w_X7_copyFrom q o1 M K → w_X7_copyFrom q o1 M Kz2 := by
  unfold w_X7_copyFrom
  repeat' first | with_reducible exact fun h => h | with_reducible exact hK _ | with_reducible refine and_m ?_ | with_reducible refine ite_m ?_ ?_ | with_reducible refine all_m (fun _ => ?_) | with_reducible refine imp_m ?_
theorem mn_X7_whereTest_90 {q : Nat} {o2 : Nat} {x5 : Int32} {x6 : Int32} {x7 : Int32} {x9 : Int32} {s0 : Int32} {s1 : Int32} {M : ap_Mem} {kL39 kL39z2 : Int32 → Int32 → Int32 → Int32 → Int32 → ap_Mem → Prop} {K Kz2 : Int32 → ap_Mem → Prop} (hkL39 : ∀ u0 u1 u2 u3 u4 u5, kL39 u0 u1 u2 u3 u4 u5 → kL39z2 u0 u1 u2 u3 u4 u5) (hK : ∀ u0 u1, K u0 u1 → Kz2 u0 u1) : w_X7_whereTest_90 kL39 q o2 x5 x6 x7 x9 s0 s1 M K → w_X7_whereTest_90 kL39z2 q o2 x5 x6 x7 x9 s0 s1 M Kz2 := by
  unfold w_X7_whereTest_90
  repeat' first | with_reducible exact fun h => h | with_reducible exact hkL39 _ _ _ _ _ _ | with_reducible exact hK _ _ | with_reducible refine and_m ?_ | with_reducible refine ite_m ?_ ?_ | with_reducible refine all_m (fun _ => ?_) | with_reducible refine imp_m ?_
theorem mn_X7_whereTest_89 {q : Nat} {o2 : Nat} {x5 : Int32} {x6 : Int32} {x7 : Int32} {x9 : Int32} {s0 : Int32} {M : ap_Mem} {kL39 kL39z2 : Int32 → Int32 → Int32 → Int32 → Int32 → ap_Mem → Prop} {K Kz2 : Int32 → ap_Mem → Prop} (hkL39 : ∀ u0 u1 u2 u3 u4 u5, kL39 u0 u1 u2 u3 u4 u5 → kL39z2 u0 u1 u2 u3 u4 u5) (hK : ∀ u0 u1, K u0 u1 → Kz2 u0 u1) : w_X7_whereTest_89 kL39 q o2 x5 x6 x7 x9 s0 M K → w_X7_whereTest_89 kL39z2 q o2 x5 x6 x7 x9 s0 M Kz2 := by
  unfold w_X7_whereTest_89
  repeat' first | with_reducible exact fun h => h | with_reducible exact hkL39 _ _ _ _ _ _ | with_reducible exact hK _ _ | with_reducible refine and_m ?_ | with_reducible refine ite_m ?_ ?_ | with_reducible refine mn_X7_whereTest_90  (fun _ _ _ _ _ _ => ?_) (fun _ _ => ?_) | with_reducible refine all_m (fun _ => ?_) | with_reducible refine imp_m ?_
theorem mn_X7_whereTest_64 {q : Nat} {o2 : Nat} {x5 : Int32} {x6 : Int32} {x7 : Int32} {x8 : Int32} {x9 : Int32} {s0 : Int32} {M : ap_Mem} {kL39 kL39z2 : Int32 → Int32 → Int32 → Int32 → Int32 → ap_Mem → Prop} {K Kz2 : Int32 → ap_Mem → Prop} (hkL39 : ∀ u0 u1 u2 u3 u4 u5, kL39 u0 u1 u2 u3 u4 u5 → kL39z2 u0 u1 u2 u3 u4 u5) (hK : ∀ u0 u1, K u0 u1 → Kz2 u0 u1) : w_X7_whereTest_64 kL39 q o2 x5 x6 x7 x8 x9 s0 M K → w_X7_whereTest_64 kL39z2 q o2 x5 x6 x7 x8 x9 s0 M Kz2 := by
  unfold w_X7_whereTest_64
  repeat' first | with_reducible exact fun h => h | with_reducible exact hkL39 _ _ _ _ _ _ | with_reducible exact hK _ _ | with_reducible refine and_m ?_ | with_reducible refine ite_m ?_ ?_ | with_reducible refine mn_X7_whereTest_89  (fun _ _ _ _ _ _ => ?_) (fun _ _ => ?_) | with_reducible refine mn_X7_whereTest_90  (fun _ _ _ _ _ _ => ?_) (fun _ _ => ?_) | with_reducible refine all_m (fun _ => ?_) | with_reducible refine imp_m ?_
theorem mn_X7_whereTest_39_s {q : Nat} {o2 : Nat} {x5 : Int32} {x6 : Int32} {x7 : Int32} {x8 : Int32} {x9 : Int32} {M : ap_Mem} {kL39 kL39z2 : Int32 → Int32 → Int32 → Int32 → Int32 → ap_Mem → Prop} {K Kz2 : Int32 → ap_Mem → Prop} (hkL39 : ∀ u0 u1 u2 u3 u4 u5, kL39 u0 u1 u2 u3 u4 u5 → kL39z2 u0 u1 u2 u3 u4 u5) (hK : ∀ u0 u1, K u0 u1 → Kz2 u0 u1) : w_X7_whereTest_39_s kL39 q o2 x5 x6 x7 x8 x9 M K → w_X7_whereTest_39_s kL39z2 q o2 x5 x6 x7 x8 x9 M Kz2 := by
  unfold w_X7_whereTest_39_s
  repeat' first | with_reducible exact fun h => h | with_reducible exact hkL39 _ _ _ _ _ _ | with_reducible exact hK _ _ | with_reducible refine and_m ?_ | with_reducible refine ite_m ?_ ?_ | with_reducible refine mn_X7_whereTest_64  (fun _ _ _ _ _ _ => ?_) (fun _ _ => ?_) | with_reducible refine all_m (fun _ => ?_) | with_reducible refine imp_m ?_
theorem mn_X7_whereTest_39 {q : Nat} {o2 : Nat} {K Kz2 : Int32 → ap_Mem → Prop} (hK : ∀ u0 u1, K u0 u1 → Kz2 u0 u1) : ∀ (n : Nat) (v0 : Int32) (v1 : Int32) (v2 : Int32) (v3 : Int32) (v4 : Int32) (v5 : ap_Mem), w_X7_whereTest_39 q o2 K n v0 v1 v2 v3 v4 v5 → w_X7_whereTest_39 q o2 Kz2 n v0 v1 v2 v3 v4 v5 := by
  intro n
  induction n with
  | zero => exact fun _ _ _ _ _ _ h => h
  | succ n ih => exact fun _ _ _ _ _ _ => mn_X7_whereTest_39_s ih hK
theorem mn_X7_whereTest_33 {q : Nat} {o2 : Nat} {x5 : Int32} {x6 : Int32} {x7 : Int32} {M : ap_Mem} {K Kz2 : Int32 → ap_Mem → Prop} (hK : ∀ u0 u1, K u0 u1 → Kz2 u0 u1) : w_X7_whereTest_33 q o2 x5 x6 x7 M K → w_X7_whereTest_33 q o2 x5 x6 x7 M Kz2 := by
  unfold w_X7_whereTest_33
  repeat' first | with_reducible exact fun h => h | with_reducible exact hK _ _ | with_reducible refine and_m ?_ | with_reducible refine ite_m ?_ ?_ | with_reducible refine mn_X7_whereTest_39  (fun _ _ => ?_) _ _ _ _ _ _ _ | with_reducible refine all_m (fun _ => ?_) | with_reducible refine imp_m ?_
theorem mn_X7_whereTest_148 {q : Nat} {o2 : Nat} {x5 : Int32} {x6 : Int32} {x8 : Int32} {M : ap_Mem} {K Kz2 : Int32 → ap_Mem → Prop} (hK : ∀ u0 u1, K u0 u1 → Kz2 u0 u1) : w_X7_whereTest_148 q o2 x5 x6 x8 M K → w_X7_whereTest_148 q o2 x5 x6 x8 M Kz2 := by
  unfold w_X7_whereTest_148
  repeat' first | with_reducible exact fun h => h | with_reducible exact hK _ _ | with_reducible refine and_m ?_ | with_reducible refine ite_m ?_ ?_ | with_reducible refine all_m (fun _ => ?_) | with_reducible refine imp_m ?_
theorem mn_X7_whereTest {q : Nat} {o2 : Nat} {x1 : Int32} {x3 : Int32} {x4 : Int32} {M : ap_Mem} {K Kz2 : Int32 → ap_Mem → Prop} (hK : ∀ u0 u1, K u0 u1 → Kz2 u0 u1) : w_X7_whereTest q o2 x1 x3 x4 M K → w_X7_whereTest q o2 x1 x3 x4 M Kz2 := by
  unfold w_X7_whereTest
  repeat' first | with_reducible exact fun h => h | with_reducible exact hK _ _ | with_reducible refine and_m ?_ | with_reducible refine ite_m ?_ ?_ | with_reducible refine mn_X7_whereTest_33  (fun _ _ => ?_) | with_reducible refine mn_X7_whereTest_148  (fun _ _ => ?_) | with_reducible refine all_m (fun _ => ?_) | with_reducible refine imp_m ?_
theorem mn_X7_whereHolds_188 {q : Nat} {o2 : Nat} {x3 : Int32} {x4 : Int32} {x5 : Int32} {x6 : Int32} {x7 : Int32} {M : ap_Mem} {kL38 kL38z2 : Int32 → Int32 → Int32 → Int32 → Int32 → ap_Mem → Prop} {K Kz2 : Int32 → ap_Mem → Prop} (hkL38 : ∀ u0 u1 u2 u3 u4 u5, kL38 u0 u1 u2 u3 u4 u5 → kL38z2 u0 u1 u2 u3 u4 u5) (hK : ∀ u0 u1, K u0 u1 → Kz2 u0 u1) : w_X7_whereHolds_188 kL38 q o2 x3 x4 x5 x6 x7 M K → w_X7_whereHolds_188 kL38z2 q o2 x3 x4 x5 x6 x7 M Kz2 := by
  unfold w_X7_whereHolds_188
  repeat' first | with_reducible exact fun h => h | with_reducible exact hkL38 _ _ _ _ _ _ | with_reducible exact hK _ _ | with_reducible refine and_m ?_ | with_reducible refine ite_m ?_ ?_ | with_reducible refine all_m (fun _ => ?_) | with_reducible refine imp_m ?_
theorem mn_X7_whereHolds_187 {q : Nat} {o2 : Nat} {x3 : Int32} {x4 : Int32} {x5 : Int32} {x6 : Int32} {x7 : Int32} {s0 : Int32} {s1 : Int32} {M : ap_Mem} {kL38 kL38z2 : Int32 → Int32 → Int32 → Int32 → Int32 → ap_Mem → Prop} {K Kz2 : Int32 → ap_Mem → Prop} (hkL38 : ∀ u0 u1 u2 u3 u4 u5, kL38 u0 u1 u2 u3 u4 u5 → kL38z2 u0 u1 u2 u3 u4 u5) (hK : ∀ u0 u1, K u0 u1 → Kz2 u0 u1) : w_X7_whereHolds_187 kL38 q o2 x3 x4 x5 x6 x7 s0 s1 M K → w_X7_whereHolds_187 kL38z2 q o2 x3 x4 x5 x6 x7 s0 s1 M Kz2 := by
  unfold w_X7_whereHolds_187
  repeat' first | with_reducible exact fun h => h | with_reducible exact hkL38 _ _ _ _ _ _ | with_reducible exact hK _ _ | with_reducible refine and_m ?_ | with_reducible refine ite_m ?_ ?_ | with_reducible refine mn_X7_whereHolds_188  (fun _ _ _ _ _ _ => ?_) (fun _ _ => ?_) | with_reducible refine all_m (fun _ => ?_) | with_reducible refine imp_m ?_
theorem mn_X7_whereHolds_118 {q : Nat} {o2 : Nat} {x3 : Int32} {x4 : Int32} {x5 : Int32} {x6 : Int32} {x7 : Int32} {x8 : Int32} {M : ap_Mem} {kL38 kL38z2 : Int32 → Int32 → Int32 → Int32 → Int32 → ap_Mem → Prop} {K Kz2 : Int32 → ap_Mem → Prop} (hkL38 : ∀ u0 u1 u2 u3 u4 u5, kL38 u0 u1 u2 u3 u4 u5 → kL38z2 u0 u1 u2 u3 u4 u5) (hK : ∀ u0 u1, K u0 u1 → Kz2 u0 u1) : w_X7_whereHolds_118 kL38 q o2 x3 x4 x5 x6 x7 x8 M K → w_X7_whereHolds_118 kL38z2 q o2 x3 x4 x5 x6 x7 x8 M Kz2 := by
  unfold w_X7_whereHolds_118
  repeat' first | with_reducible exact fun h => h | with_reducible exact hkL38 _ _ _ _ _ _ | with_reducible exact hK _ _ | with_reducible refine and_m ?_ | with_reducible refine ite_m ?_ ?_ | with_reducible refine mn_X7_whereHolds_188  (fun _ _ _ _ _ _ => ?_) (fun _ _ => ?_) | with_reducible refine mn_X7_whereHolds_187  (fun _ _ _ _ _ _ => ?_) (fun _ _ => ?_) | with_reducible refine all_m (fun _ => ?_) | with_reducible refine imp_m ?_
theorem mn_X7_whereHolds_89 {q : Nat} {o2 : Nat} {x3 : Int32} {x4 : Int32} {x5 : Int32} {x6 : Int32} {x7 : Int32} {x8 : Int32} {M : ap_Mem} {kL38 kL38z2 : Int32 → Int32 → Int32 → Int32 → Int32 → ap_Mem → Prop} {K Kz2 : Int32 → ap_Mem → Prop} (hkL38 : ∀ u0 u1 u2 u3 u4 u5, kL38 u0 u1 u2 u3 u4 u5 → kL38z2 u0 u1 u2 u3 u4 u5) (hK : ∀ u0 u1, K u0 u1 → Kz2 u0 u1) : w_X7_whereHolds_89 kL38 q o2 x3 x4 x5 x6 x7 x8 M K → w_X7_whereHolds_89 kL38z2 q o2 x3 x4 x5 x6 x7 x8 M Kz2 := by
  unfold w_X7_whereHolds_89
  repeat' first | with_reducible exact fun h => h | with_reducible exact hkL38 _ _ _ _ _ _ | with_reducible exact hK _ _ | with_reducible refine and_m ?_ | with_reducible refine ite_m ?_ ?_ | with_reducible refine mn_X7_whereHolds_118  (fun _ _ _ _ _ _ => ?_) (fun _ _ => ?_) | with_reducible refine mn_X7_whereHolds_188  (fun _ _ _ _ _ _ => ?_) (fun _ _ => ?_) | with_reducible refine all_m (fun _ => ?_) | with_reducible refine imp_m ?_
theorem mn_X7_whereHolds_38_s {q : Nat} {o2 : Nat} {x3 : Int32} {x4 : Int32} {x5 : Int32} {x6 : Int32} {x7 : Int32} {M : ap_Mem} {kL38 kL38z2 : Int32 → Int32 → Int32 → Int32 → Int32 → ap_Mem → Prop} {K Kz2 : Int32 → ap_Mem → Prop} (hkL38 : ∀ u0 u1 u2 u3 u4 u5, kL38 u0 u1 u2 u3 u4 u5 → kL38z2 u0 u1 u2 u3 u4 u5) (hK : ∀ u0 u1, K u0 u1 → Kz2 u0 u1) : w_X7_whereHolds_38_s kL38 q o2 x3 x4 x5 x6 x7 M K → w_X7_whereHolds_38_s kL38z2 q o2 x3 x4 x5 x6 x7 M Kz2 := by
  unfold w_X7_whereHolds_38_s
  repeat' first | with_reducible exact fun h => h | with_reducible exact hkL38 _ _ _ _ _ _ | with_reducible exact hK _ _ | with_reducible refine and_m ?_ | with_reducible refine ite_m ?_ ?_ | with_reducible refine mn_X7_whereHolds_89  (fun _ _ _ _ _ _ => ?_) (fun _ _ => ?_) | with_reducible refine mn_X7_whereTest  (fun _ _ => ?_) | with_reducible refine mn_X7_whereHolds_188  (fun _ _ _ _ _ _ => ?_) (fun _ _ => ?_) | with_reducible refine all_m (fun _ => ?_) | with_reducible refine imp_m ?_
theorem mn_X7_whereHolds_38 {q : Nat} {o2 : Nat} {K Kz2 : Int32 → ap_Mem → Prop} (hK : ∀ u0 u1, K u0 u1 → Kz2 u0 u1) : ∀ (n : Nat) (v0 : Int32) (v1 : Int32) (v2 : Int32) (v3 : Int32) (v4 : Int32) (v5 : ap_Mem), w_X7_whereHolds_38 q o2 K n v0 v1 v2 v3 v4 v5 → w_X7_whereHolds_38 q o2 Kz2 n v0 v1 v2 v3 v4 v5 := by
  intro n
  induction n with
  | zero => exact fun _ _ _ _ _ _ h => h
  | succ n ih => exact fun _ _ _ _ _ _ => mn_X7_whereHolds_38_s ih hK
theorem mn_X7_whereHolds_25 {q : Nat} {o2 : Nat} {x1 : Int32} {x3 : Int32} {x4 : Int32} {s0 : Int32} {M : ap_Mem} {K Kz2 : Int32 → ap_Mem → Prop} (hK : ∀ u0 u1, K u0 u1 → Kz2 u0 u1) : w_X7_whereHolds_25 q o2 x1 x3 x4 s0 M K → w_X7_whereHolds_25 q o2 x1 x3 x4 s0 M Kz2 := by
  unfold w_X7_whereHolds_25
  repeat' first | with_reducible exact fun h => h | with_reducible exact hK _ _ | with_reducible refine and_m ?_ | with_reducible refine ite_m ?_ ?_ | with_reducible refine mn_X7_whereHolds_38  (fun _ _ => ?_) _ _ _ _ _ _ _ | with_reducible refine all_m (fun _ => ?_) | with_reducible refine imp_m ?_
theorem mn_X7_whereHolds {q : Nat} {o2 : Nat} {x1 : Int32} {x3 : Int32} {x4 : Int32} {M : ap_Mem} {K Kz2 : Int32 → ap_Mem → Prop} (hK : ∀ u0 u1, K u0 u1 → Kz2 u0 u1) : w_X7_whereHolds q o2 x1 x3 x4 M K → w_X7_whereHolds q o2 x1 x3 x4 M Kz2 := by
  unfold w_X7_whereHolds
  repeat' first | with_reducible exact fun h => h | with_reducible exact hK _ _ | with_reducible refine and_m ?_ | with_reducible refine ite_m ?_ ?_ | with_reducible refine mn_X7_whereHolds_25  (fun _ _ => ?_) | with_reducible refine all_m (fun _ => ?_) | with_reducible refine imp_m ?_
theorem mn_X7_weigh_114_s {q : Nat} {o1 : Nat} {x2 : Int32} {x3 : Int32} {x4 : Int32} {x5 : Int32} {x6 : Int32} {x7 : Int32} {M : ap_Mem} {kL46 kL46z2 : Int32 → Int32 → Int32 → ap_Mem → Prop} {kL114 kL114z2 : Int32 → Int32 → Int32 → Int32 → Int32 → Int32 → ap_Mem → Prop} {K Kz2 : ap_Mem → Prop} (hkL46 : ∀ u0 u1 u2 u3, kL46 u0 u1 u2 u3 → kL46z2 u0 u1 u2 u3) (hkL114 : ∀ u0 u1 u2 u3 u4 u5 u6, kL114 u0 u1 u2 u3 u4 u5 u6 → kL114z2 u0 u1 u2 u3 u4 u5 u6) (hK : ∀ u0, K u0 → Kz2 u0) : w_X7_weigh_114_s kL46 kL114 q o1 x2 x3 x4 x5 x6 x7 M K → w_X7_weigh_114_s kL46z2 kL114z2 q o1 x2 x3 x4 x5 x6 x7 M Kz2 := by
  unfold w_X7_weigh_114_s
  repeat' first | with_reducible exact fun h => h | with_reducible exact hkL46 _ _ _ _ | with_reducible exact hkL114 _ _ _ _ _ _ _ | with_reducible exact hK _ | with_reducible refine and_m ?_ | with_reducible refine ite_m ?_ ?_ | with_reducible refine all_m (fun _ => ?_) | with_reducible refine imp_m ?_
theorem mn_X7_weigh_114 {q : Nat} {o1 : Nat} {kL46 kL46z2 : Int32 → Int32 → Int32 → ap_Mem → Prop} {K Kz2 : ap_Mem → Prop} (hkL46 : ∀ u0 u1 u2 u3, kL46 u0 u1 u2 u3 → kL46z2 u0 u1 u2 u3) (hK : ∀ u0, K u0 → Kz2 u0) : ∀ (n : Nat) (v0 : Int32) (v1 : Int32) (v2 : Int32) (v3 : Int32) (v4 : Int32) (v5 : Int32) (v6 : ap_Mem), w_X7_weigh_114 kL46 q o1 K n v0 v1 v2 v3 v4 v5 v6 → w_X7_weigh_114 kL46z2 q o1 Kz2 n v0 v1 v2 v3 v4 v5 v6 := by
  intro n
  induction n with
  | zero => exact fun _ _ _ _ _ _ _ h => h
  | succ n ih => exact fun _ _ _ _ _ _ _ => mn_X7_weigh_114_s hkL46 ih hK
theorem mn_X7_weigh_109 {q : Nat} {o1 : Nat} {x2 : Int32} {x3 : Int32} {x4 : Int32} {x5 : Int32} {s0 : Int32} {M : ap_Mem} {kL46 kL46z2 : Int32 → Int32 → Int32 → ap_Mem → Prop} {K Kz2 : ap_Mem → Prop} (hkL46 : ∀ u0 u1 u2 u3, kL46 u0 u1 u2 u3 → kL46z2 u0 u1 u2 u3) (hK : ∀ u0, K u0 → Kz2 u0) : w_X7_weigh_109 kL46 q o1 x2 x3 x4 x5 s0 M K → w_X7_weigh_109 kL46z2 q o1 x2 x3 x4 x5 s0 M Kz2 := by
  unfold w_X7_weigh_109
  repeat' first | with_reducible exact fun h => h | with_reducible exact hkL46 _ _ _ _ | with_reducible exact hK _ | with_reducible refine and_m ?_ | with_reducible refine ite_m ?_ ?_ | with_reducible refine mn_X7_weigh_114  (fun _ _ _ _ => ?_) (fun _ => ?_) _ _ _ _ _ _ _ _ | with_reducible refine all_m (fun _ => ?_) | with_reducible refine imp_m ?_
theorem mn_X7_weigh_84 {q : Nat} {o1 : Nat} {x2 : Int32} {x3 : Int32} {x4 : Int32} {s0 : Int32} {M : ap_Mem} {kL46 kL46z2 : Int32 → Int32 → Int32 → ap_Mem → Prop} {K Kz2 : ap_Mem → Prop} (hkL46 : ∀ u0 u1 u2 u3, kL46 u0 u1 u2 u3 → kL46z2 u0 u1 u2 u3) (hK : ∀ u0, K u0 → Kz2 u0) : w_X7_weigh_84 kL46 q o1 x2 x3 x4 s0 M K → w_X7_weigh_84 kL46z2 q o1 x2 x3 x4 s0 M Kz2 := by
  unfold w_X7_weigh_84
  repeat' first | with_reducible exact fun h => h | with_reducible exact hkL46 _ _ _ _ | with_reducible exact hK _ | with_reducible refine and_m ?_ | with_reducible refine ite_m ?_ ?_ | with_reducible refine mn_X7_weigh_109  (fun _ _ _ _ => ?_) (fun _ => ?_) | with_reducible refine mn_X7_whereHolds  (fun _ _ => ?_) | with_reducible refine all_m (fun _ => ?_) | with_reducible refine imp_m ?_
theorem mn_X7_weigh_46_s {q : Nat} {o1 : Nat} {x2 : Int32} {x3 : Int32} {x4 : Int32} {M : ap_Mem} {kL46 kL46z2 : Int32 → Int32 → Int32 → ap_Mem → Prop} {K Kz2 : ap_Mem → Prop} (hkL46 : ∀ u0 u1 u2 u3, kL46 u0 u1 u2 u3 → kL46z2 u0 u1 u2 u3) (hK : ∀ u0, K u0 → Kz2 u0) : w_X7_weigh_46_s kL46 q o1 x2 x3 x4 M K → w_X7_weigh_46_s kL46z2 q o1 x2 x3 x4 M Kz2 := by
  unfold w_X7_weigh_46_s
  repeat' first | with_reducible exact fun h => h | with_reducible exact hkL46 _ _ _ _ | with_reducible exact hK _ | with_reducible refine and_m ?_ | with_reducible refine ite_m ?_ ?_ | with_reducible refine mn_X7_weigh_84  (fun _ _ _ _ => ?_) (fun _ => ?_) | with_reducible refine all_m (fun _ => ?_) | with_reducible refine imp_m ?_
theorem mn_X7_weigh_46 {q : Nat} {o1 : Nat} {K Kz2 : ap_Mem → Prop} (hK : ∀ u0, K u0 → Kz2 u0) : ∀ (n : Nat) (v0 : Int32) (v1 : Int32) (v2 : Int32) (v3 : ap_Mem), w_X7_weigh_46 q o1 K n v0 v1 v2 v3 → w_X7_weigh_46 q o1 Kz2 n v0 v1 v2 v3 := by
  intro n
  induction n with
  | zero => exact fun _ _ _ _ h => h
  | succ n ih => exact fun _ _ _ _ => mn_X7_weigh_46_s ih hK
theorem mn_X7_weigh_3_s {q : Nat} {o1 : Nat} {x2 : Int32} {x3 : Int32} {x4 : Int32} {M : ap_Mem} {kL3 kL3z2 : Int32 → Int32 → Int32 → ap_Mem → Prop} {K Kz2 : ap_Mem → Prop} (hkL3 : ∀ u0 u1 u2 u3, kL3 u0 u1 u2 u3 → kL3z2 u0 u1 u2 u3) (hK : ∀ u0, K u0 → Kz2 u0) : w_X7_weigh_3_s kL3 q o1 x2 x3 x4 M K → w_X7_weigh_3_s kL3z2 q o1 x2 x3 x4 M Kz2 := by
  unfold w_X7_weigh_3_s
  repeat' first | with_reducible exact fun h => h | with_reducible exact hkL3 _ _ _ _ | with_reducible exact hK _ | with_reducible refine and_m ?_ | with_reducible refine ite_m ?_ ?_ | with_reducible refine mn_X7_weigh_46  (fun _ => ?_) _ _ _ _ _ | with_reducible refine mn_X8_far  (fun _ _ => ?_) | with_reducible refine all_m (fun _ => ?_) | with_reducible refine imp_m ?_
theorem mn_X7_weigh_3 {q : Nat} {o1 : Nat} {K Kz2 : ap_Mem → Prop} (hK : ∀ u0, K u0 → Kz2 u0) : ∀ (n : Nat) (v0 : Int32) (v1 : Int32) (v2 : Int32) (v3 : ap_Mem), w_X7_weigh_3 q o1 K n v0 v1 v2 v3 → w_X7_weigh_3 q o1 Kz2 n v0 v1 v2 v3 := by
  intro n
  induction n with
  | zero => exact fun _ _ _ _ h => h
  | succ n ih => exact fun _ _ _ _ => mn_X7_weigh_3_s ih hK
theorem mn_X7_weigh {q : Nat} {o1 : Nat} {x2 : Int32} {x3 : Int32} {M : ap_Mem} {K Kz2 : ap_Mem → Prop} (hK : ∀ u0, K u0 → Kz2 u0) : w_X7_weigh q o1 x2 x3 M K → w_X7_weigh q o1 x2 x3 M Kz2 := by
  unfold w_X7_weigh
  repeat' first | with_reducible exact fun h => h | with_reducible exact hK _ | with_reducible refine and_m ?_ | with_reducible refine ite_m ?_ ?_ | with_reducible refine mn_X7_weigh_3  (fun _ => ?_) _ _ _ _ _ | with_reducible refine all_m (fun _ => ?_) | with_reducible refine imp_m ?_
theorem mn_X4_next {q : Nat} {M : ap_Mem} {K Kz2 : Int32 → ap_Mem → Prop} (hK : ∀ u0 u1, K u0 u1 → Kz2 u0 u1) : w_X4_next q M K → w_X4_next q M Kz2 := by
  unfold w_X4_next
  repeat' first | with_reducible exact fun h => h | with_reducible exact hK _ _ | with_reducible refine and_m ?_ | with_reducible refine ite_m ?_ ?_ | with_reducible refine all_m (fun _ => ?_) | with_reducible refine imp_m ?_
theorem mn_X4_takes_13 {q : Nat} {s0 : Int32} {M : ap_Mem} {K Kz2 : Int32 → ap_Mem → Prop} (hK : ∀ u0 u1, K u0 u1 → Kz2 u0 u1) : w_X4_takes_13 q s0 M K → w_X4_takes_13 q s0 M Kz2 := by
  unfold w_X4_takes_13
  repeat' first | with_reducible exact fun h => h | with_reducible exact hK _ _ | with_reducible refine and_m ?_ | with_reducible refine ite_m ?_ ?_ | with_reducible refine all_m (fun _ => ?_) | with_reducible refine imp_m ?_
theorem mn_X4_takes {q : Nat} {x1 : Int32} {M : ap_Mem} {K Kz2 : Int32 → ap_Mem → Prop} (hK : ∀ u0 u1, K u0 u1 → Kz2 u0 u1) : w_X4_takes q x1 M K → w_X4_takes q x1 M Kz2 := by
  unfold w_X4_takes
  repeat' first | with_reducible exact fun h => h | with_reducible exact hK _ _ | with_reducible refine and_m ?_ | with_reducible refine ite_m ?_ ?_ | with_reducible refine mn_X4_next  (fun _ _ => ?_) | with_reducible refine mn_X4_takes_13  (fun _ _ => ?_) | with_reducible refine all_m (fun _ => ?_) | with_reducible refine imp_m ?_
theorem mn_X4_takesAll_2_s {q : Nat} {w1 : Nat} {x2 : Int32} {M : ap_Mem} {kL2 kL2z2 : Int32 → ap_Mem → Prop} {K Kz2 : Int32 → ap_Mem → Prop} (hkL2 : ∀ u0 u1, kL2 u0 u1 → kL2z2 u0 u1) (hK : ∀ u0 u1, K u0 u1 → Kz2 u0 u1) : w_X4_takesAll_2_s kL2 q w1 x2 M K → w_X4_takesAll_2_s kL2z2 q w1 x2 M Kz2 := by
  unfold w_X4_takesAll_2_s
  repeat' first | with_reducible exact fun h => h | with_reducible exact hkL2 _ _ | with_reducible exact hK _ _ | with_reducible refine and_m ?_ | with_reducible refine ite_m ?_ ?_ | with_reducible refine mn_J0_length_8abf5  (fun _ _ => ?_) | with_reducible refine mn_J0_charAt_5068e  (fun _ _ => ?_) | with_reducible refine mn_X4_takes  (fun _ _ => ?_) | with_reducible refine all_m (fun _ => ?_) | with_reducible refine imp_m ?_
theorem mn_X4_takesAll_2 {q : Nat} {w1 : Nat} {K Kz2 : Int32 → ap_Mem → Prop} (hK : ∀ u0 u1, K u0 u1 → Kz2 u0 u1) : ∀ (n : Nat) (v0 : Int32) (v1 : ap_Mem), w_X4_takesAll_2 q w1 K n v0 v1 → w_X4_takesAll_2 q w1 Kz2 n v0 v1 := by
  intro n
  induction n with
  | zero => exact fun _ _ h => h
  | succ n ih => exact fun _ _ => mn_X4_takesAll_2_s ih hK
theorem mn_X4_takesAll {q : Nat} {w1 : Nat} {M : ap_Mem} {K Kz2 : Int32 → ap_Mem → Prop} (hK : ∀ u0 u1, K u0 u1 → Kz2 u0 u1) : w_X4_takesAll q w1 M K → w_X4_takesAll q w1 M Kz2 := by
  unfold w_X4_takesAll
  repeat' first | with_reducible exact fun h => h | with_reducible exact hK _ _ | with_reducible refine and_m ?_ | with_reducible refine ite_m ?_ ?_ | with_reducible refine mn_X4_takesAll_2  (fun _ _ => ?_) _ _ _ | with_reducible refine all_m (fun _ => ?_) | with_reducible refine imp_m ?_
theorem mn_X4_takesOneOf_19 {q : Nat} {w1 : Nat} {s0 : Int32} {M : ap_Mem} {K Kz2 : Int32 → ap_Mem → Prop} (hK : ∀ u0 u1, K u0 u1 → Kz2 u0 u1) : w_X4_takesOneOf_19 q w1 s0 M K → w_X4_takesOneOf_19 q w1 s0 M Kz2 := by
  unfold w_X4_takesOneOf_19
  repeat' first | with_reducible exact fun h => h | with_reducible exact hK _ _ | with_reducible refine and_m ?_ | with_reducible refine ite_m ?_ ?_ | with_reducible refine all_m (fun _ => ?_) | with_reducible refine imp_m ?_
theorem mn_X4_takesOneOf {q : Nat} {w1 : Nat} {M : ap_Mem} {K Kz2 : Int32 → ap_Mem → Prop} (hK : ∀ u0 u1, K u0 u1 → Kz2 u0 u1) : w_X4_takesOneOf q w1 M K → w_X4_takesOneOf q w1 M Kz2 := by
  unfold w_X4_takesOneOf
  repeat' first | with_reducible exact fun h => h | with_reducible exact hK _ _ | with_reducible refine and_m ?_ | with_reducible refine ite_m ?_ ?_ | with_reducible refine mn_X4_next  (fun _ _ => ?_) | with_reducible refine mn_J0_indexOf_0f7a4  (fun _ _ => ?_) | with_reducible refine mn_X4_takesOneOf_19  (fun _ _ => ?_) | with_reducible refine all_m (fun _ => ?_) | with_reducible refine imp_m ?_
theorem mn_X4_takesNumber {q : Nat} {M : ap_Mem} {K Kz2 : Int32 → ap_Mem → Prop} (hK : ∀ u0 u1, K u0 u1 → Kz2 u0 u1) : w_X4_takesNumber q M K → w_X4_takesNumber q M Kz2 := by
  unfold w_X4_takesNumber
  repeat' first | with_reducible exact fun h => h | with_reducible exact hK _ _ | with_reducible refine and_m ?_ | with_reducible refine ite_m ?_ ?_ | with_reducible refine mn_X4_takesOneOf  (fun _ _ => ?_) | with_reducible refine all_m (fun _ => ?_) | with_reducible refine imp_m ?_
theorem mn_X4_push {q : Nat} {x1 : Int32} {M : ap_Mem} {K Kz2 : ap_Mem → Prop} (hK : ∀ u0, K u0 → Kz2 u0) : w_X4_push q x1 M K → w_X4_push q x1 M Kz2 := by
  unfold w_X4_push
  repeat' first | with_reducible exact fun h => h | with_reducible exact hK _ | with_reducible refine and_m ?_ | with_reducible refine ite_m ?_ ?_ | with_reducible refine all_m (fun _ => ?_) | with_reducible refine imp_m ?_
theorem mn_X4_takesOpening_60 {q : Nat} {x1 : Int32} {M : ap_Mem} {kL2 kL2z2 : Int32 → ap_Mem → Prop} {K Kz2 : ap_Mem → Prop} (hkL2 : ∀ u0 u1, kL2 u0 u1 → kL2z2 u0 u1) (hK : ∀ u0, K u0 → Kz2 u0) : w_X4_takesOpening_60 kL2 q x1 M K → w_X4_takesOpening_60 kL2z2 q x1 M Kz2 := by
  unfold w_X4_takesOpening_60
  repeat' first | with_reducible exact fun h => h | with_reducible exact hkL2 _ _ | with_reducible exact hK _ | with_reducible refine and_m ?_ | with_reducible refine ite_m ?_ ?_ | with_reducible refine all_m (fun _ => ?_) | with_reducible refine imp_m ?_
theorem mn_X4_takesOpening_2_s {q : Nat} {x1 : Int32} {M : ap_Mem} {kL2 kL2z2 : Int32 → ap_Mem → Prop} {K Kz2 : ap_Mem → Prop} (hkL2 : ∀ u0 u1, kL2 u0 u1 → kL2z2 u0 u1) (hK : ∀ u0, K u0 → Kz2 u0) : w_X4_takesOpening_2_s kL2 q x1 M K → w_X4_takesOpening_2_s kL2z2 q x1 M Kz2 := by
  unfold w_X4_takesOpening_2_s
  repeat' first | with_reducible exact fun h => h | with_reducible exact hkL2 _ _ | with_reducible exact hK _ | with_reducible refine and_m ?_ | with_reducible refine ite_m ?_ ?_ | with_reducible refine mn_X4_takes  (fun _ _ => ?_) | with_reducible refine mn_X4_push  (fun _ => ?_) | with_reducible refine mn_X4_takesOpening_60  (fun _ _ => ?_) (fun _ => ?_) | with_reducible refine all_m (fun _ => ?_) | with_reducible refine imp_m ?_
theorem mn_X4_takesOpening_2 {q : Nat} {K Kz2 : ap_Mem → Prop} (hK : ∀ u0, K u0 → Kz2 u0) : ∀ (n : Nat) (v0 : Int32) (v1 : ap_Mem), w_X4_takesOpening_2 q K n v0 v1 → w_X4_takesOpening_2 q Kz2 n v0 v1 := by
  intro n
  induction n with
  | zero => exact fun _ _ h => h
  | succ n ih => exact fun _ _ => mn_X4_takesOpening_2_s ih hK
theorem mn_X4_takesOpening {q : Nat} {M : ap_Mem} {K Kz2 : ap_Mem → Prop} (hK : ∀ u0, K u0 → Kz2 u0) : w_X4_takesOpening q M K → w_X4_takesOpening q M Kz2 := by
  unfold w_X4_takesOpening
  repeat' first | with_reducible exact fun h => h | with_reducible exact hK _ | with_reducible refine and_m ?_ | with_reducible refine ite_m ?_ ?_ | with_reducible refine mn_X4_takesOpening_2  (fun _ => ?_) _ _ _ | with_reducible refine all_m (fun _ => ?_) | with_reducible refine imp_m ?_
theorem mn_X4_readsTest_90 {q : Nat} {x3 : Int32} {s0 : Int32} {s1 : Int32} {M : ap_Mem} {K Kz2 : Int32 → ap_Mem → Prop} (hK : ∀ u0 u1, K u0 u1 → Kz2 u0 u1) : w_X4_readsTest_90 q x3 s0 s1 M K → w_X4_readsTest_90 q x3 s0 s1 M Kz2 := by
  unfold w_X4_readsTest_90
  repeat' first | with_reducible exact fun h => h | with_reducible exact hK _ _ | with_reducible refine and_m ?_ | with_reducible refine ite_m ?_ ?_ | with_reducible refine mn_X7_putTest  (fun _ => ?_) | with_reducible refine all_m (fun _ => ?_) | with_reducible refine imp_m ?_
theorem mn_X4_readsTest {q : Nat} {M : ap_Mem} {K Kz2 : Int32 → ap_Mem → Prop} (hK : ∀ u0 u1, K u0 u1 → Kz2 u0 u1) : w_X4_readsTest q M K → w_X4_readsTest q M Kz2 := by
  unfold w_X4_readsTest
  repeat' first | with_reducible exact fun h => h | with_reducible exact hK _ _ | with_reducible refine and_m ?_ | with_reducible refine ite_m ?_ ?_ | with_reducible refine mn_X4_takesOneOf  (fun _ _ => ?_) | with_reducible refine mn_X4_takesNumber  (fun _ _ => ?_) | with_reducible refine mn_X7_putTest  (fun _ => ?_) | with_reducible refine mn_X4_readsTest_90  (fun _ _ => ?_) | with_reducible refine all_m (fun _ => ?_) | with_reducible refine imp_m ?_
theorem mn_X4_settle_101 {q : Nat} {x1 : Int32} {x2 : Int32} {M : ap_Mem} {kL2 kL2z2 : Int32 → Int32 → ap_Mem → Prop} {K Kz2 : ap_Mem → Prop} (hkL2 : ∀ u0 u1 u2, kL2 u0 u1 u2 → kL2z2 u0 u1 u2) (hK : ∀ u0, K u0 → Kz2 u0) : w_X4_settle_101 kL2 q x1 x2 M K → w_X4_settle_101 kL2z2 q x1 x2 M Kz2 := by
  unfold w_X4_settle_101
  repeat' first | with_reducible exact fun h => h | with_reducible exact hkL2 _ _ _ | with_reducible exact hK _ | with_reducible refine and_m ?_ | with_reducible refine ite_m ?_ ?_ | with_reducible refine all_m (fun _ => ?_) | with_reducible refine imp_m ?_
theorem mn_X4_settle_98 {q : Nat} {x1 : Int32} {x2 : Int32} {s0 : Int32} {M : ap_Mem} {kL2 kL2z2 : Int32 → Int32 → ap_Mem → Prop} {K Kz2 : ap_Mem → Prop} (hkL2 : ∀ u0 u1 u2, kL2 u0 u1 u2 → kL2z2 u0 u1 u2) (hK : ∀ u0, K u0 → Kz2 u0) : w_X4_settle_98 kL2 q x1 x2 s0 M K → w_X4_settle_98 kL2z2 q x1 x2 s0 M Kz2 := by
  unfold w_X4_settle_98
  repeat' first | with_reducible exact fun h => h | with_reducible exact hkL2 _ _ _ | with_reducible exact hK _ | with_reducible refine and_m ?_ | with_reducible refine ite_m ?_ ?_ | with_reducible refine mn_X7_put  (fun _ => ?_) | with_reducible refine mn_X4_settle_101  (fun _ _ _ => ?_) (fun _ => ?_) | with_reducible refine all_m (fun _ => ?_) | with_reducible refine imp_m ?_
theorem mn_X4_settle_2_s {q : Nat} {x1 : Int32} {x2 : Int32} {M : ap_Mem} {kL2 kL2z2 : Int32 → Int32 → ap_Mem → Prop} {K Kz2 : ap_Mem → Prop} (hkL2 : ∀ u0 u1 u2, kL2 u0 u1 u2 → kL2z2 u0 u1 u2) (hK : ∀ u0, K u0 → Kz2 u0) : w_X4_settle_2_s kL2 q x1 x2 M K → w_X4_settle_2_s kL2z2 q x1 x2 M Kz2 := by
  unfold w_X4_settle_2_s
  repeat' first | with_reducible exact fun h => h | with_reducible exact hkL2 _ _ _ | with_reducible exact hK _ | with_reducible refine and_m ?_ | with_reducible refine ite_m ?_ ?_ | with_reducible refine mn_X7_put  (fun _ => ?_) | with_reducible refine mn_X4_settle_101  (fun _ _ _ => ?_) (fun _ => ?_) | with_reducible refine mn_X4_settle_98  (fun _ _ _ => ?_) (fun _ => ?_) | with_reducible refine all_m (fun _ => ?_) | with_reducible refine imp_m ?_
theorem mn_X4_settle_2 {q : Nat} {K Kz2 : ap_Mem → Prop} (hK : ∀ u0, K u0 → Kz2 u0) : ∀ (n : Nat) (v0 : Int32) (v1 : Int32) (v2 : ap_Mem), w_X4_settle_2 q K n v0 v1 v2 → w_X4_settle_2 q Kz2 n v0 v1 v2 := by
  intro n
  induction n with
  | zero => exact fun _ _ _ h => h
  | succ n ih => exact fun _ _ _ => mn_X4_settle_2_s ih hK
theorem mn_X4_settle {q : Nat} {x1 : Int32} {M : ap_Mem} {K Kz2 : ap_Mem → Prop} (hK : ∀ u0, K u0 → Kz2 u0) : w_X4_settle q x1 M K → w_X4_settle q x1 M Kz2 := by
  unfold w_X4_settle
  repeat' first | with_reducible exact fun h => h | with_reducible exact hK _ | with_reducible refine and_m ?_ | with_reducible refine ite_m ?_ ?_ | with_reducible refine mn_X4_settle_2  (fun _ => ?_) _ _ _ _ | with_reducible refine all_m (fun _ => ?_) | with_reducible refine imp_m ?_
theorem mn_X4_takesClosing_2_s {q : Nat} {x1 : Int32} {M : ap_Mem} {kL2 kL2z2 : Int32 → ap_Mem → Prop} {K Kz2 : ap_Mem → Prop} (hkL2 : ∀ u0 u1, kL2 u0 u1 → kL2z2 u0 u1) (hK : ∀ u0, K u0 → Kz2 u0) : w_X4_takesClosing_2_s kL2 q x1 M K → w_X4_takesClosing_2_s kL2z2 q x1 M Kz2 := by
  unfold w_X4_takesClosing_2_s
  repeat' first | with_reducible exact fun h => h | with_reducible exact hkL2 _ _ | with_reducible exact hK _ | with_reducible refine and_m ?_ | with_reducible refine ite_m ?_ ?_ | with_reducible refine mn_X4_takes  (fun _ _ => ?_) | with_reducible refine mn_X4_settle  (fun _ => ?_) | with_reducible refine all_m (fun _ => ?_) | with_reducible refine imp_m ?_
theorem mn_X4_takesClosing_2 {q : Nat} {K Kz2 : ap_Mem → Prop} (hK : ∀ u0, K u0 → Kz2 u0) : ∀ (n : Nat) (v0 : Int32) (v1 : ap_Mem), w_X4_takesClosing_2 q K n v0 v1 → w_X4_takesClosing_2 q Kz2 n v0 v1 := by
  intro n
  induction n with
  | zero => exact fun _ _ h => h
  | succ n ih => exact fun _ _ => mn_X4_takesClosing_2_s ih hK
theorem mn_X4_takesClosing {q : Nat} {M : ap_Mem} {K Kz2 : ap_Mem → Prop} (hK : ∀ u0, K u0 → Kz2 u0) : w_X4_takesClosing q M K → w_X4_takesClosing q M Kz2 := by
  unfold w_X4_takesClosing
  repeat' first | with_reducible exact fun h => h | with_reducible exact hK _ | with_reducible refine and_m ?_ | with_reducible refine ite_m ?_ ?_ | with_reducible refine mn_X4_takesClosing_2  (fun _ => ?_) _ _ _ | with_reducible refine all_m (fun _ => ?_) | with_reducible refine imp_m ?_
theorem mn_X4_readsExpression_102 {q : Nat} {x1 : Int32} {M : ap_Mem} {kL17 kL17z2 : Int32 → ap_Mem → Prop} {K Kz2 : Int32 → ap_Mem → Prop} (hkL17 : ∀ u0 u1, kL17 u0 u1 → kL17z2 u0 u1) (hK : ∀ u0 u1, K u0 u1 → Kz2 u0 u1) : w_X4_readsExpression_102 kL17 q x1 M K → w_X4_readsExpression_102 kL17z2 q x1 M Kz2 := by
  unfold w_X4_readsExpression_102
  repeat' first | with_reducible exact fun h => h | with_reducible exact hkL17 _ _ | with_reducible exact hK _ _ | with_reducible refine and_m ?_ | with_reducible refine ite_m ?_ ?_ | with_reducible refine all_m (fun _ => ?_) | with_reducible refine imp_m ?_
theorem mn_X4_readsExpression_17_s {q : Nat} {x1 : Int32} {M : ap_Mem} {kL17 kL17z2 : Int32 → ap_Mem → Prop} {K Kz2 : Int32 → ap_Mem → Prop} (hkL17 : ∀ u0 u1, kL17 u0 u1 → kL17z2 u0 u1) (hK : ∀ u0 u1, K u0 u1 → Kz2 u0 u1) : w_X4_readsExpression_17_s kL17 q x1 M K → w_X4_readsExpression_17_s kL17z2 q x1 M Kz2 := by
  unfold w_X4_readsExpression_17_s
  repeat' first | with_reducible exact fun h => h | with_reducible exact hkL17 _ _ | with_reducible exact hK _ _ | with_reducible refine and_m ?_ | with_reducible refine ite_m ?_ ?_ | with_reducible refine mn_X4_takesOpening  (fun _ => ?_) | with_reducible refine mn_X4_readsTest  (fun _ _ => ?_) | with_reducible refine mn_X4_takesClosing  (fun _ => ?_) | with_reducible refine mn_X4_takes  (fun _ _ => ?_) | with_reducible refine mn_X4_settle  (fun _ => ?_) | with_reducible refine mn_X4_push  (fun _ => ?_) | with_reducible refine mn_X4_readsExpression_102  (fun _ _ => ?_) (fun _ _ => ?_) | with_reducible refine all_m (fun _ => ?_) | with_reducible refine imp_m ?_
theorem mn_X4_readsExpression_17 {q : Nat} {K Kz2 : Int32 → ap_Mem → Prop} (hK : ∀ u0 u1, K u0 u1 → Kz2 u0 u1) : ∀ (n : Nat) (v0 : Int32) (v1 : ap_Mem), w_X4_readsExpression_17 q K n v0 v1 → w_X4_readsExpression_17 q Kz2 n v0 v1 := by
  intro n
  induction n with
  | zero => exact fun _ _ h => h
  | succ n ih => exact fun _ _ => mn_X4_readsExpression_17_s ih hK
theorem mn_X4_readsExpression {q : Nat} {M : ap_Mem} {K Kz2 : Int32 → ap_Mem → Prop} (hK : ∀ u0 u1, K u0 u1 → Kz2 u0 u1) : w_X4_readsExpression q M K → w_X4_readsExpression q M Kz2 := by
  unfold w_X4_readsExpression
  repeat' first | with_reducible exact fun h => h | with_reducible exact hK _ _ | with_reducible refine and_m ?_ | with_reducible refine ite_m ?_ ?_ | with_reducible refine mn_X4_readsExpression_17  (fun _ _ => ?_) _ _ _ | with_reducible refine all_m (fun _ => ?_) | with_reducible refine imp_m ?_
theorem mn_X4_readsClause_50 {q : Nat} {x1 : Int32} {s0 : Nat} {M : ap_Mem} {K Kz2 : Int32 → ap_Mem → Prop} (hK : ∀ u0 u1, K u0 u1 → Kz2 u0 u1) : w_X4_readsClause_50 q x1 s0 M K → w_X4_readsClause_50 q x1 s0 M Kz2 := by
  unfold w_X4_readsClause_50
  repeat' first | with_reducible exact fun h => h | with_reducible exact hK _ _ | with_reducible refine and_m ?_ | with_reducible refine ite_m ?_ ?_ | with_reducible refine mn_X4_takesAll  (fun _ _ => ?_) | with_reducible refine mn_X4_takesNumber  (fun _ _ => ?_) | with_reducible refine mn_X7_begin  (fun _ => ?_) | with_reducible refine mn_X4_takes  (fun _ _ => ?_) | with_reducible refine mn_X4_readsExpression  (fun _ _ => ?_) | with_reducible refine all_m (fun _ => ?_) | with_reducible refine imp_m ?_
theorem mn_X4_readsClause_27 {q : Nat} {s0 : Int32} {M : ap_Mem} {K Kz2 : Int32 → ap_Mem → Prop} (hK : ∀ u0 u1, K u0 u1 → Kz2 u0 u1) : w_X4_readsClause_27 q s0 M K → w_X4_readsClause_27 q s0 M Kz2 := by
  unfold w_X4_readsClause_27
  repeat' first | with_reducible exact fun h => h | with_reducible exact hK _ _ | with_reducible refine and_m ?_ | with_reducible refine ite_m ?_ ?_ | with_reducible refine mn_X4_readsClause_50  (fun _ _ => ?_) | with_reducible refine all_m (fun _ => ?_) | with_reducible refine imp_m ?_
theorem mn_X4_readsClause {q : Nat} {M : ap_Mem} {K Kz2 : Int32 → ap_Mem → Prop} (hK : ∀ u0 u1, K u0 u1 → Kz2 u0 u1) : w_X4_readsClause q M K → w_X4_readsClause q M Kz2 := by
  unfold w_X4_readsClause
  repeat' first | with_reducible exact fun h => h | with_reducible exact hK _ _ | with_reducible refine and_m ?_ | with_reducible refine ite_m ?_ ?_ | with_reducible refine mn_X4_next  (fun _ _ => ?_) | with_reducible refine mn_X4_readsClause_27  (fun _ _ => ?_) | with_reducible refine all_m (fun _ => ?_) | with_reducible refine imp_m ?_
theorem mn_X4_reads_22_s {q : Nat} {o1 : Nat} {x2 : Int32} {M : ap_Mem} {kL22 kL22z2 : Int32 → ap_Mem → Prop} {K Kz2 : Int32 → ap_Mem → Prop} (hkL22 : ∀ u0 u1, kL22 u0 u1 → kL22z2 u0 u1) (hK : ∀ u0 u1, K u0 u1 → Kz2 u0 u1) : w_X4_reads_22_s kL22 q o1 x2 M K → w_X4_reads_22_s kL22z2 q o1 x2 M Kz2 := by
  unfold w_X4_reads_22_s
  repeat' first | with_reducible exact fun h => h | with_reducible exact hkL22 _ _ | with_reducible exact hK _ _ | with_reducible refine and_m ?_ | with_reducible refine ite_m ?_ ?_ | with_reducible refine mn_X4_readsClause  (fun _ _ => ?_) | with_reducible refine mn_X4_takes  (fun _ _ => ?_) | with_reducible refine all_m (fun _ => ?_) | with_reducible refine imp_m ?_
theorem mn_X4_reads_22 {q : Nat} {o1 : Nat} {K Kz2 : Int32 → ap_Mem → Prop} (hK : ∀ u0 u1, K u0 u1 → Kz2 u0 u1) : ∀ (n : Nat) (v0 : Int32) (v1 : ap_Mem), w_X4_reads_22 q o1 K n v0 v1 → w_X4_reads_22 q o1 Kz2 n v0 v1 := by
  intro n
  induction n with
  | zero => exact fun _ _ h => h
  | succ n ih => exact fun _ _ => mn_X4_reads_22_s ih hK
theorem mn_X4_reads {q : Nat} {o1 : Nat} {M : ap_Mem} {K Kz2 : Int32 → ap_Mem → Prop} (hK : ∀ u0 u1, K u0 u1 → Kz2 u0 u1) : w_X4_reads q o1 M K → w_X4_reads q o1 M Kz2 := by
  unfold w_X4_reads
  repeat' first | with_reducible exact fun h => h | with_reducible exact hK _ _ | with_reducible refine and_m ?_ | with_reducible refine ite_m ?_ ?_ | with_reducible refine mn_X5_copyFrom  (fun _ => ?_) | with_reducible refine mn_X7_clear  (fun _ => ?_) | with_reducible refine mn_X4_reads_22  (fun _ _ => ?_) _ _ _ | with_reducible refine all_m (fun _ => ?_) | with_reducible refine imp_m ?_
theorem mn_X2_again {q : Nat} {M : ap_Mem} {K Kz2 : ap_Mem → Prop} (hK : ∀ u0, K u0 → Kz2 u0) : w_X2_again q M K → w_X2_again q M Kz2 := by
  unfold w_X2_again
  repeat' first | with_reducible exact fun h => h | with_reducible exact hK _ | with_reducible refine and_m ?_ | with_reducible refine ite_m ?_ ?_ | with_reducible refine mn_X1_copyFrom  (fun _ => ?_) | with_reducible refine all_m (fun _ => ?_) | with_reducible refine imp_m ?_
theorem mn_X2_begin_35_s {q : Nat} {o1 : Nat} {x2 : Int32} {M : ap_Mem} {kL35 kL35z2 : Int32 → ap_Mem → Prop} {K Kz2 : ap_Mem → Prop} (hkL35 : ∀ u0 u1, kL35 u0 u1 → kL35z2 u0 u1) (hK : ∀ u0, K u0 → Kz2 u0) : w_X2_begin_35_s kL35 q o1 x2 M K → w_X2_begin_35_s kL35z2 q o1 x2 M Kz2 := by
  unfold w_X2_begin_35_s
  repeat' first | with_reducible exact fun h => h | with_reducible exact hkL35 _ _ | with_reducible exact hK _ | with_reducible refine and_m ?_ | with_reducible refine ite_m ?_ ?_ | with_reducible refine mn_X2_again  (fun _ => ?_) | with_reducible refine all_m (fun _ => ?_) | with_reducible refine imp_m ?_
theorem mn_X2_begin_35 {q : Nat} {o1 : Nat} {K Kz2 : ap_Mem → Prop} (hK : ∀ u0, K u0 → Kz2 u0) : ∀ (n : Nat) (v0 : Int32) (v1 : ap_Mem), w_X2_begin_35 q o1 K n v0 v1 → w_X2_begin_35 q o1 Kz2 n v0 v1 := by
  intro n
  induction n with
  | zero => exact fun _ _ h => h
  | succ n ih => exact fun _ _ => mn_X2_begin_35_s ih hK
theorem mn_X2_begin {q : Nat} {o1 : Nat} {M : ap_Mem} {K Kz2 : ap_Mem → Prop} (hK : ∀ u0, K u0 → Kz2 u0) : w_X2_begin q o1 M K → w_X2_begin q o1 M Kz2 := by
  unfold w_X2_begin
  repeat' first | with_reducible exact fun h => h | with_reducible exact hK _ | with_reducible refine and_m ?_ | with_reducible refine ite_m ?_ ?_ | with_reducible refine mn_X3_copyFrom  (fun _ => ?_) | with_reducible refine mn_X7_copyFrom  (fun _ => ?_) | with_reducible refine mn_X1_copyFrom  (fun _ => ?_) | with_reducible refine mn_X2_begin_35  (fun _ => ?_) _ _ _ | with_reducible refine all_m (fun _ => ?_) | with_reducible refine imp_m ?_
theorem mn_X2_phase {q : Nat} {M : ap_Mem} {K Kz2 : Int32 → ap_Mem → Prop} (hK : ∀ u0 u1, K u0 u1 → Kz2 u0 u1) : w_X2_phase q M K → w_X2_phase q M Kz2 := by
  unfold w_X2_phase
  repeat' first | with_reducible exact fun h => h | with_reducible exact hK _ _ | with_reducible refine and_m ?_ | with_reducible refine ite_m ?_ ?_ | with_reducible refine all_m (fun _ => ?_) | with_reducible refine imp_m ?_
theorem mn_X2_lure {q : Nat} {x1 : Int32} {x2 : Int32} {M : ap_Mem} {K Kz2 : Int32 → ap_Mem → Prop} (hK : ∀ u0 u1, K u0 u1 → Kz2 u0 u1) : w_X2_lure q x1 x2 M K → w_X2_lure q x1 x2 M Kz2 := by
  unfold w_X2_lure
  repeat' first | with_reducible exact fun h => h | with_reducible exact hK _ _ | with_reducible refine and_m ?_ | with_reducible refine ite_m ?_ ?_ | with_reducible refine mn_X2_phase  (fun _ _ => ?_) | with_reducible refine mn_X7_weigh  (fun _ => ?_) | with_reducible refine all_m (fun _ => ?_) | with_reducible refine imp_m ?_
theorem mn_X2_tugBut {x0 : Int32} {x1 : Int32} {x2 : Int32} {x3 : Int32} {M : ap_Mem} {K Kz2 : Int32 → ap_Mem → Prop} (hK : ∀ u0 u1, K u0 u1 → Kz2 u0 u1) : w_X2_tugBut x0 x1 x2 x3 M K → w_X2_tugBut x0 x1 x2 x3 M Kz2 := by
  unfold w_X2_tugBut
  repeat' first | with_reducible exact fun h => h | with_reducible exact hK _ _ | with_reducible refine and_m ?_ | with_reducible refine ite_m ?_ ?_ | with_reducible refine all_m (fun _ => ?_) | with_reducible refine imp_m ?_
theorem mn_X2_reckon_147 {q : Nat} {x1 : Int32} {x2 : Int32} {M : ap_Mem} {kL7 kL7z2 : Int32 → Int32 → ap_Mem → Prop} {K Kz2 : ap_Mem → Prop} (hkL7 : ∀ u0 u1 u2, kL7 u0 u1 u2 → kL7z2 u0 u1 u2) (hK : ∀ u0, K u0 → Kz2 u0) : w_X2_reckon_147 kL7 q x1 x2 M K → w_X2_reckon_147 kL7z2 q x1 x2 M Kz2 := by
  unfold w_X2_reckon_147
  repeat' first | with_reducible exact fun h => h | with_reducible exact hkL7 _ _ _ | with_reducible exact hK _ | with_reducible refine and_m ?_ | with_reducible refine ite_m ?_ ?_ | with_reducible refine all_m (fun _ => ?_) | with_reducible refine imp_m ?_
theorem mn_X2_reckon_72_s {q : Nat} {x1 : Int32} {x2 : Int32} {x3 : Int32} {x4 : Int32} {M : ap_Mem} {kL7 kL7z2 : Int32 → Int32 → ap_Mem → Prop} {kL72 kL72z2 : Int32 → Int32 → Int32 → Int32 → ap_Mem → Prop} {K Kz2 : ap_Mem → Prop} (hkL7 : ∀ u0 u1 u2, kL7 u0 u1 u2 → kL7z2 u0 u1 u2) (hkL72 : ∀ u0 u1 u2 u3 u4, kL72 u0 u1 u2 u3 u4 → kL72z2 u0 u1 u2 u3 u4) (hK : ∀ u0, K u0 → Kz2 u0) : w_X2_reckon_72_s kL7 kL72 q x1 x2 x3 x4 M K → w_X2_reckon_72_s kL7z2 kL72z2 q x1 x2 x3 x4 M Kz2 := by
  unfold w_X2_reckon_72_s
  repeat' first | with_reducible exact fun h => h | with_reducible exact hkL7 _ _ _ | with_reducible exact hkL72 _ _ _ _ _ | with_reducible exact hK _ | with_reducible refine and_m ?_ | with_reducible refine ite_m ?_ ?_ | with_reducible refine mn_X2_reckon_147  (fun _ _ _ => ?_) (fun _ => ?_) | with_reducible refine mn_X2_tugBut  (fun _ _ => ?_) | with_reducible refine all_m (fun _ => ?_) | with_reducible refine imp_m ?_
theorem mn_X2_reckon_72 {q : Nat} {kL7 kL7z2 : Int32 → Int32 → ap_Mem → Prop} {K Kz2 : ap_Mem → Prop} (hkL7 : ∀ u0 u1 u2, kL7 u0 u1 u2 → kL7z2 u0 u1 u2) (hK : ∀ u0, K u0 → Kz2 u0) : ∀ (n : Nat) (v0 : Int32) (v1 : Int32) (v2 : Int32) (v3 : Int32) (v4 : ap_Mem), w_X2_reckon_72 kL7 q K n v0 v1 v2 v3 v4 → w_X2_reckon_72 kL7z2 q Kz2 n v0 v1 v2 v3 v4 := by
  intro n
  induction n with
  | zero => exact fun _ _ _ _ _ h => h
  | succ n ih => exact fun _ _ _ _ _ => mn_X2_reckon_72_s hkL7 ih hK
theorem mn_X2_reckon_7_s {q : Nat} {x1 : Int32} {x2 : Int32} {M : ap_Mem} {kL7 kL7z2 : Int32 → Int32 → ap_Mem → Prop} {K Kz2 : ap_Mem → Prop} (hkL7 : ∀ u0 u1 u2, kL7 u0 u1 u2 → kL7z2 u0 u1 u2) (hK : ∀ u0, K u0 → Kz2 u0) : w_X2_reckon_7_s kL7 q x1 x2 M K → w_X2_reckon_7_s kL7z2 q x1 x2 M Kz2 := by
  unfold w_X2_reckon_7_s
  repeat' first | with_reducible exact fun h => h | with_reducible exact hkL7 _ _ _ | with_reducible exact hK _ | with_reducible refine and_m ?_ | with_reducible refine ite_m ?_ ?_ | with_reducible refine mn_X3_isAway  (fun _ _ => ?_) | with_reducible refine mn_X2_reckon_147  (fun _ _ _ => ?_) (fun _ => ?_) | with_reducible refine mn_X7_weigh  (fun _ => ?_) | with_reducible refine mn_X2_reckon_72  (fun _ _ _ => ?_) (fun _ => ?_) _ _ _ _ _ _ | with_reducible refine all_m (fun _ => ?_) | with_reducible refine imp_m ?_
theorem mn_X2_reckon_7 {q : Nat} {K Kz2 : ap_Mem → Prop} (hK : ∀ u0, K u0 → Kz2 u0) : ∀ (n : Nat) (v0 : Int32) (v1 : Int32) (v2 : ap_Mem), w_X2_reckon_7 q K n v0 v1 v2 → w_X2_reckon_7 q Kz2 n v0 v1 v2 := by
  intro n
  induction n with
  | zero => exact fun _ _ _ h => h
  | succ n ih => exact fun _ _ _ => mn_X2_reckon_7_s ih hK
theorem mn_X2_reckon {q : Nat} {M : ap_Mem} {K Kz2 : ap_Mem → Prop} (hK : ∀ u0, K u0 → Kz2 u0) : w_X2_reckon q M K → w_X2_reckon q M Kz2 := by
  unfold w_X2_reckon
  repeat' first | with_reducible exact fun h => h | with_reducible exact hK _ | with_reducible refine and_m ?_ | with_reducible refine ite_m ?_ ?_ | with_reducible refine mn_X2_phase  (fun _ _ => ?_) | with_reducible refine mn_X2_reckon_7  (fun _ => ?_) _ _ _ _ | with_reducible refine all_m (fun _ => ?_) | with_reducible refine imp_m ?_
theorem mn_X2_tug_52 {q : Nat} {x1 : Int32} {x2 : Int32} {s0 : Int32} {M : ap_Mem} {K Kz2 : Int32 → ap_Mem → Prop} (hK : ∀ u0 u1, K u0 u1 → Kz2 u0 u1) : w_X2_tug_52 q x1 x2 s0 M K → w_X2_tug_52 q x1 x2 s0 M Kz2 := by
  unfold w_X2_tug_52
  repeat' first | with_reducible exact fun h => h | with_reducible exact hK _ _ | with_reducible refine and_m ?_ | with_reducible refine ite_m ?_ ?_ | with_reducible refine mn_X2_phase  (fun _ _ => ?_) | with_reducible refine all_m (fun _ => ?_) | with_reducible refine imp_m ?_
theorem mn_X2_tug {q : Nat} {x1 : Int32} {x2 : Int32} {M : ap_Mem} {K Kz2 : Int32 → ap_Mem → Prop} (hK : ∀ u0 u1, K u0 u1 → Kz2 u0 u1) : w_X2_tug q x1 x2 M K → w_X2_tug q x1 x2 M Kz2 := by
  unfold w_X2_tug
  repeat' first | with_reducible exact fun h => h | with_reducible exact hK _ _ | with_reducible refine and_m ?_ | with_reducible refine ite_m ?_ ?_ | with_reducible refine mn_X3_isAway  (fun _ _ => ?_) | with_reducible refine mn_X2_tug_52  (fun _ _ => ?_) | with_reducible refine all_m (fun _ => ?_) | with_reducible refine imp_m ?_
theorem mn_X2_draw_21_s {q : Nat} {x1 : Int32} {x2 : Int32} {x3 : Int32} {M : ap_Mem} {kL21 kL21z2 : Int32 → Int32 → Int32 → ap_Mem → Prop} {K Kz2 : Int32 → ap_Mem → Prop} (hkL21 : ∀ u0 u1 u2 u3, kL21 u0 u1 u2 u3 → kL21z2 u0 u1 u2 u3) (hK : ∀ u0 u1, K u0 u1 → Kz2 u0 u1) : w_X2_draw_21_s kL21 q x1 x2 x3 M K → w_X2_draw_21_s kL21z2 q x1 x2 x3 M Kz2 := by
  unfold w_X2_draw_21_s
  repeat' first | with_reducible exact fun h => h | with_reducible exact hkL21 _ _ _ _ | with_reducible exact hK _ _ | with_reducible refine and_m ?_ | with_reducible refine ite_m ?_ ?_ | with_reducible refine mn_X2_tug  (fun _ _ => ?_) | with_reducible refine all_m (fun _ => ?_) | with_reducible refine imp_m ?_
theorem mn_X2_draw_21 {q : Nat} {K Kz2 : Int32 → ap_Mem → Prop} (hK : ∀ u0 u1, K u0 u1 → Kz2 u0 u1) : ∀ (n : Nat) (v0 : Int32) (v1 : Int32) (v2 : Int32) (v3 : ap_Mem), w_X2_draw_21 q K n v0 v1 v2 v3 → w_X2_draw_21 q Kz2 n v0 v1 v2 v3 := by
  intro n
  induction n with
  | zero => exact fun _ _ _ _ h => h
  | succ n ih => exact fun _ _ _ _ => mn_X2_draw_21_s ih hK
theorem mn_X2_draw {q : Nat} {x1 : Int32} {M : ap_Mem} {K Kz2 : Int32 → ap_Mem → Prop} (hK : ∀ u0 u1, K u0 u1 → Kz2 u0 u1) : w_X2_draw q x1 M K → w_X2_draw q x1 M Kz2 := by
  unfold w_X2_draw
  repeat' first | with_reducible exact fun h => h | with_reducible exact hK _ _ | with_reducible refine and_m ?_ | with_reducible refine ite_m ?_ ?_ | with_reducible refine mn_X2_draw_21  (fun _ _ => ?_) _ _ _ _ _ | with_reducible refine all_m (fun _ => ?_) | with_reducible refine imp_m ?_
theorem mn_X2_go_145 {q : Nat} {M : ap_Mem} {K Kz2 : ap_Mem → Prop} (hK : ∀ u0, K u0 → Kz2 u0) : w_X2_go_145 q M K → w_X2_go_145 q M Kz2 := by
  unfold w_X2_go_145
  repeat' first | with_reducible exact fun h => h | with_reducible exact hK _ | with_reducible refine and_m ?_ | with_reducible refine ite_m ?_ ?_ | with_reducible refine all_m (fun _ => ?_) | with_reducible refine imp_m ?_
theorem mn_X2_go_105 {q : Nat} {x1 : Int32} {x2 : Int32} {x3 : Int32} {x4 : Int32} {M : ap_Mem} {kL21 kL21z2 : Int32 → Int32 → Int32 → Int32 → ap_Mem → Prop} {K Kz2 : ap_Mem → Prop} (hkL21 : ∀ u0 u1 u2 u3 u4, kL21 u0 u1 u2 u3 u4 → kL21z2 u0 u1 u2 u3 u4) (hK : ∀ u0, K u0 → Kz2 u0) : w_X2_go_105 kL21 q x1 x2 x3 x4 M K → w_X2_go_105 kL21z2 q x1 x2 x3 x4 M Kz2 := by
  unfold w_X2_go_105
  repeat' first | with_reducible exact fun h => h | with_reducible exact hkL21 _ _ _ _ _ | with_reducible exact hK _ | with_reducible refine and_m ?_ | with_reducible refine ite_m ?_ ?_ | with_reducible refine all_m (fun _ => ?_) | with_reducible refine imp_m ?_
theorem mn_X2_go_99 {q : Nat} {x1 : Int32} {x4 : Int32} {x5 : Int32} {x6 : Int32} {M : ap_Mem} {kL21 kL21z2 : Int32 → Int32 → Int32 → Int32 → ap_Mem → Prop} {K Kz2 : ap_Mem → Prop} (hkL21 : ∀ u0 u1 u2 u3 u4, kL21 u0 u1 u2 u3 u4 → kL21z2 u0 u1 u2 u3 u4) (hK : ∀ u0, K u0 → Kz2 u0) : w_X2_go_99 kL21 q x1 x4 x5 x6 M K → w_X2_go_99 kL21z2 q x1 x4 x5 x6 M Kz2 := by
  unfold w_X2_go_99
  repeat' first | with_reducible exact fun h => h | with_reducible exact hkL21 _ _ _ _ _ | with_reducible exact hK _ | with_reducible refine and_m ?_ | with_reducible refine ite_m ?_ ?_ | with_reducible refine mn_X2_go_105  (fun _ _ _ _ _ => ?_) (fun _ => ?_) | with_reducible refine all_m (fun _ => ?_) | with_reducible refine imp_m ?_
theorem mn_X2_go_21_s {q : Nat} {x1 : Int32} {x2 : Int32} {x3 : Int32} {x4 : Int32} {M : ap_Mem} {kL21 kL21z2 : Int32 → Int32 → Int32 → Int32 → ap_Mem → Prop} {K Kz2 : ap_Mem → Prop} (hkL21 : ∀ u0 u1 u2 u3 u4, kL21 u0 u1 u2 u3 u4 → kL21z2 u0 u1 u2 u3 u4) (hK : ∀ u0, K u0 → Kz2 u0) : w_X2_go_21_s kL21 q x1 x2 x3 x4 M K → w_X2_go_21_s kL21z2 q x1 x2 x3 x4 M Kz2 := by
  unfold w_X2_go_21_s
  repeat' first | with_reducible exact fun h => h | with_reducible exact hkL21 _ _ _ _ _ | with_reducible exact hK _ | with_reducible refine and_m ?_ | with_reducible refine ite_m ?_ ?_ | with_reducible refine mn_X2_go_145  (fun _ => ?_) | with_reducible refine mn_X8_isCell  (fun _ _ => ?_) | with_reducible refine mn_X2_go_105  (fun _ _ _ _ _ => ?_) (fun _ => ?_) | with_reducible refine mn_X8_far  (fun _ _ => ?_) | with_reducible refine mn_X2_draw  (fun _ _ => ?_) | with_reducible refine mn_X2_go_99  (fun _ _ _ _ _ => ?_) (fun _ => ?_) | with_reducible refine all_m (fun _ => ?_) | with_reducible refine imp_m ?_
theorem mn_X2_go_21 {q : Nat} {K Kz2 : ap_Mem → Prop} (hK : ∀ u0, K u0 → Kz2 u0) : ∀ (n : Nat) (v0 : Int32) (v1 : Int32) (v2 : Int32) (v3 : Int32) (v4 : ap_Mem), w_X2_go_21 q K n v0 v1 v2 v3 v4 → w_X2_go_21 q Kz2 n v0 v1 v2 v3 v4 := by
  intro n
  induction n with
  | zero => exact fun _ _ _ _ _ h => h
  | succ n ih => exact fun _ _ _ _ _ => mn_X2_go_21_s ih hK
theorem mn_X2_go {q : Nat} {x1 : Int32} {M : ap_Mem} {K Kz2 : ap_Mem → Prop} (hK : ∀ u0, K u0 → Kz2 u0) : w_X2_go q x1 M K → w_X2_go q x1 M Kz2 := by
  unfold w_X2_go
  repeat' first | with_reducible exact fun h => h | with_reducible exact hK _ | with_reducible refine and_m ?_ | with_reducible refine ite_m ?_ ?_ | with_reducible refine mn_X2_reckon  (fun _ => ?_) | with_reducible refine mn_X2_draw  (fun _ _ => ?_) | with_reducible refine mn_X2_go_21  (fun _ => ?_) _ _ _ _ _ _ | with_reducible refine all_m (fun _ => ?_) | with_reducible refine imp_m ?_
theorem mn_X2_goSteps_2_s {q : Nat} {x1 : Int32} {x2 : Int32} {M : ap_Mem} {kL2 kL2z2 : Int32 → Int32 → ap_Mem → Prop} {K Kz2 : ap_Mem → Prop} (hkL2 : ∀ u0 u1 u2, kL2 u0 u1 u2 → kL2z2 u0 u1 u2) (hK : ∀ u0, K u0 → Kz2 u0) : w_X2_goSteps_2_s kL2 q x1 x2 M K → w_X2_goSteps_2_s kL2z2 q x1 x2 M Kz2 := by
  unfold w_X2_goSteps_2_s
  repeat' first | with_reducible exact fun h => h | with_reducible exact hkL2 _ _ _ | with_reducible exact hK _ | with_reducible refine and_m ?_ | with_reducible refine ite_m ?_ ?_ | with_reducible refine mn_X2_go  (fun _ => ?_) | with_reducible refine all_m (fun _ => ?_) | with_reducible refine imp_m ?_
theorem mn_X2_goSteps_2 {q : Nat} {K Kz2 : ap_Mem → Prop} (hK : ∀ u0, K u0 → Kz2 u0) : ∀ (n : Nat) (v0 : Int32) (v1 : Int32) (v2 : ap_Mem), w_X2_goSteps_2 q K n v0 v1 v2 → w_X2_goSteps_2 q Kz2 n v0 v1 v2 := by
  intro n
  induction n with
  | zero => exact fun _ _ _ h => h
  | succ n ih => exact fun _ _ _ => mn_X2_goSteps_2_s ih hK
theorem mn_X2_goSteps {q : Nat} {x1 : Int32} {M : ap_Mem} {K Kz2 : ap_Mem → Prop} (hK : ∀ u0, K u0 → Kz2 u0) : w_X2_goSteps q x1 M K → w_X2_goSteps q x1 M Kz2 := by
  unfold w_X2_goSteps
  repeat' first | with_reducible exact fun h => h | with_reducible exact hK _ | with_reducible refine and_m ?_ | with_reducible refine ite_m ?_ ?_ | with_reducible refine mn_X2_goSteps_2  (fun _ => ?_) _ _ _ _ | with_reducible refine all_m (fun _ => ?_) | with_reducible refine imp_m ?_
theorem mn_X2_comesTo_2_s {q : Nat} {x1 : Int32} {x2 : Int32} {x3 : Int32} {M : ap_Mem} {kL2 kL2z2 : Int32 → Int32 → Int32 → ap_Mem → Prop} {K Kz2 : Int32 → ap_Mem → Prop} (hkL2 : ∀ u0 u1 u2 u3, kL2 u0 u1 u2 u3 → kL2z2 u0 u1 u2 u3) (hK : ∀ u0 u1, K u0 u1 → Kz2 u0 u1) : w_X2_comesTo_2_s kL2 q x1 x2 x3 M K → w_X2_comesTo_2_s kL2z2 q x1 x2 x3 M Kz2 := by
  unfold w_X2_comesTo_2_s
  repeat' first | with_reducible exact fun h => h | with_reducible exact hkL2 _ _ _ _ | with_reducible exact hK _ _ | with_reducible refine and_m ?_ | with_reducible refine ite_m ?_ ?_ | with_reducible refine mn_X2_go  (fun _ => ?_) | with_reducible refine all_m (fun _ => ?_) | with_reducible refine imp_m ?_
theorem mn_X2_comesTo_2 {q : Nat} {K Kz2 : Int32 → ap_Mem → Prop} (hK : ∀ u0 u1, K u0 u1 → Kz2 u0 u1) : ∀ (n : Nat) (v0 : Int32) (v1 : Int32) (v2 : Int32) (v3 : ap_Mem), w_X2_comesTo_2 q K n v0 v1 v2 v3 → w_X2_comesTo_2 q Kz2 n v0 v1 v2 v3 := by
  intro n
  induction n with
  | zero => exact fun _ _ _ _ h => h
  | succ n ih => exact fun _ _ _ _ => mn_X2_comesTo_2_s ih hK
theorem mn_X2_comesTo {q : Nat} {x1 : Int32} {x2 : Int32} {M : ap_Mem} {K Kz2 : Int32 → ap_Mem → Prop} (hK : ∀ u0 u1, K u0 u1 → Kz2 u0 u1) : w_X2_comesTo q x1 x2 M K → w_X2_comesTo q x1 x2 M Kz2 := by
  unfold w_X2_comesTo
  repeat' first | with_reducible exact fun h => h | with_reducible exact hK _ _ | with_reducible refine and_m ?_ | with_reducible refine ite_m ?_ ?_ | with_reducible refine mn_X2_comesTo_2  (fun _ _ => ?_) _ _ _ _ _ | with_reducible refine all_m (fun _ => ?_) | with_reducible refine imp_m ?_
theorem mn_X2_putPerson {q : Nat} {x1 : Int32} {x2 : Int32} {M : ap_Mem} {K Kz2 : ap_Mem → Prop} (hK : ∀ u0, K u0 → Kz2 u0) : w_X2_putPerson q x1 x2 M K → w_X2_putPerson q x1 x2 M Kz2 := by
  unfold w_X2_putPerson
  repeat' first | with_reducible exact fun h => h | with_reducible exact hK _ | with_reducible refine and_m ?_ | with_reducible refine ite_m ?_ ?_ | with_reducible refine all_m (fun _ => ?_) | with_reducible refine imp_m ?_
theorem mn_X2_isAsSeen_82 {q : Nat} {o1 : Nat} {x2 : Int32} {x3 : Int32} {x4 : Int32} {M : ap_Mem} {kL43 kL43z2 : Int32 → Int32 → Int32 → ap_Mem → Prop} {K Kz2 : Int32 → ap_Mem → Prop} (hkL43 : ∀ u0 u1 u2 u3, kL43 u0 u1 u2 u3 → kL43z2 u0 u1 u2 u3) (hK : ∀ u0 u1, K u0 u1 → Kz2 u0 u1) : w_X2_isAsSeen_82 kL43 q o1 x2 x3 x4 M K → w_X2_isAsSeen_82 kL43z2 q o1 x2 x3 x4 M Kz2 := by
  unfold w_X2_isAsSeen_82
  repeat' first | with_reducible exact fun h => h | with_reducible exact hkL43 _ _ _ _ | with_reducible exact hK _ _ | with_reducible refine and_m ?_ | with_reducible refine ite_m ?_ ?_ | with_reducible refine all_m (fun _ => ?_) | with_reducible refine imp_m ?_
theorem mn_X2_isAsSeen_43_s {q : Nat} {o1 : Nat} {x2 : Int32} {x3 : Int32} {x4 : Int32} {M : ap_Mem} {kL35 kL35z2 : Int32 → Int32 → ap_Mem → Prop} {kL43 kL43z2 : Int32 → Int32 → Int32 → ap_Mem → Prop} {K Kz2 : Int32 → ap_Mem → Prop} (hkL35 : ∀ u0 u1 u2, kL35 u0 u1 u2 → kL35z2 u0 u1 u2) (hkL43 : ∀ u0 u1 u2 u3, kL43 u0 u1 u2 u3 → kL43z2 u0 u1 u2 u3) (hK : ∀ u0 u1, K u0 u1 → Kz2 u0 u1) : w_X2_isAsSeen_43_s kL35 kL43 q o1 x2 x3 x4 M K → w_X2_isAsSeen_43_s kL35z2 kL43z2 q o1 x2 x3 x4 M Kz2 := by
  unfold w_X2_isAsSeen_43_s
  repeat' first | with_reducible exact fun h => h | with_reducible exact hkL35 _ _ _ | with_reducible exact hkL43 _ _ _ _ | with_reducible exact hK _ _ | with_reducible refine and_m ?_ | with_reducible refine ite_m ?_ ?_ | with_reducible refine mn_X2_go  (fun _ => ?_) | with_reducible refine mn_X2_isAsSeen_82  (fun _ _ _ _ => ?_) (fun _ _ => ?_) | with_reducible refine all_m (fun _ => ?_) | with_reducible refine imp_m ?_
theorem mn_X2_isAsSeen_43 {q : Nat} {o1 : Nat} {kL35 kL35z2 : Int32 → Int32 → ap_Mem → Prop} {K Kz2 : Int32 → ap_Mem → Prop} (hkL35 : ∀ u0 u1 u2, kL35 u0 u1 u2 → kL35z2 u0 u1 u2) (hK : ∀ u0 u1, K u0 u1 → Kz2 u0 u1) : ∀ (n : Nat) (v0 : Int32) (v1 : Int32) (v2 : Int32) (v3 : ap_Mem), w_X2_isAsSeen_43 kL35 q o1 K n v0 v1 v2 v3 → w_X2_isAsSeen_43 kL35z2 q o1 Kz2 n v0 v1 v2 v3 := by
  intro n
  induction n with
  | zero => exact fun _ _ _ _ h => h
  | succ n ih => exact fun _ _ _ _ => mn_X2_isAsSeen_43_s hkL35 ih hK
theorem mn_X2_isAsSeen_35_s {q : Nat} {o1 : Nat} {x2 : Int32} {x3 : Int32} {M : ap_Mem} {kL35 kL35z2 : Int32 → Int32 → ap_Mem → Prop} {K Kz2 : Int32 → ap_Mem → Prop} (hkL35 : ∀ u0 u1 u2, kL35 u0 u1 u2 → kL35z2 u0 u1 u2) (hK : ∀ u0 u1, K u0 u1 → Kz2 u0 u1) : w_X2_isAsSeen_35_s kL35 q o1 x2 x3 M K → w_X2_isAsSeen_35_s kL35z2 q o1 x2 x3 M Kz2 := by
  unfold w_X2_isAsSeen_35_s
  repeat' first | with_reducible exact fun h => h | with_reducible exact hkL35 _ _ _ | with_reducible exact hK _ _ | with_reducible refine and_m ?_ | with_reducible refine ite_m ?_ ?_ | with_reducible refine mn_X2_isAsSeen_43  (fun _ _ _ => ?_) (fun _ _ => ?_) _ _ _ _ _ | with_reducible refine all_m (fun _ => ?_) | with_reducible refine imp_m ?_
theorem mn_X2_isAsSeen_35 {q : Nat} {o1 : Nat} {K Kz2 : Int32 → ap_Mem → Prop} (hK : ∀ u0 u1, K u0 u1 → Kz2 u0 u1) : ∀ (n : Nat) (v0 : Int32) (v1 : Int32) (v2 : ap_Mem), w_X2_isAsSeen_35 q o1 K n v0 v1 v2 → w_X2_isAsSeen_35 q o1 Kz2 n v0 v1 v2 := by
  intro n
  induction n with
  | zero => exact fun _ _ _ h => h
  | succ n ih => exact fun _ _ _ => mn_X2_isAsSeen_35_s ih hK
theorem mn_X2_isAsSeen_4_s {q : Nat} {o1 : Nat} {x2 : Int32} {x3 : Int32} {M : ap_Mem} {kL4 kL4z2 : Int32 → Int32 → ap_Mem → Prop} {K Kz2 : Int32 → ap_Mem → Prop} (hkL4 : ∀ u0 u1 u2, kL4 u0 u1 u2 → kL4z2 u0 u1 u2) (hK : ∀ u0 u1, K u0 u1 → Kz2 u0 u1) : w_X2_isAsSeen_4_s kL4 q o1 x2 x3 M K → w_X2_isAsSeen_4_s kL4z2 q o1 x2 x3 M Kz2 := by
  unfold w_X2_isAsSeen_4_s
  repeat' first | with_reducible exact fun h => h | with_reducible exact hkL4 _ _ _ | with_reducible exact hK _ _ | with_reducible refine and_m ?_ | with_reducible refine ite_m ?_ ?_ | with_reducible refine mn_X2_again  (fun _ => ?_) | with_reducible refine mn_X2_isAsSeen_35  (fun _ _ => ?_) _ _ _ _ | with_reducible refine all_m (fun _ => ?_) | with_reducible refine imp_m ?_
theorem mn_X2_isAsSeen_4 {q : Nat} {o1 : Nat} {K Kz2 : Int32 → ap_Mem → Prop} (hK : ∀ u0 u1, K u0 u1 → Kz2 u0 u1) : ∀ (n : Nat) (v0 : Int32) (v1 : Int32) (v2 : ap_Mem), w_X2_isAsSeen_4 q o1 K n v0 v1 v2 → w_X2_isAsSeen_4 q o1 Kz2 n v0 v1 v2 := by
  intro n
  induction n with
  | zero => exact fun _ _ _ h => h
  | succ n ih => exact fun _ _ _ => mn_X2_isAsSeen_4_s ih hK
theorem mn_X2_isAsSeen {q : Nat} {o1 : Nat} {M : ap_Mem} {K Kz2 : Int32 → ap_Mem → Prop} (hK : ∀ u0 u1, K u0 u1 → Kz2 u0 u1) : w_X2_isAsSeen q o1 M K → w_X2_isAsSeen q o1 M Kz2 := by
  unfold w_X2_isAsSeen
  repeat' first | with_reducible exact fun h => h | with_reducible exact hK _ _ | with_reducible refine and_m ?_ | with_reducible refine ite_m ?_ ?_ | with_reducible refine mn_X2_isAsSeen_4  (fun _ _ => ?_) _ _ _ _ | with_reducible refine all_m (fun _ => ?_) | with_reducible refine imp_m ?_
theorem mn_X2_makePerson {q : Nat} {x1 : Int32} {x2 : Int32} {M : ap_Mem} {K Kz2 : ap_Mem → Prop} (hK : ∀ u0, K u0 → Kz2 u0) : w_X2_makePerson q x1 x2 M K → w_X2_makePerson q x1 x2 M Kz2 := by
  unfold w_X2_makePerson
  repeat' first | with_reducible exact fun h => h | with_reducible exact hK _ | with_reducible refine and_m ?_ | with_reducible refine ite_m ?_ ?_ | with_reducible refine all_m (fun _ => ?_) | with_reducible refine imp_m ?_
theorem mn_X2_follow_44 {q : Nat} {s0 : Int32} {s1 : Int32} {M : ap_Mem} {K Kz2 : ap_Mem → Prop} (hK : ∀ u0, K u0 → Kz2 u0) : w_X2_follow_44 q s0 s1 M K → w_X2_follow_44 q s0 s1 M Kz2 := by
  unfold w_X2_follow_44
  repeat' first | with_reducible exact fun h => h | with_reducible exact hK _ | with_reducible refine and_m ?_ | with_reducible refine ite_m ?_ ?_ | with_reducible refine mn_X3_setAway  (fun _ => ?_) | with_reducible refine all_m (fun _ => ?_) | with_reducible refine imp_m ?_
theorem mn_X2_follow {q : Nat} {x1 : Int32} {x2 : Int32} {M : ap_Mem} {K Kz2 : ap_Mem → Prop} (hK : ∀ u0, K u0 → Kz2 u0) : w_X2_follow q x1 x2 M K → w_X2_follow q x1 x2 M Kz2 := by
  unfold w_X2_follow
  repeat' first | with_reducible exact fun h => h | with_reducible exact hK _ | with_reducible refine and_m ?_ | with_reducible refine ite_m ?_ ?_ | with_reducible refine mn_X2_go  (fun _ => ?_) | with_reducible refine mn_X2_follow_44  (fun _ => ?_) | with_reducible refine all_m (fun _ => ?_) | with_reducible refine imp_m ?_
theorem mn_X6_copyFrom {q : Nat} {o1 : Nat} {M : ap_Mem} {K Kz2 : ap_Mem → Prop} (hK : ∀ u0, K u0 → Kz2 u0) : w_X6_copyFrom q o1 M K → w_X6_copyFrom q o1 M Kz2 := by
  unfold w_X6_copyFrom
  repeat' first | with_reducible exact fun h => h | with_reducible exact hK _ | with_reducible refine and_m ?_ | with_reducible refine ite_m ?_ ?_ | with_reducible refine mn_X5_copyFrom  (fun _ => ?_) | with_reducible refine mn_X7_copyFrom  (fun _ => ?_) | with_reducible refine mn_X3_copyFrom  (fun _ => ?_) | with_reducible refine mn_X1_copyFrom  (fun _ => ?_) | with_reducible refine all_m (fun _ => ?_) | with_reducible refine imp_m ?_
theorem mn_X8_feed {q : Nat} {x1 : Int32} {M : ap_Mem} {K Kz2 : Int32 → ap_Mem → Prop} (hK : ∀ u0 u1, K u0 u1 → Kz2 u0 u1) : w_X8_feed q x1 M K → w_X8_feed q x1 M Kz2 := by
  unfold w_X8_feed
  repeat' first | with_reducible exact fun h => h | with_reducible exact hK _ _ | with_reducible refine and_m ?_ | with_reducible refine ite_m ?_ ?_ | with_reducible refine mn_X5_add  (fun _ _ => ?_) | with_reducible refine all_m (fun _ => ?_) | with_reducible refine imp_m ?_
theorem mn_X8_town {q : Nat} {M : ap_Mem} {K Kz2 : Int32 → ap_Mem → Prop} (hK : ∀ u0 u1, K u0 u1 → Kz2 u0 u1) : w_X8_town q M K → w_X8_town q M Kz2 := by
  unfold w_X8_town
  repeat' first | with_reducible exact fun h => h | with_reducible exact hK _ _ | with_reducible refine and_m ?_ | with_reducible refine ite_m ?_ ?_ | with_reducible refine mn_X4_reads  (fun _ _ => ?_) | with_reducible refine mn_X5_clear  (fun _ _ => ?_) | with_reducible refine mn_X7_copyFrom  (fun _ => ?_) | with_reducible refine all_m (fun _ => ?_) | with_reducible refine imp_m ?_
theorem mn_X8_person {q : Nat} {x1 : Int32} {x2 : Int32} {x3 : Int32} {M : ap_Mem} {K Kz2 : Int32 → ap_Mem → Prop} (hK : ∀ u0 u1, K u0 u1 → Kz2 u0 u1) : w_X8_person q x1 x2 x3 M K → w_X8_person q x1 x2 x3 M Kz2 := by
  unfold w_X8_person
  repeat' first | with_reducible exact fun h => h | with_reducible exact hK _ _ | with_reducible refine and_m ?_ | with_reducible refine ite_m ?_ ?_ | with_reducible refine mn_X8_isKind  (fun _ _ => ?_) | with_reducible refine mn_X8_isCell  (fun _ _ => ?_) | with_reducible refine mn_X8_isDigit  (fun _ _ => ?_) | with_reducible refine mn_X3_add  (fun _ _ => ?_) | with_reducible refine all_m (fun _ => ?_) | with_reducible refine imp_m ?_
theorem mn_X8_of {q : Nat} {x1 : Int32} {x2 : Int32} {M : ap_Mem} {K Kz2 : Int32 → ap_Mem → Prop} (hK : ∀ u0 u1, K u0 u1 → Kz2 u0 u1) : w_X8_of q x1 x2 M K → w_X8_of q x1 x2 M Kz2 := by
  unfold w_X8_of
  repeat' first | with_reducible exact fun h => h | with_reducible exact hK _ _ | with_reducible refine and_m ?_ | with_reducible refine ite_m ?_ ?_ | with_reducible refine mn_X3_has  (fun _ _ => ?_) | with_reducible refine mn_X3_isAway  (fun _ _ => ?_) | with_reducible refine mn_X8_isCell  (fun _ _ => ?_) | with_reducible refine mn_X2_begin  (fun _ => ?_) | with_reducible refine mn_X2_reckon  (fun _ => ?_) | with_reducible refine mn_X2_tug  (fun _ _ => ?_) | with_reducible refine mn_X2_lure  (fun _ _ => ?_) | with_reducible refine all_m (fun _ => ?_) | with_reducible refine imp_m ?_
theorem mn_X8_line {q : Nat} {x1 : Int32} {x2 : Int32} {x3 : Int32} {M : ap_Mem} {K Kz2 : Int32 → ap_Mem → Prop} (hK : ∀ u0 u1, K u0 u1 → Kz2 u0 u1) : w_X8_line q x1 x2 x3 M K → w_X8_line q x1 x2 x3 M Kz2 := by
  unfold w_X8_line
  repeat' first | with_reducible exact fun h => h | with_reducible exact hK _ _ | with_reducible refine and_m ?_ | with_reducible refine ite_m ?_ ?_ | with_reducible refine mn_X3_has  (fun _ _ => ?_) | with_reducible refine mn_X8_isDigit  (fun _ _ => ?_) | with_reducible refine all_m (fun _ => ?_) | with_reducible refine imp_m ?_
theorem mn_X8_move {q : Nat} {x1 : Int32} {x2 : Int32} {M : ap_Mem} {K Kz2 : Int32 → ap_Mem → Prop} (hK : ∀ u0 u1, K u0 u1 → Kz2 u0 u1) : w_X8_move q x1 x2 M K → w_X8_move q x1 x2 M Kz2 := by
  unfold w_X8_move
  repeat' first | with_reducible exact fun h => h | with_reducible exact hK _ _ | with_reducible refine and_m ?_ | with_reducible refine ite_m ?_ ?_ | with_reducible refine mn_X3_has  (fun _ _ => ?_) | with_reducible refine mn_X8_isCell  (fun _ _ => ?_) | with_reducible refine all_m (fun _ => ?_) | with_reducible refine imp_m ?_
theorem mn_X8_away {q : Nat} {x1 : Int32} {x2 : Int32} {M : ap_Mem} {K Kz2 : Int32 → ap_Mem → Prop} (hK : ∀ u0 u1, K u0 u1 → Kz2 u0 u1) : w_X8_away q x1 x2 M K → w_X8_away q x1 x2 M Kz2 := by
  unfold w_X8_away
  repeat' first | with_reducible exact fun h => h | with_reducible exact hK _ _ | with_reducible refine and_m ?_ | with_reducible refine ite_m ?_ ?_ | with_reducible refine mn_X3_has  (fun _ _ => ?_) | with_reducible refine mn_X3_isAway  (fun _ _ => ?_) | with_reducible refine mn_X3_setAway  (fun _ => ?_) | with_reducible refine all_m (fun _ => ?_) | with_reducible refine imp_m ?_
theorem mn_X8_lay {q : Nat} {x1 : Int32} {M : ap_Mem} {K Kz2 : Int32 → ap_Mem → Prop} (hK : ∀ u0 u1, K u0 u1 → Kz2 u0 u1) : w_X8_lay q x1 M K → w_X8_lay q x1 M Kz2 := by
  unfold w_X8_lay
  repeat' first | with_reducible exact fun h => h | with_reducible exact hK _ _ | with_reducible refine and_m ?_ | with_reducible refine ite_m ?_ ?_ | with_reducible refine mn_X8_isCell  (fun _ _ => ?_) | with_reducible refine all_m (fun _ => ?_) | with_reducible refine imp_m ?_
theorem mn_X8_told {q : Nat} {x1 : Int32} {M : ap_Mem} {K Kz2 : Int32 → ap_Mem → Prop} (hK : ∀ u0 u1, K u0 u1 → Kz2 u0 u1) : w_X8_told q x1 M K → w_X8_told q x1 M Kz2 := by
  unfold w_X8_told
  repeat' first | with_reducible exact fun h => h | with_reducible exact hK _ _ | with_reducible refine and_m ?_ | with_reducible refine ite_m ?_ ?_ | with_reducible refine mn_X1_cellsLainOn  (fun _ _ => ?_) | with_reducible refine mn_X8_isCell  (fun _ _ => ?_) | with_reducible refine mn_X2_begin  (fun _ => ?_) | with_reducible refine mn_X2_reckon  (fun _ => ?_) | with_reducible refine mn_X2_draw  (fun _ _ => ?_) | with_reducible refine all_m (fun _ => ?_) | with_reducible refine imp_m ?_
theorem mn_X8_pass_44_s {q : Nat} {x1 : Int32} {x2 : Int32} {M : ap_Mem} {kL44 kL44z2 : Int32 → Int32 → ap_Mem → Prop} {K Kz2 : Int32 → ap_Mem → Prop} (hkL44 : ∀ u0 u1 u2, kL44 u0 u1 u2 → kL44z2 u0 u1 u2) (hK : ∀ u0 u1, K u0 u1 → Kz2 u0 u1) : w_X8_pass_44_s kL44 q x1 x2 M K → w_X8_pass_44_s kL44z2 q x1 x2 M Kz2 := by
  unfold w_X8_pass_44_s
  repeat' first | with_reducible exact fun h => h | with_reducible exact hkL44 _ _ _ | with_reducible exact hK _ _ | with_reducible refine and_m ?_ | with_reducible refine ite_m ?_ ?_ | with_reducible refine mn_X1_copyFrom  (fun _ => ?_) | with_reducible refine mn_X2_go  (fun _ => ?_) | with_reducible refine all_m (fun _ => ?_) | with_reducible refine imp_m ?_
theorem mn_X8_pass_44 {q : Nat} {K Kz2 : Int32 → ap_Mem → Prop} (hK : ∀ u0 u1, K u0 u1 → Kz2 u0 u1) : ∀ (n : Nat) (v0 : Int32) (v1 : Int32) (v2 : ap_Mem), w_X8_pass_44 q K n v0 v1 v2 → w_X8_pass_44 q Kz2 n v0 v1 v2 := by
  intro n
  induction n with
  | zero => exact fun _ _ _ h => h
  | succ n ih => exact fun _ _ _ => mn_X8_pass_44_s ih hK
theorem mn_X8_pass {q : Nat} {x1 : Int32} {M : ap_Mem} {K Kz2 : Int32 → ap_Mem → Prop} (hK : ∀ u0 u1, K u0 u1 → Kz2 u0 u1) : w_X8_pass q x1 M K → w_X8_pass q x1 M Kz2 := by
  unfold w_X8_pass
  repeat' first | with_reducible exact fun h => h | with_reducible exact hK _ _ | with_reducible refine and_m ?_ | with_reducible refine ite_m ?_ ?_ | with_reducible refine mn_X8_isFuture  (fun _ _ => ?_) | with_reducible refine mn_X2_begin  (fun _ => ?_) | with_reducible refine mn_X8_pass_44  (fun _ _ => ?_) _ _ _ _ | with_reducible refine all_m (fun _ => ?_) | with_reducible refine imp_m ?_
theorem mn_X8_on_23 {q : Nat} {x1 : Int32} {x2 : Int32} {x3 : Int32} {M : ap_Mem} {K Kz2 : Int32 → ap_Mem → Prop} (hK : ∀ u0 u1, K u0 u1 → Kz2 u0 u1) : w_X8_on_23 q x1 x2 x3 M K → w_X8_on_23 q x1 x2 x3 M Kz2 := by
  unfold w_X8_on_23
  repeat' first | with_reducible exact fun h => h | with_reducible exact hK _ _ | with_reducible refine and_m ?_ | with_reducible refine ite_m ?_ ?_ | with_reducible refine mn_X8_isFuture  (fun _ _ => ?_) | with_reducible refine mn_X2_begin  (fun _ => ?_) | with_reducible refine mn_X2_goSteps  (fun _ => ?_) | with_reducible refine mn_X1_cellsLainOn  (fun _ _ => ?_) | with_reducible refine all_m (fun _ => ?_) | with_reducible refine imp_m ?_
theorem mn_X8_on {q : Nat} {x1 : Int32} {x2 : Int32} {M : ap_Mem} {K Kz2 : Int32 → ap_Mem → Prop} (hK : ∀ u0 u1, K u0 u1 → Kz2 u0 u1) : w_X8_on q x1 x2 M K → w_X8_on q x1 x2 M Kz2 := by
  unfold w_X8_on
  repeat' first | with_reducible exact fun h => h | with_reducible exact hK _ _ | with_reducible refine and_m ?_ | with_reducible refine ite_m ?_ ?_ | with_reducible refine mn_X8_isCell  (fun _ _ => ?_) | with_reducible refine mn_X8_on_23  (fun _ _ => ?_) | with_reducible refine all_m (fun _ => ?_) | with_reducible refine imp_m ?_
theorem mn_X8_finds {q : Nat} {x1 : Int32} {M : ap_Mem} {K Kz2 : Int32 → ap_Mem → Prop} (hK : ∀ u0 u1, K u0 u1 → Kz2 u0 u1) : w_X8_finds q x1 M K → w_X8_finds q x1 M Kz2 := by
  unfold w_X8_finds
  repeat' first | with_reducible exact fun h => h | with_reducible exact hK _ _ | with_reducible refine and_m ?_ | with_reducible refine ite_m ?_ ?_ | with_reducible refine mn_X3_has  (fun _ _ => ?_) | with_reducible refine mn_X2_begin  (fun _ => ?_) | with_reducible refine mn_X2_comesTo  (fun _ _ => ?_) | with_reducible refine all_m (fun _ => ?_) | with_reducible refine imp_m ?_
theorem mn_X8_soonest_98 {q : Nat} {x1 : Int32} {x2 : Int32} {x3 : Int32} {x4 : Int32} {x5 : Int32} {M : ap_Mem} {kL37 kL37z2 : Int32 → Int32 → Int32 → Int32 → Int32 → ap_Mem → Prop} {K Kz2 : Int32 → ap_Mem → Prop} (hkL37 : ∀ u0 u1 u2 u3 u4 u5, kL37 u0 u1 u2 u3 u4 u5 → kL37z2 u0 u1 u2 u3 u4 u5) (hK : ∀ u0 u1, K u0 u1 → Kz2 u0 u1) : w_X8_soonest_98 kL37 q x1 x2 x3 x4 x5 M K → w_X8_soonest_98 kL37z2 q x1 x2 x3 x4 x5 M Kz2 := by
  unfold w_X8_soonest_98
  repeat' first | with_reducible exact fun h => h | with_reducible exact hkL37 _ _ _ _ _ _ | with_reducible exact hK _ _ | with_reducible refine and_m ?_ | with_reducible refine ite_m ?_ ?_ | with_reducible refine all_m (fun _ => ?_) | with_reducible refine imp_m ?_
theorem mn_X8_soonest_37_s {q : Nat} {x1 : Int32} {x2 : Int32} {x3 : Int32} {x4 : Int32} {x5 : Int32} {M : ap_Mem} {kL37 kL37z2 : Int32 → Int32 → Int32 → Int32 → Int32 → ap_Mem → Prop} {K Kz2 : Int32 → ap_Mem → Prop} (hkL37 : ∀ u0 u1 u2 u3 u4 u5, kL37 u0 u1 u2 u3 u4 u5 → kL37z2 u0 u1 u2 u3 u4 u5) (hK : ∀ u0 u1, K u0 u1 → Kz2 u0 u1) : w_X8_soonest_37_s kL37 q x1 x2 x3 x4 x5 M K → w_X8_soonest_37_s kL37z2 q x1 x2 x3 x4 x5 M Kz2 := by
  unfold w_X8_soonest_37_s
  repeat' first | with_reducible exact fun h => h | with_reducible exact hkL37 _ _ _ _ _ _ | with_reducible exact hK _ _ | with_reducible refine and_m ?_ | with_reducible refine ite_m ?_ ?_ | with_reducible refine mn_X8_soonest_98  (fun _ _ _ _ _ _ => ?_) (fun _ _ => ?_) | with_reducible refine mn_X2_again  (fun _ => ?_) | with_reducible refine mn_X2_comesTo  (fun _ _ => ?_) | with_reducible refine all_m (fun _ => ?_) | with_reducible refine imp_m ?_
theorem mn_X8_soonest_37 {q : Nat} {K Kz2 : Int32 → ap_Mem → Prop} (hK : ∀ u0 u1, K u0 u1 → Kz2 u0 u1) : ∀ (n : Nat) (v0 : Int32) (v1 : Int32) (v2 : Int32) (v3 : Int32) (v4 : Int32) (v5 : ap_Mem), w_X8_soonest_37 q K n v0 v1 v2 v3 v4 v5 → w_X8_soonest_37 q Kz2 n v0 v1 v2 v3 v4 v5 := by
  intro n
  induction n with
  | zero => exact fun _ _ _ _ _ _ h => h
  | succ n ih => exact fun _ _ _ _ _ _ => mn_X8_soonest_37_s ih hK
theorem mn_X8_soonest {q : Nat} {x1 : Int32} {x2 : Int32} {M : ap_Mem} {K Kz2 : Int32 → ap_Mem → Prop} (hK : ∀ u0 u1, K u0 u1 → Kz2 u0 u1) : w_X8_soonest q x1 x2 M K → w_X8_soonest q x1 x2 M Kz2 := by
  unfold w_X8_soonest
  repeat' first | with_reducible exact fun h => h | with_reducible exact hK _ _ | with_reducible refine and_m ?_ | with_reducible refine ite_m ?_ ?_ | with_reducible refine mn_X8_isCell  (fun _ _ => ?_) | with_reducible refine mn_X8_isEither  (fun _ _ => ?_) | with_reducible refine mn_X2_begin  (fun _ => ?_) | with_reducible refine mn_X8_soonest_37  (fun _ _ => ?_) _ _ _ _ _ _ _ | with_reducible refine all_m (fun _ => ?_) | with_reducible refine imp_m ?_
theorem mn_X8_call_138 {q : Nat} {x1 : Int32} {x3 : Int32} {x4 : Int32} {x5 : Int32} {x6 : Int32} {M : ap_Mem} {kL67 kL67z2 : Int32 → Int32 → Int32 → Int32 → Int32 → ap_Mem → Prop} {K Kz2 : Int32 → ap_Mem → Prop} (hkL67 : ∀ u0 u1 u2 u3 u4 u5, kL67 u0 u1 u2 u3 u4 u5 → kL67z2 u0 u1 u2 u3 u4 u5) (hK : ∀ u0 u1, K u0 u1 → Kz2 u0 u1) : w_X8_call_138 kL67 q x1 x3 x4 x5 x6 M K → w_X8_call_138 kL67z2 q x1 x3 x4 x5 x6 M Kz2 := by
  unfold w_X8_call_138
  repeat' first | with_reducible exact fun h => h | with_reducible exact hkL67 _ _ _ _ _ _ | with_reducible exact hK _ _ | with_reducible refine and_m ?_ | with_reducible refine ite_m ?_ ?_ | with_reducible refine all_m (fun _ => ?_) | with_reducible refine imp_m ?_
theorem mn_X8_call_144 {q : Nat} {x1 : Int32} {x3 : Int32} {x4 : Int32} {x5 : Int32} {M : ap_Mem} {kL49 kL49z2 : Int32 → Int32 → Int32 → Int32 → ap_Mem → Prop} {K Kz2 : Int32 → ap_Mem → Prop} (hkL49 : ∀ u0 u1 u2 u3 u4, kL49 u0 u1 u2 u3 u4 → kL49z2 u0 u1 u2 u3 u4) (hK : ∀ u0 u1, K u0 u1 → Kz2 u0 u1) : w_X8_call_144 kL49 q x1 x3 x4 x5 M K → w_X8_call_144 kL49z2 q x1 x3 x4 x5 M Kz2 := by
  unfold w_X8_call_144
  repeat' first | with_reducible exact fun h => h | with_reducible exact hkL49 _ _ _ _ _ | with_reducible exact hK _ _ | with_reducible refine and_m ?_ | with_reducible refine ite_m ?_ ?_ | with_reducible refine mn_X2_putPerson  (fun _ => ?_) | with_reducible refine all_m (fun _ => ?_) | with_reducible refine imp_m ?_
theorem mn_X8_call_67_s {q : Nat} {x1 : Int32} {x3 : Int32} {x4 : Int32} {x5 : Int32} {x6 : Int32} {M : ap_Mem} {kL49 kL49z2 : Int32 → Int32 → Int32 → Int32 → ap_Mem → Prop} {kL67 kL67z2 : Int32 → Int32 → Int32 → Int32 → Int32 → ap_Mem → Prop} {K Kz2 : Int32 → ap_Mem → Prop} (hkL49 : ∀ u0 u1 u2 u3 u4, kL49 u0 u1 u2 u3 u4 → kL49z2 u0 u1 u2 u3 u4) (hkL67 : ∀ u0 u1 u2 u3 u4 u5, kL67 u0 u1 u2 u3 u4 u5 → kL67z2 u0 u1 u2 u3 u4 u5) (hK : ∀ u0 u1, K u0 u1 → Kz2 u0 u1) : w_X8_call_67_s kL49 kL67 q x1 x3 x4 x5 x6 M K → w_X8_call_67_s kL49z2 kL67z2 q x1 x3 x4 x5 x6 M Kz2 := by
  unfold w_X8_call_67_s
  repeat' first | with_reducible exact fun h => h | with_reducible exact hkL49 _ _ _ _ _ | with_reducible exact hkL67 _ _ _ _ _ _ | with_reducible exact hK _ _ | with_reducible refine and_m ?_ | with_reducible refine ite_m ?_ ?_ | with_reducible refine mn_X8_call_144  (fun _ _ _ _ _ => ?_) (fun _ _ => ?_) | with_reducible refine mn_X3_isAway  (fun _ _ => ?_) | with_reducible refine mn_X2_again  (fun _ => ?_) | with_reducible refine mn_X2_putPerson  (fun _ => ?_) | with_reducible refine mn_X2_comesTo  (fun _ _ => ?_) | with_reducible refine mn_X8_call_138  (fun _ _ _ _ _ _ => ?_) (fun _ _ => ?_) | with_reducible refine all_m (fun _ => ?_) | with_reducible refine imp_m ?_
theorem mn_X8_call_67 {q : Nat} {kL49 kL49z2 : Int32 → Int32 → Int32 → Int32 → ap_Mem → Prop} {K Kz2 : Int32 → ap_Mem → Prop} (hkL49 : ∀ u0 u1 u2 u3 u4, kL49 u0 u1 u2 u3 u4 → kL49z2 u0 u1 u2 u3 u4) (hK : ∀ u0 u1, K u0 u1 → Kz2 u0 u1) : ∀ (n : Nat) (v0 : Int32) (v1 : Int32) (v2 : Int32) (v3 : Int32) (v4 : Int32) (v5 : ap_Mem), w_X8_call_67 kL49 q K n v0 v1 v2 v3 v4 v5 → w_X8_call_67 kL49z2 q Kz2 n v0 v1 v2 v3 v4 v5 := by
  intro n
  induction n with
  | zero => exact fun _ _ _ _ _ _ h => h
  | succ n ih => exact fun _ _ _ _ _ _ => mn_X8_call_67_s hkL49 ih hK
theorem mn_X8_call_49_s {q : Nat} {x1 : Int32} {x3 : Int32} {x4 : Int32} {x5 : Int32} {M : ap_Mem} {kL49 kL49z2 : Int32 → Int32 → Int32 → Int32 → ap_Mem → Prop} {K Kz2 : Int32 → ap_Mem → Prop} (hkL49 : ∀ u0 u1 u2 u3 u4, kL49 u0 u1 u2 u3 u4 → kL49z2 u0 u1 u2 u3 u4) (hK : ∀ u0 u1, K u0 u1 → Kz2 u0 u1) : w_X8_call_49_s kL49 q x1 x3 x4 x5 M K → w_X8_call_49_s kL49z2 q x1 x3 x4 x5 M Kz2 := by
  unfold w_X8_call_49_s
  repeat' first | with_reducible exact fun h => h | with_reducible exact hkL49 _ _ _ _ _ | with_reducible exact hK _ _ | with_reducible refine and_m ?_ | with_reducible refine ite_m ?_ ?_ | with_reducible refine mn_X8_call_67  (fun _ _ _ _ _ => ?_) (fun _ _ => ?_) _ _ _ _ _ _ _ | with_reducible refine all_m (fun _ => ?_) | with_reducible refine imp_m ?_
theorem mn_X8_call_49 {q : Nat} {K Kz2 : Int32 → ap_Mem → Prop} (hK : ∀ u0 u1, K u0 u1 → Kz2 u0 u1) : ∀ (n : Nat) (v0 : Int32) (v1 : Int32) (v2 : Int32) (v3 : Int32) (v4 : ap_Mem), w_X8_call_49 q K n v0 v1 v2 v3 v4 → w_X8_call_49 q Kz2 n v0 v1 v2 v3 v4 := by
  intro n
  induction n with
  | zero => exact fun _ _ _ _ _ h => h
  | succ n ih => exact fun _ _ _ _ _ => mn_X8_call_49_s ih hK
theorem mn_X8_call_41 {q : Nat} {x1 : Int32} {s0 : Int32} {M : ap_Mem} {K Kz2 : Int32 → ap_Mem → Prop} (hK : ∀ u0 u1, K u0 u1 → Kz2 u0 u1) : w_X8_call_41 q x1 s0 M K → w_X8_call_41 q x1 s0 M Kz2 := by
  unfold w_X8_call_41
  repeat' first | with_reducible exact fun h => h | with_reducible exact hK _ _ | with_reducible refine and_m ?_ | with_reducible refine ite_m ?_ ?_ | with_reducible refine mn_X8_call_49  (fun _ _ => ?_) _ _ _ _ _ _ | with_reducible refine all_m (fun _ => ?_) | with_reducible refine imp_m ?_
theorem mn_X8_call {q : Nat} {x1 : Int32} {M : ap_Mem} {K Kz2 : Int32 → ap_Mem → Prop} (hK : ∀ u0 u1, K u0 u1 → Kz2 u0 u1) : w_X8_call q x1 M K → w_X8_call q x1 M Kz2 := by
  unfold w_X8_call
  repeat' first | with_reducible exact fun h => h | with_reducible exact hK _ _ | with_reducible refine and_m ?_ | with_reducible refine ite_m ?_ ?_ | with_reducible refine mn_X8_isCell  (fun _ _ => ?_) | with_reducible refine mn_X2_begin  (fun _ => ?_) | with_reducible refine mn_X2_comesTo  (fun _ _ => ?_) | with_reducible refine mn_X8_call_41  (fun _ _ => ?_) | with_reducible refine all_m (fun _ => ?_) | with_reducible refine imp_m ?_
theorem mn_X8_kept_118 {q : Nat} {x1 : Int32} {x2 : Int32} {x3 : Int32} {x4 : Int32} {M : ap_Mem} {kL29 kL29z2 : Int32 → Int32 → Int32 → Int32 → ap_Mem → Prop} {K Kz2 : Int32 → ap_Mem → Prop} (hkL29 : ∀ u0 u1 u2 u3 u4, kL29 u0 u1 u2 u3 u4 → kL29z2 u0 u1 u2 u3 u4) (hK : ∀ u0 u1, K u0 u1 → Kz2 u0 u1) : w_X8_kept_118 kL29 q x1 x2 x3 x4 M K → w_X8_kept_118 kL29z2 q x1 x2 x3 x4 M Kz2 := by
  unfold w_X8_kept_118
  repeat' first | with_reducible exact fun h => h | with_reducible exact hkL29 _ _ _ _ _ | with_reducible exact hK _ _ | with_reducible refine and_m ?_ | with_reducible refine ite_m ?_ ?_ | with_reducible refine all_m (fun _ => ?_) | with_reducible refine imp_m ?_
theorem mn_X8_kept_29_s {q : Nat} {x1 : Int32} {x2 : Int32} {x3 : Int32} {x4 : Int32} {M : ap_Mem} {kL29 kL29z2 : Int32 → Int32 → Int32 → Int32 → ap_Mem → Prop} {K Kz2 : Int32 → ap_Mem → Prop} (hkL29 : ∀ u0 u1 u2 u3 u4, kL29 u0 u1 u2 u3 u4 → kL29z2 u0 u1 u2 u3 u4) (hK : ∀ u0 u1, K u0 u1 → Kz2 u0 u1) : w_X8_kept_29_s kL29 q x1 x2 x3 x4 M K → w_X8_kept_29_s kL29z2 q x1 x2 x3 x4 M Kz2 := by
  unfold w_X8_kept_29_s
  repeat' first | with_reducible exact fun h => h | with_reducible exact hkL29 _ _ _ _ _ | with_reducible exact hK _ _ | with_reducible refine and_m ?_ | with_reducible refine ite_m ?_ ?_ | with_reducible refine mn_J6_bitCount_0f7a4  (fun _ _ => ?_) | with_reducible refine mn_X2_again  (fun _ => ?_) | with_reducible refine mn_X2_goSteps  (fun _ => ?_) | with_reducible refine mn_X2_comesTo  (fun _ _ => ?_) | with_reducible refine mn_X8_kept_118  (fun _ _ _ _ _ => ?_) (fun _ _ => ?_) | with_reducible refine all_m (fun _ => ?_) | with_reducible refine imp_m ?_
theorem mn_X8_kept_29 {q : Nat} {K Kz2 : Int32 → ap_Mem → Prop} (hK : ∀ u0 u1, K u0 u1 → Kz2 u0 u1) : ∀ (n : Nat) (v0 : Int32) (v1 : Int32) (v2 : Int32) (v3 : Int32) (v4 : ap_Mem), w_X8_kept_29 q K n v0 v1 v2 v3 v4 → w_X8_kept_29 q Kz2 n v0 v1 v2 v3 v4 := by
  intro n
  induction n with
  | zero => exact fun _ _ _ _ _ h => h
  | succ n ih => exact fun _ _ _ _ _ => mn_X8_kept_29_s ih hK
theorem mn_X8_kept {q : Nat} {x1 : Int32} {M : ap_Mem} {K Kz2 : Int32 → ap_Mem → Prop} (hK : ∀ u0 u1, K u0 u1 → Kz2 u0 u1) : w_X8_kept q x1 M K → w_X8_kept q x1 M Kz2 := by
  unfold w_X8_kept
  repeat' first | with_reducible exact fun h => h | with_reducible exact hK _ _ | with_reducible refine and_m ?_ | with_reducible refine ite_m ?_ ?_ | with_reducible refine mn_X8_isCell  (fun _ _ => ?_) | with_reducible refine mn_X2_begin  (fun _ => ?_) | with_reducible refine mn_X8_kept_29  (fun _ _ => ?_) _ _ _ _ _ _ | with_reducible refine all_m (fun _ => ?_) | with_reducible refine imp_m ?_
theorem mn_X8_walk {q : Nat} {x1 : Int32} {M : ap_Mem} {K Kz2 : Int32 → ap_Mem → Prop} (hK : ∀ u0 u1, K u0 u1 → Kz2 u0 u1) : w_X8_walk q x1 M K → w_X8_walk q x1 M Kz2 := by
  unfold w_X8_walk
  repeat' first | with_reducible exact fun h => h | with_reducible exact hK _ _ | with_reducible refine and_m ?_ | with_reducible refine ite_m ?_ ?_ | with_reducible refine mn_X5_clear  (fun _ _ => ?_) | with_reducible refine mn_X8_isCell  (fun _ _ => ?_) | with_reducible refine mn_X5_add  (fun _ _ => ?_) | with_reducible refine all_m (fun _ => ?_) | with_reducible refine imp_m ?_
theorem mn_X8_met_72 {q : Nat} {x1 : Int32} {x2 : Int32} {M : ap_Mem} {kL22 kL22z2 : Int32 → Int32 → ap_Mem → Prop} {K Kz2 : Int32 → ap_Mem → Prop} (hkL22 : ∀ u0 u1 u2, kL22 u0 u1 u2 → kL22z2 u0 u1 u2) (hK : ∀ u0 u1, K u0 u1 → Kz2 u0 u1) : w_X8_met_72 kL22 q x1 x2 M K → w_X8_met_72 kL22z2 q x1 x2 M Kz2 := by
  unfold w_X8_met_72
  repeat' first | with_reducible exact fun h => h | with_reducible exact hkL22 _ _ _ | with_reducible exact hK _ _ | with_reducible refine and_m ?_ | with_reducible refine ite_m ?_ ?_ | with_reducible refine mn_X2_goSteps  (fun _ => ?_) | with_reducible refine all_m (fun _ => ?_) | with_reducible refine imp_m ?_
theorem mn_X8_met_22_s {q : Nat} {x1 : Int32} {x2 : Int32} {M : ap_Mem} {kL22 kL22z2 : Int32 → Int32 → ap_Mem → Prop} {K Kz2 : Int32 → ap_Mem → Prop} (hkL22 : ∀ u0 u1 u2, kL22 u0 u1 u2 → kL22z2 u0 u1 u2) (hK : ∀ u0 u1, K u0 u1 → Kz2 u0 u1) : w_X8_met_22_s kL22 q x1 x2 M K → w_X8_met_22_s kL22z2 q x1 x2 M Kz2 := by
  unfold w_X8_met_22_s
  repeat' first | with_reducible exact fun h => h | with_reducible exact hkL22 _ _ _ | with_reducible exact hK _ _ | with_reducible refine and_m ?_ | with_reducible refine ite_m ?_ ?_ | with_reducible refine mn_X8_met_72  (fun _ _ _ => ?_) (fun _ _ => ?_) | with_reducible refine all_m (fun _ => ?_) | with_reducible refine imp_m ?_
theorem mn_X8_met_22 {q : Nat} {K Kz2 : Int32 → ap_Mem → Prop} (hK : ∀ u0 u1, K u0 u1 → Kz2 u0 u1) : ∀ (n : Nat) (v0 : Int32) (v1 : Int32) (v2 : ap_Mem), w_X8_met_22 q K n v0 v1 v2 → w_X8_met_22 q Kz2 n v0 v1 v2 := by
  intro n
  induction n with
  | zero => exact fun _ _ _ h => h
  | succ n ih => exact fun _ _ _ => mn_X8_met_22_s ih hK
theorem mn_X8_met {q : Nat} {x1 : Int32} {M : ap_Mem} {K Kz2 : Int32 → ap_Mem → Prop} (hK : ∀ u0 u1, K u0 u1 → Kz2 u0 u1) : w_X8_met q x1 M K → w_X8_met q x1 M Kz2 := by
  unfold w_X8_met
  repeat' first | with_reducible exact fun h => h | with_reducible exact hK _ _ | with_reducible refine and_m ?_ | with_reducible refine ite_m ?_ ?_ | with_reducible refine mn_X8_isEither  (fun _ _ => ?_) | with_reducible refine mn_X2_begin  (fun _ => ?_) | with_reducible refine mn_X8_met_22  (fun _ _ => ?_) _ _ _ _ | with_reducible refine all_m (fun _ => ?_) | with_reducible refine imp_m ?_
theorem mn_X8_see {q : Nat} {x1 : Int32} {x2 : Int32} {M : ap_Mem} {K Kz2 : Int32 → ap_Mem → Prop} (hK : ∀ u0 u1, K u0 u1 → Kz2 u0 u1) : w_X8_see q x1 x2 M K → w_X8_see q x1 x2 M Kz2 := by
  unfold w_X8_see
  repeat' first | with_reducible exact fun h => h | with_reducible exact hK _ _ | with_reducible refine and_m ?_ | with_reducible refine ite_m ?_ ?_ | with_reducible refine mn_X5_clear  (fun _ _ => ?_) | with_reducible refine mn_X8_isCell  (fun _ _ => ?_) | with_reducible refine mn_X5_add  (fun _ _ => ?_) | with_reducible refine all_m (fun _ => ?_) | with_reducible refine imp_m ?_
theorem mn_X8_doors_69 {q : Nat} {x1 : Int32} {x2 : Int32} {x3 : Int32} {M : ap_Mem} {kL31 kL31z2 : Int32 → Int32 → Int32 → ap_Mem → Prop} {K Kz2 : Int32 → ap_Mem → Prop} (hkL31 : ∀ u0 u1 u2 u3, kL31 u0 u1 u2 u3 → kL31z2 u0 u1 u2 u3) (hK : ∀ u0 u1, K u0 u1 → Kz2 u0 u1) : w_X8_doors_69 kL31 q x1 x2 x3 M K → w_X8_doors_69 kL31z2 q x1 x2 x3 M Kz2 := by
  unfold w_X8_doors_69
  repeat' first | with_reducible exact fun h => h | with_reducible exact hkL31 _ _ _ _ | with_reducible exact hK _ _ | with_reducible refine and_m ?_ | with_reducible refine ite_m ?_ ?_ | with_reducible refine all_m (fun _ => ?_) | with_reducible refine imp_m ?_
theorem mn_X8_doors_31_s {q : Nat} {x1 : Int32} {x2 : Int32} {x3 : Int32} {M : ap_Mem} {kL31 kL31z2 : Int32 → Int32 → Int32 → ap_Mem → Prop} {K Kz2 : Int32 → ap_Mem → Prop} (hkL31 : ∀ u0 u1 u2 u3, kL31 u0 u1 u2 u3 → kL31z2 u0 u1 u2 u3) (hK : ∀ u0 u1, K u0 u1 → Kz2 u0 u1) : w_X8_doors_31_s kL31 q x1 x2 x3 M K → w_X8_doors_31_s kL31z2 q x1 x2 x3 M Kz2 := by
  unfold w_X8_doors_31_s
  repeat' first | with_reducible exact fun h => h | with_reducible exact hkL31 _ _ _ _ | with_reducible exact hK _ _ | with_reducible refine and_m ?_ | with_reducible refine ite_m ?_ ?_ | with_reducible refine mn_X2_putPerson  (fun _ => ?_) | with_reducible refine mn_X2_isAsSeen  (fun _ _ => ?_) | with_reducible refine mn_X8_doors_69  (fun _ _ _ _ => ?_) (fun _ _ => ?_) | with_reducible refine all_m (fun _ => ?_) | with_reducible refine imp_m ?_
theorem mn_X8_doors_31 {q : Nat} {K Kz2 : Int32 → ap_Mem → Prop} (hK : ∀ u0 u1, K u0 u1 → Kz2 u0 u1) : ∀ (n : Nat) (v0 : Int32) (v1 : Int32) (v2 : Int32) (v3 : ap_Mem), w_X8_doors_31 q K n v0 v1 v2 v3 → w_X8_doors_31 q Kz2 n v0 v1 v2 v3 := by
  intro n
  induction n with
  | zero => exact fun _ _ _ _ h => h
  | succ n ih => exact fun _ _ _ _ => mn_X8_doors_31_s ih hK
theorem mn_X8_doors {q : Nat} {x1 : Int32} {M : ap_Mem} {K Kz2 : Int32 → ap_Mem → Prop} (hK : ∀ u0 u1, K u0 u1 → Kz2 u0 u1) : w_X8_doors q x1 M K → w_X8_doors q x1 M Kz2 := by
  unfold w_X8_doors
  repeat' first | with_reducible exact fun h => h | with_reducible exact hK _ _ | with_reducible refine and_m ?_ | with_reducible refine ite_m ?_ ?_ | with_reducible refine mn_X3_has  (fun _ _ => ?_) | with_reducible refine mn_X2_begin  (fun _ => ?_) | with_reducible refine mn_X8_doors_31  (fun _ _ => ?_) _ _ _ _ _ | with_reducible refine all_m (fun _ => ?_) | with_reducible refine imp_m ?_
theorem mn_X8_firm_82 {q : Nat} {x1 : Int32} {x2 : Int32} {x3 : Int32} {x4 : Int32} {x5 : Int32} {M : ap_Mem} {kL44 kL44z2 : Int32 → Int32 → Int32 → Int32 → Int32 → ap_Mem → Prop} {K Kz2 : Int32 → ap_Mem → Prop} (hkL44 : ∀ u0 u1 u2 u3 u4 u5, kL44 u0 u1 u2 u3 u4 u5 → kL44z2 u0 u1 u2 u3 u4 u5) (hK : ∀ u0 u1, K u0 u1 → Kz2 u0 u1) : w_X8_firm_82 kL44 q x1 x2 x3 x4 x5 M K → w_X8_firm_82 kL44z2 q x1 x2 x3 x4 x5 M Kz2 := by
  unfold w_X8_firm_82
  repeat' first | with_reducible exact fun h => h | with_reducible exact hkL44 _ _ _ _ _ _ | with_reducible exact hK _ _ | with_reducible refine and_m ?_ | with_reducible refine ite_m ?_ ?_ | with_reducible refine all_m (fun _ => ?_) | with_reducible refine imp_m ?_
theorem mn_X8_firm_44_s {q : Nat} {x1 : Int32} {x2 : Int32} {x3 : Int32} {x4 : Int32} {x5 : Int32} {M : ap_Mem} {kL44 kL44z2 : Int32 → Int32 → Int32 → Int32 → Int32 → ap_Mem → Prop} {K Kz2 : Int32 → ap_Mem → Prop} (hkL44 : ∀ u0 u1 u2 u3 u4 u5, kL44 u0 u1 u2 u3 u4 u5 → kL44z2 u0 u1 u2 u3 u4 u5) (hK : ∀ u0 u1, K u0 u1 → Kz2 u0 u1) : w_X8_firm_44_s kL44 q x1 x2 x3 x4 x5 M K → w_X8_firm_44_s kL44z2 q x1 x2 x3 x4 x5 M Kz2 := by
  unfold w_X8_firm_44_s
  repeat' first | with_reducible exact fun h => h | with_reducible exact hkL44 _ _ _ _ _ _ | with_reducible exact hK _ _ | with_reducible refine and_m ?_ | with_reducible refine ite_m ?_ ?_ | with_reducible refine mn_X2_makePerson  (fun _ => ?_) | with_reducible refine mn_X2_isAsSeen  (fun _ _ => ?_) | with_reducible refine mn_X8_firm_82  (fun _ _ _ _ _ _ => ?_) (fun _ _ => ?_) | with_reducible refine all_m (fun _ => ?_) | with_reducible refine imp_m ?_
theorem mn_X8_firm_44 {q : Nat} {K Kz2 : Int32 → ap_Mem → Prop} (hK : ∀ u0 u1, K u0 u1 → Kz2 u0 u1) : ∀ (n : Nat) (v0 : Int32) (v1 : Int32) (v2 : Int32) (v3 : Int32) (v4 : Int32) (v5 : ap_Mem), w_X8_firm_44 q K n v0 v1 v2 v3 v4 v5 → w_X8_firm_44 q Kz2 n v0 v1 v2 v3 v4 v5 := by
  intro n
  induction n with
  | zero => exact fun _ _ _ _ _ _ h => h
  | succ n ih => exact fun _ _ _ _ _ _ => mn_X8_firm_44_s ih hK
theorem mn_X8_firm {q : Nat} {x1 : Int32} {x2 : Int32} {M : ap_Mem} {K Kz2 : Int32 → ap_Mem → Prop} (hK : ∀ u0 u1, K u0 u1 → Kz2 u0 u1) : w_X8_firm q x1 x2 M K → w_X8_firm q x1 x2 M Kz2 := by
  unfold w_X8_firm
  repeat' first | with_reducible exact fun h => h | with_reducible exact hK _ _ | with_reducible refine and_m ?_ | with_reducible refine ite_m ?_ ?_ | with_reducible refine mn_X3_has  (fun _ _ => ?_) | with_reducible refine mn_X8_isEither  (fun _ _ => ?_) | with_reducible refine mn_X2_begin  (fun _ => ?_) | with_reducible refine mn_X8_firm_44  (fun _ _ => ?_) _ _ _ _ _ _ _ | with_reducible refine all_m (fun _ => ?_) | with_reducible refine imp_m ?_
theorem mn_X8_sought_82 {q : Nat} {x1 : Int32} {x2 : Int32} {x3 : Int32} {M : ap_Mem} {kL30 kL30z2 : Int32 → Int32 → Int32 → ap_Mem → Prop} {K Kz2 : Int32 → ap_Mem → Prop} (hkL30 : ∀ u0 u1 u2 u3, kL30 u0 u1 u2 u3 → kL30z2 u0 u1 u2 u3) (hK : ∀ u0 u1, K u0 u1 → Kz2 u0 u1) : w_X8_sought_82 kL30 q x1 x2 x3 M K → w_X8_sought_82 kL30z2 q x1 x2 x3 M Kz2 := by
  unfold w_X8_sought_82
  repeat' first | with_reducible exact fun h => h | with_reducible exact hkL30 _ _ _ _ | with_reducible exact hK _ _ | with_reducible refine and_m ?_ | with_reducible refine ite_m ?_ ?_ | with_reducible refine all_m (fun _ => ?_) | with_reducible refine imp_m ?_
theorem mn_X8_sought_30_s {q : Nat} {x1 : Int32} {x2 : Int32} {x3 : Int32} {M : ap_Mem} {kL30 kL30z2 : Int32 → Int32 → Int32 → ap_Mem → Prop} {K Kz2 : Int32 → ap_Mem → Prop} (hkL30 : ∀ u0 u1 u2 u3, kL30 u0 u1 u2 u3 → kL30z2 u0 u1 u2 u3) (hK : ∀ u0 u1, K u0 u1 → Kz2 u0 u1) : w_X8_sought_30_s kL30 q x1 x2 x3 M K → w_X8_sought_30_s kL30z2 q x1 x2 x3 M Kz2 := by
  unfold w_X8_sought_30_s
  repeat' first | with_reducible exact fun h => h | with_reducible exact hkL30 _ _ _ _ | with_reducible exact hK _ _ | with_reducible refine and_m ?_ | with_reducible refine ite_m ?_ ?_ | with_reducible refine mn_X2_isAsSeen  (fun _ _ => ?_) | with_reducible refine mn_X8_sought_82  (fun _ _ _ _ => ?_) (fun _ _ => ?_) | with_reducible refine all_m (fun _ => ?_) | with_reducible refine imp_m ?_
theorem mn_X8_sought_30 {q : Nat} {K Kz2 : Int32 → ap_Mem → Prop} (hK : ∀ u0 u1, K u0 u1 → Kz2 u0 u1) : ∀ (n : Nat) (v0 : Int32) (v1 : Int32) (v2 : Int32) (v3 : ap_Mem), w_X8_sought_30 q K n v0 v1 v2 v3 → w_X8_sought_30 q Kz2 n v0 v1 v2 v3 := by
  intro n
  induction n with
  | zero => exact fun _ _ _ _ h => h
  | succ n ih => exact fun _ _ _ _ => mn_X8_sought_30_s ih hK
theorem mn_X8_sought {q : Nat} {M : ap_Mem} {K Kz2 : Int32 → ap_Mem → Prop} (hK : ∀ u0 u1, K u0 u1 → Kz2 u0 u1) : w_X8_sought q M K → w_X8_sought q M Kz2 := by
  unfold w_X8_sought
  repeat' first | with_reducible exact fun h => h | with_reducible exact hK _ _ | with_reducible refine and_m ?_ | with_reducible refine ite_m ?_ ?_ | with_reducible refine mn_X2_begin  (fun _ => ?_) | with_reducible refine mn_X8_sought_30  (fun _ _ => ?_) _ _ _ _ _ | with_reducible refine all_m (fun _ => ?_) | with_reducible refine imp_m ?_
theorem mn_X8_odds_127 {q : Nat} {x1 : Int32} {x2 : Int32} {x3 : Int32} {x4 : Int32} {x5 : Int32} {M : ap_Mem} {kL55 kL55z2 : Int32 → Int32 → Int32 → Int32 → Int32 → ap_Mem → Prop} {K Kz2 : Int64 → ap_Mem → Prop} (hkL55 : ∀ u0 u1 u2 u3 u4 u5, kL55 u0 u1 u2 u3 u4 u5 → kL55z2 u0 u1 u2 u3 u4 u5) (hK : ∀ u0 u1, K u0 u1 → Kz2 u0 u1) : w_X8_odds_127 kL55 q x1 x2 x3 x4 x5 M K → w_X8_odds_127 kL55z2 q x1 x2 x3 x4 x5 M Kz2 := by
  unfold w_X8_odds_127
  repeat' first | with_reducible exact fun h => h | with_reducible exact hkL55 _ _ _ _ _ _ | with_reducible exact hK _ _ | with_reducible refine and_m ?_ | with_reducible refine ite_m ?_ ?_ | with_reducible refine all_m (fun _ => ?_) | with_reducible refine imp_m ?_
theorem mn_X8_odds_55_s {q : Nat} {x1 : Int32} {x2 : Int32} {x3 : Int32} {x4 : Int32} {x5 : Int32} {M : ap_Mem} {kL55 kL55z2 : Int32 → Int32 → Int32 → Int32 → Int32 → ap_Mem → Prop} {K Kz2 : Int64 → ap_Mem → Prop} (hkL55 : ∀ u0 u1 u2 u3 u4 u5, kL55 u0 u1 u2 u3 u4 u5 → kL55z2 u0 u1 u2 u3 u4 u5) (hK : ∀ u0 u1, K u0 u1 → Kz2 u0 u1) : w_X8_odds_55_s kL55 q x1 x2 x3 x4 x5 M K → w_X8_odds_55_s kL55z2 q x1 x2 x3 x4 x5 M Kz2 := by
  unfold w_X8_odds_55_s
  repeat' first | with_reducible exact fun h => h | with_reducible exact hkL55 _ _ _ _ _ _ | with_reducible exact hK _ _ | with_reducible refine and_m ?_ | with_reducible refine ite_m ?_ ?_ | with_reducible refine mn_X8_inLowestTerms  (fun _ _ => ?_) | with_reducible refine mn_X2_again  (fun _ => ?_) | with_reducible refine mn_X2_goSteps  (fun _ => ?_) | with_reducible refine mn_X8_odds_127  (fun _ _ _ _ _ _ => ?_) (fun _ _ => ?_) | with_reducible refine all_m (fun _ => ?_) | with_reducible refine imp_m ?_
theorem mn_X8_odds_55 {q : Nat} {K Kz2 : Int64 → ap_Mem → Prop} (hK : ∀ u0 u1, K u0 u1 → Kz2 u0 u1) : ∀ (n : Nat) (v0 : Int32) (v1 : Int32) (v2 : Int32) (v3 : Int32) (v4 : Int32) (v5 : ap_Mem), w_X8_odds_55 q K n v0 v1 v2 v3 v4 v5 → w_X8_odds_55 q Kz2 n v0 v1 v2 v3 v4 v5 := by
  intro n
  induction n with
  | zero => exact fun _ _ _ _ _ _ h => h
  | succ n ih => exact fun _ _ _ _ _ _ => mn_X8_odds_55_s ih hK
theorem mn_X8_odds {q : Nat} {x1 : Int32} {x2 : Int32} {x3 : Int32} {M : ap_Mem} {K Kz2 : Int64 → ap_Mem → Prop} (hK : ∀ u0 u1, K u0 u1 → Kz2 u0 u1) : w_X8_odds q x1 x2 x3 M K → w_X8_odds q x1 x2 x3 M Kz2 := by
  unfold w_X8_odds
  repeat' first | with_reducible exact fun h => h | with_reducible exact hK _ _ | with_reducible refine and_m ?_ | with_reducible refine ite_m ?_ ?_ | with_reducible refine mn_X8_isCell  (fun _ _ => ?_) | with_reducible refine mn_X8_isFuture  (fun _ _ => ?_) | with_reducible refine mn_X8_isEither  (fun _ _ => ?_) | with_reducible refine mn_X2_begin  (fun _ => ?_) | with_reducible refine mn_X8_odds_55  (fun _ _ => ?_) _ _ _ _ _ _ _ | with_reducible refine all_m (fun _ => ?_) | with_reducible refine imp_m ?_
theorem mn_X8_mean_107 {q : Nat} {x2 : Int32} {x3 : Int32} {x4 : Int32} {x5 : Int32} {M : ap_Mem} {kL45 kL45z2 : Int32 → Int32 → Int32 → Int32 → ap_Mem → Prop} {K Kz2 : Int64 → ap_Mem → Prop} (hkL45 : ∀ u0 u1 u2 u3 u4, kL45 u0 u1 u2 u3 u4 → kL45z2 u0 u1 u2 u3 u4) (hK : ∀ u0 u1, K u0 u1 → Kz2 u0 u1) : w_X8_mean_107 kL45 q x2 x3 x4 x5 M K → w_X8_mean_107 kL45z2 q x2 x3 x4 x5 M Kz2 := by
  unfold w_X8_mean_107
  repeat' first | with_reducible exact fun h => h | with_reducible exact hkL45 _ _ _ _ _ | with_reducible exact hK _ _ | with_reducible refine and_m ?_ | with_reducible refine ite_m ?_ ?_ | with_reducible refine all_m (fun _ => ?_) | with_reducible refine imp_m ?_
theorem mn_X8_mean_45_s {q : Nat} {x2 : Int32} {x3 : Int32} {x4 : Int32} {x5 : Int32} {M : ap_Mem} {kL45 kL45z2 : Int32 → Int32 → Int32 → Int32 → ap_Mem → Prop} {K Kz2 : Int64 → ap_Mem → Prop} (hkL45 : ∀ u0 u1 u2 u3 u4, kL45 u0 u1 u2 u3 u4 → kL45z2 u0 u1 u2 u3 u4) (hK : ∀ u0 u1, K u0 u1 → Kz2 u0 u1) : w_X8_mean_45_s kL45 q x2 x3 x4 x5 M K → w_X8_mean_45_s kL45z2 q x2 x3 x4 x5 M Kz2 := by
  unfold w_X8_mean_45_s
  repeat' first | with_reducible exact fun h => h | with_reducible exact hkL45 _ _ _ _ _ | with_reducible exact hK _ _ | with_reducible refine and_m ?_ | with_reducible refine ite_m ?_ ?_ | with_reducible refine mn_X8_inLowestTerms  (fun _ _ => ?_) | with_reducible refine mn_X3_isAway  (fun _ _ => ?_) | with_reducible refine mn_X8_far  (fun _ _ => ?_) | with_reducible refine mn_X8_mean_107  (fun _ _ _ _ _ => ?_) (fun _ _ => ?_) | with_reducible refine all_m (fun _ => ?_) | with_reducible refine imp_m ?_
theorem mn_X8_mean_45 {q : Nat} {K Kz2 : Int64 → ap_Mem → Prop} (hK : ∀ u0 u1, K u0 u1 → Kz2 u0 u1) : ∀ (n : Nat) (v0 : Int32) (v1 : Int32) (v2 : Int32) (v3 : Int32) (v4 : ap_Mem), w_X8_mean_45 q K n v0 v1 v2 v3 v4 → w_X8_mean_45 q Kz2 n v0 v1 v2 v3 v4 := by
  intro n
  induction n with
  | zero => exact fun _ _ _ _ _ h => h
  | succ n ih => exact fun _ _ _ _ _ => mn_X8_mean_45_s ih hK
theorem mn_X8_mean {q : Nat} {x1 : Int32} {x2 : Int32} {M : ap_Mem} {K Kz2 : Int64 → ap_Mem → Prop} (hK : ∀ u0 u1, K u0 u1 → Kz2 u0 u1) : w_X8_mean q x1 x2 M K → w_X8_mean q x1 x2 M Kz2 := by
  unfold w_X8_mean
  repeat' first | with_reducible exact fun h => h | with_reducible exact hK _ _ | with_reducible refine and_m ?_ | with_reducible refine ite_m ?_ ?_ | with_reducible refine mn_X8_isFuture  (fun _ _ => ?_) | with_reducible refine mn_X8_isEither  (fun _ _ => ?_) | with_reducible refine mn_X2_begin  (fun _ => ?_) | with_reducible refine mn_X2_goSteps  (fun _ => ?_) | with_reducible refine mn_X8_mean_45  (fun _ _ => ?_) _ _ _ _ _ _ | with_reducible refine all_m (fun _ => ?_) | with_reducible refine imp_m ?_
theorem mn_X8_plan {q : Nat} {x1 : Int32} {x2 : Int32} {M : ap_Mem} {K Kz2 : Int32 → ap_Mem → Prop} (hK : ∀ u0 u1, K u0 u1 → Kz2 u0 u1) : w_X8_plan q x1 x2 M K → w_X8_plan q x1 x2 M Kz2 := by
  unfold w_X8_plan
  repeat' first | with_reducible exact fun h => h | with_reducible exact hK _ _ | with_reducible refine and_m ?_ | with_reducible refine ite_m ?_ ?_ | with_reducible refine mn_X5_clear  (fun _ _ => ?_) | with_reducible refine mn_X5_add  (fun _ _ => ?_) | with_reducible refine mn_X3_has  (fun _ _ => ?_) | with_reducible refine mn_X8_isCell  (fun _ _ => ?_) | with_reducible refine all_m (fun _ => ?_) | with_reducible refine imp_m ?_
theorem mn_X8_done_22_s {q : Nat} {x1 : Int32} {x2 : Int32} {M : ap_Mem} {kL22 kL22z2 : Int32 → Int32 → ap_Mem → Prop} {K Kz2 : Int32 → ap_Mem → Prop} (hkL22 : ∀ u0 u1 u2, kL22 u0 u1 u2 → kL22z2 u0 u1 u2) (hK : ∀ u0 u1, K u0 u1 → Kz2 u0 u1) : w_X8_done_22_s kL22 q x1 x2 M K → w_X8_done_22_s kL22z2 q x1 x2 M Kz2 := by
  unfold w_X8_done_22_s
  repeat' first | with_reducible exact fun h => h | with_reducible exact hkL22 _ _ _ | with_reducible exact hK _ _ | with_reducible refine and_m ?_ | with_reducible refine ite_m ?_ ?_ | with_reducible refine mn_X1_cellsLainOn  (fun _ _ => ?_) | with_reducible refine mn_X2_follow  (fun _ => ?_) | with_reducible refine all_m (fun _ => ?_) | with_reducible refine imp_m ?_
theorem mn_X8_done_22 {q : Nat} {K Kz2 : Int32 → ap_Mem → Prop} (hK : ∀ u0 u1, K u0 u1 → Kz2 u0 u1) : ∀ (n : Nat) (v0 : Int32) (v1 : Int32) (v2 : ap_Mem), w_X8_done_22 q K n v0 v1 v2 → w_X8_done_22 q Kz2 n v0 v1 v2 := by
  intro n
  induction n with
  | zero => exact fun _ _ _ h => h
  | succ n ih => exact fun _ _ _ => mn_X8_done_22_s ih hK
theorem mn_X8_done {q : Nat} {x1 : Int32} {M : ap_Mem} {K Kz2 : Int32 → ap_Mem → Prop} (hK : ∀ u0 u1, K u0 u1 → Kz2 u0 u1) : w_X8_done q x1 M K → w_X8_done q x1 M Kz2 := by
  unfold w_X8_done
  repeat' first | with_reducible exact fun h => h | with_reducible exact hK _ _ | with_reducible refine and_m ?_ | with_reducible refine ite_m ?_ ?_ | with_reducible refine mn_X8_isEither  (fun _ _ => ?_) | with_reducible refine mn_X2_begin  (fun _ => ?_) | with_reducible refine mn_X8_done_22  (fun _ _ => ?_) _ _ _ _ | with_reducible refine all_m (fun _ => ?_) | with_reducible refine imp_m ?_
theorem mn_X8_book {q : Nat} {x1 : Int32} {x2 : Int32} {M : ap_Mem} {K Kz2 : Int32 → ap_Mem → Prop} (hK : ∀ u0 u1, K u0 u1 → Kz2 u0 u1) : w_X8_book q x1 x2 M K → w_X8_book q x1 x2 M Kz2 := by
  unfold w_X8_book
  repeat' first | with_reducible exact fun h => h | with_reducible exact hK _ _ | with_reducible refine and_m ?_ | with_reducible refine ite_m ?_ ?_ | with_reducible refine mn_X5_clear  (fun _ _ => ?_) | with_reducible refine mn_X8_isCell  (fun _ _ => ?_) | with_reducible refine mn_X5_add  (fun _ _ => ?_) | with_reducible refine all_m (fun _ => ?_) | with_reducible refine imp_m ?_
theorem mn_X8_looked_2_s {q : Nat} {x1 : Int32} {M : ap_Mem} {kL2 kL2z2 : Int32 → ap_Mem → Prop} {K Kz2 : Int32 → ap_Mem → Prop} (hkL2 : ∀ u0 u1, kL2 u0 u1 → kL2z2 u0 u1) (hK : ∀ u0 u1, K u0 u1 → Kz2 u0 u1) : w_X8_looked_2_s kL2 q x1 M K → w_X8_looked_2_s kL2z2 q x1 M Kz2 := by
  unfold w_X8_looked_2_s
  repeat' first | with_reducible exact fun h => h | with_reducible exact hkL2 _ _ | with_reducible exact hK _ _ | with_reducible refine and_m ?_ | with_reducible refine ite_m ?_ ?_ | with_reducible refine all_m (fun _ => ?_) | with_reducible refine imp_m ?_
theorem mn_X8_looked_2 {q : Nat} {K Kz2 : Int32 → ap_Mem → Prop} (hK : ∀ u0 u1, K u0 u1 → Kz2 u0 u1) : ∀ (n : Nat) (v0 : Int32) (v1 : ap_Mem), w_X8_looked_2 q K n v0 v1 → w_X8_looked_2 q Kz2 n v0 v1 := by
  intro n
  induction n with
  | zero => exact fun _ _ h => h
  | succ n ih => exact fun _ _ => mn_X8_looked_2_s ih hK
theorem mn_X8_looked {q : Nat} {M : ap_Mem} {K Kz2 : Int32 → ap_Mem → Prop} (hK : ∀ u0 u1, K u0 u1 → Kz2 u0 u1) : w_X8_looked q M K → w_X8_looked q M Kz2 := by
  unfold w_X8_looked
  repeat' first | with_reducible exact fun h => h | with_reducible exact hK _ _ | with_reducible refine and_m ?_ | with_reducible refine ite_m ?_ ?_ | with_reducible refine mn_X8_looked_2  (fun _ _ => ?_) _ _ _ | with_reducible refine all_m (fun _ => ?_) | with_reducible refine imp_m ?_
theorem mn_X8_act {q : Nat} {x1 : Int32} {x2 : Int32} {x3 : Int32} {M : ap_Mem} {K Kz2 : Int32 → ap_Mem → Prop} (hK : ∀ u0 u1, K u0 u1 → Kz2 u0 u1) : w_X8_act q x1 x2 x3 M K → w_X8_act q x1 x2 x3 M Kz2 := by
  unfold w_X8_act
  repeat' first | with_reducible exact fun h => h | with_reducible exact hK _ _ | with_reducible refine and_m ?_ | with_reducible refine ite_m ?_ ?_ | with_reducible refine mn_X3_has  (fun _ _ => ?_) | with_reducible refine mn_X0_start  (fun _ _ => ?_) | with_reducible refine all_m (fun _ => ?_) | with_reducible refine imp_m ?_
theorem mn_X8_trace {q : Nat} {x1 : Int32} {M : ap_Mem} {K Kz2 : Int32 → ap_Mem → Prop} (hK : ∀ u0 u1, K u0 u1 → Kz2 u0 u1) : w_X8_trace q x1 M K → w_X8_trace q x1 M Kz2 := by
  unfold w_X8_trace
  repeat' first | with_reducible exact fun h => h | with_reducible exact hK _ _ | with_reducible refine and_m ?_ | with_reducible refine ite_m ?_ ?_ | with_reducible refine mn_X0_inTrace  (fun _ _ => ?_) | with_reducible refine all_m (fun _ => ?_) | with_reducible refine imp_m ?_
theorem mn_X8_as_68 {q : Nat} {x1 : Int32} {s0 : Int32} {M : ap_Mem} {K Kz2 : Int32 → ap_Mem → Prop} (hK : ∀ u0 u1, K u0 u1 → Kz2 u0 u1) : w_X8_as_68 q x1 s0 M K → w_X8_as_68 q x1 s0 M Kz2 := by
  unfold w_X8_as_68
  repeat' first | with_reducible exact fun h => h | with_reducible exact hK _ _ | with_reducible refine and_m ?_ | with_reducible refine ite_m ?_ ?_ | with_reducible refine all_m (fun _ => ?_) | with_reducible refine imp_m ?_
theorem mn_X8_as_63 {q : Nat} {x1 : Int32} {M : ap_Mem} {K Kz2 : Int32 → ap_Mem → Prop} (hK : ∀ u0 u1, K u0 u1 → Kz2 u0 u1) : w_X8_as_63 q x1 M K → w_X8_as_63 q x1 M Kz2 := by
  unfold w_X8_as_63
  repeat' first | with_reducible exact fun h => h | with_reducible exact hK _ _ | with_reducible refine and_m ?_ | with_reducible refine ite_m ?_ ?_ | with_reducible refine mn_X8_as_68  (fun _ _ => ?_) | with_reducible refine all_m (fun _ => ?_) | with_reducible refine imp_m ?_
theorem mn_X8_as {q : Nat} {x1 : Int32} {x2 : Int32} {M : ap_Mem} {K Kz2 : Int32 → ap_Mem → Prop} (hK : ∀ u0 u1, K u0 u1 → Kz2 u0 u1) : w_X8_as q x1 x2 M K → w_X8_as q x1 x2 M Kz2 := by
  unfold w_X8_as
  repeat' first | with_reducible exact fun h => h | with_reducible exact hK _ _ | with_reducible refine and_m ?_ | with_reducible refine ite_m ?_ ?_ | with_reducible refine mn_X3_has  (fun _ _ => ?_) | with_reducible refine mn_X8_isKind  (fun _ _ => ?_) | with_reducible refine mn_X8_as_63  (fun _ _ => ?_) | with_reducible refine mn_X8_as_68  (fun _ _ => ?_) | with_reducible refine all_m (fun _ => ?_) | with_reducible refine imp_m ?_
theorem mn_X8_image {q : Nat} {M : ap_Mem} {K Kz2 : Int32 → ap_Mem → Prop} (hK : ∀ u0 u1, K u0 u1 → Kz2 u0 u1) : w_X8_image q M K → w_X8_image q M Kz2 := by
  unfold w_X8_image
  repeat' first | with_reducible exact fun h => h | with_reducible exact hK _ _ | with_reducible refine and_m ?_ | with_reducible refine ite_m ?_ ?_ | with_reducible refine mn_X6_copyFrom  (fun _ => ?_) | with_reducible refine all_m (fun _ => ?_) | with_reducible refine imp_m ?_
theorem mn_X8_undo {q : Nat} {M : ap_Mem} {K Kz2 : Int32 → ap_Mem → Prop} (hK : ∀ u0 u1, K u0 u1 → Kz2 u0 u1) : w_X8_undo q M K → w_X8_undo q M Kz2 := by
  unfold w_X8_undo
  repeat' first | with_reducible exact fun h => h | with_reducible exact hK _ _ | with_reducible refine and_m ?_ | with_reducible refine ite_m ?_ ?_ | with_reducible refine mn_X6_copyFrom  (fun _ => ?_) | with_reducible refine all_m (fun _ => ?_) | with_reducible refine imp_m ?_
theorem mn_X8_count {q : Nat} {x1 : Int32} {M : ap_Mem} {K Kz2 : Int32 → ap_Mem → Prop} (hK : ∀ u0 u1, K u0 u1 → Kz2 u0 u1) : w_X8_count q x1 M K → w_X8_count q x1 M Kz2 := by
  unfold w_X8_count
  repeat' first | with_reducible exact fun h => h | with_reducible exact hK _ _ | with_reducible refine and_m ?_ | with_reducible refine ite_m ?_ ?_ | with_reducible refine all_m (fun _ => ?_) | with_reducible refine imp_m ?_
theorem mn_X9_in {x0 : Int32} {x1 : Int32} {x2 : Int32} {M : ap_Mem} {K Kz2 : Int32 → ap_Mem → Prop} (hK : ∀ u0 u1, K u0 u1 → Kz2 u0 u1) : w_X9_in x0 x1 x2 M K → w_X9_in x0 x1 x2 M Kz2 := by
  unfold w_X9_in
  repeat' first | with_reducible exact fun h => h | with_reducible exact hK _ _ | with_reducible refine and_m ?_ | with_reducible refine ite_m ?_ ?_ | with_reducible refine all_m (fun _ => ?_) | with_reducible refine imp_m ?_
theorem mn_X9_size {x0 : Int32} {M : ap_Mem} {K Kz2 : Int32 → ap_Mem → Prop} (hK : ∀ u0 u1, K u0 u1 → Kz2 u0 u1) : w_X9_size x0 M K → w_X9_size x0 M Kz2 := by
  unfold w_X9_size
  repeat' first | with_reducible exact fun h => h | with_reducible exact hK _ _ | with_reducible refine and_m ?_ | with_reducible refine ite_m ?_ ?_ | with_reducible refine all_m (fun _ => ?_) | with_reducible refine imp_m ?_
theorem mn_X9_isCell {x0 : Int32} {M : ap_Mem} {K Kz2 : Int32 → ap_Mem → Prop} (hK : ∀ u0 u1, K u0 u1 → Kz2 u0 u1) : w_X9_isCell x0 M K → w_X9_isCell x0 M Kz2 := by
  unfold w_X9_isCell
  repeat' first | with_reducible exact fun h => h | with_reducible exact hK _ _ | with_reducible refine and_m ?_ | with_reducible refine ite_m ?_ ?_ | with_reducible refine mn_X9_in  (fun _ _ => ?_) | with_reducible refine all_m (fun _ => ?_) | with_reducible refine imp_m ?_
theorem mn_X9_far {x0 : Int32} {x1 : Int32} {M : ap_Mem} {K Kz2 : Int32 → ap_Mem → Prop} (hK : ∀ u0 u1, K u0 u1 → Kz2 u0 u1) : w_X9_far x0 x1 M K → w_X9_far x0 x1 M Kz2 := by
  unfold w_X9_far
  repeat' first | with_reducible exact fun h => h | with_reducible exact hK _ _ | with_reducible refine and_m ?_ | with_reducible refine ite_m ?_ ?_ | with_reducible refine mn_X9_size  (fun _ _ => ?_) | with_reducible refine all_m (fun _ => ?_) | with_reducible refine imp_m ?_
theorem mn_X9_isPerson {q : Nat} {x1 : Int32} {M : ap_Mem} {K Kz2 : Int32 → ap_Mem → Prop} (hK : ∀ u0 u1, K u0 u1 → Kz2 u0 u1) : w_X9_isPerson q x1 M K → w_X9_isPerson q x1 M Kz2 := by
  unfold w_X9_isPerson
  repeat' first | with_reducible exact fun h => h | with_reducible exact hK _ _ | with_reducible refine and_m ?_ | with_reducible refine ite_m ?_ ?_ | with_reducible refine mn_X9_in  (fun _ _ => ?_) | with_reducible refine all_m (fun _ => ?_) | with_reducible refine imp_m ?_
theorem mn_X9_keeps_2_s {q : Nat} {x1 : Int32} {M : ap_Mem} {kL2 kL2z2 : Int32 → ap_Mem → Prop} {K Kz2 : ap_Mem → Prop} (hkL2 : ∀ u0 u1, kL2 u0 u1 → kL2z2 u0 u1) (hK : ∀ u0, K u0 → Kz2 u0) : w_X9_keeps_2_s kL2 q x1 M K → w_X9_keeps_2_s kL2z2 q x1 M Kz2 := by
  unfold w_X9_keeps_2_s
  repeat' first | with_reducible exact fun h => h | with_reducible exact hkL2 _ _ | with_reducible exact hK _ | with_reducible refine and_m ?_ | with_reducible refine ite_m ?_ ?_ | with_reducible refine all_m (fun _ => ?_) | with_reducible refine imp_m ?_
theorem mn_X9_keeps_2 {q : Nat} {K Kz2 : ap_Mem → Prop} (hK : ∀ u0, K u0 → Kz2 u0) : ∀ (n : Nat) (v0 : Int32) (v1 : ap_Mem), w_X9_keeps_2 q K n v0 v1 → w_X9_keeps_2 q Kz2 n v0 v1 := by
  intro n
  induction n with
  | zero => exact fun _ _ h => h
  | succ n ih => exact fun _ _ => mn_X9_keeps_2_s ih hK
theorem mn_X9_keeps {q : Nat} {M : ap_Mem} {K Kz2 : ap_Mem → Prop} (hK : ∀ u0, K u0 → Kz2 u0) : w_X9_keeps q M K → w_X9_keeps q M Kz2 := by
  unfold w_X9_keeps
  repeat' first | with_reducible exact fun h => h | with_reducible exact hK _ | with_reducible refine and_m ?_ | with_reducible refine ite_m ?_ ?_ | with_reducible refine mn_X9_keeps_2  (fun _ => ?_) _ _ _ | with_reducible refine all_m (fun _ => ?_) | with_reducible refine imp_m ?_
theorem mn_X9_goesBack_2_s {q : Nat} {x1 : Int32} {M : ap_Mem} {kL2 kL2z2 : Int32 → ap_Mem → Prop} {K Kz2 : ap_Mem → Prop} (hkL2 : ∀ u0 u1, kL2 u0 u1 → kL2z2 u0 u1) (hK : ∀ u0, K u0 → Kz2 u0) : w_X9_goesBack_2_s kL2 q x1 M K → w_X9_goesBack_2_s kL2z2 q x1 M Kz2 := by
  unfold w_X9_goesBack_2_s
  repeat' first | with_reducible exact fun h => h | with_reducible exact hkL2 _ _ | with_reducible exact hK _ | with_reducible refine and_m ?_ | with_reducible refine ite_m ?_ ?_ | with_reducible refine all_m (fun _ => ?_) | with_reducible refine imp_m ?_
theorem mn_X9_goesBack_2 {q : Nat} {K Kz2 : ap_Mem → Prop} (hK : ∀ u0, K u0 → Kz2 u0) : ∀ (n : Nat) (v0 : Int32) (v1 : ap_Mem), w_X9_goesBack_2 q K n v0 v1 → w_X9_goesBack_2 q Kz2 n v0 v1 := by
  intro n
  induction n with
  | zero => exact fun _ _ h => h
  | succ n ih => exact fun _ _ => mn_X9_goesBack_2_s ih hK
theorem mn_X9_goesBack {q : Nat} {M : ap_Mem} {K Kz2 : ap_Mem → Prop} (hK : ∀ u0, K u0 → Kz2 u0) : w_X9_goesBack q M K → w_X9_goesBack q M Kz2 := by
  unfold w_X9_goesBack
  repeat' first | with_reducible exact fun h => h | with_reducible exact hK _ | with_reducible refine and_m ?_ | with_reducible refine ite_m ?_ ?_ | with_reducible refine mn_X9_goesBack_2  (fun _ => ?_) _ _ _ | with_reducible refine all_m (fun _ => ?_) | with_reducible refine imp_m ?_
theorem mn_X9_feed {q : Nat} {x1 : Int32} {M : ap_Mem} {K Kz2 : Int32 → ap_Mem → Prop} (hK : ∀ u0 u1, K u0 u1 → Kz2 u0 u1) : w_X9_feed q x1 M K → w_X9_feed q x1 M Kz2 := by
  unfold w_X9_feed
  repeat' first | with_reducible exact fun h => h | with_reducible exact hK _ _ | with_reducible refine and_m ?_ | with_reducible refine ite_m ?_ ?_ | with_reducible refine mn_X9_in  (fun _ _ => ?_) | with_reducible refine all_m (fun _ => ?_) | with_reducible refine imp_m ?_
theorem mn_X9_here {q : Nat} {M : ap_Mem} {K Kz2 : Int32 → ap_Mem → Prop} (hK : ∀ u0 u1, K u0 u1 → Kz2 u0 u1) : w_X9_here q M K → w_X9_here q M Kz2 := by
  unfold w_X9_here
  repeat' first | with_reducible exact fun h => h | with_reducible exact hK _ _ | with_reducible refine and_m ?_ | with_reducible refine ite_m ?_ ?_ | with_reducible refine all_m (fun _ => ?_) | with_reducible refine imp_m ?_
theorem mn_X9_must_41 {q : Nat} {s0 : Int32} {s1 : Int32} {M : ap_Mem} {K Kz2 : ap_Mem → Prop} (hK : ∀ u0, K u0 → Kz2 u0) : w_X9_must_41 q s0 s1 M K → w_X9_must_41 q s0 s1 M Kz2 := by
  unfold w_X9_must_41
  repeat' first | with_reducible exact fun h => h | with_reducible exact hK _ | with_reducible refine and_m ?_ | with_reducible refine ite_m ?_ ?_ | with_reducible refine all_m (fun _ => ?_) | with_reducible refine imp_m ?_
theorem mn_X9_must_21 {q : Nat} {s0 : Int32} {M : ap_Mem} {K Kz2 : ap_Mem → Prop} (hK : ∀ u0, K u0 → Kz2 u0) : w_X9_must_21 q s0 M K → w_X9_must_21 q s0 M Kz2 := by
  unfold w_X9_must_21
  repeat' first | with_reducible exact fun h => h | with_reducible exact hK _ | with_reducible refine and_m ?_ | with_reducible refine ite_m ?_ ?_ | with_reducible refine mn_X9_must_41  (fun _ => ?_) | with_reducible refine all_m (fun _ => ?_) | with_reducible refine imp_m ?_
theorem mn_X9_must_16 {q : Nat} {M : ap_Mem} {K Kz2 : ap_Mem → Prop} (hK : ∀ u0, K u0 → Kz2 u0) : w_X9_must_16 q M K → w_X9_must_16 q M Kz2 := by
  unfold w_X9_must_16
  repeat' first | with_reducible exact fun h => h | with_reducible exact hK _ | with_reducible refine and_m ?_ | with_reducible refine ite_m ?_ ?_ | with_reducible refine mn_X9_must_21  (fun _ => ?_) | with_reducible refine all_m (fun _ => ?_) | with_reducible refine imp_m ?_
theorem mn_X9_must {q : Nat} {x1 : Int32} {M : ap_Mem} {K Kz2 : ap_Mem → Prop} (hK : ∀ u0, K u0 → Kz2 u0) : w_X9_must q x1 M K → w_X9_must q x1 M Kz2 := by
  unfold w_X9_must
  repeat' first | with_reducible exact fun h => h | with_reducible exact hK _ | with_reducible refine and_m ?_ | with_reducible refine ite_m ?_ ?_ | with_reducible refine mn_X9_here  (fun _ _ => ?_) | with_reducible refine mn_X9_must_21  (fun _ => ?_) | with_reducible refine mn_X9_must_16  (fun _ => ?_) | with_reducible refine all_m (fun _ => ?_) | with_reducible refine imp_m ?_
theorem mn_X9_spells_2_s {q : Nat} {w1 : Nat} {x2 : Int32} {M : ap_Mem} {kL2 kL2z2 : Int32 → ap_Mem → Prop} {K Kz2 : ap_Mem → Prop} (hkL2 : ∀ u0 u1, kL2 u0 u1 → kL2z2 u0 u1) (hK : ∀ u0, K u0 → Kz2 u0) : w_X9_spells_2_s kL2 q w1 x2 M K → w_X9_spells_2_s kL2z2 q w1 x2 M Kz2 := by
  unfold w_X9_spells_2_s
  repeat' first | with_reducible exact fun h => h | with_reducible exact hkL2 _ _ | with_reducible exact hK _ | with_reducible refine and_m ?_ | with_reducible refine ite_m ?_ ?_ | with_reducible refine mn_J0_length_8abf5  (fun _ _ => ?_) | with_reducible refine mn_J0_charAt_5068e  (fun _ _ => ?_) | with_reducible refine mn_X9_must  (fun _ => ?_) | with_reducible refine all_m (fun _ => ?_) | with_reducible refine imp_m ?_
theorem mn_X9_spells_2 {q : Nat} {w1 : Nat} {K Kz2 : ap_Mem → Prop} (hK : ∀ u0, K u0 → Kz2 u0) : ∀ (n : Nat) (v0 : Int32) (v1 : ap_Mem), w_X9_spells_2 q w1 K n v0 v1 → w_X9_spells_2 q w1 Kz2 n v0 v1 := by
  intro n
  induction n with
  | zero => exact fun _ _ h => h
  | succ n ih => exact fun _ _ => mn_X9_spells_2_s ih hK
theorem mn_X9_spells {q : Nat} {w1 : Nat} {M : ap_Mem} {K Kz2 : ap_Mem → Prop} (hK : ∀ u0, K u0 → Kz2 u0) : w_X9_spells q w1 M K → w_X9_spells q w1 M Kz2 := by
  unfold w_X9_spells
  repeat' first | with_reducible exact fun h => h | with_reducible exact hK _ | with_reducible refine and_m ?_ | with_reducible refine ite_m ?_ ?_ | with_reducible refine mn_X9_spells_2  (fun _ => ?_) _ _ _ | with_reducible refine all_m (fun _ => ?_) | with_reducible refine imp_m ?_
theorem mn_X9_figures_68 {q : Nat} {x1 : Int32} {x2 : Int32} {M : ap_Mem} {kL34 kL34z2 : Int32 → Int32 → ap_Mem → Prop} {K Kz2 : Int32 → ap_Mem → Prop} (hkL34 : ∀ u0 u1 u2, kL34 u0 u1 u2 → kL34z2 u0 u1 u2) (hK : ∀ u0 u1, K u0 u1 → Kz2 u0 u1) : w_X9_figures_68 kL34 q x1 x2 M K → w_X9_figures_68 kL34z2 q x1 x2 M Kz2 := by
  unfold w_X9_figures_68
  repeat' first | with_reducible exact fun h => h | with_reducible exact hkL34 _ _ _ | with_reducible exact hK _ _ | with_reducible refine and_m ?_ | with_reducible refine ite_m ?_ ?_ | with_reducible refine mn_X9_here  (fun _ _ => ?_) | with_reducible refine all_m (fun _ => ?_) | with_reducible refine imp_m ?_
theorem mn_X9_figures_34_s {q : Nat} {x1 : Int32} {x2 : Int32} {M : ap_Mem} {kL34 kL34z2 : Int32 → Int32 → ap_Mem → Prop} {K Kz2 : Int32 → ap_Mem → Prop} (hkL34 : ∀ u0 u1 u2, kL34 u0 u1 u2 → kL34z2 u0 u1 u2) (hK : ∀ u0 u1, K u0 u1 → Kz2 u0 u1) : w_X9_figures_34_s kL34 q x1 x2 M K → w_X9_figures_34_s kL34z2 q x1 x2 M Kz2 := by
  unfold w_X9_figures_34_s
  repeat' first | with_reducible exact fun h => h | with_reducible exact hkL34 _ _ _ | with_reducible exact hK _ _ | with_reducible refine and_m ?_ | with_reducible refine ite_m ?_ ?_ | with_reducible refine mn_X9_here  (fun _ _ => ?_) | with_reducible refine mn_X9_in  (fun _ _ => ?_) | with_reducible refine mn_X9_figures_68  (fun _ _ _ => ?_) (fun _ _ => ?_) | with_reducible refine all_m (fun _ => ?_) | with_reducible refine imp_m ?_
theorem mn_X9_figures_34 {q : Nat} {K Kz2 : Int32 → ap_Mem → Prop} (hK : ∀ u0 u1, K u0 u1 → Kz2 u0 u1) : ∀ (n : Nat) (v0 : Int32) (v1 : Int32) (v2 : ap_Mem), w_X9_figures_34 q K n v0 v1 v2 → w_X9_figures_34 q Kz2 n v0 v1 v2 := by
  intro n
  induction n with
  | zero => exact fun _ _ _ h => h
  | succ n ih => exact fun _ _ _ => mn_X9_figures_34_s ih hK
theorem mn_X9_figures_27 {q : Nat} {s0 : Int32} {M : ap_Mem} {K Kz2 : Int32 → ap_Mem → Prop} (hK : ∀ u0 u1, K u0 u1 → Kz2 u0 u1) : w_X9_figures_27 q s0 M K → w_X9_figures_27 q s0 M Kz2 := by
  unfold w_X9_figures_27
  repeat' first | with_reducible exact fun h => h | with_reducible exact hK _ _ | with_reducible refine and_m ?_ | with_reducible refine ite_m ?_ ?_ | with_reducible refine mn_X9_figures_34  (fun _ _ => ?_) _ _ _ _ | with_reducible refine all_m (fun _ => ?_) | with_reducible refine imp_m ?_
theorem mn_X9_figures_22 {q : Nat} {M : ap_Mem} {K Kz2 : Int32 → ap_Mem → Prop} (hK : ∀ u0 u1, K u0 u1 → Kz2 u0 u1) : w_X9_figures_22 q M K → w_X9_figures_22 q M Kz2 := by
  unfold w_X9_figures_22
  repeat' first | with_reducible exact fun h => h | with_reducible exact hK _ _ | with_reducible refine and_m ?_ | with_reducible refine ite_m ?_ ?_ | with_reducible refine mn_X9_figures_27  (fun _ _ => ?_) | with_reducible refine all_m (fun _ => ?_) | with_reducible refine imp_m ?_
theorem mn_X9_figures {q : Nat} {M : ap_Mem} {K Kz2 : Int32 → ap_Mem → Prop} (hK : ∀ u0 u1, K u0 u1 → Kz2 u0 u1) : w_X9_figures q M K → w_X9_figures q M Kz2 := by
  unfold w_X9_figures
  repeat' first | with_reducible exact fun h => h | with_reducible exact hK _ _ | with_reducible refine and_m ?_ | with_reducible refine ite_m ?_ ?_ | with_reducible refine mn_X9_here  (fun _ _ => ?_) | with_reducible refine mn_X9_in  (fun _ _ => ?_) | with_reducible refine mn_X9_figures_22  (fun _ _ => ?_) | with_reducible refine mn_X9_figures_27  (fun _ _ => ?_) | with_reducible refine all_m (fun _ => ?_) | with_reducible refine imp_m ?_
theorem mn_X9_among_2_s {q : Nat} {w1 : Nat} {x2 : Int32} {M : ap_Mem} {kL2 kL2z2 : Int32 → ap_Mem → Prop} {K Kz2 : Int32 → ap_Mem → Prop} (hkL2 : ∀ u0 u1, kL2 u0 u1 → kL2z2 u0 u1) (hK : ∀ u0 u1, K u0 u1 → Kz2 u0 u1) : w_X9_among_2_s kL2 q w1 x2 M K → w_X9_among_2_s kL2z2 q w1 x2 M Kz2 := by
  unfold w_X9_among_2_s
  repeat' first | with_reducible exact fun h => h | with_reducible exact hkL2 _ _ | with_reducible exact hK _ _ | with_reducible refine and_m ?_ | with_reducible refine ite_m ?_ ?_ | with_reducible refine mn_J0_length_8abf5  (fun _ _ => ?_) | with_reducible refine mn_X9_here  (fun _ _ => ?_) | with_reducible refine mn_J0_charAt_5068e  (fun _ _ => ?_) | with_reducible refine all_m (fun _ => ?_) | with_reducible refine imp_m ?_
theorem mn_X9_among_2 {q : Nat} {w1 : Nat} {K Kz2 : Int32 → ap_Mem → Prop} (hK : ∀ u0 u1, K u0 u1 → Kz2 u0 u1) : ∀ (n : Nat) (v0 : Int32) (v1 : ap_Mem), w_X9_among_2 q w1 K n v0 v1 → w_X9_among_2 q w1 Kz2 n v0 v1 := by
  intro n
  induction n with
  | zero => exact fun _ _ h => h
  | succ n ih => exact fun _ _ => mn_X9_among_2_s ih hK
theorem mn_X9_among {q : Nat} {w1 : Nat} {M : ap_Mem} {K Kz2 : Int32 → ap_Mem → Prop} (hK : ∀ u0 u1, K u0 u1 → Kz2 u0 u1) : w_X9_among q w1 M K → w_X9_among q w1 M Kz2 := by
  unfold w_X9_among
  repeat' first | with_reducible exact fun h => h | with_reducible exact hK _ _ | with_reducible refine and_m ?_ | with_reducible refine ite_m ?_ ?_ | with_reducible refine mn_X9_among_2  (fun _ _ => ?_) _ _ _ | with_reducible refine all_m (fun _ => ?_) | with_reducible refine imp_m ?_
theorem mn_X9_emits {q : Nat} {x1 : Int32} {M : ap_Mem} {K Kz2 : ap_Mem → Prop} (hK : ∀ u0, K u0 → Kz2 u0) : w_X9_emits q x1 M K → w_X9_emits q x1 M Kz2 := by
  unfold w_X9_emits
  repeat' first | with_reducible exact fun h => h | with_reducible exact hK _ | with_reducible refine and_m ?_ | with_reducible refine ite_m ?_ ?_ | with_reducible refine all_m (fun _ => ?_) | with_reducible refine imp_m ?_
theorem mn_X9_every_4_s {c_X9_every : Nat → ap_Mem → (ap_Mem → Prop) → Prop} {c_X9_factor : Nat → ap_Mem → (ap_Mem → Prop) → Prop} {c_X9_some : Nat → ap_Mem → (ap_Mem → Prop) → Prop} {q : Nat} {M : ap_Mem} {kL4 kL4z2 : ap_Mem → Prop} {K Kz2 : ap_Mem → Prop} (hc_X9_every : ∀ a0 a1 (J J2 : ap_Mem → Prop), (∀ u0, J u0 → J2 u0) → c_X9_every a0 a1 J → c_X9_every a0 a1 J2) (hc_X9_factor : ∀ a0 a1 (J J2 : ap_Mem → Prop), (∀ u0, J u0 → J2 u0) → c_X9_factor a0 a1 J → c_X9_factor a0 a1 J2) (hc_X9_some : ∀ a0 a1 (J J2 : ap_Mem → Prop), (∀ u0, J u0 → J2 u0) → c_X9_some a0 a1 J → c_X9_some a0 a1 J2) (hkL4 : ∀ u0, kL4 u0 → kL4z2 u0) (hK : ∀ u0, K u0 → Kz2 u0) : w_X9_every_4_s c_X9_every c_X9_factor c_X9_some kL4 q M K → w_X9_every_4_s c_X9_every c_X9_factor c_X9_some kL4z2 q M Kz2 := by
  unfold w_X9_every_4_s
  repeat' first | with_reducible exact fun h => h | with_reducible exact hkL4 _ | with_reducible exact hK _ | with_reducible refine hc_X9_every _ _ _ _ (fun _ => ?_) | with_reducible refine hc_X9_factor _ _ _ _ (fun _ => ?_) | with_reducible refine hc_X9_some _ _ _ _ (fun _ => ?_) | with_reducible refine and_m ?_ | with_reducible refine ite_m ?_ ?_ | with_reducible refine mn_X9_here  (fun _ _ => ?_) | with_reducible refine mn_X9_emits  (fun _ => ?_) | with_reducible refine all_m (fun _ => ?_) | with_reducible refine imp_m ?_
theorem mn_X9_every_4 {c_X9_every : Nat → ap_Mem → (ap_Mem → Prop) → Prop} {c_X9_factor : Nat → ap_Mem → (ap_Mem → Prop) → Prop} {c_X9_some : Nat → ap_Mem → (ap_Mem → Prop) → Prop} {q : Nat} {K Kz2 : ap_Mem → Prop} (hc_X9_every : ∀ a0 a1 (J J2 : ap_Mem → Prop), (∀ u0, J u0 → J2 u0) → c_X9_every a0 a1 J → c_X9_every a0 a1 J2) (hc_X9_factor : ∀ a0 a1 (J J2 : ap_Mem → Prop), (∀ u0, J u0 → J2 u0) → c_X9_factor a0 a1 J → c_X9_factor a0 a1 J2) (hc_X9_some : ∀ a0 a1 (J J2 : ap_Mem → Prop), (∀ u0, J u0 → J2 u0) → c_X9_some a0 a1 J → c_X9_some a0 a1 J2) (hK : ∀ u0, K u0 → Kz2 u0) : ∀ (n : Nat) (v0 : ap_Mem), w_X9_every_4 c_X9_every c_X9_factor c_X9_some q K n v0 → w_X9_every_4 c_X9_every c_X9_factor c_X9_some q Kz2 n v0 := by
  intro n
  induction n with
  | zero => exact fun _ h => h
  | succ n ih => exact fun _ => mn_X9_every_4_s hc_X9_every hc_X9_factor hc_X9_some ih hK
theorem mn_wf_X9_every {c_X9_every : Nat → ap_Mem → (ap_Mem → Prop) → Prop} {c_X9_factor : Nat → ap_Mem → (ap_Mem → Prop) → Prop} {c_X9_some : Nat → ap_Mem → (ap_Mem → Prop) → Prop} {q : Nat} {M : ap_Mem} {K Kz2 : ap_Mem → Prop} (hc_X9_every : ∀ a0 a1 (J J2 : ap_Mem → Prop), (∀ u0, J u0 → J2 u0) → c_X9_every a0 a1 J → c_X9_every a0 a1 J2) (hc_X9_factor : ∀ a0 a1 (J J2 : ap_Mem → Prop), (∀ u0, J u0 → J2 u0) → c_X9_factor a0 a1 J → c_X9_factor a0 a1 J2) (hc_X9_some : ∀ a0 a1 (J J2 : ap_Mem → Prop), (∀ u0, J u0 → J2 u0) → c_X9_some a0 a1 J → c_X9_some a0 a1 J2) (hK : ∀ u0, K u0 → Kz2 u0) : wf_X9_every c_X9_every c_X9_factor c_X9_some q M K → wf_X9_every c_X9_every c_X9_factor c_X9_some q M Kz2 := by
  unfold wf_X9_every
  repeat' first | with_reducible exact fun h => h | with_reducible exact hK _ | with_reducible refine hc_X9_every _ _ _ _ (fun _ => ?_) | with_reducible refine hc_X9_factor _ _ _ _ (fun _ => ?_) | with_reducible refine hc_X9_some _ _ _ _ (fun _ => ?_) | with_reducible refine and_m ?_ | with_reducible refine ite_m ?_ ?_ | with_reducible refine mn_X9_every_4 hc_X9_every hc_X9_factor hc_X9_some (fun _ => ?_) _ _ | with_reducible refine all_m (fun _ => ?_) | with_reducible refine imp_m ?_
theorem mn_X9_factor_101 {c_X9_every : Nat → ap_Mem → (ap_Mem → Prop) → Prop} {c_X9_factor : Nat → ap_Mem → (ap_Mem → Prop) → Prop} {c_X9_some : Nat → ap_Mem → (ap_Mem → Prop) → Prop} {q : Nat} {M : ap_Mem} {K Kz2 : ap_Mem → Prop} (hc_X9_every : ∀ a0 a1 (J J2 : ap_Mem → Prop), (∀ u0, J u0 → J2 u0) → c_X9_every a0 a1 J → c_X9_every a0 a1 J2) (hc_X9_factor : ∀ a0 a1 (J J2 : ap_Mem → Prop), (∀ u0, J u0 → J2 u0) → c_X9_factor a0 a1 J → c_X9_factor a0 a1 J2) (hc_X9_some : ∀ a0 a1 (J J2 : ap_Mem → Prop), (∀ u0, J u0 → J2 u0) → c_X9_some a0 a1 J → c_X9_some a0 a1 J2) (hK : ∀ u0, K u0 → Kz2 u0) : w_X9_factor_101 c_X9_every c_X9_factor c_X9_some q M K → w_X9_factor_101 c_X9_every c_X9_factor c_X9_some q M Kz2 := by
  unfold w_X9_factor_101
  repeat' first | with_reducible exact fun h => h | with_reducible exact hK _ | with_reducible refine hc_X9_every _ _ _ _ (fun _ => ?_) | with_reducible refine hc_X9_factor _ _ _ _ (fun _ => ?_) | with_reducible refine hc_X9_some _ _ _ _ (fun _ => ?_) | with_reducible refine and_m ?_ | with_reducible refine ite_m ?_ ?_ | with_reducible refine all_m (fun _ => ?_) | with_reducible refine imp_m ?_
theorem mn_X9_factor_69 {c_X9_every : Nat → ap_Mem → (ap_Mem → Prop) → Prop} {c_X9_factor : Nat → ap_Mem → (ap_Mem → Prop) → Prop} {c_X9_some : Nat → ap_Mem → (ap_Mem → Prop) → Prop} {q : Nat} {x1 : Int32} {s0 : Int32} {s1 : Int32} {M : ap_Mem} {K Kz2 : ap_Mem → Prop} (hc_X9_every : ∀ a0 a1 (J J2 : ap_Mem → Prop), (∀ u0, J u0 → J2 u0) → c_X9_every a0 a1 J → c_X9_every a0 a1 J2) (hc_X9_factor : ∀ a0 a1 (J J2 : ap_Mem → Prop), (∀ u0, J u0 → J2 u0) → c_X9_factor a0 a1 J → c_X9_factor a0 a1 J2) (hc_X9_some : ∀ a0 a1 (J J2 : ap_Mem → Prop), (∀ u0, J u0 → J2 u0) → c_X9_some a0 a1 J → c_X9_some a0 a1 J2) (hK : ∀ u0, K u0 → Kz2 u0) : w_X9_factor_69 c_X9_every c_X9_factor c_X9_some q x1 s0 s1 M K → w_X9_factor_69 c_X9_every c_X9_factor c_X9_some q x1 s0 s1 M Kz2 := by
  unfold w_X9_factor_69
  repeat' first | with_reducible exact fun h => h | with_reducible exact hK _ | with_reducible refine hc_X9_every _ _ _ _ (fun _ => ?_) | with_reducible refine hc_X9_factor _ _ _ _ (fun _ => ?_) | with_reducible refine hc_X9_some _ _ _ _ (fun _ => ?_) | with_reducible refine and_m ?_ | with_reducible refine ite_m ?_ ?_ | with_reducible refine mn_X9_emits  (fun _ => ?_) | with_reducible refine mn_X9_factor_101 hc_X9_every hc_X9_factor hc_X9_some (fun _ => ?_) | with_reducible refine mn_X9_must  (fun _ => ?_) | with_reducible refine all_m (fun _ => ?_) | with_reducible refine imp_m ?_
theorem mn_X9_factor_39 {c_X9_every : Nat → ap_Mem → (ap_Mem → Prop) → Prop} {c_X9_factor : Nat → ap_Mem → (ap_Mem → Prop) → Prop} {c_X9_some : Nat → ap_Mem → (ap_Mem → Prop) → Prop} {q : Nat} {x1 : Int32} {s0 : Int32} {M : ap_Mem} {K Kz2 : ap_Mem → Prop} (hc_X9_every : ∀ a0 a1 (J J2 : ap_Mem → Prop), (∀ u0, J u0 → J2 u0) → c_X9_every a0 a1 J → c_X9_every a0 a1 J2) (hc_X9_factor : ∀ a0 a1 (J J2 : ap_Mem → Prop), (∀ u0, J u0 → J2 u0) → c_X9_factor a0 a1 J → c_X9_factor a0 a1 J2) (hc_X9_some : ∀ a0 a1 (J J2 : ap_Mem → Prop), (∀ u0, J u0 → J2 u0) → c_X9_some a0 a1 J → c_X9_some a0 a1 J2) (hK : ∀ u0, K u0 → Kz2 u0) : w_X9_factor_39 c_X9_every c_X9_factor c_X9_some q x1 s0 M K → w_X9_factor_39 c_X9_every c_X9_factor c_X9_some q x1 s0 M Kz2 := by
  unfold w_X9_factor_39
  repeat' first | with_reducible exact fun h => h | with_reducible exact hK _ | with_reducible refine hc_X9_every _ _ _ _ (fun _ => ?_) | with_reducible refine hc_X9_factor _ _ _ _ (fun _ => ?_) | with_reducible refine hc_X9_some _ _ _ _ (fun _ => ?_) | with_reducible refine and_m ?_ | with_reducible refine ite_m ?_ ?_ | with_reducible refine mn_X9_factor_69 hc_X9_every hc_X9_factor hc_X9_some (fun _ => ?_) | with_reducible refine all_m (fun _ => ?_) | with_reducible refine imp_m ?_
theorem mn_X9_factor_25 {c_X9_every : Nat → ap_Mem → (ap_Mem → Prop) → Prop} {c_X9_factor : Nat → ap_Mem → (ap_Mem → Prop) → Prop} {c_X9_some : Nat → ap_Mem → (ap_Mem → Prop) → Prop} {q : Nat} {x1 : Int32} {M : ap_Mem} {K Kz2 : ap_Mem → Prop} (hc_X9_every : ∀ a0 a1 (J J2 : ap_Mem → Prop), (∀ u0, J u0 → J2 u0) → c_X9_every a0 a1 J → c_X9_every a0 a1 J2) (hc_X9_factor : ∀ a0 a1 (J J2 : ap_Mem → Prop), (∀ u0, J u0 → J2 u0) → c_X9_factor a0 a1 J → c_X9_factor a0 a1 J2) (hc_X9_some : ∀ a0 a1 (J J2 : ap_Mem → Prop), (∀ u0, J u0 → J2 u0) → c_X9_some a0 a1 J → c_X9_some a0 a1 J2) (hK : ∀ u0, K u0 → Kz2 u0) : w_X9_factor_25 c_X9_every c_X9_factor c_X9_some q x1 M K → w_X9_factor_25 c_X9_every c_X9_factor c_X9_some q x1 M Kz2 := by
  unfold w_X9_factor_25
  repeat' first | with_reducible exact fun h => h | with_reducible exact hK _ | with_reducible refine hc_X9_every _ _ _ _ (fun _ => ?_) | with_reducible refine hc_X9_factor _ _ _ _ (fun _ => ?_) | with_reducible refine hc_X9_some _ _ _ _ (fun _ => ?_) | with_reducible refine and_m ?_ | with_reducible refine ite_m ?_ ?_ | with_reducible refine mn_X9_factor_39 hc_X9_every hc_X9_factor hc_X9_some (fun _ => ?_) | with_reducible refine all_m (fun _ => ?_) | with_reducible refine imp_m ?_
theorem mn_X9_factor_169 {c_X9_every : Nat → ap_Mem → (ap_Mem → Prop) → Prop} {c_X9_factor : Nat → ap_Mem → (ap_Mem → Prop) → Prop} {c_X9_some : Nat → ap_Mem → (ap_Mem → Prop) → Prop} {q : Nat} {x2 : Int32} {x3 : Int32} {s0 : Int32} {M : ap_Mem} {K Kz2 : ap_Mem → Prop} (hc_X9_every : ∀ a0 a1 (J J2 : ap_Mem → Prop), (∀ u0, J u0 → J2 u0) → c_X9_every a0 a1 J → c_X9_every a0 a1 J2) (hc_X9_factor : ∀ a0 a1 (J J2 : ap_Mem → Prop), (∀ u0, J u0 → J2 u0) → c_X9_factor a0 a1 J → c_X9_factor a0 a1 J2) (hc_X9_some : ∀ a0 a1 (J J2 : ap_Mem → Prop), (∀ u0, J u0 → J2 u0) → c_X9_some a0 a1 J → c_X9_some a0 a1 J2) (hK : ∀ u0, K u0 → Kz2 u0) : w_X9_factor_169 c_X9_every c_X9_factor c_X9_some q x2 x3 s0 M K → w_X9_factor_169 c_X9_every c_X9_factor c_X9_some q x2 x3 s0 M Kz2 := by
  unfold w_X9_factor_169
  repeat' first | with_reducible exact fun h => h | with_reducible exact hK _ | with_reducible refine hc_X9_every _ _ _ _ (fun _ => ?_) | with_reducible refine hc_X9_factor _ _ _ _ (fun _ => ?_) | with_reducible refine hc_X9_some _ _ _ _ (fun _ => ?_) | with_reducible refine and_m ?_ | with_reducible refine ite_m ?_ ?_ | with_reducible refine mn_X9_figures  (fun _ _ => ?_) | with_reducible refine mn_X9_emits  (fun _ => ?_) | with_reducible refine all_m (fun _ => ?_) | with_reducible refine imp_m ?_
theorem mn_X9_factor_164 {c_X9_every : Nat → ap_Mem → (ap_Mem → Prop) → Prop} {c_X9_factor : Nat → ap_Mem → (ap_Mem → Prop) → Prop} {c_X9_some : Nat → ap_Mem → (ap_Mem → Prop) → Prop} {q : Nat} {x2 : Int32} {x3 : Int32} {M : ap_Mem} {K Kz2 : ap_Mem → Prop} (hc_X9_every : ∀ a0 a1 (J J2 : ap_Mem → Prop), (∀ u0, J u0 → J2 u0) → c_X9_every a0 a1 J → c_X9_every a0 a1 J2) (hc_X9_factor : ∀ a0 a1 (J J2 : ap_Mem → Prop), (∀ u0, J u0 → J2 u0) → c_X9_factor a0 a1 J → c_X9_factor a0 a1 J2) (hc_X9_some : ∀ a0 a1 (J J2 : ap_Mem → Prop), (∀ u0, J u0 → J2 u0) → c_X9_some a0 a1 J → c_X9_some a0 a1 J2) (hK : ∀ u0, K u0 → Kz2 u0) : w_X9_factor_164 c_X9_every c_X9_factor c_X9_some q x2 x3 M K → w_X9_factor_164 c_X9_every c_X9_factor c_X9_some q x2 x3 M Kz2 := by
  unfold w_X9_factor_164
  repeat' first | with_reducible exact fun h => h | with_reducible exact hK _ | with_reducible refine hc_X9_every _ _ _ _ (fun _ => ?_) | with_reducible refine hc_X9_factor _ _ _ _ (fun _ => ?_) | with_reducible refine hc_X9_some _ _ _ _ (fun _ => ?_) | with_reducible refine and_m ?_ | with_reducible refine ite_m ?_ ?_ | with_reducible refine mn_X9_factor_169 hc_X9_every hc_X9_factor hc_X9_some (fun _ => ?_) | with_reducible refine all_m (fun _ => ?_) | with_reducible refine imp_m ?_
theorem mn_X9_factor_150 {c_X9_every : Nat → ap_Mem → (ap_Mem → Prop) → Prop} {c_X9_factor : Nat → ap_Mem → (ap_Mem → Prop) → Prop} {c_X9_some : Nat → ap_Mem → (ap_Mem → Prop) → Prop} {q : Nat} {x2 : Int32} {s0 : Int32} {M : ap_Mem} {K Kz2 : ap_Mem → Prop} (hc_X9_every : ∀ a0 a1 (J J2 : ap_Mem → Prop), (∀ u0, J u0 → J2 u0) → c_X9_every a0 a1 J → c_X9_every a0 a1 J2) (hc_X9_factor : ∀ a0 a1 (J J2 : ap_Mem → Prop), (∀ u0, J u0 → J2 u0) → c_X9_factor a0 a1 J → c_X9_factor a0 a1 J2) (hc_X9_some : ∀ a0 a1 (J J2 : ap_Mem → Prop), (∀ u0, J u0 → J2 u0) → c_X9_some a0 a1 J → c_X9_some a0 a1 J2) (hK : ∀ u0, K u0 → Kz2 u0) : w_X9_factor_150 c_X9_every c_X9_factor c_X9_some q x2 s0 M K → w_X9_factor_150 c_X9_every c_X9_factor c_X9_some q x2 s0 M Kz2 := by
  unfold w_X9_factor_150
  repeat' first | with_reducible exact fun h => h | with_reducible exact hK _ | with_reducible refine hc_X9_every _ _ _ _ (fun _ => ?_) | with_reducible refine hc_X9_factor _ _ _ _ (fun _ => ?_) | with_reducible refine hc_X9_some _ _ _ _ (fun _ => ?_) | with_reducible refine and_m ?_ | with_reducible refine ite_m ?_ ?_ | with_reducible refine mn_X9_factor_164 hc_X9_every hc_X9_factor hc_X9_some (fun _ => ?_) | with_reducible refine mn_X9_factor_169 hc_X9_every hc_X9_factor hc_X9_some (fun _ => ?_) | with_reducible refine all_m (fun _ => ?_) | with_reducible refine imp_m ?_
theorem mn_X9_factor_130 {c_X9_every : Nat → ap_Mem → (ap_Mem → Prop) → Prop} {c_X9_factor : Nat → ap_Mem → (ap_Mem → Prop) → Prop} {c_X9_some : Nat → ap_Mem → (ap_Mem → Prop) → Prop} {q : Nat} {x2 : Int32} {s0 : Int32} {M : ap_Mem} {K Kz2 : ap_Mem → Prop} (hc_X9_every : ∀ a0 a1 (J J2 : ap_Mem → Prop), (∀ u0, J u0 → J2 u0) → c_X9_every a0 a1 J → c_X9_every a0 a1 J2) (hc_X9_factor : ∀ a0 a1 (J J2 : ap_Mem → Prop), (∀ u0, J u0 → J2 u0) → c_X9_factor a0 a1 J → c_X9_factor a0 a1 J2) (hc_X9_some : ∀ a0 a1 (J J2 : ap_Mem → Prop), (∀ u0, J u0 → J2 u0) → c_X9_some a0 a1 J → c_X9_some a0 a1 J2) (hK : ∀ u0, K u0 → Kz2 u0) : w_X9_factor_130 c_X9_every c_X9_factor c_X9_some q x2 s0 M K → w_X9_factor_130 c_X9_every c_X9_factor c_X9_some q x2 s0 M Kz2 := by
  unfold w_X9_factor_130
  repeat' first | with_reducible exact fun h => h | with_reducible exact hK _ | with_reducible refine hc_X9_every _ _ _ _ (fun _ => ?_) | with_reducible refine hc_X9_factor _ _ _ _ (fun _ => ?_) | with_reducible refine hc_X9_some _ _ _ _ (fun _ => ?_) | with_reducible refine and_m ?_ | with_reducible refine ite_m ?_ ?_ | with_reducible refine mn_X9_among  (fun _ _ => ?_) | with_reducible refine mn_X9_factor_150 hc_X9_every hc_X9_factor hc_X9_some (fun _ => ?_) | with_reducible refine all_m (fun _ => ?_) | with_reducible refine imp_m ?_
theorem mn_wf_X9_factor {c_X9_every : Nat → ap_Mem → (ap_Mem → Prop) → Prop} {c_X9_factor : Nat → ap_Mem → (ap_Mem → Prop) → Prop} {c_X9_some : Nat → ap_Mem → (ap_Mem → Prop) → Prop} {q : Nat} {M : ap_Mem} {K Kz2 : ap_Mem → Prop} (hc_X9_every : ∀ a0 a1 (J J2 : ap_Mem → Prop), (∀ u0, J u0 → J2 u0) → c_X9_every a0 a1 J → c_X9_every a0 a1 J2) (hc_X9_factor : ∀ a0 a1 (J J2 : ap_Mem → Prop), (∀ u0, J u0 → J2 u0) → c_X9_factor a0 a1 J → c_X9_factor a0 a1 J2) (hc_X9_some : ∀ a0 a1 (J J2 : ap_Mem → Prop), (∀ u0, J u0 → J2 u0) → c_X9_some a0 a1 J → c_X9_some a0 a1 J2) (hK : ∀ u0, K u0 → Kz2 u0) : wf_X9_factor c_X9_every c_X9_factor c_X9_some q M K → wf_X9_factor c_X9_every c_X9_factor c_X9_some q M Kz2 := by
  unfold wf_X9_factor
  repeat' first | with_reducible exact fun h => h | with_reducible exact hK _ | with_reducible refine hc_X9_every _ _ _ _ (fun _ => ?_) | with_reducible refine hc_X9_factor _ _ _ _ (fun _ => ?_) | with_reducible refine hc_X9_some _ _ _ _ (fun _ => ?_) | with_reducible refine and_m ?_ | with_reducible refine ite_m ?_ ?_ | with_reducible refine mn_X9_here  (fun _ _ => ?_) | with_reducible refine mn_X9_factor_25 hc_X9_every hc_X9_factor hc_X9_some (fun _ => ?_) | with_reducible refine mn_X9_among  (fun _ _ => ?_) | with_reducible refine mn_X9_factor_130 hc_X9_every hc_X9_factor hc_X9_some (fun _ => ?_) | with_reducible refine all_m (fun _ => ?_) | with_reducible refine imp_m ?_
theorem mn_X9_some_4_s {c_X9_every : Nat → ap_Mem → (ap_Mem → Prop) → Prop} {c_X9_factor : Nat → ap_Mem → (ap_Mem → Prop) → Prop} {c_X9_some : Nat → ap_Mem → (ap_Mem → Prop) → Prop} {q : Nat} {M : ap_Mem} {kL4 kL4z2 : ap_Mem → Prop} {K Kz2 : ap_Mem → Prop} (hc_X9_every : ∀ a0 a1 (J J2 : ap_Mem → Prop), (∀ u0, J u0 → J2 u0) → c_X9_every a0 a1 J → c_X9_every a0 a1 J2) (hc_X9_factor : ∀ a0 a1 (J J2 : ap_Mem → Prop), (∀ u0, J u0 → J2 u0) → c_X9_factor a0 a1 J → c_X9_factor a0 a1 J2) (hc_X9_some : ∀ a0 a1 (J J2 : ap_Mem → Prop), (∀ u0, J u0 → J2 u0) → c_X9_some a0 a1 J → c_X9_some a0 a1 J2) (hkL4 : ∀ u0, kL4 u0 → kL4z2 u0) (hK : ∀ u0, K u0 → Kz2 u0) : w_X9_some_4_s c_X9_every c_X9_factor c_X9_some kL4 q M K → w_X9_some_4_s c_X9_every c_X9_factor c_X9_some kL4z2 q M Kz2 := by
  unfold w_X9_some_4_s
  repeat' first | with_reducible exact fun h => h | with_reducible exact hkL4 _ | with_reducible exact hK _ | with_reducible refine hc_X9_every _ _ _ _ (fun _ => ?_) | with_reducible refine hc_X9_factor _ _ _ _ (fun _ => ?_) | with_reducible refine hc_X9_some _ _ _ _ (fun _ => ?_) | with_reducible refine and_m ?_ | with_reducible refine ite_m ?_ ?_ | with_reducible refine mn_X9_here  (fun _ _ => ?_) | with_reducible refine mn_X9_emits  (fun _ => ?_) | with_reducible refine all_m (fun _ => ?_) | with_reducible refine imp_m ?_
theorem mn_X9_some_4 {c_X9_every : Nat → ap_Mem → (ap_Mem → Prop) → Prop} {c_X9_factor : Nat → ap_Mem → (ap_Mem → Prop) → Prop} {c_X9_some : Nat → ap_Mem → (ap_Mem → Prop) → Prop} {q : Nat} {K Kz2 : ap_Mem → Prop} (hc_X9_every : ∀ a0 a1 (J J2 : ap_Mem → Prop), (∀ u0, J u0 → J2 u0) → c_X9_every a0 a1 J → c_X9_every a0 a1 J2) (hc_X9_factor : ∀ a0 a1 (J J2 : ap_Mem → Prop), (∀ u0, J u0 → J2 u0) → c_X9_factor a0 a1 J → c_X9_factor a0 a1 J2) (hc_X9_some : ∀ a0 a1 (J J2 : ap_Mem → Prop), (∀ u0, J u0 → J2 u0) → c_X9_some a0 a1 J → c_X9_some a0 a1 J2) (hK : ∀ u0, K u0 → Kz2 u0) : ∀ (n : Nat) (v0 : ap_Mem), w_X9_some_4 c_X9_every c_X9_factor c_X9_some q K n v0 → w_X9_some_4 c_X9_every c_X9_factor c_X9_some q Kz2 n v0 := by
  intro n
  induction n with
  | zero => exact fun _ h => h
  | succ n ih => exact fun _ => mn_X9_some_4_s hc_X9_every hc_X9_factor hc_X9_some ih hK
theorem mn_wf_X9_some {c_X9_every : Nat → ap_Mem → (ap_Mem → Prop) → Prop} {c_X9_factor : Nat → ap_Mem → (ap_Mem → Prop) → Prop} {c_X9_some : Nat → ap_Mem → (ap_Mem → Prop) → Prop} {q : Nat} {M : ap_Mem} {K Kz2 : ap_Mem → Prop} (hc_X9_every : ∀ a0 a1 (J J2 : ap_Mem → Prop), (∀ u0, J u0 → J2 u0) → c_X9_every a0 a1 J → c_X9_every a0 a1 J2) (hc_X9_factor : ∀ a0 a1 (J J2 : ap_Mem → Prop), (∀ u0, J u0 → J2 u0) → c_X9_factor a0 a1 J → c_X9_factor a0 a1 J2) (hc_X9_some : ∀ a0 a1 (J J2 : ap_Mem → Prop), (∀ u0, J u0 → J2 u0) → c_X9_some a0 a1 J → c_X9_some a0 a1 J2) (hK : ∀ u0, K u0 → Kz2 u0) : wf_X9_some c_X9_every c_X9_factor c_X9_some q M K → wf_X9_some c_X9_every c_X9_factor c_X9_some q M Kz2 := by
  unfold wf_X9_some
  repeat' first | with_reducible exact fun h => h | with_reducible exact hK _ | with_reducible refine hc_X9_every _ _ _ _ (fun _ => ?_) | with_reducible refine hc_X9_factor _ _ _ _ (fun _ => ?_) | with_reducible refine hc_X9_some _ _ _ _ (fun _ => ?_) | with_reducible refine and_m ?_ | with_reducible refine ite_m ?_ ?_ | with_reducible refine mn_X9_some_4 hc_X9_every hc_X9_factor hc_X9_some (fun _ => ?_) _ _ | with_reducible refine all_m (fun _ => ?_) | with_reducible refine imp_m ?_
theorem mr_X9_every : ∀ (n sel : Nat), sel < 3 → ∀ (q : Nat) (M : ap_Mem) (K Kz2 : ap_Mem → Prop), (∀ u0, K u0 → Kz2 u0) → wr_X9_every n sel q M K → wr_X9_every n sel q M Kz2 := by
  intro n
  induction n with
  | zero => exact fun _ _ _ _ _ _ _ h => h
  | succ n ih =>
    intro sel hs q M K K2 hK
    rcases (by omega : sel = 0 ∨ sel = 1 ∨ sel = 2) with rfl | rfl | rfl
    · exact mn_wf_X9_every (ih 0 (by decide)) (ih 1 (by decide)) (ih 2 (by decide)) hK
    · exact mn_wf_X9_factor (ih 0 (by decide)) (ih 1 (by decide)) (ih 2 (by decide)) hK
    · exact mn_wf_X9_some (ih 0 (by decide)) (ih 1 (by decide)) (ih 2 (by decide)) hK
theorem mn_X9_every {q : Nat} {M : ap_Mem} {K Kz2 : ap_Mem → Prop} (hK : ∀ u0, K u0 → Kz2 u0) : w_X9_every q M K → w_X9_every q M Kz2 := by
  unfold w_X9_every
  repeat' first | with_reducible exact fun h => h | with_reducible exact hK _ | with_reducible refine and_m ?_ | with_reducible refine ite_m ?_ ?_ | with_reducible exact mr_X9_every _ _ (by decide) _ _ _ _ hK | with_reducible refine all_m (fun _ => ?_) | with_reducible refine imp_m ?_
theorem mn_X9_factor {q : Nat} {M : ap_Mem} {K Kz2 : ap_Mem → Prop} (hK : ∀ u0, K u0 → Kz2 u0) : w_X9_factor q M K → w_X9_factor q M Kz2 := by
  unfold w_X9_factor
  repeat' first | with_reducible exact fun h => h | with_reducible exact hK _ | with_reducible refine and_m ?_ | with_reducible refine ite_m ?_ ?_ | with_reducible exact mr_X9_every _ _ (by decide) _ _ _ _ hK | with_reducible refine all_m (fun _ => ?_) | with_reducible refine imp_m ?_
theorem mn_X9_some {q : Nat} {M : ap_Mem} {K Kz2 : ap_Mem → Prop} (hK : ∀ u0, K u0 → Kz2 u0) : w_X9_some q M K → w_X9_some q M Kz2 := by
  unfold w_X9_some
  repeat' first | with_reducible exact fun h => h | with_reducible exact hK _ | with_reducible refine and_m ?_ | with_reducible refine ite_m ?_ ?_ | with_reducible exact mr_X9_every _ _ (by decide) _ _ _ _ hK | with_reducible refine all_m (fun _ => ?_) | with_reducible refine imp_m ?_
theorem mn_X9_much {q : Nat} {w2 : Nat} {x1 : Int32} {M : ap_Mem} {K Kz2 : ap_Mem → Prop} (hK : ∀ u0, K u0 → Kz2 u0) : w_X9_much q w2 x1 M K → w_X9_much q w2 x1 M Kz2 := by
  unfold w_X9_much
  repeat' first | with_reducible exact fun h => h | with_reducible exact hK _ | with_reducible refine and_m ?_ | with_reducible refine ite_m ?_ ?_ | with_reducible refine mn_X9_spells  (fun _ => ?_) | with_reducible refine mn_X9_figures  (fun _ _ => ?_) | with_reducible refine mn_X9_must  (fun _ => ?_) | with_reducible refine mn_X9_some  (fun _ => ?_) | with_reducible refine mn_X9_emits  (fun _ => ?_) | with_reducible refine all_m (fun _ => ?_) | with_reducible refine imp_m ?_
theorem mn_X9_tellsHere {q : Nat} {w2 : Nat} {x1 : Int32} {M : ap_Mem} {K Kz2 : ap_Mem → Prop} (hK : ∀ u0, K u0 → Kz2 u0) : w_X9_tellsHere q w2 x1 M K → w_X9_tellsHere q w2 x1 M Kz2 := by
  unfold w_X9_tellsHere
  repeat' first | with_reducible exact fun h => h | with_reducible exact hK _ | with_reducible refine and_m ?_ | with_reducible refine ite_m ?_ ?_ | with_reducible refine mn_X9_spells  (fun _ => ?_) | with_reducible refine mn_X9_figures  (fun _ _ => ?_) | with_reducible refine all_m (fun _ => ?_) | with_reducible refine imp_m ?_
theorem mn_X9_clauseHere {q : Nat} {M : ap_Mem} {K Kz2 : ap_Mem → Prop} (hK : ∀ u0, K u0 → Kz2 u0) : w_X9_clauseHere q M K → w_X9_clauseHere q M Kz2 := by
  unfold w_X9_clauseHere
  repeat' first | with_reducible exact fun h => h | with_reducible exact hK _ | with_reducible refine and_m ?_ | with_reducible refine ite_m ?_ ?_ | with_reducible refine mn_X9_here  (fun _ _ => ?_) | with_reducible refine mn_X9_tellsHere  (fun _ => ?_) | with_reducible refine mn_X9_much  (fun _ => ?_) | with_reducible refine all_m (fun _ => ?_) | with_reducible refine imp_m ?_
theorem mn_X9_town_135 {q : Nat} {M : ap_Mem} {K Kz2 : Int32 → ap_Mem → Prop} (hK : ∀ u0 u1, K u0 u1 → Kz2 u0 u1) : w_X9_town_135 q M K → w_X9_town_135 q M Kz2 := by
  unfold w_X9_town_135
  repeat' first | with_reducible exact fun h => h | with_reducible exact hK _ _ | with_reducible refine and_m ?_ | with_reducible refine ite_m ?_ ?_ | with_reducible refine all_m (fun _ => ?_) | with_reducible refine imp_m ?_
theorem mn_X9_town_93_s {q : Nat} {x1 : Int32} {M : ap_Mem} {kL93 kL93z2 : Int32 → ap_Mem → Prop} {K Kz2 : Int32 → ap_Mem → Prop} (hkL93 : ∀ u0 u1, kL93 u0 u1 → kL93z2 u0 u1) (hK : ∀ u0 u1, K u0 u1 → Kz2 u0 u1) : w_X9_town_93_s kL93 q x1 M K → w_X9_town_93_s kL93z2 q x1 M Kz2 := by
  unfold w_X9_town_93_s
  repeat' first | with_reducible exact fun h => h | with_reducible exact hkL93 _ _ | with_reducible exact hK _ _ | with_reducible refine and_m ?_ | with_reducible refine ite_m ?_ ?_ | with_reducible refine mn_X9_town_135  (fun _ _ => ?_) | with_reducible refine mn_X9_here  (fun _ _ => ?_) | with_reducible refine mn_X9_clauseHere  (fun _ => ?_) | with_reducible refine all_m (fun _ => ?_) | with_reducible refine imp_m ?_
theorem mn_X9_town_93 {q : Nat} {K Kz2 : Int32 → ap_Mem → Prop} (hK : ∀ u0 u1, K u0 u1 → Kz2 u0 u1) : ∀ (n : Nat) (v0 : Int32) (v1 : ap_Mem), w_X9_town_93 q K n v0 v1 → w_X9_town_93 q Kz2 n v0 v1 := by
  intro n
  induction n with
  | zero => exact fun _ _ h => h
  | succ n ih => exact fun _ _ => mn_X9_town_93_s ih hK
theorem mn_X9_town {q : Nat} {M : ap_Mem} {K Kz2 : Int32 → ap_Mem → Prop} (hK : ∀ u0 u1, K u0 u1 → Kz2 u0 u1) : w_X9_town q M K → w_X9_town q M Kz2 := by
  unfold w_X9_town
  repeat' first | with_reducible exact fun h => h | with_reducible exact hK _ _ | with_reducible refine and_m ?_ | with_reducible refine ite_m ?_ ?_ | with_reducible refine mn_X9_clauseHere  (fun _ => ?_) | with_reducible refine mn_X9_town_93  (fun _ _ => ?_) _ _ _ | with_reducible refine all_m (fun _ => ?_) | with_reducible refine imp_m ?_
theorem mn_X9_tellsOf {q : Nat} {x1 : Int32} {x2 : Int32} {M : ap_Mem} {K Kz2 : Int32 → ap_Mem → Prop} (hK : ∀ u0 u1, K u0 u1 → Kz2 u0 u1) : w_X9_tellsOf q x1 x2 M K → w_X9_tellsOf q x1 x2 M Kz2 := by
  unfold w_X9_tellsOf
  repeat' first | with_reducible exact fun h => h | with_reducible exact hK _ _ | with_reducible refine and_m ?_ | with_reducible refine ite_m ?_ ?_ | with_reducible refine all_m (fun _ => ?_) | with_reducible refine imp_m ?_
theorem mn_X9_lureOf_416 {q : Nat} {x3 : Int32} {x4 : Int32} {x5 : Int32} {x6 : Int32} {x7 : Int32} {M : ap_Mem} {kL115 kL115z2 : Int32 → Int32 → Int32 → Int32 → Int32 → ap_Mem → Prop} {K Kz2 : Int32 → ap_Mem → Prop} (hkL115 : ∀ u0 u1 u2 u3 u4 u5, kL115 u0 u1 u2 u3 u4 u5 → kL115z2 u0 u1 u2 u3 u4 u5) (hK : ∀ u0 u1, K u0 u1 → Kz2 u0 u1) : w_X9_lureOf_416 kL115 q x3 x4 x5 x6 x7 M K → w_X9_lureOf_416 kL115z2 q x3 x4 x5 x6 x7 M Kz2 := by
  unfold w_X9_lureOf_416
  repeat' first | with_reducible exact fun h => h | with_reducible exact hkL115 _ _ _ _ _ _ | with_reducible exact hK _ _ | with_reducible refine and_m ?_ | with_reducible refine ite_m ?_ ?_ | with_reducible refine all_m (fun _ => ?_) | with_reducible refine imp_m ?_
theorem mn_X9_lureOf_350 {q : Nat} {x3 : Int32} {x4 : Int32} {x5 : Int32} {x6 : Int32} {x7 : Int32} {s0 : Int32} {s1 : Int32} {M : ap_Mem} {kL115 kL115z2 : Int32 → Int32 → Int32 → Int32 → Int32 → ap_Mem → Prop} {K Kz2 : Int32 → ap_Mem → Prop} (hkL115 : ∀ u0 u1 u2 u3 u4 u5, kL115 u0 u1 u2 u3 u4 u5 → kL115z2 u0 u1 u2 u3 u4 u5) (hK : ∀ u0 u1, K u0 u1 → Kz2 u0 u1) : w_X9_lureOf_350 kL115 q x3 x4 x5 x6 x7 s0 s1 M K → w_X9_lureOf_350 kL115z2 q x3 x4 x5 x6 x7 s0 s1 M Kz2 := by
  unfold w_X9_lureOf_350
  repeat' first | with_reducible exact fun h => h | with_reducible exact hkL115 _ _ _ _ _ _ | with_reducible exact hK _ _ | with_reducible refine and_m ?_ | with_reducible refine ite_m ?_ ?_ | with_reducible refine mn_X9_lureOf_416  (fun _ _ _ _ _ _ => ?_) (fun _ _ => ?_) | with_reducible refine all_m (fun _ => ?_) | with_reducible refine imp_m ?_
theorem mn_X9_lureOf_414 {q : Nat} {x4 : Int32} {x5 : Int32} {x6 : Int32} {x7 : Int32} {s0 : Int32} {s1 : Int32} {M : ap_Mem} {kL115 kL115z2 : Int32 → Int32 → Int32 → Int32 → Int32 → ap_Mem → Prop} {K Kz2 : Int32 → ap_Mem → Prop} (hkL115 : ∀ u0 u1 u2 u3 u4 u5, kL115 u0 u1 u2 u3 u4 u5 → kL115z2 u0 u1 u2 u3 u4 u5) (hK : ∀ u0 u1, K u0 u1 → Kz2 u0 u1) : w_X9_lureOf_414 kL115 q x4 x5 x6 x7 s0 s1 M K → w_X9_lureOf_414 kL115z2 q x4 x5 x6 x7 s0 s1 M Kz2 := by
  unfold w_X9_lureOf_414
  repeat' first | with_reducible exact fun h => h | with_reducible exact hkL115 _ _ _ _ _ _ | with_reducible exact hK _ _ | with_reducible refine and_m ?_ | with_reducible refine ite_m ?_ ?_ | with_reducible refine mn_X9_lureOf_416  (fun _ _ _ _ _ _ => ?_) (fun _ _ => ?_) | with_reducible refine all_m (fun _ => ?_) | with_reducible refine imp_m ?_
theorem mn_X9_lureOf_413 {q : Nat} {x4 : Int32} {x5 : Int32} {x6 : Int32} {x7 : Int32} {s0 : Int32} {M : ap_Mem} {kL115 kL115z2 : Int32 → Int32 → Int32 → Int32 → Int32 → ap_Mem → Prop} {K Kz2 : Int32 → ap_Mem → Prop} (hkL115 : ∀ u0 u1 u2 u3 u4 u5, kL115 u0 u1 u2 u3 u4 u5 → kL115z2 u0 u1 u2 u3 u4 u5) (hK : ∀ u0 u1, K u0 u1 → Kz2 u0 u1) : w_X9_lureOf_413 kL115 q x4 x5 x6 x7 s0 M K → w_X9_lureOf_413 kL115z2 q x4 x5 x6 x7 s0 M Kz2 := by
  unfold w_X9_lureOf_413
  repeat' first | with_reducible exact fun h => h | with_reducible exact hkL115 _ _ _ _ _ _ | with_reducible exact hK _ _ | with_reducible refine and_m ?_ | with_reducible refine ite_m ?_ ?_ | with_reducible refine mn_X9_lureOf_414  (fun _ _ _ _ _ _ => ?_) (fun _ _ => ?_) | with_reducible refine all_m (fun _ => ?_) | with_reducible refine imp_m ?_
theorem mn_X9_lureOf_388 {q : Nat} {x4 : Int32} {x5 : Int32} {x6 : Int32} {x7 : Int32} {x8 : Int32} {x9 : Int32} {s0 : Int32} {s1 : Int32} {M : ap_Mem} {kL115 kL115z2 : Int32 → Int32 → Int32 → Int32 → Int32 → ap_Mem → Prop} {K Kz2 : Int32 → ap_Mem → Prop} (hkL115 : ∀ u0 u1 u2 u3 u4 u5, kL115 u0 u1 u2 u3 u4 u5 → kL115z2 u0 u1 u2 u3 u4 u5) (hK : ∀ u0 u1, K u0 u1 → Kz2 u0 u1) : w_X9_lureOf_388 kL115 q x4 x5 x6 x7 x8 x9 s0 s1 M K → w_X9_lureOf_388 kL115z2 q x4 x5 x6 x7 x8 x9 s0 s1 M Kz2 := by
  unfold w_X9_lureOf_388
  repeat' first | with_reducible exact fun h => h | with_reducible exact hkL115 _ _ _ _ _ _ | with_reducible exact hK _ _ | with_reducible refine and_m ?_ | with_reducible refine ite_m ?_ ?_ | with_reducible refine mn_X9_lureOf_413  (fun _ _ _ _ _ _ => ?_) (fun _ _ => ?_) | with_reducible refine mn_X9_lureOf_414  (fun _ _ _ _ _ _ => ?_) (fun _ _ => ?_) | with_reducible refine all_m (fun _ => ?_) | with_reducible refine imp_m ?_
theorem mn_X9_lureOf_345 {q : Nat} {x3 : Int32} {x4 : Int32} {x5 : Int32} {x6 : Int32} {x7 : Int32} {s0 : Int32} {M : ap_Mem} {kL115 kL115z2 : Int32 → Int32 → Int32 → Int32 → Int32 → ap_Mem → Prop} {K Kz2 : Int32 → ap_Mem → Prop} (hkL115 : ∀ u0 u1 u2 u3 u4 u5, kL115 u0 u1 u2 u3 u4 u5 → kL115z2 u0 u1 u2 u3 u4 u5) (hK : ∀ u0 u1, K u0 u1 → Kz2 u0 u1) : w_X9_lureOf_345 kL115 q x3 x4 x5 x6 x7 s0 M K → w_X9_lureOf_345 kL115z2 q x3 x4 x5 x6 x7 s0 M Kz2 := by
  unfold w_X9_lureOf_345
  repeat' first | with_reducible exact fun h => h | with_reducible exact hkL115 _ _ _ _ _ _ | with_reducible exact hK _ _ | with_reducible refine and_m ?_ | with_reducible refine ite_m ?_ ?_ | with_reducible refine mn_X9_lureOf_350  (fun _ _ _ _ _ _ => ?_) (fun _ _ => ?_) | with_reducible refine all_m (fun _ => ?_) | with_reducible refine imp_m ?_
theorem mn_X9_lureOf_226 {q : Nat} {x3 : Int32} {x4 : Int32} {x5 : Int32} {x6 : Int32} {x7 : Int32} {s0 : Int32} {s1 : Int32} {M : ap_Mem} {kL115 kL115z2 : Int32 → Int32 → Int32 → Int32 → Int32 → ap_Mem → Prop} {K Kz2 : Int32 → ap_Mem → Prop} (hkL115 : ∀ u0 u1 u2 u3 u4 u5, kL115 u0 u1 u2 u3 u4 u5 → kL115z2 u0 u1 u2 u3 u4 u5) (hK : ∀ u0 u1, K u0 u1 → Kz2 u0 u1) : w_X9_lureOf_226 kL115 q x3 x4 x5 x6 x7 s0 s1 M K → w_X9_lureOf_226 kL115z2 q x3 x4 x5 x6 x7 s0 s1 M Kz2 := by
  unfold w_X9_lureOf_226
  repeat' first | with_reducible exact fun h => h | with_reducible exact hkL115 _ _ _ _ _ _ | with_reducible exact hK _ _ | with_reducible refine and_m ?_ | with_reducible refine ite_m ?_ ?_ | with_reducible refine mn_X9_lureOf_416  (fun _ _ _ _ _ _ => ?_) (fun _ _ => ?_) | with_reducible refine all_m (fun _ => ?_) | with_reducible refine imp_m ?_
theorem mn_X9_lureOf_319 {q : Nat} {x3 : Int32} {x4 : Int32} {x5 : Int32} {x6 : Int32} {x7 : Int32} {s0 : Int32} {M : ap_Mem} {kL115 kL115z2 : Int32 → Int32 → Int32 → Int32 → Int32 → ap_Mem → Prop} {K Kz2 : Int32 → ap_Mem → Prop} (hkL115 : ∀ u0 u1 u2 u3 u4 u5, kL115 u0 u1 u2 u3 u4 u5 → kL115z2 u0 u1 u2 u3 u4 u5) (hK : ∀ u0 u1, K u0 u1 → Kz2 u0 u1) : w_X9_lureOf_319 kL115 q x3 x4 x5 x6 x7 s0 M K → w_X9_lureOf_319 kL115z2 q x3 x4 x5 x6 x7 s0 M Kz2 := by
  unfold w_X9_lureOf_319
  repeat' first | with_reducible exact fun h => h | with_reducible exact hkL115 _ _ _ _ _ _ | with_reducible exact hK _ _ | with_reducible refine and_m ?_ | with_reducible refine ite_m ?_ ?_ | with_reducible refine mn_X9_lureOf_350  (fun _ _ _ _ _ _ => ?_) (fun _ _ => ?_) | with_reducible refine all_m (fun _ => ?_) | with_reducible refine imp_m ?_
theorem mn_X9_lureOf_387 {q : Nat} {x4 : Int32} {x5 : Int32} {x6 : Int32} {x7 : Int32} {x8 : Int32} {x9 : Int32} {s0 : Int32} {M : ap_Mem} {kL115 kL115z2 : Int32 → Int32 → Int32 → Int32 → Int32 → ap_Mem → Prop} {K Kz2 : Int32 → ap_Mem → Prop} (hkL115 : ∀ u0 u1 u2 u3 u4 u5, kL115 u0 u1 u2 u3 u4 u5 → kL115z2 u0 u1 u2 u3 u4 u5) (hK : ∀ u0 u1, K u0 u1 → Kz2 u0 u1) : w_X9_lureOf_387 kL115 q x4 x5 x6 x7 x8 x9 s0 M K → w_X9_lureOf_387 kL115z2 q x4 x5 x6 x7 x8 x9 s0 M Kz2 := by
  unfold w_X9_lureOf_387
  repeat' first | with_reducible exact fun h => h | with_reducible exact hkL115 _ _ _ _ _ _ | with_reducible exact hK _ _ | with_reducible refine and_m ?_ | with_reducible refine ite_m ?_ ?_ | with_reducible refine mn_X9_lureOf_388  (fun _ _ _ _ _ _ => ?_) (fun _ _ => ?_) | with_reducible refine all_m (fun _ => ?_) | with_reducible refine imp_m ?_
theorem mn_X9_lureOf_264 {q : Nat} {x3 : Int32} {x4 : Int32} {x5 : Int32} {x6 : Int32} {x7 : Int32} {s0 : Int32} {s1 : Int32} {M : ap_Mem} {kL115 kL115z2 : Int32 → Int32 → Int32 → Int32 → Int32 → ap_Mem → Prop} {K Kz2 : Int32 → ap_Mem → Prop} (hkL115 : ∀ u0 u1 u2 u3 u4 u5, kL115 u0 u1 u2 u3 u4 u5 → kL115z2 u0 u1 u2 u3 u4 u5) (hK : ∀ u0 u1, K u0 u1 → Kz2 u0 u1) : w_X9_lureOf_264 kL115 q x3 x4 x5 x6 x7 s0 s1 M K → w_X9_lureOf_264 kL115z2 q x3 x4 x5 x6 x7 s0 s1 M Kz2 := by
  unfold w_X9_lureOf_264
  repeat' first | with_reducible exact fun h => h | with_reducible exact hkL115 _ _ _ _ _ _ | with_reducible exact hK _ _ | with_reducible refine and_m ?_ | with_reducible refine ite_m ?_ ?_ | with_reducible refine mn_X9_lureOf_416  (fun _ _ _ _ _ _ => ?_) (fun _ _ => ?_) | with_reducible refine all_m (fun _ => ?_) | with_reducible refine imp_m ?_
theorem mn_X9_lureOf_115_s {q : Nat} {x3 : Int32} {x4 : Int32} {x5 : Int32} {x6 : Int32} {x7 : Int32} {M : ap_Mem} {kL115 kL115z2 : Int32 → Int32 → Int32 → Int32 → Int32 → ap_Mem → Prop} {K Kz2 : Int32 → ap_Mem → Prop} (hkL115 : ∀ u0 u1 u2 u3 u4 u5, kL115 u0 u1 u2 u3 u4 u5 → kL115z2 u0 u1 u2 u3 u4 u5) (hK : ∀ u0 u1, K u0 u1 → Kz2 u0 u1) : w_X9_lureOf_115_s kL115 q x3 x4 x5 x6 x7 M K → w_X9_lureOf_115_s kL115z2 q x3 x4 x5 x6 x7 M Kz2 := by
  unfold w_X9_lureOf_115_s
  repeat' first | with_reducible exact fun h => h | with_reducible exact hkL115 _ _ _ _ _ _ | with_reducible exact hK _ _ | with_reducible refine and_m ?_ | with_reducible refine ite_m ?_ ?_ | with_reducible refine mn_X9_lureOf_264  (fun _ _ _ _ _ _ => ?_) (fun _ _ => ?_) | with_reducible refine mn_X9_lureOf_387  (fun _ _ _ _ _ _ => ?_) (fun _ _ => ?_) | with_reducible refine mn_X9_lureOf_388  (fun _ _ _ _ _ _ => ?_) (fun _ _ => ?_) | with_reducible refine mn_X9_lureOf_319  (fun _ _ _ _ _ _ => ?_) (fun _ _ => ?_) | with_reducible refine mn_X9_lureOf_350  (fun _ _ _ _ _ _ => ?_) (fun _ _ => ?_) | with_reducible refine mn_X9_lureOf_345  (fun _ _ _ _ _ _ => ?_) (fun _ _ => ?_) | with_reducible refine mn_X9_lureOf_226  (fun _ _ _ _ _ _ => ?_) (fun _ _ => ?_) | with_reducible refine all_m (fun _ => ?_) | with_reducible refine imp_m ?_
theorem mn_X9_lureOf_115 {q : Nat} {K Kz2 : Int32 → ap_Mem → Prop} (hK : ∀ u0 u1, K u0 u1 → Kz2 u0 u1) : ∀ (n : Nat) (v0 : Int32) (v1 : Int32) (v2 : Int32) (v3 : Int32) (v4 : Int32) (v5 : ap_Mem), w_X9_lureOf_115 q K n v0 v1 v2 v3 v4 v5 → w_X9_lureOf_115 q Kz2 n v0 v1 v2 v3 v4 v5 := by
  intro n
  induction n with
  | zero => exact fun _ _ _ _ _ _ h => h
  | succ n ih => exact fun _ _ _ _ _ _ => mn_X9_lureOf_115_s ih hK
theorem mn_X9_lureOf {q : Nat} {x1 : Int32} {x2 : Int32} {M : ap_Mem} {K Kz2 : Int32 → ap_Mem → Prop} (hK : ∀ u0 u1, K u0 u1 → Kz2 u0 u1) : w_X9_lureOf q x1 x2 M K → w_X9_lureOf q x1 x2 M Kz2 := by
  unfold w_X9_lureOf
  repeat' first | with_reducible exact fun h => h | with_reducible exact hK _ _ | with_reducible refine and_m ?_ | with_reducible refine ite_m ?_ ?_ | with_reducible refine mn_X9_far  (fun _ _ => ?_) | with_reducible refine mn_X9_tellsOf  (fun _ _ => ?_) | with_reducible refine mn_X9_lureOf_115  (fun _ _ => ?_) _ _ _ _ _ _ _ | with_reducible refine all_m (fun _ => ?_) | with_reducible refine imp_m ?_
theorem mn_X9_tugOf {q : Nat} {x1 : Int32} {x2 : Int32} {M : ap_Mem} {K Kz2 : Int32 → ap_Mem → Prop} (hK : ∀ u0 u1, K u0 u1 → Kz2 u0 u1) : w_X9_tugOf q x1 x2 M K → w_X9_tugOf q x1 x2 M Kz2 := by
  unfold w_X9_tugOf
  repeat' first | with_reducible exact fun h => h | with_reducible exact hK _ _ | with_reducible refine and_m ?_ | with_reducible refine ite_m ?_ ?_ | with_reducible refine mn_X9_lureOf  (fun _ _ => ?_) | with_reducible refine mn_X9_far  (fun _ _ => ?_) | with_reducible refine all_m (fun _ => ?_) | with_reducible refine imp_m ?_
theorem mn_X9_drawOf_4_s {q : Nat} {x1 : Int32} {x2 : Int32} {x3 : Int32} {M : ap_Mem} {kL4 kL4z2 : Int32 → Int32 → Int32 → ap_Mem → Prop} {K Kz2 : Int32 → ap_Mem → Prop} (hkL4 : ∀ u0 u1 u2 u3, kL4 u0 u1 u2 u3 → kL4z2 u0 u1 u2 u3) (hK : ∀ u0 u1, K u0 u1 → Kz2 u0 u1) : w_X9_drawOf_4_s kL4 q x1 x2 x3 M K → w_X9_drawOf_4_s kL4z2 q x1 x2 x3 M Kz2 := by
  unfold w_X9_drawOf_4_s
  repeat' first | with_reducible exact fun h => h | with_reducible exact hkL4 _ _ _ _ | with_reducible exact hK _ _ | with_reducible refine and_m ?_ | with_reducible refine ite_m ?_ ?_ | with_reducible refine mn_X9_tellsOf  (fun _ _ => ?_) | with_reducible refine mn_X9_tugOf  (fun _ _ => ?_) | with_reducible refine all_m (fun _ => ?_) | with_reducible refine imp_m ?_
theorem mn_X9_drawOf_4 {q : Nat} {K Kz2 : Int32 → ap_Mem → Prop} (hK : ∀ u0 u1, K u0 u1 → Kz2 u0 u1) : ∀ (n : Nat) (v0 : Int32) (v1 : Int32) (v2 : Int32) (v3 : ap_Mem), w_X9_drawOf_4 q K n v0 v1 v2 v3 → w_X9_drawOf_4 q Kz2 n v0 v1 v2 v3 := by
  intro n
  induction n with
  | zero => exact fun _ _ _ _ h => h
  | succ n ih => exact fun _ _ _ _ => mn_X9_drawOf_4_s ih hK
theorem mn_X9_drawOf {q : Nat} {x1 : Int32} {M : ap_Mem} {K Kz2 : Int32 → ap_Mem → Prop} (hK : ∀ u0 u1, K u0 u1 → Kz2 u0 u1) : w_X9_drawOf q x1 M K → w_X9_drawOf q x1 M Kz2 := by
  unfold w_X9_drawOf
  repeat' first | with_reducible exact fun h => h | with_reducible exact hK _ _ | with_reducible refine and_m ?_ | with_reducible refine ite_m ?_ ?_ | with_reducible refine mn_X9_drawOf_4  (fun _ _ => ?_) _ _ _ _ _ | with_reducible refine all_m (fun _ => ?_) | with_reducible refine imp_m ?_
theorem mn_X9_manyLain_27 {q : Nat} {x2 : Int32} {s0 : Int32} {s1 : Int32} {M : ap_Mem} {kL4 kL4z2 : Int32 → Int32 → ap_Mem → Prop} {K Kz2 : Int32 → ap_Mem → Prop} (hkL4 : ∀ u0 u1 u2, kL4 u0 u1 u2 → kL4z2 u0 u1 u2) (hK : ∀ u0 u1, K u0 u1 → Kz2 u0 u1) : w_X9_manyLain_27 kL4 q x2 s0 s1 M K → w_X9_manyLain_27 kL4z2 q x2 s0 s1 M Kz2 := by
  unfold w_X9_manyLain_27
  repeat' first | with_reducible exact fun h => h | with_reducible exact hkL4 _ _ _ | with_reducible exact hK _ _ | with_reducible refine and_m ?_ | with_reducible refine ite_m ?_ ?_ | with_reducible refine all_m (fun _ => ?_) | with_reducible refine imp_m ?_
theorem mn_X9_manyLain_4_s {q : Nat} {x1 : Int32} {x2 : Int32} {M : ap_Mem} {kL4 kL4z2 : Int32 → Int32 → ap_Mem → Prop} {K Kz2 : Int32 → ap_Mem → Prop} (hkL4 : ∀ u0 u1 u2, kL4 u0 u1 u2 → kL4z2 u0 u1 u2) (hK : ∀ u0 u1, K u0 u1 → Kz2 u0 u1) : w_X9_manyLain_4_s kL4 q x1 x2 M K → w_X9_manyLain_4_s kL4z2 q x1 x2 M Kz2 := by
  unfold w_X9_manyLain_4_s
  repeat' first | with_reducible exact fun h => h | with_reducible exact hkL4 _ _ _ | with_reducible exact hK _ _ | with_reducible refine and_m ?_ | with_reducible refine ite_m ?_ ?_ | with_reducible refine mn_X9_manyLain_27  (fun _ _ _ => ?_) (fun _ _ => ?_) | with_reducible refine all_m (fun _ => ?_) | with_reducible refine imp_m ?_
theorem mn_X9_manyLain_4 {q : Nat} {K Kz2 : Int32 → ap_Mem → Prop} (hK : ∀ u0 u1, K u0 u1 → Kz2 u0 u1) : ∀ (n : Nat) (v0 : Int32) (v1 : Int32) (v2 : ap_Mem), w_X9_manyLain_4 q K n v0 v1 v2 → w_X9_manyLain_4 q Kz2 n v0 v1 v2 := by
  intro n
  induction n with
  | zero => exact fun _ _ _ h => h
  | succ n ih => exact fun _ _ _ => mn_X9_manyLain_4_s ih hK
theorem mn_X9_manyLain {q : Nat} {M : ap_Mem} {K Kz2 : Int32 → ap_Mem → Prop} (hK : ∀ u0 u1, K u0 u1 → Kz2 u0 u1) : w_X9_manyLain q M K → w_X9_manyLain q M Kz2 := by
  unfold w_X9_manyLain
  repeat' first | with_reducible exact fun h => h | with_reducible exact hK _ _ | with_reducible refine and_m ?_ | with_reducible refine ite_m ?_ ?_ | with_reducible refine mn_X9_manyLain_4  (fun _ _ => ?_) _ _ _ _ | with_reducible refine all_m (fun _ => ?_) | with_reducible refine imp_m ?_
theorem mn_X9_person_103_s {q : Nat} {x4 : Int32} {x5 : Int32} {M : ap_Mem} {kL103 kL103z2 : Int32 → Int32 → ap_Mem → Prop} {K Kz2 : Int32 → ap_Mem → Prop} (hkL103 : ∀ u0 u1 u2, kL103 u0 u1 u2 → kL103z2 u0 u1 u2) (hK : ∀ u0 u1, K u0 u1 → Kz2 u0 u1) : w_X9_person_103_s kL103 q x4 x5 M K → w_X9_person_103_s kL103z2 q x4 x5 M Kz2 := by
  unfold w_X9_person_103_s
  repeat' first | with_reducible exact fun h => h | with_reducible exact hkL103 _ _ _ | with_reducible exact hK _ _ | with_reducible refine and_m ?_ | with_reducible refine ite_m ?_ ?_ | with_reducible refine all_m (fun _ => ?_) | with_reducible refine imp_m ?_
theorem mn_X9_person_103 {q : Nat} {K Kz2 : Int32 → ap_Mem → Prop} (hK : ∀ u0 u1, K u0 u1 → Kz2 u0 u1) : ∀ (n : Nat) (v0 : Int32) (v1 : Int32) (v2 : ap_Mem), w_X9_person_103 q K n v0 v1 v2 → w_X9_person_103 q Kz2 n v0 v1 v2 := by
  intro n
  induction n with
  | zero => exact fun _ _ _ h => h
  | succ n ih => exact fun _ _ _ => mn_X9_person_103_s ih hK
theorem mn_X9_person {q : Nat} {x1 : Int32} {x2 : Int32} {x3 : Int32} {M : ap_Mem} {K Kz2 : Int32 → ap_Mem → Prop} (hK : ∀ u0 u1, K u0 u1 → Kz2 u0 u1) : w_X9_person q x1 x2 x3 M K → w_X9_person q x1 x2 x3 M Kz2 := by
  unfold w_X9_person
  repeat' first | with_reducible exact fun h => h | with_reducible exact hK _ _ | with_reducible refine and_m ?_ | with_reducible refine ite_m ?_ ?_ | with_reducible refine mn_X9_in  (fun _ _ => ?_) | with_reducible refine mn_X9_isCell  (fun _ _ => ?_) | with_reducible refine mn_X9_person_103  (fun _ _ => ?_) _ _ _ _ | with_reducible refine all_m (fun _ => ?_) | with_reducible refine imp_m ?_
theorem mn_X9_of {q : Nat} {x1 : Int32} {x2 : Int32} {M : ap_Mem} {K Kz2 : Int32 → ap_Mem → Prop} (hK : ∀ u0 u1, K u0 u1 → Kz2 u0 u1) : w_X9_of q x1 x2 M K → w_X9_of q x1 x2 M Kz2 := by
  unfold w_X9_of
  repeat' first | with_reducible exact fun h => h | with_reducible exact hK _ _ | with_reducible refine and_m ?_ | with_reducible refine ite_m ?_ ?_ | with_reducible refine mn_X9_isPerson  (fun _ _ => ?_) | with_reducible refine mn_X9_isCell  (fun _ _ => ?_) | with_reducible refine mn_X9_tugOf  (fun _ _ => ?_) | with_reducible refine mn_X9_lureOf  (fun _ _ => ?_) | with_reducible refine all_m (fun _ => ?_) | with_reducible refine imp_m ?_
theorem mn_X9_line {q : Nat} {x1 : Int32} {x2 : Int32} {x3 : Int32} {M : ap_Mem} {K Kz2 : Int32 → ap_Mem → Prop} (hK : ∀ u0 u1, K u0 u1 → Kz2 u0 u1) : w_X9_line q x1 x2 x3 M K → w_X9_line q x1 x2 x3 M Kz2 := by
  unfold w_X9_line
  repeat' first | with_reducible exact fun h => h | with_reducible exact hK _ _ | with_reducible refine and_m ?_ | with_reducible refine ite_m ?_ ?_ | with_reducible refine mn_X9_isPerson  (fun _ _ => ?_) | with_reducible refine mn_X9_in  (fun _ _ => ?_) | with_reducible refine all_m (fun _ => ?_) | with_reducible refine imp_m ?_
theorem mn_X9_becomes {q : Nat} {x1 : Int32} {x2 : Int32} {M : ap_Mem} {K Kz2 : Int32 → ap_Mem → Prop} (hK : ∀ u0 u1, K u0 u1 → Kz2 u0 u1) : w_X9_becomes q x1 x2 M K → w_X9_becomes q x1 x2 M Kz2 := by
  unfold w_X9_becomes
  repeat' first | with_reducible exact fun h => h | with_reducible exact hK _ _ | with_reducible refine and_m ?_ | with_reducible refine ite_m ?_ ?_ | with_reducible refine all_m (fun _ => ?_) | with_reducible refine imp_m ?_
theorem mn_X9_move {q : Nat} {x1 : Int32} {x2 : Int32} {M : ap_Mem} {K Kz2 : Int32 → ap_Mem → Prop} (hK : ∀ u0 u1, K u0 u1 → Kz2 u0 u1) : w_X9_move q x1 x2 M K → w_X9_move q x1 x2 M Kz2 := by
  unfold w_X9_move
  repeat' first | with_reducible exact fun h => h | with_reducible exact hK _ _ | with_reducible refine and_m ?_ | with_reducible refine ite_m ?_ ?_ | with_reducible refine mn_X9_isPerson  (fun _ _ => ?_) | with_reducible refine mn_X9_isCell  (fun _ _ => ?_) | with_reducible refine mn_X9_becomes  (fun _ _ => ?_) | with_reducible refine all_m (fun _ => ?_) | with_reducible refine imp_m ?_
theorem mn_X9_away_22 {q : Nat} {s0 : Int32} {s1 : Int32} {M : ap_Mem} {K Kz2 : Int32 → ap_Mem → Prop} (hK : ∀ u0 u1, K u0 u1 → Kz2 u0 u1) : w_X9_away_22 q s0 s1 M K → w_X9_away_22 q s0 s1 M Kz2 := by
  unfold w_X9_away_22
  repeat' first | with_reducible exact fun h => h | with_reducible exact hK _ _ | with_reducible refine and_m ?_ | with_reducible refine ite_m ?_ ?_ | with_reducible refine mn_X9_becomes  (fun _ _ => ?_) | with_reducible refine all_m (fun _ => ?_) | with_reducible refine imp_m ?_
theorem mn_X9_away {q : Nat} {x1 : Int32} {x2 : Int32} {M : ap_Mem} {K Kz2 : Int32 → ap_Mem → Prop} (hK : ∀ u0 u1, K u0 u1 → Kz2 u0 u1) : w_X9_away q x1 x2 M K → w_X9_away q x1 x2 M Kz2 := by
  unfold w_X9_away
  repeat' first | with_reducible exact fun h => h | with_reducible exact hK _ _ | with_reducible refine and_m ?_ | with_reducible refine ite_m ?_ ?_ | with_reducible refine mn_X9_isPerson  (fun _ _ => ?_) | with_reducible refine mn_X9_away_22  (fun _ _ => ?_) | with_reducible refine all_m (fun _ => ?_) | with_reducible refine imp_m ?_
theorem mn_X9_lay {q : Nat} {x1 : Int32} {M : ap_Mem} {K Kz2 : Int32 → ap_Mem → Prop} (hK : ∀ u0 u1, K u0 u1 → Kz2 u0 u1) : w_X9_lay q x1 M K → w_X9_lay q x1 M Kz2 := by
  unfold w_X9_lay
  repeat' first | with_reducible exact fun h => h | with_reducible exact hK _ _ | with_reducible refine and_m ?_ | with_reducible refine ite_m ?_ ?_ | with_reducible refine mn_X9_isCell  (fun _ _ => ?_) | with_reducible refine mn_X9_becomes  (fun _ _ => ?_) | with_reducible refine all_m (fun _ => ?_) | with_reducible refine imp_m ?_
theorem mn_X9_told {q : Nat} {x1 : Int32} {M : ap_Mem} {K Kz2 : Int32 → ap_Mem → Prop} (hK : ∀ u0 u1, K u0 u1 → Kz2 u0 u1) : w_X9_told q x1 M K → w_X9_told q x1 M Kz2 := by
  unfold w_X9_told
  repeat' first | with_reducible exact fun h => h | with_reducible exact hK _ _ | with_reducible refine and_m ?_ | with_reducible refine ite_m ?_ ?_ | with_reducible refine mn_X9_tellsOf  (fun _ _ => ?_) | with_reducible refine mn_X9_manyLain  (fun _ _ => ?_) | with_reducible refine mn_X9_isCell  (fun _ _ => ?_) | with_reducible refine mn_X9_drawOf  (fun _ _ => ?_) | with_reducible refine all_m (fun _ => ?_) | with_reducible refine imp_m ?_
theorem mn_X9_goes_91 {q : Nat} {x1 : Int32} {x3 : Int32} {s0 : Int32} {M : ap_Mem} {kL6 kL6z2 : Int32 → Int32 → Int32 → ap_Mem → Prop} {K Kz2 : ap_Mem → Prop} (hkL6 : ∀ u0 u1 u2 u3, kL6 u0 u1 u2 u3 → kL6z2 u0 u1 u2 u3) (hK : ∀ u0, K u0 → Kz2 u0) : w_X9_goes_91 kL6 q x1 x3 s0 M K → w_X9_goes_91 kL6z2 q x1 x3 s0 M Kz2 := by
  unfold w_X9_goes_91
  repeat' first | with_reducible exact fun h => h | with_reducible exact hkL6 _ _ _ _ | with_reducible exact hK _ | with_reducible refine and_m ?_ | with_reducible refine ite_m ?_ ?_ | with_reducible refine all_m (fun _ => ?_) | with_reducible refine imp_m ?_
theorem mn_X9_goes_79 {q : Nat} {x2 : Int32} {x3 : Int32} {x4 : Int32} {x5 : Int32} {s0 : Int32} {M : ap_Mem} {kL6 kL6z2 : Int32 → Int32 → Int32 → ap_Mem → Prop} {K Kz2 : ap_Mem → Prop} (hkL6 : ∀ u0 u1 u2 u3, kL6 u0 u1 u2 u3 → kL6z2 u0 u1 u2 u3) (hK : ∀ u0, K u0 → Kz2 u0) : w_X9_goes_79 kL6 q x2 x3 x4 x5 s0 M K → w_X9_goes_79 kL6z2 q x2 x3 x4 x5 s0 M Kz2 := by
  unfold w_X9_goes_79
  repeat' first | with_reducible exact fun h => h | with_reducible exact hkL6 _ _ _ _ | with_reducible exact hK _ | with_reducible refine and_m ?_ | with_reducible refine ite_m ?_ ?_ | with_reducible refine mn_X9_goes_91  (fun _ _ _ _ => ?_) (fun _ => ?_) | with_reducible refine all_m (fun _ => ?_) | with_reducible refine imp_m ?_
theorem mn_X9_goes_67 {q : Nat} {x1 : Int32} {x2 : Int32} {x3 : Int32} {x4 : Int32} {s0 : Int32} {M : ap_Mem} {kL6 kL6z2 : Int32 → Int32 → Int32 → ap_Mem → Prop} {K Kz2 : ap_Mem → Prop} (hkL6 : ∀ u0 u1 u2 u3, kL6 u0 u1 u2 u3 → kL6z2 u0 u1 u2 u3) (hK : ∀ u0, K u0 → Kz2 u0) : w_X9_goes_67 kL6 q x1 x2 x3 x4 s0 M K → w_X9_goes_67 kL6z2 q x1 x2 x3 x4 s0 M Kz2 := by
  unfold w_X9_goes_67
  repeat' first | with_reducible exact fun h => h | with_reducible exact hkL6 _ _ _ _ | with_reducible exact hK _ | with_reducible refine and_m ?_ | with_reducible refine ite_m ?_ ?_ | with_reducible refine mn_X9_goes_79  (fun _ _ _ _ => ?_) (fun _ => ?_) | with_reducible refine all_m (fun _ => ?_) | with_reducible refine imp_m ?_
theorem mn_X9_goes_66 {q : Nat} {x1 : Int32} {x2 : Int32} {x3 : Int32} {x4 : Int32} {M : ap_Mem} {kL6 kL6z2 : Int32 → Int32 → Int32 → ap_Mem → Prop} {K Kz2 : ap_Mem → Prop} (hkL6 : ∀ u0 u1 u2 u3, kL6 u0 u1 u2 u3 → kL6z2 u0 u1 u2 u3) (hK : ∀ u0, K u0 → Kz2 u0) : w_X9_goes_66 kL6 q x1 x2 x3 x4 M K → w_X9_goes_66 kL6z2 q x1 x2 x3 x4 M Kz2 := by
  unfold w_X9_goes_66
  repeat' first | with_reducible exact fun h => h | with_reducible exact hkL6 _ _ _ _ | with_reducible exact hK _ | with_reducible refine and_m ?_ | with_reducible refine ite_m ?_ ?_ | with_reducible refine mn_X9_goes_67  (fun _ _ _ _ => ?_) (fun _ => ?_) | with_reducible refine all_m (fun _ => ?_) | with_reducible refine imp_m ?_
theorem mn_X9_goes_62 {q : Nat} {x1 : Int32} {x2 : Int32} {x3 : Int32} {x4 : Int32} {M : ap_Mem} {kL6 kL6z2 : Int32 → Int32 → Int32 → ap_Mem → Prop} {K Kz2 : ap_Mem → Prop} (hkL6 : ∀ u0 u1 u2 u3, kL6 u0 u1 u2 u3 → kL6z2 u0 u1 u2 u3) (hK : ∀ u0, K u0 → Kz2 u0) : w_X9_goes_62 kL6 q x1 x2 x3 x4 M K → w_X9_goes_62 kL6z2 q x1 x2 x3 x4 M Kz2 := by
  unfold w_X9_goes_62
  repeat' first | with_reducible exact fun h => h | with_reducible exact hkL6 _ _ _ _ | with_reducible exact hK _ | with_reducible refine and_m ?_ | with_reducible refine ite_m ?_ ?_ | with_reducible refine mn_X9_goes_67  (fun _ _ _ _ => ?_) (fun _ => ?_) | with_reducible refine all_m (fun _ => ?_) | with_reducible refine imp_m ?_
theorem mn_X9_goes_35 {q : Nat} {x1 : Int32} {x2 : Int32} {x3 : Int32} {s0 : Int32} {M : ap_Mem} {kL6 kL6z2 : Int32 → Int32 → Int32 → ap_Mem → Prop} {K Kz2 : ap_Mem → Prop} (hkL6 : ∀ u0 u1 u2 u3, kL6 u0 u1 u2 u3 → kL6z2 u0 u1 u2 u3) (hK : ∀ u0, K u0 → Kz2 u0) : w_X9_goes_35 kL6 q x1 x2 x3 s0 M K → w_X9_goes_35 kL6z2 q x1 x2 x3 s0 M Kz2 := by
  unfold w_X9_goes_35
  repeat' first | with_reducible exact fun h => h | with_reducible exact hkL6 _ _ _ _ | with_reducible exact hK _ | with_reducible refine and_m ?_ | with_reducible refine ite_m ?_ ?_ | with_reducible refine mn_X9_far  (fun _ _ => ?_) | with_reducible refine mn_X9_goes_66  (fun _ _ _ _ => ?_) (fun _ => ?_) | with_reducible refine mn_X9_goes_62  (fun _ _ _ _ => ?_) (fun _ => ?_) | with_reducible refine all_m (fun _ => ?_) | with_reducible refine imp_m ?_
theorem mn_X9_goes_6_s {q : Nat} {x1 : Int32} {x2 : Int32} {x3 : Int32} {M : ap_Mem} {kL6 kL6z2 : Int32 → Int32 → Int32 → ap_Mem → Prop} {K Kz2 : ap_Mem → Prop} (hkL6 : ∀ u0 u1 u2 u3, kL6 u0 u1 u2 u3 → kL6z2 u0 u1 u2 u3) (hK : ∀ u0, K u0 → Kz2 u0) : w_X9_goes_6_s kL6 q x1 x2 x3 M K → w_X9_goes_6_s kL6z2 q x1 x2 x3 M Kz2 := by
  unfold w_X9_goes_6_s
  repeat' first | with_reducible exact fun h => h | with_reducible exact hkL6 _ _ _ _ | with_reducible exact hK _ | with_reducible refine and_m ?_ | with_reducible refine ite_m ?_ ?_ | with_reducible refine mn_X9_far  (fun _ _ => ?_) | with_reducible refine mn_X9_goes_35  (fun _ _ _ _ => ?_) (fun _ => ?_) | with_reducible refine mn_X9_drawOf  (fun _ _ => ?_) | with_reducible refine all_m (fun _ => ?_) | with_reducible refine imp_m ?_
theorem mn_X9_goes_6 {q : Nat} {K Kz2 : ap_Mem → Prop} (hK : ∀ u0, K u0 → Kz2 u0) : ∀ (n : Nat) (v0 : Int32) (v1 : Int32) (v2 : Int32) (v3 : ap_Mem), w_X9_goes_6 q K n v0 v1 v2 v3 → w_X9_goes_6 q Kz2 n v0 v1 v2 v3 := by
  intro n
  induction n with
  | zero => exact fun _ _ _ _ h => h
  | succ n ih => exact fun _ _ _ _ => mn_X9_goes_6_s ih hK
theorem mn_X9_goes {q : Nat} {M : ap_Mem} {K Kz2 : ap_Mem → Prop} (hK : ∀ u0, K u0 → Kz2 u0) : w_X9_goes q M K → w_X9_goes q M Kz2 := by
  unfold w_X9_goes
  repeat' first | with_reducible exact fun h => h | with_reducible exact hK _ | with_reducible refine and_m ?_ | with_reducible refine ite_m ?_ ?_ | with_reducible refine mn_X9_goes_6  (fun _ => ?_) _ _ _ _ _ | with_reducible refine all_m (fun _ => ?_) | with_reducible refine imp_m ?_
theorem mn_X9_goesOn_2_s {q : Nat} {x1 : Int32} {x2 : Int32} {M : ap_Mem} {kL2 kL2z2 : Int32 → Int32 → ap_Mem → Prop} {K Kz2 : ap_Mem → Prop} (hkL2 : ∀ u0 u1 u2, kL2 u0 u1 u2 → kL2z2 u0 u1 u2) (hK : ∀ u0, K u0 → Kz2 u0) : w_X9_goesOn_2_s kL2 q x1 x2 M K → w_X9_goesOn_2_s kL2z2 q x1 x2 M Kz2 := by
  unfold w_X9_goesOn_2_s
  repeat' first | with_reducible exact fun h => h | with_reducible exact hkL2 _ _ _ | with_reducible exact hK _ | with_reducible refine and_m ?_ | with_reducible refine ite_m ?_ ?_ | with_reducible refine mn_X9_goes  (fun _ => ?_) | with_reducible refine all_m (fun _ => ?_) | with_reducible refine imp_m ?_
theorem mn_X9_goesOn_2 {q : Nat} {K Kz2 : ap_Mem → Prop} (hK : ∀ u0, K u0 → Kz2 u0) : ∀ (n : Nat) (v0 : Int32) (v1 : Int32) (v2 : ap_Mem), w_X9_goesOn_2 q K n v0 v1 v2 → w_X9_goesOn_2 q Kz2 n v0 v1 v2 := by
  intro n
  induction n with
  | zero => exact fun _ _ _ h => h
  | succ n ih => exact fun _ _ _ => mn_X9_goesOn_2_s ih hK
theorem mn_X9_goesOn {q : Nat} {x1 : Int32} {M : ap_Mem} {K Kz2 : ap_Mem → Prop} (hK : ∀ u0, K u0 → Kz2 u0) : w_X9_goesOn q x1 M K → w_X9_goesOn q x1 M Kz2 := by
  unfold w_X9_goesOn
  repeat' first | with_reducible exact fun h => h | with_reducible exact hK _ | with_reducible refine and_m ?_ | with_reducible refine ite_m ?_ ?_ | with_reducible refine mn_X9_goesOn_2  (fun _ => ?_) _ _ _ _ | with_reducible refine all_m (fun _ => ?_) | with_reducible refine imp_m ?_
theorem mn_X9_pass_82 {q : Nat} {x1 : Int32} {x2 : Int32} {x3 : Int32} {s0 : Int32} {s1 : Int32} {M : ap_Mem} {kL43 kL43z2 : Int32 → Int32 → Int32 → ap_Mem → Prop} {K Kz2 : Int32 → ap_Mem → Prop} (hkL43 : ∀ u0 u1 u2 u3, kL43 u0 u1 u2 u3 → kL43z2 u0 u1 u2 u3) (hK : ∀ u0 u1, K u0 u1 → Kz2 u0 u1) : w_X9_pass_82 kL43 q x1 x2 x3 s0 s1 M K → w_X9_pass_82 kL43z2 q x1 x2 x3 s0 s1 M Kz2 := by
  unfold w_X9_pass_82
  repeat' first | with_reducible exact fun h => h | with_reducible exact hkL43 _ _ _ _ | with_reducible exact hK _ _ | with_reducible refine and_m ?_ | with_reducible refine ite_m ?_ ?_ | with_reducible refine all_m (fun _ => ?_) | with_reducible refine imp_m ?_
theorem mn_X9_pass_43_s {q : Nat} {x1 : Int32} {x2 : Int32} {x3 : Int32} {M : ap_Mem} {kL32 kL32z2 : Int32 → Int32 → ap_Mem → Prop} {kL43 kL43z2 : Int32 → Int32 → Int32 → ap_Mem → Prop} {K Kz2 : Int32 → ap_Mem → Prop} (hkL32 : ∀ u0 u1 u2, kL32 u0 u1 u2 → kL32z2 u0 u1 u2) (hkL43 : ∀ u0 u1 u2 u3, kL43 u0 u1 u2 u3 → kL43z2 u0 u1 u2 u3) (hK : ∀ u0 u1, K u0 u1 → Kz2 u0 u1) : w_X9_pass_43_s kL32 kL43 q x1 x2 x3 M K → w_X9_pass_43_s kL32z2 kL43z2 q x1 x2 x3 M Kz2 := by
  unfold w_X9_pass_43_s
  repeat' first | with_reducible exact fun h => h | with_reducible exact hkL32 _ _ _ | with_reducible exact hkL43 _ _ _ _ | with_reducible exact hK _ _ | with_reducible refine and_m ?_ | with_reducible refine ite_m ?_ ?_ | with_reducible refine mn_X9_pass_82  (fun _ _ _ _ => ?_) (fun _ _ => ?_) | with_reducible refine all_m (fun _ => ?_) | with_reducible refine imp_m ?_
theorem mn_X9_pass_43 {q : Nat} {kL32 kL32z2 : Int32 → Int32 → ap_Mem → Prop} {K Kz2 : Int32 → ap_Mem → Prop} (hkL32 : ∀ u0 u1 u2, kL32 u0 u1 u2 → kL32z2 u0 u1 u2) (hK : ∀ u0 u1, K u0 u1 → Kz2 u0 u1) : ∀ (n : Nat) (v0 : Int32) (v1 : Int32) (v2 : Int32) (v3 : ap_Mem), w_X9_pass_43 kL32 q K n v0 v1 v2 v3 → w_X9_pass_43 kL32z2 q Kz2 n v0 v1 v2 v3 := by
  intro n
  induction n with
  | zero => exact fun _ _ _ _ h => h
  | succ n ih => exact fun _ _ _ _ => mn_X9_pass_43_s hkL32 ih hK
theorem mn_X9_pass_32_s {q : Nat} {x1 : Int32} {x2 : Int32} {M : ap_Mem} {kL32 kL32z2 : Int32 → Int32 → ap_Mem → Prop} {K Kz2 : Int32 → ap_Mem → Prop} (hkL32 : ∀ u0 u1 u2, kL32 u0 u1 u2 → kL32z2 u0 u1 u2) (hK : ∀ u0 u1, K u0 u1 → Kz2 u0 u1) : w_X9_pass_32_s kL32 q x1 x2 M K → w_X9_pass_32_s kL32z2 q x1 x2 M Kz2 := by
  unfold w_X9_pass_32_s
  repeat' first | with_reducible exact fun h => h | with_reducible exact hkL32 _ _ _ | with_reducible exact hK _ _ | with_reducible refine and_m ?_ | with_reducible refine ite_m ?_ ?_ | with_reducible refine mn_X9_goes  (fun _ => ?_) | with_reducible refine mn_X9_pass_43  (fun _ _ _ => ?_) (fun _ _ => ?_) _ _ _ _ _ | with_reducible refine all_m (fun _ => ?_) | with_reducible refine imp_m ?_
theorem mn_X9_pass_32 {q : Nat} {K Kz2 : Int32 → ap_Mem → Prop} (hK : ∀ u0 u1, K u0 u1 → Kz2 u0 u1) : ∀ (n : Nat) (v0 : Int32) (v1 : Int32) (v2 : ap_Mem), w_X9_pass_32 q K n v0 v1 v2 → w_X9_pass_32 q Kz2 n v0 v1 v2 := by
  intro n
  induction n with
  | zero => exact fun _ _ _ h => h
  | succ n ih => exact fun _ _ _ => mn_X9_pass_32_s ih hK
theorem mn_X9_pass {q : Nat} {x1 : Int32} {M : ap_Mem} {K Kz2 : Int32 → ap_Mem → Prop} (hK : ∀ u0 u1, K u0 u1 → Kz2 u0 u1) : w_X9_pass q x1 M K → w_X9_pass q x1 M Kz2 := by
  unfold w_X9_pass
  repeat' first | with_reducible exact fun h => h | with_reducible exact hK _ _ | with_reducible refine and_m ?_ | with_reducible refine ite_m ?_ ?_ | with_reducible refine mn_X9_in  (fun _ _ => ?_) | with_reducible refine mn_X9_pass_32  (fun _ _ => ?_) _ _ _ _ | with_reducible refine all_m (fun _ => ?_) | with_reducible refine imp_m ?_
theorem mn_X9_on_79 {q : Nat} {s0 : Int32} {M : ap_Mem} {K Kz2 : Int32 → ap_Mem → Prop} (hK : ∀ u0 u1, K u0 u1 → Kz2 u0 u1) : w_X9_on_79 q s0 M K → w_X9_on_79 q s0 M Kz2 := by
  unfold w_X9_on_79
  repeat' first | with_reducible exact fun h => h | with_reducible exact hK _ _ | with_reducible refine and_m ?_ | with_reducible refine ite_m ?_ ?_ | with_reducible refine mn_X9_goesBack  (fun _ => ?_) | with_reducible refine all_m (fun _ => ?_) | with_reducible refine imp_m ?_
theorem mn_X9_on_21 {q : Nat} {x1 : Int32} {x2 : Int32} {M : ap_Mem} {K Kz2 : Int32 → ap_Mem → Prop} (hK : ∀ u0 u1, K u0 u1 → Kz2 u0 u1) : w_X9_on_21 q x1 x2 M K → w_X9_on_21 q x1 x2 M Kz2 := by
  unfold w_X9_on_21
  repeat' first | with_reducible exact fun h => h | with_reducible exact hK _ _ | with_reducible refine and_m ?_ | with_reducible refine ite_m ?_ ?_ | with_reducible refine mn_X9_in  (fun _ _ => ?_) | with_reducible refine mn_X9_keeps  (fun _ => ?_) | with_reducible refine mn_X9_goesOn  (fun _ => ?_) | with_reducible refine mn_X9_on_79  (fun _ _ => ?_) | with_reducible refine mn_X9_manyLain  (fun _ _ => ?_) | with_reducible refine all_m (fun _ => ?_) | with_reducible refine imp_m ?_
theorem mn_X9_on {q : Nat} {x1 : Int32} {x2 : Int32} {M : ap_Mem} {K Kz2 : Int32 → ap_Mem → Prop} (hK : ∀ u0 u1, K u0 u1 → Kz2 u0 u1) : w_X9_on q x1 x2 M K → w_X9_on q x1 x2 M Kz2 := by
  unfold w_X9_on
  repeat' first | with_reducible exact fun h => h | with_reducible exact hK _ _ | with_reducible refine and_m ?_ | with_reducible refine ite_m ?_ ?_ | with_reducible refine mn_X9_in  (fun _ _ => ?_) | with_reducible refine mn_X9_isCell  (fun _ _ => ?_) | with_reducible refine mn_X9_on_21  (fun _ _ => ?_) | with_reducible refine all_m (fun _ => ?_) | with_reducible refine imp_m ?_
theorem mn_X9_stepsTo_35 {q : Nat} {x1 : Int32} {x2 : Int32} {x4 : Int32} {s0 : Int32} {M : ap_Mem} {kL6 kL6z2 : Int32 → Int32 → Int32 → Int32 → ap_Mem → Prop} {K Kz2 : Int32 → ap_Mem → Prop} (hkL6 : ∀ u0 u1 u2 u3 u4, kL6 u0 u1 u2 u3 u4 → kL6z2 u0 u1 u2 u3 u4) (hK : ∀ u0 u1, K u0 u1 → Kz2 u0 u1) : w_X9_stepsTo_35 kL6 q x1 x2 x4 s0 M K → w_X9_stepsTo_35 kL6z2 q x1 x2 x4 s0 M Kz2 := by
  unfold w_X9_stepsTo_35
  repeat' first | with_reducible exact fun h => h | with_reducible exact hkL6 _ _ _ _ _ | with_reducible exact hK _ _ | with_reducible refine and_m ?_ | with_reducible refine ite_m ?_ ?_ | with_reducible refine mn_X9_goes  (fun _ => ?_) | with_reducible refine all_m (fun _ => ?_) | with_reducible refine imp_m ?_
theorem mn_X9_stepsTo_46 {q : Nat} {x3 : Int32} {M : ap_Mem} {K Kz2 : Int32 → ap_Mem → Prop} (hK : ∀ u0 u1, K u0 u1 → Kz2 u0 u1) : w_X9_stepsTo_46 q x3 M K → w_X9_stepsTo_46 q x3 M Kz2 := by
  unfold w_X9_stepsTo_46
  repeat' first | with_reducible exact fun h => h | with_reducible exact hK _ _ | with_reducible refine and_m ?_ | with_reducible refine ite_m ?_ ?_ | with_reducible refine mn_X9_goesBack  (fun _ => ?_) | with_reducible refine all_m (fun _ => ?_) | with_reducible refine imp_m ?_
theorem mn_X9_stepsTo_6_s {q : Nat} {x1 : Int32} {x2 : Int32} {x3 : Int32} {x4 : Int32} {M : ap_Mem} {kL6 kL6z2 : Int32 → Int32 → Int32 → Int32 → ap_Mem → Prop} {K Kz2 : Int32 → ap_Mem → Prop} (hkL6 : ∀ u0 u1 u2 u3 u4, kL6 u0 u1 u2 u3 u4 → kL6z2 u0 u1 u2 u3 u4) (hK : ∀ u0 u1, K u0 u1 → Kz2 u0 u1) : w_X9_stepsTo_6_s kL6 q x1 x2 x3 x4 M K → w_X9_stepsTo_6_s kL6z2 q x1 x2 x3 x4 M Kz2 := by
  unfold w_X9_stepsTo_6_s
  repeat' first | with_reducible exact fun h => h | with_reducible exact hkL6 _ _ _ _ _ | with_reducible exact hK _ _ | with_reducible refine and_m ?_ | with_reducible refine ite_m ?_ ?_ | with_reducible refine mn_X9_stepsTo_46  (fun _ _ => ?_) | with_reducible refine mn_X9_stepsTo_35  (fun _ _ _ _ _ => ?_) (fun _ _ => ?_) | with_reducible refine all_m (fun _ => ?_) | with_reducible refine imp_m ?_
theorem mn_X9_stepsTo_6 {q : Nat} {K Kz2 : Int32 → ap_Mem → Prop} (hK : ∀ u0 u1, K u0 u1 → Kz2 u0 u1) : ∀ (n : Nat) (v0 : Int32) (v1 : Int32) (v2 : Int32) (v3 : Int32) (v4 : ap_Mem), w_X9_stepsTo_6 q K n v0 v1 v2 v3 v4 → w_X9_stepsTo_6 q Kz2 n v0 v1 v2 v3 v4 := by
  intro n
  induction n with
  | zero => exact fun _ _ _ _ _ h => h
  | succ n ih => exact fun _ _ _ _ _ => mn_X9_stepsTo_6_s ih hK
theorem mn_X9_stepsTo {q : Nat} {x1 : Int32} {x2 : Int32} {M : ap_Mem} {K Kz2 : Int32 → ap_Mem → Prop} (hK : ∀ u0 u1, K u0 u1 → Kz2 u0 u1) : w_X9_stepsTo q x1 x2 M K → w_X9_stepsTo q x1 x2 M Kz2 := by
  unfold w_X9_stepsTo
  repeat' first | with_reducible exact fun h => h | with_reducible exact hK _ _ | with_reducible refine and_m ?_ | with_reducible refine ite_m ?_ ?_ | with_reducible refine mn_X9_stepsTo_6  (fun _ _ => ?_) _ _ _ _ _ _ | with_reducible refine all_m (fun _ => ?_) | with_reducible refine imp_m ?_
theorem mn_X9_finds {q : Nat} {x1 : Int32} {M : ap_Mem} {K Kz2 : Int32 → ap_Mem → Prop} (hK : ∀ u0 u1, K u0 u1 → Kz2 u0 u1) : w_X9_finds q x1 M K → w_X9_finds q x1 M Kz2 := by
  unfold w_X9_finds
  repeat' first | with_reducible exact fun h => h | with_reducible exact hK _ _ | with_reducible refine and_m ?_ | with_reducible refine ite_m ?_ ?_ | with_reducible refine mn_X9_isPerson  (fun _ _ => ?_) | with_reducible refine mn_X9_keeps  (fun _ => ?_) | with_reducible refine mn_X9_stepsTo  (fun _ _ => ?_) | with_reducible refine all_m (fun _ => ?_) | with_reducible refine imp_m ?_
theorem mn_X9_soonest_99 {q : Nat} {x1 : Int32} {x2 : Int32} {x3 : Int32} {x5 : Int32} {s0 : Int32} {M : ap_Mem} {kL28 kL28z2 : Int32 → Int32 → Int32 → Int32 → Int32 → ap_Mem → Prop} {K Kz2 : Int32 → ap_Mem → Prop} (hkL28 : ∀ u0 u1 u2 u3 u4 u5, kL28 u0 u1 u2 u3 u4 u5 → kL28z2 u0 u1 u2 u3 u4 u5) (hK : ∀ u0 u1, K u0 u1 → Kz2 u0 u1) : w_X9_soonest_99 kL28 q x1 x2 x3 x5 s0 M K → w_X9_soonest_99 kL28z2 q x1 x2 x3 x5 s0 M Kz2 := by
  unfold w_X9_soonest_99
  repeat' first | with_reducible exact fun h => h | with_reducible exact hkL28 _ _ _ _ _ _ | with_reducible exact hK _ _ | with_reducible refine and_m ?_ | with_reducible refine ite_m ?_ ?_ | with_reducible refine all_m (fun _ => ?_) | with_reducible refine imp_m ?_
theorem mn_X9_soonest_84 {q : Nat} {x1 : Int32} {x2 : Int32} {x4 : Int32} {x5 : Int32} {x6 : Int32} {s0 : Int32} {M : ap_Mem} {kL28 kL28z2 : Int32 → Int32 → Int32 → Int32 → Int32 → ap_Mem → Prop} {K Kz2 : Int32 → ap_Mem → Prop} (hkL28 : ∀ u0 u1 u2 u3 u4 u5, kL28 u0 u1 u2 u3 u4 u5 → kL28z2 u0 u1 u2 u3 u4 u5) (hK : ∀ u0 u1, K u0 u1 → Kz2 u0 u1) : w_X9_soonest_84 kL28 q x1 x2 x4 x5 x6 s0 M K → w_X9_soonest_84 kL28z2 q x1 x2 x4 x5 x6 s0 M Kz2 := by
  unfold w_X9_soonest_84
  repeat' first | with_reducible exact fun h => h | with_reducible exact hkL28 _ _ _ _ _ _ | with_reducible exact hK _ _ | with_reducible refine and_m ?_ | with_reducible refine ite_m ?_ ?_ | with_reducible refine mn_X9_soonest_99  (fun _ _ _ _ _ _ => ?_) (fun _ _ => ?_) | with_reducible refine all_m (fun _ => ?_) | with_reducible refine imp_m ?_
theorem mn_X9_soonest_65 {q : Nat} {x1 : Int32} {x2 : Int32} {x3 : Int32} {x4 : Int32} {x5 : Int32} {s0 : Int32} {M : ap_Mem} {kL28 kL28z2 : Int32 → Int32 → Int32 → Int32 → Int32 → ap_Mem → Prop} {K Kz2 : Int32 → ap_Mem → Prop} (hkL28 : ∀ u0 u1 u2 u3 u4 u5, kL28 u0 u1 u2 u3 u4 u5 → kL28z2 u0 u1 u2 u3 u4 u5) (hK : ∀ u0 u1, K u0 u1 → Kz2 u0 u1) : w_X9_soonest_65 kL28 q x1 x2 x3 x4 x5 s0 M K → w_X9_soonest_65 kL28z2 q x1 x2 x3 x4 x5 s0 M Kz2 := by
  unfold w_X9_soonest_65
  repeat' first | with_reducible exact fun h => h | with_reducible exact hkL28 _ _ _ _ _ _ | with_reducible exact hK _ _ | with_reducible refine and_m ?_ | with_reducible refine ite_m ?_ ?_ | with_reducible refine mn_X9_goesBack  (fun _ => ?_) | with_reducible refine mn_X9_soonest_84  (fun _ _ _ _ _ _ => ?_) (fun _ _ => ?_) | with_reducible refine all_m (fun _ => ?_) | with_reducible refine imp_m ?_
theorem mn_X9_soonest_28_s {q : Nat} {x1 : Int32} {x2 : Int32} {x3 : Int32} {x4 : Int32} {x5 : Int32} {M : ap_Mem} {kL28 kL28z2 : Int32 → Int32 → Int32 → Int32 → Int32 → ap_Mem → Prop} {K Kz2 : Int32 → ap_Mem → Prop} (hkL28 : ∀ u0 u1 u2 u3 u4 u5, kL28 u0 u1 u2 u3 u4 u5 → kL28z2 u0 u1 u2 u3 u4 u5) (hK : ∀ u0 u1, K u0 u1 → Kz2 u0 u1) : w_X9_soonest_28_s kL28 q x1 x2 x3 x4 x5 M K → w_X9_soonest_28_s kL28z2 q x1 x2 x3 x4 x5 M Kz2 := by
  unfold w_X9_soonest_28_s
  repeat' first | with_reducible exact fun h => h | with_reducible exact hkL28 _ _ _ _ _ _ | with_reducible exact hK _ _ | with_reducible refine and_m ?_ | with_reducible refine ite_m ?_ ?_ | with_reducible refine mn_X9_keeps  (fun _ => ?_) | with_reducible refine mn_X9_soonest_65  (fun _ _ _ _ _ _ => ?_) (fun _ _ => ?_) | with_reducible refine mn_X9_stepsTo  (fun _ _ => ?_) | with_reducible refine all_m (fun _ => ?_) | with_reducible refine imp_m ?_
theorem mn_X9_soonest_28 {q : Nat} {K Kz2 : Int32 → ap_Mem → Prop} (hK : ∀ u0 u1, K u0 u1 → Kz2 u0 u1) : ∀ (n : Nat) (v0 : Int32) (v1 : Int32) (v2 : Int32) (v3 : Int32) (v4 : Int32) (v5 : ap_Mem), w_X9_soonest_28 q K n v0 v1 v2 v3 v4 v5 → w_X9_soonest_28 q Kz2 n v0 v1 v2 v3 v4 v5 := by
  intro n
  induction n with
  | zero => exact fun _ _ _ _ _ _ h => h
  | succ n ih => exact fun _ _ _ _ _ _ => mn_X9_soonest_28_s ih hK
theorem mn_X9_soonest {q : Nat} {x1 : Int32} {x2 : Int32} {M : ap_Mem} {K Kz2 : Int32 → ap_Mem → Prop} (hK : ∀ u0 u1, K u0 u1 → Kz2 u0 u1) : w_X9_soonest q x1 x2 M K → w_X9_soonest q x1 x2 M Kz2 := by
  unfold w_X9_soonest
  repeat' first | with_reducible exact fun h => h | with_reducible exact hK _ _ | with_reducible refine and_m ?_ | with_reducible refine ite_m ?_ ?_ | with_reducible refine mn_X9_isCell  (fun _ _ => ?_) | with_reducible refine mn_X9_in  (fun _ _ => ?_) | with_reducible refine mn_X9_soonest_28  (fun _ _ => ?_) _ _ _ _ _ _ _ | with_reducible refine all_m (fun _ => ?_) | with_reducible refine imp_m ?_
theorem mn_X9_call_122 {q : Nat} {x1 : Int32} {x3 : Int32} {x4 : Int32} {x5 : Int32} {s0 : Int32} {M : ap_Mem} {kL42 kL42z2 : Int32 → Int32 → Int32 → Int32 → Int32 → ap_Mem → Prop} {K Kz2 : Int32 → ap_Mem → Prop} (hkL42 : ∀ u0 u1 u2 u3 u4 u5, kL42 u0 u1 u2 u3 u4 u5 → kL42z2 u0 u1 u2 u3 u4 u5) (hK : ∀ u0 u1, K u0 u1 → Kz2 u0 u1) : w_X9_call_122 kL42 q x1 x3 x4 x5 s0 M K → w_X9_call_122 kL42z2 q x1 x3 x4 x5 s0 M Kz2 := by
  unfold w_X9_call_122
  repeat' first | with_reducible exact fun h => h | with_reducible exact hkL42 _ _ _ _ _ _ | with_reducible exact hK _ _ | with_reducible refine and_m ?_ | with_reducible refine ite_m ?_ ?_ | with_reducible refine all_m (fun _ => ?_) | with_reducible refine imp_m ?_
theorem mn_X9_call_109 {q : Nat} {x1 : Int32} {x2 : Int32} {x4 : Int32} {x5 : Int32} {x6 : Int32} {s0 : Int32} {M : ap_Mem} {kL42 kL42z2 : Int32 → Int32 → Int32 → Int32 → Int32 → ap_Mem → Prop} {K Kz2 : Int32 → ap_Mem → Prop} (hkL42 : ∀ u0 u1 u2 u3 u4 u5, kL42 u0 u1 u2 u3 u4 u5 → kL42z2 u0 u1 u2 u3 u4 u5) (hK : ∀ u0 u1, K u0 u1 → Kz2 u0 u1) : w_X9_call_109 kL42 q x1 x2 x4 x5 x6 s0 M K → w_X9_call_109 kL42z2 q x1 x2 x4 x5 x6 s0 M Kz2 := by
  unfold w_X9_call_109
  repeat' first | with_reducible exact fun h => h | with_reducible exact hkL42 _ _ _ _ _ _ | with_reducible exact hK _ _ | with_reducible refine and_m ?_ | with_reducible refine ite_m ?_ ?_ | with_reducible refine mn_X9_call_122  (fun _ _ _ _ _ _ => ?_) (fun _ _ => ?_) | with_reducible refine all_m (fun _ => ?_) | with_reducible refine imp_m ?_
theorem mn_X9_call_91 {q : Nat} {x1 : Int32} {x2 : Int32} {x3 : Int32} {x4 : Int32} {x5 : Int32} {x6 : Int32} {M : ap_Mem} {kL42 kL42z2 : Int32 → Int32 → Int32 → Int32 → Int32 → ap_Mem → Prop} {K Kz2 : Int32 → ap_Mem → Prop} (hkL42 : ∀ u0 u1 u2 u3 u4 u5, kL42 u0 u1 u2 u3 u4 u5 → kL42z2 u0 u1 u2 u3 u4 u5) (hK : ∀ u0 u1, K u0 u1 → Kz2 u0 u1) : w_X9_call_91 kL42 q x1 x2 x3 x4 x5 x6 M K → w_X9_call_91 kL42z2 q x1 x2 x3 x4 x5 x6 M Kz2 := by
  unfold w_X9_call_91
  repeat' first | with_reducible exact fun h => h | with_reducible exact hkL42 _ _ _ _ _ _ | with_reducible exact hK _ _ | with_reducible refine and_m ?_ | with_reducible refine ite_m ?_ ?_ | with_reducible refine mn_X9_call_109  (fun _ _ _ _ _ _ => ?_) (fun _ _ => ?_) | with_reducible refine all_m (fun _ => ?_) | with_reducible refine imp_m ?_
theorem mn_X9_call_42_s {q : Nat} {x1 : Int32} {x2 : Int32} {x3 : Int32} {x4 : Int32} {x5 : Int32} {M : ap_Mem} {kL27 kL27z2 : Int32 → Int32 → Int32 → Int32 → ap_Mem → Prop} {kL42 kL42z2 : Int32 → Int32 → Int32 → Int32 → Int32 → ap_Mem → Prop} {K Kz2 : Int32 → ap_Mem → Prop} (hkL27 : ∀ u0 u1 u2 u3 u4, kL27 u0 u1 u2 u3 u4 → kL27z2 u0 u1 u2 u3 u4) (hkL42 : ∀ u0 u1 u2 u3 u4 u5, kL42 u0 u1 u2 u3 u4 u5 → kL42z2 u0 u1 u2 u3 u4 u5) (hK : ∀ u0 u1, K u0 u1 → Kz2 u0 u1) : w_X9_call_42_s kL27 kL42 q x1 x2 x3 x4 x5 M K → w_X9_call_42_s kL27z2 kL42z2 q x1 x2 x3 x4 x5 M Kz2 := by
  unfold w_X9_call_42_s
  repeat' first | with_reducible exact fun h => h | with_reducible exact hkL27 _ _ _ _ _ | with_reducible exact hkL42 _ _ _ _ _ _ | with_reducible exact hK _ _ | with_reducible refine and_m ?_ | with_reducible refine ite_m ?_ ?_ | with_reducible refine mn_X9_keeps  (fun _ => ?_) | with_reducible refine mn_X9_stepsTo  (fun _ _ => ?_) | with_reducible refine mn_X9_call_91  (fun _ _ _ _ _ _ => ?_) (fun _ _ => ?_) | with_reducible refine all_m (fun _ => ?_) | with_reducible refine imp_m ?_
theorem mn_X9_call_42 {q : Nat} {kL27 kL27z2 : Int32 → Int32 → Int32 → Int32 → ap_Mem → Prop} {K Kz2 : Int32 → ap_Mem → Prop} (hkL27 : ∀ u0 u1 u2 u3 u4, kL27 u0 u1 u2 u3 u4 → kL27z2 u0 u1 u2 u3 u4) (hK : ∀ u0 u1, K u0 u1 → Kz2 u0 u1) : ∀ (n : Nat) (v0 : Int32) (v1 : Int32) (v2 : Int32) (v3 : Int32) (v4 : Int32) (v5 : ap_Mem), w_X9_call_42 kL27 q K n v0 v1 v2 v3 v4 v5 → w_X9_call_42 kL27z2 q Kz2 n v0 v1 v2 v3 v4 v5 := by
  intro n
  induction n with
  | zero => exact fun _ _ _ _ _ _ h => h
  | succ n ih => exact fun _ _ _ _ _ _ => mn_X9_call_42_s hkL27 ih hK
theorem mn_X9_call_27_s {q : Nat} {x1 : Int32} {x2 : Int32} {x3 : Int32} {x4 : Int32} {M : ap_Mem} {kL27 kL27z2 : Int32 → Int32 → Int32 → Int32 → ap_Mem → Prop} {K Kz2 : Int32 → ap_Mem → Prop} (hkL27 : ∀ u0 u1 u2 u3 u4, kL27 u0 u1 u2 u3 u4 → kL27z2 u0 u1 u2 u3 u4) (hK : ∀ u0 u1, K u0 u1 → Kz2 u0 u1) : w_X9_call_27_s kL27 q x1 x2 x3 x4 M K → w_X9_call_27_s kL27z2 q x1 x2 x3 x4 M Kz2 := by
  unfold w_X9_call_27_s
  repeat' first | with_reducible exact fun h => h | with_reducible exact hkL27 _ _ _ _ _ | with_reducible exact hK _ _ | with_reducible refine and_m ?_ | with_reducible refine ite_m ?_ ?_ | with_reducible refine mn_X9_call_42  (fun _ _ _ _ _ => ?_) (fun _ _ => ?_) _ _ _ _ _ _ _ | with_reducible refine all_m (fun _ => ?_) | with_reducible refine imp_m ?_
theorem mn_X9_call_27 {q : Nat} {K Kz2 : Int32 → ap_Mem → Prop} (hK : ∀ u0 u1, K u0 u1 → Kz2 u0 u1) : ∀ (n : Nat) (v0 : Int32) (v1 : Int32) (v2 : Int32) (v3 : Int32) (v4 : ap_Mem), w_X9_call_27 q K n v0 v1 v2 v3 v4 → w_X9_call_27 q Kz2 n v0 v1 v2 v3 v4 := by
  intro n
  induction n with
  | zero => exact fun _ _ _ _ _ h => h
  | succ n ih => exact fun _ _ _ _ _ => mn_X9_call_27_s ih hK
theorem mn_X9_call {q : Nat} {x1 : Int32} {M : ap_Mem} {K Kz2 : Int32 → ap_Mem → Prop} (hK : ∀ u0 u1, K u0 u1 → Kz2 u0 u1) : w_X9_call q x1 M K → w_X9_call q x1 M Kz2 := by
  unfold w_X9_call
  repeat' first | with_reducible exact fun h => h | with_reducible exact hK _ _ | with_reducible refine and_m ?_ | with_reducible refine ite_m ?_ ?_ | with_reducible refine mn_X9_isCell  (fun _ _ => ?_) | with_reducible refine mn_X9_keeps  (fun _ => ?_) | with_reducible refine mn_X9_stepsTo  (fun _ _ => ?_) | with_reducible refine mn_X9_call_27  (fun _ _ => ?_) _ _ _ _ _ _ | with_reducible refine all_m (fun _ => ?_) | with_reducible refine imp_m ?_
theorem mn_X9_countOf_4_s {x0 : Int32} {x1 : Int32} {x2 : Int32} {M : ap_Mem} {kL4 kL4z2 : Int32 → Int32 → Int32 → ap_Mem → Prop} {K Kz2 : Int32 → ap_Mem → Prop} (hkL4 : ∀ u0 u1 u2 u3, kL4 u0 u1 u2 u3 → kL4z2 u0 u1 u2 u3) (hK : ∀ u0 u1, K u0 u1 → Kz2 u0 u1) : w_X9_countOf_4_s kL4 x0 x1 x2 M K → w_X9_countOf_4_s kL4z2 x0 x1 x2 M Kz2 := by
  unfold w_X9_countOf_4_s
  repeat' first | with_reducible exact fun h => h | with_reducible exact hkL4 _ _ _ _ | with_reducible exact hK _ _ | with_reducible refine and_m ?_ | with_reducible refine ite_m ?_ ?_ | with_reducible refine all_m (fun _ => ?_) | with_reducible refine imp_m ?_
theorem mn_X9_countOf_4  {K Kz2 : Int32 → ap_Mem → Prop} (hK : ∀ u0 u1, K u0 u1 → Kz2 u0 u1) : ∀ (n : Nat) (v0 : Int32) (v1 : Int32) (v2 : Int32) (v3 : ap_Mem), w_X9_countOf_4 K n v0 v1 v2 v3 → w_X9_countOf_4 Kz2 n v0 v1 v2 v3 := by
  intro n
  induction n with
  | zero => exact fun _ _ _ _ h => h
  | succ n ih => exact fun _ _ _ _ => mn_X9_countOf_4_s ih hK
theorem mn_X9_countOf {x0 : Int32} {M : ap_Mem} {K Kz2 : Int32 → ap_Mem → Prop} (hK : ∀ u0 u1, K u0 u1 → Kz2 u0 u1) : w_X9_countOf x0 M K → w_X9_countOf x0 M Kz2 := by
  unfold w_X9_countOf
  repeat' first | with_reducible exact fun h => h | with_reducible exact hK _ _ | with_reducible refine and_m ?_ | with_reducible refine ite_m ?_ ?_ | with_reducible refine mn_X9_countOf_4  (fun _ _ => ?_) _ _ _ _ _ | with_reducible refine all_m (fun _ => ?_) | with_reducible refine imp_m ?_
theorem mn_X9_isKept_47 {q : Nat} {x1 : Int32} {x2 : Int32} {x3 : Int32} {s0 : Int32} {s1 : Int32} {M : ap_Mem} {kL6 kL6z2 : Int32 → Int32 → Int32 → ap_Mem → Prop} {K Kz2 : Int32 → ap_Mem → Prop} (hkL6 : ∀ u0 u1 u2 u3, kL6 u0 u1 u2 u3 → kL6z2 u0 u1 u2 u3) (hK : ∀ u0 u1, K u0 u1 → Kz2 u0 u1) : w_X9_isKept_47 kL6 q x1 x2 x3 s0 s1 M K → w_X9_isKept_47 kL6z2 q x1 x2 x3 s0 s1 M Kz2 := by
  unfold w_X9_isKept_47
  repeat' first | with_reducible exact fun h => h | with_reducible exact hkL6 _ _ _ _ | with_reducible exact hK _ _ | with_reducible refine and_m ?_ | with_reducible refine ite_m ?_ ?_ | with_reducible refine all_m (fun _ => ?_) | with_reducible refine imp_m ?_
theorem mn_X9_isKept_96 {q : Nat} {x3 : Int32} {M : ap_Mem} {K Kz2 : Int32 → ap_Mem → Prop} (hK : ∀ u0 u1, K u0 u1 → Kz2 u0 u1) : w_X9_isKept_96 q x3 M K → w_X9_isKept_96 q x3 M Kz2 := by
  unfold w_X9_isKept_96
  repeat' first | with_reducible exact fun h => h | with_reducible exact hK _ _ | with_reducible refine and_m ?_ | with_reducible refine ite_m ?_ ?_ | with_reducible refine mn_X9_goesBack  (fun _ => ?_) | with_reducible refine all_m (fun _ => ?_) | with_reducible refine imp_m ?_
theorem mn_X9_isKept_89 {q : Nat} {x1 : Int32} {x4 : Int32} {s0 : Int32} {M : ap_Mem} {kL59 kL59z2 : Int32 → Int32 → Int32 → ap_Mem → Prop} {K Kz2 : Int32 → ap_Mem → Prop} (hkL59 : ∀ u0 u1 u2 u3, kL59 u0 u1 u2 u3 → kL59z2 u0 u1 u2 u3) (hK : ∀ u0 u1, K u0 u1 → Kz2 u0 u1) : w_X9_isKept_89 kL59 q x1 x4 s0 M K → w_X9_isKept_89 kL59z2 q x1 x4 s0 M Kz2 := by
  unfold w_X9_isKept_89
  repeat' first | with_reducible exact fun h => h | with_reducible exact hkL59 _ _ _ _ | with_reducible exact hK _ _ | with_reducible refine and_m ?_ | with_reducible refine ite_m ?_ ?_ | with_reducible refine all_m (fun _ => ?_) | with_reducible refine imp_m ?_
theorem mn_X9_isKept_59_s {q : Nat} {x1 : Int32} {x3 : Int32} {x4 : Int32} {M : ap_Mem} {kL59 kL59z2 : Int32 → Int32 → Int32 → ap_Mem → Prop} {K Kz2 : Int32 → ap_Mem → Prop} (hkL59 : ∀ u0 u1 u2 u3, kL59 u0 u1 u2 u3 → kL59z2 u0 u1 u2 u3) (hK : ∀ u0 u1, K u0 u1 → Kz2 u0 u1) : w_X9_isKept_59_s kL59 q x1 x3 x4 M K → w_X9_isKept_59_s kL59z2 q x1 x3 x4 M Kz2 := by
  unfold w_X9_isKept_59_s
  repeat' first | with_reducible exact fun h => h | with_reducible exact hkL59 _ _ _ _ | with_reducible exact hK _ _ | with_reducible refine and_m ?_ | with_reducible refine ite_m ?_ ?_ | with_reducible refine mn_X9_isKept_96  (fun _ _ => ?_) | with_reducible refine mn_X9_goes  (fun _ => ?_) | with_reducible refine mn_X9_isKept_89  (fun _ _ _ _ => ?_) (fun _ _ => ?_) | with_reducible refine all_m (fun _ => ?_) | with_reducible refine imp_m ?_
theorem mn_X9_isKept_59 {q : Nat} {K Kz2 : Int32 → ap_Mem → Prop} (hK : ∀ u0 u1, K u0 u1 → Kz2 u0 u1) : ∀ (n : Nat) (v0 : Int32) (v1 : Int32) (v2 : Int32) (v3 : ap_Mem), w_X9_isKept_59 q K n v0 v1 v2 v3 → w_X9_isKept_59 q Kz2 n v0 v1 v2 v3 := by
  intro n
  induction n with
  | zero => exact fun _ _ _ _ h => h
  | succ n ih => exact fun _ _ _ _ => mn_X9_isKept_59_s ih hK
theorem mn_X9_isKept_6_s {q : Nat} {x1 : Int32} {x2 : Int32} {x3 : Int32} {M : ap_Mem} {kL6 kL6z2 : Int32 → Int32 → Int32 → ap_Mem → Prop} {K Kz2 : Int32 → ap_Mem → Prop} (hkL6 : ∀ u0 u1 u2 u3, kL6 u0 u1 u2 u3 → kL6z2 u0 u1 u2 u3) (hK : ∀ u0 u1, K u0 u1 → Kz2 u0 u1) : w_X9_isKept_6_s kL6 q x1 x2 x3 M K → w_X9_isKept_6_s kL6z2 q x1 x2 x3 M Kz2 := by
  unfold w_X9_isKept_6_s
  repeat' first | with_reducible exact fun h => h | with_reducible exact hkL6 _ _ _ _ | with_reducible exact hK _ _ | with_reducible refine and_m ?_ | with_reducible refine ite_m ?_ ?_ | with_reducible refine mn_X9_isKept_59  (fun _ _ => ?_) _ _ _ _ _ | with_reducible refine mn_X9_isKept_47  (fun _ _ _ _ => ?_) (fun _ _ => ?_) | with_reducible refine all_m (fun _ => ?_) | with_reducible refine imp_m ?_
theorem mn_X9_isKept_6 {q : Nat} {K Kz2 : Int32 → ap_Mem → Prop} (hK : ∀ u0 u1, K u0 u1 → Kz2 u0 u1) : ∀ (n : Nat) (v0 : Int32) (v1 : Int32) (v2 : Int32) (v3 : ap_Mem), w_X9_isKept_6 q K n v0 v1 v2 v3 → w_X9_isKept_6 q Kz2 n v0 v1 v2 v3 := by
  intro n
  induction n with
  | zero => exact fun _ _ _ _ h => h
  | succ n ih => exact fun _ _ _ _ => mn_X9_isKept_6_s ih hK
theorem mn_X9_isKept {q : Nat} {x1 : Int32} {x2 : Int32} {M : ap_Mem} {K Kz2 : Int32 → ap_Mem → Prop} (hK : ∀ u0 u1, K u0 u1 → Kz2 u0 u1) : w_X9_isKept q x1 x2 M K → w_X9_isKept q x1 x2 M Kz2 := by
  unfold w_X9_isKept
  repeat' first | with_reducible exact fun h => h | with_reducible exact hK _ _ | with_reducible refine and_m ?_ | with_reducible refine ite_m ?_ ?_ | with_reducible refine mn_X9_keeps  (fun _ => ?_) | with_reducible refine mn_X9_isKept_6  (fun _ _ => ?_) _ _ _ _ _ | with_reducible refine all_m (fun _ => ?_) | with_reducible refine imp_m ?_
theorem mn_X9_kept_70 {q : Nat} {x1 : Int32} {x3 : Int32} {s0 : Int32} {M : ap_Mem} {kL14 kL14z2 : Int32 → Int32 → Int32 → ap_Mem → Prop} {K Kz2 : Int32 → ap_Mem → Prop} (hkL14 : ∀ u0 u1 u2 u3, kL14 u0 u1 u2 u3 → kL14z2 u0 u1 u2 u3) (hK : ∀ u0 u1, K u0 u1 → Kz2 u0 u1) : w_X9_kept_70 kL14 q x1 x3 s0 M K → w_X9_kept_70 kL14z2 q x1 x3 s0 M Kz2 := by
  unfold w_X9_kept_70
  repeat' first | with_reducible exact fun h => h | with_reducible exact hkL14 _ _ _ _ | with_reducible exact hK _ _ | with_reducible refine and_m ?_ | with_reducible refine ite_m ?_ ?_ | with_reducible refine all_m (fun _ => ?_) | with_reducible refine imp_m ?_
theorem mn_X9_kept_69 {q : Nat} {x1 : Int32} {x2 : Int32} {x3 : Int32} {M : ap_Mem} {kL14 kL14z2 : Int32 → Int32 → Int32 → ap_Mem → Prop} {K Kz2 : Int32 → ap_Mem → Prop} (hkL14 : ∀ u0 u1 u2 u3, kL14 u0 u1 u2 u3 → kL14z2 u0 u1 u2 u3) (hK : ∀ u0 u1, K u0 u1 → Kz2 u0 u1) : w_X9_kept_69 kL14 q x1 x2 x3 M K → w_X9_kept_69 kL14z2 q x1 x2 x3 M Kz2 := by
  unfold w_X9_kept_69
  repeat' first | with_reducible exact fun h => h | with_reducible exact hkL14 _ _ _ _ | with_reducible exact hK _ _ | with_reducible refine and_m ?_ | with_reducible refine ite_m ?_ ?_ | with_reducible refine mn_X9_kept_70  (fun _ _ _ _ => ?_) (fun _ _ => ?_) | with_reducible refine all_m (fun _ => ?_) | with_reducible refine imp_m ?_
theorem mn_X9_kept_49 {q : Nat} {x1 : Int32} {x2 : Int32} {x3 : Int32} {s0 : Int32} {M : ap_Mem} {kL14 kL14z2 : Int32 → Int32 → Int32 → ap_Mem → Prop} {K Kz2 : Int32 → ap_Mem → Prop} (hkL14 : ∀ u0 u1 u2 u3, kL14 u0 u1 u2 u3 → kL14z2 u0 u1 u2 u3) (hK : ∀ u0 u1, K u0 u1 → Kz2 u0 u1) : w_X9_kept_49 kL14 q x1 x2 x3 s0 M K → w_X9_kept_49 kL14z2 q x1 x2 x3 s0 M Kz2 := by
  unfold w_X9_kept_49
  repeat' first | with_reducible exact fun h => h | with_reducible exact hkL14 _ _ _ _ | with_reducible exact hK _ _ | with_reducible refine and_m ?_ | with_reducible refine ite_m ?_ ?_ | with_reducible refine mn_X9_kept_69  (fun _ _ _ _ => ?_) (fun _ _ => ?_) | with_reducible refine mn_X9_isKept  (fun _ _ => ?_) | with_reducible refine mn_X9_kept_70  (fun _ _ _ _ => ?_) (fun _ _ => ?_) | with_reducible refine all_m (fun _ => ?_) | with_reducible refine imp_m ?_
theorem mn_X9_kept_44 {q : Nat} {x1 : Int32} {x2 : Int32} {x3 : Int32} {M : ap_Mem} {kL14 kL14z2 : Int32 → Int32 → Int32 → ap_Mem → Prop} {K Kz2 : Int32 → ap_Mem → Prop} (hkL14 : ∀ u0 u1 u2 u3, kL14 u0 u1 u2 u3 → kL14z2 u0 u1 u2 u3) (hK : ∀ u0 u1, K u0 u1 → Kz2 u0 u1) : w_X9_kept_44 kL14 q x1 x2 x3 M K → w_X9_kept_44 kL14z2 q x1 x2 x3 M Kz2 := by
  unfold w_X9_kept_44
  repeat' first | with_reducible exact fun h => h | with_reducible exact hkL14 _ _ _ _ | with_reducible exact hK _ _ | with_reducible refine and_m ?_ | with_reducible refine ite_m ?_ ?_ | with_reducible refine mn_X9_kept_49  (fun _ _ _ _ => ?_) (fun _ _ => ?_) | with_reducible refine all_m (fun _ => ?_) | with_reducible refine imp_m ?_
theorem mn_X9_kept_14_s {q : Nat} {x1 : Int32} {x2 : Int32} {x3 : Int32} {M : ap_Mem} {kL14 kL14z2 : Int32 → Int32 → Int32 → ap_Mem → Prop} {K Kz2 : Int32 → ap_Mem → Prop} (hkL14 : ∀ u0 u1 u2 u3, kL14 u0 u1 u2 u3 → kL14z2 u0 u1 u2 u3) (hK : ∀ u0 u1, K u0 u1 → Kz2 u0 u1) : w_X9_kept_14_s kL14 q x1 x2 x3 M K → w_X9_kept_14_s kL14z2 q x1 x2 x3 M Kz2 := by
  unfold w_X9_kept_14_s
  repeat' first | with_reducible exact fun h => h | with_reducible exact hkL14 _ _ _ _ | with_reducible exact hK _ _ | with_reducible refine and_m ?_ | with_reducible refine ite_m ?_ ?_ | with_reducible refine mn_X9_kept_44  (fun _ _ _ _ => ?_) (fun _ _ => ?_) | with_reducible refine mn_X9_countOf  (fun _ _ => ?_) | with_reducible refine mn_X9_kept_49  (fun _ _ _ _ => ?_) (fun _ _ => ?_) | with_reducible refine all_m (fun _ => ?_) | with_reducible refine imp_m ?_
theorem mn_X9_kept_14 {q : Nat} {K Kz2 : Int32 → ap_Mem → Prop} (hK : ∀ u0 u1, K u0 u1 → Kz2 u0 u1) : ∀ (n : Nat) (v0 : Int32) (v1 : Int32) (v2 : Int32) (v3 : ap_Mem), w_X9_kept_14 q K n v0 v1 v2 v3 → w_X9_kept_14 q Kz2 n v0 v1 v2 v3 := by
  intro n
  induction n with
  | zero => exact fun _ _ _ _ h => h
  | succ n ih => exact fun _ _ _ _ => mn_X9_kept_14_s ih hK
theorem mn_X9_kept {q : Nat} {x1 : Int32} {M : ap_Mem} {K Kz2 : Int32 → ap_Mem → Prop} (hK : ∀ u0 u1, K u0 u1 → Kz2 u0 u1) : w_X9_kept q x1 M K → w_X9_kept q x1 M Kz2 := by
  unfold w_X9_kept
  repeat' first | with_reducible exact fun h => h | with_reducible exact hK _ _ | with_reducible refine and_m ?_ | with_reducible refine ite_m ?_ ?_ | with_reducible refine mn_X9_isCell  (fun _ _ => ?_) | with_reducible refine mn_X9_kept_14  (fun _ _ => ?_) _ _ _ _ _ | with_reducible refine all_m (fun _ => ?_) | with_reducible refine imp_m ?_
theorem mn_X9_walk {q : Nat} {x1 : Int32} {M : ap_Mem} {K Kz2 : Int32 → ap_Mem → Prop} (hK : ∀ u0 u1, K u0 u1 → Kz2 u0 u1) : w_X9_walk q x1 M K → w_X9_walk q x1 M Kz2 := by
  unfold w_X9_walk
  repeat' first | with_reducible exact fun h => h | with_reducible exact hK _ _ | with_reducible refine and_m ?_ | with_reducible refine ite_m ?_ ?_ | with_reducible refine mn_X9_isCell  (fun _ _ => ?_) | with_reducible refine all_m (fun _ => ?_) | with_reducible refine imp_m ?_
theorem mn_X9_met_81 {q : Nat} {x2 : Int32} {M : ap_Mem} {K Kz2 : Int32 → ap_Mem → Prop} (hK : ∀ u0 u1, K u0 u1 → Kz2 u0 u1) : w_X9_met_81 q x2 M K → w_X9_met_81 q x2 M Kz2 := by
  unfold w_X9_met_81
  repeat' first | with_reducible exact fun h => h | with_reducible exact hK _ _ | with_reducible refine and_m ?_ | with_reducible refine ite_m ?_ ?_ | with_reducible refine mn_X9_goesBack  (fun _ => ?_) | with_reducible refine all_m (fun _ => ?_) | with_reducible refine imp_m ?_
theorem mn_X9_met_70 {q : Nat} {x1 : Int32} {x3 : Int32} {s0 : Int32} {M : ap_Mem} {kL20 kL20z2 : Int32 → Int32 → Int32 → ap_Mem → Prop} {K Kz2 : Int32 → ap_Mem → Prop} (hkL20 : ∀ u0 u1 u2 u3, kL20 u0 u1 u2 u3 → kL20z2 u0 u1 u2 u3) (hK : ∀ u0 u1, K u0 u1 → Kz2 u0 u1) : w_X9_met_70 kL20 q x1 x3 s0 M K → w_X9_met_70 kL20z2 q x1 x3 s0 M Kz2 := by
  unfold w_X9_met_70
  repeat' first | with_reducible exact fun h => h | with_reducible exact hkL20 _ _ _ _ | with_reducible exact hK _ _ | with_reducible refine and_m ?_ | with_reducible refine ite_m ?_ ?_ | with_reducible refine mn_X9_goes  (fun _ => ?_) | with_reducible refine all_m (fun _ => ?_) | with_reducible refine imp_m ?_
theorem mn_X9_met_68 {q : Nat} {x1 : Int32} {x3 : Int32} {M : ap_Mem} {kL20 kL20z2 : Int32 → Int32 → Int32 → ap_Mem → Prop} {K Kz2 : Int32 → ap_Mem → Prop} (hkL20 : ∀ u0 u1 u2 u3, kL20 u0 u1 u2 u3 → kL20z2 u0 u1 u2 u3) (hK : ∀ u0 u1, K u0 u1 → Kz2 u0 u1) : w_X9_met_68 kL20 q x1 x3 M K → w_X9_met_68 kL20z2 q x1 x3 M Kz2 := by
  unfold w_X9_met_68
  repeat' first | with_reducible exact fun h => h | with_reducible exact hkL20 _ _ _ _ | with_reducible exact hK _ _ | with_reducible refine and_m ?_ | with_reducible refine ite_m ?_ ?_ | with_reducible refine mn_X9_met_70  (fun _ _ _ _ => ?_) (fun _ _ => ?_) | with_reducible refine all_m (fun _ => ?_) | with_reducible refine imp_m ?_
theorem mn_X9_met_20_s {q : Nat} {x1 : Int32} {x2 : Int32} {x3 : Int32} {M : ap_Mem} {kL20 kL20z2 : Int32 → Int32 → Int32 → ap_Mem → Prop} {K Kz2 : Int32 → ap_Mem → Prop} (hkL20 : ∀ u0 u1 u2 u3, kL20 u0 u1 u2 u3 → kL20z2 u0 u1 u2 u3) (hK : ∀ u0 u1, K u0 u1 → Kz2 u0 u1) : w_X9_met_20_s kL20 q x1 x2 x3 M K → w_X9_met_20_s kL20z2 q x1 x2 x3 M Kz2 := by
  unfold w_X9_met_20_s
  repeat' first | with_reducible exact fun h => h | with_reducible exact hkL20 _ _ _ _ | with_reducible exact hK _ _ | with_reducible refine and_m ?_ | with_reducible refine ite_m ?_ ?_ | with_reducible refine mn_X9_met_81  (fun _ _ => ?_) | with_reducible refine mn_X9_met_68  (fun _ _ _ _ => ?_) (fun _ _ => ?_) | with_reducible refine mn_X9_met_70  (fun _ _ _ _ => ?_) (fun _ _ => ?_) | with_reducible refine all_m (fun _ => ?_) | with_reducible refine imp_m ?_
theorem mn_X9_met_20 {q : Nat} {K Kz2 : Int32 → ap_Mem → Prop} (hK : ∀ u0 u1, K u0 u1 → Kz2 u0 u1) : ∀ (n : Nat) (v0 : Int32) (v1 : Int32) (v2 : Int32) (v3 : ap_Mem), w_X9_met_20 q K n v0 v1 v2 v3 → w_X9_met_20 q Kz2 n v0 v1 v2 v3 := by
  intro n
  induction n with
  | zero => exact fun _ _ _ _ h => h
  | succ n ih => exact fun _ _ _ _ => mn_X9_met_20_s ih hK
theorem mn_X9_met {q : Nat} {x1 : Int32} {M : ap_Mem} {K Kz2 : Int32 → ap_Mem → Prop} (hK : ∀ u0 u1, K u0 u1 → Kz2 u0 u1) : w_X9_met q x1 M K → w_X9_met q x1 M Kz2 := by
  unfold w_X9_met
  repeat' first | with_reducible exact fun h => h | with_reducible exact hK _ _ | with_reducible refine and_m ?_ | with_reducible refine ite_m ?_ ?_ | with_reducible refine mn_X9_in  (fun _ _ => ?_) | with_reducible refine mn_X9_keeps  (fun _ => ?_) | with_reducible refine mn_X9_met_20  (fun _ _ => ?_) _ _ _ _ _ | with_reducible refine all_m (fun _ => ?_) | with_reducible refine imp_m ?_
theorem mn_X9_see {q : Nat} {x1 : Int32} {x2 : Int32} {M : ap_Mem} {K Kz2 : Int32 → ap_Mem → Prop} (hK : ∀ u0 u1, K u0 u1 → Kz2 u0 u1) : w_X9_see q x1 x2 M K → w_X9_see q x1 x2 M Kz2 := by
  unfold w_X9_see
  repeat' first | with_reducible exact fun h => h | with_reducible exact hK _ _ | with_reducible refine and_m ?_ | with_reducible refine ite_m ?_ ?_ | with_reducible refine mn_X9_isCell  (fun _ _ => ?_) | with_reducible refine mn_X9_in  (fun _ _ => ?_) | with_reducible refine all_m (fun _ => ?_) | with_reducible refine imp_m ?_
theorem mn_X9_isAsSeen_55 {q : Nat} {x1 : Int32} {x3 : Int32} {s0 : Int32} {M : ap_Mem} {kL4 kL4z2 : Int32 → Int32 → Int32 → ap_Mem → Prop} {K Kz2 : Int32 → ap_Mem → Prop} (hkL4 : ∀ u0 u1 u2 u3, kL4 u0 u1 u2 u3 → kL4z2 u0 u1 u2 u3) (hK : ∀ u0 u1, K u0 u1 → Kz2 u0 u1) : w_X9_isAsSeen_55 kL4 q x1 x3 s0 M K → w_X9_isAsSeen_55 kL4z2 q x1 x3 s0 M Kz2 := by
  unfold w_X9_isAsSeen_55
  repeat' first | with_reducible exact fun h => h | with_reducible exact hkL4 _ _ _ _ | with_reducible exact hK _ _ | with_reducible refine and_m ?_ | with_reducible refine ite_m ?_ ?_ | with_reducible refine all_m (fun _ => ?_) | with_reducible refine imp_m ?_
theorem mn_X9_isAsSeen_50 {q : Nat} {x1 : Int32} {x3 : Int32} {M : ap_Mem} {kL4 kL4z2 : Int32 → Int32 → Int32 → ap_Mem → Prop} {K Kz2 : Int32 → ap_Mem → Prop} (hkL4 : ∀ u0 u1 u2 u3, kL4 u0 u1 u2 u3 → kL4z2 u0 u1 u2 u3) (hK : ∀ u0 u1, K u0 u1 → Kz2 u0 u1) : w_X9_isAsSeen_50 kL4 q x1 x3 M K → w_X9_isAsSeen_50 kL4z2 q x1 x3 M Kz2 := by
  unfold w_X9_isAsSeen_50
  repeat' first | with_reducible exact fun h => h | with_reducible exact hkL4 _ _ _ _ | with_reducible exact hK _ _ | with_reducible refine and_m ?_ | with_reducible refine ite_m ?_ ?_ | with_reducible refine mn_X9_isAsSeen_55  (fun _ _ _ _ => ?_) (fun _ _ => ?_) | with_reducible refine all_m (fun _ => ?_) | with_reducible refine imp_m ?_
theorem mn_X9_isAsSeen_54 {q : Nat} {x1 : Int32} {x3 : Int32} {M : ap_Mem} {kL4 kL4z2 : Int32 → Int32 → Int32 → ap_Mem → Prop} {K Kz2 : Int32 → ap_Mem → Prop} (hkL4 : ∀ u0 u1 u2 u3, kL4 u0 u1 u2 u3 → kL4z2 u0 u1 u2 u3) (hK : ∀ u0 u1, K u0 u1 → Kz2 u0 u1) : w_X9_isAsSeen_54 kL4 q x1 x3 M K → w_X9_isAsSeen_54 kL4z2 q x1 x3 M Kz2 := by
  unfold w_X9_isAsSeen_54
  repeat' first | with_reducible exact fun h => h | with_reducible exact hkL4 _ _ _ _ | with_reducible exact hK _ _ | with_reducible refine and_m ?_ | with_reducible refine ite_m ?_ ?_ | with_reducible refine mn_X9_isAsSeen_55  (fun _ _ _ _ => ?_) (fun _ _ => ?_) | with_reducible refine all_m (fun _ => ?_) | with_reducible refine imp_m ?_
theorem mn_X9_isAsSeen_4_s {q : Nat} {x1 : Int32} {x2 : Int32} {x3 : Int32} {M : ap_Mem} {kL4 kL4z2 : Int32 → Int32 → Int32 → ap_Mem → Prop} {K Kz2 : Int32 → ap_Mem → Prop} (hkL4 : ∀ u0 u1 u2 u3, kL4 u0 u1 u2 u3 → kL4z2 u0 u1 u2 u3) (hK : ∀ u0 u1, K u0 u1 → Kz2 u0 u1) : w_X9_isAsSeen_4_s kL4 q x1 x2 x3 M K → w_X9_isAsSeen_4_s kL4z2 q x1 x2 x3 M Kz2 := by
  unfold w_X9_isAsSeen_4_s
  repeat' first | with_reducible exact fun h => h | with_reducible exact hkL4 _ _ _ _ | with_reducible exact hK _ _ | with_reducible refine and_m ?_ | with_reducible refine ite_m ?_ ?_ | with_reducible refine mn_X9_isAsSeen_54  (fun _ _ _ _ => ?_) (fun _ _ => ?_) | with_reducible refine mn_X9_isAsSeen_50  (fun _ _ _ _ => ?_) (fun _ _ => ?_) | with_reducible refine all_m (fun _ => ?_) | with_reducible refine imp_m ?_
theorem mn_X9_isAsSeen_4 {q : Nat} {K Kz2 : Int32 → ap_Mem → Prop} (hK : ∀ u0 u1, K u0 u1 → Kz2 u0 u1) : ∀ (n : Nat) (v0 : Int32) (v1 : Int32) (v2 : Int32) (v3 : ap_Mem), w_X9_isAsSeen_4 q K n v0 v1 v2 v3 → w_X9_isAsSeen_4 q Kz2 n v0 v1 v2 v3 := by
  intro n
  induction n with
  | zero => exact fun _ _ _ _ h => h
  | succ n ih => exact fun _ _ _ _ => mn_X9_isAsSeen_4_s ih hK
theorem mn_X9_isAsSeen {q : Nat} {x1 : Int32} {M : ap_Mem} {K Kz2 : Int32 → ap_Mem → Prop} (hK : ∀ u0 u1, K u0 u1 → Kz2 u0 u1) : w_X9_isAsSeen q x1 M K → w_X9_isAsSeen q x1 M Kz2 := by
  unfold w_X9_isAsSeen
  repeat' first | with_reducible exact fun h => h | with_reducible exact hK _ _ | with_reducible refine and_m ?_ | with_reducible refine ite_m ?_ ?_ | with_reducible refine mn_X9_isAsSeen_4  (fun _ _ => ?_) _ _ _ _ _ | with_reducible refine all_m (fun _ => ?_) | with_reducible refine imp_m ?_
theorem mn_X9_areAsSeen_30 {q : Nat} {x1 : Int32} {M : ap_Mem} {K Kz2 : Int32 → ap_Mem → Prop} (hK : ∀ u0 u1, K u0 u1 → Kz2 u0 u1) : w_X9_areAsSeen_30 q x1 M K → w_X9_areAsSeen_30 q x1 M Kz2 := by
  unfold w_X9_areAsSeen_30
  repeat' first | with_reducible exact fun h => h | with_reducible exact hK _ _ | with_reducible refine and_m ?_ | with_reducible refine ite_m ?_ ?_ | with_reducible refine mn_X9_goesBack  (fun _ => ?_) | with_reducible refine all_m (fun _ => ?_) | with_reducible refine imp_m ?_
theorem mn_X9_areAsSeen_4_s {q : Nat} {x1 : Int32} {x2 : Int32} {M : ap_Mem} {kL4 kL4z2 : Int32 → Int32 → ap_Mem → Prop} {K Kz2 : Int32 → ap_Mem → Prop} (hkL4 : ∀ u0 u1 u2, kL4 u0 u1 u2 → kL4z2 u0 u1 u2) (hK : ∀ u0 u1, K u0 u1 → Kz2 u0 u1) : w_X9_areAsSeen_4_s kL4 q x1 x2 M K → w_X9_areAsSeen_4_s kL4z2 q x1 x2 M Kz2 := by
  unfold w_X9_areAsSeen_4_s
  repeat' first | with_reducible exact fun h => h | with_reducible exact hkL4 _ _ _ | with_reducible exact hK _ _ | with_reducible refine and_m ?_ | with_reducible refine ite_m ?_ ?_ | with_reducible refine mn_X9_areAsSeen_30  (fun _ _ => ?_) | with_reducible refine mn_X9_isAsSeen  (fun _ _ => ?_) | with_reducible refine mn_X9_goes  (fun _ => ?_) | with_reducible refine all_m (fun _ => ?_) | with_reducible refine imp_m ?_
theorem mn_X9_areAsSeen_4 {q : Nat} {K Kz2 : Int32 → ap_Mem → Prop} (hK : ∀ u0 u1, K u0 u1 → Kz2 u0 u1) : ∀ (n : Nat) (v0 : Int32) (v1 : Int32) (v2 : ap_Mem), w_X9_areAsSeen_4 q K n v0 v1 v2 → w_X9_areAsSeen_4 q Kz2 n v0 v1 v2 := by
  intro n
  induction n with
  | zero => exact fun _ _ _ h => h
  | succ n ih => exact fun _ _ _ => mn_X9_areAsSeen_4_s ih hK
theorem mn_X9_areAsSeen {q : Nat} {M : ap_Mem} {K Kz2 : Int32 → ap_Mem → Prop} (hK : ∀ u0 u1, K u0 u1 → Kz2 u0 u1) : w_X9_areAsSeen q M K → w_X9_areAsSeen q M Kz2 := by
  unfold w_X9_areAsSeen
  repeat' first | with_reducible exact fun h => h | with_reducible exact hK _ _ | with_reducible refine and_m ?_ | with_reducible refine ite_m ?_ ?_ | with_reducible refine mn_X9_areAsSeen_4  (fun _ _ => ?_) _ _ _ _ | with_reducible refine all_m (fun _ => ?_) | with_reducible refine imp_m ?_
theorem mn_X9_doors_49 {q : Nat} {x1 : Int32} {x3 : Int32} {s0 : Int32} {s1 : Int32} {M : ap_Mem} {kL14 kL14z2 : Int32 → Int32 → Int32 → ap_Mem → Prop} {K Kz2 : Int32 → ap_Mem → Prop} (hkL14 : ∀ u0 u1 u2 u3, kL14 u0 u1 u2 u3 → kL14z2 u0 u1 u2 u3) (hK : ∀ u0 u1, K u0 u1 → Kz2 u0 u1) : w_X9_doors_49 kL14 q x1 x3 s0 s1 M K → w_X9_doors_49 kL14z2 q x1 x3 s0 s1 M Kz2 := by
  unfold w_X9_doors_49
  repeat' first | with_reducible exact fun h => h | with_reducible exact hkL14 _ _ _ _ | with_reducible exact hK _ _ | with_reducible refine and_m ?_ | with_reducible refine ite_m ?_ ?_ | with_reducible refine all_m (fun _ => ?_) | with_reducible refine imp_m ?_
theorem mn_X9_doors_14_s {q : Nat} {x1 : Int32} {x2 : Int32} {x3 : Int32} {M : ap_Mem} {kL14 kL14z2 : Int32 → Int32 → Int32 → ap_Mem → Prop} {K Kz2 : Int32 → ap_Mem → Prop} (hkL14 : ∀ u0 u1 u2 u3, kL14 u0 u1 u2 u3 → kL14z2 u0 u1 u2 u3) (hK : ∀ u0 u1, K u0 u1 → Kz2 u0 u1) : w_X9_doors_14_s kL14 q x1 x2 x3 M K → w_X9_doors_14_s kL14z2 q x1 x2 x3 M Kz2 := by
  unfold w_X9_doors_14_s
  repeat' first | with_reducible exact fun h => h | with_reducible exact hkL14 _ _ _ _ | with_reducible exact hK _ _ | with_reducible refine and_m ?_ | with_reducible refine ite_m ?_ ?_ | with_reducible refine mn_X9_keeps  (fun _ => ?_) | with_reducible refine mn_X9_areAsSeen  (fun _ _ => ?_) | with_reducible refine mn_X9_doors_49  (fun _ _ _ _ => ?_) (fun _ _ => ?_) | with_reducible refine all_m (fun _ => ?_) | with_reducible refine imp_m ?_
theorem mn_X9_doors_14 {q : Nat} {K Kz2 : Int32 → ap_Mem → Prop} (hK : ∀ u0 u1, K u0 u1 → Kz2 u0 u1) : ∀ (n : Nat) (v0 : Int32) (v1 : Int32) (v2 : Int32) (v3 : ap_Mem), w_X9_doors_14 q K n v0 v1 v2 v3 → w_X9_doors_14 q Kz2 n v0 v1 v2 v3 := by
  intro n
  induction n with
  | zero => exact fun _ _ _ _ h => h
  | succ n ih => exact fun _ _ _ _ => mn_X9_doors_14_s ih hK
theorem mn_X9_doors {q : Nat} {x1 : Int32} {M : ap_Mem} {K Kz2 : Int32 → ap_Mem → Prop} (hK : ∀ u0 u1, K u0 u1 → Kz2 u0 u1) : w_X9_doors q x1 M K → w_X9_doors q x1 M Kz2 := by
  unfold w_X9_doors
  repeat' first | with_reducible exact fun h => h | with_reducible exact hK _ _ | with_reducible refine and_m ?_ | with_reducible refine ite_m ?_ ?_ | with_reducible refine mn_X9_isPerson  (fun _ _ => ?_) | with_reducible refine mn_X9_doors_14  (fun _ _ => ?_) _ _ _ _ _ | with_reducible refine all_m (fun _ => ?_) | with_reducible refine imp_m ?_
theorem mn_X9_firm_93 {q : Nat} {x1 : Int32} {x2 : Int32} {x3 : Int32} {x4 : Int32} {x6 : Int32} {s0 : Int32} {M : ap_Mem} {kL40 kL40z2 : Int32 → Int32 → Int32 → Int32 → Int32 → Int32 → ap_Mem → Prop} {K Kz2 : Int32 → ap_Mem → Prop} (hkL40 : ∀ u0 u1 u2 u3 u4 u5 u6, kL40 u0 u1 u2 u3 u4 u5 u6 → kL40z2 u0 u1 u2 u3 u4 u5 u6) (hK : ∀ u0 u1, K u0 u1 → Kz2 u0 u1) : w_X9_firm_93 kL40 q x1 x2 x3 x4 x6 s0 M K → w_X9_firm_93 kL40z2 q x1 x2 x3 x4 x6 s0 M Kz2 := by
  unfold w_X9_firm_93
  repeat' first | with_reducible exact fun h => h | with_reducible exact hkL40 _ _ _ _ _ _ _ | with_reducible exact hK _ _ | with_reducible refine and_m ?_ | with_reducible refine ite_m ?_ ?_ | with_reducible refine all_m (fun _ => ?_) | with_reducible refine imp_m ?_
theorem mn_X9_firm_78 {q : Nat} {x1 : Int32} {x2 : Int32} {x3 : Int32} {x5 : Int32} {x6 : Int32} {x7 : Int32} {s0 : Int32} {s1 : Int32} {M : ap_Mem} {kL40 kL40z2 : Int32 → Int32 → Int32 → Int32 → Int32 → Int32 → ap_Mem → Prop} {K Kz2 : Int32 → ap_Mem → Prop} (hkL40 : ∀ u0 u1 u2 u3 u4 u5 u6, kL40 u0 u1 u2 u3 u4 u5 u6 → kL40z2 u0 u1 u2 u3 u4 u5 u6) (hK : ∀ u0 u1, K u0 u1 → Kz2 u0 u1) : w_X9_firm_78 kL40 q x1 x2 x3 x5 x6 x7 s0 s1 M K → w_X9_firm_78 kL40z2 q x1 x2 x3 x5 x6 x7 s0 s1 M Kz2 := by
  unfold w_X9_firm_78
  repeat' first | with_reducible exact fun h => h | with_reducible exact hkL40 _ _ _ _ _ _ _ | with_reducible exact hK _ _ | with_reducible refine and_m ?_ | with_reducible refine ite_m ?_ ?_ | with_reducible refine mn_X9_firm_93  (fun _ _ _ _ _ _ _ => ?_) (fun _ _ => ?_) | with_reducible refine all_m (fun _ => ?_) | with_reducible refine imp_m ?_
theorem mn_X9_firm_40_s {q : Nat} {x1 : Int32} {x2 : Int32} {x3 : Int32} {x4 : Int32} {x5 : Int32} {x6 : Int32} {M : ap_Mem} {kL40 kL40z2 : Int32 → Int32 → Int32 → Int32 → Int32 → Int32 → ap_Mem → Prop} {K Kz2 : Int32 → ap_Mem → Prop} (hkL40 : ∀ u0 u1 u2 u3 u4 u5 u6, kL40 u0 u1 u2 u3 u4 u5 u6 → kL40z2 u0 u1 u2 u3 u4 u5 u6) (hK : ∀ u0 u1, K u0 u1 → Kz2 u0 u1) : w_X9_firm_40_s kL40 q x1 x2 x3 x4 x5 x6 M K → w_X9_firm_40_s kL40z2 q x1 x2 x3 x4 x5 x6 M Kz2 := by
  unfold w_X9_firm_40_s
  repeat' first | with_reducible exact fun h => h | with_reducible exact hkL40 _ _ _ _ _ _ _ | with_reducible exact hK _ _ | with_reducible refine and_m ?_ | with_reducible refine ite_m ?_ ?_ | with_reducible refine mn_X9_keeps  (fun _ => ?_) | with_reducible refine mn_X9_areAsSeen  (fun _ _ => ?_) | with_reducible refine mn_X9_firm_78  (fun _ _ _ _ _ _ _ => ?_) (fun _ _ => ?_) | with_reducible refine all_m (fun _ => ?_) | with_reducible refine imp_m ?_
theorem mn_X9_firm_40 {q : Nat} {K Kz2 : Int32 → ap_Mem → Prop} (hK : ∀ u0 u1, K u0 u1 → Kz2 u0 u1) : ∀ (n : Nat) (v0 : Int32) (v1 : Int32) (v2 : Int32) (v3 : Int32) (v4 : Int32) (v5 : Int32) (v6 : ap_Mem), w_X9_firm_40 q K n v0 v1 v2 v3 v4 v5 v6 → w_X9_firm_40 q Kz2 n v0 v1 v2 v3 v4 v5 v6 := by
  intro n
  induction n with
  | zero => exact fun _ _ _ _ _ _ _ h => h
  | succ n ih => exact fun _ _ _ _ _ _ _ => mn_X9_firm_40_s ih hK
theorem mn_X9_firm {q : Nat} {x1 : Int32} {x2 : Int32} {M : ap_Mem} {K Kz2 : Int32 → ap_Mem → Prop} (hK : ∀ u0 u1, K u0 u1 → Kz2 u0 u1) : w_X9_firm q x1 x2 M K → w_X9_firm q x1 x2 M Kz2 := by
  unfold w_X9_firm
  repeat' first | with_reducible exact fun h => h | with_reducible exact hK _ _ | with_reducible refine and_m ?_ | with_reducible refine ite_m ?_ ?_ | with_reducible refine mn_X9_isPerson  (fun _ _ => ?_) | with_reducible refine mn_X9_in  (fun _ _ => ?_) | with_reducible refine mn_X9_firm_40  (fun _ _ => ?_) _ _ _ _ _ _ _ _ | with_reducible refine all_m (fun _ => ?_) | with_reducible refine imp_m ?_
theorem mn_X9_sought_72 {q : Nat} {x2 : Int32} {s0 : Int32} {s1 : Int32} {M : ap_Mem} {kL4 kL4z2 : Int32 → Int32 → ap_Mem → Prop} {K Kz2 : Int32 → ap_Mem → Prop} (hkL4 : ∀ u0 u1 u2, kL4 u0 u1 u2 → kL4z2 u0 u1 u2) (hK : ∀ u0 u1, K u0 u1 → Kz2 u0 u1) : w_X9_sought_72 kL4 q x2 s0 s1 M K → w_X9_sought_72 kL4z2 q x2 s0 s1 M Kz2 := by
  unfold w_X9_sought_72
  repeat' first | with_reducible exact fun h => h | with_reducible exact hkL4 _ _ _ | with_reducible exact hK _ _ | with_reducible refine and_m ?_ | with_reducible refine ite_m ?_ ?_ | with_reducible refine all_m (fun _ => ?_) | with_reducible refine imp_m ?_
theorem mn_X9_sought_50 {q : Nat} {x1 : Int32} {x2 : Int32} {x3 : Int32} {s0 : Int32} {s1 : Int32} {M : ap_Mem} {kL21 kL21z2 : Int32 → Int32 → Int32 → ap_Mem → Prop} {K Kz2 : Int32 → ap_Mem → Prop} (hkL21 : ∀ u0 u1 u2 u3, kL21 u0 u1 u2 u3 → kL21z2 u0 u1 u2 u3) (hK : ∀ u0 u1, K u0 u1 → Kz2 u0 u1) : w_X9_sought_50 kL21 q x1 x2 x3 s0 s1 M K → w_X9_sought_50 kL21z2 q x1 x2 x3 s0 s1 M Kz2 := by
  unfold w_X9_sought_50
  repeat' first | with_reducible exact fun h => h | with_reducible exact hkL21 _ _ _ _ | with_reducible exact hK _ _ | with_reducible refine and_m ?_ | with_reducible refine ite_m ?_ ?_ | with_reducible refine all_m (fun _ => ?_) | with_reducible refine imp_m ?_
theorem mn_X9_sought_21_s {q : Nat} {x1 : Int32} {x2 : Int32} {x3 : Int32} {M : ap_Mem} {kL4 kL4z2 : Int32 → Int32 → ap_Mem → Prop} {kL21 kL21z2 : Int32 → Int32 → Int32 → ap_Mem → Prop} {K Kz2 : Int32 → ap_Mem → Prop} (hkL4 : ∀ u0 u1 u2, kL4 u0 u1 u2 → kL4z2 u0 u1 u2) (hkL21 : ∀ u0 u1 u2 u3, kL21 u0 u1 u2 u3 → kL21z2 u0 u1 u2 u3) (hK : ∀ u0 u1, K u0 u1 → Kz2 u0 u1) : w_X9_sought_21_s kL4 kL21 q x1 x2 x3 M K → w_X9_sought_21_s kL4z2 kL21z2 q x1 x2 x3 M Kz2 := by
  unfold w_X9_sought_21_s
  repeat' first | with_reducible exact fun h => h | with_reducible exact hkL4 _ _ _ | with_reducible exact hkL21 _ _ _ _ | with_reducible exact hK _ _ | with_reducible refine and_m ?_ | with_reducible refine ite_m ?_ ?_ | with_reducible refine mn_X9_areAsSeen  (fun _ _ => ?_) | with_reducible refine mn_X9_sought_72  (fun _ _ _ => ?_) (fun _ _ => ?_) | with_reducible refine mn_X9_sought_50  (fun _ _ _ _ => ?_) (fun _ _ => ?_) | with_reducible refine all_m (fun _ => ?_) | with_reducible refine imp_m ?_
theorem mn_X9_sought_21 {q : Nat} {kL4 kL4z2 : Int32 → Int32 → ap_Mem → Prop} {K Kz2 : Int32 → ap_Mem → Prop} (hkL4 : ∀ u0 u1 u2, kL4 u0 u1 u2 → kL4z2 u0 u1 u2) (hK : ∀ u0 u1, K u0 u1 → Kz2 u0 u1) : ∀ (n : Nat) (v0 : Int32) (v1 : Int32) (v2 : Int32) (v3 : ap_Mem), w_X9_sought_21 kL4 q K n v0 v1 v2 v3 → w_X9_sought_21 kL4z2 q Kz2 n v0 v1 v2 v3 := by
  intro n
  induction n with
  | zero => exact fun _ _ _ _ h => h
  | succ n ih => exact fun _ _ _ _ => mn_X9_sought_21_s hkL4 ih hK
theorem mn_X9_sought_4_s {q : Nat} {x1 : Int32} {x2 : Int32} {M : ap_Mem} {kL4 kL4z2 : Int32 → Int32 → ap_Mem → Prop} {K Kz2 : Int32 → ap_Mem → Prop} (hkL4 : ∀ u0 u1 u2, kL4 u0 u1 u2 → kL4z2 u0 u1 u2) (hK : ∀ u0 u1, K u0 u1 → Kz2 u0 u1) : w_X9_sought_4_s kL4 q x1 x2 M K → w_X9_sought_4_s kL4z2 q x1 x2 M Kz2 := by
  unfold w_X9_sought_4_s
  repeat' first | with_reducible exact fun h => h | with_reducible exact hkL4 _ _ _ | with_reducible exact hK _ _ | with_reducible refine and_m ?_ | with_reducible refine ite_m ?_ ?_ | with_reducible refine mn_X9_keeps  (fun _ => ?_) | with_reducible refine mn_X9_sought_21  (fun _ _ _ => ?_) (fun _ _ => ?_) _ _ _ _ _ | with_reducible refine all_m (fun _ => ?_) | with_reducible refine imp_m ?_
theorem mn_X9_sought_4 {q : Nat} {K Kz2 : Int32 → ap_Mem → Prop} (hK : ∀ u0 u1, K u0 u1 → Kz2 u0 u1) : ∀ (n : Nat) (v0 : Int32) (v1 : Int32) (v2 : ap_Mem), w_X9_sought_4 q K n v0 v1 v2 → w_X9_sought_4 q Kz2 n v0 v1 v2 := by
  intro n
  induction n with
  | zero => exact fun _ _ _ h => h
  | succ n ih => exact fun _ _ _ => mn_X9_sought_4_s ih hK
theorem mn_X9_sought {q : Nat} {M : ap_Mem} {K Kz2 : Int32 → ap_Mem → Prop} (hK : ∀ u0 u1, K u0 u1 → Kz2 u0 u1) : w_X9_sought q M K → w_X9_sought q M Kz2 := by
  unfold w_X9_sought
  repeat' first | with_reducible exact fun h => h | with_reducible exact hK _ _ | with_reducible refine and_m ?_ | with_reducible refine ite_m ?_ ?_ | with_reducible refine mn_X9_sought_4  (fun _ _ => ?_) _ _ _ _ | with_reducible refine all_m (fun _ => ?_) | with_reducible refine imp_m ?_
theorem mn_X9_lowest_17_s {x0 : Int64} {x2 : Int64} {x4 : Int32} {x5 : Int64} {x7 : Int64} {M : ap_Mem} {kL17 kL17z2 : Int64 → Int64 → Int32 → Int64 → Int64 → ap_Mem → Prop} {K Kz2 : Int64 → ap_Mem → Prop} (hkL17 : ∀ u0 u1 u2 u3 u4 u5, kL17 u0 u1 u2 u3 u4 u5 → kL17z2 u0 u1 u2 u3 u4 u5) (hK : ∀ u0 u1, K u0 u1 → Kz2 u0 u1) : w_X9_lowest_17_s kL17 x0 x2 x4 x5 x7 M K → w_X9_lowest_17_s kL17z2 x0 x2 x4 x5 x7 M Kz2 := by
  unfold w_X9_lowest_17_s
  repeat' first | with_reducible exact fun h => h | with_reducible exact hkL17 _ _ _ _ _ _ | with_reducible exact hK _ _ | with_reducible refine and_m ?_ | with_reducible refine ite_m ?_ ?_ | with_reducible refine all_m (fun _ => ?_) | with_reducible refine imp_m ?_
theorem mn_X9_lowest_17  {K Kz2 : Int64 → ap_Mem → Prop} (hK : ∀ u0 u1, K u0 u1 → Kz2 u0 u1) : ∀ (n : Nat) (v0 : Int64) (v1 : Int64) (v2 : Int32) (v3 : Int64) (v4 : Int64) (v5 : ap_Mem), w_X9_lowest_17 K n v0 v1 v2 v3 v4 v5 → w_X9_lowest_17 Kz2 n v0 v1 v2 v3 v4 v5 := by
  intro n
  induction n with
  | zero => exact fun _ _ _ _ _ _ h => h
  | succ n ih => exact fun _ _ _ _ _ _ => mn_X9_lowest_17_s ih hK
theorem mn_X9_lowest_12 {x0 : Int64} {x2 : Int64} {x4 : Int32} {s0 : Int64} {M : ap_Mem} {K Kz2 : Int64 → ap_Mem → Prop} (hK : ∀ u0 u1, K u0 u1 → Kz2 u0 u1) : w_X9_lowest_12 x0 x2 x4 s0 M K → w_X9_lowest_12 x0 x2 x4 s0 M Kz2 := by
  unfold w_X9_lowest_12
  repeat' first | with_reducible exact fun h => h | with_reducible exact hK _ _ | with_reducible refine and_m ?_ | with_reducible refine ite_m ?_ ?_ | with_reducible refine mn_X9_lowest_17  (fun _ _ => ?_) _ _ _ _ _ _ _ | with_reducible refine all_m (fun _ => ?_) | with_reducible refine imp_m ?_
theorem mn_X9_lowest {x0 : Int64} {x2 : Int64} {x4 : Int32} {M : ap_Mem} {K Kz2 : Int64 → ap_Mem → Prop} (hK : ∀ u0 u1, K u0 u1 → Kz2 u0 u1) : w_X9_lowest x0 x2 x4 M K → w_X9_lowest x0 x2 x4 M Kz2 := by
  unfold w_X9_lowest
  repeat' first | with_reducible exact fun h => h | with_reducible exact hK _ _ | with_reducible refine and_m ?_ | with_reducible refine ite_m ?_ ?_ | with_reducible refine mn_X9_lowest_12  (fun _ _ => ?_) | with_reducible refine all_m (fun _ => ?_) | with_reducible refine imp_m ?_
theorem mn_X9_odds_95 {q : Nat} {x1 : Int32} {x2 : Int32} {x3 : Int32} {x6 : Int32} {s0 : Int64} {s1 : Int64} {M : ap_Mem} {kL46 kL46z2 : Int32 → Int32 → Int32 → Int64 → Int32 → ap_Mem → Prop} {K Kz2 : Int64 → ap_Mem → Prop} (hkL46 : ∀ u0 u1 u2 u3 u4 u5, kL46 u0 u1 u2 u3 u4 u5 → kL46z2 u0 u1 u2 u3 u4 u5) (hK : ∀ u0 u1, K u0 u1 → Kz2 u0 u1) : w_X9_odds_95 kL46 q x1 x2 x3 x6 s0 s1 M K → w_X9_odds_95 kL46z2 q x1 x2 x3 x6 s0 s1 M Kz2 := by
  unfold w_X9_odds_95
  repeat' first | with_reducible exact fun h => h | with_reducible exact hkL46 _ _ _ _ _ _ | with_reducible exact hK _ _ | with_reducible refine and_m ?_ | with_reducible refine ite_m ?_ ?_ | with_reducible refine mn_X9_goesBack  (fun _ => ?_) | with_reducible refine all_m (fun _ => ?_) | with_reducible refine imp_m ?_
theorem mn_X9_odds_46_s {q : Nat} {x1 : Int32} {x2 : Int32} {x3 : Int32} {x4 : Int64} {x6 : Int32} {M : ap_Mem} {kL46 kL46z2 : Int32 → Int32 → Int32 → Int64 → Int32 → ap_Mem → Prop} {K Kz2 : Int64 → ap_Mem → Prop} (hkL46 : ∀ u0 u1 u2 u3 u4 u5, kL46 u0 u1 u2 u3 u4 u5 → kL46z2 u0 u1 u2 u3 u4 u5) (hK : ∀ u0 u1, K u0 u1 → Kz2 u0 u1) : w_X9_odds_46_s kL46 q x1 x2 x3 x4 x6 M K → w_X9_odds_46_s kL46z2 q x1 x2 x3 x4 x6 M Kz2 := by
  unfold w_X9_odds_46_s
  repeat' first | with_reducible exact fun h => h | with_reducible exact hkL46 _ _ _ _ _ _ | with_reducible exact hK _ _ | with_reducible refine and_m ?_ | with_reducible refine ite_m ?_ ?_ | with_reducible refine mn_X9_lowest  (fun _ _ => ?_) | with_reducible refine mn_X9_keeps  (fun _ => ?_) | with_reducible refine mn_X9_goesOn  (fun _ => ?_) | with_reducible refine mn_X9_odds_95  (fun _ _ _ _ _ _ => ?_) (fun _ _ => ?_) | with_reducible refine all_m (fun _ => ?_) | with_reducible refine imp_m ?_
theorem mn_X9_odds_46 {q : Nat} {K Kz2 : Int64 → ap_Mem → Prop} (hK : ∀ u0 u1, K u0 u1 → Kz2 u0 u1) : ∀ (n : Nat) (v0 : Int32) (v1 : Int32) (v2 : Int32) (v3 : Int64) (v4 : Int32) (v5 : ap_Mem), w_X9_odds_46 q K n v0 v1 v2 v3 v4 v5 → w_X9_odds_46 q Kz2 n v0 v1 v2 v3 v4 v5 := by
  intro n
  induction n with
  | zero => exact fun _ _ _ _ _ _ h => h
  | succ n ih => exact fun _ _ _ _ _ _ => mn_X9_odds_46_s ih hK
theorem mn_X9_odds {q : Nat} {x1 : Int32} {x2 : Int32} {x3 : Int32} {M : ap_Mem} {K Kz2 : Int64 → ap_Mem → Prop} (hK : ∀ u0 u1, K u0 u1 → Kz2 u0 u1) : w_X9_odds q x1 x2 x3 M K → w_X9_odds q x1 x2 x3 M Kz2 := by
  unfold w_X9_odds
  repeat' first | with_reducible exact fun h => h | with_reducible exact hK _ _ | with_reducible refine and_m ?_ | with_reducible refine ite_m ?_ ?_ | with_reducible refine mn_X9_isCell  (fun _ _ => ?_) | with_reducible refine mn_X9_in  (fun _ _ => ?_) | with_reducible refine mn_X9_odds_46  (fun _ _ => ?_) _ _ _ _ _ _ _ | with_reducible refine all_m (fun _ => ?_) | with_reducible refine imp_m ?_
theorem mn_X9_mean_36 {q : Nat} {x1 : Int32} {x2 : Int32} {x4 : Int32} {s0 : Int32} {s1 : Int32} {M : ap_Mem} {kL5 kL5z2 : Int32 → Int32 → Int32 → Int32 → ap_Mem → Prop} {K Kz2 : Int64 → ap_Mem → Prop} (hkL5 : ∀ u0 u1 u2 u3 u4, kL5 u0 u1 u2 u3 u4 → kL5z2 u0 u1 u2 u3 u4) (hK : ∀ u0 u1, K u0 u1 → Kz2 u0 u1) : w_X9_mean_36 kL5 q x1 x2 x4 s0 s1 M K → w_X9_mean_36 kL5z2 q x1 x2 x4 s0 s1 M Kz2 := by
  unfold w_X9_mean_36
  repeat' first | with_reducible exact fun h => h | with_reducible exact hkL5 _ _ _ _ _ | with_reducible exact hK _ _ | with_reducible refine and_m ?_ | with_reducible refine ite_m ?_ ?_ | with_reducible refine all_m (fun _ => ?_) | with_reducible refine imp_m ?_
theorem mn_X9_mean_137 {q : Nat} {x2 : Int32} {x3 : Int32} {x6 : Int32} {s0 : Int64} {s1 : Int64} {M : ap_Mem} {kL86 kL86z2 : Int32 → Int32 → Int64 → Int32 → ap_Mem → Prop} {K Kz2 : Int64 → ap_Mem → Prop} (hkL86 : ∀ u0 u1 u2 u3 u4, kL86 u0 u1 u2 u3 u4 → kL86z2 u0 u1 u2 u3 u4) (hK : ∀ u0 u1, K u0 u1 → Kz2 u0 u1) : w_X9_mean_137 kL86 q x2 x3 x6 s0 s1 M K → w_X9_mean_137 kL86z2 q x2 x3 x6 s0 s1 M Kz2 := by
  unfold w_X9_mean_137
  repeat' first | with_reducible exact fun h => h | with_reducible exact hkL86 _ _ _ _ _ | with_reducible exact hK _ _ | with_reducible refine and_m ?_ | with_reducible refine ite_m ?_ ?_ | with_reducible refine all_m (fun _ => ?_) | with_reducible refine imp_m ?_
theorem mn_X9_mean_86_s {q : Nat} {x2 : Int32} {x3 : Int32} {x4 : Int64} {x6 : Int32} {M : ap_Mem} {kL86 kL86z2 : Int32 → Int32 → Int64 → Int32 → ap_Mem → Prop} {K Kz2 : Int64 → ap_Mem → Prop} (hkL86 : ∀ u0 u1 u2 u3 u4, kL86 u0 u1 u2 u3 u4 → kL86z2 u0 u1 u2 u3 u4) (hK : ∀ u0 u1, K u0 u1 → Kz2 u0 u1) : w_X9_mean_86_s kL86 q x2 x3 x4 x6 M K → w_X9_mean_86_s kL86z2 q x2 x3 x4 x6 M Kz2 := by
  unfold w_X9_mean_86_s
  repeat' first | with_reducible exact fun h => h | with_reducible exact hkL86 _ _ _ _ _ | with_reducible exact hK _ _ | with_reducible refine and_m ?_ | with_reducible refine ite_m ?_ ?_ | with_reducible refine mn_X9_goesBack  (fun _ => ?_) | with_reducible refine mn_X9_lowest  (fun _ _ => ?_) | with_reducible refine mn_X9_far  (fun _ _ => ?_) | with_reducible refine mn_X9_mean_137  (fun _ _ _ _ _ => ?_) (fun _ _ => ?_) | with_reducible refine all_m (fun _ => ?_) | with_reducible refine imp_m ?_
theorem mn_X9_mean_86 {q : Nat} {K Kz2 : Int64 → ap_Mem → Prop} (hK : ∀ u0 u1, K u0 u1 → Kz2 u0 u1) : ∀ (n : Nat) (v0 : Int32) (v1 : Int32) (v2 : Int64) (v3 : Int32) (v4 : ap_Mem), w_X9_mean_86 q K n v0 v1 v2 v3 v4 → w_X9_mean_86 q Kz2 n v0 v1 v2 v3 v4 := by
  intro n
  induction n with
  | zero => exact fun _ _ _ _ _ h => h
  | succ n ih => exact fun _ _ _ _ _ => mn_X9_mean_86_s ih hK
theorem mn_X9_mean_5_s {q : Nat} {x1 : Int32} {x2 : Int32} {x3 : Int32} {x4 : Int32} {M : ap_Mem} {kL5 kL5z2 : Int32 → Int32 → Int32 → Int32 → ap_Mem → Prop} {K Kz2 : Int64 → ap_Mem → Prop} (hkL5 : ∀ u0 u1 u2 u3 u4, kL5 u0 u1 u2 u3 u4 → kL5z2 u0 u1 u2 u3 u4) (hK : ∀ u0 u1, K u0 u1 → Kz2 u0 u1) : w_X9_mean_5_s kL5 q x1 x2 x3 x4 M K → w_X9_mean_5_s kL5z2 q x1 x2 x3 x4 M Kz2 := by
  unfold w_X9_mean_5_s
  repeat' first | with_reducible exact fun h => h | with_reducible exact hkL5 _ _ _ _ _ | with_reducible exact hK _ _ | with_reducible refine and_m ?_ | with_reducible refine ite_m ?_ ?_ | with_reducible refine mn_X9_in  (fun _ _ => ?_) | with_reducible refine mn_X9_keeps  (fun _ => ?_) | with_reducible refine mn_X9_goesOn  (fun _ => ?_) | with_reducible refine mn_X9_mean_86  (fun _ _ => ?_) _ _ _ _ _ _ | with_reducible refine mn_X9_mean_36  (fun _ _ _ _ _ => ?_) (fun _ _ => ?_) | with_reducible refine all_m (fun _ => ?_) | with_reducible refine imp_m ?_
theorem mn_X9_mean_5 {q : Nat} {K Kz2 : Int64 → ap_Mem → Prop} (hK : ∀ u0 u1, K u0 u1 → Kz2 u0 u1) : ∀ (n : Nat) (v0 : Int32) (v1 : Int32) (v2 : Int32) (v3 : Int32) (v4 : ap_Mem), w_X9_mean_5 q K n v0 v1 v2 v3 v4 → w_X9_mean_5 q Kz2 n v0 v1 v2 v3 v4 := by
  intro n
  induction n with
  | zero => exact fun _ _ _ _ _ h => h
  | succ n ih => exact fun _ _ _ _ _ => mn_X9_mean_5_s ih hK
theorem mn_X9_mean {q : Nat} {x1 : Int32} {x2 : Int32} {M : ap_Mem} {K Kz2 : Int64 → ap_Mem → Prop} (hK : ∀ u0 u1, K u0 u1 → Kz2 u0 u1) : w_X9_mean q x1 x2 M K → w_X9_mean q x1 x2 M Kz2 := by
  unfold w_X9_mean
  repeat' first | with_reducible exact fun h => h | with_reducible exact hK _ _ | with_reducible refine and_m ?_ | with_reducible refine ite_m ?_ ?_ | with_reducible refine mn_X9_mean_5  (fun _ _ => ?_) _ _ _ _ _ _ | with_reducible refine all_m (fun _ => ?_) | with_reducible refine imp_m ?_
theorem mn_X9_plan_55 {q : Nat} {x1 : Int32} {x2 : Int32} {M : ap_Mem} {K Kz2 : Int32 → ap_Mem → Prop} (hK : ∀ u0 u1, K u0 u1 → Kz2 u0 u1) : w_X9_plan_55 q x1 x2 M K → w_X9_plan_55 q x1 x2 M Kz2 := by
  unfold w_X9_plan_55
  repeat' first | with_reducible exact fun h => h | with_reducible exact hK _ _ | with_reducible refine and_m ?_ | with_reducible refine ite_m ?_ ?_ | with_reducible refine all_m (fun _ => ?_) | with_reducible refine imp_m ?_
theorem mn_X9_plan_41 {q : Nat} {x1 : Int32} {x2 : Int32} {M : ap_Mem} {K Kz2 : Int32 → ap_Mem → Prop} (hK : ∀ u0 u1, K u0 u1 → Kz2 u0 u1) : w_X9_plan_41 q x1 x2 M K → w_X9_plan_41 q x1 x2 M Kz2 := by
  unfold w_X9_plan_41
  repeat' first | with_reducible exact fun h => h | with_reducible exact hK _ _ | with_reducible refine and_m ?_ | with_reducible refine ite_m ?_ ?_ | with_reducible refine mn_X9_isCell  (fun _ _ => ?_) | with_reducible refine mn_X9_plan_55  (fun _ _ => ?_) | with_reducible refine all_m (fun _ => ?_) | with_reducible refine imp_m ?_
theorem mn_X9_plan {q : Nat} {x1 : Int32} {x2 : Int32} {M : ap_Mem} {K Kz2 : Int32 → ap_Mem → Prop} (hK : ∀ u0 u1, K u0 u1 → Kz2 u0 u1) : w_X9_plan q x1 x2 M K → w_X9_plan q x1 x2 M Kz2 := by
  unfold w_X9_plan
  repeat' first | with_reducible exact fun h => h | with_reducible exact hK _ _ | with_reducible refine and_m ?_ | with_reducible refine ite_m ?_ ?_ | with_reducible refine mn_X9_in  (fun _ _ => ?_) | with_reducible refine mn_X9_plan_41  (fun _ _ => ?_) | with_reducible refine mn_X9_isPerson  (fun _ _ => ?_) | with_reducible refine all_m (fun _ => ?_) | with_reducible refine imp_m ?_
theorem mn_X9_goesBy_44 {q : Nat} {s0 : Int32} {s1 : Int32} {M : ap_Mem} {K Kz2 : ap_Mem → Prop} (hK : ∀ u0, K u0 → Kz2 u0) : w_X9_goesBy_44 q s0 s1 M K → w_X9_goesBy_44 q s0 s1 M Kz2 := by
  unfold w_X9_goesBy_44
  repeat' first | with_reducible exact fun h => h | with_reducible exact hK _ | with_reducible refine and_m ?_ | with_reducible refine ite_m ?_ ?_ | with_reducible refine all_m (fun _ => ?_) | with_reducible refine imp_m ?_
theorem mn_X9_goesBy {q : Nat} {x1 : Int32} {x2 : Int32} {M : ap_Mem} {K Kz2 : ap_Mem → Prop} (hK : ∀ u0, K u0 → Kz2 u0) : w_X9_goesBy q x1 x2 M K → w_X9_goesBy q x1 x2 M Kz2 := by
  unfold w_X9_goesBy
  repeat' first | with_reducible exact fun h => h | with_reducible exact hK _ | with_reducible refine and_m ?_ | with_reducible refine ite_m ?_ ?_ | with_reducible refine mn_X9_goes  (fun _ => ?_) | with_reducible refine mn_X9_goesBy_44  (fun _ => ?_) | with_reducible refine all_m (fun _ => ?_) | with_reducible refine imp_m ?_
theorem mn_X9_done_73 {q : Nat} {s0 : Int32} {M : ap_Mem} {K Kz2 : Int32 → ap_Mem → Prop} (hK : ∀ u0 u1, K u0 u1 → Kz2 u0 u1) : w_X9_done_73 q s0 M K → w_X9_done_73 q s0 M Kz2 := by
  unfold w_X9_done_73
  repeat' first | with_reducible exact fun h => h | with_reducible exact hK _ _ | with_reducible refine and_m ?_ | with_reducible refine ite_m ?_ ?_ | with_reducible refine mn_X9_goesBack  (fun _ => ?_) | with_reducible refine all_m (fun _ => ?_) | with_reducible refine imp_m ?_
theorem mn_X9_done_17_s {q : Nat} {x1 : Int32} {x2 : Int32} {M : ap_Mem} {kL17 kL17z2 : Int32 → Int32 → ap_Mem → Prop} {K Kz2 : Int32 → ap_Mem → Prop} (hkL17 : ∀ u0 u1 u2, kL17 u0 u1 u2 → kL17z2 u0 u1 u2) (hK : ∀ u0 u1, K u0 u1 → Kz2 u0 u1) : w_X9_done_17_s kL17 q x1 x2 M K → w_X9_done_17_s kL17z2 q x1 x2 M Kz2 := by
  unfold w_X9_done_17_s
  repeat' first | with_reducible exact fun h => h | with_reducible exact hkL17 _ _ _ | with_reducible exact hK _ _ | with_reducible refine and_m ?_ | with_reducible refine ite_m ?_ ?_ | with_reducible refine mn_X9_done_73  (fun _ _ => ?_) | with_reducible refine mn_X9_manyLain  (fun _ _ => ?_) | with_reducible refine mn_X9_goesBy  (fun _ => ?_) | with_reducible refine all_m (fun _ => ?_) | with_reducible refine imp_m ?_
theorem mn_X9_done_17 {q : Nat} {K Kz2 : Int32 → ap_Mem → Prop} (hK : ∀ u0 u1, K u0 u1 → Kz2 u0 u1) : ∀ (n : Nat) (v0 : Int32) (v1 : Int32) (v2 : ap_Mem), w_X9_done_17 q K n v0 v1 v2 → w_X9_done_17 q Kz2 n v0 v1 v2 := by
  intro n
  induction n with
  | zero => exact fun _ _ _ h => h
  | succ n ih => exact fun _ _ _ => mn_X9_done_17_s ih hK
theorem mn_X9_done {q : Nat} {x1 : Int32} {M : ap_Mem} {K Kz2 : Int32 → ap_Mem → Prop} (hK : ∀ u0 u1, K u0 u1 → Kz2 u0 u1) : w_X9_done q x1 M K → w_X9_done q x1 M Kz2 := by
  unfold w_X9_done
  repeat' first | with_reducible exact fun h => h | with_reducible exact hK _ _ | with_reducible refine and_m ?_ | with_reducible refine ite_m ?_ ?_ | with_reducible refine mn_X9_in  (fun _ _ => ?_) | with_reducible refine mn_X9_keeps  (fun _ => ?_) | with_reducible refine mn_X9_done_17  (fun _ _ => ?_) _ _ _ _ | with_reducible refine all_m (fun _ => ?_) | with_reducible refine imp_m ?_
theorem mn_X9_book {q : Nat} {x1 : Int32} {x2 : Int32} {M : ap_Mem} {K Kz2 : Int32 → ap_Mem → Prop} (hK : ∀ u0 u1, K u0 u1 → Kz2 u0 u1) : w_X9_book q x1 x2 M K → w_X9_book q x1 x2 M Kz2 := by
  unfold w_X9_book
  repeat' first | with_reducible exact fun h => h | with_reducible exact hK _ _ | with_reducible refine and_m ?_ | with_reducible refine ite_m ?_ ?_ | with_reducible refine mn_X9_isCell  (fun _ _ => ?_) | with_reducible refine mn_X9_in  (fun _ _ => ?_) | with_reducible refine all_m (fun _ => ?_) | with_reducible refine imp_m ?_
theorem mn_X9_looked_2_s {q : Nat} {x1 : Int32} {M : ap_Mem} {kL2 kL2z2 : Int32 → ap_Mem → Prop} {K Kz2 : Int32 → ap_Mem → Prop} (hkL2 : ∀ u0 u1, kL2 u0 u1 → kL2z2 u0 u1) (hK : ∀ u0 u1, K u0 u1 → Kz2 u0 u1) : w_X9_looked_2_s kL2 q x1 M K → w_X9_looked_2_s kL2z2 q x1 M Kz2 := by
  unfold w_X9_looked_2_s
  repeat' first | with_reducible exact fun h => h | with_reducible exact hkL2 _ _ | with_reducible exact hK _ _ | with_reducible refine and_m ?_ | with_reducible refine ite_m ?_ ?_ | with_reducible refine all_m (fun _ => ?_) | with_reducible refine imp_m ?_
theorem mn_X9_looked_2 {q : Nat} {K Kz2 : Int32 → ap_Mem → Prop} (hK : ∀ u0 u1, K u0 u1 → Kz2 u0 u1) : ∀ (n : Nat) (v0 : Int32) (v1 : ap_Mem), w_X9_looked_2 q K n v0 v1 → w_X9_looked_2 q Kz2 n v0 v1 := by
  intro n
  induction n with
  | zero => exact fun _ _ h => h
  | succ n ih => exact fun _ _ => mn_X9_looked_2_s ih hK
theorem mn_X9_looked {q : Nat} {M : ap_Mem} {K Kz2 : Int32 → ap_Mem → Prop} (hK : ∀ u0 u1, K u0 u1 → Kz2 u0 u1) : w_X9_looked q M K → w_X9_looked q M Kz2 := by
  unfold w_X9_looked
  repeat' first | with_reducible exact fun h => h | with_reducible exact hK _ _ | with_reducible refine and_m ?_ | with_reducible refine ite_m ?_ ?_ | with_reducible refine mn_X9_looked_2  (fun _ _ => ?_) _ _ _ | with_reducible refine all_m (fun _ => ?_) | with_reducible refine imp_m ?_
theorem mn_X9_ranBody_19 {q : Nat} {M : ap_Mem} {K Kz2 : ap_Mem → Prop} (hK : ∀ u0, K u0 → Kz2 u0) : w_X9_ranBody_19 q M K → w_X9_ranBody_19 q M Kz2 := by
  unfold w_X9_ranBody_19
  repeat' first | with_reducible exact fun h => h | with_reducible exact hK _ | with_reducible refine and_m ?_ | with_reducible refine ite_m ?_ ?_ | with_reducible refine all_m (fun _ => ?_) | with_reducible refine imp_m ?_
theorem mn_X9_ranBody {q : Nat} {x1 : Int32} {M : ap_Mem} {K Kz2 : ap_Mem → Prop} (hK : ∀ u0, K u0 → Kz2 u0) : w_X9_ranBody q x1 M K → w_X9_ranBody q x1 M Kz2 := by
  unfold w_X9_ranBody
  repeat' first | with_reducible exact fun h => h | with_reducible exact hK _ | with_reducible refine and_m ?_ | with_reducible refine ite_m ?_ ?_ | with_reducible refine mn_X9_ranBody_19  (fun _ => ?_) | with_reducible refine all_m (fun _ => ?_) | with_reducible refine imp_m ?_
theorem mn_X9_isUnder {x0 : Int32} {x1 : Int32} {M : ap_Mem} {K Kz2 : Int32 → ap_Mem → Prop} (hK : ∀ u0 u1, K u0 u1 → Kz2 u0 u1) : w_X9_isUnder x0 x1 M K → w_X9_isUnder x0 x1 M Kz2 := by
  unfold w_X9_isUnder
  repeat' first | with_reducible exact fun h => h | with_reducible exact hK _ _ | with_reducible refine and_m ?_ | with_reducible refine ite_m ?_ ?_ | with_reducible refine all_m (fun _ => ?_) | with_reducible refine imp_m ?_
theorem mn_X9_plainStands {q : Nat} {x1 : Int32} {M : ap_Mem} {K Kz2 : Int32 → ap_Mem → Prop} (hK : ∀ u0 u1, K u0 u1 → Kz2 u0 u1) : w_X9_plainStands q x1 M K → w_X9_plainStands q x1 M Kz2 := by
  unfold w_X9_plainStands
  repeat' first | with_reducible exact fun h => h | with_reducible exact hK _ _ | with_reducible refine and_m ?_ | with_reducible refine ite_m ?_ ?_ | with_reducible refine mn_X9_ranBody  (fun _ => ?_) | with_reducible refine all_m (fun _ => ?_) | with_reducible refine imp_m ?_
theorem mn_X9_standsActs {q : Nat} {x1 : Int32} {M : ap_Mem} {K Kz2 : Int32 → ap_Mem → Prop} (hK : ∀ u0 u1, K u0 u1 → Kz2 u0 u1) : w_X9_standsActs q x1 M K → w_X9_standsActs q x1 M Kz2 := by
  unfold w_X9_standsActs
  repeat' first | with_reducible exact fun h => h | with_reducible exact hK _ _ | with_reducible refine and_m ?_ | with_reducible refine ite_m ?_ ?_ | with_reducible refine mn_X9_isUnder  (fun _ _ => ?_) | with_reducible refine mn_X9_ranBody  (fun _ => ?_) | with_reducible refine mn_X9_plainStands  (fun _ _ => ?_) | with_reducible refine all_m (fun _ => ?_) | with_reducible refine imp_m ?_
theorem mn_X9_plainLooks {q : Nat} {x1 : Int32} {M : ap_Mem} {K Kz2 : Int32 → ap_Mem → Prop} (hK : ∀ u0 u1, K u0 u1 → Kz2 u0 u1) : w_X9_plainLooks q x1 M K → w_X9_plainLooks q x1 M Kz2 := by
  unfold w_X9_plainLooks
  repeat' first | with_reducible exact fun h => h | with_reducible exact hK _ _ | with_reducible refine and_m ?_ | with_reducible refine ite_m ?_ ?_ | with_reducible refine mn_X9_ranBody  (fun _ => ?_) | with_reducible refine mn_X9_standsActs  (fun _ _ => ?_) | with_reducible refine all_m (fun _ => ?_) | with_reducible refine imp_m ?_
theorem mn_X9_looksActs {q : Nat} {x1 : Int32} {M : ap_Mem} {K Kz2 : Int32 → ap_Mem → Prop} (hK : ∀ u0 u1, K u0 u1 → Kz2 u0 u1) : w_X9_looksActs q x1 M K → w_X9_looksActs q x1 M Kz2 := by
  unfold w_X9_looksActs
  repeat' first | with_reducible exact fun h => h | with_reducible exact hK _ _ | with_reducible refine and_m ?_ | with_reducible refine ite_m ?_ ?_ | with_reducible refine mn_X9_isUnder  (fun _ _ => ?_) | with_reducible refine mn_X9_ranBody  (fun _ => ?_) | with_reducible refine mn_X9_plainLooks  (fun _ _ => ?_) | with_reducible refine all_m (fun _ => ?_) | with_reducible refine imp_m ?_
theorem mn_X9_plainTelling {q : Nat} {x1 : Int32} {M : ap_Mem} {K Kz2 : Int32 → ap_Mem → Prop} (hK : ∀ u0 u1, K u0 u1 → Kz2 u0 u1) : w_X9_plainTelling q x1 M K → w_X9_plainTelling q x1 M Kz2 := by
  unfold w_X9_plainTelling
  repeat' first | with_reducible exact fun h => h | with_reducible exact hK _ _ | with_reducible refine and_m ?_ | with_reducible refine ite_m ?_ ?_ | with_reducible refine mn_X9_ranBody  (fun _ => ?_) | with_reducible refine mn_X9_looksActs  (fun _ _ => ?_) | with_reducible refine all_m (fun _ => ?_) | with_reducible refine imp_m ?_
theorem mn_X9_tellsActs {q : Nat} {x1 : Int32} {M : ap_Mem} {K Kz2 : Int32 → ap_Mem → Prop} (hK : ∀ u0 u1, K u0 u1 → Kz2 u0 u1) : w_X9_tellsActs q x1 M K → w_X9_tellsActs q x1 M Kz2 := by
  unfold w_X9_tellsActs
  repeat' first | with_reducible exact fun h => h | with_reducible exact hK _ _ | with_reducible refine and_m ?_ | with_reducible refine ite_m ?_ ?_ | with_reducible refine mn_X9_isUnder  (fun _ _ => ?_) | with_reducible refine mn_X9_ranBody  (fun _ => ?_) | with_reducible refine mn_X9_plainTelling  (fun _ _ => ?_) | with_reducible refine mn_X9_standsActs  (fun _ _ => ?_) | with_reducible refine all_m (fun _ => ?_) | with_reducible refine imp_m ?_
theorem mn_X9_act {q : Nat} {x1 : Int32} {x2 : Int32} {x3 : Int32} {M : ap_Mem} {K Kz2 : Int32 → ap_Mem → Prop} (hK : ∀ u0 u1, K u0 u1 → Kz2 u0 u1) : w_X9_act q x1 x2 x3 M K → w_X9_act q x1 x2 x3 M Kz2 := by
  unfold w_X9_act
  repeat' first | with_reducible exact fun h => h | with_reducible exact hK _ _ | with_reducible refine and_m ?_ | with_reducible refine ite_m ?_ ?_ | with_reducible refine mn_X9_isPerson  (fun _ _ => ?_) | with_reducible refine mn_X9_in  (fun _ _ => ?_) | with_reducible refine mn_X9_standsActs  (fun _ _ => ?_) | with_reducible refine mn_X9_looksActs  (fun _ _ => ?_) | with_reducible refine mn_X9_tellsActs  (fun _ _ => ?_) | with_reducible refine all_m (fun _ => ?_) | with_reducible refine imp_m ?_
theorem mn_X9_trace_20 {q : Nat} {x1 : Int32} {s0 : Int32} {s1 : Int32} {s2 : Int32} {M : ap_Mem} {K Kz2 : Int32 → ap_Mem → Prop} (hK : ∀ u0 u1, K u0 u1 → Kz2 u0 u1) : w_X9_trace_20 q x1 s0 s1 s2 M K → w_X9_trace_20 q x1 s0 s1 s2 M Kz2 := by
  unfold w_X9_trace_20
  repeat' first | with_reducible exact fun h => h | with_reducible exact hK _ _ | with_reducible refine and_m ?_ | with_reducible refine ite_m ?_ ?_ | with_reducible refine mn_X9_in  (fun _ _ => ?_) | with_reducible refine all_m (fun _ => ?_) | with_reducible refine imp_m ?_
theorem mn_X9_trace {q : Nat} {x1 : Int32} {M : ap_Mem} {K Kz2 : Int32 → ap_Mem → Prop} (hK : ∀ u0 u1, K u0 u1 → Kz2 u0 u1) : w_X9_trace q x1 M K → w_X9_trace q x1 M Kz2 := by
  unfold w_X9_trace
  repeat' first | with_reducible exact fun h => h | with_reducible exact hK _ _ | with_reducible refine and_m ?_ | with_reducible refine ite_m ?_ ?_ | with_reducible refine mn_X9_trace_20  (fun _ _ => ?_) | with_reducible refine all_m (fun _ => ?_) | with_reducible refine imp_m ?_
theorem mn_X9_as {q : Nat} {x1 : Int32} {x2 : Int32} {M : ap_Mem} {K Kz2 : Int32 → ap_Mem → Prop} (hK : ∀ u0 u1, K u0 u1 → Kz2 u0 u1) : w_X9_as q x1 x2 M K → w_X9_as q x1 x2 M Kz2 := by
  unfold w_X9_as
  repeat' first | with_reducible exact fun h => h | with_reducible exact hK _ _ | with_reducible refine and_m ?_ | with_reducible refine ite_m ?_ ?_ | with_reducible refine mn_X9_isPerson  (fun _ _ => ?_) | with_reducible refine mn_X9_in  (fun _ _ => ?_) | with_reducible refine mn_X9_isUnder  (fun _ _ => ?_) | with_reducible refine all_m (fun _ => ?_) | with_reducible refine imp_m ?_
theorem mn_X9_image_2_s {q : Nat} {x1 : Int32} {M : ap_Mem} {kL2 kL2z2 : Int32 → ap_Mem → Prop} {K Kz2 : Int32 → ap_Mem → Prop} (hkL2 : ∀ u0 u1, kL2 u0 u1 → kL2z2 u0 u1) (hK : ∀ u0 u1, K u0 u1 → Kz2 u0 u1) : w_X9_image_2_s kL2 q x1 M K → w_X9_image_2_s kL2z2 q x1 M Kz2 := by
  unfold w_X9_image_2_s
  repeat' first | with_reducible exact fun h => h | with_reducible exact hkL2 _ _ | with_reducible exact hK _ _ | with_reducible refine and_m ?_ | with_reducible refine ite_m ?_ ?_ | with_reducible refine all_m (fun _ => ?_) | with_reducible refine imp_m ?_
theorem mn_X9_image_2 {q : Nat} {K Kz2 : Int32 → ap_Mem → Prop} (hK : ∀ u0 u1, K u0 u1 → Kz2 u0 u1) : ∀ (n : Nat) (v0 : Int32) (v1 : ap_Mem), w_X9_image_2 q K n v0 v1 → w_X9_image_2 q Kz2 n v0 v1 := by
  intro n
  induction n with
  | zero => exact fun _ _ h => h
  | succ n ih => exact fun _ _ => mn_X9_image_2_s ih hK
theorem mn_X9_image {q : Nat} {M : ap_Mem} {K Kz2 : Int32 → ap_Mem → Prop} (hK : ∀ u0 u1, K u0 u1 → Kz2 u0 u1) : w_X9_image q M K → w_X9_image q M Kz2 := by
  unfold w_X9_image
  repeat' first | with_reducible exact fun h => h | with_reducible exact hK _ _ | with_reducible refine and_m ?_ | with_reducible refine ite_m ?_ ?_ | with_reducible refine mn_X9_image_2  (fun _ _ => ?_) _ _ _ | with_reducible refine all_m (fun _ => ?_) | with_reducible refine imp_m ?_
theorem mn_X9_undo_12_s {q : Nat} {x1 : Int32} {M : ap_Mem} {kL12 kL12z2 : Int32 → ap_Mem → Prop} {K Kz2 : Int32 → ap_Mem → Prop} (hkL12 : ∀ u0 u1, kL12 u0 u1 → kL12z2 u0 u1) (hK : ∀ u0 u1, K u0 u1 → Kz2 u0 u1) : w_X9_undo_12_s kL12 q x1 M K → w_X9_undo_12_s kL12z2 q x1 M Kz2 := by
  unfold w_X9_undo_12_s
  repeat' first | with_reducible exact fun h => h | with_reducible exact hkL12 _ _ | with_reducible exact hK _ _ | with_reducible refine and_m ?_ | with_reducible refine ite_m ?_ ?_ | with_reducible refine all_m (fun _ => ?_) | with_reducible refine imp_m ?_
theorem mn_X9_undo_12 {q : Nat} {K Kz2 : Int32 → ap_Mem → Prop} (hK : ∀ u0 u1, K u0 u1 → Kz2 u0 u1) : ∀ (n : Nat) (v0 : Int32) (v1 : ap_Mem), w_X9_undo_12 q K n v0 v1 → w_X9_undo_12 q Kz2 n v0 v1 := by
  intro n
  induction n with
  | zero => exact fun _ _ h => h
  | succ n ih => exact fun _ _ => mn_X9_undo_12_s ih hK
theorem mn_X9_undo {q : Nat} {M : ap_Mem} {K Kz2 : Int32 → ap_Mem → Prop} (hK : ∀ u0 u1, K u0 u1 → Kz2 u0 u1) : w_X9_undo q M K → w_X9_undo q M Kz2 := by
  unfold w_X9_undo
  repeat' first | with_reducible exact fun h => h | with_reducible exact hK _ _ | with_reducible refine and_m ?_ | with_reducible refine ite_m ?_ ?_ | with_reducible refine mn_X9_undo_12  (fun _ _ => ?_) _ _ _ | with_reducible refine all_m (fun _ => ?_) | with_reducible refine imp_m ?_
theorem mn_X9_count {q : Nat} {x1 : Int32} {M : ap_Mem} {K Kz2 : Int32 → ap_Mem → Prop} (hK : ∀ u0 u1, K u0 u1 → Kz2 u0 u1) : w_X9_count q x1 M K → w_X9_count q x1 M Kz2 := by
  unfold w_X9_count
  repeat' first | with_reducible exact fun h => h | with_reducible exact hK _ _ | with_reducible refine and_m ?_ | with_reducible refine ite_m ?_ ?_ | with_reducible refine mn_X9_in  (fun _ _ => ?_) | with_reducible refine all_m (fun _ => ?_) | with_reducible refine imp_m ?_
