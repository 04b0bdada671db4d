/-! the start -/
def ap_M0 : ap_Mem := fun q => if q = 5 then (fun k => if k = 6 then 2 else 0) else if q = 36 then (fun k => if k = 6 then 2 else 0) else if q = 64 then (fun k => if k = 6 then 2 else 0) else if q = 86 then (fun k => if k = 6 then 2 else 0) else if q = 99 then upd (fun _ => 0) (37 : Int32).toNatClampNeg (-1) else (fun _ => 0)
theorem e_M0 {q j : Nat} (h : ¬ ((q = 5 ∨ q = 36 ∨ q = 64 ∨ q = 86) ∧ j = 6)) (h2 : ¬ (q = 99 ∧ j = 37)) : ap_M0 q j = 0 := by
  unfold ap_M0
  by_cases h5 : q = 5
  · rw [if_pos h5]
    exact if_neg (by omega)
  rw [if_neg h5]
  by_cases h36 : q = 36
  · rw [if_pos h36]
    exact if_neg (by omega)
  rw [if_neg h36]
  by_cases h64 : q = 64
  · rw [if_pos h64]
    exact if_neg (by omega)
  rw [if_neg h64]
  by_cases h86 : q = 86
  · rw [if_pos h86]
    exact if_neg (by omega)
  rw [if_neg h86]
  by_cases h99 : q = 99
  · rw [if_pos h99, k_37, upd_o _ _ (by omega)]
  · rw [if_neg h99]
theorem e_Inv0 : e_Inv ap_M0 := by
  have z : ∀ q j, ¬ ((q = 5 ∨ q = 36 ∨ q = 64 ∨ q = 86) ∧ j = 6) → ¬ (q = 99 ∧ j = 37) → ap_M0 q j = nI 0 := fun q j a b => e_M0 a b
  refine ⟨⟨⟨0, by omega, z _ _ (by omega) (by omega), z _ _ (by omega) (by omega), fun i hi => absurd hi (by omega)⟩, ⟨⟨0, by omega, z _ _ (by omega) (by omega), z _ _ (by omega) (by omega), fun h _ e => ?_⟩, [], ⟨by decide, by decide, by simp, z _ _ (by omega) (by omega), z _ _ (by omega) (by omega), by simp, by simp [e_progC], rfl, z _ _ (by omega) (by omega)⟩, Or.inl ⟨rfl, rfl⟩⟩, ⟨0, 0, by omega, by omega, z _ _ (by omega) (by omega), z _ _ (by omega) (by omega), z _ _ (by omega) (by omega), fun i hi => absurd hi (by omega), fun i hi => absurd hi (by omega)⟩, ⟨0, 0, by omega, by omega, z _ _ (by omega) (by omega), z _ _ (by omega) (by omega), z _ _ (by omega) (by omega), z _ _ (by omega) (by omega), fun i hi => ⟨0, by omega, z _ _ (by omega) (by omega), z _ _ (by omega) (by omega)⟩⟩, ⟨0, by omega, z _ _ (by omega) (by omega), z _ _ (by omega) (by omega), fun i hi => absurd hi (by omega)⟩, ⟨0, by omega, z _ _ (by omega) (by omega), z _ _ (by omega) (by omega), fun i hi => absurd hi (by omega)⟩, ⟨0, by omega, z _ _ (by omega) (by omega), z _ _ (by omega) (by omega), fun i hi => absurd hi (by omega)⟩, ⟨0, by omega, z _ _ (by omega) (by omega), z _ _ (by omega) (by omega), fun i hi => absurd hi (by omega)⟩⟩, Or.inl ⟨z _ _ (by omega) (by omega), z _ _ (by omega) (by omega)⟩, 0, by omega, z _ _ (by omega) (by omega), z _ _ (by omega) (by omega), fun i hi => absurd hi (by omega)⟩
  have : ap_M0 99 37 = -1 := rfl
  rw [this] at e
  exact absurd e (n_m1' (by omega))
