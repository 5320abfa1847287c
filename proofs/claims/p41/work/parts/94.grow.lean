/-! terms only grow -/
theorem cL_grow (tk : Nat → Nat) : ∀ (rs : List Row) (c : Core), (cL c).length ≤ (cL (run tk c rs)).length
  | [], _ => Nat.le_refl _
  | r :: rs, c => by
    have ih := cL_grow tk rs (stp tk c r)
    have h : (cL c).length ≤ (cL (stp tk c r)).length := by
      cases r with
      | inl x =>
        show _ ≤ (cL c ++ [x]).length
        rw [List.length_append]; omega
      | inr y =>
        obtain ⟨bb, a, b⟩ := y
        cases bb with
        | true => exact Nat.le_refl (cL c).length
        | false => exact Nat.le_refl (cL c).length
    rw [show run tk c (r :: rs) = run tk (stp tk c r) rs from rfl]
    omega
