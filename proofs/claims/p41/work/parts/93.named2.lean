theorem wn_getD {NL : List (List Nat)} (hW : ∀ ls, ls ∈ NL → WOK ls) (t : Nat) : wn (NL.getD t []) < 387420489 ∧ (NL.length ≤ t → wn (NL.getD t []) = 0) ∧ (t < NL.length → WOK (NL.getD t [])) := by
  by_cases z : t < NL.length
  · have h1 : WOK (NL.getD t []) := by
      rw [List.getD_eq_getElem?_getD, List.getElem?_eq_getElem z]
      exact hW _ (List.getElem_mem z)
    exact ⟨wn_b6 h1.2.1 h1.2.2, fun q => by omega, fun _ => h1⟩
  · have h1 : NL.getD t [] = [] := by rw [List.getD_eq_getElem?_getD, List.getElem?_eq_none (by omega)]; rfl
    rw [h1]
    exact ⟨by show 0 < 387420489; omega, fun _ => rfl, fun q => absurd q z⟩
