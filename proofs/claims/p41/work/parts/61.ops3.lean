/-- BY all but one, of the two of that one -/
def ByK (T : Trm) (S : Prs) (k b : Nat) : Prop := ∃ i j, S[k]? = some (i, j) ∧ By T S b i j
theorem ByK_iff {T : Trm} {S : Prs} {k b i j : Nat} (h : S[k]? = some (i, j)) : ByK T S k b ↔ By T S b i j := by
  constructor
  · rintro ⟨x, y, h1, h2⟩
    rw [h] at h1
    obtain ⟨rfl, rfl⟩ := Prod.mk.inj (Option.some.inj h1)
    exact h2
  · intro h2; exact ⟨i, j, h, h2⟩
