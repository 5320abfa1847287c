theorem okRs_in {tk : Nat → Nat} {nf : Nat} {x : Nat × List Nat} : ∀ {rs : List Row} {c : Core}, okRs tk nf c rs → .inl x ∈ rs → x.1 < nf ∧ x.2.length = tk x.1
  | [], _, _, h => by cases h
  | r :: rs, c, ⟨h1, h2⟩, h => by
    rcases List.mem_cons.mp h with e | e
    · subst e
      exact ⟨h1.1, h1.2.1⟩
    · exact okRs_in h2 e
