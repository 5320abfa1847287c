/-! the law: what would be is what the join gives -/
theorem inS_snoc {S : Prs} {t u : Nat} : inS (S ++ [(t, u)]) = Ew S t u := by
  funext x y
  apply propext
  show (x, y) ∈ S ++ [(t, u)] ↔ ((x, y) ∈ S ∨ (x = t ∧ y = u))
  rw [List.mem_append, List.mem_singleton]
  constructor
  · rintro (h | h)
    · exact Or.inl h
    · cases h; exact Or.inr ⟨rfl, rfl⟩
  · rintro (h | ⟨h1, h2⟩)
    · exact Or.inl h
    · subst h1; subst h2; exact Or.inr rfl
theorem join_would {nf t u : Nat} {tk : Nat → Nat} {c : Core} (h : CI tk nf c) (hr : okR tk nf c (.inr (true, t, u))) : cntG (cL (stp tk c (.inr (true, t, u)))).length (ldJ (cJ (stp tk c (.inr (true, t, u))))) = cntG (cL c).length (ldE (mkT tk (cL c)) (Ew (cS c) t u)) := by
  have h2 := ldJ_E (h.st hr)
  rw [← inS_snoc]
  exact cnt_congr (n := (cL c).length) (fun i hi => h2 i hi)
