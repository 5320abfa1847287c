/-! a draw, the class beside it -/
theorem RelX.f46 {w : Mem} {f nf : Nat} {tk : Nat → Nat} {R A : List Row} {NL : List (List Nat)} {tp : List Nat} {y : Int32} (h : RelX w f nf tk R A NL tp) : RelX (sF w 46 1 0 y) f nf tk R A NL tp := by
  have hf : Fr (fun k _ _ => k = 46) (fun _ _ => False) w (sF w 46 1 0 y) := ⟨fun k j i z => by rw [gF_sF, if_neg (by omega)], fun _ _ _ => rfl, fun _ _ => rfl, fun _ _ _ => rfl⟩
  obtain ⟨⟨a1, a2, a3⟩, a4, a5, a6, a7, a8, a9⟩ := h
  refine ⟨⟨a1, a2, a3⟩, a4.fr hf (fun _ _ _ z => by omega) (fun _ _ z => z.elim), ⟨a5.1, (hf.1 _ _ _ (by omega)).trans a5.2.1, a5.2.2⟩, ⟨a6.1, (hf.1 _ _ _ (by omega)).trans a6.2.1, a6.2.2⟩, a7, ⟨(hf.1 _ _ _ (by omega)).trans a8.1, a8.2⟩, ?_⟩
  rcases a9 with e | ⟨e, e2, D, e3, e4⟩
  · exact Or.inl ((hf.1 _ _ _ (by omega)).trans e)
  · exact Or.inr ⟨(hf.1 _ _ _ (by omega)).trans e, (hf.1 _ _ _ (by omega)).trans e2, D, e3, e4⟩
theorem law_next {w : Mem} {f nf a lo hi N : Nat} {tk : Nat → Nat} {R A : List Row} {NL : List (List Nat)} {tp : List Nat} {L : Tl} {S : Prs} {sx : Nat × (Nat → Int32)} (h : RelX w f nf tk R A NL tp) (hT : TD w a L S) (hs : sx.1 < 2 ^ 31) (ha : a < 900) (hl : lo ≤ hi) (hh : hi < 1000) :
    ∃ d v, lo ≤ d ∧ d ≤ hi ∧ f_X9_next N w sx (nI lo) (nI hi) = some (v, nI d) ∧ RelX v f nf tk R A NL tp ∧ TD v (a + 1) L S ∧ ∀ k i, gA v k i = gA w k i := by
  obtain ⟨⟨h1, h2, h3⟩, h4⟩ := hT
  obtain ⟨d, d1, d2, e⟩ := next_ok (N := N) (w := w) hs h3 (by omega) hl hh
  refine ⟨d, _, d1, d2, e, h.f46, ⟨⟨?_, ?_, ?_⟩, h4.to (fun _ _ _ _ _ => rfl) (fun _ _ _ _ _ => rfl)⟩, fun _ _ => rfl⟩
  · rw [gF_sF, if_neg (by omega)]; exact h1
  · rw [gF_sF, if_neg (by omega)]; exact h2
  · rw [gF_sF, if_pos ⟨rfl, rfl, rfl⟩]
