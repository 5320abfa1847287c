/-! feed: the op -/
def KT (w v : Mem) : Prop := (∀ k j i, ¬ (k = 9 ∧ (j = 5 ∨ j = 0)) → gF v k j i = gF w k j i) ∧ ∀ k i, k ≠ 40 → gA v k i = gA w k i
theorem RelX.tape {w v : Mem} {f nf : Nat} {tk : Nat → Nat} {R A : List Row} {NL : List (List Nat)} {tp tp' : List Nat} (h : RelX w f nf tk R A NL tp) (a6 : FrTx w v) (ht : TX v tp') : RelX v f nf tk R A NL tp' := by
  obtain ⟨⟨hf, h5, h6⟩, hK, xFN, xA, xNm, xTp, xCo⟩ := h
  refine ⟨⟨hf, (a6.2.2.2 _ _ _).trans h5, (a6.2.2.2 _ _ _).trans h6⟩, XK.fr hK a6 (fun _ _ _ z => by omega) (fun _ _ z => by omega), ⟨xFN.1, (a6.1 _ _ _ (by omega)).trans xFN.2.1, fun g hg => by rw [a6.2.1 31 f (by omega)]; exact xFN.2.2 g hg⟩, ⟨xA.1, (a6.1 _ _ _ (by omega)).trans xA.2.1, fun p r hp => by rw [a6.2.1 17 f (by omega), a6.2.1 18 f (by omega)]; exact xA.2.2 p r hp⟩, fun t ht => by rw [a6.2.1 34 f (by omega)]; exact xNm t ht, ht, ?_⟩
  rcases xCo with e | ⟨e, e2, D, e3, e4⟩
  · exact Or.inl ((a6.1 _ _ _ (by omega)).trans e)
  · exact Or.inr ⟨(a6.1 _ _ _ (by omega)).trans e, (a6.1 _ _ _ (by omega)).trans e2, D, e3, fun t u ht hu => by rw [a6.2.1 10 0 (by omega), a6.2.1 11 0 (by omega)]; exact e4 t u ht hu⟩
theorem FrTm.kt {w v : Mem} (h : FrTm w v) : KT w v := ⟨fun k j i z => h.1 k j i (fun q => z q), fun k i z => h.2.1 k i (fun q => z q.1)⟩
theorem by4_b (x : Int32) : ∀ b, b ∈ by4 x → b < 256 := by
  intro b hb
  have : b = bq x 24 ∨ b = bq x 16 ∨ b = bq x 8 ∨ b = bq x 0 := by
    unfold by4 at hb
    simpa using hb
  rcases this with e | e | e | e <;> rw [e] <;> exact bq_lt _ _
