/-! the class's answers, alone: undo -/
theorem xundo_no {N f nf : Nat} {tk : Nat → Nat} {R : List Row} {NL : List (List Nat)} {tp : List Nat} {w : Mem} (h : RelX w f nf tk R [] NL tp) : f_X8_undo N w = some (w, 0) := by
  have hg := h.g5
  obtain ⟨⟨hf, h5, h6⟩, xK, xFN, xA, xNm, xTp, xCo⟩ := id h
  rw [f_X8_undo]
  refine oit hg (oit ?_ rfl)
  rw [h5, xA.2.1]; rfl
theorem xundo {N f nf : Nat} {tk : Nat → Nat} {R : List Row} {r : Row} {NL : List (List Nat)} {tp : List Nat} {w : Mem} (hN : 276 < N) (h : RelX w f nf tk R [r] NL tp) (hCI : CI tk nf (run tk c0 R)) : ∃ w', f_X8_undo N w = some (w', 1) ∧ RelX w' f nf tk R [] NL tp ∧ (∀ k j i, 9 ≤ k → gF w' k j i = gF w k j i) ∧ ∀ k i, 40 ≤ k → gA w' k i = gA w k i := by
  have hg := h.g5
  obtain ⟨⟨hf, h5, h6⟩, xK, xFN, xA, xNm, xTp, xCo⟩ := id h
  have xK' : XK w f tk (run tk (run tk c0 R) ([] ++ [r])) := by rw [List.nil_append, ← run_app]; exact xK
  obtain ⟨w2, b1, b2, b3, b4, b5, b6⟩ := undo_ok (A := []) hN xK' xA hCI
  have f4 : Fr (fun k j i => k = 0 ∧ j = 4 ∧ i = 0) (fun _ _ => False) w2 (sF w2 0 4 0 (nI 0)) := settled_fr w2
  have hR0 : run tk c0 (R ++ []) = run tk c0 R := by rw [List.append_nil]
  have b2' : XK w2 f tk (run tk c0 R) := b2
  refine ⟨sF w2 0 4 0 (nI 0), ?_, ⟨⟨hf, (b6.2.2.2 _ _ _).trans h5, (b6.2.2.2 _ _ _).trans h6⟩, ?_, ⟨xFN.1, ?_, fun g hg9 => ?_⟩, ⟨b3.1, ?_, fun p r9 hp => absurd hp (by simp)⟩, fun t ht => ?_, ⟨?_, fun i hi => ?_⟩, Or.inl (by rw [gF_sF, if_pos ⟨rfl, rfl, rfl⟩])⟩, fun k j i hk => ?_, fun k i hk => ?_⟩
  · rw [f_X8_undo]
    refine oit hg (oie ?_ ?_)
    · rw [h5, xA.2.1]
      show ¬ nI 1 = (0 : Int32)
      decide
    · rw [h5]
      exact obind b1 rfl
  · rw [hR0]; exact b2'.fr f4 (fun _ _ _ z => by omega) (fun _ _ z => z.elim)
  · rw [gF_sF, if_neg (by omega), b5]; exact xFN.2.1
  · show tk g ≤ 3 ∧ gA w2 31 f g = nI (tk g)
    rw [b6.2.1 31 f (by omega)]; exact xFN.2.2 g hg9
  · rw [gF_sF, if_neg (by omega)]; exact b3.2.1
  · show gA w2 34 f t = _
    rw [b4]
    refine xNm t (Nat.lt_of_lt_of_le ht ?_)
    rw [hR0, run_app]
    exact cL_mono tk [r] (run tk c0 R)
  · rw [gF_sF, if_neg (by omega), b6.1 _ _ _ (by omega)]; exact xTp.1
  · show gA w2 30 0 i = _
    rw [b6.2.1 30 0 (by omega)]; exact xTp.2 i hi
  · rw [gF_sF, if_neg (by omega), b6.1 _ _ _ (by omega)]
  · show gA w2 k i = _
    rw [b6.2.1 _ _ (by omega)]
