/-- facts emptied -/
theorem clear_ok {N g : Nat} {w : Mem} (hN : 60 < N) (hg : g < 2) : ∃ v, f_X1_clear N w g = some v ∧ (∀ tk, XK v g tk c0) ∧ gF v 7 9 g = nI 0 ∧ gF v 1 11 g = nI 0 ∧ Fr (fun k j i => ((k = 7 ∨ k = 2 ∨ k = 1) ∧ i = g) ∨ (k = 3 ∧ i = 2 + g)) (fun k i => k = 25 ∧ i = 2 + g) w v := by
  let w1 : Mem := sF (sF (sF w 7 9 g (nI 0)) 7 10 g (nI 0)) 7 11 g (nI 0)
  obtain ⟨w2, a1, a2, a3⟩ := partAll_ok w1 (2 + g) (m := 0) (N := N) (by omega) (by omega)
  let w3 : Mem := sF (sF w2 2 6 g (nI 0)) 2 7 g (nI 0)
  let v : Mem := sF (sF (sF w3 1 9 g (nI 0)) 1 10 g (nI 0)) 1 11 g (nI 0)
  have e71 : ∀ j, j = 9 ∨ j = 10 ∨ j = 11 → gF v 7 j g = nI 0 := fun j hj => by
    show gF (sF (sF (sF (sF (sF w2 2 6 g (nI 0)) 2 7 g (nI 0)) 1 9 g (nI 0)) 1 10 g (nI 0)) 1 11 g (nI 0)) 7 j g = nI 0
    rw [gF_sF, if_neg (by omega), gF_sF, if_neg (by omega), gF_sF, if_neg (by omega), gF_sF, if_neg (by omega), gF_sF, if_neg (by omega), a3.1 _ _ _ (by show ¬ (7 = 3 ∧ g = 2 + g); omega)]
    show gF (sF (sF (sF w 7 9 g (nI 0)) 7 10 g (nI 0)) 7 11 g (nI 0)) 7 j g = nI 0
    rcases hj with e | e | e <;> subst e
    · rw [gF_sF, if_neg (by omega), gF_sF, if_neg (by omega), gF_sF, if_pos ⟨rfl, rfl, rfl⟩]
    · rw [gF_sF, if_neg (by omega), gF_sF, if_pos ⟨rfl, rfl, rfl⟩]
    · rw [gF_sF, if_pos ⟨rfl, rfl, rfl⟩]
  have e2 : ∀ j, j = 6 ∨ j = 7 → gF v 2 j g = nI 0 := fun j hj => by
    show gF (sF (sF (sF (sF (sF w2 2 6 g (nI 0)) 2 7 g (nI 0)) 1 9 g (nI 0)) 1 10 g (nI 0)) 1 11 g (nI 0)) 2 j g = nI 0
    rw [gF_sF, if_neg (by omega), gF_sF, if_neg (by omega), gF_sF, if_neg (by omega)]
    rcases hj with e | e <;> subst e
    · rw [gF_sF, if_neg (by omega), gF_sF, if_pos ⟨rfl, rfl, rfl⟩]
    · rw [gF_sF, if_pos ⟨rfl, rfl, rfl⟩]
  have e1 : ∀ j, j = 9 ∨ j = 10 ∨ j = 11 → gF v 1 j g = nI 0 := fun j hj => by
    show gF (sF (sF (sF w3 1 9 g (nI 0)) 1 10 g (nI 0)) 1 11 g (nI 0)) 1 j g = nI 0
    rcases hj with e | e | e <;> subst e
    · rw [gF_sF, if_neg (by omega), gF_sF, if_neg (by omega), gF_sF, if_pos ⟨rfl, rfl, rfl⟩]
    · rw [gF_sF, if_neg (by omega), gF_sF, if_pos ⟨rfl, rfl, rfl⟩]
    · rw [gF_sF, if_pos ⟨rfl, rfl, rfl⟩]
  have e3 : ∀ j i, gF v 3 j i = gF w2 3 j i := fun j i => by
    show gF (sF (sF (sF (sF (sF w2 2 6 g (nI 0)) 2 7 g (nI 0)) 1 9 g (nI 0)) 1 10 g (nI 0)) 1 11 g (nI 0)) 3 j i = _
    rw [gF_sF, if_neg (by omega), gF_sF, if_neg (by omega), gF_sF, if_neg (by omega), gF_sF, if_neg (by omega), gF_sF, if_neg (by omega)]
  have eA : ∀ k i, gA v k i = gA w2 k i := fun _ _ => rfl
  refine ⟨v, ?_, fun tk => ?_, e71 9 (by omega), e1 11 (by omega), ?_⟩
  · have a1' : f_X3_partAll N (sF (sF (sF w 7 9 g 0) 7 10 g 0) 7 11 g 0) (2 + g) 0 = some w2 := a1
    rw [f_X1_clear]
    simp only [f_X7_clear, Option.bind_some, a1', f_X2_clear]
    rfl
  · have h0 : tN (mkT tk (cL c0)) = 0 := rfl
    refine ⟨⟨⟨by rw [h0]; omega, fun i hi => absurd hi (Nat.not_lt_zero i), e71 10 (by omega), fun t ht => absurd ht (Nat.not_lt_zero t), fun t k ht => absurd ht (Nat.not_lt_zero t), by show 0 ≤ 276; omega, e71 11 (by omega), fun p i j hp => by simp [prs_prp, prp, h0] at hp⟩, (a2.of (e3 _ _) (e3 _ _) (eA _ _) : GS v (2 + g) 0 (fun i => i)), by show 0 ≤ 24; omega, e2 6 (by omega), e2 7 (by omega), fun p a b c r hp => by simp [c0, cJ] at hp, fun t ht => absurd ht (Nat.not_lt_zero t), fun t u c ht => absurd ht (Nat.not_lt_zero t)⟩, ⟨by show 0 ≤ 12; omega, e1 9 (by omega), fun p i j hp => by simp [c0, cS] at hp⟩, ⟨by show 0 ≤ 8; omega, e1 10 (by omega), fun p i j hp => by simp [c0, cQ] at hp⟩, fun i hi => absurd hi (Nat.not_lt_zero i)⟩
  · refine ⟨fun k j i z => ?_, fun k i z => (eA _ _).trans (a3.2.1 k i (fun y => z y)), fun k i => a3.2.2.1 k i, fun k j i => a3.2.2.2 k j i⟩
    show gF (sF (sF (sF (sF (sF w2 2 6 g (nI 0)) 2 7 g (nI 0)) 1 9 g (nI 0)) 1 10 g (nI 0)) 1 11 g (nI 0)) k j i = _
    rw [gF_sF, if_neg (by omega), gF_sF, if_neg (by omega), gF_sF, if_neg (by omega), gF_sF, if_neg (by omega), gF_sF, if_neg (by omega), a3.1 _ _ _ (by show ¬ (k = 3 ∧ i = 2 + g); omega)]
    show gF (sF (sF (sF w 7 9 g (nI 0)) 7 10 g (nI 0)) 7 11 g (nI 0)) k j i = _
    rw [gF_sF, if_neg (by omega), gF_sF, if_neg (by omega), gF_sF, if_neg (by omega)]
