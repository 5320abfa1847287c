/-! the model: unites on a row of leads -/
/-- row k of the model holds n leads -/
def RS (w : Mem) (k n : Nat) (ld : Nat → Nat) : Prop := n ≤ 24 ∧ Can n ld ∧ gF w 9 27 0 = nI n ∧ ∀ i, i < n → gA w k 0 i = nI (ld i)
theorem lp_unites (kk : Mem → Option Mem) {N k n a b : Nat} {ld : Nat → Nat} (hk : alen k = 24) (hC : Can n ld) (hn : n ≤ 24) (ha : a < n) (hb : b < n) : ∀ (r fuel t : Nat) (w : Mem), t + r = n → r < fuel → gF w 9 27 0 = nI n → (∀ i, i < t → gA w k 0 i = nI (un ld a b i)) → (∀ i, t ≤ i → i < n → gA w k 0 i = nI (ld i)) → ∃ w', lp_X9_unites_29 kk N k (nI (ld a)) (nI (ld b)) (nI (min (ld a) (ld b))) fuel w (nI t) = kk w' ∧ (∀ i, i < n → gA w' k 0 i = nI (un ld a b i)) ∧ Fr (fun _ _ _ => False) (fun x i => x = k ∧ i = 0) w w' := by
  intro r
  induction r with
  | zero =>
    intro fuel t w ht hf hF h1 h2
    obtain ⟨f', rfl⟩ : ∃ f, fuel = f + 1 := ⟨fuel - 1, by omega⟩
    refine ⟨w, ?_, fun i hi => h1 i (by omega), Fr.rf⟩
    rw [lp_X9_unites_29, hF, if_pos ((nI_le_iff (by omega) (by omega)).mpr (by omega))]
  | succ r ih =>
    intro fuel t w ht hf hF h1 h2
    obtain ⟨f', rfl⟩ : ∃ f, fuel = f + 1 := ⟨fuel - 1, by omega⟩
    have c1 := (hC a ha).1
    have c2 := (hC b hb).1
    have c3 := (hC t (by omega)).1
    have hfr : Fr (fun _ _ _ => False) (fun x i => x = k ∧ i = 0) w (sA w k 0 t (nI (un ld a b t))) :=
      ⟨fun _ _ _ _ => rfl, fun x i hki => gA_sA_ne hki, fun _ _ => rfl, fun _ _ _ => rfl⟩
    obtain ⟨w', e1, e2, e3⟩ := ih f' (t + 1) (sA w k 0 t (nI (un ld a b t))) (by omega) (by omega) hF (fun i hi => by
      by_cases e : i = t
      · subst e; exact gA_sA_self
      · rw [gA_sA_at e]; exact h1 i (by omega)) (fun i hi1 hi2 => by rw [gA_sA_at (by omega)]; exact h2 i (by omega) hi2)
    refine ⟨w', ?_, e2, hfr.tr e3⟩
    have hs : ∀ x : Nat, x = un ld a b t → lp_X9_unites_29 kk N k (nI (ld a)) (nI (ld b)) (nI (min (ld a) (ld b))) f' (sA w k 0 t (nI x)) (nI (t + 1)) = kk w' := fun x hx => by rw [hx]; exact e1
    rw [lp_X9_unites_29, hF, if_neg (fun z => by have := (nI_le_iff (by omega) (by omega)).mp z; omega), hk, if_pos (inb_nI (by omega) (by omega)), nI_clamp (by omega), h2 t (Nat.le_refl _) (by omega), show nI t + (1 : Int32) = nI (t + 1) from n_add t 1]
    by_cases y : ld t = ld a
    · rw [if_pos (by rw [y])]
      exact hs _ (by unfold un; split <;> omega)
    · rw [if_neg (fun z => y ((nI_inj_iff (by omega) (by omega)).mp z))]
      by_cases y2 : ld t = ld b
      · rw [if_pos (by rw [y2])]
        exact hs _ (by unfold un; split <;> omega)
      · rw [if_neg (fun z => y2 ((nI_inj_iff (by omega) (by omega)).mp z))]
        exact hs _ (by unfold un; split <;> omega)
theorem unites_ok {N k n a b : Nat} {w : Mem} {ld : Nat → Nat} (hk : alen k = 24) (h : RS w k n ld) (hN : 24 < N) (ha : a < n) (hb : b < n) : ∃ w', f_X9_unites N w k (nI a) (nI b) = some w' ∧ RS w' k n (un ld a b) ∧ Fr (fun _ _ _ => False) (fun x i => x = k ∧ i = 0) w w' := by
  obtain ⟨hn, hC, hF, hR⟩ := h
  have c1 := (hC a ha).1
  have c2 := (hC b hb).1
  rw [f_X9_unites, hk, if_pos (inb_nI (by omega) (by omega)), if_pos (inb_nI (by omega) (by omega)), nI_clamp (show a < 2 ^ 31 by omega), nI_clamp (show b < 2 ^ 31 by omega), hR a ha, hR b hb]
  by_cases z : ld b ≤ ld a
  · obtain ⟨w', e1, e2, e3⟩ := lp_unites (fun w_3 => f_X9_unites_75 N w_3 k) (N := N) (a := a) (b := b) hk hC hn ha hb n N 0 w (by omega) (by omega) hF (fun i hi => absurd hi (Nat.not_lt_zero i)) (fun i _ hi => hR i hi)
    rw [Nat.min_eq_right z] at e1
    rw [if_pos ((nI_le_iff (by omega) (by omega)).mpr z)]
    exact ⟨w', e1, ⟨hn, can_un hC ha hb, (e3.1 _ _ _ (fun h => h)).trans hF, e2⟩, e3⟩
  · obtain ⟨w', e1, e2, e3⟩ := lp_unites (fun w_3 => f_X9_unites_75 N w_3 k) (N := N) (a := a) (b := b) hk hC hn ha hb n N 0 w (by omega) (by omega) hF (fun i hi => absurd hi (Nat.not_lt_zero i)) (fun i _ hi => hR i hi)
    rw [Nat.min_eq_left (by omega)] at e1
    rw [if_neg (fun y => z ((nI_le_iff (by omega) (by omega)).mp y))]
    exact ⟨w', e1, ⟨hn, can_un hC ha hb, (e3.1 _ _ _ (fun h => h)).trans hF, e2⟩, e3⟩
