/-! the model: which terms are alike -/
/-- the model's terms -/
def MT (w : Mem) (T : Trm) : Prop := tN T ≤ 24 ∧ TOK T ∧ gF w 9 27 0 = nI (tN T) ∧ (∀ t, t < tN T → tF T t < 16 ∧ tA T (tF T t) ≤ 3 ∧ gA w 46 0 t = nI (tF T t) ∧ gA w 41 0 (tF T t) = nI (tA T (tF T t))) ∧ ∀ t k, t < tN T → k < tA T (tF T t) → gA w 47 0 (3 * t + k) = nI (tP T t k)
theorem takesOf_ok {N t : Nat} {w : Mem} {T : Trm} (h : MT w T) (ht : t < tN T) : f_X9_takesOf N w (nI t) = some (nI (tA T (tF T t))) := by
  obtain ⟨t1, t2, t3, t4, t5⟩ := h
  obtain ⟨u1, u2, u3, u4⟩ := t4 t ht
  rw [f_X9_takesOf, if_pos (inb_nI (by omega) (by omega)), nI_clamp (by omega), u3, if_pos (inb_nI (by omega) (by omega)), nI_clamp (by omega), u4]
theorem lp_isAlike (kk : Option Int32) {N k i j : Nat} {w : Mem} {T : Trm} {ld : Nat → Nat} (hk : alen k = 24) (hT : MT w T) (hR : RS w k (tN T) ld) (hi : i < tN T) (hj : j < tN T) (hij : tF T i = tF T j) : ∀ (r fuel q : Nat), q + r = tA T (tF T i) → r < fuel → lp_X9_isAlike_20 kk N w k (nI i) (nI j) fuel (nI q) = if eqFrom T ld i j q = true then kk else some 0 := by
  obtain ⟨t1, t2, t3, t4, t5⟩ := id hT
  obtain ⟨a, b, c, e⟩ := hR
  have h3 := (t4 i hi).2.1
  intro r
  induction r with
  | zero =>
    intro fuel q hq hf
    obtain ⟨f', rfl⟩ : ∃ f, fuel = f + 1 := ⟨fuel - 1, by omega⟩
    rw [lp_X9_isAlike_20, takesOf_ok hT hi, Option.bind_some, if_pos ((nI_le_iff (by omega) (by omega)).mpr (by omega)), if_pos (eqFrom_iff.mpr (fun x h1 h2 => by omega))]
  | succ r ih =>
    intro fuel q hq hf
    obtain ⟨f', rfl⟩ : ∃ f, fuel = f + 1 := ⟨fuel - 1, by omega⟩
    have p1 := t2 i hi q (by omega)
    have p2 := t2 j hj q (by rw [← hij]; omega)
    have b1 := b (tP T i q) (by omega)
    have b2 := b (tP T j q) (by omega)
    rw [lp_X9_isAlike_20, takesOf_ok hT hi, Option.bind_some, if_neg (fun z => by have := (nI_le_iff (by omega) (by omega)).mp z; omega), hk, show (3 : Int32) * nI i = nI (3 * i) from n_mul 3 i, show (3 : Int32) * nI j = nI (3 * j) from n_mul 3 j, n_add, n_add, if_pos (inb_nI (by omega) (by omega)), nI_clamp (show 3 * i + q < 2 ^ 31 by omega), t5 i q hi (by omega), if_pos (inb_nI (by omega) (by omega)), if_pos (inb_nI (by omega) (by omega)), nI_clamp (show 3 * j + q < 2 ^ 31 by omega), t5 j q hj (by rw [← hij]; omega), if_pos (inb_nI (by omega) (by omega)), nI_clamp (show tP T i q < 2 ^ 31 by omega), nI_clamp (show tP T j q < 2 ^ 31 by omega), e _ (by omega), e _ (by omega), show nI q + (1 : Int32) = nI (q + 1) from n_add q 1, ih f' (q + 1) (by omega) (by omega)]
    by_cases z : ld (tP T i q) = ld (tP T j q)
    · rw [if_pos (by rw [z])]
      by_cases y : eqFrom T ld i j (q + 1) = true
      · rw [if_pos y, if_pos (eqFrom_iff.mpr (fun x h1 h2 => by
          by_cases hx : x = q
          · subst hx; exact z
          · exact eqFrom_iff.mp y x (by omega) h2))]
      · rw [if_neg y, if_neg (fun v => y (eqFrom_iff.mpr (fun x h1 h2 => eqFrom_iff.mp v x (by omega) h2)))]
    · rw [if_neg (fun v => z ((nI_inj_iff (by omega) (by omega)).mp v)), if_neg (fun v => z (eqFrom_iff.mp v q (Nat.le_refl _) (by omega)))]
theorem isAlike_ok {N k i j : Nat} {w : Mem} {T : Trm} {ld : Nat → Nat} (hk : alen k = 24) (hT : MT w T) (hR : RS w k (tN T) ld) (hi : i < tN T) (hj : j < tN T) (hN : 3 < N) : f_X9_isAlike N w k (nI i) (nI j) = some (if tF T i = tF T j ∧ eqParts T ld i j = true then 1 else 0) := by
  obtain ⟨t1, t2, t3, t4, t5⟩ := id hT
  obtain ⟨u1, u2, u3, u4⟩ := t4 i hi
  obtain ⟨v1, v2, v3, v4⟩ := t4 j hj
  rw [f_X9_isAlike, if_pos (inb_nI (by omega) (by omega)), if_pos (inb_nI (by omega) (by omega)), nI_clamp (show i < 2 ^ 31 by omega), nI_clamp (show j < 2 ^ 31 by omega), u3, v3]
  by_cases y : tF T i = tF T j
  · rw [if_pos (by rw [y]), show (0 : Int32) = nI 0 from rfl, lp_isAlike _ hk hT hR hi hj y (tA T (tF T i)) N 0 (by omega) (by omega)]
    by_cases z : eqParts T ld i j = true
    · rw [if_pos (eqFrom_iff.mpr (fun x _ h => eqParts_iff.mp z x h)), if_pos ⟨y, z⟩]
      rfl
    · rw [if_neg (fun h => z (eqParts_iff.mpr (fun x hx => eqFrom_iff.mp h x (Nat.zero_le _) hx))), if_neg (fun h => z h.2)]
      rfl
  · rw [if_neg (fun z => y ((nI_inj_iff (by omega) (by omega)).mp z)), if_neg (fun h => y h.1)]
