/-- what ties the model to a core, row by row -/
def KN (w v : Mem) : Prop := (∀ j, j = 6 ∨ j = 8 ∨ j = 9 ∨ (26 ≤ j ∧ j < 40) → gF v 9 j 0 = gF w 9 j 0) ∧ (∀ k, 46 ≤ k → k ≤ 58 → gA v k 0 = gA w k 0) ∧ (∀ x, x < 8 → gA v 41 0 x = gA w 41 0 x) ∧ (∀ x, x < 48 → gA v 42 0 x = gA w 42 0 x) ∧ (∀ x, x < 192 → gA v 43 0 x = gA w 43 0 x) ∧ ∀ x, x < 144 → gA v 44 0 x = gA w 44 0 x
/-- what ties the class's facts f to a core, row by row -/
def KQ (f : Nat) (w v : Mem) : Prop := (∀ k j, k = 1 ∨ k = 2 ∨ k = 7 → gF v k j f = gF w k j f) ∧ (∀ j, gF v 3 j (2 + f) = gF w 3 j (2 + f)) ∧ (∀ k, (13 ≤ k ∧ k ≤ 24) ∨ (31 ≤ k ∧ k ≤ 39 ∧ k ≠ 37) → gA v k f = gA w k f) ∧ gA v 25 (2 + f) = gA w 25 (2 + f)
theorem XK.cong {w v : Mem} {f : Nat} {tk : Nat → Nat} {c : Core} (h : XK w f tk c) (hk : KQ f w v) : XK v f tk c := by
  obtain ⟨⟨⟨t1, t2, t3, t4, t5, t6, t7, t8⟩, x2, n1', f2, f3, j1, r1, r2⟩, ⟨s1, s2, s3⟩, ⟨d1, d2, d3⟩, x6⟩ := h
  obtain ⟨k1, k2, k3, k4⟩ := hk
  refine ⟨⟨⟨t1, t2, (k1 _ _ (by omega)).trans t3, fun t ht => by rw [k3 33 (by omega), k3 31 (by omega)]; exact t4 t ht, fun t k ht hk => by rw [k3 36 (by omega)]; exact t5 t k ht hk, t6, (k1 _ _ (by omega)).trans t7, fun p i j hp => by rw [k3 38 (by omega), k3 39 (by omega)]; exact t8 p i j hp⟩, x2.of (k2 _) (k2 _) k4, n1', (k1 _ _ (by omega)).trans f2, (k1 _ _ (by omega)).trans f3, fun p a b c r hp => by rw [k3 21 (by omega), k3 22 (by omega), k3 23 (by omega), k3 24 (by omega)]; exact j1 p a b c r hp, fun t ht => by rw [k3 19 (by omega)]; exact r1 t ht, fun t u c ht hF => by rw [k3 20 (by omega)]; exact r2 t u c ht hF⟩, ⟨s1, (k1 _ _ (by omega)).trans s2, fun p i j hp => by rw [k3 13 (by omega), k3 14 (by omega)]; exact s3 p i j hp⟩, ⟨d1, (k1 _ _ (by omega)).trans d2, fun p i j hp => by rw [k3 15 (by omega), k3 16 (by omega)]; exact d3 p i j hp⟩, fun i hi => by rw [k3 35 (by omega)]; exact x6 i hi⟩
theorem RelX.cong {w v : Mem} {f nf : Nat} {tk : Nat → Nat} {R A : List Row} {NL : List (List Nat)} {tp tp' : List Nat} (h : RelX w f nf tk R A NL tp) (hk : KQ f w v) (h0 : ∀ j, gF v 0 j 0 = gF w 0 j 0) (h10 : gA v 10 0 = gA w 10 0 ∧ gA v 11 0 = gA w 11 0) (h5 : gR v 8 5 0 = gR w 8 5 0 ∧ gR v 8 6 0 = gR w 8 6 0) (ht : TX v tp') : RelX v f nf tk R A NL tp' := by
  obtain ⟨⟨hf, h5', h6'⟩, hK, xFN, xA, xNm, xTp, xCo⟩ := h
  refine ⟨⟨hf, h5.1.trans h5', h5.2.trans h6'⟩, hK.cong hk, ⟨xFN.1, (hk.1 _ _ (by omega)).trans xFN.2.1, fun g hg => by rw [hk.2.2.1 31 (by omega)]; exact xFN.2.2 g hg⟩, ⟨xA.1, (hk.1 _ _ (by omega)).trans xA.2.1, fun p r hp => by rw [hk.2.2.1 17 (by omega), hk.2.2.1 18 (by omega)]; exact xA.2.2 p r hp⟩, fun t ht => by rw [hk.2.2.1 34 (by omega)]; exact xNm t ht, ht, ?_⟩
  rcases xCo with e | ⟨e, e2, D, e3, e4⟩
  · exact Or.inl ((h0 _).trans e)
  · exact Or.inr ⟨(h0 _).trans e, (h0 _).trans e2, D, e3, fun t u ht hu => by rw [h10.1, h10.2]; exact e4 t u ht hu⟩
theorem RXt.rel {w v : Mem} {g n : Nat} {tp : List Nat} {FL : List (List Nat)} {tg : List Nat} {NL : List (List Nat)} {rs : List Row} (h : RXt w g n tp FL tg NL rs) (hP : RPr g n tp FL tg NL rs) (hF : ∀ k j i, k = 1 ∨ k = 2 ∨ k = 3 ∨ k = 7 → gF v k j i = gF w k j i) (hA : ∀ k i, gA v k i = gA w k i) (h5 : gR v 8 5 0 = g) (h6 : gR v 8 6 0 = 1 - g) (h61 : gF v 6 1 0 = nI 0) (h04 : gF v 0 4 0 = nI 0) : RelX v g FL.length (tk0 tg) rs [] NL [] := by
  have hKQ : KQ g w v := ⟨fun k j z => hF k j g (by omega), fun j => hF 3 j _ (by omega), fun k _ => hA k g, hA 25 _⟩
  have hfn := h.fn hP (AG.z tg)
  have hln := (hP.2.2.2 _ (AG.z tg)).2
  refine ⟨⟨hP.1.1, h5, h6⟩, ?_, ⟨hfn.1, (hF _ _ _ (by omega)).trans hfn.2.1, fun i hi => by rw [hA]; exact hfn.2.2 i hi⟩, ⟨Nat.zero_le _, (hF _ _ _ (by omega)).trans h.2.2.2.1, fun p r hp => by cases hp⟩, fun t ht => ?_, ⟨h61, fun i hi => absurd hi (Nat.not_lt_zero i)⟩, Or.inl h04⟩
  · rw [List.append_nil]; exact (h.2.2.2.2 _ (AG.z tg)).cong hKQ
  · rw [List.append_nil, ← hln] at ht
    rw [hA]; exact h.2.2.1 t ht

