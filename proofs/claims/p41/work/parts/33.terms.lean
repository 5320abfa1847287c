/-! Terms: pairs with the same function, which are alike -/
/-- parts that are one each with each, by leads -/
def eqParts (T : Trm) (ld : Nat → Nat) (i j : Nat) : Bool := (List.range (tA T (tF T i))).all (fun k => ld (tP T i k) == ld (tP T j k))
theorem eqParts_iff {T : Trm} {ld : Nat → Nat} {i j : Nat} : eqParts T ld i j = true ↔ ∀ k, k < tA T (tF T i) → ld (tP T i k) = ld (tP T j k) := by
  unfold eqParts
  rw [List.all_eq_true]
  simp only [List.mem_range, beq_iff_eq]
def eqFrom (T : Trm) (ld : Nat → Nat) (i j q : Nat) : Bool := (List.range (tA T (tF T i))).all (fun k => decide (k < q) || ld (tP T i k) == ld (tP T j k))
theorem eqFrom_iff {T : Trm} {ld : Nat → Nat} {i j q : Nat} : eqFrom T ld i j q = true ↔ ∀ k, q ≤ k → k < tA T (tF T i) → ld (tP T i k) = ld (tP T j k) := by
  unfold eqFrom
  rw [List.all_eq_true]
  simp only [List.mem_range, Bool.or_eq_true, decide_eq_true_eq, beq_iff_eq]
  constructor
  · intro h k h1 h2
    rcases h k h2 with z | z
    · omega
    · exact z
  · intro h k h2
    by_cases z : k < q
    · exact Or.inl z
    · exact Or.inr (h k (by omega) h2)
/-- the pairs with the same function, by the lower one, then the higher one -/
def prs (T : Trm) : List (Nat × Nat) := (List.range (tN T)).flatMap (fun i => ((List.range (tN T)).filter (fun j => decide (i < j) && (tF T i == tF T j))).map (fun j => (i, j)))
theorem prs_mem {T : Trm} {i j : Nat} : (i, j) ∈ prs T ↔ i < j ∧ j < tN T ∧ tF T i = tF T j := by
  unfold prs
  simp only [List.mem_flatMap, List.mem_range, List.mem_map, List.mem_filter, Bool.and_eq_true, decide_eq_true_eq, beq_iff_eq, Prod.mk.injEq]
  constructor
  · rintro ⟨a, ha, b, ⟨hb, h1, h2⟩, rfl, rfl⟩
    exact ⟨h1, hb, h2⟩
  · rintro ⟨h1, h2, h3⟩
    exact ⟨i, by omega, j, ⟨h2, h1, h3⟩, rfl, rfl⟩
/-- the terms of facts f, without their names -/
def TS (w : Mem) (f : Nat) (T : Trm) : Prop := tN T ≤ 24 ∧ TOK T ∧ gF w 7 10 f = nI (tN T) ∧ (∀ t, t < tN T → tF T t < 8 ∧ tA T (tF T t) ≤ 3 ∧ gA w 33 f t = nI (tF T t) ∧ gA w 31 f (tF T t) = nI (tA T (tF T t))) ∧ (∀ t k, t < tN T → k < tA T (tF T t) → gA w 36 f (t * 3 + k) = nI (tP T t k)) ∧ (prs T).length ≤ 276 ∧ gF w 7 11 f = nI (prs T).length ∧ ∀ (p i j : Nat), (prs T)[p]? = some (i, j) → gA w 38 f p = nI i ∧ gA w 39 f p = nI j
theorem lp_alike (k : Option Int32) (N f g n : Nat) {w : Mem} {T : Trm} {ld : Nat → Nat} (hT : TS w f T) (hG : GS w g (tN T) ld) {i j : Nat} (hi : i < tN T) (hj : j < tN T) (hij : tF T i = tF T j) : ∀ (r fuel q : Nat), q + r = tA T (tF T i) → r < fuel → lp_X7_alike_40 k N w f g (nI (i * 3)) (nI (j * 3)) (nI (tA T (tF T i))) fuel (nI q) = if eqFrom T ld i j q = true then k else some 0 := by
  obtain ⟨t1, t2, t3, t4, t5, -⟩ := hT
  obtain ⟨a, b, c, d, e⟩ := hG
  have h3 := (t4 i hi).2.1
  intro r
  induction r with
  | zero =>
    intro fuel q hq hf
    obtain ⟨f', rfl⟩ : ∃ f, fuel = f + 1 := ⟨fuel - 1, by omega⟩
    rw [lp_X7_alike_40, if_pos ((nI_le_iff (by omega) (by omega)).mpr (by omega)), if_pos (eqFrom_iff.mpr (fun x h1 h2 => by omega))]
  | succ r ih =>
    intro fuel q hq hf
    obtain ⟨f', rfl⟩ : ∃ f, fuel = f + 1 := ⟨fuel - 1, by omega⟩
    have p1 := t2 i hi q (by omega)
    have p2 := t2 j hj q (by rw [← hij]; omega)
    have b1 := b (tP T i q) (by omega)
    have b2 := b (tP T j q) (by omega)
    rw [lp_X7_alike_40, if_neg (fun z => by have := (nI_le_iff (by omega) (by omega)).mp z; omega), n_add, n_add, if_pos (inb_nI (by omega) (by omega)), nI_clamp (by omega), t5 i q hi (by omega), if_pos (inb_nI (by omega) (by omega)), if_pos (inb_nI (by omega) (by omega)), nI_clamp (show j * 3 + q < 2 ^ 31 by omega), t5 j q hj (by rw [← hij]; omega), if_pos (inb_nI (by omega) (by omega)), nI_clamp (by omega), nI_clamp (by omega), e _ (by omega), e _ (by omega), show nI q + (1 : Int32) = nI (q + 1) from n_add q 1, ih f' (q + 1) (by omega) (by omega)]
    by_cases z : ld (tP T i q) = ld (tP T j q)
    · rw [if_pos (by rw [z])]
      by_cases y : eqFrom T ld i j (q + 1) = true
      · rw [if_pos y, if_pos (eqFrom_iff.mpr (fun x h1 h2 => by
          by_cases hx : x = q
          · subst hx; exact z
          · exact eqFrom_iff.mp y x (by omega) h2))]
      · rw [if_neg y, if_neg (fun v => y (eqFrom_iff.mpr (fun x h1 h2 => eqFrom_iff.mp v x (by omega) h2)))]
    · rw [if_neg (fun v => z ((nI_inj_iff (by omega) (by omega)).mp v)), if_neg (fun v => z (eqFrom_iff.mp v q (Nat.le_refl _) (by omega)))]
theorem alike_ok {N f g p i j : Nat} {w : Mem} {T : Trm} {ld : Nat → Nat} (hT : TS w f T) (hG : GS w g (tN T) ld) (hp : (prs T)[p]? = some (i, j)) (hN : 3 < N) : f_X7_alike N w f (nI p) g = some (if eqParts T ld i j = true then 1 else 0) := by
  obtain ⟨h1, h2, h3⟩ := prs_mem.mp (List.mem_of_getElem? hp)
  have hl : p < (prs T).length := (List.getElem?_eq_some_iff.mp hp).1
  obtain ⟨t1, t2, t3, t4, t5, t6, t7, t8⟩ := id hT
  obtain ⟨q1, q2⟩ := t8 p i j hp
  obtain ⟨u1, u2, u3, u4⟩ := t4 i (by omega)
  rw [f_X7_alike, if_pos (inb_nI (by omega) (by omega)), nI_clamp (by omega), q1, q2, if_pos (inb_nI (by omega) (by omega)), nI_clamp (by omega), u3, if_pos (inb_nI (by omega) (by omega)), nI_clamp (by omega), u4, show nI i * (3 : Int32) = nI (i * 3) from n_mul i 3, show nI j * (3 : Int32) = nI (j * 3) from n_mul j 3, show (0 : Int32) = nI 0 from rfl]
  rw [lp_alike _ N f g 0 hT hG (by omega) h2 h3 (tA T (tF T i)) N 0 (by omega) (by omega)]
  by_cases z : eqParts T ld i j = true
  · rw [if_pos z, if_pos (eqFrom_iff.mpr (fun x _ h => eqParts_iff.mp z x h))]
    rfl
  · rw [if_neg z, if_neg (fun y => z (eqParts_iff.mpr (fun x h => eqFrom_iff.mp y x (Nat.zero_le _) h)))]
    rfl
/-- whether a pair is to be joined for its parts -/
def toJoin (T : Trm) (ld : Nat → Nat) (p : Nat × Nat) : Bool := decide (ld p.1 ≠ ld p.2) && eqParts T ld p.1 p.2
theorem lp_next (k : Option Int32) {N f g : Nat} {w : Mem} {T : Trm} {ld : Nat → Nat} (hT : TS w f T) (hG : GS w g (tN T) ld) (hN : 3 < N) : ∀ (r fuel q : Nat), q + r = (prs T).length → r < fuel → lp_X7_nextPair_2 k N w f g fuel (nI q) = match (((prs T).drop q).findIdx? (toJoin T ld)) with | some z => some (nI (q + z)) | none => k := by
  obtain ⟨t1, t2, t3, t4, t5, t6, t7, t8⟩ := id hT
  intro r
  induction r with
  | zero =>
    intro fuel q hq hf
    obtain ⟨f', rfl⟩ : ∃ f, fuel = f + 1 := ⟨fuel - 1, by omega⟩
    rw [lp_X7_nextPair_2, t7, if_pos ((nI_le_iff (by omega) (by omega)).mpr (by omega)), List.drop_of_length_le (by omega)]
    rfl
  | succ r ih =>
    intro fuel q hq hf
    obtain ⟨f', rfl⟩ : ∃ f, fuel = f + 1 := ⟨fuel - 1, by omega⟩
    obtain ⟨⟨i, j⟩, hp⟩ : ∃ p, (prs T)[q]? = some p := ⟨_, List.getElem?_eq_getElem (by omega)⟩
    obtain ⟨h1, h2, h3⟩ := prs_mem.mp (List.mem_of_getElem? hp)
    obtain ⟨q1, q2⟩ := t8 q i j hp
    have hd : (prs T).drop q = (i, j) :: (prs T).drop (q + 1) := by
      rw [List.drop_eq_getElem_cons (by omega)]
      congr 1
      have := List.getElem?_eq_getElem (l := prs T) (i := q) (by omega)
      rw [hp] at this
      exact (Option.some.inj this).symm
    rw [lp_X7_nextPair_2, t7, if_neg (fun z => by have := (nI_le_iff (by omega) (by omega)).mp z; omega), if_pos (inb_nI (by omega) (by omega)), nI_clamp (by omega), q1, q2, one_ok hG N (by omega) h2, Option.bind_some, alike_ok hT hG hp hN, Option.bind_some, show nI q + (1 : Int32) = nI (q + 1) from n_add q 1, ih f' (q + 1) (by omega) (by omega), hd, List.findIdx?_cons]
    have key : ((match ((prs T).drop (q + 1)).findIdx? (toJoin T ld) with | some z => some (nI (q + 1 + z)) | none => k) : Option Int32) = match (((prs T).drop (q + 1)).findIdx? (toJoin T ld)).map (fun i => i + 1) with | some z => some (nI (q + z)) | none => k := by
      cases ((prs T).drop (q + 1)).findIdx? (toJoin T ld) with
      | none => rfl
      | some z => show some (nI (q + 1 + z)) = some (nI (q + (z + 1))); congr 2; omega
    by_cases z : ld i = ld j
    · have e1 : toJoin T ld (i, j) = false := by simp [toJoin, z]
      rw [if_pos z, if_neg (by decide), e1, if_neg (by decide)]
      exact key
    · rw [if_neg z, if_pos rfl]
      by_cases y : eqParts T ld i j = true
      · have e1 : toJoin T ld (i, j) = true := by simp [toJoin, z, y]
        rw [if_pos y, if_neg (by decide), e1, if_pos rfl]
        rfl
      · have e1 : toJoin T ld (i, j) = false := by simp [toJoin, y]
        rw [if_neg y, if_pos rfl, e1, if_neg (by decide)]
        exact key
theorem nextPair_ok {N f g : Nat} {w : Mem} {T : Trm} {ld : Nat → Nat} (hT : TS w f T) (hG : GS w g (tN T) ld) (hN : 276 < N) : f_X7_nextPair N w f g = some (match (prs T).findIdx? (toJoin T ld) with | some z => nI z | none => -1) := by
  have h6 := hT.2.2.2.2.2.1
  rw [f_X7_nextPair, show (0 : Int32) = nI 0 from rfl, lp_next _ hT hG (by omega) (prs T).length N 0 (by omega) (by omega), List.drop_zero]
  cases (prs T).findIdx? (toJoin T ld) with
  | none => rfl
  | some z => show some (nI (0 + z)) = some (nI z); rw [Nat.zero_add]

