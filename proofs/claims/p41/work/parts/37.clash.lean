/-! Facts: one more same supposed, and the clashes -/
theorem supposeSame_ok {N f g a b : Nat} {w : Mem} {T : Trm} {E : Nat → Nat → Prop} {ld : Nat → Nat} (hN : 276 < N) (hT : TS w f T) (hG : GS w g (tN T) ld) (hld : ∀ i j, i < tN T → j < tN T → (ld i = ld j ↔ Cg T E i j)) (hE : ∀ i j, E i j → i < tN T ∧ j < tN T) (ha : a < tN T) (hb : b < tN T) : ∃ w' ld', f_X1_supposeSame N w f (nI a) (nI b) g = some w' ∧ GS w' g (tN T) ld' ∧ (∀ i j, i < tN T → j < tN T → (ld' i = ld' j ↔ Cg T (fun x y => E x y ∨ (x = a ∧ y = b)) i j)) ∧ Fr (gP g) (fun k i => gQ g k i ∨ k = 37 ∧ i = f) w w' := by
  have t1 := hT.1
  by_cases z : ld a = ld b
  · refine ⟨w, ld, ?_, hG, fun i j hi hj => ?_, Fr.rf⟩
    · rw [f_X1_supposeSame, one_ok hG N ha hb, Option.bind_some, if_pos z, if_neg (by decide)]
    · rw [hld i j hi hj]
      refine ⟨fun h => cg_mono (fun _ _ h => Or.inl h) h, fun h => cg_trans hT.2.1 (fun x y h => ?_) h⟩
      rcases h with h | ⟨rfl, rfl⟩
      · exact cg_in h
      · exact (hld _ _ ha hb).mp z
  · obtain ⟨w1, a1, a2, a3⟩ := unite_ok hG (N := N) (by omega) ha hb
    obtain ⟨w2, ld2, b1, b2, b3, b4⟩ := close_ok hN (hT.fr a3 (fun _ _ _ h => by omega) (fun _ _ h => by omega)) a2
    refine ⟨w2, ld2, ?_, b2, clo_iff b3.1 (fun i j h => ?_) ?_, Fr.tr (a3.mono (fun _ _ _ h => h) (fun _ _ h => Or.inl h)) b4⟩
    · rw [f_X1_supposeSame, one_ok hG N ha hb, Option.bind_some, if_neg z, if_pos rfl, a1, Option.bind_some, b1]
      rfl
    · apply b3.2.1
      rcases h with h | ⟨rfl, rfl⟩
      · exact un_mono ((hld i j (hE i j h).1 (hE i j h).2).mpr (cg_in h))
      · exact un_a
    · refine b3.2.2 _ (cg_congr T hT.2.1 _) (jst_un (cg_congr T hT.2.1 _) (fun i j hi hj h => ?_) ha hb (cg_in (Or.inr ⟨rfl, rfl⟩)))
      exact cg_mono (fun _ _ h => Or.inl h) ((hld i j hi hj).mp h)
/-- the diffs of facts f -/
def DS (w : Mem) (f n : Nat) (Q : List (Nat × Nat)) : Prop := Q.length ≤ 8 ∧ gF w 1 10 f = nI Q.length ∧ ∀ (p i j : Nat), Q[p]? = some (i, j) → i < n ∧ j < n ∧ gA w 15 f p = nI i ∧ gA w 16 f p = nI j
theorem DS.fr {w v : Mem} {f n : Nat} {S : List (Nat × Nat)} {P : Nat → Nat → Nat → Prop} {Q : Nat → Nat → Prop} (h : DS w f n S) (hf : Fr P Q w v) (hP : ∀ k j i, P k j i → k ≠ 1) (hQ : ∀ k i, Q k i → k ≠ 15 ∧ k ≠ 16) : DS v f n S := by
  obtain ⟨s1, s2, s3⟩ := h
  have a1 : gF v 1 10 f = gF w 1 10 f := hf.1 _ _ _ (fun z => hP _ _ _ z rfl)
  have b1 : gA v 15 f = gA w 15 f := hf.2.1 _ _ (fun z => (hQ _ _ z).1 rfl)
  have b2 : gA v 16 f = gA w 16 f := hf.2.1 _ _ (fun z => (hQ _ _ z).2 rfl)
  refine ⟨s1, a1.trans s2, fun p i j hp => ?_⟩
  rw [b1, b2]; exact s3 p i j hp
theorem clashes_ok {N f g n p i j : Nat} {w : Mem} {ld : Nat → Nat} {Q : List (Nat × Nat)} (hQ : DS w f n Q) (hG : GS w g n ld) (hp : Q[p]? = some (i, j)) : f_X1_clashes N w f (nI p) g = some (if ld i = ld j then 1 else 0) := by
  obtain ⟨h1, h2, q1, q2⟩ := hQ.2.2 p i j hp
  have hl := (List.getElem?_eq_some_iff.mp hp).1
  have s1 := hQ.1
  rw [f_X1_clashes, if_pos (inb_nI (by omega) (by omega)), nI_clamp (by omega), q1, q2, one_ok hG N h1 h2, Option.bind_some]
  by_cases z : ld i = ld j
  · rw [if_pos z, if_pos (Or.inr rfl)]
  · rw [if_neg z, if_pos (Or.inl rfl)]
/-- the first diff whose two are one by ld -/
def fcl (ld : Nat → Nat) (Q : List (Nat × Nat)) : Option Nat := Q.findIdx? (fun p => decide (ld p.1 = ld p.2))
theorem lp_firstClash (k : Option Int32) {N f g n : Nat} {w : Mem} {ld : Nat → Nat} {Q : List (Nat × Nat)} (hQ : DS w f n Q) (hG : GS w g n ld) : ∀ (r fuel q : Nat), q + r = Q.length → r < fuel → lp_X1_firstClash_2 k N w f g fuel (nI q) = match fcl ld (Q.drop q) with | some z => some (nI (q + z)) | none => k := by
  have s1 := hQ.1
  intro r
  induction r with
  | zero =>
    intro fuel q hq hf
    obtain ⟨f', rfl⟩ : ∃ f, fuel = f + 1 := ⟨fuel - 1, by omega⟩
    rw [lp_X1_firstClash_2, hQ.2.1, if_pos ((nI_le_iff (by omega) (by omega)).mpr (by omega)), List.drop_of_length_le (by omega)]
    rfl
  | succ r ih =>
    intro fuel q hq hf
    obtain ⟨f', rfl⟩ : ∃ f, fuel = f + 1 := ⟨fuel - 1, by omega⟩
    obtain ⟨⟨i, j⟩, hp⟩ : ∃ p, Q[q]? = some p := ⟨_, List.getElem?_eq_getElem (by omega)⟩
    have hd : Q.drop q = (i, j) :: Q.drop (q + 1) := by
      rw [List.drop_eq_getElem_cons (by omega)]
      congr 1
      have := List.getElem?_eq_getElem (l := Q) (i := q) (by omega)
      rw [hp] at this
      exact (Option.some.inj this).symm
    rw [lp_X1_firstClash_2, hQ.2.1, if_neg (fun z => by have := (nI_le_iff (by omega) (by omega)).mp z; omega), clashes_ok hQ hG hp, Option.bind_some, show nI q + (1 : Int32) = nI (q + 1) from n_add q 1, ih f' (q + 1) (by omega) (by omega), hd]
    by_cases z : ld i = ld j
    · rw [if_pos z, if_neg (by decide), fcl, List.findIdx?_cons, if_pos (by simp [z])]
      rfl
    · rw [if_neg z, if_pos rfl, fcl, fcl, List.findIdx?_cons, if_neg (by simp [z])]
      cases (Q.drop (q + 1)).findIdx? (fun p => decide (ld p.1 = ld p.2)) with
      | none => rfl
      | some z => show some (nI (q + 1 + z)) = some (nI (q + (z + 1))); congr 2; omega
theorem firstClash_ok {N f g n : Nat} {w : Mem} {ld : Nat → Nat} {Q : List (Nat × Nat)} (hQ : DS w f n Q) (hG : GS w g n ld) (hN : 8 < N) : f_X1_firstClash N w f g = some (match fcl ld Q with | some z => nI z | none => -2) := by
  have s1 := hQ.1
  rw [f_X1_firstClash, show (0 : Int32) = nI 0 from rfl, lp_firstClash _ hQ hG Q.length N 0 (by omega) (by omega), List.drop_zero]
  cases fcl ld Q with
  | none => rfl
  | some z => show some (nI (0 + z)) = some (nI z); rw [Nat.zero_add]

