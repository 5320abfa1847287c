/-! Terms: madeOf -/
/-- the leads of the first parts as digits -/
def mkc (T : Trm) (ld : Nat → Nat) (t : Nat) : Nat → Nat
  | 0 => 0
  | q + 1 => mkc T ld t q * 24 + ld (tP T t q)
theorem mkc_lt {T : Trm} {ld : Nat → Nat} {t : Nat} : ∀ (q : Nat), (∀ k, k < q → ld (tP T t k) < 24) → mkc T ld t q < 24 ^ q
  | 0, _ => Nat.one_pos
  | q + 1, h => by
    have h1 := mkc_lt q (fun k hk => h k (by omega))
    have h2 := h q (by omega)
    rw [mkc, Nat.pow_succ]
    omega
theorem mkc_iff {T : Trm} {ld : Nat → Nat} {i j : Nat} : ∀ (q : Nat), (∀ k, k < q → ld (tP T i k) < 24) → (∀ k, k < q → ld (tP T j k) < 24) → (mkc T ld i q = mkc T ld j q ↔ ∀ k, k < q → ld (tP T i k) = ld (tP T j k))
  | 0, _, _ => ⟨fun _ k hk => absurd hk (Nat.not_lt_zero k), fun _ => rfl⟩
  | q + 1, h1, h2 => by
    have ih := mkc_iff q (fun k hk => h1 k (by omega)) (fun k hk => h2 k (by omega))
    have a := h1 q (by omega)
    have b := h2 q (by omega)
    rw [mkc, mkc]
    constructor
    · intro h k hk
      by_cases e : k = q
      · subst e; omega
      · exact ih.mp (by omega) k (by omega)
    · intro h
      rw [ih.mpr (fun k hk => h k (by omega)), h q (by omega)]
theorem mkc_small {T : Trm} {ld : Nat → Nat} {t q : Nat} (hq : q ≤ 3) (h : ∀ k, k < q → ld (tP T t k) < 24) : mkc T ld t q < 13824 := by
  have h1 := mkc_lt q h
  have h2 : 24 ^ q ≤ 24 ^ 3 := Nat.pow_le_pow_right (by decide) hq
  have h3 : (24 : Nat) ^ 3 = 13824 := by decide
  omega
theorem lp_madeOf (k : Int32 → Option Int32) (N f g : Nat) {w : Mem} {T : Trm} {ld : Nat → Nat} (hT : TS w f T) (hG : GS w g (tN T) ld) {t : Nat} (ht : t < tN T) : ∀ (r fuel q : Nat), q + r = tA T (tF T t) → r < fuel → lp_X7_madeOf_5 k N w f g (nI t) fuel (nI (mkc T ld t q)) (nI q) = k (nI (mkc T ld t (tA T (tF T t)))) := by
  obtain ⟨t1, t2, t3, t4, t5, -⟩ := hT
  obtain ⟨a, b, c, d, e⟩ := hG
  obtain ⟨u1, u2, u3, u4⟩ := t4 t ht
  have hl : ∀ k, k < tA T (tF T t) → ld (tP T t k) < 24 := fun k hk => by
    have x1 := t2 t ht k hk
    have x2 := (b (tP T t k) (by omega)).1
    omega
  intro r
  induction r with
  | zero =>
    intro fuel q hq hf
    obtain ⟨f', rfl⟩ : ∃ f, fuel = f + 1 := ⟨fuel - 1, by omega⟩
    rw [lp_X7_madeOf_5, if_pos (inb_nI (by omega) (by omega)), nI_clamp (by omega), u3, if_pos (inb_nI (by omega) (by omega)), nI_clamp (by omega), u4, if_pos ((nI_le_iff (by omega) (by omega)).mpr (by omega)), show q = tA T (tF T t) from by omega]
  | succ r ih =>
    intro fuel q hq hf
    obtain ⟨f', rfl⟩ : ∃ f, fuel = f + 1 := ⟨fuel - 1, by omega⟩
    have p1 := t2 t ht q (by omega)
    have b1 := b (tP T t q) (by omega)
    rw [lp_X7_madeOf_5, if_pos (inb_nI (by omega) (by omega)), nI_clamp (by omega), u3, if_pos (inb_nI (by omega) (by omega)), nI_clamp (by omega), u4, if_neg (fun z => by have := (nI_le_iff (by omega) (by omega)).mp z; omega), show nI t * (3 : Int32) = nI (t * 3) from n_mul t 3, n_add, if_pos (inb_nI (by omega) (by omega)), nI_clamp (show t * 3 + q < 2 ^ 31 by omega), t5 t q ht (by omega), if_pos (inb_nI (by omega) (by omega)), nI_clamp (by omega), e _ (by omega), show nI (mkc T ld t q) * (24 : Int32) = nI (mkc T ld t q * 24) from n_mul _ 24, n_add, show nI q + (1 : Int32) = nI (q + 1) from n_add q 1]
    exact ih f' (q + 1) (by omega) (by omega)
theorem madeOf_ok {N f g t : Nat} {w : Mem} {T : Trm} {ld : Nat → Nat} (hT : TS w f T) (hG : GS w g (tN T) ld) (ht : t < tN T) (hN : 3 < N) : f_X7_madeOf N w f (nI t) g = some (nI (mkc T ld t (tA T (tF T t)))) := by
  have h3 := (hT.2.2.2.1 t ht).2.1
  rw [f_X7_madeOf]
  exact lp_madeOf _ N f g hT hG ht (tA T (tF T t)) N 0 (by omega) (by omega)
theorem gA_sA_ne {w : Mem} {k i x k' i' : Nat} {v : Int32} (h : ¬ (k' = k ∧ i' = i)) : gA (sA w k i x v) k' i' = gA w k' i' := by
  unfold sA
  rw [gA_sAf, if_neg h]
theorem gA_sA_in {w : Mem} {k i x y : Nat} {v : Int32} : gA (sA w k i x v) k i y = if y = x then v else gA w k i y := by
  unfold sA
  rw [gA_sAf_self]
  rfl
theorem gA_sA_self {w : Mem} {k i x : Nat} {v : Int32} : gA (sA w k i x v) k i x = v := by rw [gA_sA_in, if_pos rfl]
theorem gA_sA_at {w : Mem} {k i x y : Nat} {v : Int32} (h : y ≠ x) : gA (sA w k i x v) k i y = gA w k i y := by rw [gA_sA_in, if_neg h]
theorem TS.fr {w v : Mem} {f : Nat} {T : Trm} {P : Nat → Nat → Nat → Prop} {Q : Nat → Nat → Prop} (h : TS w f T) (hf : Fr P Q w v) (hP : ∀ k j i, P k j i → k ≠ 7) (hQ : ∀ k i, Q k i → k ≠ 31 ∧ k ≠ 33 ∧ k ≠ 36 ∧ k ≠ 38 ∧ k ≠ 39) : TS v f T := by
  obtain ⟨t1, t2, t3, t4, t5, t6, t7, t8⟩ := h
  have a1 : gF v 7 10 f = gF w 7 10 f := hf.1 _ _ _ (fun z => hP _ _ _ z rfl)
  have a2 : gF v 7 11 f = gF w 7 11 f := hf.1 _ _ _ (fun z => hP _ _ _ z rfl)
  have b1 : gA v 31 f = gA w 31 f := hf.2.1 _ _ (fun z => (hQ _ _ z).1 rfl)
  have b2 : gA v 33 f = gA w 33 f := hf.2.1 _ _ (fun z => (hQ _ _ z).2.1 rfl)
  have b3 : gA v 36 f = gA w 36 f := hf.2.1 _ _ (fun z => (hQ _ _ z).2.2.1 rfl)
  have b4 : gA v 38 f = gA w 38 f := hf.2.1 _ _ (fun z => (hQ _ _ z).2.2.2.1 rfl)
  have b5 : gA v 39 f = gA w 39 f := hf.2.1 _ _ (fun z => (hQ _ _ z).2.2.2.2 rfl)
  refine ⟨t1, t2, a1.trans t3, fun t ht => ?_, fun t k ht hk => ?_, t6, a2.trans t7, fun p i j hp => ?_⟩
  · rw [b1, b2]; exact t4 t ht
  · rw [b3]; exact t5 t k ht hk
  · rw [b4, b5]; exact t8 p i j hp
/-- what climb may change: the row made, and the groups -/
theorem lp_climb1 (k : Mem → Option Mem) {N f g g2 : Nat} {T : Trm} {ld : Nat → Nat} (hN : 3 < N) : ∀ (r fuel t : Nat) (w : Mem), t + r = tN T → r < fuel → TS w f T → GS w g (tN T) ld → (∀ i, i < t → gA w 37 f i = nI (mkc T ld i (tA T (tF T i)))) → ∃ w', lp_X7_climb_2 k N f g g2 fuel w (nI t) = k w' ∧ (∀ i, i < tN T → gA w' 37 f i = nI (mkc T ld i (tA T (tF T i)))) ∧ Fr (fun _ _ _ => False) (fun k i => k = 37 ∧ i = f) w w' := by
  intro r
  induction r with
  | zero =>
    intro fuel t w ht hf hT hG hm
    obtain ⟨f', rfl⟩ : ∃ f, fuel = f + 1 := ⟨fuel - 1, by omega⟩
    have t1 := hT.1
    refine ⟨w, ?_, fun i hi => hm i (by omega), Fr.rf⟩
    rw [lp_X7_climb_2, hT.2.2.1, if_pos ((nI_le_iff (by omega) (by omega)).mpr (by omega))]
  | succ r ih =>
    intro fuel t w ht hf hT hG hm
    obtain ⟨f', rfl⟩ : ∃ f, fuel = f + 1 := ⟨fuel - 1, by omega⟩
    have t1 := hT.1
    have hfr : Fr (fun _ _ _ => False) (fun k i => k = 37 ∧ i = f) w (sA w 37 f t (nI (mkc T ld t (tA T (tF T t))))) := by
      refine ⟨fun _ _ _ _ => rfl, fun k i hki => ?_, fun _ _ => rfl, fun _ _ _ => rfl⟩
      exact gA_sA_ne hki
    have hT' : TS (sA w 37 f t (nI (mkc T ld t (tA T (tF T t))))) f T := hT.fr hfr (fun _ _ _ h => h.elim) (fun k i h => by omega)
    have hG' : GS (sA w 37 f t (nI (mkc T ld t (tA T (tF T t))))) g (tN T) ld := hG.of rfl rfl (hfr.2.1 _ _ (by omega))
    obtain ⟨w', e1, e2, e3⟩ := ih f' (t + 1) _ (by omega) (by omega) hT' hG' (fun i hi => by
      by_cases e : i = t
      · subst e; exact gA_sA_self
      · rw [gA_sA_at e]; exact hm i (by omega))
    refine ⟨w', ?_, e2, hfr.tr e3⟩
    rw [lp_X7_climb_2, hT.2.2.1, if_neg (fun z => by have := (nI_le_iff (by omega) (by omega)).mp z; omega), madeOf_ok hT hG (by omega) hN, Option.bind_some, if_pos (inb_nI (by omega) (by omega)), nI_clamp (by omega), show nI t + (1 : Int32) = nI (t + 1) from n_add t 1]
    exact e1
/-- one climb: the pairs that are alike by ld are joined in d -/
def clb (T : Trm) (ld : Nat → Nat) (l : List (Nat × Nat)) (d : Nat → Nat) : Nat → Nat := l.foldl (fun d p => if eqParts T ld p.1 p.2 = true then un d p.1 p.2 else d) d
theorem lp_climb2 (k : Mem → Option Mem) {N f g g2 : Nat} {T : Trm} {ld : Nat → Nat} (hN : 24 < N) (hC : Can (tN T) ld) : ∀ (r fuel q : Nat) (w : Mem) (d : Nat → Nat), q + r = (prs T).length → r < fuel → TS w f T → GS w g2 (tN T) d → (∀ i, i < tN T → gA w 37 f i = nI (mkc T ld i (tA T (tF T i)))) → ∃ w', lp_X7_climb_30 k N f g g2 fuel w (nI q) = k w' ∧ GS w' g2 (tN T) (clb T ld ((prs T).drop q) d) ∧ Fr (gP g2) (gQ g2) w w' := by
  intro r
  induction r with
  | zero =>
    intro fuel q w d hq hf hT hG hm
    obtain ⟨f', rfl⟩ : ∃ f, fuel = f + 1 := ⟨fuel - 1, by omega⟩
    have h6 := hT.2.2.2.2.2.1
    refine ⟨w, ?_, ?_, Fr.rf⟩
    · rw [lp_X7_climb_30, hT.2.2.2.2.2.2.1, if_pos ((nI_le_iff (by omega) (by omega)).mpr (by omega))]
    · rw [List.drop_of_length_le (by omega)]; exact hG
  | succ r ih =>
    intro fuel q w d hq hf hT hG hm
    obtain ⟨f', rfl⟩ : ∃ f, fuel = f + 1 := ⟨fuel - 1, by omega⟩
    obtain ⟨t1, t2, t3, t4, t5, t6, t7, t8⟩ := id hT
    obtain ⟨⟨i, j⟩, hp⟩ : ∃ p, (prs T)[q]? = some p := ⟨_, List.getElem?_eq_getElem (by omega)⟩
    obtain ⟨h1, h2, h3⟩ := prs_mem.mp (List.mem_of_getElem? hp)
    obtain ⟨q1, q2⟩ := t8 q i j hp
    have hd : (prs T).drop q = (i, j) :: (prs T).drop (q + 1) := by
      rw [List.drop_eq_getElem_cons (by omega)]
      congr 1
      have := List.getElem?_eq_getElem (l := prs T) (i := q) (by omega)
      rw [hp] at this
      exact (Option.some.inj this).symm
    have hl : ∀ t, t < tN T → ∀ k, k < tA T (tF T t) → ld (tP T t k) < 24 := fun t ht k hk => by
      have x1 := t2 t ht k hk
      have x2 := (hC (tP T t k) (by omega)).1
      omega
    have hci := mkc_small (t4 i (by omega)).2.1 (hl i (by omega))
    have hcj := mkc_small (t4 j h2).2.1 (hl j h2)
    have hiff : mkc T ld i (tA T (tF T i)) = mkc T ld j (tA T (tF T j)) ↔ eqParts T ld i j = true := by
      rw [eqParts_iff, ← h3]
      exact mkc_iff _ (hl i (by omega)) (by rw [h3]; exact hl j h2)
    have hstep : ∀ v, lp_X7_climb_30 k N f g g2 (f' + 1) w (nI q) = v ↔ (if eqParts T ld i j = true then Option.bind (f_X3_unite N w g2 (nI i) (nI j)) (fun z => lp_X7_climb_30 k N f g g2 f' z (nI (q + 1))) else lp_X7_climb_30 k N f g g2 f' w (nI (q + 1))) = v := by
      intro v
      rw [lp_X7_climb_30, t7, if_neg (fun z => by have := (nI_le_iff (by omega) (by omega)).mp z; omega), if_pos (inb_nI (by omega) (by omega)), nI_clamp (by omega), q1, q2, if_pos (inb_nI (by omega) (by omega)), if_pos (inb_nI (by omega) (by omega)), nI_clamp (show i < 2 ^ 31 by omega), nI_clamp (show j < 2 ^ 31 by omega), hm i (by omega), hm j h2, show nI q + (1 : Int32) = nI (q + 1) from n_add q 1]
      by_cases z : eqParts T ld i j = true
      · rw [if_pos z, if_pos (by rw [hiff.mpr z])]
      · rw [if_neg z, if_neg (fun y => z (hiff.mp ((nI_inj_iff (by omega) (by omega)).mp y)))]
    by_cases z : eqParts T ld i j = true
    · obtain ⟨w1, e1, e2, e3⟩ := unite_ok hG (N := N) (i := i) (j := j) (by omega) (by omega) h2
      obtain ⟨w', a1, a2, a3⟩ := ih f' (q + 1) w1 (un d i j) (by omega) (by omega) (hT.fr e3 (fun _ _ _ h => by omega) (fun _ _ h => by omega)) e2 (fun x hx => by rw [e3.2.1 37 f (by omega)]; exact hm x hx)
      refine ⟨w', (hstep _).mpr ?_, ?_, e3.tr a3⟩
      · rw [if_pos z, e1, Option.bind_some]; exact a1
      · rw [hd]
        show GS w' g2 (tN T) (clb T ld ((prs T).drop (q + 1)) (if eqParts T ld i j = true then un d i j else d))
        rw [if_pos z]; exact a2
    · obtain ⟨w', a1, a2, a3⟩ := ih f' (q + 1) w d (by omega) (by omega) hT hG hm
      refine ⟨w', (hstep _).mpr ?_, ?_, a3⟩
      · rw [if_neg z]; exact a1
      · rw [hd]
        show GS w' g2 (tN T) (clb T ld ((prs T).drop (q + 1)) (if eqParts T ld i j = true then un d i j else d))
        rw [if_neg z]; exact a2
theorem climb_ok {N f g g2 : Nat} {w : Mem} {T : Trm} {ld d : Nat → Nat} (hN : 276 < N) (hT : TS w f T) (hG : GS w g (tN T) ld) (hG2 : GS w g2 (tN T) d) : ∃ w', f_X7_climb N w f g g2 = some w' ∧ GS w' g2 (tN T) (clb T ld (prs T) d) ∧ Fr (gP g2) (fun k i => gQ g2 k i ∨ k = 37 ∧ i = f) w w' := by
  have h6 := hT.2.2.2.2.2.1
  have h1 := hT.1
  obtain ⟨w1, a1, a2, a3⟩ := lp_climb1 (fun w_1 => f_X7_climb_28 N w_1 f g g2) (N := N) (g2 := g2) (by omega) (tN T) N 0 w (by omega) (by omega) hT hG (fun i hi => absurd hi (Nat.not_lt_zero i))
  obtain ⟨w2, b1, b2, b3⟩ := lp_climb2 (fun w_2 => f_X7_climb_85 N w_2 f g g2) (N := N) (g := g) (by omega) hG.2.1 (prs T).length N 0 w1 d (by omega) (by omega) (hT.fr a3 (fun _ _ _ h => h.elim) (fun _ _ h => by omega)) (hG2.of (a3.1 _ _ _ (fun h => h)) (a3.1 _ _ _ (fun h => h)) (a3.2.1 _ _ (by omega))) a2
  refine ⟨w2, ?_, by simpa using b2, Fr.tr (a3.mono (fun _ _ _ h => h.elim) (fun _ _ h => Or.inr h)) (b3.mono (fun _ _ _ h => h) (fun _ _ h => Or.inl h))⟩
  rw [f_X7_climb]
  exact a1.trans b1

