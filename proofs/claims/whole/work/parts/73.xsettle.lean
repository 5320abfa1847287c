/-! the class: rounds of laying -/
/-- what a matrix and its steps keep throughout -/
def CK (T : Trm) (S : Prs) (ld : Nat → Nat) (X P : Mx) : Prop := MC (tN T) X ∧ (∀ E, Sol T S ld E → Und (tN T) E X) ∧ (∀ t u, t < tN T → u < tN T → P t u = P u t) ∧ (∀ t u, t < tN T → u < tN T → P t u ≤ 1000000001) ∧ ∀ E, Sol T S ld E → ∀ t u, t < tN T → u < tN T → wt T S ld E t u ≤ P t u
theorem pv_le (P : Mx) (i j s a b : Nat) : (a = i ∧ b = j ∨ a = j ∧ b = i) → pv P i j s a b ≤ s := fun h => by
  unfold pv
  rw [if_pos h]; exact Nat.min_le_left _ _
theorem pv_le2 {n : Nat} {P : Mx} (hs : ∀ t u, t < n → u < n → P t u = P u t) {i j s a b : Nat} (hi : i < n) (hj : j < n) : pv P i j s a b ≤ P a b := by
  unfold pv
  split
  · rename_i h
    refine Nat.le_trans (Nat.min_le_right _ _) ?_
    rcases h with ⟨h1, h2⟩ | ⟨h1, h2⟩
    · rw [h1, h2]; exact Nat.le_refl _
    · rw [h1, h2, hs i j hi hj]; exact Nat.le_refl _
  · exact Nat.le_refl _
theorem CK.step {T : Trm} {S : Prs} {ld : Nat → Nat} {X P X' : Mx} (h : CK T S ld X P) {i j s : Nat} (hi : i < tN T) (hj : j < tN T) (h1 : ∀ E, Sol T S ld E → E i j ≤ s ∧ E j i ≤ s ∧ wt T S ld E i j ≤ s ∧ wt T S ld E j i ≤ s) (hX : X' = ly X i j s ∨ X' = X) : CK T S ld X' (pv P i j s) := by
  obtain ⟨k1, k2, k3, k4, k5⟩ := h
  refine ⟨?_, fun E hE => ?_, fun t u ht hu => ?_, fun t u ht hu => Nat.le_trans (pv_le2 k3 hi hj) (k4 t u ht hu), fun E hE t u ht hu => ?_⟩
  · rcases hX with e | e
    · rw [e]; exact ly_mc k1 hi hj
    · rw [e]; exact k1
  · rcases hX with e | e
    · rw [e]; exact ly_und hi hj (sol_tri hE) (k2 E hE) (h1 E hE).1 (h1 E hE).2.1
    · rw [e]; exact k2 E hE
  · unfold pv
    by_cases z : (t = i ∧ u = j) ∨ (t = j ∧ u = i)
    · rw [if_pos z, if_pos (by omega)]
    · rw [if_neg z, if_neg (by omega)]; exact k3 t u ht hu
  · unfold pv
    by_cases z : (t = i ∧ u = j) ∨ (t = j ∧ u = i)
    · rw [if_pos z]
      refine Nat.le_min.mpr ⟨?_, ?_⟩
      · rcases z with ⟨z1, z2⟩ | ⟨z1, z2⟩
        · rw [z1, z2]; exact (h1 E hE).2.2.1
        · rw [z1, z2]; exact (h1 E hE).2.2.2
      · rcases z with ⟨z1, z2⟩ | ⟨z1, z2⟩
        · rw [z1, z2]; exact k5 E hE i j hi hj
        · rw [z1, z2, k3 i j hi hj]; exact k5 E hE j i hj hi
    · rw [if_neg z]; exact k5 E hE t u ht hu
/-- the sames are in -/
def SI (S : Prs) (X P : Mx) (q : Nat) : Prop := ∀ (p i j : Nat), p < q → S[p]? = some (i, j) → X i j ≤ 1 ∧ P i j ≤ 1
theorem ly_le' {X X' : Mx} {i j s : Nat} (hX : X' = ly X i j s ∨ X' = X) (a b : Nat) : X' a b ≤ X a b := by
  rcases hX with e | e
  · rw [e]; exact ly_le _ _ _ _ _ _
  · rw [e]; exact Nat.le_refl _
theorem SI.step {n : Nat} {S : Prs} {X P X' : Mx} {q i j s : Nat} (h : SI S X P q) (hs : ∀ t u, t < n → u < n → P t u = P u t) (hi : i < n) (hj : j < n) (hX : X' = ly X i j s ∨ X' = X) : SI S X' (pv P i j s) q := fun p a b hp hab =>
  ⟨Nat.le_trans (ly_le' hX a b) (h p a b hp hab).1, Nat.le_trans (pv_le2 hs hi hj) (h p a b hp hab).2⟩
/-- a part of the pair is shorter than it was -/
def chg (T : Trm) (M X : Mx) (i j : Nat) : Prop := ∃ k, k < tA T (tF T i) ∧ X (tP T i k) (tP T j k) < M (tP T i k) (tP T j k)
/-- in a round that began with M, behind q pairs -/
def RI (T : Trm) (S : Prs) (ld : Nat → Nat) (M : Mx) (m q fl : Nat) (X P : Mx) : Prop :=
  CK T S ld X P ∧ SI S X P S.length ∧ Und (tN T) X M ∧ (∀ t u, t < tN T → u < tN T → X t u = M t u ∨ m ≤ X t u) ∧ (∀ (p i j : Nat), p < q → (prs T)[p]? = some (i, j) → eqParts T ld i j = true → X i j ≤ psm T X i j ∨ chg T M X i j) ∧ fl < 2 ∧ (fl = 0 → (∀ t u, t < tN T → u < tN T → X t u = M t u) ∧ ∀ (p i j : Nat), p < q → (prs T)[p]? = some (i, j) → eqParts T ld i j = true → P i j ≤ psm T M i j) ∧ (fl = 1 → ∃ t u, t < tN T ∧ u < tN T ∧ X t u < M t u)
def QQ (T : Trm) (ld : Nat → Nat) (M : Mx) (m : Nat) : Prop := ∀ i j, (i, j) ∈ prs T → eqParts T ld i j = true → M i j ≤ psm T M i j ∨ m ≤ psm T M i j
theorem parts_lt {T : Trm} (hT : TOK T) {i j k : Nat} (hi : i < tN T) (hj : j < tN T) (hij : tF T i = tF T j) (hk : k < tA T (tF T i)) : tP T i k < tN T ∧ tP T j k < tN T := by
  have h1 := hT i hi k hk
  have h2 := hT j hj k (by rw [← hij]; exact hk)
  exact ⟨by omega, by omega⟩
theorem psm_sym {T : Trm} {X : Mx} (hT : TOK T) (hX : MC (tN T) X) {i j : Nat} (hi : i < tN T) (hj : j < tN T) (hij : tF T i = tF T j) : psm T X i j = psm T X j i := by
  unfold psm
  rw [← hij]
  exact psum_sym T X i j _ (fun k hk => hX.2.2.1 _ _ (parts_lt hT hi hj hij hk).1 (parts_lt hT hi hj hij hk).2)
theorem psm_und {T : Trm} {E X : Mx} (hT : TOK T) (h : Und (tN T) E X) {i j : Nat} (hi : i < tN T) (hj : j < tN T) (hij : tF T i = tF T j) : psm T E i j ≤ psm T X i j :=
  psum_mono T i j _ (fun k hk => h _ _ (parts_lt hT hi hj hij hk).1 (parts_lt hT hi hj hij hk).2)
theorem eqP_sym {T : Trm} {ld : Nat → Nat} {i j : Nat} (hij : tF T i = tF T j) (h : eqParts T ld i j = true) : eqParts T ld j i = true := eqParts_iff.mpr (fun k hk => (eqParts_iff.mp h k (by rw [hij]; exact hk)).symm)
theorem pair_h1 {T : Trm} {S : Prs} {ld : Nat → Nat} {X P : Mx} (hT : TOK T) (h : CK T S ld X P) {i j : Nat} (hi : i < tN T) (hj : j < tN T) (hne : i ≠ j) (hij : tF T i = tF T j) (hp : eqParts T ld i j = true) : ∀ E, Sol T S ld E → E i j ≤ psm T X i j ∧ E j i ≤ psm T X i j ∧ wt T S ld E i j ≤ psm T X i j ∧ wt T S ld E j i ≤ psm T X i j := by
  intro E hE
  have a1 : alk T ld i j := ⟨hne, hij, hp⟩
  have a2 := alk_sym a1
  have b1 := psm_und hT (h.2.1 E hE) hi hj hij
  have b2 := psm_und hT (h.2.1 E hE) hj hi hij.symm
  rw [← psm_sym hT h.1 hi hj hij] at b2
  exact ⟨Nat.le_trans (hE.2.2.2.2 i j hi hj a1) b1, Nat.le_trans (hE.2.2.2.2 j i hj hi a2) b2, Nat.le_trans (wt_leP a1) b1, Nat.le_trans (wt_leP a2) b2⟩
theorem ly_at {n : Nat} {X : Mx} (hX : MC n X) {i j s : Nat} (hi : i < n) (hj : j < n) : ly X i j s i j ≤ s := by
  have h1 := (ly_up X i j s i j).2.1
  have h2 := hX.1 i hi
  have h3 := hX.1 j hj
  omega
theorem RI.step {T : Trm} {S : Prs} {ld : Nat → Nat} {M X P X' : Mx} {m q fl i j : Nat} (hT : TOK T) (hm : m ≤ 1000000000) (hQ : QQ T ld M m) (h : RI T S ld M m q fl X P) (hp : (prs T)[q]? = some (i, j)) (he : eqParts T ld i j = true) (hX : psm T X i j < X i j ∧ X' = ly X i j (psm T X i j) ∨ ¬ psm T X i j < X i j ∧ X' = X) : RI T S ld M m (q + 1) (if psm T X i j < X i j then 1 else fl) X' (pv P i j (psm T X i j)) := by
  obtain ⟨k1, k2, k3, k4, k5, k6, k7, k8⟩ := h
  have hmem := List.mem_of_getElem? hp
  obtain ⟨c1, c2, c3⟩ := prs_mem.mp hmem
  have hi : i < tN T := by omega
  have hX2 : X' = ly X i j (psm T X i j) ∨ X' = X := hX.imp (fun z => z.2) (fun z => z.2)
  have hle := ly_le' hX2
  have hat : X' i j ≤ psm T X i j := by
    rcases hX with ⟨z1, z2⟩ | ⟨z1, z2⟩
    · rw [z2]; exact ly_at k1.1 hi c2
    · rw [z2]; omega
  have hps : ∀ a b, a < tN T → b < tN T → tF T a = tF T b → psm T X' a b = psm T X a b ∨ chg T M X' a b := by
    intro a b ha hb hab
    by_cases z : ∀ k, k < tA T (tF T a) → X' (tP T a k) (tP T b k) = X (tP T a k) (tP T b k)
    · exact Or.inl (psum_ext T a b _ z)
    · have z2 : ∃ k, ¬ (k < tA T (tF T a) → X' (tP T a k) (tP T b k) = X (tP T a k) (tP T b k)) := Classical.not_forall.mp z
      obtain ⟨k, hk⟩ := z2
      have hk1 : k < tA T (tF T a) := Classical.byContradiction (fun q => hk (fun w => absurd w q))
      have hk2 : ¬ X' (tP T a k) (tP T b k) = X (tP T a k) (tP T b k) := fun q => hk (fun _ => q)
      have b1 := hle (tP T a k) (tP T b k)
      have b2 := k3 _ _ (parts_lt hT ha hb hab hk1).1 (parts_lt hT ha hb hab hk1).2
      exact Or.inr ⟨k, hk1, by omega⟩
  refine ⟨k1.step hi c2 (pair_h1 hT k1 hi c2 (by omega) c3 he) hX2, k2.step k1.2.2.1 hi c2 hX2, fun a b ha hb => Nat.le_trans (hle a b) (k3 a b ha hb), ?_, ?_, ?_, ?_, ?_⟩
  · rcases hX with ⟨z1, z2⟩ | ⟨z1, z2⟩
    · have hsm : m ≤ psm T X i j := by
        apply Nat.le_of_not_lt
        intro y
        have e1 : psm T M i j = psm T X i j := by
          refine psum_ext T i j _ (fun k hk => ?_)
          have d := parts_lt hT hi c2 c3 hk
          have g := psum_ge T X i j (tA T (tF T i)) k hk (k1.1.2.1 _ _ d.1 d.2)
          have g2 : psum T X i j (tA T (tF T i)) = psm T X i j := rfl
          rcases k4 _ _ d.1 d.2 with w | w
          · exact w.symm
          · omega
        have e2 := hQ i j hmem he
        have e3 := k3 i j hi c2
        omega
      intro t u ht hu
      rw [z2]
      have d2 := ly_cases X i j (psm T X i j) t u
      rcases d2 with w | w | w | w
      · rw [w]; exact k4 t u ht hu
      · exact Or.inr (by omega)
      · exact Or.inr (by omega)
      · exact Or.inr (by omega)
    · rw [z2]; exact k4
  · intro p a b hpq hab hae
    have hm2 := prs_mem.mp (List.mem_of_getElem? hab)
    by_cases e : p = q
    · subst e
      rw [hp] at hab
      obtain ⟨rfl, rfl⟩ := Prod.mk.inj (Option.some.inj hab)
      rcases hps i j hi c2 c3 with w | w
      · exact Or.inl (by rw [w]; exact hat)
      · exact Or.inr w
    · rcases k5 p a b (by omega) hab hae with w | ⟨k, w1, w2⟩
      · rcases hps a b (by omega) hm2.2.1 hm2.2.2 with y | y
        · exact Or.inl (by rw [y]; exact Nat.le_trans (hle a b) w)
        · exact Or.inr y
      · exact Or.inr ⟨k, w1, Nat.lt_of_le_of_lt (hle _ _) w2⟩
  · split <;> omega
  · intro hz
    by_cases y : psm T X i j < X i j
    · rw [if_pos y] at hz; omega
    · rw [if_neg y] at hz
      obtain ⟨f1, f2⟩ := k7 hz
      have eX : X' = X := by
        rcases hX with z | z
        · exact absurd z.1 y
        · exact z.2
      refine ⟨by rw [eX]; exact f1, fun p a b hpq hab hae => ?_⟩
      by_cases e : p = q
      · subst e
        rw [hp] at hab
        obtain ⟨rfl, rfl⟩ := Prod.mk.inj (Option.some.inj hab)
        have : psm T M i j = psm T X i j := psum_ext T i j _ (fun k hk => (f1 _ _ (parts_lt hT hi c2 c3 hk).1 (parts_lt hT hi c2 c3 hk).2).symm)
        rw [this]
        exact pv_le P i j _ i j (Or.inl ⟨rfl, rfl⟩)
      · exact Nat.le_trans (pv_le2 k1.2.2.1 hi c2) (f2 p a b (by omega) hab hae)
  · intro hz
    by_cases y : psm T X i j < X i j
    · exact ⟨i, j, hi, c2, by have := k3 i j hi c2; omega⟩
    · rw [if_neg y] at hz
      obtain ⟨t, u, ht, hu, hl⟩ := k8 hz
      exact ⟨t, u, ht, hu, Nat.lt_of_le_of_lt (hle t u) hl⟩
theorem RI.skip {T : Trm} {S : Prs} {ld : Nat → Nat} {M X P : Mx} {m q fl i j : Nat} (h : RI T S ld M m q fl X P) (hp : (prs T)[q]? = some (i, j)) (he : ¬ eqParts T ld i j = true) : RI T S ld M m (q + 1) fl X P := by
  obtain ⟨k1, k2, k3, k4, k5, k6, k7, k8⟩ := h
  refine ⟨k1, k2, k3, k4, fun p a b hpq hab hae => ?_, k6, fun hz => ⟨(k7 hz).1, fun p a b hpq hab hae => ?_⟩, k8⟩ <;>
  · by_cases e : p = q
    · subst e
      rw [hp] at hab
      obtain ⟨rfl, rfl⟩ := Prod.mk.inj (Option.some.inj hab)
      exact absurd hae he
    · first | exact k5 p a b (by omega) hab hae | exact (k7 hz).2 p a b (by omega) hab hae
/-- a round that changed something: fewer entries are left -/
theorem RI.fall {T : Trm} {S : Prs} {ld : Nat → Nat} {M X P : Mx} {m : Nat} (hT : TOK T) (h : RI T S ld M m (prs T).length 1 X P) : ∃ m', m' ≤ 1000000000 ∧ QQ T ld X m' ∧ phi (tN T) X m' < phi (tN T) M m := by
  obtain ⟨k1, k2, k3, k4, k5, k6, k7, k8⟩ := h
  obtain ⟨t0, u0, ht0, hu0, hl0⟩ := k8 rfl
  obtain ⟨m', ⟨t, u, ht, hu, e, hl⟩, hmin⟩ := least_ex (P := fun x => ∃ t u, t < tN T ∧ u < tN T ∧ X t u = x ∧ X t u < M t u) ⟨_, t0, u0, ht0, hu0, rfl, hl0⟩
  refine ⟨m', by have := k1.1.2.1 t u ht hu; omega, fun i j hij he => ?_, phi_lt k3 (by have := k4 t u ht hu; omega) ⟨t, u, ht, hu, e, hl⟩⟩
  obtain ⟨c1, c2, c3⟩ := prs_mem.mp hij
  have hi : i < tN T := by omega
  obtain ⟨p, hp⟩ := List.getElem?_of_mem hij
  rcases k5 p i j (List.getElem?_eq_some_iff.mp hp).1 hp he with w | ⟨k, w1, w2⟩
  · exact Or.inl w
  · have d := parts_lt hT hi c2 c3 w1
    have g := psum_ge T X i j (tA T (tF T i)) k w1 (k1.1.2.1 _ _ d.1 d.2)
    exact Or.inr (Nat.le_trans (hmin _ ⟨_, _, d.1, d.2, rfl, w2⟩) g)
/-- a round that changed nothing: it is the greatest solution -/
theorem RI.done {T : Trm} {S : Prs} {ld : Nat → Nat} {M X P : Mx} {m : Nat} (hT : TOK T) (hS : PRok (tN T) S) (h : RI T S ld M m (prs T).length 0 X P) : GSol T S ld X ∧ ∀ t u, t < tN T → u < tN T → P t u = wt T S ld X t u := by
  obtain ⟨k1, k2, k3, k4, k5, k6, k7, k8⟩ := h
  obtain ⟨f1, f2⟩ := k7 rfl
  have hset : ∀ i j, i < j → j < tN T → alk T ld i j → X i j ≤ psm T X i j ∧ P i j ≤ psm T X i j := by
    intro i j hij hj ha
    have hi : i < tN T := by omega
    obtain ⟨p, hp⟩ := List.getElem?_of_mem (prs_mem.mpr ⟨hij, hj, ha.2.1⟩)
    have hpl := (List.getElem?_eq_some_iff.mp hp).1
    have e : psm T M i j = psm T X i j := psum_ext T i j _ (fun k hk => (f1 _ _ (parts_lt hT hi hj ha.2.1 hk).1 (parts_lt hT hi hj ha.2.1 hk).2).symm)
    refine ⟨?_, by rw [← e]; exact f2 p i j hpl hp ha.2.2⟩
    rcases k5 p i j hpl hp ha.2.2 with w | ⟨k, w1, w2⟩
    · exact w
    · have d := parts_lt hT hi hj ha.2.1 w1
      have := f1 _ _ d.1 d.2
      omega
  have hset2 : ∀ i j, i < tN T → j < tN T → alk T ld i j → X i j ≤ psm T X i j ∧ P i j ≤ psm T X i j := by
    intro i j hi hj ha
    rcases Nat.lt_or_ge i j with z | z
    · exact hset i j z hj ha
    · have hne := ha.1
      have h2 := hset j i (by omega) hi (alk_sym ha)
      rw [k1.1.2.2.1 i j hi hj, k1.2.2.1 i j hi hj, psm_sym hT k1.1 hi hj ha.2.1]
      exact h2
  have hsm : ∀ a b, (a, b) ∈ S → X a b ≤ 1 ∧ P a b ≤ 1 := fun a b hab => by
    obtain ⟨p, hp⟩ := List.getElem?_of_mem hab
    exact k2 p a b (List.getElem?_eq_some_iff.mp hp).1 hp
  have hSol : Sol T S ld X := ⟨k1.1.1, k1.1.2.1, fun t u v ht hu hv => by
    have a1 := k1.1.2.2.2 t u v ht hu hv
    have a2 := k1.1.2.1 t u ht hu
    rw [pl_def]; omega, fun a b hab => ⟨(hsm a b hab).1, by rw [k1.1.2.2.1 b a (hS a b hab).2 (hS a b hab).1]; exact (hsm a b hab).1⟩, fun i j hi hj ha => (hset2 i j hi hj ha).1⟩
  refine ⟨⟨hSol, fun E hE => k1.2.1 E hE⟩, fun t u ht hu => Nat.le_antisymm (le_wt (fun hm => ?_) (fun ha => (hset2 t u ht hu ha).2) (k1.2.2.2.1 t u ht hu)) (k1.2.2.2.2 X hSol t u ht hu)⟩
  rcases hm with hm | hm
  · exact (hsm t u hm).2
  · rw [k1.2.2.1 t u ht hu]; exact (hsm u t hm).2
