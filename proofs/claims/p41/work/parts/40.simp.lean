/-! rows for simp: numbers of the machine; loops; canonical leads of a congruence -/
theorem inb_t {k n : Nat} (h : k < n) (hn : n ≤ 2147483648) : inb (nI k) n = true := inb_nI h (by omega)
theorem cl_t {a : Nat} (h : a < 2147483648) : (nI a).toNatClampNeg = a := nI_clamp (by omega)
theorem le_tt {a b : Nat} (ha : a < 2147483648) (hb : b < 2147483648) (h : a ≤ b) : (nI a ≤ nI b) = True := eq_true ((nI_le_iff (by omega) (by omega)).mpr h)
theorem le_tf {a b : Nat} (ha : a < 2147483648) (hb : b < 2147483648) (h : b < a) : (nI a ≤ nI b) = False := eq_false (fun z => by have := (nI_le_iff (by omega) (by omega)).mp z; omega)
theorem lt_tt {a b : Nat} (ha : a < 2147483648) (hb : b < 2147483648) (h : a < b) : (nI a < nI b) = True := eq_true ((nI_lt_iff (by omega) (by omega)).mpr h)
theorem lt_tf {a b : Nat} (ha : a < 2147483648) (hb : b < 2147483648) (h : b ≤ a) : (nI a < nI b) = False := eq_false (fun z => by have := (nI_lt_iff (by omega) (by omega)).mp z; omega)
theorem eq_tt {a b : Nat} (h : a = b) : (nI a = nI b) = True := eq_true (by rw [h])
theorem eq_tf {a b : Nat} (ha : a < 2147483648) (hb : b < 2147483648) (h : a ≠ b) : (nI a = nI b) = False := eq_false (fun z => h ((nI_inj_iff (by omega) (by omega)).mp z))
theorem q_add (a b : Nat) : nI a + nI b = nI (a + b) := n_add a b
theorem q_mul (a b : Nat) : nI a * nI b = nI (a * b) := n_mul a b
theorem q_sub {a b : Nat} (h : b ≤ a) : nI a - nI b = nI (a - b) := n_sub h
theorem li0 : (0 : Int32) = nI 0 := rfl
theorem li1 : (1 : Int32) = nI 1 := rfl
theorem li2 : (2 : Int32) = nI 2 := rfl
theorem li3 : (3 : Int32) = nI 3 := rfl
theorem li4 : (4 : Int32) = nI 4 := rfl
theorem li5 : (5 : Int32) = nI 5 := rfl
theorem li6 : (6 : Int32) = nI 6 := rfl
theorem li7 : (7 : Int32) = nI 7 := rfl
theorem li8 : (8 : Int32) = nI 8 := rfl
theorem li12 : (12 : Int32) = nI 12 := rfl
theorem li16 : (16 : Int32) = nI 16 := rfl
theorem li24 : (24 : Int32) = nI 24 := rfl
theorem li48 : (48 : Int32) = nI 48 := rfl
theorem li500 : (500 : Int32) = nI 500 := rfl
/-- none; beyond -/
def n1 : Int32 := -1
def n2 : Int32 := -2
theorem lm1 : (-1 : Int32) = n1 := rfl
theorem lm2 : (-2 : Int32) = n2 := rfl
theorem nI_nn {a : Nat} (h : a < 2147483648) : ¬ (nI a < (0 : Int32)) := nI_pos (by omega)
theorem nI_n1 {a : Nat} (h : a < 2147483648) : nI a ≠ n1 := fun z => nI_nn h (by rw [z]; decide)
theorem nI_n2 {a : Nat} (h : a < 2147483648) : nI a ≠ n2 := fun z => nI_nn h (by rw [z]; decide)
theorem eq_n1 {a : Nat} (h : a < 2147483648) : (nI a = n1) = False := eq_false (nI_n1 h)
theorem eq_n2 {a : Nat} (h : a < 2147483648) : (nI a = n2) = False := eq_false (nI_n2 h)
theorem n1_eq {a : Nat} (h : a < 2147483648) : (n1 = nI a) = False := eq_false (fun z => nI_n1 h z.symm)
theorem n2_eq {a : Nat} (h : a < 2147483648) : (n2 = nI a) = False := eq_false (fun z => nI_n2 h z.symm)
theorem n1_n2 : (n1 = n2) = False := eq_false (by decide)
theorem n2_n1 : (n2 = n1) = False := eq_false (by decide)
theorem i_lt_le {x y : Int32} : x < y → x ≤ y := fun h => by
  rw [Int32.lt_iff_toInt_lt] at h
  rw [Int32.le_iff_toInt_le]
  omega
theorem i_lt_of_lt_le {x y z : Int32} (h : x < y) (g : ¬ z < y) : x < z := by
  rw [Int32.lt_iff_toInt_lt] at *
  omega
theorem i_not_le {x y : Int32} : ¬ (x ≤ y) ↔ y < x := by
  rw [Int32.lt_iff_toInt_lt, Int32.le_iff_toInt_le]
  omega
theorem n1_lt {a : Nat} (h : a < 2147483648) : (n1 < nI a) = True := eq_true (i_lt_of_lt_le (y := 0) (by decide) (nI_nn h))
theorem n2_lt {a : Nat} (h : a < 2147483648) : (n2 < nI a) = True := eq_true (i_lt_of_lt_le (y := 0) (by decide) (nI_nn h))
theorem n1_le {a : Nat} (h : a < 2147483648) : (nI a ≤ n1) = False := eq_false (fun z => i_not_le.mpr (i_lt_of_lt_le (y := 0) (by decide) (nI_nn h)) z)
theorem lt_n1 {a : Nat} (h : a < 2147483648) : (nI a < n1) = False := eq_false (fun z => i_not_le.mpr (i_lt_of_lt_le (y := 0) (by decide) (nI_nn h)) (i_lt_le z))
theorem lt_n2 {a : Nat} (h : a < 2147483648) : (nI a < n2) = False := eq_false (fun z => i_not_le.mpr (i_lt_of_lt_le (y := 0) (by decide) (nI_nn h)) (i_lt_le z))
/-- a number of the machine is less than 0 or a natural one -/
theorem i_cases (x : Int32) : x < 0 ∨ ∃ k : Nat, k < 2147483648 ∧ x = nI k := by
  by_cases h : x < 0
  · exact Or.inl h
  · refine Or.inr ⟨x.toInt.toNat, ?_, ?_⟩
    · have := Int32.toInt_lt x; omega
    · rw [Int32.lt_iff_toInt_lt] at h
      apply Int32.toInt_inj.mp
      have h2 := Int32.toInt_lt x
      have h3 : (0 : Int32).toInt = 0 := rfl
      unfold nI
      rw [Int32.toInt_ofNat_of_lt (by omega)]
      omega
theorem gF_sA (w : Mem) (k i x k' j' i' : Nat) (v : Int32) : gF (sA w k i x v) k' j' i' = gF w k' j' i' := rfl
theorem gR_sA (w : Mem) (k i x k' j' i' : Nat) (v : Int32) : gR (sA w k i x v) k' j' i' = gR w k' j' i' := rfl
theorem gL_sA (w : Mem) (k i x k' i' : Nat) (v : Int32) : gL (sA w k i x v) k' i' = gL w k' i' := rfl
theorem gA_sA (w : Mem) (k i x k' i' y : Nat) (v : Int32) : gA (sA w k i x v) k' i' y = if k' = k ∧ i' = i ∧ y = x then v else gA w k' i' y := by
  by_cases h : k' = k ∧ i' = i
  · obtain ⟨rfl, rfl⟩ := h
    rw [gA_sA_in]
    by_cases h2 : y = x
    · rw [if_pos h2, if_pos ⟨rfl, rfl, h2⟩]
    · rw [if_neg h2, if_neg (fun z => h2 z.2.2)]
  · rw [gA_sA_ne h, if_neg (fun z => h ⟨z.1, z.2.1⟩)]
theorem gA_sF' (w : Mem) (k j i k' i' : Nat) (v : Int32) : gA (sF w k j i v) k' i' = gA w k' i' := rfl
/-- a loop: each turn ends it or makes the measure less -/
theorem lpr {σ β : Type} (L : Nat → σ → Option β) (P : Option β → Prop) (I : Nat → σ → Prop) (h : ∀ m f s, I m s → P (L (f + 1) s) ∨ ∃ m' s', m' < m ∧ I m' s' ∧ L (f + 1) s = L f s') : ∀ (m f : Nat) (s : σ), m < f → I m s → P (L f s) := by
  intro m
  induction m using Nat.strongRecOn with
  | _ m ih =>
    intro f s hf hI
    obtain ⟨f', rfl⟩ : ∃ f', f = f' + 1 := ⟨f - 1, by omega⟩
    rcases h m f' s hI with h1 | ⟨m', s', h1, h2, h3⟩
    · exact h1
    · rw [h3]; exact ih m' h1 f' s' (by omega) h2
/-- a loop that counts from q to n -/
theorem lpc {α β : Type} (n : Nat) (L : Nat → α → Int32 → Option β) (K : α → Option β) (J : Nat → α → Prop) (h0 : ∀ f a, J n a → L (f + 1) a (nI n) = K a) (hs : ∀ f q a, q < n → J q a → ∃ a', J (q + 1) a' ∧ L (f + 1) a (nI q) = L f a' (nI (q + 1))) : ∀ (q f : Nat) (a : α), q ≤ n → n < f + q → J q a → ∃ a', J n a' ∧ L f a (nI q) = K a' := by
  intro q f
  induction f generalizing q with
  | zero => intro a h1 h2; omega
  | succ f ih =>
    intro a h1 h2 hJ
    by_cases e : q = n
    · subst e; exact ⟨a, hJ, h0 f a hJ⟩
    · obtain ⟨a1, j1, e1⟩ := hs f q a (by omega) hJ
      obtain ⟨a2, j2, e2⟩ := ih (q + 1) a1 (by omega) (by omega) j1
      exact ⟨a2, j2, e1.trans e2⟩
/-- a loop that counts, of which a turn may end it -/
theorem lpe {α β : Type} (n : Nat) (L : Nat → α → Int32 → Option β) (P : Option β → Prop) (J : Nat → α → Prop) (h0 : ∀ f a, J n a → P (L (f + 1) a (nI n))) (hs : ∀ f q a, q < n → J q a → P (L (f + 1) a (nI q)) ∨ ∃ a', J (q + 1) a' ∧ L (f + 1) a (nI q) = L f a' (nI (q + 1))) : ∀ (q f : Nat) (a : α), q ≤ n → n < f + q → J q a → P (L f a (nI q)) := by
  intro q f
  induction f generalizing q with
  | zero => intro a h1 h2; omega
  | succ f ih =>
    intro a h1 h2 hJ
    by_cases e : q = n
    · subst e; exact h0 f a hJ
    · rcases hs f q a (by omega) hJ with h | ⟨a1, j1, e1⟩
      · exact h
      · rw [e1]; exact ih (q + 1) a1 (by omega) (by omega) j1
/-- 1 if, 0 -/
noncomputable def b01 (P : Prop) : Nat := @ite _ P (Classical.propDecidable P) 1 0
theorem b01_t {P : Prop} (h : P) : b01 P = 1 := by unfold b01; exact if_pos h
theorem b01_f {P : Prop} (h : ¬ P) : b01 P = 0 := by unfold b01; exact if_neg h
theorem b01_lt (P : Prop) : b01 P < 2 := by unfold b01; split <;> omega
theorem b01_c {P Q : Prop} (h : P ↔ Q) : b01 P = b01 Q := by rw [propext h]
theorem b01_i {P : Prop} [Decidable P] : (if P then (1 : Int32) else 0) = nI (b01 P) := by
  by_cases h : P
  · rw [if_pos h, b01_t h]; rfl
  · rw [if_neg h, b01_f h]; rfl
theorem b01_0 {P : Prop} : (nI (b01 P) = nI 0) = ¬ P := by
  by_cases h : P
  · rw [b01_t h]; exact propext ⟨fun z => absurd z (by decide), fun z => absurd h z⟩
  · rw [b01_f h]; exact propext ⟨fun _ => h, fun _ => rfl⟩
/-- the least from a on, within m, of which p tells -/
def lsF (p : Nat → Bool) : Nat → Nat → Nat
  | 0, a => a
  | m + 1, a => if p a = true then a else lsF p m (a + 1)
theorem lsF_spec (p : Nat → Bool) : ∀ (m a : Nat), (∃ x, a ≤ x ∧ x ≤ a + m ∧ p x = true) → p (lsF p m a) = true ∧ a ≤ lsF p m a ∧ lsF p m a ≤ a + m ∧ ∀ x, a ≤ x → x < lsF p m a → p x = false
  | 0, a, ⟨x, h1, h2, h3⟩ => by
    have : x = a := by omega
    subst this
    rw [lsF]
    exact ⟨h3, Nat.le_refl _, Nat.le_refl _, fun y h4 h5 => by omega⟩
  | m + 1, a, ⟨x, h1, h2, h3⟩ => by
    rw [lsF]
    by_cases h : p a = true
    · rw [if_pos h]
      exact ⟨h, Nat.le_refl _, by omega, fun y h4 h5 => by omega⟩
    · rw [if_neg h]
      obtain ⟨g1, g2, g3, g4⟩ := lsF_spec p m (a + 1) ⟨x, by
        by_cases e : x = a
        · subst e; exact absurd h3 h
        · omega, by omega, h3⟩
      refine ⟨g1, by omega, by omega, fun y h4 h5 => ?_⟩
      by_cases e : y = a
      · subst e; simpa using h
      · exact g4 y (by omega) h5
/-- the leads of a congruence -/
noncomputable def ldE (T : Trm) (E : Nat → Nat → Prop) (i : Nat) : Nat := lsF (fun j => @decide (Cg T E j i) (Classical.propDecidable _)) i 0
theorem ldE_spec {T : Trm} {E : Nat → Nat → Prop} (hT : TOK T) {i : Nat} (hi : i < tN T) : Cg T E (ldE T E i) i ∧ ldE T E i ≤ i ∧ ∀ x, x < ldE T E i → ¬ Cg T E x i := by
  have h := lsF_spec (fun j => @decide (Cg T E j i) (Classical.propDecidable _)) i 0 ⟨i, by omega, by omega, by
    exact (@decide_eq_true_iff _ (Classical.propDecidable _)).mpr ((cg_congr T hT E).1 i hi)⟩
  obtain ⟨h1, h2, h3, h4⟩ := h
  refine ⟨(@decide_eq_true_iff _ (Classical.propDecidable _)).mp h1, by unfold ldE; omega, fun x hx hc => ?_⟩
  have h5 := h4 x (by omega) hx
  have h6 := (@decide_eq_true_iff _ (Classical.propDecidable _)).mpr hc
  simp only [h6] at h5
  cases h5
theorem ldE_can {T : Trm} {E : Nat → Nat → Prop} (hT : TOK T) : Can (tN T) (ldE T E) := by
  intro i hi
  obtain ⟨h1, h2, h3⟩ := ldE_spec (E := E) hT hi
  refine ⟨h2, ?_⟩
  obtain ⟨g1, g2, g3⟩ := ldE_spec (E := E) hT (i := ldE T E i) (by omega)
  apply Nat.le_antisymm g2
  apply Nat.le_of_not_lt
  intro z
  exact h3 _ z ((cg_congr T hT E).2.2.1 _ _ _ (by omega) (by omega) hi g1 h1)
theorem ldE_iff {T : Trm} {E : Nat → Nat → Prop} (hT : TOK T) : ∀ i j, i < tN T → j < tN T → (ldE T E i = ldE T E j ↔ Cg T E i j) := by
  intro i j hi hj
  obtain ⟨h1, h2, h3⟩ := ldE_spec (E := E) hT hi
  obtain ⟨g1, g2, g3⟩ := ldE_spec (E := E) hT hj
  have hc := cg_congr T hT E
  constructor
  · intro h
    rw [h] at h1
    exact hc.2.2.1 _ _ _ hi (by omega) hj (hc.2.1 _ _ (by omega) hi h1) g1
  · intro h
    apply Nat.le_antisymm
    · apply Nat.le_of_not_lt
      intro z
      exact h3 _ z (hc.2.2.1 _ _ _ (by omega) hj hi g1 (hc.2.1 _ _ hi hj h))
    · apply Nat.le_of_not_lt
      intro z
      exact g3 _ z (hc.2.2.1 _ _ _ (by omega) hi hj h1 h)
theorem ldE_uniq {T : Trm} {E : Nat → Nat → Prop} (hT : TOK T) {ld : Nat → Nat} (hC : Can (tN T) ld) (h : ∀ i j, i < tN T → j < tN T → (ld i = ld j ↔ Cg T E i j)) : ∀ i, i < tN T → ldE T E i = ld i :=
  can_uniq (ldE_can hT) hC (fun i j hi hj => (ldE_iff hT i j hi hj).trans (h i j hi hj).symm)
theorem GS.toE {w : Mem} {g : Nat} {T : Trm} {E : Nat → Nat → Prop} {ld : Nat → Nat} (hT : TOK T) (hG : GS w g (tN T) ld) (h : ∀ i j, i < tN T → j < tN T → (ld i = ld j ↔ Cg T E i j)) : GS w g (tN T) (ldE T E) :=
  hG.ext (ldE_uniq hT hG.2.1 h)
/-- as leads go on: what was one stays one, and no more than any congruence has -/
def MCl (T : Trm) (ld ld' : Nat → Nat) : Prop := (∀ i j, ld i = ld j → ld' i = ld' j) ∧ ∀ R, Congr T R → Jst (tN T) ld R → Jst (tN T) ld' R
theorem MCl.rf {T : Trm} {ld : Nat → Nat} : MCl T ld ld := ⟨fun _ _ h => h, fun _ _ h => h⟩
theorem MCl.tr {T : Trm} {a b c : Nat → Nat} (h1 : MCl T a b) (h2 : MCl T b c) : MCl T a c := ⟨fun i j h => h2.1 i j (h1.1 i j h), fun R hR h => h2.2 R hR (h1.2 R hR h)⟩
theorem MCl.clo {T : Trm} {a b : Nat → Nat} (h1 : MCl T a b) (h2 : Clo T b) : ClO T a b := ⟨h2, h1.1, h1.2⟩
theorem MCl.un {T : Trm} {ld : Nat → Nat} {i j : Nat} (hi : i < tN T) (hj : j < tN T) (hf : tF T i = tF T j) (hT : TOK T) (h : eqParts T ld i j = true) : MCl T ld (un ld i j) := by
  refine ⟨fun x y z => un_mono z, fun R hR hJ => jst_un hR hJ hi hj ?_⟩
  refine hR.2.2.2 i j hi hj ⟨hf, fun k hk => ?_⟩
  have p1 := hT i hi k hk
  have p2 := hT j hj k (by rw [← hf]; exact hk)
  exact hJ _ _ (by omega) (by omega) (eqParts_iff.mp h k hk)
