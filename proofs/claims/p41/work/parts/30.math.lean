/-! leads of groups, congruence closure as the least congruence: no machine here -/
/-- leads: at most the term itself, and their own leads -/
def Can (n : Nat) (ld : Nat → Nat) : Prop := ∀ i, i < n → ld i ≤ i ∧ ld (ld i) = ld i
/-- two groups become one -/
def un (ld : Nat → Nat) (a b : Nat) : Nat → Nat := fun i => if ld i = max (ld a) (ld b) then min (ld a) (ld b) else ld i
/-- how many groups -/
def cntG : Nat → (Nat → Nat) → Nat
  | 0, _ => 0
  | n + 1, ld => cntG n ld + (if ld n = n then 1 else 0)
theorem can_id (n : Nat) : Can n (fun i => i) := fun i _ => ⟨Nat.le_refl _, rfl⟩
theorem cnt_id (n : Nat) : cntG n (fun i => i) = n := by
  induction n with
  | zero => rfl
  | succ n ih => rw [cntG, ih]; simp
theorem cnt_le (n : Nat) (ld : Nat → Nat) : cntG n ld ≤ n := by
  induction n with
  | zero => exact Nat.le_refl _
  | succ n ih => rw [cntG]; split <;> omega
theorem cnt_congr {n : Nat} {f g : Nat → Nat} (h : ∀ i, i < n → f i = g i) : cntG n f = cntG n g := by
  induction n with
  | zero => rfl
  | succ n ih => rw [cntG, cntG, ih (fun i hi => h i (by omega)), h n (by omega)]
theorem un_self {ld : Nat → Nat} {a b : Nat} (h : ld a = ld b) : un ld a b = ld := by
  funext i
  unfold un
  rw [h]
  simp
  intro h1
  omega
theorem un_iff {ld : Nat → Nat} {a b i j : Nat} : un ld a b i = un ld a b j ↔ ld i = ld j ∨ (ld i = ld a ∧ ld j = ld b) ∨ (ld i = ld b ∧ ld j = ld a) := by
  unfold un
  constructor
  · intro h
    split at h <;> split at h <;> omega
  · intro h
    split <;> split <;> omega
theorem un_a {ld : Nat → Nat} {a b : Nat} : un ld a b a = un ld a b b := un_iff.mpr (Or.inr (Or.inl ⟨rfl, rfl⟩))
theorem can_un {n : Nat} {ld : Nat → Nat} (h : Can n ld) {a b : Nat} (ha : a < n) (hb : b < n) : Can n (un ld a b) := by
  intro i hi
  have h1 := h i hi
  have h2 := h a ha
  have h3 := h b hb
  have e : ld (min (ld a) (ld b)) = min (ld a) (ld b) := by
    rcases Nat.le_total (ld a) (ld b) with q | q
    · rw [Nat.min_eq_left q]; exact h2.2
    · rw [Nat.min_eq_right q]; exact h3.2
  unfold un
  by_cases h4 : ld i = max (ld a) (ld b)
  · rw [if_pos h4]
    refine ⟨by omega, ?_⟩
    split <;> omega
  · rw [if_neg h4, h1.2, if_neg h4]
    exact ⟨h1.1, rfl⟩
theorem cnt_un {n : Nat} {ld : Nat → Nat} (h : Can n ld) {a b : Nat} (ha : a < n) (hb : b < n) (hab : ld a ≠ ld b) : cntG n (un ld a b) + 1 = cntG n ld := by
  have key : ∀ m, m ≤ n → cntG m (un ld a b) + (if max (ld a) (ld b) < m then 1 else 0) = cntG m ld := by
    intro m
    induction m with
    | zero => intro _; simp [cntG]
    | succ m ih =>
      intro hm
      have h1 := ih (by omega)
      have hmx : ld (max (ld a) (ld b)) = max (ld a) (ld b) := by
        rcases Nat.le_total (ld a) (ld b) with q | q
        · rw [Nat.max_eq_right q]; exact (h b hb).2
        · rw [Nat.max_eq_left q]; exact (h a ha).2
      rw [cntG, cntG]
      by_cases e : m = max (ld a) (ld b)
      · have e1 : un ld a b m ≠ m := by
          unfold un
          rw [if_pos (by rw [e]; exact hmx)]
          omega
        have e4 : (if ld m = m then 1 else 0) = 1 := if_pos (by rw [e]; exact hmx)
        have e5 : (if max (ld a) (ld b) < m + 1 then 1 else 0) = 1 := if_pos (by omega)
        have e6 : (if max (ld a) (ld b) < m then 1 else 0) = 0 := if_neg (by omega)
        rw [if_neg e1, e4, e5]
        rw [e6] at h1
        omega
      · have e2 : (un ld a b m = m) ↔ (ld m = m) := by
          unfold un
          constructor
          · intro q
            split at q
            · rename_i q2
              have q3 := (h m (by omega)).1
              omega
            · exact q
          · intro q
            rw [if_neg (by omega)]
            exact q
        have e3 : (if max (ld a) (ld b) < m + 1 then 1 else 0) = (if max (ld a) (ld b) < m then 1 else 0) := by
          by_cases q : max (ld a) (ld b) < m
          · rw [if_pos q, if_pos (by omega)]
          · rw [if_neg q, if_neg (by omega)]
        rw [e3]
        by_cases q : ld m = m
        · rw [if_pos (e2.mpr q), if_pos q]; omega
        · rw [if_neg (fun z => q (e2.mp z)), if_neg q]; omega
  have h1 := key n (Nat.le_refl _)
  have h2 := (h a ha).1
  have h3 := (h b hb).1
  rw [if_pos (by omega)] at h1
  exact h1
/-- canonical leads of like relations are the same -/
theorem can_uniq {n : Nat} {f g : Nat → Nat} (hf : Can n f) (hg : Can n g) (h : ∀ i j, i < n → j < n → (f i = f j ↔ g i = g j)) : ∀ i, i < n → f i = g i := by
  intro i hi
  have a1 := hf i hi
  have a2 := hg i hi
  have b1 : g (f i) = g i := (h (f i) i (by omega) hi).mp a1.2
  have b2 : f (g i) = f i := (h (g i) i (by omega) hi).mpr a2.2
  have c1 := (hg (f i) (by omega)).1
  have c2 := (hf (g i) (by omega)).1
  omega
/-- the terms: how many, the function of each, what a function takes, the parts -/
abbrev Trm : Type := Nat × (Nat → Nat) × (Nat → Nat) × (Nat → Nat → Nat)
def tN (T : Trm) : Nat := T.1
def tF (T : Trm) : Nat → Nat := T.2.1
def tA (T : Trm) : Nat → Nat := T.2.2.1
def tP (T : Trm) : Nat → Nat → Nat := T.2.2.2
/-- parts are told ahead -/
def TOK (T : Trm) : Prop := ∀ i, i < tN T → ∀ k, k < tA T (tF T i) → tP T i k < i
def alikeR (T : Trm) (R : Nat → Nat → Prop) (i j : Nat) : Prop := tF T i = tF T j ∧ ∀ k, k < tA T (tF T i) → R (tP T i k) (tP T j k)
def Congr (T : Trm) (R : Nat → Nat → Prop) : Prop := (∀ i, i < tN T → R i i) ∧ (∀ i j, i < tN T → j < tN T → R i j → R j i) ∧ (∀ i j k, i < tN T → j < tN T → k < tN T → R i j → R j k → R i k) ∧ ∀ i j, i < tN T → j < tN T → alikeR T R i j → R i j
def Cg (T : Trm) (E : Nat → Nat → Prop) (i j : Nat) : Prop := ∀ R, Congr T R → (∀ a b, E a b → R a b) → R i j
theorem cg_congr (T : Trm) (hT : TOK T) (E : Nat → Nat → Prop) : Congr T (Cg T E) :=
  ⟨fun i hi R hR _ => hR.1 i hi, fun i j hi hj h R hR hE => hR.2.1 i j hi hj (h R hR hE), fun i j k hi hj hk h1 h2 R hR hE => hR.2.2.1 i j k hi hj hk (h1 R hR hE) (h2 R hR hE), fun i j hi hj h R hR hE => hR.2.2.2 i j hi hj ⟨h.1, fun k hk => h.2 k hk R hR hE⟩⟩
theorem cg_in {T : Trm} {E : Nat → Nat → Prop} {a b : Nat} (h : E a b) : Cg T E a b := fun _ _ hE => hE a b h
theorem cg_mono {T : Trm} {E E' : Nat → Nat → Prop} (h : ∀ a b, E a b → E' a b) {i j : Nat} (hc : Cg T E i j) : Cg T E' i j := fun R hR hE => hc R hR (fun a b hab => hE a b (h a b hab))
theorem cg_trans {T : Trm} {E E' : Nat → Nat → Prop} (hT : TOK T) (h : ∀ a b, E a b → Cg T E' a b) {i j : Nat} (hc : Cg T E i j) : Cg T E' i j := hc _ (cg_congr T hT E') h
/-- leads that are justified by a relation -/
def Jst (n : Nat) (ld : Nat → Nat) (R : Nat → Nat → Prop) : Prop := ∀ i j, i < n → j < n → ld i = ld j → R i j
theorem jst_un {T : Trm} {ld : Nat → Nat} {R : Nat → Nat → Prop} (hR : Congr T R) (h : Jst (tN T) ld R) {a b : Nat} (ha : a < tN T) (hb : b < tN T) (hab : R a b) : Jst (tN T) (un ld a b) R := by
  intro i j hi hj hij
  rcases un_iff.mp hij with q | ⟨q1, q2⟩ | ⟨q1, q2⟩
  · exact h i j hi hj q
  · exact hR.2.2.1 i a j hi ha hj (h i a hi ha q1) (hR.2.2.1 a b j ha hb hj hab (h b j hb hj q2.symm))
  · exact hR.2.2.1 i b j hi hb hj (h i b hi hb q1) (hR.2.2.1 b a j hb ha hj (hR.2.1 a b ha hb hab) (h a j ha hj q2.symm))
/-- leads that are closed: no pair with like parts is left -/
def Clo (T : Trm) (ld : Nat → Nat) : Prop := ∀ i j, i < tN T → j < tN T → alikeR T (fun x y => ld x = ld y) i j → ld i = ld j
theorem clo_congr {T : Trm} {ld : Nat → Nat} (h : Clo T ld) : Congr T (fun x y => ld x = ld y) := ⟨fun _ _ => rfl, fun _ _ _ _ h => h.symm, fun _ _ _ _ _ _ h1 h2 => h1.trans h2, h⟩
theorem clo_iff {T : Trm} {ld : Nat → Nat} {E : Nat → Nat → Prop} (h : Clo T ld) (hE : ∀ a b, E a b → ld a = ld b) (hJ : Jst (tN T) ld (Cg T E)) : ∀ i j, i < tN T → j < tN T → (ld i = ld j ↔ Cg T E i j) :=
  fun i j hi hj => ⟨hJ i j hi hj, fun hc => hc _ (clo_congr h) hE⟩

