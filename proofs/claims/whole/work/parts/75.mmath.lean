/-! the model: costs, FAR where none is known -/
def lI (n : Nat) : Int64 := Int64.ofNat n
theorem lI_int {a : Nat} (h : a < 9000000000000000000) : (lI a).toInt = a := Int64.toInt_ofNat_of_lt (by omega)
theorem lI_lt {a b : Nat} (ha : a < 9000000000000000000) (hb : b < 9000000000000000000) : lI a < lI b ↔ a < b := by
  rw [Int64.lt_iff_toInt_lt, lI_int ha, lI_int hb]; omega
theorem lI_le {a b : Nat} (ha : a < 9000000000000000000) (hb : b < 9000000000000000000) : lI a ≤ lI b ↔ a ≤ b := by
  rw [Int64.le_iff_toInt_le, lI_int ha, lI_int hb]; omega
theorem lI_inj {a b : Nat} (ha : a < 9000000000000000000) (hb : b < 9000000000000000000) : lI a = lI b ↔ a = b := ⟨fun h => by
  have := congrArg Int64.toInt h
  rw [lI_int ha, lI_int hb] at this
  omega, fun h => by rw [h]⟩
theorem lI_add (a b : Nat) : lI a + lI b = lI (a + b) := (Int64.ofNat_add a b).symm
theorem lI_32 (a : Nat) : (lI a).toInt32 = nI a := Int64.toInt32_ofNat'
theorem lF : (4000000000 : Int64) = lI 4000000000 := by decide
theorem lT : (1000000000 : Int64) = lI 1000000000 := by decide
theorem l0 : (0 : Int64) = lI 0 := by decide
theorem l1 : (1 : Int64) = lI 1 := by decide
theorem cmp_ge {a b : Nat} (ha : a < 9000000000000000000) (hb : b < 9000000000000000000) : ((0 : Int32) ≤ lg_cmp (lI a) (lI b)) = (b ≤ a) := propext ((lg_cmp_ge _ _).trans (lI_le hb ha))
theorem cmp_lt {a b : Nat} (ha : a < 9000000000000000000) (hb : b < 9000000000000000000) : (lg_cmp (lI a) (lI b) < (0 : Int32)) = (a < b) := propext ((lg_cmp_lt _ _).trans (lI_lt ha hb))
theorem cmp_le {a b : Nat} (ha : a < 9000000000000000000) (hb : b < 9000000000000000000) : (lg_cmp (lI a) (lI b) ≤ (0 : Int32)) = (a ≤ b) := propext ((lg_cmp_le _ _).trans (lI_le ha hb))
theorem cmp_eq {a b : Nat} (ha : a < 9000000000000000000) (hb : b < 9000000000000000000) : (lg_cmp (lI a) (lI b) = (0 : Int32)) = (a = b) := propext ((lg_cmp_eq _ _).trans (lI_inj ha hb))
/-- a cost of the model: at most TOP, or FAR -/
def fr (x : Nat) : Prop := x ≤ 1000000000 ∨ x = 4000000000
def mpl (a b : Nat) : Nat := if a < 4000000000 ∧ b < 4000000000 then min 1000000000 (a + b) else 4000000000
theorem mpl_fr (a b : Nat) : fr (mpl a b) := by
  unfold mpl fr
  split <;> omega
theorem held_ok {N x : Nat} {w : Mem} (hx : x < 4000000000) : f_X9_held N w (lI x) = some (lI (min 1000000000 x)) := by
  rw [f_X9_held, lF, lT, if_pos (by rw [cmp_lt (by omega) (by omega)]; exact hx)]
  by_cases z : x ≤ 1000000000
  · rw [if_pos (by rw [cmp_le (by omega) (by omega)]; exact z), Nat.min_eq_right z]
  · rw [if_neg (by rw [cmp_le (by omega) (by omega)]; exact z), Nat.min_eq_left (by omega)]
def msum (T : Trm) (C : Mx) (t u : Nat) : Nat → Nat
  | 0 => 0
  | q + 1 => mpl (msum T C t u q) (C (tP T t q) (tP T u q))
theorem msum_fr (T : Trm) (C : Mx) (t u : Nat) : ∀ q, fr (msum T C t u q)
  | 0 => Or.inl (by rw [msum]; omega)
  | q + 1 => mpl_fr _ _
theorem msum_fin {T : Trm} {C : Mx} {t u : Nat} : ∀ q, msum T C t u q < 4000000000 → (∀ k, k < q → C (tP T t k) (tP T u k) < 4000000000) ∧ msum T C t u q = psum T C t u q
  | 0, _ => ⟨fun k hk => absurd hk (Nat.not_lt_zero k), rfl⟩
  | q + 1, h => by
    have h2 : msum T C t u q < 4000000000 ∧ C (tP T t q) (tP T u q) < 4000000000 := by
      rw [msum, mpl] at h
      by_cases z : msum T C t u q < 4000000000 ∧ C (tP T t q) (tP T u q) < 4000000000
      · exact z
      · rw [if_neg z] at h; omega
    obtain ⟨i1, i2⟩ := msum_fin q h2.1
    refine ⟨fun k hk => ?_, ?_⟩
    · by_cases e : k = q
      · subst e; exact h2.2
      · exact i1 k (by omega)
    · rw [msum, mpl, if_pos h2, psum, pl_def, i2]
theorem msum_ex {T : Trm} {C D : Mx} {t u : Nat} : ∀ q, (∀ k, k < q → C (tP T t k) (tP T u k) < 4000000000) → msum T C t u q = psum T C t u q
  | 0, _ => rfl
  | q + 1, h => by
    have i1 := msum_ex (D := D) q (fun k hk => h k (by omega))
    rw [msum, mpl, i1, if_pos ⟨by have := psum_le T C t u q; omega, h q (by omega)⟩, psum, pl_def]
theorem msum_far {T : Trm} {C : Mx} {t u : Nat} {q q' : Nat} (h : 4000000000 ≤ msum T C t u q) (hq : q ≤ q') : msum T C t u q' = 4000000000 := by
  induction q' with
  | zero =>
    have e : q = 0 := by omega
    subst e
    rw [msum] at h; omega
  | succ q' ih =>
    by_cases e : q = q' + 1
    · subst e
      have := msum_fr T C t u (q' + 1)
      unfold fr at this; omega
    · rw [msum, mpl, ih (by omega), if_neg (by omega)]
noncomputable def sS (S : Prs) (t u : Nat) : Nat := @ite _ ((t, u) ∈ S ∨ (u, t) ∈ S) (Classical.propDecidable _) 1 4000000000
def sP (T : Trm) (C : Mx) (t u : Nat) : Nat := if tF T t = tF T u then msum T C t u (tA T (tF T t)) else 4000000000
noncomputable def sd (T : Trm) (S : Prs) (C : Mx) (t u : Nat) : Nat := if t = u then 0 else min (sS S t u) (sP T C t u)
theorem sS_fr (S : Prs) (t u : Nat) : fr (sS S t u) := by
  unfold sS fr
  split <;> omega
theorem sP_fr (T : Trm) (C : Mx) (t u : Nat) : fr (sP T C t u) := by
  unfold sP
  split
  · exact msum_fr _ _ _ _ _
  · exact Or.inr rfl
theorem sd_fr (T : Trm) (S : Prs) (C : Mx) (t u : Nat) : fr (sd T S C t u) := by
  have h1 := sS_fr S t u
  have h2 := sP_fr T C t u
  unfold sd fr at *
  split <;> omega
/-- what the model's matrix keeps -/
def IC (T : Trm) (S : Prs) (ld : Nat → Nat) (X : Mx) : Prop := (∀ t u, t < tN T → u < tN T → fr (X t u)) ∧ (∀ t, t < tN T → X t t = 0) ∧ (∀ t u, t < tN T → u < tN T → X t u < 4000000000 → ld t = ld u) ∧ ∀ E, Sol T S ld E → Und (tN T) E X
theorem sS_in {S : Prs} {t u : Nat} (h : sS S t u < 4000000000) : (t, u) ∈ S ∨ (u, t) ∈ S := Classical.byContradiction (fun z => by
  unfold sS at h
  rw [if_neg z] at h
  omega)
theorem sP_in {T : Trm} {C : Mx} {t u : Nat} (h : sP T C t u < 4000000000) : tF T t = tF T u ∧ (∀ k, k < tA T (tF T t) → C (tP T t k) (tP T u k) < 4000000000) ∧ sP T C t u = psm T C t u := by
  unfold sP at h ⊢
  by_cases z : tF T t = tF T u
  · rw [if_pos z] at h ⊢
    obtain ⟨i1, i2⟩ := msum_fin _ h
    exact ⟨z, i1, i2⟩
  · rw [if_neg z] at h; omega
theorem sP_alk {T : Trm} {S : Prs} {ld : Nat → Nat} {X : Mx} (hT : TOK T) (hX : IC T S ld X) {t u : Nat} (ht : t < tN T) (hu : u < tN T) (hne : t ≠ u) (h : sP T X t u < 4000000000) : alk T ld t u ∧ sP T X t u = psm T X t u := by
  obtain ⟨i1, i2, i3⟩ := sP_in h
  exact ⟨⟨hne, i1, eqParts_iff.mpr (fun k hk => hX.2.2.1 _ _ (parts_lt hT ht hu i1 hk).1 (parts_lt hT ht hu i1 hk).2 (i2 k hk))⟩, i3⟩
/-- what is known of the leads: a congruence that holds the sames -/
def LDC (T : Trm) (S : Prs) (ld : Nat → Nat) : Prop := Congr T (fun i j => ld i = ld j) ∧ (∀ a b, (a, b) ∈ S → ld a = ld b) ∧ ∀ i j, i < tN T → j < tN T → ld i = ld j → Cg T (inS S) i j
theorem sd_ic {T : Trm} {S : Prs} {ld : Nat → Nat} {X : Mx} (hT : TOK T) (hL : LDC T S ld) (hX : IC T S ld X) {t u : Nat} (ht : t < tN T) (hu : u < tN T) : (sd T S X t u < 4000000000 → ld t = ld u) ∧ ∀ E, Sol T S ld E → E t u ≤ sd T S X t u := by
  by_cases e : t = u
  · subst e
    exact ⟨fun _ => rfl, fun E hE => by rw [hE.1 t ht]; omega⟩
  · unfold sd
    rw [if_neg e]
    have h1 := sS_fr S t u
    have h2 := sP_fr T X t u
    refine ⟨fun h => ?_, fun E hE => ?_⟩
    · by_cases z : sS S t u < 4000000000
      · rcases sS_in z with y | y
        · exact hL.2.1 _ _ y
        · exact (hL.2.1 _ _ y).symm
      · obtain ⟨a1, a2⟩ := sP_alk hT hX ht hu e (show sP T X t u < 4000000000 by omega)
        exact hL.1.2.2.2 t u ht hu ⟨a1.2.1, eqParts_iff.mp a1.2.2⟩
    · have b := hE.2.1 t u ht hu
      have b2 : TOP = 1000000000 := rfl
      refine Nat.le_min.mpr ⟨?_, ?_⟩
      · by_cases z : sS S t u < 4000000000
        · have : E t u ≤ 1 := by
            rcases sS_in z with y | y
            · exact (hE.2.2.2.1 _ _ y).1
            · exact (hE.2.2.2.1 _ _ y).2
          have h3 : 1 ≤ sS S t u := by
            unfold sS
            split <;> omega
          omega
        · omega
      · by_cases z : sP T X t u < 4000000000
        · obtain ⟨a1, a2⟩ := sP_alk hT hX ht hu e z
          rw [a2]
          exact Nat.le_trans (hE.2.2.2.2 t u ht hu a1) (psm_und hT (hX.2.2.2 E hE) ht hu a1.2.1)
        · omega
def up2 (X : Mx) (t u v : Nat) : Mx := fun a b => if a = t ∧ b = u then v else X a b
theorem IC.up {T : Trm} {S : Prs} {ld : Nat → Nat} {X : Mx} (hX : IC T S ld X) {t u v : Nat} (ht : t < tN T) (hu : u < tN T) (hf : fr v) (hv : v < X t u) (h1 : v < 4000000000 → ld t = ld u) (h2 : ∀ E, Sol T S ld E → E t u ≤ v) : IC T S ld (up2 X t u v) := by
  refine ⟨fun a b ha hb => ?_, fun a ha => ?_, fun a b ha hb => ?_, fun E hE a b ha hb => ?_⟩ <;> unfold up2
  · split
    · exact hf
    · exact hX.1 a b ha hb
  · rw [if_neg (fun z => by obtain ⟨z1, z2⟩ := z; subst z1; rw [← z2, hX.2.1 a ha] at hv; omega)]
    exact hX.2.1 a ha
  · split
    · rename_i z
      intro hl
      rw [z.1, z.2]; exact h1 hl
    · exact hX.2.2.1 a b ha hb
  · split
    · rename_i z
      rw [z.1, z.2]; exact h2 E hE
    · exact hX.2.2.2 E hE a b ha hb
theorem mpl_ic {T : Trm} {S : Prs} {ld : Nat → Nat} {X : Mx} (hX : IC T S ld X) {t u v : Nat} (ht : t < tN T) (hu : u < tN T) (hv : v < tN T) : (mpl (X t v) (X v u) < 4000000000 → ld t = ld u) ∧ ∀ E, Sol T S ld E → E t u ≤ mpl (X t v) (X v u) := by
  unfold mpl
  by_cases z : X t v < 4000000000 ∧ X v u < 4000000000
  · rw [if_pos z]
    refine ⟨fun _ => (hX.2.2.1 t v ht hv z.1).trans (hX.2.2.1 v u hv hu z.2), fun E hE => ?_⟩
    have a1 := (sol_tri hE).2 t u v ht hu hv
    have a2 := (sol_tri hE).1 t u ht hu
    have a3 := hX.2.2.2 E hE t v ht hv
    have a4 := hX.2.2.2 E hE v u hv hu
    omega
  · rw [if_neg z]
    refine ⟨fun h => absurd h (Nat.lt_irrefl _), fun E hE => ?_⟩
    have a2 := (sol_tri hE).1 t u ht hu
    omega
/-- at the end -/
theorem IC.done {T : Trm} {S : Prs} {ld : Nat → Nat} {X : Mx} (hT : TOK T) (hL : LDC T S ld) (hX : IC T S ld X) (h1 : ∀ t u, t < tN T → u < tN T → X t u ≤ sd T S X t u) (h2 : ∀ t u v, t < tN T → u < tN T → v < tN T → X t u ≤ mpl (X t v) (X v u)) (hS : PRok (tN T) S) : (∀ t u, t < tN T → u < tN T → (X t u < 4000000000 ↔ ld t = ld u)) ∧ GSol T S ld (fun t u => min 1000000000 (X t u)) := by
  have hsS : ∀ a b, (a, b) ∈ S ∨ (b, a) ∈ S → a < tN T → b < tN T → X a b ≤ 1 := fun a b hab ha hb => by
    have a1 := h1 a b ha hb
    have a2 : sS S a b = 1 := by unfold sS; rw [if_pos hab]
    unfold sd at a1
    split at a1 <;> omega
  have hal : ∀ i j, i < tN T → j < tN T → i ≠ j → tF T i = tF T j → (∀ k, k < tA T (tF T i) → X (tP T i k) (tP T j k) < 4000000000) → X i j ≤ psm T X i j := by
    intro i j hi hj hne hij hk
    have a1 := h1 i j hi hj
    have a2 : sP T X i j = psm T X i j := by
      unfold sP
      rw [if_pos hij]
      exact msum_ex (D := X) _ hk
    unfold sd at a1
    rw [if_neg hne] at a1
    omega
  have hR : Congr T (fun t u => X t u < 4000000000 ∧ X u t < 4000000000) := by
    refine ⟨fun i hi => by have := hX.2.1 i hi; exact ⟨by omega, by omega⟩, fun i j _ _ h => ⟨h.2, h.1⟩, fun i j k hi hj hk h g => ?_, fun i j hi hj h => ?_⟩
    · have b1 := h2 i k j hi hk hj
      have b2 := h2 k i j hk hi hj
      rw [mpl, if_pos ⟨h.1, g.1⟩] at b1
      rw [mpl, if_pos ⟨g.2, h.2⟩] at b2
      omega
    · by_cases e : i = j
      · subst e; rw [hX.2.1 i hi]; omega
      · have b1 := hal i j hi hj e h.1 (fun k hk => (h.2 k hk).1)
        have b2 := hal j i hj hi (fun z => e z.symm) h.1.symm (fun k hk => (h.2 k (by rw [h.1]; exact hk)).2)
        have b3 : psm T X i j ≤ 1000000000 := psum_le T X i j _
        have b4 : psm T X j i ≤ 1000000000 := psum_le T X j i _
        omega
  have hfin : ∀ t u, t < tN T → u < tN T → (X t u < 4000000000 ↔ ld t = ld u) := by
    intro t u ht hu
    refine ⟨hX.2.2.1 t u ht hu, fun h => ?_⟩
    refine (hL.2.2 t u ht hu h _ hR (fun a b hab => ?_)).1
    have c1 := hsS a b (Or.inl hab) (hS a b hab).1 (hS a b hab).2
    have c2 := hsS b a (Or.inr hab) (hS a b hab).2 (hS a b hab).1
    omega
  refine ⟨hfin, ⟨fun t ht => ?_, fun t u ht hu => Nat.min_le_left _ _, fun t u v ht hu hv => ?_, fun a b hab => ?_, fun i j hi hj ha => ?_⟩, fun E hE t u ht hu => ?_⟩
  · show min 1000000000 (X t t) = 0
    rw [hX.2.1 t ht]; omega
  · show min 1000000000 (X t u) ≤ pl (min 1000000000 (X t v)) (min 1000000000 (X v u))
    rw [pl_def]
    have c1 := h2 t u v ht hu hv
    unfold mpl at c1
    by_cases z : X t v < 4000000000 ∧ X v u < 4000000000
    · rw [if_pos z] at c1; omega
    · omega
  · have c1 := hsS a b (Or.inl hab) (hS a b hab).1 (hS a b hab).2
    have c2 := hsS b a (Or.inr hab) (hS a b hab).2 (hS a b hab).1
    show min 1000000000 (X a b) ≤ 1 ∧ min 1000000000 (X b a) ≤ 1
    omega
  · have hk : ∀ k, k < tA T (tF T i) → X (tP T i k) (tP T j k) < 4000000000 := fun k hk => (hfin _ _ (parts_lt hT hi hj ha.2.1 hk).1 (parts_lt hT hi hj ha.2.1 hk).2).mpr (eqParts_iff.mp ha.2.2 k hk)
    have c1 := hal i j hi hj ha.1 ha.2.1 hk
    have c2 : psm T (fun t u => min 1000000000 (X t u)) i j = psm T X i j := psum_ext T i j _ (fun k hk2 => by
      have d := parts_lt hT hi hj ha.2.1 hk2
      have e := hX.1 _ _ d.1 d.2
      have g := hk k hk2
      unfold fr at e
      show min 1000000000 (X (tP T i k) (tP T j k)) = X (tP T i k) (tP T j k)
      omega)
    rw [c2]
    exact Nat.le_trans (Nat.min_le_right _ _) c1
  · exact Nat.le_min.mpr ⟨hE.2.1 t u ht hu, hX.2.2.2 E hE t u ht hu⟩
/-- and its sides: what a step costs -/
theorem sd_wt {T : Trm} {S : Prs} {ld : Nat → Nat} {X D : Mx} (hT : TOK T) (hX : IC T S ld X) (hfin : ∀ t u, t < tN T → u < tN T → (X t u < 4000000000 ↔ ld t = ld u)) (hD : ∀ t u, t < tN T → u < tN T → D t u = min 1000000000 (X t u)) {t u : Nat} (ht : t < tN T) (hu : u < tN T) (hne : t ≠ u) : sd T S X t u = (if wt T S ld D t u = 1000000001 then 4000000000 else wt T S ld D t u) := by
  have hp : ∀ i j, i < tN T → j < tN T → alk T ld i j → sP T X i j = psm T D i j := by
    intro i j hi hj ha
    have hk : ∀ k, k < tA T (tF T i) → X (tP T i k) (tP T j k) < 4000000000 := fun k hk => (hfin _ _ (parts_lt hT hi hj ha.2.1 hk).1 (parts_lt hT hi hj ha.2.1 hk).2).mpr (eqParts_iff.mp ha.2.2 k hk)
    unfold sP
    rw [if_pos ha.2.1, msum_ex (D := X) _ hk]
    refine psum_ext T i j _ (fun k hk2 => ?_)
    have d := parts_lt hT hi hj ha.2.1 hk2
    have e := hX.1 _ _ d.1 d.2
    have g := hk k hk2
    unfold fr at e
    rw [hD _ _ d.1 d.2]
    omega
  have b1 : psm T D t u ≤ 1000000000 := psum_le T D t u _
  have hN : NOW = 1000000001 := rfl
  unfold sd
  rw [if_neg hne]
  by_cases y : alk T ld t u
  · rw [hp t u ht hu y]
    by_cases z : (t, u) ∈ S ∨ (u, t) ∈ S
    · have a1 : sS S t u = 1 := by unfold sS; rw [if_pos z]
      have a2 : wt T S ld D t u = min 1 (psm T D t u) := by unfold wt; rw [if_pos z, if_pos y]
      rw [a1, a2, if_neg (by omega)]
    · have a1 : sS S t u = 4000000000 := by unfold sS; rw [if_neg z]
      have a2 : wt T S ld D t u = min NOW (psm T D t u) := by unfold wt; rw [if_neg z, if_pos y]
      rw [a1, a2, hN, if_neg (by omega)]; omega
  · have a0 : sP T X t u = 4000000000 := by
      have := sP_fr T X t u
      unfold fr at this
      by_cases q : sP T X t u < 4000000000
      · exact absurd (sP_alk hT hX ht hu hne q).1 y
      · omega
    by_cases z : (t, u) ∈ S ∨ (u, t) ∈ S
    · have a1 : sS S t u = 1 := by unfold sS; rw [if_pos z]
      have a2 : wt T S ld D t u = min 1 NOW := by unfold wt; rw [if_pos z, if_neg y]
      rw [a0, a1, a2, hN, if_neg (by omega)]; omega
    · have a1 : sS S t u = 4000000000 := by unfold sS; rw [if_neg z]
      have a2 : wt T S ld D t u = min NOW NOW := by unfold wt; rw [if_neg z, if_neg y]
      rw [a0, a1, a2, hN, if_pos (by omega)]; omega
