/-! what a visit finds: the set of the fewest; sets enough to tell the least ones -/
theorem pop_sub {a b : Nat} (ha : a < 16777216) (hb : b < 16777216) (h : ∀ k, a.testBit k = true → b.testBit k = true) : pop a ≤ pop b := by
  by_cases e : b = a
  · rw [e]; exact Nat.le_refl _
  · have := pop_strict ha hb h e; omega
theorem mul_bit {set o k : Nat} (hm : set % 2 ^ o = 0) (hk : k < o) : set.testBit k = false := by
  have e : set = 2 ^ o * (set / 2 ^ o) := by have := Nat.div_add_mod set (2 ^ o); omega
  rw [e, Nat.testBit_two_pow_mul, decide_eq_false (by omega), Bool.false_and]
theorem in_or {set o s : Nat} (hm : set % 2 ^ o = 0) (h1 : set ≤ s) (h2 : s < set + 2 ^ o) : s = set ||| (s - set) := by
  rw [← add_or hm (by omega)]; omega
theorem in_sub {set o s : Nat} (hm : set % 2 ^ o = 0) (h1 : set ≤ s) (h2 : s < set + 2 ^ o) : ∀ k, set.testBit k = true → s.testBit k = true := fun k hk => by
  rw [in_or hm h1 h2, Nat.testBit_or, hk, Bool.true_or]
theorem in_full {set o s : Nat} (hm : set % 2 ^ o = 0) (h1 : set ≤ s) (h2 : s < set + 2 ^ o) : ∀ k, s.testBit k = true → (set ||| full o).testBit k = true := fun k hk => by
  rw [in_or hm h1 h2, Nat.testBit_or, Bool.or_eq_true] at hk
  rw [Nat.testBit_or, full_bit, Bool.or_eq_true, decide_eq_true_iff]
  exact hk.imp id (fun hk => low_bit (by omega) hk)
/-- the upper half of a stretch: the same set without the bit lies in the lower half -/
theorem half {set c s : Nat} (hm : set % 2 ^ (c + 1) = 0) (h1 : set + 2 ^ c ≤ s) (h2 : s < set + 2 ^ (c + 1)) : s - 2 ^ c < set + 2 ^ c ∧ set ≤ s - 2 ^ c ∧ s = (s - 2 ^ c) ||| 2 ^ c ∧ (s - 2 ^ c).testBit c = false := by
  have hp := Nat.two_pow_pos c
  have h2c : 2 ^ (c + 1) = 2 ^ c + 2 ^ c := by rw [Nat.pow_succ]; omega
  have hmc : set % 2 ^ c = 0 := Nat.mod_eq_zero_of_dvd (Nat.dvd_trans ⟨2, by rw [Nat.pow_succ]⟩ (Nat.dvd_of_mod_eq_zero hm))
  have a1 : s - 2 ^ c = set ||| (s - 2 ^ c - set) := in_or hmc (by omega) (by omega)
  have hb : (s - 2 ^ c).testBit c = false := by
    rw [a1, Nat.testBit_or, mul_bit hm (by omega), Nat.testBit_lt_two_pow (by omega)]; rfl
  refine ⟨by omega, by omega, ?_, hb⟩
  have a2 : s = set ||| (s - set) := in_or hm (by omega) h2
  have a3 : s - set = 2 ^ c ||| (s - 2 ^ c - set) := by
    have h := Nat.two_pow_add_eq_or_of_lt (show s - 2 ^ c - set < 2 ^ c by omega) 1
    rw [Nat.mul_one] at h
    omega
  apply Nat.eq_of_testBit_eq
  intro k
  rw [Nat.testBit_or, a1, Nat.testBit_or]
  conv => lhs; rw [a2, a3, Nat.testBit_or, Nat.testBit_or]
  cases set.testBit k <;> cases (2 ^ c).testBit k <;> cases (s - 2 ^ c - set).testBit k <;> rfl
theorem pop_add {set c : Nat} (hm : set % 2 ^ (c + 1) = 0) (hc : c < 24) : pop (set ||| 2 ^ c) = pop set + 1 := by
  rw [pop_or hc, if_neg (by rw [mul_bit hm (by omega)]; exact Bool.noConfusion)]
theorem visF {P : Nat → Prop} {Q : Nat → Nat → Prop} (hP : ∀ a b, (∀ k, a.testBit k = true → b.testBit k = true) → P a → P b) (hQ : ∀ c set s, Q c set → (∀ k, set.testBit k = true → s.testBit k = true) → P (s ||| 2 ^ c) → P s) : ∀ (o set : Nat) (st : Vs), o ≤ 12 → set % 2 ^ o = 0 → set + 2 ^ o ≤ 4096 → pop set < st.1 →
    ((∀ s, set ≤ s → s < set + 2 ^ o → P s → st.1 ≤ pop s) ∧ (vis P Q true o set st).1 = st.1 ∧ (vis P Q true o set st).2.1 = st.2.1) ∨
    ∃ b, set ≤ b ∧ b < set + 2 ^ o ∧ P b ∧ pop b < st.1 ∧ (vis P Q true o set st).1 = pop b ∧ (vis P Q true o set st).2.1 = some b ∧ ∀ s, set ≤ s → s < set + 2 ^ o → P s → pop b < pop s ∨ (pop b = pop s ∧ b ≤ s) := by
  intro o
  induction o with
  | zero =>
    intro set st _ hm hs hl
    rw [Nat.pow_zero] at hs
    by_cases z : P set
    · right
      refine ⟨set, Nat.le_refl _, by rw [Nat.pow_zero]; omega, z, hl, by rw [vis_p z]; rfl, by rw [vis_p z]; rfl, fun s h1 h2 _ => ?_⟩
      rw [Nat.pow_zero] at h2
      have : s = set := by omega
      subst this
      exact Or.inr ⟨rfl, Nat.le_refl _⟩
    · left
      refine ⟨fun s h1 h2 h3 => ?_, by rw [vis_0 z], by rw [vis_0 z]⟩
      rw [Nat.pow_zero] at h2
      have : s = set := by omega
      subst this
      exact absurd h3 z
  | succ c ih =>
    intro set st ho hm hs hl
    have h2c : 2 ^ (c + 1) = 2 ^ c + 2 ^ c := by rw [Nat.pow_succ]; omega
    have hpc := Nat.two_pow_pos c
    have hmc : set % 2 ^ c = 0 := Nat.mod_eq_zero_of_dvd (Nat.dvd_trans ⟨2, by rw [Nat.pow_succ]⟩ (Nat.dvd_of_mod_eq_zero hm))
    have hor : set ||| 2 ^ c = set + 2 ^ c := (add_or hm (by omega)).symm
    have hpa := pop_add (set := set) hm (show c < 24 by omega)
    have grow : ∀ s, set ≤ s → s < set + 2 ^ (c + 1) → s ≠ set → pop set + 1 ≤ pop s := fun s h1 h2 h3 => pop_strict (by omega) (by omega) (in_sub hm h1 h2) h3
    by_cases z : P set
    · right
      refine ⟨set, Nat.le_refl _, by omega, z, hl, by rw [vis_p z]; rfl, by rw [vis_p z]; rfl, fun s h1 h2 _ => ?_⟩
      by_cases e : s = set
      · rw [e]; exact Or.inr ⟨rfl, Nat.le_refl _⟩
      · have := grow s h1 h2 e; exact Or.inl (by omega)
    · by_cases y : pop set + 1 < st.1
      · by_cases x : Q c set
        · rw [vis_q z y x]
          -- what has the idle one has more than what has not
          have idle : ∀ s, set + 2 ^ c ≤ s → s < set + 2 ^ (c + 1) → P s → P (s - 2 ^ c) ∧ pop s = pop (s - 2 ^ c) + 1 := fun s h1 h2 h3 => by
            obtain ⟨g1, g2, g3, g4⟩ := half hm h1 h2
            refine ⟨hQ c set (s - 2 ^ c) x (in_sub hmc g2 g1) (by rw [← g3]; exact h3), ?_⟩
            conv => lhs; rw [g3]
            rw [pop_or (by omega), if_neg (by rw [g4]; exact Bool.noConfusion)]
          rcases ih set st (by omega) hmc (by omega) hl with ⟨a1, a2, a3⟩ | ⟨b, a1, a2, a3, a4, a5, a6, a7⟩
          · left
            refine ⟨fun s h1 h2 h3 => ?_, a2, a3⟩
            by_cases q : s < set + 2 ^ c
            · exact a1 s h1 q h3
            · obtain ⟨g1, g2⟩ := idle s (by omega) h2 h3
              have := a1 (s - 2 ^ c) (by omega) (by omega) g1
              omega
          · right
            refine ⟨b, a1, by omega, a3, a4, a5, a6, fun s h1 h2 h3 => ?_⟩
            by_cases q : s < set + 2 ^ c
            · exact a7 s h1 q h3
            · obtain ⟨g1, g2⟩ := idle s (by omega) h2 h3
              have := a7 (s - 2 ^ c) (by omega) (by omega) g1
              omega
        · have ih2 : ∀ s1 : Vs, pop set + 1 < s1.1 → _ := fun s1 hs1 => ih (set ||| 2 ^ c) s1 (by omega) (by rw [hor, Nat.add_mod_right]; exact hmc) (by rw [hor]; omega) (by rw [hpa]; exact hs1)
          by_cases v : P (set ||| full c)
          · rw [vis_w z y x v]
            rcases ih set st (by omega) hmc (by omega) hl with ⟨a1, a2, a3⟩ | ⟨b, a1, a2, a3, a4, a5, a6, a7⟩
            · rw [if_pos (by rw [a2]; exact y)]
              rcases ih2 (vis P Q true c set st) (by rw [a2]; exact y) with ⟨d1, d2, d3⟩ | ⟨d, d1, d2, d3, d4, d5, d6, d7⟩
              · left
                refine ⟨fun s h1 h2 h3 => ?_, d2.trans a2, d3.trans a3⟩
                by_cases q : s < set + 2 ^ c
                · exact a1 s h1 q h3
                · have := d1 s (by rw [hor]; omega) (by rw [hor]; omega) h3
                  omega
              · right
                rw [hor] at d1 d2
                refine ⟨d, by omega, by omega, d3, by omega, d5, d6, fun s h1 h2 h3 => ?_⟩
                by_cases q : s < set + 2 ^ c
                · have := a1 s h1 q h3
                  exact Or.inl (by omega)
                · exact d7 s (by rw [hor]; omega) (by rw [hor]; omega) h3
            · right
              by_cases g : pop set + 1 < (vis P Q true c set st).1
              · rw [if_pos g]
                rcases ih2 (vis P Q true c set st) g with ⟨d1, d2, d3⟩ | ⟨d, d1, d2, d3, d4, d5, d6, d7⟩
                · refine ⟨b, a1, by omega, a3, a4, d2.trans a5, d3.trans a6, fun s h1 h2 h3 => ?_⟩
                  by_cases q : s < set + 2 ^ c
                  · exact a7 s h1 q h3
                  · have := d1 s (by rw [hor]; omega) (by rw [hor]; omega) h3
                    omega
                · rw [hor] at d1 d2
                  refine ⟨d, by omega, by omega, d3, by omega, d5, d6, fun s h1 h2 h3 => ?_⟩
                  by_cases q : s < set + 2 ^ c
                  · have := a7 s h1 q h3
                    exact Or.inl (by omega)
                  · exact d7 s (by rw [hor]; omega) (by rw [hor]; omega) h3
              · rw [if_neg g]
                refine ⟨b, a1, by omega, a3, a4, a5, a6, fun s h1 h2 h3 => ?_⟩
                by_cases q : s < set + 2 ^ c
                · exact a7 s h1 q h3
                · have := grow s h1 h2 (by omega)
                  omega
          · rw [vis_o z y x v]
            have none1 : ∀ s, set ≤ s → s < set + 2 ^ c → ¬ P s := fun s h1 h2 h3 => v (hP s _ (in_full hmc h1 h2) h3)
            rcases ih2 st y with ⟨d1, d2, d3⟩ | ⟨d, d1, d2, d3, d4, d5, d6, d7⟩
            · left
              refine ⟨fun s h1 h2 h3 => ?_, d2, d3⟩
              by_cases q : s < set + 2 ^ c
              · exact absurd h3 (none1 s h1 q)
              · exact d1 s (by rw [hor]; omega) (by rw [hor]; omega) h3
            · right
              rw [hor] at d1 d2
              refine ⟨d, by omega, by omega, d3, d4, d5, d6, fun s h1 h2 h3 => ?_⟩
              by_cases q : s < set + 2 ^ c
              · exact absurd h3 (none1 s h1 q)
              · exact d7 s (by rw [hor]; omega) (by rw [hor]; omega) h3
      · left
        rw [vis_n z y]
        refine ⟨fun s h1 h2 h3 => ?_, rfl, rfl⟩
        have := grow s h1 h2 (fun e => z (e ▸ h3))
        omega
/-- the part of a set above k -/
def hiB (s k : Nat) : Nat := s / 2 ^ (k + 1) * 2 ^ (k + 1)
theorem hiB_bit (s k i : Nat) : (hiB s k).testBit i = (decide (k < i) && s.testBit i) := by
  unfold hiB
  rw [Nat.mul_comm, Nat.testBit_two_pow_mul, Nat.testBit_div_two_pow]
  by_cases h : k < i
  · rw [decide_eq_true (show i ≥ k + 1 by omega), decide_eq_true h, Bool.true_and, Bool.true_and]
    congr 1
    omega
  · rw [decide_eq_false (show ¬ i ≥ k + 1 by omega), decide_eq_false h, Bool.false_and, Bool.false_and]
theorem hiB_in {set c s : Nat} (hm : set % 2 ^ (c + 1) = 0) (h1 : set ≤ s) (h2 : s < set + 2 ^ (c + 1)) : hiB s c = set := by
  unfold hiB
  obtain ⟨q, hq⟩ := Nat.dvd_of_mod_eq_zero hm
  have hp := Nat.two_pow_pos (c + 1)
  have e : s / 2 ^ (c + 1) = q := by
    apply Nat.div_eq_of_lt_le
    · rw [Nat.mul_comm]; omega
    · rw [Nat.succ_mul, Nat.mul_comm]; omega
  rw [e, hq, Nat.mul_comm]
/-- no one of a set is idle beside those above it -/
def NI (Q : Nat → Nat → Prop) (s : Nat) : Prop := ∀ k, s.testBit k = true → ¬ Q k (hiB s k)
theorem NI.sub {Q : Nat → Nat → Prop} {a b : Nat} (hQ : ∀ c x y, (∀ k, x.testBit k = true → y.testBit k = true) → Q c x → Q c y) (h : ∀ k, a.testBit k = true → b.testBit k = true) (hb : NI Q b) : NI Q a := fun k hk hq => hb k (h k hk) (hQ k _ _ (fun i hi => by
  rw [hiB_bit, Bool.and_eq_true] at hi ⊢
  exact ⟨hi.1, h i hi.2⟩) hq)
theorem visL {P : Nat → Prop} {Q : Nat → Nat → Prop} (hP : ∀ a b, (∀ k, a.testBit k = true → b.testBit k = true) → P a → P b) : ∀ (o set : Nat) (st : Vs), o ≤ 12 → set % 2 ^ o = 0 → set + 2 ^ o ≤ 4096 → st.1 = 13 → pop set + o ≤ 12 → NI Q set →
    (vis P Q false o set st).1 = 13 ∧ (∀ s, st.2.2 s = true → (vis P Q false o set st).2.2 s = true) ∧
    (∀ s, (vis P Q false o set st).2.2 s = true → st.2.2 s = true ∨ (set ≤ s ∧ s < set + 2 ^ o ∧ P s ∧ (NI Q s ∨ ∃ k, s.testBit k = true ∧ (vis P Q false o set st).2.2 (clr s k) = true))) ∧
    ∀ s, set ≤ s → s < set + 2 ^ o → P s → NI Q s → (vis P Q false o set st).2.2 s = true := by
  intro o
  -- noted at once
  have noted : ∀ (o set : Nat) (st : Vs), set % 2 ^ o = 0 → st.1 = 13 → NI Q set → P set → (vis P Q false o set st).1 = 13 ∧ (∀ s, st.2.2 s = true → (vis P Q false o set st).2.2 s = true) ∧ (∀ s, (vis P Q false o set st).2.2 s = true → st.2.2 s = true ∨ (set ≤ s ∧ s < set + 2 ^ o ∧ P s ∧ (NI Q s ∨ ∃ k, s.testBit k = true ∧ (vis P Q false o set st).2.2 (clr s k) = true))) ∧ ∀ s, set ≤ s → s < set + 2 ^ o → P s → NI Q s → (vis P Q false o set st).2.2 s = true := by
    intro o set st hm h13 hN z
    rw [vis_p z]
    have e : ∀ s, (ntV false set (2 ^ o) st).2.2 s = (st.2.2 s || decide (set ≤ s ∧ s < set + 2 ^ o)) := fun _ => rfl
    refine ⟨h13, fun s hs => by rw [e, hs]; rfl, fun s hs => ?_, fun s h1 h2 _ _ => by rw [e, decide_eq_true ⟨h1, h2⟩, Bool.or_true]⟩
    rw [e, Bool.or_eq_true, decide_eq_true_iff] at hs
    rcases hs with hs | ⟨h1, h2⟩
    · exact Or.inl hs
    · refine Or.inr ⟨h1, h2, hP set s (in_sub hm h1 h2) z, ?_⟩
      by_cases q : s = set
      · rw [q]; exact Or.inl hN
      · right
        have hne : s - set ≠ 0 := by omega
        obtain ⟨k, hk⟩ := Nat.exists_testBit_of_ne_zero hne
        have hko : k < o := low_bit (show s - set < 2 ^ o by omega) hk
        refine ⟨k, ?_, ?_⟩
        · rw [in_or hm h1 h2, Nat.testBit_or, hk, Bool.or_true]
        · have hcl : clr s k = set + clr (s - set) k := by
            rw [add_or hm (clr_lt (by omega))]
            apply Nat.eq_of_testBit_eq
            intro i
            rw [clr_bit, Nat.testBit_or, clr_bit]
            conv => lhs; rw [in_or hm h1 h2, Nat.testBit_or]
            by_cases w : i = k
            · subst w
              rw [mul_bit hm hko]; simp
            · rw [decide_eq_false w]; simp
          have hlt : clr (s - set) k < 2 ^ o := clr_lt (by omega)
          rw [e, decide_eq_true ⟨by omega, by omega⟩, Bool.or_true]
  induction o with
  | zero =>
    intro set st _ hm hs h13 hpo hN
    by_cases z : P set
    · exact noted 0 set st hm h13 hN z
    · rw [vis_0 z]
      refine ⟨h13, fun _ h => h, fun s h => Or.inl h, fun s h1 h2 h3 _ => ?_⟩
      rw [Nat.pow_zero] at h2
      have : s = set := by omega
      subst this
      exact absurd h3 z
  | succ c ih =>
    intro set st ho hm hs h13 hpo hN
    by_cases z : P set
    · exact noted (c + 1) set st hm h13 hN z
    · have h2c : 2 ^ (c + 1) = 2 ^ c + 2 ^ c := by rw [Nat.pow_succ]; omega
      have hpc := Nat.two_pow_pos c
      have hmc : set % 2 ^ c = 0 := Nat.mod_eq_zero_of_dvd (Nat.dvd_trans ⟨2, by rw [Nat.pow_succ]⟩ (Nat.dvd_of_mod_eq_zero hm))
      have hor : set ||| 2 ^ c = set + 2 ^ c := (add_or hm (by omega)).symm
      have hpa := pop_add (set := set) hm (show c < 24 by omega)
      have y : pop set + 1 < st.1 := by omega
      by_cases x : Q c set
      · rw [vis_q z y x]
        obtain ⟨a1, a2, a3, a4⟩ := ih set st (by omega) hmc (by omega) h13 (by omega) hN
        refine ⟨a1, a2, fun s h => ?_, fun s h1 h2 h3 h4 => ?_⟩
        · rcases a3 s h with q | ⟨q1, q2, q3⟩
          · exact Or.inl q
          · exact Or.inr ⟨q1, by omega, q3⟩
        · by_cases q : s < set + 2 ^ c
          · exact a4 s h1 q h3 h4
          · exfalso
            obtain ⟨g1, g2, g3, g4⟩ := half hm (show set + 2 ^ c ≤ s by omega) h2
            refine h4 c ?_ (by rw [hiB_in hm h1 h2]; exact x)
            rw [g3, or_bit, decide_eq_true rfl, Bool.or_true]
      · have hN2 : NI Q (set ||| 2 ^ c) := by
          intro k hk hq
          rw [or_bit, Bool.or_eq_true, decide_eq_true_iff] at hk
          by_cases e : k = c
          · subst e
            rw [hiB_in hm (by rw [hor]; omega) (by rw [hor]; omega)] at hq
            exact x hq
          · have hk1 : set.testBit k = true := hk.resolve_right e
            have hkc : c + 1 ≤ k := by
              apply Nat.le_of_not_lt
              intro q
              rw [mul_bit hm q] at hk1
              cases hk1
            refine hN k hk1 ?_
            have e2 : hiB (set ||| 2 ^ c) k = hiB set k := by
              apply Nat.eq_of_testBit_eq
              intro i
              rw [hiB_bit, hiB_bit, or_bit]
              by_cases q : k < i
              · rw [decide_eq_false (show ¬ i = c by omega), Bool.or_false]
              · rw [decide_eq_false q, Bool.false_and, Bool.false_and]
            rw [← e2]; exact hq
        have ih2 : ∀ s1 : Vs, s1.1 = 13 → _ := fun s1 hs1 => ih (set ||| 2 ^ c) s1 (by omega) (by rw [hor, Nat.add_mod_right]; exact hmc) (by rw [hor]; omega) hs1 (by rw [hpa]; omega) hN2
        by_cases v : P (set ||| full c)
        · rw [vis_w z y x v]
          obtain ⟨a1, a2, a3, a4⟩ := ih set st (by omega) hmc (by omega) h13 (by omega) hN
          rw [if_pos (by omega)]
          obtain ⟨d1, d2, d3, d4⟩ := ih2 (vis P Q false c set st) a1
          refine ⟨d1, fun s h => d2 s (a2 s h), fun s h => ?_, fun s h1 h2 h3 h4 => ?_⟩
          · rcases d3 s h with q | ⟨q1, q2, q3⟩
            · rcases a3 s q with r | ⟨r1, r2, r3, r4⟩
              · exact Or.inl r
              · exact Or.inr ⟨r1, by omega, r3, r4.imp id (fun ⟨k, k1, k2⟩ => ⟨k, k1, d2 _ k2⟩)⟩
            · rw [hor] at q1 q2
              exact Or.inr ⟨by omega, by omega, q3⟩
          · by_cases q : s < set + 2 ^ c
            · exact d2 s (a4 s h1 q h3 h4)
            · exact d4 s (by rw [hor]; omega) (by rw [hor]; omega) h3 h4
        · rw [vis_o z y x v]
          obtain ⟨d1, d2, d3, d4⟩ := ih2 st h13
          refine ⟨d1, d2, fun s h => ?_, fun s h1 h2 h3 h4 => ?_⟩
          · rcases d3 s h with q | ⟨q1, q2, q3⟩
            · exact Or.inl q
            · rw [hor] at q1 q2
              exact Or.inr ⟨by omega, by omega, q3⟩
          · by_cases q : s < set + 2 ^ c
            · exact absurd (hP s _ (in_full hmc h1 q) h3) v
            · exact d4 s (by rw [hor]; omega) (by rw [hor]; omega) h3 h4
