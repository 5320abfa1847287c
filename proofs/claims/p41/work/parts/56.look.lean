/-! what is counted: loops of both -/
theorem ct_t {p : Nat → Bool} {n : Nat} (h : p n = true) : fb_ct p (n + 1) = fb_ct p n + 1 := by rw [fb_ct_succ, if_pos h]
theorem ct_f {p : Nat → Bool} {n : Nat} (h : ¬ p n = true) : fb_ct p (n + 1) = fb_ct p n := by rw [fb_ct_succ, if_neg h, Nat.add_zero]
theorem members_ok {N g n t : Nat} {w : Mem} {ld : Nat → Nat} (hG : GS w g n ld) (hN : 24 < N) (ht : t < n) : f_X3_members N w g (nI t) = some (nI (fb_ct (fun s => decide (ld s = ld t)) n)) := by
  have hn := hG.1
  obtain ⟨a, e1, e2⟩ := lpc n (fun fu a q => lp_X3_members_4 (fun (u2_1 : Int32) => (f_X3_members_30 N w g u2_1)) N w g (nI t) fu a q) (fun a => some a) (fun q a => a = nI (fb_ct (fun s => decide (ld s = ld t)) q)) (fun fu a ha => by
    show lp_X3_members_4 _ N w g (nI t) (fu + 1) a (nI n) = some a
    rw [lp_X3_members_4]
    simp (disch := omega) only [↓lm1, ↓lm2, eq_n1, eq_n2, n1_eq, n2_eq, n1_n2, n2_n1, n1_lt, n2_lt, n1_le, lt_n1, lt_n2, inb_t, cl_t, le_tt, le_tf, lt_tt, lt_tf, eq_tt, eq_tf, q_add, q_mul, li0, li1, li2, li3, li4, li5, li6, li7, li8, li12, li16, li24, li48, li500, gF_sA, gA_sF, gF_sF, gR_sA, gR_sF, gL_sA, gL_sF, gA_sA, shl_t, or_t, and_t, sbit_t, ubit_t, b01_0, b01_1, Option.bind_some, ↓reduceIte, eq_self, ne_eq, not_true_eq_false, Bool.false_eq_true, not_false_eq_true, true_and, and_true, false_and, and_false, if_pos, if_neg, hG.2.2.1]
    rfl) (fun fu q a hq ha => by
    subst ha
    refine ⟨_, rfl, ?_⟩
    have h1 := one_ok hG N hq ht
    show lp_X3_members_4 _ N w g (nI t) (fu + 1) _ (nI q) = lp_X3_members_4 _ N w g (nI t) fu _ (nI (q + 1))
    rw [lp_X3_members_4, h1]
    by_cases z : ld q = ld t
    · rw [ct_t (decide_eq_true z), if_pos z]
      simp (disch := omega) only [↓lm1, ↓lm2, eq_n1, eq_n2, n1_eq, n2_eq, n1_n2, n2_n1, n1_lt, n2_lt, n1_le, lt_n1, lt_n2, inb_t, cl_t, le_tt, le_tf, lt_tt, lt_tf, eq_tt, eq_tf, q_add, q_mul, li0, li1, li2, li3, li4, li5, li6, li7, li8, li12, li16, li24, li48, li500, gF_sA, gA_sF, gF_sF, gR_sA, gR_sF, gL_sA, gL_sF, gA_sA, shl_t, or_t, and_t, sbit_t, ubit_t, b01_0, b01_1, Option.bind_some, ↓reduceIte, eq_self, ne_eq, not_true_eq_false, Bool.false_eq_true, not_false_eq_true, true_and, and_true, false_and, and_false, if_pos, if_neg, hG.2.2.1]
    · rw [ct_f (fun y => z (of_decide_eq_true y)), if_neg z]
      simp (disch := omega) only [↓lm1, ↓lm2, eq_n1, eq_n2, n1_eq, n2_eq, n1_n2, n2_n1, n1_lt, n2_lt, n1_le, lt_n1, lt_n2, inb_t, cl_t, le_tt, le_tf, lt_tt, lt_tf, eq_tt, eq_tf, q_add, q_mul, li0, li1, li2, li3, li4, li5, li6, li7, li8, li12, li16, li24, li48, li500, gF_sA, gA_sF, gF_sF, gR_sA, gR_sF, gL_sA, gL_sF, gA_sA, shl_t, or_t, and_t, sbit_t, ubit_t, b01_0, b01_1, Option.bind_some, ↓reduceIte, eq_self, ne_eq, not_true_eq_false, Bool.false_eq_true, not_false_eq_true, true_and, and_true, false_and, and_false, if_pos, if_neg, hG.2.2.1]) 0 N (nI 0) (by omega) (by omega) rfl
  rw [f_X3_members]
  subst e1
  exact e2
/-- the leads of a term's first q parts, as bits -/
def plB (T : Trm) (ld : Nat → Nat) (t : Nat) : Nat → Nat
  | 0 => 0
  | q + 1 => plB T ld t q ||| 2 ^ ld (tP T t q)
theorem plB_bit {T : Trm} {ld : Nat → Nat} {t x : Nat} : ∀ q, (plB T ld t q).testBit x = true ↔ ∃ k, k < q ∧ ld (tP T t k) = x
  | 0 => by
    rw [plB, Nat.zero_testBit]
    exact ⟨fun h => Bool.noConfusion h, fun ⟨k, hk, _⟩ => absurd hk (Nat.not_lt_zero k)⟩
  | q + 1 => by
    rw [plB, or_bit, Bool.or_eq_true, plB_bit q, decide_eq_true_iff]
    constructor
    · rintro (⟨k, h1, h2⟩ | h)
      · exact ⟨k, by omega, h2⟩
      · exact ⟨q, by omega, h.symm⟩
    · rintro ⟨k, h1, h2⟩
      by_cases e : k = q
      · subst e; exact Or.inr h2.symm
      · exact Or.inl ⟨k, by omega, h2⟩
theorem plB_lt {T : Trm} {ld : Nat → Nat} {t : Nat} : ∀ q, (∀ k, k < q → ld (tP T t k) < 24) → plB T ld t q < 16777216
  | 0, _ => by rw [plB]; omega
  | q + 1, h => Nat.or_lt_two_pow (n := 24) (plB_lt q (fun k hk => h k (by omega))) (Nat.pow_lt_pow_right (by decide) (h q (by omega)))
theorem partLeads_ok {N f g t : Nat} {w : Mem} {T : Trm} {ld : Nat → Nat} (hT : TS w f T) (hG : GS w g (tN T) ld) (hN : 24 < N) (ht : t < tN T) : f_X7_partLeads N w f (nI t) g = some (nI (plB T ld t (tA T (tF T t)))) ∧ plB T ld t (tA T (tF T t)) < 16777216 := by
  have t1 := hT.1
  have t3 := (hT.2.2.2.1 t ht).2.1
  have hp : ∀ k, k < tA T (tF T t) → tP T t k < tN T := fun k hk => by have := hT.2.1 t ht k hk; omega
  have hl : ∀ k, k < tA T (tF T t) → ld (tP T t k) < 24 := fun k hk => by have := (hG.2.1 _ (hp k hk)).1; have := hp k hk; omega
  refine ⟨?_, plB_lt _ hl⟩
  obtain ⟨a, e1, e2⟩ := lpc (tA T (tF T t)) (fun fu a q => lp_X7_partLeads_5 (fun (u3_1 : Int32) => (f_X7_partLeads_38 N w f g u3_1)) N w f g (nI t) fu a q) (fun a => some a) (fun q a => a = nI (plB T ld t q)) (fun fu a ha => by
    show lp_X7_partLeads_5 _ N w f g (nI t) (fu + 1) a (nI _) = some a
    rw [lp_X7_partLeads_5, partsOf_ok hT ht]
    simp (disch := omega) only [↓lm1, ↓lm2, eq_n1, eq_n2, n1_eq, n2_eq, n1_n2, n2_n1, n1_lt, n2_lt, n1_le, lt_n1, lt_n2, inb_t, cl_t, le_tt, le_tf, lt_tt, lt_tf, eq_tt, eq_tf, q_add, q_mul, li0, li1, li2, li3, li4, li5, li6, li7, li8, li12, li16, li24, li48, li500, gF_sA, gA_sF, gF_sF, gR_sA, gR_sF, gL_sA, gL_sF, gA_sA, shl_t, or_t, and_t, sbit_t, ubit_t, b01_0, b01_1, Option.bind_some, ↓reduceIte, eq_self, ne_eq, not_true_eq_false, Bool.false_eq_true, not_false_eq_true, true_and, and_true, false_and, and_false, if_pos, if_neg]
    rfl) (fun fu q a hq ha => by
    subst ha
    refine ⟨_, rfl, ?_⟩
    have k1 := hp q hq
    have k2 := hl q hq
    show lp_X7_partLeads_5 _ N w f g (nI t) (fu + 1) _ (nI q) = lp_X7_partLeads_5 _ N w f g (nI t) fu _ (nI (q + 1))
    rw [lp_X7_partLeads_5, partsOf_ok hT ht, plB, Option.bind_some, partAt_ok hT ht hq]
    simp (disch := omega) only [↓lm1, ↓lm2, eq_n1, eq_n2, n1_eq, n2_eq, n1_n2, n2_n1, n1_lt, n2_lt, n1_le, lt_n1, lt_n2, inb_t, cl_t, le_tt, le_tf, lt_tt, lt_tf, eq_tt, eq_tf, q_add, q_mul, li0, li1, li2, li3, li4, li5, li6, li7, li8, li12, li16, li24, li48, li500, gF_sA, gA_sF, gF_sF, gR_sA, gR_sF, gL_sA, gL_sF, gA_sA, shl_t, or_t, and_t, sbit_t, ubit_t, b01_0, b01_1, Option.bind_some, ↓reduceIte, eq_self, ne_eq, not_true_eq_false, Bool.false_eq_true, not_false_eq_true, true_and, and_true, false_and, and_false, if_pos, if_neg, hG.2.2.2.2]) 0 N (nI 0) (by omega) (by omega) rfl
  rw [f_X7_partLeads]
  subst e1
  exact e2
/-- whether a part of s is one with t -/
def usr (T : Trm) (ld : Nat → Nat) (t s : Nat) : Bool := (plB T ld s (tA T (tF T s))).testBit (ld t)
theorem termsAbove_ok {N f g t : Nat} {w : Mem} {T : Trm} {ld : Nat → Nat} (hT : TS w f T) (hG : GS w g (tN T) ld) (hN : 24 < N) (ht : t < tN T) : f_X7_termsAbove N w f (nI t) g = some (nI (fb_ct (usr T ld t) (tN T))) := by
  have t1 := hT.1
  have c1 := (hG.2.1 t ht).1
  obtain ⟨a, e1, e2⟩ := lpc (tN T) (fun fu a q => lp_X7_termsAbove_5 (fun (u3_1 : Int32) => (f_X7_termsAbove_42 N w f g u3_1)) N w f g (nI t) fu a q) (fun a => some a) (fun q a => a = nI (fb_ct (usr T ld t) q)) (fun fu a ha => by
    show lp_X7_termsAbove_5 _ N w f g (nI t) (fu + 1) a (nI _) = some a
    rw [lp_X7_termsAbove_5]
    simp (disch := omega) only [↓lm1, ↓lm2, eq_n1, eq_n2, n1_eq, n2_eq, n1_n2, n2_n1, n1_lt, n2_lt, n1_le, lt_n1, lt_n2, inb_t, cl_t, le_tt, le_tf, lt_tt, lt_tf, eq_tt, eq_tf, q_add, q_mul, li0, li1, li2, li3, li4, li5, li6, li7, li8, li12, li16, li24, li48, li500, gF_sA, gA_sF, gF_sF, gR_sA, gR_sF, gL_sA, gL_sF, gA_sA, shl_t, or_t, and_t, sbit_t, ubit_t, b01_0, b01_1, Option.bind_some, ↓reduceIte, eq_self, ne_eq, not_true_eq_false, Bool.false_eq_true, not_false_eq_true, true_and, and_true, false_and, and_false, if_pos, if_neg, hT.2.2.1]
    rfl) (fun fu q a hq ha => by
    subst ha
    refine ⟨_, rfl, ?_⟩
    obtain ⟨k1, k2⟩ := partLeads_ok (N := N) hT hG hN hq
    show lp_X7_termsAbove_5 _ N w f g (nI t) (fu + 1) _ (nI q) = lp_X7_termsAbove_5 _ N w f g (nI t) fu _ (nI (q + 1))
    rw [lp_X7_termsAbove_5, k1]
    by_cases z : usr T ld t q = true
    · have z' : (plB T ld q (tA T (tF T q))).testBit (ld t) = true := z
      rw [ct_t z]
      simp (disch := omega) only [↓lm1, ↓lm2, eq_n1, eq_n2, n1_eq, n2_eq, n1_n2, n2_n1, n1_lt, n2_lt, n1_le, lt_n1, lt_n2, inb_t, cl_t, le_tt, le_tf, lt_tt, lt_tf, eq_tt, eq_tf, q_add, q_mul, li0, li1, li2, li3, li4, li5, li6, li7, li8, li12, li16, li24, li48, li500, gF_sA, gA_sF, gF_sF, gR_sA, gR_sF, gL_sA, gL_sF, gA_sA, shl_t, or_t, and_t, sbit_t, ubit_t, b01_0, b01_1, Option.bind_some, ↓reduceIte, eq_self, ne_eq, not_true_eq_false, Bool.false_eq_true, not_false_eq_true, true_and, and_true, false_and, and_false, if_pos, if_neg, hT.2.2.1, hG.2.2.2.2, z']
    · have z' : ¬ (plB T ld q (tA T (tF T q))).testBit (ld t) = true := z
      rw [ct_f z]
      simp (disch := omega) only [↓lm1, ↓lm2, eq_n1, eq_n2, n1_eq, n2_eq, n1_n2, n2_n1, n1_lt, n2_lt, n1_le, lt_n1, lt_n2, inb_t, cl_t, le_tt, le_tf, lt_tt, lt_tf, eq_tt, eq_tf, q_add, q_mul, li0, li1, li2, li3, li4, li5, li6, li7, li8, li12, li16, li24, li48, li500, gF_sA, gA_sF, gF_sF, gR_sA, gR_sF, gL_sA, gL_sF, gA_sA, shl_t, or_t, and_t, sbit_t, ubit_t, b01_0, b01_1, Option.bind_some, ↓reduceIte, eq_self, ne_eq, not_true_eq_false, Bool.false_eq_true, not_false_eq_true, true_and, and_true, false_and, and_false, if_pos, if_neg, hT.2.2.1, hG.2.2.2.2, z']) 0 N (nI 0) (by omega) (by omega) rfl
  rw [f_X7_termsAbove]
  subst e1
  exact e2
/-- the leads of the groups that have a term of function g, among the first q -/
def gwB (T : Trm) (ld : Nat → Nat) (g : Nat) : Nat → Nat
  | 0 => 0
  | q + 1 => if tF T q = g then gwB T ld g q ||| 2 ^ ld q else gwB T ld g q
theorem gwB_lt {T : Trm} {ld : Nat → Nat} {g : Nat} : ∀ q, (∀ k, k < q → ld k < 24) → gwB T ld g q < 16777216
  | 0, _ => by rw [gwB]; omega
  | q + 1, h => by
    have ih := gwB_lt (T := T) (g := g) q (fun k hk => h k (by omega))
    rw [gwB]
    by_cases e : tF T q = g
    · rw [if_pos e]; exact Nat.or_lt_two_pow (n := 24) ih (Nat.pow_lt_pow_right (by decide) (h q (by omega)))
    · rw [if_neg e]; exact ih
