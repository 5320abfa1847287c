/-! what is counted: loops of both -/
theorem ct_t {p : Nat → Bool} {n : Nat} (h : p n = true) : fb_ct p (n + 1) = fb_ct p n + 1 := by rw [fb_ct_succ, if_pos h]
theorem ct_f {p : Nat → Bool} {n : Nat} (h : ¬ p n = true) : fb_ct p (n + 1) = fb_ct p n := by rw [fb_ct_succ, if_neg h, Nat.add_zero]
theorem members_ok {N g n t : Nat} {w : Mem} {ld : Nat → Nat} (hG : GS w g n ld) (hN : 24 < N) (ht : t < n) : f_X3_members N w g (nI t) = some (nI (fb_ct (fun s => decide (ld s = ld t)) n)) := by
  have hn := hG.1
  obtain ⟨a, e1, e2⟩ := lpc n (fun fu a q => lp_X3_members_4 (fun (u2_1 : Int32) => (f_X3_members_30 N w g u2_1)) N w g (nI t) fu a q) (fun a => some a) (fun q a => a = nI (fb_ct (fun s => decide (ld s = ld t)) q)) (fun fu a ha => by
    show lp_X3_members_4 _ N w g (nI t) (fu + 1) a (nI n) = some a
    rw [lp_X3_members_4]
    simp (disch := omega) only [↓lm1, ↓lm2, eq_n1, eq_n2, n1_eq, n2_eq, n1_n2, n2_n1, n1_lt, n2_lt, n1_le, lt_n1, lt_n2, inb_t, cl_t, le_tt, le_tf, lt_tt, lt_tf, eq_tt, eq_tf, q_add, q_mul, li0, li1, li2, li3, li4, li5, li6, li7, li8, li12, li16, li24, li48, li500, gF_sA, gA_sF, gF_sF, gR_sA, gR_sF, gL_sA, gL_sF, gA_sA, shl_t, or_t, and_t, sbit_t, ubit_t, b01_0, b01_1, Option.bind_some, ↓reduceIte, eq_self, ne_eq, not_true_eq_false, Bool.false_eq_true, not_false_eq_true, true_and, and_true, false_and, and_false, if_pos, if_neg, hG.2.2.1]
    rfl) (fun fu q a hq ha => by
    subst ha
    refine ⟨_, rfl, ?_⟩
    have h1 := one_ok hG N hq ht
    show lp_X3_members_4 _ N w g (nI t) (fu + 1) _ (nI q) = lp_X3_members_4 _ N w g (nI t) fu _ (nI (q + 1))
    rw [lp_X3_members_4, h1]
    by_cases z : ld q = ld t
    · rw [ct_t (decide_eq_true z), if_pos z]
      simp (disch := omega) only [↓lm1, ↓lm2, eq_n1, eq_n2, n1_eq, n2_eq, n1_n2, n2_n1, n1_lt, n2_lt, n1_le, lt_n1, lt_n2, inb_t, cl_t, le_tt, le_tf, lt_tt, lt_tf, eq_tt, eq_tf, q_add, q_mul, li0, li1, li2, li3, li4, li5, li6, li7, li8, li12, li16, li24, li48, li500, gF_sA, gA_sF, gF_sF, gR_sA, gR_sF, gL_sA, gL_sF, gA_sA, shl_t, or_t, and_t, sbit_t, ubit_t, b01_0, b01_1, Option.bind_some, ↓reduceIte, eq_self, ne_eq, not_true_eq_false, Bool.false_eq_true, not_false_eq_true, true_and, and_true, false_and, and_false, if_pos, if_neg, hG.2.2.1]
    · rw [ct_f (fun y => z (of_decide_eq_true y)), if_neg z]
      simp (disch := omega) only [↓lm1, ↓lm2, eq_n1, eq_n2, n1_eq, n2_eq, n1_n2, n2_n1, n1_lt, n2_lt, n1_le, lt_n1, lt_n2, inb_t, cl_t, le_tt, le_tf, lt_tt, lt_tf, eq_tt, eq_tf, q_add, q_mul, li0, li1, li2, li3, li4, li5, li6, li7, li8, li12, li16, li24, li48, li500, gF_sA, gA_sF, gF_sF, gR_sA, gR_sF, gL_sA, gL_sF, gA_sA, shl_t, or_t, and_t, sbit_t, ubit_t, b01_0, b01_1, Option.bind_some, ↓reduceIte, eq_self, ne_eq, not_true_eq_false, Bool.false_eq_true, not_false_eq_true, true_and, and_true, false_and, and_false, if_pos, if_neg, hG.2.2.1]) 0 N (nI 0) (by omega) (by omega) rfl
  rw [f_X3_members]
  subst e1
  exact e2
theorem groupMany_ok {N n t : Nat} {w : Mem} {ld : Nat → Nat} (hR : RS w 52 n ld) (hN : 24 < N) (ht : t < n) : f_X9_groupMany N w (nI t) = some (nI (fb_ct (fun s => decide (ld s = ld t)) n)) := by
  obtain ⟨hn, hC, h27, h52⟩ := hR
  have c1 := (hC t ht).1
  obtain ⟨a, e1, e2⟩ := lpc n (fun fu a q => lp_X9_groupMany_4 (fun (u2_1 : Int32) => (f_X9_groupMany_41 N w u2_1)) N w (nI t) fu a q) (fun a => some a) (fun q a => a = nI (fb_ct (fun s => decide (ld s = ld t)) q)) (fun fu a ha => by
    show lp_X9_groupMany_4 _ N w (nI t) (fu + 1) a (nI n) = some a
    rw [lp_X9_groupMany_4]
    simp (disch := omega) only [↓lm1, ↓lm2, eq_n1, eq_n2, n1_eq, n2_eq, n1_n2, n2_n1, n1_lt, n2_lt, n1_le, lt_n1, lt_n2, inb_t, cl_t, le_tt, le_tf, lt_tt, lt_tf, eq_tt, eq_tf, q_add, q_mul, li0, li1, li2, li3, li4, li5, li6, li7, li8, li12, li16, li24, li48, li500, gF_sA, gA_sF, gF_sF, gR_sA, gR_sF, gL_sA, gL_sF, gA_sA, shl_t, or_t, and_t, sbit_t, ubit_t, b01_0, b01_1, Option.bind_some, ↓reduceIte, eq_self, ne_eq, not_true_eq_false, Bool.false_eq_true, not_false_eq_true, true_and, and_true, false_and, and_false, if_pos, if_neg, h27]
    rfl) (fun fu q a hq ha => by
    subst ha
    refine ⟨_, rfl, ?_⟩
    have c2 := (hC q hq).1
    show lp_X9_groupMany_4 _ N w (nI t) (fu + 1) _ (nI q) = lp_X9_groupMany_4 _ N w (nI t) fu _ (nI (q + 1))
    rw [lp_X9_groupMany_4]
    by_cases z : ld q = ld t
    · rw [ct_t (decide_eq_true z)]
      simp (disch := omega) only [↓lm1, ↓lm2, eq_n1, eq_n2, n1_eq, n2_eq, n1_n2, n2_n1, n1_lt, n2_lt, n1_le, lt_n1, lt_n2, inb_t, cl_t, le_tt, le_tf, lt_tt, lt_tf, eq_tt, eq_tf, q_add, q_mul, li0, li1, li2, li3, li4, li5, li6, li7, li8, li12, li16, li24, li48, li500, gF_sA, gA_sF, gF_sF, gR_sA, gR_sF, gL_sA, gL_sF, gA_sA, shl_t, or_t, and_t, sbit_t, ubit_t, b01_0, b01_1, Option.bind_some, ↓reduceIte, eq_self, ne_eq, not_true_eq_false, Bool.false_eq_true, not_false_eq_true, true_and, and_true, false_and, and_false, if_pos, if_neg, h27, h52]
    · rw [ct_f (fun y => z (of_decide_eq_true y))]
      simp (disch := omega) only [↓lm1, ↓lm2, eq_n1, eq_n2, n1_eq, n2_eq, n1_n2, n2_n1, n1_lt, n2_lt, n1_le, lt_n1, lt_n2, inb_t, cl_t, le_tt, le_tf, lt_tt, lt_tf, eq_tt, eq_tf, q_add, q_mul, li0, li1, li2, li3, li4, li5, li6, li7, li8, li12, li16, li24, li48, li500, gF_sA, gA_sF, gF_sF, gR_sA, gR_sF, gL_sA, gL_sF, gA_sA, shl_t, or_t, and_t, sbit_t, ubit_t, b01_0, b01_1, Option.bind_some, ↓reduceIte, eq_self, ne_eq, not_true_eq_false, Bool.false_eq_true, not_false_eq_true, true_and, and_true, false_and, and_false, if_pos, if_neg, h27, h52, Nat.add_zero]) 0 N (nI 0) (by omega) (by omega) rfl
  rw [f_X9_groupMany]
  subst e1
  exact e2
/-- the leads of a term's first q parts, as bits -/
def plB (T : Trm) (ld : Nat → Nat) (t : Nat) : Nat → Nat
  | 0 => 0
  | q + 1 => plB T ld t q ||| 2 ^ ld (tP T t q)
theorem plB_bit {T : Trm} {ld : Nat → Nat} {t x : Nat} : ∀ q, (plB T ld t q).testBit x = true ↔ ∃ k, k < q ∧ ld (tP T t k) = x
  | 0 => by
    rw [plB, Nat.zero_testBit]
    exact ⟨fun h => Bool.noConfusion h, fun ⟨k, hk, _⟩ => absurd hk (Nat.not_lt_zero k)⟩
  | q + 1 => by
    rw [plB, or_bit, Bool.or_eq_true, plB_bit q, decide_eq_true_iff]
    constructor
    · rintro (⟨k, h1, h2⟩ | h)
      · exact ⟨k, by omega, h2⟩
      · exact ⟨q, by omega, h.symm⟩
    · rintro ⟨k, h1, h2⟩
      by_cases e : k = q
      · subst e; exact Or.inr h2.symm
      · exact Or.inl ⟨k, by omega, h2⟩
theorem plB_lt {T : Trm} {ld : Nat → Nat} {t : Nat} : ∀ q, (∀ k, k < q → ld (tP T t k) < 24) → plB T ld t q < 16777216
  | 0, _ => by rw [plB]; omega
  | q + 1, h => Nat.or_lt_two_pow (n := 24) (plB_lt q (fun k hk => h k (by omega))) (Nat.pow_lt_pow_right (by decide) (h q (by omega)))
theorem partLeads_ok {N f g t : Nat} {w : Mem} {T : Trm} {ld : Nat → Nat} (hT : TS w f T) (hG : GS w g (tN T) ld) (hN : 24 < N) (ht : t < tN T) : f_X7_partLeads N w f (nI t) g = some (nI (plB T ld t (tA T (tF T t)))) ∧ plB T ld t (tA T (tF T t)) < 16777216 := by
  have t1 := hT.1
  have t3 := (hT.2.2.2.1 t ht).2.1
  have hp : ∀ k, k < tA T (tF T t) → tP T t k < tN T := fun k hk => by have := hT.2.1 t ht k hk; omega
  have hl : ∀ k, k < tA T (tF T t) → ld (tP T t k) < 24 := fun k hk => by have := (hG.2.1 _ (hp k hk)).1; have := hp k hk; omega
  refine ⟨?_, plB_lt _ hl⟩
  obtain ⟨a, e1, e2⟩ := lpc (tA T (tF T t)) (fun fu a q => lp_X7_partLeads_5 (fun (u3_1 : Int32) => (f_X7_partLeads_38 N w f g u3_1)) N w f g (nI t) fu a q) (fun a => some a) (fun q a => a = nI (plB T ld t q)) (fun fu a ha => by
    show lp_X7_partLeads_5 _ N w f g (nI t) (fu + 1) a (nI _) = some a
    rw [lp_X7_partLeads_5, partsOf_ok hT ht]
    simp (disch := omega) only [↓lm1, ↓lm2, eq_n1, eq_n2, n1_eq, n2_eq, n1_n2, n2_n1, n1_lt, n2_lt, n1_le, lt_n1, lt_n2, inb_t, cl_t, le_tt, le_tf, lt_tt, lt_tf, eq_tt, eq_tf, q_add, q_mul, li0, li1, li2, li3, li4, li5, li6, li7, li8, li12, li16, li24, li48, li500, gF_sA, gA_sF, gF_sF, gR_sA, gR_sF, gL_sA, gL_sF, gA_sA, shl_t, or_t, and_t, sbit_t, ubit_t, b01_0, b01_1, Option.bind_some, ↓reduceIte, eq_self, ne_eq, not_true_eq_false, Bool.false_eq_true, not_false_eq_true, true_and, and_true, false_and, and_false, if_pos, if_neg]
    rfl) (fun fu q a hq ha => by
    subst ha
    refine ⟨_, rfl, ?_⟩
    have k1 := hp q hq
    have k2 := hl q hq
    show lp_X7_partLeads_5 _ N w f g (nI t) (fu + 1) _ (nI q) = lp_X7_partLeads_5 _ N w f g (nI t) fu _ (nI (q + 1))
    rw [lp_X7_partLeads_5, partsOf_ok hT ht, plB, Option.bind_some, partAt_ok hT ht hq]
    simp (disch := omega) only [↓lm1, ↓lm2, eq_n1, eq_n2, n1_eq, n2_eq, n1_n2, n2_n1, n1_lt, n2_lt, n1_le, lt_n1, lt_n2, inb_t, cl_t, le_tt, le_tf, lt_tt, lt_tf, eq_tt, eq_tf, q_add, q_mul, li0, li1, li2, li3, li4, li5, li6, li7, li8, li12, li16, li24, li48, li500, gF_sA, gA_sF, gF_sF, gR_sA, gR_sF, gL_sA, gL_sF, gA_sA, shl_t, or_t, and_t, sbit_t, ubit_t, b01_0, b01_1, Option.bind_some, ↓reduceIte, eq_self, ne_eq, not_true_eq_false, Bool.false_eq_true, not_false_eq_true, true_and, and_true, false_and, and_false, if_pos, if_neg, hG.2.2.2.2]) 0 N (nI 0) (by omega) (by omega) rfl
  rw [f_X7_partLeads]
  subst e1
  exact e2
/-- whether a part of s is one with t -/
def usr (T : Trm) (ld : Nat → Nat) (t s : Nat) : Bool := (plB T ld s (tA T (tF T s))).testBit (ld t)
theorem termsAbove_ok {N f g t : Nat} {w : Mem} {T : Trm} {ld : Nat → Nat} (hT : TS w f T) (hG : GS w g (tN T) ld) (hN : 24 < N) (ht : t < tN T) : f_X7_termsAbove N w f (nI t) g = some (nI (fb_ct (usr T ld t) (tN T))) := by
  have t1 := hT.1
  have c1 := (hG.2.1 t ht).1
  obtain ⟨a, e1, e2⟩ := lpc (tN T) (fun fu a q => lp_X7_termsAbove_5 (fun (u3_1 : Int32) => (f_X7_termsAbove_42 N w f g u3_1)) N w f g (nI t) fu a q) (fun a => some a) (fun q a => a = nI (fb_ct (usr T ld t) q)) (fun fu a ha => by
    show lp_X7_termsAbove_5 _ N w f g (nI t) (fu + 1) a (nI _) = some a
    rw [lp_X7_termsAbove_5]
    simp (disch := omega) only [↓lm1, ↓lm2, eq_n1, eq_n2, n1_eq, n2_eq, n1_n2, n2_n1, n1_lt, n2_lt, n1_le, lt_n1, lt_n2, inb_t, cl_t, le_tt, le_tf, lt_tt, lt_tf, eq_tt, eq_tf, q_add, q_mul, li0, li1, li2, li3, li4, li5, li6, li7, li8, li12, li16, li24, li48, li500, gF_sA, gA_sF, gF_sF, gR_sA, gR_sF, gL_sA, gL_sF, gA_sA, shl_t, or_t, and_t, sbit_t, ubit_t, b01_0, b01_1, Option.bind_some, ↓reduceIte, eq_self, ne_eq, not_true_eq_false, Bool.false_eq_true, not_false_eq_true, true_and, and_true, false_and, and_false, if_pos, if_neg, hT.2.2.1]
    rfl) (fun fu q a hq ha => by
    subst ha
    refine ⟨_, rfl, ?_⟩
    obtain ⟨k1, k2⟩ := partLeads_ok (N := N) hT hG hN hq
    show lp_X7_termsAbove_5 _ N w f g (nI t) (fu + 1) _ (nI q) = lp_X7_termsAbove_5 _ N w f g (nI t) fu _ (nI (q + 1))
    rw [lp_X7_termsAbove_5, k1]
    by_cases z : usr T ld t q = true
    · have z' : (plB T ld q (tA T (tF T q))).testBit (ld t) = true := z
      rw [ct_t z]
      simp (disch := omega) only [↓lm1, ↓lm2, eq_n1, eq_n2, n1_eq, n2_eq, n1_n2, n2_n1, n1_lt, n2_lt, n1_le, lt_n1, lt_n2, inb_t, cl_t, le_tt, le_tf, lt_tt, lt_tf, eq_tt, eq_tf, q_add, q_mul, li0, li1, li2, li3, li4, li5, li6, li7, li8, li12, li16, li24, li48, li500, gF_sA, gA_sF, gF_sF, gR_sA, gR_sF, gL_sA, gL_sF, gA_sA, shl_t, or_t, and_t, sbit_t, ubit_t, b01_0, b01_1, Option.bind_some, ↓reduceIte, eq_self, ne_eq, not_true_eq_false, Bool.false_eq_true, not_false_eq_true, true_and, and_true, false_and, and_false, if_pos, if_neg, hT.2.2.1, hG.2.2.2.2, z']
    · have z' : ¬ (plB T ld q (tA T (tF T q))).testBit (ld t) = true := z
      rw [ct_f z]
      simp (disch := omega) only [↓lm1, ↓lm2, eq_n1, eq_n2, n1_eq, n2_eq, n1_n2, n2_n1, n1_lt, n2_lt, n1_le, lt_n1, lt_n2, inb_t, cl_t, le_tt, le_tf, lt_tt, lt_tf, eq_tt, eq_tf, q_add, q_mul, li0, li1, li2, li3, li4, li5, li6, li7, li8, li12, li16, li24, li48, li500, gF_sA, gA_sF, gF_sF, gR_sA, gR_sF, gL_sA, gL_sF, gA_sA, shl_t, or_t, and_t, sbit_t, ubit_t, b01_0, b01_1, Option.bind_some, ↓reduceIte, eq_self, ne_eq, not_true_eq_false, Bool.false_eq_true, not_false_eq_true, true_and, and_true, false_and, and_false, if_pos, if_neg, hT.2.2.1, hG.2.2.2.2, z']) 0 N (nI 0) (by omega) (by omega) rfl
  rw [f_X7_termsAbove]
  subst e1
  exact e2
theorem usersOf_ok {N t : Nat} {w : Mem} {T : Trm} {ld : Nat → Nat} (hT : MT w T) (hR : RS w 52 (tN T) ld) (hN : 24 < N) (ht : t < tN T) : f_X9_usersOf N w (nI t) = some (nI (fb_ct (usr T ld t) (tN T))) := by
  have t1 := hT.1
  have c1 := (hR.2.1 t ht).1
  obtain ⟨a, e1, e2⟩ := lpc (tN T) (fun fu a q => lp_X9_usersOf_4 (fun (u2_1 : Int32) => (f_X9_usersOf_90 N w u2_1)) N w (nI t) fu a q) (fun a => some a) (fun q a => a = nI (fb_ct (usr T ld t) q)) (fun fu a ha => by
    show lp_X9_usersOf_4 _ N w (nI t) (fu + 1) a (nI _) = some a
    rw [lp_X9_usersOf_4]
    simp (disch := omega) only [↓lm1, ↓lm2, eq_n1, eq_n2, n1_eq, n2_eq, n1_n2, n2_n1, n1_lt, n2_lt, n1_le, lt_n1, lt_n2, inb_t, cl_t, le_tt, le_tf, lt_tt, lt_tf, eq_tt, eq_tf, q_add, q_mul, li0, li1, li2, li3, li4, li5, li6, li7, li8, li12, li16, li24, li48, li500, gF_sA, gA_sF, gF_sF, gR_sA, gR_sF, gL_sA, gL_sF, gA_sA, shl_t, or_t, and_t, sbit_t, ubit_t, b01_0, b01_1, Option.bind_some, ↓reduceIte, eq_self, ne_eq, not_true_eq_false, Bool.false_eq_true, not_false_eq_true, true_and, and_true, false_and, and_false, if_pos, if_neg, hT.2.2.1]
    rfl) (fun fu s a hs ha => by
    subst ha
    refine ⟨_, rfl, ?_⟩
    have t3 := (hT.2.2.2.1 s hs).2.1
    have hp : ∀ k, k < tA T (tF T s) → tP T s k < tN T := fun k hk => by have := hT.2.1 s hs k hk; omega
    show lp_X9_usersOf_4 _ N w (nI t) (fu + 1) _ (nI s) = lp_X9_usersOf_4 _ N w (nI t) fu _ (nI (s + 1))
    rw [lp_X9_usersOf_4]
    simp (disch := omega) only [↓lm1, ↓lm2, eq_n1, eq_n2, n1_eq, n2_eq, n1_n2, n2_n1, n1_lt, n2_lt, n1_le, lt_n1, lt_n2, inb_t, cl_t, le_tt, le_tf, lt_tt, lt_tf, eq_tt, eq_tf, q_add, q_mul, li0, li1, li2, li3, li4, li5, li6, li7, li8, li12, li16, li24, li48, li500, gF_sA, gA_sF, gF_sF, gR_sA, gR_sF, gL_sA, gL_sF, gA_sA, shl_t, or_t, and_t, sbit_t, ubit_t, b01_0, b01_1, Option.bind_some, ↓reduceIte, eq_self, ne_eq, not_true_eq_false, Bool.false_eq_true, not_false_eq_true, true_and, and_true, false_and, and_false, if_pos, if_neg, hT.2.2.1]
    obtain ⟨b, f1, f2⟩ := lpc (tA T (tF T s)) (fun fu2 a q => lp_X9_usersOf_18 (fun (u4_2 : Int32) => (f_X9_usersOf_71_4 (fun (v2 : Int32) (v3 : Int32) => lp_X9_usersOf_4 (fun (u2_1 : Int32) => (f_X9_usersOf_90 N w u2_1)) N w (nI t) fu v2 v3) (fun (u2_1 : Int32) => (f_X9_usersOf_90 N w u2_1)) N w (nI t) (nI (fb_ct (usr T ld t) s)) (nI s) u4_2)) N w (nI t) (nI (fb_ct (usr T ld t) s)) (nI s) fu2 a q) (fun a => f_X9_usersOf_71_4 (fun (v2 : Int32) (v3 : Int32) => lp_X9_usersOf_4 (fun (u2_1 : Int32) => (f_X9_usersOf_90 N w u2_1)) N w (nI t) fu v2 v3) (fun (u2_1 : Int32) => (f_X9_usersOf_90 N w u2_1)) N w (nI t) (nI (fb_ct (usr T ld t) s)) (nI s) a) (fun q a => a = nI (b01 ((plB T ld s q).testBit (ld t) = true))) (fun fu2 a ha => by
      show lp_X9_usersOf_18 _ N w (nI t) _ (nI s) (fu2 + 1) a (nI _) = _
      rw [lp_X9_usersOf_18, takesOf_ok hT hs]
      simp (disch := omega) only [↓lm1, ↓lm2, eq_n1, eq_n2, n1_eq, n2_eq, n1_n2, n2_n1, n1_lt, n2_lt, n1_le, lt_n1, lt_n2, inb_t, cl_t, le_tt, le_tf, lt_tt, lt_tf, eq_tt, eq_tf, q_add, q_mul, li0, li1, li2, li3, li4, li5, li6, li7, li8, li12, li16, li24, li48, li500, gF_sA, gA_sF, gF_sF, gR_sA, gR_sF, gL_sA, gL_sF, gA_sA, shl_t, or_t, and_t, sbit_t, ubit_t, b01_0, b01_1, Option.bind_some, ↓reduceIte, eq_self, ne_eq, not_true_eq_false, Bool.false_eq_true, not_false_eq_true, true_and, and_true, false_and, and_false, if_pos, if_neg]) (fun fu2 q a hq ha => by
      subst ha
      refine ⟨_, rfl, ?_⟩
      have k1 := hp q hq
      have k2 := (hR.2.1 _ k1).1
      show lp_X9_usersOf_18 _ N w (nI t) _ (nI s) (fu2 + 1) _ (nI q) = lp_X9_usersOf_18 _ N w (nI t) _ (nI s) fu2 _ (nI (q + 1))
      have hb : (plB T ld s (q + 1)).testBit (ld t) = true ↔ (plB T ld s q).testBit (ld t) = true ∨ ld (tP T s q) = ld t := by
        rw [plB, or_bit, Bool.or_eq_true, decide_eq_true_iff]
        exact ⟨fun h => h.imp id Eq.symm, fun h => h.imp id Eq.symm⟩
      rw [lp_X9_usersOf_18, takesOf_ok hT hs]
      by_cases z : (plB T ld s q).testBit (ld t) = true
      · rw [b01_t z, b01_t (hb.mpr (Or.inl z))]
        simp (disch := omega) only [↓lm1, ↓lm2, eq_n1, eq_n2, n1_eq, n2_eq, n1_n2, n2_n1, n1_lt, n2_lt, n1_le, lt_n1, lt_n2, inb_t, cl_t, le_tt, le_tf, lt_tt, lt_tf, eq_tt, eq_tf, q_add, q_mul, li0, li1, li2, li3, li4, li5, li6, li7, li8, li12, li16, li24, li48, li500, gF_sA, gA_sF, gF_sF, gR_sA, gR_sF, gL_sA, gL_sF, gA_sA, shl_t, or_t, and_t, sbit_t, ubit_t, b01_0, b01_1, Option.bind_some, ↓reduceIte, eq_self, ne_eq, not_true_eq_false, Bool.false_eq_true, not_false_eq_true, true_and, and_true, false_and, and_false, if_pos, if_neg]
      · rw [b01_f z]
        by_cases y : ld (tP T s q) = ld t
        · rw [b01_t (hb.mpr (Or.inr y))]
          simp (disch := omega) only [↓lm1, ↓lm2, eq_n1, eq_n2, n1_eq, n2_eq, n1_n2, n2_n1, n1_lt, n2_lt, n1_le, lt_n1, lt_n2, inb_t, cl_t, le_tt, le_tf, lt_tt, lt_tf, eq_tt, eq_tf, q_add, q_mul, li0, li1, li2, li3, li4, li5, li6, li7, li8, li12, li16, li24, li48, li500, gF_sA, gA_sF, gF_sF, gR_sA, gR_sF, gL_sA, gL_sF, gA_sA, shl_t, or_t, and_t, sbit_t, ubit_t, b01_0, b01_1, Option.bind_some, ↓reduceIte, eq_self, ne_eq, not_true_eq_false, Bool.false_eq_true, not_false_eq_true, true_and, and_true, false_and, and_false, if_pos, if_neg, hT.2.2.2.2 s q hs hq, hR.2.2.2]
        · rw [b01_f (fun h => (hb.mp h).elim z y)]
          simp (disch := omega) only [↓lm1, ↓lm2, eq_n1, eq_n2, n1_eq, n2_eq, n1_n2, n2_n1, n1_lt, n2_lt, n1_le, lt_n1, lt_n2, inb_t, cl_t, le_tt, le_tf, lt_tt, lt_tf, eq_tt, eq_tf, q_add, q_mul, li0, li1, li2, li3, li4, li5, li6, li7, li8, li12, li16, li24, li48, li500, gF_sA, gA_sF, gF_sF, gR_sA, gR_sF, gL_sA, gL_sF, gA_sA, shl_t, or_t, and_t, sbit_t, ubit_t, b01_0, b01_1, Option.bind_some, ↓reduceIte, eq_self, ne_eq, not_true_eq_false, Bool.false_eq_true, not_false_eq_true, true_and, and_true, false_and, and_false, if_pos, if_neg, hT.2.2.2.2 s q hs hq, hR.2.2.2]) 0 N (nI 0) (by omega) (by omega) (by
        rw [b01_f (by rw [plB, Nat.zero_testBit]; decide)])
    refine f2.trans ?_
    subst f1
    by_cases z : usr T ld t s = true
    · have z' : (plB T ld s (tA T (tF T s))).testBit (ld t) = true := z
      rw [ct_t z, b01_t z', f_X9_usersOf_71_4]
      simp (disch := omega) only [↓lm1, ↓lm2, eq_n1, eq_n2, n1_eq, n2_eq, n1_n2, n2_n1, n1_lt, n2_lt, n1_le, lt_n1, lt_n2, inb_t, cl_t, le_tt, le_tf, lt_tt, lt_tf, eq_tt, eq_tf, q_add, q_mul, li0, li1, li2, li3, li4, li5, li6, li7, li8, li12, li16, li24, li48, li500, gF_sA, gA_sF, gF_sF, gR_sA, gR_sF, gL_sA, gL_sF, gA_sA, shl_t, or_t, and_t, sbit_t, ubit_t, b01_0, b01_1, Option.bind_some, ↓reduceIte, eq_self, ne_eq, not_true_eq_false, Bool.false_eq_true, not_false_eq_true, true_and, and_true, false_and, and_false, if_pos, if_neg]
    · have z' : ¬ (plB T ld s (tA T (tF T s))).testBit (ld t) = true := z
      rw [ct_f z, b01_f z', f_X9_usersOf_71_4]
      simp (disch := omega) only [↓lm1, ↓lm2, eq_n1, eq_n2, n1_eq, n2_eq, n1_n2, n2_n1, n1_lt, n2_lt, n1_le, lt_n1, lt_n2, inb_t, cl_t, le_tt, le_tf, lt_tt, lt_tf, eq_tt, eq_tf, q_add, q_mul, li0, li1, li2, li3, li4, li5, li6, li7, li8, li12, li16, li24, li48, li500, gF_sA, gA_sF, gF_sF, gR_sA, gR_sF, gL_sA, gL_sF, gA_sA, shl_t, or_t, and_t, sbit_t, ubit_t, b01_0, b01_1, Option.bind_some, ↓reduceIte, eq_self, ne_eq, not_true_eq_false, Bool.false_eq_true, not_false_eq_true, true_and, and_true, false_and, and_false, if_pos, if_neg, Nat.add_zero]) 0 N (nI 0) (by omega) (by omega) rfl
  rw [f_X9_usersOf]
  subst e1
  exact e2
theorem termsOf_ok {N f g : Nat} {w : Mem} {T : Trm} (hT : TS w f T) (hN : 24 < N) (hg : g < 8) : f_X7_termsOf N w f (nI g) = some (nI (fb_ct (fun s => decide (tF T s = g)) (tN T))) := by
  have t1 := hT.1
  obtain ⟨a, e1, e2⟩ := lpc (tN T) (fun fu a q => lp_X7_termsOf_4 (fun (u2_1 : Int32) => (f_X7_termsOf_31 N w f u2_1)) N w f (nI g) fu a q) (fun a => some a) (fun q a => a = nI (fb_ct (fun s => decide (tF T s = g)) q)) (fun fu a ha => by
    show lp_X7_termsOf_4 _ N w f (nI g) (fu + 1) a (nI _) = some a
    rw [lp_X7_termsOf_4]
    simp (disch := omega) only [↓lm1, ↓lm2, eq_n1, eq_n2, n1_eq, n2_eq, n1_n2, n2_n1, n1_lt, n2_lt, n1_le, lt_n1, lt_n2, inb_t, cl_t, le_tt, le_tf, lt_tt, lt_tf, eq_tt, eq_tf, q_add, q_mul, li0, li1, li2, li3, li4, li5, li6, li7, li8, li12, li16, li24, li48, li500, gF_sA, gA_sF, gF_sF, gR_sA, gR_sF, gL_sA, gL_sF, gA_sA, shl_t, or_t, and_t, sbit_t, ubit_t, b01_0, b01_1, Option.bind_some, ↓reduceIte, eq_self, ne_eq, not_true_eq_false, Bool.false_eq_true, not_false_eq_true, true_and, and_true, false_and, and_false, if_pos, if_neg, hT.2.2.1]
    rfl) (fun fu q a hq ha => by
    subst ha
    refine ⟨_, rfl, ?_⟩
    obtain ⟨u1, u2, u3, u4⟩ := hT.2.2.2.1 q hq
    show lp_X7_termsOf_4 _ N w f (nI g) (fu + 1) _ (nI q) = lp_X7_termsOf_4 _ N w f (nI g) fu _ (nI (q + 1))
    rw [lp_X7_termsOf_4]
    by_cases z : tF T q = g
    · rw [ct_t (decide_eq_true z)]
      simp (disch := omega) only [↓lm1, ↓lm2, eq_n1, eq_n2, n1_eq, n2_eq, n1_n2, n2_n1, n1_lt, n2_lt, n1_le, lt_n1, lt_n2, inb_t, cl_t, le_tt, le_tf, lt_tt, lt_tf, eq_tt, eq_tf, q_add, q_mul, li0, li1, li2, li3, li4, li5, li6, li7, li8, li12, li16, li24, li48, li500, gF_sA, gA_sF, gF_sF, gR_sA, gR_sF, gL_sA, gL_sF, gA_sA, shl_t, or_t, and_t, sbit_t, ubit_t, b01_0, b01_1, Option.bind_some, ↓reduceIte, eq_self, ne_eq, not_true_eq_false, Bool.false_eq_true, not_false_eq_true, true_and, and_true, false_and, and_false, if_pos, if_neg, hT.2.2.1, u3]
    · rw [ct_f (fun y => z (of_decide_eq_true y))]
      simp (disch := omega) only [↓lm1, ↓lm2, eq_n1, eq_n2, n1_eq, n2_eq, n1_n2, n2_n1, n1_lt, n2_lt, n1_le, lt_n1, lt_n2, inb_t, cl_t, le_tt, le_tf, lt_tt, lt_tf, eq_tt, eq_tf, q_add, q_mul, li0, li1, li2, li3, li4, li5, li6, li7, li8, li12, li16, li24, li48, li500, gF_sA, gA_sF, gF_sF, gR_sA, gR_sF, gL_sA, gL_sF, gA_sA, shl_t, or_t, and_t, sbit_t, ubit_t, b01_0, b01_1, Option.bind_some, ↓reduceIte, eq_self, ne_eq, not_true_eq_false, Bool.false_eq_true, not_false_eq_true, true_and, and_true, false_and, and_false, if_pos, if_neg, hT.2.2.1, u3]) 0 N (nI 0) (by omega) (by omega) rfl
  rw [f_X7_termsOf]
  subst e1
  exact e2
/-- the leads of the groups that have a term of function g, among the first q -/
def gwB (T : Trm) (ld : Nat → Nat) (g : Nat) : Nat → Nat
  | 0 => 0
  | q + 1 => if tF T q = g then gwB T ld g q ||| 2 ^ ld q else gwB T ld g q
theorem gwB_lt {T : Trm} {ld : Nat → Nat} {g : Nat} : ∀ q, (∀ k, k < q → ld k < 24) → gwB T ld g q < 16777216
  | 0, _ => by rw [gwB]; omega
  | q + 1, h => by
    have ih := gwB_lt (T := T) (g := g) q (fun k hk => h k (by omega))
    rw [gwB]
    by_cases e : tF T q = g
    · rw [if_pos e]; exact Nat.or_lt_two_pow (n := 24) ih (Nat.pow_lt_pow_right (by decide) (h q (by omega)))
    · rw [if_neg e]; exact ih
theorem groupsWith_ok {N f g g2 : Nat} {w : Mem} {T : Trm} {ld : Nat → Nat} (hT : TS w f T) (hG : GS w g2 (tN T) ld) (hN : 24 < N) (hg : g < 8) : f_X7_groupsWith N w f (nI g) g2 = some (nI (pop (gwB T ld g (tN T)))) := by
  have t1 := hT.1
  have hl : ∀ k, k < tN T → ld k < 24 := fun k hk => by have := (hG.2.1 k hk).1; omega
  obtain ⟨a, e1, e2⟩ := lpc (tN T) (fun fu a q => lp_X7_groupsWith_5 (fun (u3_1 : Int32) => (f_X7_groupsWith_43 N w f g2 u3_1)) N w f g2 (nI g) fu a q) (fun a => f_X7_groupsWith_43 N w f g2 a) (fun q a => a = nI (gwB T ld g q)) (fun fu a ha => by
    show lp_X7_groupsWith_5 _ N w f g2 (nI g) (fu + 1) a (nI _) = _
    rw [lp_X7_groupsWith_5]
    simp (disch := omega) only [↓lm1, ↓lm2, eq_n1, eq_n2, n1_eq, n2_eq, n1_n2, n2_n1, n1_lt, n2_lt, n1_le, lt_n1, lt_n2, inb_t, cl_t, le_tt, le_tf, lt_tt, lt_tf, eq_tt, eq_tf, q_add, q_mul, li0, li1, li2, li3, li4, li5, li6, li7, li8, li12, li16, li24, li48, li500, gF_sA, gA_sF, gF_sF, gR_sA, gR_sF, gL_sA, gL_sF, gA_sA, shl_t, or_t, and_t, sbit_t, ubit_t, b01_0, b01_1, Option.bind_some, ↓reduceIte, eq_self, ne_eq, not_true_eq_false, Bool.false_eq_true, not_false_eq_true, true_and, and_true, false_and, and_false, if_pos, if_neg, hT.2.2.1]) (fun fu q a hq ha => by
    subst ha
    refine ⟨_, rfl, ?_⟩
    obtain ⟨u1, u2, u3, u4⟩ := hT.2.2.2.1 q hq
    have k1 := hl q hq
    show lp_X7_groupsWith_5 _ N w f g2 (nI g) (fu + 1) _ (nI q) = lp_X7_groupsWith_5 _ N w f g2 (nI g) fu _ (nI (q + 1))
    rw [lp_X7_groupsWith_5, gwB]
    by_cases z : tF T q = g
    · rw [if_pos z]
      simp (disch := omega) only [↓lm1, ↓lm2, eq_n1, eq_n2, n1_eq, n2_eq, n1_n2, n2_n1, n1_lt, n2_lt, n1_le, lt_n1, lt_n2, inb_t, cl_t, le_tt, le_tf, lt_tt, lt_tf, eq_tt, eq_tf, q_add, q_mul, li0, li1, li2, li3, li4, li5, li6, li7, li8, li12, li16, li24, li48, li500, gF_sA, gA_sF, gF_sF, gR_sA, gR_sF, gL_sA, gL_sF, gA_sA, shl_t, or_t, and_t, sbit_t, ubit_t, b01_0, b01_1, Option.bind_some, ↓reduceIte, eq_self, ne_eq, not_true_eq_false, Bool.false_eq_true, not_false_eq_true, true_and, and_true, false_and, and_false, if_pos, if_neg, hT.2.2.1, u3, hG.2.2.2.2]
    · rw [if_neg z]
      simp (disch := omega) only [↓lm1, ↓lm2, eq_n1, eq_n2, n1_eq, n2_eq, n1_n2, n2_n1, n1_lt, n2_lt, n1_le, lt_n1, lt_n2, inb_t, cl_t, le_tt, le_tf, lt_tt, lt_tf, eq_tt, eq_tf, q_add, q_mul, li0, li1, li2, li3, li4, li5, li6, li7, li8, li12, li16, li24, li48, li500, gF_sA, gA_sF, gF_sF, gR_sA, gR_sF, gL_sA, gL_sF, gA_sA, shl_t, or_t, and_t, sbit_t, ubit_t, b01_0, b01_1, Option.bind_some, ↓reduceIte, eq_self, ne_eq, not_true_eq_false, Bool.false_eq_true, not_false_eq_true, true_and, and_true, false_and, and_false, if_pos, if_neg, hT.2.2.1, u3]) 0 N (nI 0) (by omega) (by omega) rfl
  rw [f_X7_groupsWith]
  subst e1
  refine e2.trans ?_
  rw [f_X7_groupsWith_43, bitCount_ok (gwB_lt _ hl), Option.bind_some]
/-- the model's loop over the terms of a function -/
theorem mfun_ok (k : Int32 → Int32 → Option (Mem × Int32)) {N g : Nat} {x : Int32} {w : Mem} {T : Trm} {ld : Nat → Nat} (hT : MT w T) (hR : RS w 52 (tN T) ld) (hN : 24 < N) (hg : g < 8) : lp_X9_function_51 k N w (nI g) x N (nI 0) (nI 0) (nI 0) (nI 0) = k (nI (fb_ct (fun s => decide (tF T s = g)) (tN T))) (nI (pop (gwB T ld g (tN T)))) := by
  have t1 := hT.1
  have hl : ∀ k, k < tN T → ld k < 24 := fun k hk => by have := (hR.2.1 k hk).1; omega
  have key : ∀ r fuel q, q + r = tN T → r < fuel → lp_X9_function_51 k N w (nI g) x fuel (nI (fb_ct (fun s => decide (tF T s = g)) q)) (nI (pop (gwB T ld g q))) (nI (gwB T ld g q)) (nI q) = k (nI (fb_ct (fun s => decide (tF T s = g)) (tN T))) (nI (pop (gwB T ld g (tN T)))) := by
    intro r
    induction r with
    | zero =>
      intro fuel q hq hf
      obtain ⟨f', rfl⟩ : ∃ f, fuel = f + 1 := ⟨fuel - 1, by omega⟩
      have e : q = tN T := by omega
      subst e
      rw [lp_X9_function_51]
      simp (disch := omega) only [↓lm1, ↓lm2, eq_n1, eq_n2, n1_eq, n2_eq, n1_n2, n2_n1, n1_lt, n2_lt, n1_le, lt_n1, lt_n2, inb_t, cl_t, le_tt, le_tf, lt_tt, lt_tf, eq_tt, eq_tf, q_add, q_mul, li0, li1, li2, li3, li4, li5, li6, li7, li8, li12, li16, li24, li48, li500, gF_sA, gA_sF, gF_sF, gR_sA, gR_sF, gL_sA, gL_sF, gA_sA, shl_t, or_t, and_t, sbit_t, ubit_t, b01_0, b01_1, Option.bind_some, ↓reduceIte, eq_self, ne_eq, not_true_eq_false, Bool.false_eq_true, not_false_eq_true, true_and, and_true, false_and, and_false, if_pos, if_neg, hT.2.2.1]
    | succ r ih =>
      intro fuel q hq hf
      obtain ⟨f', rfl⟩ : ∃ f, fuel = f + 1 := ⟨fuel - 1, by omega⟩
      obtain ⟨u1, u2, u3, u4⟩ := hT.2.2.2.1 q (by omega)
      have k1 := hl q (by omega)
      have k2 := gwB_lt (T := T) (g := g) q (fun k hk => hl k (by omega))
      rw [lp_X9_function_51, ← ih f' (q + 1) (by omega) (by omega)]
      by_cases z : tF T q = g
      · rw [ct_t (decide_eq_true z), gwB, if_pos z, pop_or k1]
        by_cases y : (gwB T ld g q).testBit (ld q) = true
        · rw [if_pos y]
          simp (disch := omega) only [↓lm1, ↓lm2, eq_n1, eq_n2, n1_eq, n2_eq, n1_n2, n2_n1, n1_lt, n2_lt, n1_le, lt_n1, lt_n2, inb_t, cl_t, le_tt, le_tf, lt_tt, lt_tf, eq_tt, eq_tf, q_add, q_mul, li0, li1, li2, li3, li4, li5, li6, li7, li8, li12, li16, li24, li48, li500, gF_sA, gA_sF, gF_sF, gR_sA, gR_sF, gL_sA, gL_sF, gA_sA, shl_t, or_t, and_t, sbit_t, ubit_t, b01_0, b01_1, Option.bind_some, ↓reduceIte, eq_self, ne_eq, not_true_eq_false, Bool.false_eq_true, not_false_eq_true, true_and, and_true, false_and, and_false, if_pos, if_neg, hT.2.2.1, u3, hR.2.2.2, y]
        · rw [if_neg y]
          simp (disch := omega) only [↓lm1, ↓lm2, eq_n1, eq_n2, n1_eq, n2_eq, n1_n2, n2_n1, n1_lt, n2_lt, n1_le, lt_n1, lt_n2, inb_t, cl_t, le_tt, le_tf, lt_tt, lt_tf, eq_tt, eq_tf, q_add, q_mul, li0, li1, li2, li3, li4, li5, li6, li7, li8, li12, li16, li24, li48, li500, gF_sA, gA_sF, gF_sF, gR_sA, gR_sF, gL_sA, gL_sF, gA_sA, shl_t, or_t, and_t, sbit_t, ubit_t, b01_0, b01_1, Option.bind_some, ↓reduceIte, eq_self, ne_eq, not_true_eq_false, Bool.false_eq_true, not_false_eq_true, true_and, and_true, false_and, and_false, if_pos, if_neg, hT.2.2.1, u3, hR.2.2.2, y]
      · rw [ct_f (fun y => z (of_decide_eq_true y)), gwB, if_neg z]
        simp (disch := omega) only [↓lm1, ↓lm2, eq_n1, eq_n2, n1_eq, n2_eq, n1_n2, n2_n1, n1_lt, n2_lt, n1_le, lt_n1, lt_n2, inb_t, cl_t, le_tt, le_tf, lt_tt, lt_tf, eq_tt, eq_tf, q_add, q_mul, li0, li1, li2, li3, li4, li5, li6, li7, li8, li12, li16, li24, li48, li500, gF_sA, gA_sF, gF_sF, gR_sA, gR_sF, gL_sA, gL_sF, gA_sA, shl_t, or_t, and_t, sbit_t, ubit_t, b01_0, b01_1, Option.bind_some, ↓reduceIte, eq_self, ne_eq, not_true_eq_false, Bool.false_eq_true, not_false_eq_true, true_and, and_true, false_and, and_false, if_pos, if_neg, hT.2.2.1, u3]
  have hk := key (tN T) N 0 (by omega) (by omega)
  rw [show gwB T ld g 0 = 0 from rfl, show pop 0 = 0 by decide] at hk
  exact hk
/-- how deep: the model -/
theorem deepOf_ok {N t : Nat} {w : Mem} {tk : Nat → Nat} {L : Tl} (hT : MT w (mkT tk L)) (hN : 60 < N) (ht : t < L.length) (hlp : ∀ i, i < L.length → (tlP L i).length = tk (tlF L i)) (hrec : ∀ i, i < L.length → dpt L i = dmx (fun k => dpt L ((tlP L i).getD k 0)) (tlP L i).length) (hle : ∀ i, dpt L i ≤ i) : ∃ w', f_X9_deepOf N w (nI t) = some (w', nI (dpt L t)) ∧ FrK 60 w w' := by
  have t1 : L.length ≤ 24 := hT.1
  have inner : ∀ (k : Mem → Option (Mem × Int32)) (u : Nat), u ≤ t → ∀ r fuel q (v : Mem), q + r = (tlP L u).length → r < fuel → FrK 60 w v → (∀ i, i < u → gA v 60 0 i = nI (dpt L i)) → gA v 60 0 u = nI (dmx (fun k => dpt L ((tlP L u).getD k 0)) q) → ∃ w', lp_X9_deepOf_16 k N (nI t) (nI u) fuel v (nI q) = k w' ∧ FrK 60 w w' ∧ ∀ i, i < u + 1 → gA w' 60 0 i = nI (dpt L i) := by
    intro k u hu r
    have hlu := hlp u (by omega)
    induction r with
    | zero =>
      intro fuel q v hq hf hv h1 h2
      obtain ⟨f', rfl⟩ : ∃ f, fuel = f + 1 := ⟨fuel - 1, by omega⟩
      have hTv := FrK.MT hv hT (by omega) (by omega) (by omega)
      have htk : f_X9_takesOf N v (nI u) = some (nI (tlP L u).length) := by rw [takesOf_ok hTv (show u < tN (mkT tk L) by rw [tN_mk]; omega), hlu]; rfl
      have t3 := (hT.2.2.2.1 u (show u < tN (mkT tk L) by rw [tN_mk]; omega)).2.1
      rw [tA_mk, tF_mk, ← hlu] at t3
      have e : q = (tlP L u).length := by omega
      subst e
      refine ⟨v, ?_, hv, fun i hi => ?_⟩
      · rw [lp_X9_deepOf_16, htk]
        simp (disch := omega) only [↓lm1, ↓lm2, eq_n1, eq_n2, n1_eq, n2_eq, n1_n2, n2_n1, n1_lt, n2_lt, n1_le, lt_n1, lt_n2, inb_t, cl_t, le_tt, le_tf, lt_tt, lt_tf, eq_tt, eq_tf, q_add, q_mul, li0, li1, li2, li3, li4, li5, li6, li7, li8, li12, li16, li24, li48, li500, gF_sA, gA_sF, gF_sF, gR_sA, gR_sF, gL_sA, gL_sF, gA_sA, shl_t, or_t, and_t, sbit_t, ubit_t, b01_0, b01_1, Option.bind_some, ↓reduceIte, eq_self, ne_eq, not_true_eq_false, Bool.false_eq_true, not_false_eq_true, true_and, and_true, false_and, and_false, if_pos, if_neg]
      · by_cases e : i = u
        · subst e; rw [h2, ← hrec i (by omega)]
        · exact h1 i (by omega)
    | succ r ih =>
      intro fuel q v hq hf hv h1 h2
      obtain ⟨f', rfl⟩ : ∃ f, fuel = f + 1 := ⟨fuel - 1, by omega⟩
      have hTv := FrK.MT hv hT (by omega) (by omega) (by omega)
      have hut : u < tN (mkT tk L) := by rw [tN_mk]; omega
      have htk : f_X9_takesOf N v (nI u) = some (nI (tlP L u).length) := by rw [takesOf_ok hTv hut, hlu]; rfl
      have t3 := (hT.2.2.2.1 u hut).2.1
      rw [tA_mk, tF_mk, ← hlu] at t3
      have hpq : (tlP L u).getD q 0 < u := hT.2.1 u hut q (by rw [tA_mk, tF_mk, ← hlu]; omega)
      have h47 : gA v 47 0 (3 * u + q) = nI ((tlP L u).getD q 0) := hTv.2.2.2.2 u q hut (by rw [tA_mk, tF_mk, ← hlu]; omega)
      have hgp := h1 _ hpq
      have hd1 := hle ((tlP L u).getD q 0)
      have hd2 : dmx (fun k => dpt L ((tlP L u).getD k 0)) q ≤ 24 := dmx_le q (fun k hk => by
        have := hT.2.1 u hut k (by rw [tA_mk, tF_mk, ← hlu]; omega)
        rw [tP_mk] at this
        have := hle ((tlP L u).getD k 0)
        omega)
      have step : ∀ z : Int32, z = nI (dmx (fun k => dpt L ((tlP L u).getD k 0)) (q + 1)) → ∃ w', lp_X9_deepOf_16 k N (nI t) (nI u) f' (sA v 60 0 u z) (nI (q + 1)) = k w' ∧ FrK 60 w w' ∧ ∀ i, i < u + 1 → gA w' 60 0 i = nI (dpt L i) := fun z hz => ih f' (q + 1) (sA v 60 0 u z) (by omega) (by omega) (hv.tr FrK.set) (fun i hi => by rw [gA_sA_at (by omega)]; exact h1 i hi) (by rw [gA_sA_self]; exact hz)
      by_cases z : dpt L ((tlP L u).getD q 0) + 1 ≤ dmx (fun k => dpt L ((tlP L u).getD k 0)) q
      · obtain ⟨w', e1, e2⟩ := step (nI (dmx (fun k => dpt L ((tlP L u).getD k 0)) q)) (by rw [dmx, Nat.max_eq_left (by omega)])
        refine ⟨w', ?_, e2⟩
        rw [lp_X9_deepOf_16, ← e1, htk]
        simp (disch := omega) only [↓lm1, ↓lm2, eq_n1, eq_n2, n1_eq, n2_eq, n1_n2, n2_n1, n1_lt, n2_lt, n1_le, lt_n1, lt_n2, inb_t, cl_t, le_tt, le_tf, lt_tt, lt_tf, eq_tt, eq_tf, q_add, q_mul, li0, li1, li2, li3, li4, li5, li6, li7, li8, li12, li16, li24, li48, li500, gF_sA, gA_sF, gF_sF, gR_sA, gR_sF, gL_sA, gL_sF, gA_sA, shl_t, or_t, and_t, sbit_t, ubit_t, b01_0, b01_1, Option.bind_some, ↓reduceIte, eq_self, ne_eq, not_true_eq_false, Bool.false_eq_true, not_false_eq_true, true_and, and_true, false_and, and_false, if_pos, if_neg, h47, hgp, h2]
      · obtain ⟨w', e1, e2⟩ := step (nI (dpt L ((tlP L u).getD q 0) + 1)) (by rw [dmx, Nat.max_eq_right (by omega), Nat.add_comm])
        refine ⟨w', ?_, e2⟩
        rw [lp_X9_deepOf_16, ← e1, htk]
        simp (disch := omega) only [↓lm1, ↓lm2, eq_n1, eq_n2, n1_eq, n2_eq, n1_n2, n2_n1, n1_lt, n2_lt, n1_le, lt_n1, lt_n2, inb_t, cl_t, le_tt, le_tf, lt_tt, lt_tf, eq_tt, eq_tf, q_add, q_mul, li0, li1, li2, li3, li4, li5, li6, li7, li8, li12, li16, li24, li48, li500, gF_sA, gA_sF, gF_sF, gR_sA, gR_sF, gL_sA, gL_sF, gA_sA, shl_t, or_t, and_t, sbit_t, ubit_t, b01_0, b01_1, Option.bind_some, ↓reduceIte, eq_self, ne_eq, not_true_eq_false, Bool.false_eq_true, not_false_eq_true, true_and, and_true, false_and, and_false, if_pos, if_neg, h47, hgp, h2]
  have outer : ∀ r fuel u (v : Mem), u + r = t + 1 → r < fuel → FrK 60 w v → (∀ i, i < u → gA v 60 0 i = nI (dpt L i)) → ∃ w', lp_X9_deepOf_2 (fun (w_1 : Mem) => (f_X9_deepOf_84 N w_1 (nI t))) N (nI t) fuel v (nI u) = some (w', nI (dpt L t)) ∧ FrK 60 w w' := by
    intro r
    induction r with
    | zero =>
      intro fuel u v hu hf hv h1
      obtain ⟨f', rfl⟩ : ∃ f, fuel = f + 1 := ⟨fuel - 1, by omega⟩
      refine ⟨v, ?_, hv⟩
      rw [lp_X9_deepOf_2, f_X9_deepOf_84]
      simp (disch := omega) only [↓lm1, ↓lm2, eq_n1, eq_n2, n1_eq, n2_eq, n1_n2, n2_n1, n1_lt, n2_lt, n1_le, lt_n1, lt_n2, inb_t, cl_t, le_tt, le_tf, lt_tt, lt_tf, eq_tt, eq_tf, q_add, q_mul, li0, li1, li2, li3, li4, li5, li6, li7, li8, li12, li16, li24, li48, li500, gF_sA, gA_sF, gF_sF, gR_sA, gR_sF, gL_sA, gL_sF, gA_sA, shl_t, or_t, and_t, sbit_t, ubit_t, b01_0, b01_1, Option.bind_some, ↓reduceIte, eq_self, ne_eq, not_true_eq_false, Bool.false_eq_true, not_false_eq_true, true_and, and_true, false_and, and_false, if_pos, if_neg, h1 t (by omega)]
    | succ r ih =>
      intro fuel u v hu hf hv h1
      obtain ⟨f', rfl⟩ : ∃ f, fuel = f + 1 := ⟨fuel - 1, by omega⟩
      have hlu := hlp u (by omega)
      have t3 := (hT.2.2.2.1 u (show u < tN (mkT tk L) by rw [tN_mk]; omega)).2.1
      rw [tA_mk, tF_mk, ← hlu] at t3
      obtain ⟨w1, a1, a2, a3⟩ := inner (fun (w_4 : Mem) => (f_X9_deepOf_78_2 (fun (w : Mem) (v2 : Int32) => lp_X9_deepOf_2 (fun (w_1 : Mem) => (f_X9_deepOf_84 N w_1 (nI t))) N (nI t) f' w v2) (fun (w_1 : Mem) => (f_X9_deepOf_84 N w_1 (nI t))) N w_4 (nI t) (nI u))) u (by omega) (tlP L u).length N 0 (sA v 60 0 u (nI 0)) (by omega) (by omega) (hv.tr FrK.set) (fun i hi => by rw [gA_sA_at (by omega)]; exact h1 i hi) (by rw [gA_sA_self]; rfl)
      obtain ⟨w2, b1, b2⟩ := ih f' (u + 1) w1 (by omega) (by omega) a2 a3
      refine ⟨w2, ?_, b2⟩
      rw [lp_X9_deepOf_2, ← b1]
      simp (disch := omega) only [↓lm1, ↓lm2, eq_n1, eq_n2, n1_eq, n2_eq, n1_n2, n2_n1, n1_lt, n2_lt, n1_le, lt_n1, lt_n2, inb_t, cl_t, le_tt, le_tf, lt_tt, lt_tf, eq_tt, eq_tf, q_add, q_mul, li0, li1, li2, li3, li4, li5, li6, li7, li8, li12, li16, li24, li48, li500, gF_sA, gA_sF, gF_sF, gR_sA, gR_sF, gL_sA, gL_sF, gA_sA, shl_t, or_t, and_t, sbit_t, ubit_t, b01_0, b01_1, Option.bind_some, ↓reduceIte, eq_self, ne_eq, not_true_eq_false, Bool.false_eq_true, not_false_eq_true, true_and, and_true, false_and, and_false, if_pos, if_neg]
      refine a1.trans ?_
      simp (disch := omega) only [↓lm1, ↓lm2, eq_n1, eq_n2, n1_eq, n2_eq, n1_n2, n2_n1, n1_lt, n2_lt, n1_le, lt_n1, lt_n2, inb_t, cl_t, le_tt, le_tf, lt_tt, lt_tf, eq_tt, eq_tf, q_add, q_mul, li0, li1, li2, li3, li4, li5, li6, li7, li8, li12, li16, li24, li48, li500, gF_sA, gA_sF, gF_sF, gR_sA, gR_sF, gL_sA, gL_sF, gA_sA, shl_t, or_t, and_t, sbit_t, ubit_t, b01_0, b01_1, Option.bind_some, ↓reduceIte, eq_self, ne_eq, not_true_eq_false, Bool.false_eq_true, not_false_eq_true, true_and, and_true, false_and, and_false, if_pos, if_neg, f_X9_deepOf_78_2]
  rw [f_X9_deepOf]
  exact outer (t + 1) N 0 w (by omega) (by omega) Fr.rf (fun i hi => absurd hi (Nat.not_lt_zero i))
