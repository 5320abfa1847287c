/-! the model: closesBy, groupsIn, clashIn -/
theorem one_shl {k : Nat} (hk : k < 31) : (1 : Int32) <<< (nI k &&& 31) = nI (2 ^ k) := by
  apply Int32.toBitVec_inj.mp
  rw [nf_sh k (by omega)]
  apply BitVec.eq_of_toNat_eq
  rw [BitVec.toNat_twoPow, show (nI (2 ^ k)).toBitVec = BitVec.ofNat 32 (2 ^ k) from rfl, BitVec.toNat_ofNat]
theorem bt_nI {b k : Nat} (hb : b < 2147483648) (hk : k < 32) : bt (nI b) k = b.testBit k := by
  unfold bt
  rw [show (nI b).toBitVec = BitVec.ofNat 32 b from rfl, ← BitVec.testBit_toNat, BitVec.toNat_ofNat, Nat.mod_eq_of_lt (by omega)]
theorem sbit_ok {b k : Nat} (hb : b < 2147483648) (hk : k < 31) : (nI b >>> (nI k &&& 31)) &&& (1 : Int32) = nI (b01 (b.testBit k = true)) := by
  apply b_ext
  intro i hi
  rw [b_and, b_sshr k (by omega) _ hi]
  have e31 : (if k + i < 32 then bt (nI b) (k + i) else bt (nI b) 31) = b.testBit (k + i) := by
    by_cases h : k + i < 32
    · rw [if_pos h, bt_nI hb h]
    · rw [if_neg h, bt_nI hb (by omega), Nat.testBit_lt_two_pow (show b < 2 ^ 31 by omega), Nat.testBit_lt_two_pow (Nat.lt_of_lt_of_le (show b < 2 ^ 31 by omega) (Nat.pow_le_pow_right (by decide) (by omega)))]
  rw [e31]
  have h1 : bt (1 : Int32) i = decide (i = 0) := by
    rw [show (1 : Int32) = nI 1 from rfl, bt_nI (by omega) hi]
    rcases Nat.eq_zero_or_pos i with h | h
    · subst h; rfl
    · rw [decide_eq_false (by omega)]
      exact Nat.testBit_lt_two_pow (Nat.one_lt_two_pow (by omega))
  rw [h1]
  by_cases hb1 : b.testBit k = true
  · rw [b01_t hb1, show nI 1 = (1 : Int32) from rfl, h1]
    by_cases e : i = 0
    · subst e
      rw [Nat.add_zero, hb1]; rfl
    · rw [decide_eq_false e, Bool.and_false]
  · rw [b01_f hb1, bt_nI (by omega) hi]
    by_cases e : i = 0
    · subst e
      rw [Nat.add_zero, show b.testBit k = false by simpa using hb1]; rfl
    · rw [decide_eq_false e, Bool.and_false, Nat.zero_testBit]
theorem ubit_ok {b k : Nat} (hb : b < 2147483648) (hk : k < 32) : (ushr (nI b) (nI k)) &&& (1 : Int32) = nI (b01 (b.testBit k = true)) := by
  rw [bit_ok (by omega) hk]
  by_cases h : b.testBit k = true
  · rw [if_pos h, b01_t h]; rfl
  · rw [if_neg h, b01_f h]; rfl
theorem b01_1 {P : Prop} : (nI (b01 P) = nI 1) = P := by
  by_cases h : P
  · rw [b01_t h]; exact propext ⟨fun _ => h, fun _ => rfl⟩
  · rw [b01_f h]; exact propext ⟨fun z => absurd z (by decide), fun z => absurd z h⟩
theorem shl_t {k : Nat} (hk : k < 31) : nI 1 <<< (nI k &&& 31) = nI (2 ^ k) := one_shl hk
theorem or_t (a b : Nat) : nI a ||| nI b = nI (a ||| b) := fa_or a b
theorem and_t (a b : Nat) : nI a &&& nI b = nI (a &&& b) := fa_and a b
theorem sbit_t {b k : Nat} (hb : b < 2147483648) (hk : k < 31) : (nI b >>> (nI k &&& 31)) &&& nI 1 = nI (b01 (b.testBit k = true)) := sbit_ok hb hk
theorem ubit_t {b k : Nat} (hb : b < 2147483648) (hk : k < 32) : (ushr (nI b) (nI k)) &&& nI 1 = nI (b01 (b.testBit k = true)) := ubit_ok hb hk
/-- only row k of the model differs -/
abbrev FrK (k : Nat) (w w' : Mem) : Prop := Fr (fun _ _ _ => False) (fun x i => x = k ∧ i = 0) w w'
theorem FrK.F {k : Nat} {w w' : Mem} (h : FrK k w w') (a b c : Nat) : gF w' a b c = gF w a b c := h.1 a b c (fun z => z)
theorem FrK.A {k : Nat} {w w' : Mem} (h : FrK k w w') {a : Nat} (ha : a ≠ k) (i : Nat) : gA w' a i = gA w a i := h.2.1 a i (fun z => ha z.1)
theorem FrK.set {k : Nat} {w : Mem} {x : Nat} {v : Int32} : FrK k w (sA w k 0 x v) := ⟨fun _ _ _ _ => rfl, fun x i hki => gA_sA_ne hki, fun _ _ => rfl, fun _ _ _ => rfl⟩
theorem FrK.MT {k : Nat} {w w' : Mem} (h : FrK k w w') {T : Trm} (hT : MT w T) (h1 : k ≠ 41) (h2 : k ≠ 46) (h3 : k ≠ 47) : MT w' T := hT.fr h (fun _ _ _ z => z.elim) (fun x i z => by omega)
/-- the sames that lie in the model's rows -/
def RP (w : Mem) (n : Nat) (S : List (Nat × Nat)) : Prop := S.length ≤ 13 ∧ ∀ (p i j : Nat), S[p]? = some (i, j) → i < n ∧ j < n ∧ gA w 48 0 p = nI i ∧ gA w 49 0 p = nI j
theorem FrK.RP {k : Nat} {w w' : Mem} (h : FrK k w w') {n : Nat} {S : List (Nat × Nat)} (hS : RP w n S) (h1 : k ≠ 48) (h2 : k ≠ 49) : RP w' n S := by
  refine ⟨hS.1, fun p i j hp => ?_⟩
  rw [h.A (Ne.symm h1), h.A (Ne.symm h2)]
  exact hS.2 p i j hp
/-- pairs of the same function with like parts that aren't one: whether there is one with i and a later one from j on -/
def toJ (T : Trm) (ld : Nat → Nat) (i x : Nat) : Prop := ld i ≠ ld x ∧ tF T i = tF T x ∧ eqParts T ld i x = true
theorem lp_cb89 (k : Mem → Int32 → Option Mem) {N i : Nat} {T : Trm} (hN : 24 < N) (hi : i < tN T) (hTO : TOK T) : ∀ (r fuel j : Nat) (w : Mem) (ld : Nat → Nat) (v : Nat), i < j → j + r = tN T → r < fuel → MT w T → RS w 59 (tN T) ld → ∃ w' ld' v', lp_X9_closesBy_89 k N (nI i) fuel w (nI v) (nI j) = k w' (nI v') ∧ RS w' 59 (tN T) ld' ∧ MCl T ld ld' ∧ FrK 59 w w' ∧ ((v' = v ∧ ld' = ld ∧ ∀ x, j ≤ x → x < tN T → ¬ toJ T ld i x) ∨ (v' = 1 ∧ cntG (tN T) ld' < cntG (tN T) ld)) := by
  intro r
  induction r with
  | zero =>
    intro fuel j w ld v hij hj hf hT hR
    obtain ⟨f', rfl⟩ : ∃ f, fuel = f + 1 := ⟨fuel - 1, by omega⟩
    have t1 := hT.1
    refine ⟨w, ld, v, ?_, hR, MCl.rf, Fr.rf, Or.inl ⟨rfl, rfl, fun x h1 h2 => by omega⟩⟩
    rw [lp_X9_closesBy_89]
    simp (disch := omega) only [↓lm1, ↓lm2, eq_n1, eq_n2, n1_eq, n2_eq, n1_n2, n2_n1, n1_lt, n2_lt, n1_le, lt_n1, lt_n2, inb_t, cl_t, le_tt, le_tf, lt_tt, lt_tf, eq_tt, eq_tf, q_add, q_mul, li0, li1, li2, li3, li4, li5, li6, li7, li8, li12, li16, li24, li48, li500, gF_sA, gA_sF, gF_sF, gR_sA, gR_sF, gL_sA, gL_sF, gA_sA, shl_t, or_t, and_t, sbit_t, ubit_t, b01_0, b01_1, Option.bind_some, ↓reduceIte, eq_self, ne_eq, not_true_eq_false, Bool.false_eq_true, not_false_eq_true, true_and, and_true, false_and, and_false, if_pos, if_neg, hT.2.2.1]
  | succ r ih =>
    intro fuel j w ld v hij hj hf hT hR
    obtain ⟨f', rfl⟩ : ∃ f, fuel = f + 1 := ⟨fuel - 1, by omega⟩
    have t1 := hT.1
    have c1 := (hR.2.1 i hi).1
    have c2 := (hR.2.1 j (by omega)).1
    have hA := isAlike_ok (N := N) (k := 59) (i := i) (j := j) rfl hT hR hi (by omega) (by omega)
    by_cases z : ld i = ld j
    · obtain ⟨w', ld', v', e1, e2, e3, e4, e5⟩ := ih f' (j + 1) w ld v (by omega) (by omega) (by omega) hT hR
      refine ⟨w', ld', v', ?_, e2, e3, e4, ?_⟩
      · rw [lp_X9_closesBy_89, ← e1]
        simp (disch := omega) only [↓lm1, ↓lm2, eq_n1, eq_n2, n1_eq, n2_eq, n1_n2, n2_n1, n1_lt, n2_lt, n1_le, lt_n1, lt_n2, inb_t, cl_t, le_tt, le_tf, lt_tt, lt_tf, eq_tt, eq_tf, q_add, q_mul, li0, li1, li2, li3, li4, li5, li6, li7, li8, li12, li16, li24, li48, li500, gF_sA, gA_sF, gF_sF, gR_sA, gR_sF, gL_sA, gL_sF, gA_sA, shl_t, or_t, and_t, sbit_t, ubit_t, b01_0, b01_1, Option.bind_some, ↓reduceIte, eq_self, ne_eq, not_true_eq_false, Bool.false_eq_true, not_false_eq_true, true_and, and_true, false_and, and_false, if_pos, if_neg, hT.2.2.1, hR.2.2.2]
      · rcases e5 with ⟨a, b, c⟩ | h
        · refine Or.inl ⟨a, b, fun x h1 h2 h3 => ?_⟩
          by_cases e : x = j
          · subst e; exact h3.1 z
          · exact c x (by omega) h2 h3
        · exact Or.inr h
    · by_cases y : tF T i = tF T j ∧ eqParts T ld i j = true
      · obtain ⟨w1, a1, a2, a3⟩ := unites_ok (N := N) (a := i) (b := j) (k := 59) rfl hR hN hi (by omega)
        obtain ⟨w', ld', v', e1, e2, e3, e4, e5⟩ := ih f' (j + 1) w1 (un ld i j) 1 (by omega) (by omega) (by omega) (FrK.MT a3 hT (by omega) (by omega) (by omega)) a2
        have hcn := cnt_un hR.2.1 hi (show j < tN T by omega) z
        refine ⟨w', ld', v', ?_, e2, (MCl.un hi (by omega) y.1 hTO y.2).tr e3, a3.tr e4, Or.inr ?_⟩
        · rw [lp_X9_closesBy_89, ← e1]
          simp (disch := omega) only [↓lm1, ↓lm2, eq_n1, eq_n2, n1_eq, n2_eq, n1_n2, n2_n1, n1_lt, n2_lt, n1_le, lt_n1, lt_n2, inb_t, cl_t, le_tt, le_tf, lt_tt, lt_tf, eq_tt, eq_tf, q_add, q_mul, li0, li1, li2, li3, li4, li5, li6, li7, li8, li12, li16, li24, li48, li500, gF_sA, gA_sF, gF_sF, gR_sA, gR_sF, gL_sA, gL_sF, gA_sA, shl_t, or_t, and_t, sbit_t, ubit_t, b01_0, b01_1, Option.bind_some, ↓reduceIte, eq_self, ne_eq, not_true_eq_false, Bool.false_eq_true, not_false_eq_true, true_and, and_true, false_and, and_false, if_pos, if_neg, hT.2.2.1, hR.2.2.2, hA, if_pos y, a1]
        · rcases e5 with ⟨a, b, c⟩ | h
          · exact ⟨a, by rw [b]; omega⟩
          · exact ⟨h.1, by omega⟩
      · obtain ⟨w', ld', v', e1, e2, e3, e4, e5⟩ := ih f' (j + 1) w ld v (by omega) (by omega) (by omega) hT hR
        refine ⟨w', ld', v', ?_, e2, e3, e4, ?_⟩
        · rw [lp_X9_closesBy_89, ← e1]
          simp (disch := omega) only [↓lm1, ↓lm2, eq_n1, eq_n2, n1_eq, n2_eq, n1_n2, n2_n1, n1_lt, n2_lt, n1_le, lt_n1, lt_n2, inb_t, cl_t, le_tt, le_tf, lt_tt, lt_tf, eq_tt, eq_tf, q_add, q_mul, li0, li1, li2, li3, li4, li5, li6, li7, li8, li12, li16, li24, li48, li500, gF_sA, gA_sF, gF_sF, gR_sA, gR_sF, gL_sA, gL_sF, gA_sA, shl_t, or_t, and_t, sbit_t, ubit_t, b01_0, b01_1, Option.bind_some, ↓reduceIte, eq_self, ne_eq, not_true_eq_false, Bool.false_eq_true, not_false_eq_true, true_and, and_true, false_and, and_false, if_pos, if_neg, hT.2.2.1, hR.2.2.2, hA, if_neg y]
        · rcases e5 with ⟨a, b, c⟩ | h
          · refine Or.inl ⟨a, b, fun x h1 h2 h3 => ?_⟩
            by_cases e : x = j
            · subst e; exact y h3.2
            · exact c x (by omega) h2 h3
          · exact Or.inr h
theorem lp_cb76 (k : Mem → Int32 → Option Mem) {N : Nat} {T : Trm} (hN : 24 < N) (hTO : TOK T) : ∀ (r fuel i : Nat) (w : Mem) (ld : Nat → Nat) (v : Nat), i + r = tN T → r < fuel → MT w T → RS w 59 (tN T) ld → ∃ w' ld' v', lp_X9_closesBy_76 k N fuel w (nI v) (nI i) = k w' (nI v') ∧ RS w' 59 (tN T) ld' ∧ MCl T ld ld' ∧ FrK 59 w w' ∧ ((v' = v ∧ ld' = ld ∧ ∀ y x, i ≤ y → y < x → x < tN T → ¬ toJ T ld y x) ∨ (v' = 1 ∧ cntG (tN T) ld' < cntG (tN T) ld)) := by
  intro r
  induction r with
  | zero =>
    intro fuel i w ld v hj hf hT hR
    obtain ⟨f', rfl⟩ : ∃ f, fuel = f + 1 := ⟨fuel - 1, by omega⟩
    have t1 := hT.1
    refine ⟨w, ld, v, ?_, hR, MCl.rf, Fr.rf, Or.inl ⟨rfl, rfl, fun y x h1 h2 h3 => by omega⟩⟩
    rw [lp_X9_closesBy_76]
    simp (disch := omega) only [↓lm1, ↓lm2, eq_n1, eq_n2, n1_eq, n2_eq, n1_n2, n2_n1, n1_lt, n2_lt, n1_le, lt_n1, lt_n2, inb_t, cl_t, le_tt, le_tf, lt_tt, lt_tf, eq_tt, eq_tf, q_add, q_mul, li0, li1, li2, li3, li4, li5, li6, li7, li8, li12, li16, li24, li48, li500, gF_sA, gA_sF, gF_sF, gR_sA, gR_sF, gL_sA, gL_sF, gA_sA, shl_t, or_t, and_t, sbit_t, ubit_t, b01_0, b01_1, Option.bind_some, ↓reduceIte, eq_self, ne_eq, not_true_eq_false, Bool.false_eq_true, not_false_eq_true, true_and, and_true, false_and, and_false, if_pos, if_neg, hT.2.2.1]
  | succ r ih =>
    intro fuel i w ld v hj hf hT hR
    obtain ⟨f', rfl⟩ : ∃ f, fuel = f + 1 := ⟨fuel - 1, by omega⟩
    have t1 := hT.1
    obtain ⟨w1, ld1, v1, a1, a2, a3, a4, a5⟩ := lp_cb89 (fun (w_5 : Mem) (u2_5 : Int32) => (f_X9_closesBy_147_76 (fun (w : Mem) (v2 : Int32) (v3 : Int32) => lp_X9_closesBy_76 k N    f' w v2 v3) k N w_5  u2_5 (nI i) )) (i := i) hN (by omega) hTO (tN T - (i + 1)) N (i + 1) w ld v (by omega) (by omega) (by omega) hT hR
    obtain ⟨w', ld', v', e1, e2, e3, e4, e5⟩ := ih f' (i + 1) w1 ld1 v1 (by omega) (by omega) (FrK.MT a4 hT (by omega) (by omega) (by omega)) a2
    refine ⟨w', ld', v', ?_, e2, a3.tr e3, a4.tr e4, ?_⟩
    · rw [lp_X9_closesBy_76, ← e1]
      simp (disch := omega) only [↓lm1, ↓lm2, eq_n1, eq_n2, n1_eq, n2_eq, n1_n2, n2_n1, n1_lt, n2_lt, n1_le, lt_n1, lt_n2, inb_t, cl_t, le_tt, le_tf, lt_tt, lt_tf, eq_tt, eq_tf, q_add, q_mul, li0, li1, li2, li3, li4, li5, li6, li7, li8, li12, li16, li24, li48, li500, gF_sA, gA_sF, gF_sF, gR_sA, gR_sF, gL_sA, gL_sF, gA_sA, shl_t, or_t, and_t, sbit_t, ubit_t, b01_0, b01_1, Option.bind_some, ↓reduceIte, eq_self, ne_eq, not_true_eq_false, Bool.false_eq_true, not_false_eq_true, true_and, and_true, false_and, and_false, if_pos, if_neg, hT.2.2.1]
      refine a1.trans ?_
      simp (disch := omega) only [↓lm1, ↓lm2, eq_n1, eq_n2, n1_eq, n2_eq, n1_n2, n2_n1, n1_lt, n2_lt, n1_le, lt_n1, lt_n2, inb_t, cl_t, le_tt, le_tf, lt_tt, lt_tf, eq_tt, eq_tf, q_add, q_mul, li0, li1, li2, li3, li4, li5, li6, li7, li8, li12, li16, li24, li48, li500, gF_sA, gA_sF, gF_sF, gR_sA, gR_sF, gL_sA, gL_sF, gA_sA, shl_t, or_t, and_t, sbit_t, ubit_t, b01_0, b01_1, Option.bind_some, ↓reduceIte, eq_self, ne_eq, not_true_eq_false, Bool.false_eq_true, not_false_eq_true, true_and, and_true, false_and, and_false, if_pos, if_neg, f_X9_closesBy_147_76]
    · rcases a5 with ⟨q1, q2, q3⟩ | ⟨q1, q2⟩
      · subst q1 q2
        rcases e5 with ⟨a, b, c⟩ | h
        · refine Or.inl ⟨a, b, fun y x h1 h2 h3 => ?_⟩
          by_cases e : y = i
          · subst e; exact q3 x (by omega) h3
          · exact c y x (by omega) h2 h3
        · exact Or.inr h
      · refine Or.inr ?_
        rcases e5 with ⟨a, b, c⟩ | ⟨h1, h2⟩
        · exact ⟨by rw [a, q1], by rw [b]; exact q2⟩
        · exact ⟨h1, by omega⟩
theorem clo_toJ {T : Trm} {ld : Nat → Nat} (h : ∀ y x, y < x → x < tN T → ¬ toJ T ld y x) : Clo T ld := by
  apply clo_of
  rintro ⟨i, j⟩ hp he
  obtain ⟨h1, h2, h3⟩ := prs_mem.mp hp
  apply Classical.byContradiction
  intro z
  exact h i j h1 h2 ⟨z, h3, he⟩
theorem lp_cb68 (k : Mem → Option Mem) {N : Nat} {T : Trm} (hN : 24 < N) (hTO : TOK T) : ∀ (c fuel : Nat) (w : Mem) (ld : Nat → Nat), cntG (tN T) ld ≤ c → c + 1 < fuel → MT w T → RS w 59 (tN T) ld → ∃ w' ld', lp_X9_closesBy_68 k N fuel w (nI 1) = k w' ∧ RS w' 59 (tN T) ld' ∧ ClO T ld ld' ∧ FrK 59 w w' := by
  intro c
  induction c with
  | zero =>
    intro fuel w ld hc hf hT hR
    obtain ⟨f', rfl⟩ : ∃ f, fuel = f + 2 := ⟨fuel - 2, by omega⟩
    have t1 := hT.1
    obtain ⟨w1, ld1, v1, a1, a2, a3, a4, a5⟩ := lp_cb76 (fun (w_4 : Mem) (u2_4 : Int32) => (f_X9_closesBy_153_68 (fun (w : Mem) (v2 : Int32) => lp_X9_closesBy_68 k N    (f' + 1) w v2) k N w_4  u2_4 )) hN hTO (tN T) N 0 w ld 0 (by omega) (by omega) hT hR
    rcases a5 with ⟨q1, q2, q3⟩ | ⟨q1, q2⟩
    · subst q1 q2
      refine ⟨w1, ld1, ?_, a2, a3.clo (clo_toJ (fun y x h1 h2 => q3 y x (by omega) h1 h2)), a4⟩
      rw [lp_X9_closesBy_68]
      simp (disch := omega) only [↓lm1, ↓lm2, eq_n1, eq_n2, n1_eq, n2_eq, n1_n2, n2_n1, n1_lt, n2_lt, n1_le, lt_n1, lt_n2, inb_t, cl_t, le_tt, le_tf, lt_tt, lt_tf, eq_tt, eq_tf, q_add, q_mul, li0, li1, li2, li3, li4, li5, li6, li7, li8, li12, li16, li24, li48, li500, gF_sA, gA_sF, gF_sF, gR_sA, gR_sF, gL_sA, gL_sF, gA_sA, shl_t, or_t, and_t, sbit_t, ubit_t, b01_0, b01_1, Option.bind_some, ↓reduceIte, eq_self, ne_eq, not_true_eq_false, Bool.false_eq_true, not_false_eq_true, true_and, and_true, false_and, and_false, if_pos, if_neg]
      refine a1.trans ?_
      rw [f_X9_closesBy_153_68, lp_X9_closesBy_68]
      simp (disch := omega) only [↓lm1, ↓lm2, eq_n1, eq_n2, n1_eq, n2_eq, n1_n2, n2_n1, n1_lt, n2_lt, n1_le, lt_n1, lt_n2, inb_t, cl_t, le_tt, le_tf, lt_tt, lt_tf, eq_tt, eq_tf, q_add, q_mul, li0, li1, li2, li3, li4, li5, li6, li7, li8, li12, li16, li24, li48, li500, gF_sA, gA_sF, gF_sF, gR_sA, gR_sF, gL_sA, gL_sF, gA_sA, shl_t, or_t, and_t, sbit_t, ubit_t, b01_0, b01_1, Option.bind_some, ↓reduceIte, eq_self, ne_eq, not_true_eq_false, Bool.false_eq_true, not_false_eq_true, true_and, and_true, false_and, and_false, if_pos, if_neg]
    · omega
  | succ c ih =>
    intro fuel w ld hc hf hT hR
    obtain ⟨f', rfl⟩ : ∃ f, fuel = f + 2 := ⟨fuel - 2, by omega⟩
    have t1 := hT.1
    obtain ⟨w1, ld1, v1, a1, a2, a3, a4, a5⟩ := lp_cb76 (fun (w_4 : Mem) (u2_4 : Int32) => (f_X9_closesBy_153_68 (fun (w : Mem) (v2 : Int32) => lp_X9_closesBy_68 k N    (f' + 1) w v2) k N w_4  u2_4 )) hN hTO (tN T) N 0 w ld 0 (by omega) (by omega) hT hR
    rcases a5 with ⟨q1, q2, q3⟩ | ⟨q1, q2⟩
    · subst q1 q2
      refine ⟨w1, ld1, ?_, a2, a3.clo (clo_toJ (fun y x h1 h2 => q3 y x (by omega) h1 h2)), a4⟩
      rw [lp_X9_closesBy_68]
      simp (disch := omega) only [↓lm1, ↓lm2, eq_n1, eq_n2, n1_eq, n2_eq, n1_n2, n2_n1, n1_lt, n2_lt, n1_le, lt_n1, lt_n2, inb_t, cl_t, le_tt, le_tf, lt_tt, lt_tf, eq_tt, eq_tf, q_add, q_mul, li0, li1, li2, li3, li4, li5, li6, li7, li8, li12, li16, li24, li48, li500, gF_sA, gA_sF, gF_sF, gR_sA, gR_sF, gL_sA, gL_sF, gA_sA, shl_t, or_t, and_t, sbit_t, ubit_t, b01_0, b01_1, Option.bind_some, ↓reduceIte, eq_self, ne_eq, not_true_eq_false, Bool.false_eq_true, not_false_eq_true, true_and, and_true, false_and, and_false, if_pos, if_neg]
      refine a1.trans ?_
      rw [f_X9_closesBy_153_68, lp_X9_closesBy_68]
      simp (disch := omega) only [↓lm1, ↓lm2, eq_n1, eq_n2, n1_eq, n2_eq, n1_n2, n2_n1, n1_lt, n2_lt, n1_le, lt_n1, lt_n2, inb_t, cl_t, le_tt, le_tf, lt_tt, lt_tf, eq_tt, eq_tf, q_add, q_mul, li0, li1, li2, li3, li4, li5, li6, li7, li8, li12, li16, li24, li48, li500, gF_sA, gA_sF, gF_sF, gR_sA, gR_sF, gL_sA, gL_sF, gA_sA, shl_t, or_t, and_t, sbit_t, ubit_t, b01_0, b01_1, Option.bind_some, ↓reduceIte, eq_self, ne_eq, not_true_eq_false, Bool.false_eq_true, not_false_eq_true, true_and, and_true, false_and, and_false, if_pos, if_neg]
    · subst q1
      obtain ⟨w2, ld2, b1, b2, b3, b4⟩ := ih (f' + 1) w1 ld1 (by omega) (by omega) (FrK.MT a4 hT (by omega) (by omega) (by omega)) a2
      refine ⟨w2, ld2, ?_, b2, ⟨b3.1, fun i j h => b3.2.1 i j (a3.1 i j h), fun R hR hJ => b3.2.2 R hR (a3.2 R hR hJ)⟩, a4.tr b4⟩
      rw [lp_X9_closesBy_68]
      simp (disch := omega) only [↓lm1, ↓lm2, eq_n1, eq_n2, n1_eq, n2_eq, n1_n2, n2_n1, n1_lt, n2_lt, n1_le, lt_n1, lt_n2, inb_t, cl_t, le_tt, le_tf, lt_tt, lt_tf, eq_tt, eq_tf, q_add, q_mul, li0, li1, li2, li3, li4, li5, li6, li7, li8, li12, li16, li24, li48, li500, gF_sA, gA_sF, gF_sF, gR_sA, gR_sF, gL_sA, gL_sF, gA_sA, shl_t, or_t, and_t, sbit_t, ubit_t, b01_0, b01_1, Option.bind_some, ↓reduceIte, eq_self, ne_eq, not_true_eq_false, Bool.false_eq_true, not_false_eq_true, true_and, and_true, false_and, and_false, if_pos, if_neg]
      exact a1.trans b1
theorem lp_cb25 (k : Mem → Option Mem) {N b : Nat} {T : Trm} {S : List (Nat × Nat)} (hN : 24 < N) (hb : b < 2 ^ S.length) : ∀ (r fuel q : Nat) (w : Mem) (d : Nat → Nat), q + r = 13 → r < fuel → RP w (tN T) S → MT w T → RS w 59 (tN T) d → (∀ p i j, p < q → b.testBit p = true → S[p]? = some (i, j) → d i = d j) → (∀ R, Congr T R → (∀ i j, Pk S b i j → R i j) → Jst (tN T) d R) → ∃ w' d', lp_X9_closesBy_25 k N (nI b) fuel w (nI q) = k w' ∧ RS w' 59 (tN T) d' ∧ (∀ i j, Pk S b i j → d' i = d' j) ∧ (∀ R, Congr T R → (∀ i j, Pk S b i j → R i j) → Jst (tN T) d' R) ∧ FrK 59 w w' := by
  intro r
  induction r with
  | zero =>
    intro fuel q w d hq hf hS hT hG hd hJ
    obtain ⟨f', rfl⟩ : ∃ f, fuel = f + 1 := ⟨fuel - 1, by omega⟩
    have s1 := hS.1
    refine ⟨w, d, ?_, hG, fun i j h => ?_, hJ, Fr.rf⟩
    · rw [lp_X9_closesBy_25]
      simp (disch := omega) only [↓lm1, ↓lm2, eq_n1, eq_n2, n1_eq, n2_eq, n1_n2, n2_n1, n1_lt, n2_lt, n1_le, lt_n1, lt_n2, inb_t, cl_t, le_tt, le_tf, lt_tt, lt_tf, eq_tt, eq_tf, q_add, q_mul, li0, li1, li2, li3, li4, li5, li6, li7, li8, li12, li16, li24, li48, li500, gF_sA, gA_sF, gF_sF, gR_sA, gR_sF, gL_sA, gL_sF, gA_sA, shl_t, or_t, and_t, sbit_t, ubit_t, b01_0, b01_1, Option.bind_some, ↓reduceIte, eq_self, ne_eq, not_true_eq_false, Bool.false_eq_true, not_false_eq_true, true_and, and_true, false_and, and_false, if_pos, if_neg]
    · obtain ⟨p, h1, h2⟩ := h
      have := (List.getElem?_eq_some_iff.mp h2).1
      exact hd p i j (by omega) h1 h2
  | succ r ih =>
    intro fuel q w d hq hf hS hT hG hd hJ
    obtain ⟨f', rfl⟩ : ∃ f, fuel = f + 1 := ⟨fuel - 1, by omega⟩
    have s1 := hS.1
    have hb2 : b < 2147483648 := by
      have : 2 ^ S.length ≤ 2 ^ 13 := Nat.pow_le_pow_right (by decide) s1
      omega
    have hbit := sbit_ok (b := b) (k := q) hb2 (by omega)
    by_cases z : b.testBit q = true
    · have hqS : q < S.length := by
        apply Nat.lt_of_not_le
        intro h
        have : b.testBit q = false := Nat.testBit_lt_two_pow (Nat.lt_of_lt_of_le hb (Nat.pow_le_pow_right (by decide) h))
        rw [this] at z
        cases z
      obtain ⟨⟨i, j⟩, hp⟩ : ∃ p, S[q]? = some p := ⟨_, List.getElem?_eq_getElem hqS⟩
      obtain ⟨h1, h2, q1, q2⟩ := hS.2 q i j hp
      obtain ⟨w1, e1, e2, e3⟩ := unites_ok (N := N) (a := i) (b := j) (k := 59) rfl hG hN h1 h2
      obtain ⟨w', d', a1, a2, a3, a4, a5⟩ := ih f' (q + 1) w1 (un d i j) (by omega) (by omega) (FrK.RP e3 hS (by omega) (by omega)) (FrK.MT e3 hT (by omega) (by omega) (by omega)) e2 (fun p x y hpq hbt hxy => by
        by_cases e : p = q
        · subst e
          rw [hp] at hxy
          obtain ⟨rfl, rfl⟩ := Prod.mk.inj (Option.some.inj hxy)
          exact un_a
        · exact un_mono (hd p x y (by omega) hbt hxy)) (fun R hR hE => jst_un hR (hJ R hR hE) h1 h2 (hE i j ⟨q, z, hp⟩))
      refine ⟨w', d', ?_, a2, a3, a4, e3.tr a5⟩
      rw [lp_X9_closesBy_25, hbit, ← a1, b01_t z]
      simp (disch := omega) only [↓lm1, ↓lm2, eq_n1, eq_n2, n1_eq, n2_eq, n1_n2, n2_n1, n1_lt, n2_lt, n1_le, lt_n1, lt_n2, inb_t, cl_t, le_tt, le_tf, lt_tt, lt_tf, eq_tt, eq_tf, q_add, q_mul, li0, li1, li2, li3, li4, li5, li6, li7, li8, li12, li16, li24, li48, li500, gF_sA, gA_sF, gF_sF, gR_sA, gR_sF, gL_sA, gL_sF, gA_sA, shl_t, or_t, and_t, sbit_t, ubit_t, b01_0, b01_1, Option.bind_some, ↓reduceIte, eq_self, ne_eq, not_true_eq_false, Bool.false_eq_true, not_false_eq_true, true_and, and_true, false_and, and_false, if_pos, if_neg, q1, q2, e1]
    · obtain ⟨w', d', a1, a2, a3, a4, a5⟩ := ih f' (q + 1) w d (by omega) (by omega) hS hT hG (fun p x y hpq hbt hxy => by
        by_cases e : p = q
        · subst e; exact absurd hbt z
        · exact hd p x y (by omega) hbt hxy) hJ
      refine ⟨w', d', ?_, a2, a3, a4, a5⟩
      rw [lp_X9_closesBy_25, hbit, ← a1, b01_f z]
      simp (disch := omega) only [↓lm1, ↓lm2, eq_n1, eq_n2, n1_eq, n2_eq, n1_n2, n2_n1, n1_lt, n2_lt, n1_le, lt_n1, lt_n2, inb_t, cl_t, le_tt, le_tf, lt_tt, lt_tf, eq_tt, eq_tf, q_add, q_mul, li0, li1, li2, li3, li4, li5, li6, li7, li8, li12, li16, li24, li48, li500, gF_sA, gA_sF, gF_sF, gR_sA, gR_sF, gL_sA, gL_sF, gA_sA, shl_t, or_t, and_t, sbit_t, ubit_t, b01_0, b01_1, Option.bind_some, ↓reduceIte, eq_self, ne_eq, not_true_eq_false, Bool.false_eq_true, not_false_eq_true, true_and, and_true, false_and, and_false, if_pos, if_neg]
theorem lp_cb2 (k : Mem → Option Mem) {N v1 n : Nat} (hn : n ≤ 24) : ∀ (r fuel q : Nat) (w : Mem), q + r = n → r < fuel → gF w 9 27 0 = nI n → (∀ i, i < q → gA w 59 0 i = nI i) → ∃ w', lp_X9_closesBy_2 k N (nI v1) fuel w (nI q) = k w' ∧ RS w' 59 n (fun i => i) ∧ FrK 59 w w' := by
  intro r
  induction r with
  | zero =>
    intro fuel q w hq hf hF h
    obtain ⟨f', rfl⟩ : ∃ f, fuel = f + 1 := ⟨fuel - 1, by omega⟩
    refine ⟨w, ?_, ⟨hn, can_id n, hF, fun i hi => h i (by omega)⟩, Fr.rf⟩
    rw [lp_X9_closesBy_2]
    simp (disch := omega) only [↓lm1, ↓lm2, eq_n1, eq_n2, n1_eq, n2_eq, n1_n2, n2_n1, n1_lt, n2_lt, n1_le, lt_n1, lt_n2, inb_t, cl_t, le_tt, le_tf, lt_tt, lt_tf, eq_tt, eq_tf, q_add, q_mul, li0, li1, li2, li3, li4, li5, li6, li7, li8, li12, li16, li24, li48, li500, gF_sA, gA_sF, gF_sF, gR_sA, gR_sF, gL_sA, gL_sF, gA_sA, shl_t, or_t, and_t, sbit_t, ubit_t, b01_0, b01_1, Option.bind_some, ↓reduceIte, eq_self, ne_eq, not_true_eq_false, Bool.false_eq_true, not_false_eq_true, true_and, and_true, false_and, and_false, if_pos, if_neg, hF]
  | succ r ih =>
    intro fuel q w hq hf hF h
    obtain ⟨f', rfl⟩ : ∃ f, fuel = f + 1 := ⟨fuel - 1, by omega⟩
    obtain ⟨w', e1, e2, e3⟩ := ih f' (q + 1) (sA w 59 0 q (nI q)) (by omega) (by omega) hF (fun i hi => by
      by_cases e : i = q
      · subst e; exact gA_sA_self
      · rw [gA_sA_at e]; exact h i (by omega))
    refine ⟨w', ?_, e2, FrK.set.tr e3⟩
    rw [lp_X9_closesBy_2, ← e1]
    simp (disch := omega) only [↓lm1, ↓lm2, eq_n1, eq_n2, n1_eq, n2_eq, n1_n2, n2_n1, n1_lt, n2_lt, n1_le, lt_n1, lt_n2, inb_t, cl_t, le_tt, le_tf, lt_tt, lt_tf, eq_tt, eq_tf, q_add, q_mul, li0, li1, li2, li3, li4, li5, li6, li7, li8, li12, li16, li24, li48, li500, gF_sA, gA_sF, gF_sF, gR_sA, gR_sF, gL_sA, gL_sF, gA_sA, shl_t, or_t, and_t, sbit_t, ubit_t, b01_0, b01_1, Option.bind_some, ↓reduceIte, eq_self, ne_eq, not_true_eq_false, Bool.false_eq_true, not_false_eq_true, true_and, and_true, false_and, and_false, if_pos, if_neg, hF]
theorem closesBy_ok {N b : Nat} {w : Mem} {T : Trm} {S : List (Nat × Nat)} (hN : 276 < N) (hT : MT w T) (hS : RP w (tN T) S) (hb : b < 2 ^ S.length) : ∃ w', f_X9_closesBy N w (nI b) = some w' ∧ RS w' 59 (tN T) (ldE T (Pk S b)) ∧ FrK 59 w w' := by
  have t1 := hT.1
  obtain ⟨w1, a1, a2, a3⟩ := lp_cb2 (fun (w_1 : Mem) => (f_X9_closesBy_23 N w_1 (nI b))) (N := N) (v1 := b) t1 (tN T) N 0 w (by omega) (by omega) hT.2.2.1 (fun i hi => absurd hi (Nat.not_lt_zero i))
  have hT1 : MT w1 T := FrK.MT a3 hT (by omega) (by omega) (by omega)
  obtain ⟨w2, d, b1, b2, b3, b4, b5⟩ := lp_cb25 (fun (w_2 : Mem) => (f_X9_closesBy_66 N w_2)) (N := N) (by omega) hb 13 N 0 w1 (fun i => i) (by omega) (by omega) (FrK.RP a3 hS (by omega) (by omega)) hT1 a2 (fun p i j h => absurd h (Nat.not_lt_zero p)) (fun R hR hE i j hi hj h => by rw [show i = j from h]; exact hR.1 j hj)
  have c1 := cnt_le (tN T) d
  obtain ⟨w3, ld, d1, d2, d3, d4⟩ := lp_cb68 (fun (w_3 : Mem) => (f_X9_closesBy_156 N w_3)) (N := N) (by omega) hT.2.1 (cntG (tN T) d) N w2 d (Nat.le_refl _) (by omega) (FrK.MT b5 hT1 (by omega) (by omega) (by omega)) b2
  refine ⟨w3, ?_, RS.toE hT.2.1 d2 (clo_iff d3.1 (fun i j h => d3.2.1 i j (b3 i j h)) (d3.2.2 _ (cg_congr T hT.2.1 _) (b4 _ (cg_congr T hT.2.1 _) (fun i j h => cg_in h)))), (a3.tr b5).tr d4⟩
  rw [f_X9_closesBy]
  refine a1.trans ?_
  rw [f_X9_closesBy_23]
  refine b1.trans ?_
  rw [f_X9_closesBy_66]
  exact d1.trans (by rw [f_X9_closesBy_156])
/-- two are one by a set -/
def By (T : Trm) (S : List (Nat × Nat)) (b t u : Nat) : Prop := Cg T (Pk S b) t u
theorem isOneBy_ok {N b t u : Nat} {w : Mem} {T : Trm} {S : List (Nat × Nat)} (hN : 276 < N) (hT : MT w T) (hS : RP w (tN T) S) (hb : b < 2 ^ S.length) (ht : t < tN T) (hu : u < tN T) : ∃ w', f_X9_isOneBy N w (nI b) (nI t) (nI u) = some (w', nI (b01 (By T S b t u))) ∧ FrK 59 w w' := by
  have t1 := hT.1
  obtain ⟨w1, a1, a2, a3⟩ := closesBy_ok hN hT hS hb
  have c1 := (a2.2.1 t ht).1
  have c2 := (a2.2.1 u hu).1
  refine ⟨w1, ?_, a3⟩
  have hi := ldE_iff (E := Pk S b) hT.2.1 t u ht hu
  rw [f_X9_isOneBy, a1]
  by_cases z : By T S b t u
  · rw [b01_t z]
    simp (disch := omega) only [↓lm1, ↓lm2, eq_n1, eq_n2, n1_eq, n2_eq, n1_n2, n2_n1, n1_lt, n2_lt, n1_le, lt_n1, lt_n2, inb_t, cl_t, le_tt, le_tf, lt_tt, lt_tf, eq_tt, eq_tf, q_add, q_mul, li0, li1, li2, li3, li4, li5, li6, li7, li8, li12, li16, li24, li48, li500, gF_sA, gA_sF, gF_sF, gR_sA, gR_sF, gL_sA, gL_sF, gA_sA, shl_t, or_t, and_t, sbit_t, ubit_t, b01_0, b01_1, Option.bind_some, ↓reduceIte, eq_self, ne_eq, not_true_eq_false, Bool.false_eq_true, not_false_eq_true, true_and, and_true, false_and, and_false, if_pos, if_neg, a2.2.2.2, hi.mpr z]
  · rw [b01_f z]
    have hne : ldE T (Pk S b) t ≠ ldE T (Pk S b) u := fun h => z (hi.mp h)
    simp (disch := omega) only [↓lm1, ↓lm2, eq_n1, eq_n2, n1_eq, n2_eq, n1_n2, n2_n1, n1_lt, n2_lt, n1_le, lt_n1, lt_n2, inb_t, cl_t, le_tt, le_tf, lt_tt, lt_tf, eq_tt, eq_tf, q_add, q_mul, li0, li1, li2, li3, li4, li5, li6, li7, li8, li12, li16, li24, li48, li500, gF_sA, gA_sF, gF_sF, gR_sA, gR_sF, gL_sA, gL_sF, gA_sA, shl_t, or_t, and_t, sbit_t, ubit_t, b01_0, b01_1, Option.bind_some, ↓reduceIte, eq_self, ne_eq, not_true_eq_false, Bool.false_eq_true, not_false_eq_true, true_and, and_true, false_and, and_false, if_pos, if_neg, a2.2.2.2]
theorem groupsIn_ok {N k n : Nat} {w : Mem} {ld : Nat → Nat} (hk : alen k = 24) (hN : 24 < N) (h : RS w k n ld) : f_X9_groupsIn N w k = some (nI (cntG n ld)) := by
  obtain ⟨h1, h2, h3, h4⟩ := h
  have key := lpc n (fun f a i => lp_X9_groupsIn_4 (fun (u2_1 : Int32) => (f_X9_groupsIn_33 N w k u2_1 )) N w k f a i) (fun a => some a) (fun q a => a = nI (cntG q ld)) (fun f a ha => by
    show lp_X9_groupsIn_4 _ N w k (f + 1) a (nI n) = some a
    rw [lp_X9_groupsIn_4]
    simp (disch := omega) only [↓lm1, ↓lm2, eq_n1, eq_n2, n1_eq, n2_eq, n1_n2, n2_n1, n1_lt, n2_lt, n1_le, lt_n1, lt_n2, inb_t, cl_t, le_tt, le_tf, lt_tt, lt_tf, eq_tt, eq_tf, q_add, q_mul, li0, li1, li2, li3, li4, li5, li6, li7, li8, li12, li16, li24, li48, li500, gF_sA, gA_sF, gF_sF, gR_sA, gR_sF, gL_sA, gL_sF, gA_sA, shl_t, or_t, and_t, sbit_t, ubit_t, b01_0, b01_1, Option.bind_some, ↓reduceIte, eq_self, ne_eq, not_true_eq_false, Bool.false_eq_true, not_false_eq_true, true_and, and_true, false_and, and_false, if_pos, if_neg, h3]
    rfl) (fun f q a hq ha => by
    subst ha
    refine ⟨_, rfl, ?_⟩
    show lp_X9_groupsIn_4 _ N w k (f + 1) _ (nI q) = lp_X9_groupsIn_4 _ N w k f _ (nI (q + 1))
    have c1 := (h2 q hq).1
    rw [lp_X9_groupsIn_4, cntG]
    by_cases z : ld q = q
    · simp (disch := omega) only [↓lm1, ↓lm2, eq_n1, eq_n2, n1_eq, n2_eq, n1_n2, n2_n1, n1_lt, n2_lt, n1_le, lt_n1, lt_n2, inb_t, cl_t, le_tt, le_tf, lt_tt, lt_tf, eq_tt, eq_tf, q_add, q_mul, li0, li1, li2, li3, li4, li5, li6, li7, li8, li12, li16, li24, li48, li500, gF_sA, gA_sF, gF_sF, gR_sA, gR_sF, gL_sA, gL_sF, gA_sA, shl_t, or_t, and_t, sbit_t, ubit_t, b01_0, b01_1, Option.bind_some, ↓reduceIte, eq_self, ne_eq, not_true_eq_false, Bool.false_eq_true, not_false_eq_true, true_and, and_true, false_and, and_false, if_pos, if_neg, h3, h4, hk, if_pos z]
    · simp (disch := omega) only [↓lm1, ↓lm2, eq_n1, eq_n2, n1_eq, n2_eq, n1_n2, n2_n1, n1_lt, n2_lt, n1_le, lt_n1, lt_n2, inb_t, cl_t, le_tt, le_tf, lt_tt, lt_tf, eq_tt, eq_tf, q_add, q_mul, li0, li1, li2, li3, li4, li5, li6, li7, li8, li12, li16, li24, li48, li500, gF_sA, gA_sF, gF_sF, gR_sA, gR_sF, gL_sA, gL_sF, gA_sA, shl_t, or_t, and_t, sbit_t, ubit_t, b01_0, b01_1, Option.bind_some, ↓reduceIte, eq_self, ne_eq, not_true_eq_false, Bool.false_eq_true, not_false_eq_true, true_and, and_true, false_and, and_false, if_pos, if_neg, h3, h4, hk, if_neg z])
  obtain ⟨a, e1, e2⟩ := key 0 N (nI 0) (by omega) (by omega) rfl
  rw [f_X9_groupsIn, ← e1]
  exact e2
/-- the diffs of the model -/
def MD (w : Mem) (n : Nat) (Q : List (Nat × Nat)) : Prop := Q.length ≤ 8 ∧ gF w 9 33 0 = nI Q.length ∧ ∀ (p i j : Nat), Q[p]? = some (i, j) → i < n ∧ j < n ∧ gA w 50 0 p = nI i ∧ gA w 51 0 p = nI j
theorem drop_at {α : Type} {Q : List α} {q : Nat} {x : α} (hp : Q[q]? = some x) : Q.drop q = x :: Q.drop (q + 1) := by
  have hl := (List.getElem?_eq_some_iff.mp hp).1
  rw [List.drop_eq_getElem_cons hl]
  congr 1
  exact (List.getElem?_eq_some_iff.mp hp).2
theorem get_at {α : Type} (Q : List α) {q : Nat} (h : q < Q.length) : ∃ x, Q[q]? = some x := ⟨_, List.getElem?_eq_getElem h⟩
theorem fcl_t {ld : Nat → Nat} {i j : Nat} {D : List (Nat × Nat)} (h : ld i = ld j) : fcl ld ((i, j) :: D) = some 0 := by
  unfold fcl
  rw [List.findIdx?_cons]
  simp [h]
theorem fcl_f {ld : Nat → Nat} {i j : Nat} {D : List (Nat × Nat)} (h : ld i ≠ ld j) : fcl ld ((i, j) :: D) = (fcl ld D).map (fun z => z + 1) := by
  unfold fcl
  rw [List.findIdx?_cons]
  simp [h]
def oI (o : Option Nat) : Int32 := match o with | some z => nI z | none => n2
theorem clashIn_ok {N k n : Nat} {w : Mem} {ld : Nat → Nat} {Q : List (Nat × Nat)} (hk : alen k = 24) (hN : 24 < N) (h : RS w k n ld) (hQ : MD w n Q) : f_X9_clashIn N w k = some (oI (fcl ld Q)) := by
  obtain ⟨h1, h2, h3, h4⟩ := h
  obtain ⟨g1, g2, g3⟩ := hQ
  rw [f_X9_clashIn]
  refine lpe Q.length (fun f (_ : Unit) i => lp_X9_clashIn_2 (f_X9_clashIn_37 N w k) N w k f i) (fun o => o = some (oI (fcl ld Q))) (fun q _ => fcl ld Q = (fcl ld (Q.drop q)).map (fun z => q + z)) (fun f _ ha => ?_) (fun f q _ hq ha => ?_) 0 N () (by omega) (by omega) ?_
  · show lp_X9_clashIn_2 _ N w k (f + 1) (nI Q.length) = _
    rw [lp_X9_clashIn_2, ha, List.drop_length]
    simp (disch := omega) only [↓lm1, ↓lm2, eq_n1, eq_n2, n1_eq, n2_eq, n1_n2, n2_n1, n1_lt, n2_lt, n1_le, lt_n1, lt_n2, inb_t, cl_t, le_tt, le_tf, lt_tt, lt_tf, eq_tt, eq_tf, q_add, q_mul, li0, li1, li2, li3, li4, li5, li6, li7, li8, li12, li16, li24, li48, li500, gF_sA, gA_sF, gF_sF, gR_sA, gR_sF, gL_sA, gL_sF, gA_sA, shl_t, or_t, and_t, sbit_t, ubit_t, b01_0, b01_1, Option.bind_some, ↓reduceIte, eq_self, ne_eq, not_true_eq_false, Bool.false_eq_true, not_false_eq_true, true_and, and_true, false_and, and_false, if_pos, if_neg, g2]
    rfl
  · obtain ⟨⟨i, j⟩, hp⟩ := get_at Q hq
    obtain ⟨u1, u2, u3, u4⟩ := g3 q i j hp
    have c1 := (h2 i u1).1
    have c2 := (h2 j u2).1
    rw [drop_at hp] at ha
    show lp_X9_clashIn_2 _ N w k (f + 1) (nI q) = _ ∨ _
    by_cases z : ld i = ld j
    · refine Or.inl ?_
      rw [ha, lp_X9_clashIn_2, fcl_t z]
      simp (disch := omega) only [↓lm1, ↓lm2, eq_n1, eq_n2, n1_eq, n2_eq, n1_n2, n2_n1, n1_lt, n2_lt, n1_le, lt_n1, lt_n2, inb_t, cl_t, le_tt, le_tf, lt_tt, lt_tf, eq_tt, eq_tf, q_add, q_mul, li0, li1, li2, li3, li4, li5, li6, li7, li8, li12, li16, li24, li48, li500, gF_sA, gA_sF, gF_sF, gR_sA, gR_sF, gL_sA, gL_sF, gA_sA, shl_t, or_t, and_t, sbit_t, ubit_t, b01_0, b01_1, Option.bind_some, ↓reduceIte, eq_self, ne_eq, not_true_eq_false, Bool.false_eq_true, not_false_eq_true, true_and, and_true, false_and, and_false, if_pos, if_neg, g2, u3, u4, h4, hk]
      rfl
    · refine Or.inr ⟨(), ?_, ?_⟩
      · rw [ha, fcl_f z, Option.map_map]
        congr 1
        funext x
        show q + (x + 1) = q + 1 + x
        omega
      · show lp_X9_clashIn_2 _ N w k (f + 1) (nI q) = lp_X9_clashIn_2 _ N w k f (nI (q + 1))
        rw [lp_X9_clashIn_2]
        simp (disch := omega) only [↓lm1, ↓lm2, eq_n1, eq_n2, n1_eq, n2_eq, n1_n2, n2_n1, n1_lt, n2_lt, n1_le, lt_n1, lt_n2, inb_t, cl_t, le_tt, le_tf, lt_tt, lt_tf, eq_tt, eq_tf, q_add, q_mul, li0, li1, li2, li3, li4, li5, li6, li7, li8, li12, li16, li24, li48, li500, gF_sA, gA_sF, gF_sF, gR_sA, gR_sF, gL_sA, gL_sF, gA_sA, shl_t, or_t, and_t, sbit_t, ubit_t, b01_0, b01_1, Option.bind_some, ↓reduceIte, eq_self, ne_eq, not_true_eq_false, Bool.false_eq_true, not_false_eq_true, true_and, and_true, false_and, and_false, if_pos, if_neg, g2, u3, u4, h4, hk]
  · show fcl ld Q = _
    rw [List.drop_zero]
    cases fcl ld Q with
    | none => rfl
    | some z => show some z = some (0 + z); rw [Nat.zero_add]
