theorem stepsUp_ok {N f n : Nat} {w : Mem} {J : List Jn} {ld : Nat → Nat} {t : Nat} (hN : 25 < N) (h : FS w f n J) (hW : FW (frJ J) n ld J.length) (ht : t < n) : f_X2_stepsUp N w f (nI t) = some (nI (dp (frJ J) t)) := by
  have hn := h.1
  obtain ⟨d1, d2, d3⟩ := hW.dpS hn ht
  have key : ∀ r fuel s, s + r = dp (frJ J) t → r < fuel → lp_X2_stepsUp_9 (fun (u2_2 : Int32) => (f_X2_stepsUp_32 N w f u2_2)) N w f fuel (nI s) (oN (frJ J (anc (frJ J) s t))) = some (nI (dp (frJ J) t)) := by
    intro r
    induction r with
    | zero =>
      intro fuel s hs hf
      obtain ⟨f', rfl⟩ : ∃ f, fuel = f + 1 := ⟨fuel - 1, by omega⟩
      have hes : s = dp (frJ J) t := by omega
      subst hes
      rw [lp_X2_stepsUp_9, d1, oN_none]
      simp (disch := omega) only [↓lm1, ↓lm2, eq_n1, eq_n2, n1_eq, n2_eq, n1_n2, n2_n1, n1_lt, n2_lt, n1_le, lt_n1, lt_n2, inb_t, cl_t, le_tt, le_tf, lt_tt, lt_tf, eq_tt, eq_tf, q_add, q_mul, li0, li1, li2, li3, li4, li5, li6, li7, li8, li12, li16, li24, li48, li500, gF_sA, gA_sF, gF_sF, gR_sA, gR_sF, gL_sA, gL_sF, gA_sA, shl_t, or_t, and_t, sbit_t, ubit_t, b01_0, b01_1, Option.bind_some, ↓reduceIte, eq_self, ne_eq, not_true_eq_false, Bool.false_eq_true, not_false_eq_true, true_and, and_true, false_and, and_false, if_pos, if_neg, lt0_n1]
      rfl
    | succ r ih =>
      intro fuel s hs hf
      obtain ⟨f', rfl⟩ : ∃ f, fuel = f + 1 := ⟨fuel - 1, by omega⟩
      obtain ⟨c, q1, q2⟩ := hW.edge hn ht (k := s) (by omega)
      have hl2 := hW.lt ht (s + 1)
      have h19 := h.2.2.2.2.1 _ hl2
      rw [lp_X2_stepsUp_9, q1, oN_some, ← ih f' (s + 1) (by omega) (by omega)]
      simp (disch := omega) only [↓lm1, ↓lm2, eq_n1, eq_n2, n1_eq, n2_eq, n1_n2, n2_n1, n1_lt, n2_lt, n1_le, lt_n1, lt_n2, inb_t, cl_t, le_tt, le_tf, lt_tt, lt_tf, eq_tt, eq_tf, q_add, q_mul, li0, li1, li2, li3, li4, li5, li6, li7, li8, li12, li16, li24, li48, li500, gF_sA, gA_sF, gF_sF, gR_sA, gR_sF, gL_sA, gL_sF, gA_sA, shl_t, or_t, and_t, sbit_t, ubit_t, b01_0, b01_1, Option.bind_some, ↓reduceIte, eq_self, ne_eq, not_true_eq_false, Bool.false_eq_true, not_false_eq_true, true_and, and_true, false_and, and_false, if_pos, if_neg, h19]
  have h19 := h.2.2.2.2.1 t ht
  rw [f_X2_stepsUp]
  simp (disch := omega) only [↓lm1, ↓lm2, eq_n1, eq_n2, n1_eq, n2_eq, n1_n2, n2_n1, n1_lt, n2_lt, n1_le, lt_n1, lt_n2, inb_t, cl_t, le_tt, le_tf, lt_tt, lt_tf, eq_tt, eq_tf, q_add, q_mul, li0, li1, li2, li3, li4, li5, li6, li7, li8, li12, li16, li24, li48, li500, gF_sA, gA_sF, gF_sF, gR_sA, gR_sF, gL_sA, gL_sF, gA_sA, shl_t, or_t, and_t, sbit_t, ubit_t, b01_0, b01_1, Option.bind_some, ↓reduceIte, eq_self, ne_eq, not_true_eq_false, Bool.false_eq_true, not_false_eq_true, true_and, and_true, false_and, and_false, if_pos, if_neg, h19]
  exact key (dp (frJ J) t) N 0 (by omega) (by omega)
