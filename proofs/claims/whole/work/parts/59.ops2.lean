/-! calls BY sets: proves, sameOf, base, since, without, would; reasons, height, hung, apart -/
theorem op_reasons {N f nf : Nat} {tk : Nat → Nat} {R A : List Row} {NL : List (List Nat)} {tp : List Nat} {wx wm : Mem} (hN : 276 < N) (h : RelC wx wm f nf tk R A NL tp) (x1 x2 : Int32) : Op (f_X8_reasons N wx x1 x2) (f_X9_reasons N wm x1 x2) := by
  rcases h.why (N := N) x1 x2 with ⟨q, hq, e1, e2⟩ | ⟨t, u, rfl, rfl, ht, hu, hl, e1, e2⟩
  · rw [f_X8_reasons, f_X9_reasons, e1, e2, Option.bind_some, Option.bind_some, refused_n N wm (by omega) (by omega)]
    simp (disch := omega) only [↓lm1, ↓lm2, eq_n1, eq_n2, n1_eq, n2_eq, n1_n2, n2_n1, n1_lt, n2_lt, n1_le, lt_n1, lt_n2, inb_t, cl_t, le_tt, le_tf, lt_tt, lt_tf, eq_tt, eq_tf, q_add, q_mul, li0, li1, li2, li3, li4, li5, li6, li7, li8, li12, li16, li24, li48, li500, gF_sA, gA_sF, gF_sF, gR_sA, gR_sF, gL_sA, gL_sF, gA_sA, shl_t, or_t, and_t, sbit_t, ubit_t, b01_0, b01_1, Option.bind_some, ↓reduceIte, eq_self, ne_eq, not_true_eq_false, Bool.false_eq_true, not_false_eq_true, true_and, and_true, false_and, and_false, if_pos, if_neg, refuse_eq]
    exact op_ans0 h
  ·
    have hCI := h.ci
    obtain ⟨⟨⟨hf, h5, h6⟩, ⟨⟨xT, xG, xF⟩, xS, xQ, xD⟩, xFN, xA, xNm, xTp, xCo⟩, hM, hPp, hfa⟩ := id h
    have hM0 := hM.km (mAns_km (cS (run tk c0 (R ++ A))).length wm (nI 0))
    obtain ⟨⟨⟨mT, mR, mN, mJ, mJR, mFR⟩, mS, mQ⟩, mFN, mRW, m8, m9, mNm, mTp⟩ := id hM0
    have hn : (cL (run tk c0 (R ++ A))).length ≤ 24 := xT.1
    have x10 : gF wx 7 10 f = nI (cL (run tk c0 (R ++ A))).length := xT.2.2.1
    have m27 : gF wm 9 27 0 = nI (cL (run tk c0 (R ++ A))).length := hM.1.1.1.2.2.1
    have iX := isTermX (N := N) (show (cL (run tk c0 (R ++ A))).length < 1000 by omega) hf h5 x10
    have iM := isTermM (N := N) (w := wm) (show (cL (run tk c0 (R ++ A))).length < 1000 by omega) m27
    obtain ⟨c1, c2, c3, c4, c5, c6⟩ := hCI.1
    have r1 := reasons_ok (N := N) (by omega) xF c5 c3 ht hu hl
    have r2 := mreasons_ok (N := N) (by omega) c2 mFR (fun c hc => bits_row mJR hc) c5 c3 ht hu hl
    rw [f_X8_reasons, f_X9_reasons, e1, e2]
    simp (disch := omega) only [↓lm1, ↓lm2, eq_n1, eq_n2, n1_eq, n2_eq, n1_n2, n2_n1, n1_lt, n2_lt, n1_le, lt_n1, lt_n2, inb_t, cl_t, le_tt, le_tf, lt_tt, lt_tf, eq_tt, eq_tf, q_add, q_mul, li0, li1, li2, li3, li4, li5, li6, li7, li8, li12, li16, li24, li48, li500, gF_sA, gA_sF, gF_sF, gR_sA, gR_sF, gL_sA, gL_sF, gA_sA, shl_t, or_t, and_t, sbit_t, ubit_t, b01_0, b01_1, Option.bind_some, ↓reduceIte, eq_self, ne_eq, not_true_eq_false, Bool.false_eq_true, not_false_eq_true, true_and, and_true, false_and, and_false, if_pos, if_neg, h5, refused_0, r1, r2, answer_eq]
    exact op_ans0 h
theorem stepsUp_ok {N f n : Nat} {w : Mem} {J : List Jn} {ld : Nat → Nat} {t : Nat} (hN : 25 < N) (h : FS w f n J) (hW : FW (frJ J) n ld J.length) (ht : t < n) : f_X2_stepsUp N w f (nI t) = some (nI (dp (frJ J) t)) := by
  have hn := h.1
  obtain ⟨d1, d2, d3⟩ := hW.dpS hn ht
  have key : ∀ r fuel s, s + r = dp (frJ J) t → r < fuel → lp_X2_stepsUp_9 (fun (u2_2 : Int32) => (f_X2_stepsUp_32 N w f u2_2)) N w f fuel (nI s) (oN (frJ J (anc (frJ J) s t))) = some (nI (dp (frJ J) t)) := by
    intro r
    induction r with
    | zero =>
      intro fuel s hs hf
      obtain ⟨f', rfl⟩ : ∃ f, fuel = f + 1 := ⟨fuel - 1, by omega⟩
      have hes : s = dp (frJ J) t := by omega
      subst hes
      rw [lp_X2_stepsUp_9, d1, oN_none]
      simp (disch := omega) only [↓lm1, ↓lm2, eq_n1, eq_n2, n1_eq, n2_eq, n1_n2, n2_n1, n1_lt, n2_lt, n1_le, lt_n1, lt_n2, inb_t, cl_t, le_tt, le_tf, lt_tt, lt_tf, eq_tt, eq_tf, q_add, q_mul, li0, li1, li2, li3, li4, li5, li6, li7, li8, li12, li16, li24, li48, li500, gF_sA, gA_sF, gF_sF, gR_sA, gR_sF, gL_sA, gL_sF, gA_sA, shl_t, or_t, and_t, sbit_t, ubit_t, b01_0, b01_1, Option.bind_some, ↓reduceIte, eq_self, ne_eq, not_true_eq_false, Bool.false_eq_true, not_false_eq_true, true_and, and_true, false_and, and_false, if_pos, if_neg, lt0_n1]
      rfl
    | succ r ih =>
      intro fuel s hs hf
      obtain ⟨f', rfl⟩ : ∃ f, fuel = f + 1 := ⟨fuel - 1, by omega⟩
      obtain ⟨c, q1, q2⟩ := hW.edge hn ht (k := s) (by omega)
      have hl2 := hW.lt ht (s + 1)
      have h19 := h.2.2.2.2.1 _ hl2
      rw [lp_X2_stepsUp_9, q1, oN_some, ← ih f' (s + 1) (by omega) (by omega)]
      simp (disch := omega) only [↓lm1, ↓lm2, eq_n1, eq_n2, n1_eq, n2_eq, n1_n2, n2_n1, n1_lt, n2_lt, n1_le, lt_n1, lt_n2, inb_t, cl_t, le_tt, le_tf, lt_tt, lt_tf, eq_tt, eq_tf, q_add, q_mul, li0, li1, li2, li3, li4, li5, li6, li7, li8, li12, li16, li24, li48, li500, gF_sA, gA_sF, gF_sF, gR_sA, gR_sF, gL_sA, gL_sF, gA_sA, shl_t, or_t, and_t, sbit_t, ubit_t, b01_0, b01_1, Option.bind_some, ↓reduceIte, eq_self, ne_eq, not_true_eq_false, Bool.false_eq_true, not_false_eq_true, true_and, and_true, false_and, and_false, if_pos, if_neg, h19]
  have h19 := h.2.2.2.2.1 t ht
  rw [f_X2_stepsUp]
  simp (disch := omega) only [↓lm1, ↓lm2, eq_n1, eq_n2, n1_eq, n2_eq, n1_n2, n2_n1, n1_lt, n2_lt, n1_le, lt_n1, lt_n2, inb_t, cl_t, le_tt, le_tf, lt_tt, lt_tf, eq_tt, eq_tf, q_add, q_mul, li0, li1, li2, li3, li4, li5, li6, li7, li8, li12, li16, li24, li48, li500, gF_sA, gA_sF, gF_sF, gR_sA, gR_sF, gL_sA, gL_sF, gA_sA, shl_t, or_t, and_t, sbit_t, ubit_t, b01_0, b01_1, Option.bind_some, ↓reduceIte, eq_self, ne_eq, not_true_eq_false, Bool.false_eq_true, not_false_eq_true, true_and, and_true, false_and, and_false, if_pos, if_neg, h19]
  exact key (dp (frJ J) t) N 0 (by omega) (by omega)
theorem op_height {N f nf : Nat} {tk : Nat → Nat} {R A : List Row} {NL : List (List Nat)} {tp : List Nat} {wx wm : Mem} (hN : 276 < N) (h : RelC wx wm f nf tk R A NL tp) (x1 : Int32) : Op (f_X8_height N wx x1) (f_X9_height N wm x1) := by
  have hCI := h.ci
  obtain ⟨⟨⟨hf, h5, h6⟩, ⟨⟨xT, xG, xF⟩, xS, xQ, xD⟩, xFN, xA, xNm, xTp, xCo⟩, hM, hPp, hfa⟩ := id h
  have hM0 := hM.km (mAns_km (cS (run tk c0 (R ++ A))).length wm (nI 0))
  obtain ⟨⟨⟨mT, mR, mN, mJ, mJR, mFR⟩, mS, mQ⟩, mFN, mRW, m8, m9, mNm, mTp⟩ := id hM0
  have hn : (cL (run tk c0 (R ++ A))).length ≤ 24 := xT.1
  have x10 : gF wx 7 10 f = nI (cL (run tk c0 (R ++ A))).length := xT.2.2.1
  have m27 : gF wm 9 27 0 = nI (cL (run tk c0 (R ++ A))).length := hM.1.1.1.2.2.1
  have iX := isTermX (N := N) (show (cL (run tk c0 (R ++ A))).length < 1000 by omega) hf h5 x10
  have iM := isTermM (N := N) (w := wm) (show (cL (run tk c0 (R ++ A))).length < 1000 by omega) m27
  rw [f_X8_height, f_X9_height, iX, iM]
  by_cases hT : isT (cL (run tk c0 (R ++ A))).length x1
  · obtain ⟨t, ht, rfl⟩ := hT
    rw [b01_t (isT_nI ht)]
    obtain ⟨c1, c2, c3, c4, c5, c6⟩ := hCI.1
    have r1 := stepsUp_ok (N := N) (by omega) xF c5 ht
    have r2 := depthOf_ok (N := N) (by omega) c2 mFR c5 ht
    simp (disch := omega) only [↓lm1, ↓lm2, eq_n1, eq_n2, n1_eq, n2_eq, n1_n2, n2_n1, n1_lt, n2_lt, n1_le, lt_n1, lt_n2, inb_t, cl_t, le_tt, le_tf, lt_tt, lt_tf, eq_tt, eq_tf, q_add, q_mul, li0, li1, li2, li3, li4, li5, li6, li7, li8, li12, li16, li24, li48, li500, gF_sA, gA_sF, gF_sF, gR_sA, gR_sF, gL_sA, gL_sF, gA_sA, shl_t, or_t, and_t, sbit_t, ubit_t, b01_0, b01_1, Option.bind_some, ↓reduceIte, eq_self, ne_eq, not_true_eq_false, Bool.false_eq_true, not_false_eq_true, true_and, and_true, false_and, and_false, if_pos, if_neg, h5, r1, answer_eq, unless_1, refused_0, r2]
    exact op_ans0 h
  · rw [b01_f hT]
    simp (disch := omega) only [↓lm1, ↓lm2, eq_n1, eq_n2, n1_eq, n2_eq, n1_n2, n2_n1, n1_lt, n2_lt, n1_le, lt_n1, lt_n2, inb_t, cl_t, le_tt, le_tf, lt_tt, lt_tf, eq_tt, eq_tf, q_add, q_mul, li0, li1, li2, li3, li4, li5, li6, li7, li8, li12, li16, li24, li48, li500, gF_sA, gA_sF, gF_sF, gR_sA, gR_sF, gL_sA, gL_sF, gA_sA, shl_t, or_t, and_t, sbit_t, ubit_t, b01_0, b01_1, Option.bind_some, ↓reduceIte, eq_self, ne_eq, not_true_eq_false, Bool.false_eq_true, not_false_eq_true, true_and, and_true, false_and, and_false, if_pos, if_neg, refuse_eq, unless_0, refused_1]
    exact op_ans0 h
theorem hung_lock {N f n t : Nat} {wx wm : Mem} {F : Fst} (hn : n ≤ 24) (hx : gF wx 2 6 f = nI n) (hm : gF wm 9 27 0 = nI n) (hX : ∀ s, s < n → gA wx 19 f s = oN (F s)) (hM : ∀ s, s < n → gA wm 53 0 s = mO (F s)) (hF : FB n 24 F) (ht : t < n) (i : Nat) (hi : i < 2147483648) : ∀ r f1 f2 s seen, s + r = n → r < f1 → r < f2 → seen ≤ i → ∃ v, lp_X2_hangingOn_5 (f_X2_hangingOn_42 N wx f) N wx f (nI t) (nI i) f1 (nI seen) (nI s) = some v ∧ lp_X9_hung_34 (f_X9_hung_70 N wm) N wm (nI t) f2 (nI (i - seen)) (nI s) = some (wm, v) := by
  intro r
  induction r with
  | zero =>
    intro f1 f2 s seen hs h1 h2 hsn
    obtain ⟨g1, rfl⟩ : ∃ f, f1 = f + 1 := ⟨f1 - 1, by omega⟩
    obtain ⟨g2, rfl⟩ : ∃ f, f2 = f + 1 := ⟨f2 - 1, by omega⟩
    refine ⟨n2, ?_, ?_⟩
    · rw [lp_X2_hangingOn_5]
      simp (disch := omega) only [↓lm1, ↓lm2, eq_n1, eq_n2, n1_eq, n2_eq, n1_n2, n2_n1, n1_lt, n2_lt, n1_le, lt_n1, lt_n2, inb_t, cl_t, le_tt, le_tf, lt_tt, lt_tf, eq_tt, eq_tf, q_add, q_mul, li0, li1, li2, li3, li4, li5, li6, li7, li8, li12, li16, li24, li48, li500, gF_sA, gA_sF, gF_sF, gR_sA, gR_sF, gL_sA, gL_sF, gA_sA, shl_t, or_t, and_t, sbit_t, ubit_t, b01_0, b01_1, Option.bind_some, ↓reduceIte, eq_self, ne_eq, not_true_eq_false, Bool.false_eq_true, not_false_eq_true, true_and, and_true, false_and, and_false, if_pos, if_neg, hx]
      rfl
    · rw [lp_X9_hung_34]
      simp (disch := omega) only [↓lm1, ↓lm2, eq_n1, eq_n2, n1_eq, n2_eq, n1_n2, n2_n1, n1_lt, n2_lt, n1_le, lt_n1, lt_n2, inb_t, cl_t, le_tt, le_tf, lt_tt, lt_tf, eq_tt, eq_tf, q_add, q_mul, li0, li1, li2, li3, li4, li5, li6, li7, li8, li12, li16, li24, li48, li500, gF_sA, gA_sF, gF_sF, gR_sA, gR_sF, gL_sA, gL_sF, gA_sA, shl_t, or_t, and_t, sbit_t, ubit_t, b01_0, b01_1, Option.bind_some, ↓reduceIte, eq_self, ne_eq, not_true_eq_false, Bool.false_eq_true, not_false_eq_true, true_and, and_true, false_and, and_false, if_pos, if_neg, hm]
      rfl
  | succ r ih =>
    intro f1 f2 s seen hs h1 h2 hsn
    obtain ⟨g1, rfl⟩ : ∃ f, f1 = f + 1 := ⟨f1 - 1, by omega⟩
    obtain ⟨g2, rfl⟩ : ∃ f, f2 = f + 1 := ⟨f2 - 1, by omega⟩
    have a1 := hX s (by omega)
    have a2 := hM s (by omega)
    rw [lp_X2_hangingOn_5, lp_X9_hung_34]
    cases hFs : F s with
    | none =>
      rw [hFs, oN_none] at a1
      rw [hFs, mO_none] at a2
      obtain ⟨v, b1, b2⟩ := ih g1 g2 (s + 1) seen (by omega) (by omega) (by omega) hsn
      refine ⟨v, b1 ▸ ?_, b2 ▸ ?_⟩
      · simp (disch := omega) only [↓lm1, ↓lm2, eq_n1, eq_n2, n1_eq, n2_eq, n1_n2, n2_n1, n1_lt, n2_lt, n1_le, lt_n1, lt_n2, inb_t, cl_t, le_tt, le_tf, lt_tt, lt_tf, eq_tt, eq_tf, q_add, q_mul, li0, li1, li2, li3, li4, li5, li6, li7, li8, li12, li16, li24, li48, li500, gF_sA, gA_sF, gF_sF, gR_sA, gR_sF, gL_sA, gL_sF, gA_sA, shl_t, or_t, and_t, sbit_t, ubit_t, b01_0, b01_1, Option.bind_some, ↓reduceIte, eq_self, ne_eq, not_true_eq_false, Bool.false_eq_true, not_false_eq_true, true_and, and_true, false_and, and_false, if_pos, if_neg, hx, a1]
      · simp (disch := omega) only [↓lm1, ↓lm2, eq_n1, eq_n2, n1_eq, n2_eq, n1_n2, n2_n1, n1_lt, n2_lt, n1_le, lt_n1, lt_n2, inb_t, cl_t, le_tt, le_tf, lt_tt, lt_tf, eq_tt, eq_tf, q_add, q_mul, li0, li1, li2, li3, li4, li5, li6, li7, li8, li12, li16, li24, li48, li500, gF_sA, gA_sF, gF_sF, gR_sA, gR_sF, gL_sA, gL_sF, gA_sA, shl_t, or_t, and_t, sbit_t, ubit_t, b01_0, b01_1, Option.bind_some, ↓reduceIte, eq_self, ne_eq, not_true_eq_false, Bool.false_eq_true, not_false_eq_true, true_and, and_true, false_and, and_false, if_pos, if_neg, hm, a2]
    | some p =>
      obtain ⟨u, c⟩ := p
      rw [hFs, oN_some] at a1
      rw [hFs, mO_some] at a2
      obtain ⟨k1, k2, k3⟩ := hF s u c hFs
      by_cases z : u = t
      · by_cases y : seen = i
        · refine ⟨nI s, ?_, ?_⟩
          · simp (disch := omega) only [↓lm1, ↓lm2, eq_n1, eq_n2, n1_eq, n2_eq, n1_n2, n2_n1, n1_lt, n2_lt, n1_le, lt_n1, lt_n2, inb_t, cl_t, le_tt, le_tf, lt_tt, lt_tf, eq_tt, eq_tf, q_add, q_mul, li0, li1, li2, li3, li4, li5, li6, li7, li8, li12, li16, li24, li48, li500, gF_sA, gA_sF, gF_sF, gR_sA, gR_sF, gL_sA, gL_sF, gA_sA, shl_t, or_t, and_t, sbit_t, ubit_t, b01_0, b01_1, Option.bind_some, ↓reduceIte, eq_self, ne_eq, not_true_eq_false, Bool.false_eq_true, not_false_eq_true, true_and, and_true, false_and, and_false, if_pos, if_neg, hx, a1]
          · simp (disch := omega) only [↓lm1, ↓lm2, eq_n1, eq_n2, n1_eq, n2_eq, n1_n2, n2_n1, n1_lt, n2_lt, n1_le, lt_n1, lt_n2, inb_t, cl_t, le_tt, le_tf, lt_tt, lt_tf, eq_tt, eq_tf, q_add, q_mul, li0, li1, li2, li3, li4, li5, li6, li7, li8, li12, li16, li24, li48, li500, gF_sA, gA_sF, gF_sF, gR_sA, gR_sF, gL_sA, gL_sF, gA_sA, shl_t, or_t, and_t, sbit_t, ubit_t, b01_0, b01_1, Option.bind_some, ↓reduceIte, eq_self, ne_eq, not_true_eq_false, Bool.false_eq_true, not_false_eq_true, true_and, and_true, false_and, and_false, if_pos, if_neg, hm, a2]
        · obtain ⟨v, b1, b2⟩ := ih g1 g2 (s + 1) (seen + 1) (by omega) (by omega) (by omega) (by omega)
          have hd : nI (i - seen) + n1 = nI (i - (seen + 1)) := by
            rw [show i - seen = (i - (seen + 1)) + 1 by omega, dec_t]
          refine ⟨v, b1 ▸ ?_, b2 ▸ ?_⟩
          · simp (disch := omega) only [↓lm1, ↓lm2, eq_n1, eq_n2, n1_eq, n2_eq, n1_n2, n2_n1, n1_lt, n2_lt, n1_le, lt_n1, lt_n2, inb_t, cl_t, le_tt, le_tf, lt_tt, lt_tf, eq_tt, eq_tf, q_add, q_mul, li0, li1, li2, li3, li4, li5, li6, li7, li8, li12, li16, li24, li48, li500, gF_sA, gA_sF, gF_sF, gR_sA, gR_sF, gL_sA, gL_sF, gA_sA, shl_t, or_t, and_t, sbit_t, ubit_t, b01_0, b01_1, Option.bind_some, ↓reduceIte, eq_self, ne_eq, not_true_eq_false, Bool.false_eq_true, not_false_eq_true, true_and, and_true, false_and, and_false, if_pos, if_neg, hx, a1]
          · simp (disch := omega) only [↓lm1, ↓lm2, eq_n1, eq_n2, n1_eq, n2_eq, n1_n2, n2_n1, n1_lt, n2_lt, n1_le, lt_n1, lt_n2, inb_t, cl_t, le_tt, le_tf, lt_tt, lt_tf, eq_tt, eq_tf, q_add, q_mul, li0, li1, li2, li3, li4, li5, li6, li7, li8, li12, li16, li24, li48, li500, gF_sA, gA_sF, gF_sF, gR_sA, gR_sF, gL_sA, gL_sF, gA_sA, shl_t, or_t, and_t, sbit_t, ubit_t, b01_0, b01_1, Option.bind_some, ↓reduceIte, eq_self, ne_eq, not_true_eq_false, Bool.false_eq_true, not_false_eq_true, true_and, and_true, false_and, and_false, if_pos, if_neg, hm, a2, hd]
      · obtain ⟨v, b1, b2⟩ := ih g1 g2 (s + 1) seen (by omega) (by omega) (by omega) hsn
        refine ⟨v, b1 ▸ ?_, b2 ▸ ?_⟩
        · simp (disch := omega) only [↓lm1, ↓lm2, eq_n1, eq_n2, n1_eq, n2_eq, n1_n2, n2_n1, n1_lt, n2_lt, n1_le, lt_n1, lt_n2, inb_t, cl_t, le_tt, le_tf, lt_tt, lt_tf, eq_tt, eq_tf, q_add, q_mul, li0, li1, li2, li3, li4, li5, li6, li7, li8, li12, li16, li24, li48, li500, gF_sA, gA_sF, gF_sF, gR_sA, gR_sF, gL_sA, gL_sF, gA_sA, shl_t, or_t, and_t, sbit_t, ubit_t, b01_0, b01_1, Option.bind_some, ↓reduceIte, eq_self, ne_eq, not_true_eq_false, Bool.false_eq_true, not_false_eq_true, true_and, and_true, false_and, and_false, if_pos, if_neg, hx, a1]
        · simp (disch := omega) only [↓lm1, ↓lm2, eq_n1, eq_n2, n1_eq, n2_eq, n1_n2, n2_n1, n1_lt, n2_lt, n1_le, lt_n1, lt_n2, inb_t, cl_t, le_tt, le_tf, lt_tt, lt_tf, eq_tt, eq_tf, q_add, q_mul, li0, li1, li2, li3, li4, li5, li6, li7, li8, li12, li16, li24, li48, li500, gF_sA, gA_sF, gF_sF, gR_sA, gR_sF, gL_sA, gL_sF, gA_sA, shl_t, or_t, and_t, sbit_t, ubit_t, b01_0, b01_1, Option.bind_some, ↓reduceIte, eq_self, ne_eq, not_true_eq_false, Bool.false_eq_true, not_false_eq_true, true_and, and_true, false_and, and_false, if_pos, if_neg, hm, a2]
theorem op_hung {N f nf : Nat} {tk : Nat → Nat} {R A : List Row} {NL : List (List Nat)} {tp : List Nat} {wx wm : Mem} (hN : 276 < N) (h : RelC wx wm f nf tk R A NL tp) (x1 x2 : Int32) : Op (f_X8_hung N wx x1 x2) (f_X9_hung N wm x1 x2) := by
  have hCI := h.ci
  obtain ⟨⟨⟨hf, h5, h6⟩, ⟨⟨xT, xG, xF⟩, xS, xQ, xD⟩, xFN, xA, xNm, xTp, xCo⟩, hM, hPp, hfa⟩ := id h
  have hM0 := hM.km (mAns_km (cS (run tk c0 (R ++ A))).length wm (nI 0))
  obtain ⟨⟨⟨mT, mR, mN, mJ, mJR, mFR⟩, mS, mQ⟩, mFN, mRW, m8, m9, mNm, mTp⟩ := id hM0
  have hn : (cL (run tk c0 (R ++ A))).length ≤ 24 := xT.1
  have x10 : gF wx 7 10 f = nI (cL (run tk c0 (R ++ A))).length := xT.2.2.1
  have m27 : gF wm 9 27 0 = nI (cL (run tk c0 (R ++ A))).length := hM.1.1.1.2.2.1
  have iX := isTermX (N := N) (show (cL (run tk c0 (R ++ A))).length < 1000 by omega) hf h5 x10
  have iM := isTermM (N := N) (w := wm) (show (cL (run tk c0 (R ++ A))).length < 1000 by omega) m27
  rw [f_X8_hung, f_X9_hung, iX, iM]
  by_cases hT : isT (cL (run tk c0 (R ++ A))).length x1
  · obtain ⟨t, ht, rfl⟩ := hT
    rw [b01_t (isT_nI ht)]
    rcases i_cases x2 with hx | ⟨k, hk, rfl⟩
    · have hng : (x2 < nI 0) = True := eq_true hx
      have hng2 : (nI 0 ≤ x2) = False := eq_false (fun z => i_not_le.mpr hx z)
      simp (disch := omega) only [↓lm1, ↓lm2, eq_n1, eq_n2, n1_eq, n2_eq, n1_n2, n2_n1, n1_lt, n2_lt, n1_le, lt_n1, lt_n2, inb_t, cl_t, le_tt, le_tf, lt_tt, lt_tf, eq_tt, eq_tf, q_add, q_mul, li0, li1, li2, li3, li4, li5, li6, li7, li8, li12, li16, li24, li48, li500, gF_sA, gA_sF, gF_sF, gR_sA, gR_sF, gL_sA, gL_sF, gA_sA, shl_t, or_t, and_t, sbit_t, ubit_t, b01_0, b01_1, Option.bind_some, ↓reduceIte, eq_self, ne_eq, not_true_eq_false, Bool.false_eq_true, not_false_eq_true, true_and, and_true, false_and, and_false, if_pos, if_neg, hng, hng2, refuse_eq, unless_0, refused_1]
      exact op_ans0 h
    · obtain ⟨c1, c2, c3, c4, c5, c6⟩ := hCI.1
      have hfb : FB (cL (run tk c0 (R ++ A))).length 24 (frJ (cJ (run tk c0 (R ++ A)))) := fun a b c hF => by
        have := c5.fb a b c hF
        have := c3.1
        rw [tN_mk] at *
        omega
      obtain ⟨v, b1, b2⟩ := hung_lock (N := N) (wx := wx) (wm := mAns wm (nI 0)) hn xF.2.1 mT.2.2.1 xF.2.2.2.2.1 mFR.1 hfb ht k hk (cL (run tk c0 (R ++ A))).length N N 0 0 (by omega) (by omega) (by omega) (by omega)
      rw [Nat.sub_zero] at b2
      have b1' : f_X2_hangingOn N wx f (nI t) (nI k) = some v := b1
      simp (disch := omega) only [↓lm1, ↓lm2, eq_n1, eq_n2, n1_eq, n2_eq, n1_n2, n2_n1, n1_lt, n2_lt, n1_le, lt_n1, lt_n2, inb_t, cl_t, le_tt, le_tf, lt_tt, lt_tf, eq_tt, eq_tf, q_add, q_mul, li0, li1, li2, li3, li4, li5, li6, li7, li8, li12, li16, li24, li48, li500, gF_sA, gA_sF, gF_sF, gR_sA, gR_sF, gL_sA, gL_sF, gA_sA, shl_t, or_t, and_t, sbit_t, ubit_t, b01_0, b01_1, Option.bind_some, ↓reduceIte, eq_self, ne_eq, not_true_eq_false, Bool.false_eq_true, not_false_eq_true, true_and, and_true, false_and, and_false, if_pos, if_neg, h5, b1', answer_eq, unless_1, refused_0]
      rw [b2]
      exact op_ans0 h
  · rw [b01_f hT]
    simp (disch := omega) only [↓lm1, ↓lm2, eq_n1, eq_n2, n1_eq, n2_eq, n1_n2, n2_n1, n1_lt, n2_lt, n1_le, lt_n1, lt_n2, inb_t, cl_t, le_tt, le_tf, lt_tt, lt_tf, eq_tt, eq_tf, q_add, q_mul, li0, li1, li2, li3, li4, li5, li6, li7, li8, li12, li16, li24, li48, li500, gF_sA, gA_sF, gF_sF, gR_sA, gR_sF, gL_sA, gL_sF, gA_sA, shl_t, or_t, and_t, sbit_t, ubit_t, b01_0, b01_1, Option.bind_some, ↓reduceIte, eq_self, ne_eq, not_true_eq_false, Bool.false_eq_true, not_false_eq_true, true_and, and_true, false_and, and_false, if_pos, if_neg, refuse_eq, unless_0, refused_1]
    exact op_ans0 h
theorem apart_lock {N f n t u : Nat} {wx wm : Mem} {ld : Nat → Nat} {Q : Prs} (hG : GS wx (2 + f) n ld) (hQ : DS wx f n Q) (hR : RS wm 52 n ld) (hD : MD wm n Q) (ht : t < n) (hu : u < n) : ∀ r f1 f2 k, k + r = Q.length → r < f1 → r < f2 → ∃ v, (v = 0 ∨ v = 1) ∧ lp_X1_keptApart_2 (f_X1_keptApart_86 N wx f) N wx f (nI t) (nI u) f1 (nI k) = some (nI v) ∧ lp_X9_apart_35 (f_X9_apart_121 N wm) N wm (nI t) (nI u) f2 (nI k) = some (wm, nI v) := by
  have q8 := hQ.1
  have hn := hG.1
  have lt := (hG.2.1 t ht).1
  have lu := (hG.2.1 u hu).1
  have et := hR.2.2.2 t ht
  have eu := hR.2.2.2 u hu
  intro r
  induction r with
  | zero =>
    intro f1 f2 k hk h1 h2
    obtain ⟨g1, rfl⟩ : ∃ f, f1 = f + 1 := ⟨f1 - 1, by omega⟩
    obtain ⟨g2, rfl⟩ : ∃ f, f2 = f + 1 := ⟨f2 - 1, by omega⟩
    refine ⟨0, Or.inl rfl, ?_, ?_⟩
    · rw [lp_X1_keptApart_2]
      simp (disch := omega) only [↓lm1, ↓lm2, eq_n1, eq_n2, n1_eq, n2_eq, n1_n2, n2_n1, n1_lt, n2_lt, n1_le, lt_n1, lt_n2, inb_t, cl_t, le_tt, le_tf, lt_tt, lt_tf, eq_tt, eq_tf, q_add, q_mul, li0, li1, li2, li3, li4, li5, li6, li7, li8, li12, li16, li24, li48, li500, gF_sA, gA_sF, gF_sF, gR_sA, gR_sF, gL_sA, gL_sF, gA_sA, shl_t, or_t, and_t, sbit_t, ubit_t, b01_0, b01_1, Option.bind_some, ↓reduceIte, eq_self, ne_eq, not_true_eq_false, Bool.false_eq_true, not_false_eq_true, true_and, and_true, false_and, and_false, if_pos, if_neg, hQ.2.1]
      rfl
    · rw [lp_X9_apart_35]
      simp (disch := omega) only [↓lm1, ↓lm2, eq_n1, eq_n2, n1_eq, n2_eq, n1_n2, n2_n1, n1_lt, n2_lt, n1_le, lt_n1, lt_n2, inb_t, cl_t, le_tt, le_tf, lt_tt, lt_tf, eq_tt, eq_tf, q_add, q_mul, li0, li1, li2, li3, li4, li5, li6, li7, li8, li12, li16, li24, li48, li500, gF_sA, gA_sF, gF_sF, gR_sA, gR_sF, gL_sA, gL_sF, gA_sA, shl_t, or_t, and_t, sbit_t, ubit_t, b01_0, b01_1, Option.bind_some, ↓reduceIte, eq_self, ne_eq, not_true_eq_false, Bool.false_eq_true, not_false_eq_true, true_and, and_true, false_and, and_false, if_pos, if_neg, hD.2.1]
      rfl
  | succ r ih =>
    intro f1 f2 k hk h1 h2
    obtain ⟨g1, rfl⟩ : ∃ f, f1 = f + 1 := ⟨f1 - 1, by omega⟩
    obtain ⟨g2, rfl⟩ : ∃ f, f2 = f + 1 := ⟨f2 - 1, by omega⟩
    obtain ⟨⟨i, j⟩, hp⟩ := get_at Q (q := k) (by omega)
    obtain ⟨hi, hj, y3, y4⟩ := hQ.2.2 k i j hp
    obtain ⟨-, -, z3, z4⟩ := hD.2.2 k i j hp
    have li := (hG.2.1 i hi).1
    have lj := (hG.2.1 j hj).1
    have ei := hR.2.2.2 i hi
    have ej := hR.2.2.2 j hj
    have o1 := one_ok hG N ht hi
    have o2 := one_ok hG N hu hj
    have o3 := one_ok hG N ht hj
    have o4 := one_ok hG N hu hi
    rw [b01_i] at o1 o2 o3 o4
    obtain ⟨v, hv, b1, b2⟩ := ih g1 g2 (k + 1) (by omega) (by omega) (by omega)
    have second : ∃ v, (v = 0 ∨ v = 1) ∧ f_X1_keptApart_52_2 (fun (v3 : Int32) => lp_X1_keptApart_2 (f_X1_keptApart_86 N wx f) N wx f (nI t) (nI u) g1 v3) (f_X1_keptApart_86 N wx f) N wx f (nI t) (nI u) (nI k) (nI i) (nI j) = some (nI v) ∧ f_X9_apart_91_35 (fun (v3 : Int32) => lp_X9_apart_35 (f_X9_apart_121 N wm) N wm (nI t) (nI u) g2 v3) (f_X9_apart_121 N wm) N wm (nI t) (nI u) (nI k) (nI (ld i)) (nI (ld j)) = some (wm, nI v) := by
      by_cases p3 : ld t = ld j
      · rw [b01_t p3] at o3
        by_cases p4 : ld u = ld i
        · rw [b01_t p4] at o4
          refine ⟨1, Or.inr rfl, ?_, ?_⟩
          · rw [f_X1_keptApart_52_2]
            simp (disch := omega) only [↓lm1, ↓lm2, eq_n1, eq_n2, n1_eq, n2_eq, n1_n2, n2_n1, n1_lt, n2_lt, n1_le, lt_n1, lt_n2, inb_t, cl_t, le_tt, le_tf, lt_tt, lt_tf, eq_tt, eq_tf, q_add, q_mul, li0, li1, li2, li3, li4, li5, li6, li7, li8, li12, li16, li24, li48, li500, gF_sA, gA_sF, gF_sF, gR_sA, gR_sF, gL_sA, gL_sF, gA_sA, shl_t, or_t, and_t, sbit_t, ubit_t, b01_0, b01_1, Option.bind_some, ↓reduceIte, eq_self, ne_eq, not_true_eq_false, Bool.false_eq_true, not_false_eq_true, true_and, and_true, false_and, and_false, if_pos, if_neg, o3, o4]
          · rw [f_X9_apart_91_35]
            simp (disch := omega) only [↓lm1, ↓lm2, eq_n1, eq_n2, n1_eq, n2_eq, n1_n2, n2_n1, n1_lt, n2_lt, n1_le, lt_n1, lt_n2, inb_t, cl_t, le_tt, le_tf, lt_tt, lt_tf, eq_tt, eq_tf, q_add, q_mul, li0, li1, li2, li3, li4, li5, li6, li7, li8, li12, li16, li24, li48, li500, gF_sA, gA_sF, gF_sF, gR_sA, gR_sF, gL_sA, gL_sF, gA_sA, shl_t, or_t, and_t, sbit_t, ubit_t, b01_0, b01_1, Option.bind_some, ↓reduceIte, eq_self, ne_eq, not_true_eq_false, Bool.false_eq_true, not_false_eq_true, true_and, and_true, false_and, and_false, if_pos, if_neg, et, eu]
        · rw [b01_f p4] at o4
          refine ⟨v, hv, b1 ▸ ?_, b2 ▸ ?_⟩
          · rw [f_X1_keptApart_52_2]
            simp (disch := omega) only [↓lm1, ↓lm2, eq_n1, eq_n2, n1_eq, n2_eq, n1_n2, n2_n1, n1_lt, n2_lt, n1_le, lt_n1, lt_n2, inb_t, cl_t, le_tt, le_tf, lt_tt, lt_tf, eq_tt, eq_tf, q_add, q_mul, li0, li1, li2, li3, li4, li5, li6, li7, li8, li12, li16, li24, li48, li500, gF_sA, gA_sF, gF_sF, gR_sA, gR_sF, gL_sA, gL_sF, gA_sA, shl_t, or_t, and_t, sbit_t, ubit_t, b01_0, b01_1, Option.bind_some, ↓reduceIte, eq_self, ne_eq, not_true_eq_false, Bool.false_eq_true, not_false_eq_true, true_and, and_true, false_and, and_false, if_pos, if_neg, o3, o4]
          · rw [f_X9_apart_91_35]
            simp (disch := omega) only [↓lm1, ↓lm2, eq_n1, eq_n2, n1_eq, n2_eq, n1_n2, n2_n1, n1_lt, n2_lt, n1_le, lt_n1, lt_n2, inb_t, cl_t, le_tt, le_tf, lt_tt, lt_tf, eq_tt, eq_tf, q_add, q_mul, li0, li1, li2, li3, li4, li5, li6, li7, li8, li12, li16, li24, li48, li500, gF_sA, gA_sF, gF_sF, gR_sA, gR_sF, gL_sA, gL_sF, gA_sA, shl_t, or_t, and_t, sbit_t, ubit_t, b01_0, b01_1, Option.bind_some, ↓reduceIte, eq_self, ne_eq, not_true_eq_false, Bool.false_eq_true, not_false_eq_true, true_and, and_true, false_and, and_false, if_pos, if_neg, et, eu]
      · rw [b01_f p3] at o3
        refine ⟨v, hv, b1 ▸ ?_, b2 ▸ ?_⟩
        · rw [f_X1_keptApart_52_2]
          simp (disch := omega) only [↓lm1, ↓lm2, eq_n1, eq_n2, n1_eq, n2_eq, n1_n2, n2_n1, n1_lt, n2_lt, n1_le, lt_n1, lt_n2, inb_t, cl_t, le_tt, le_tf, lt_tt, lt_tf, eq_tt, eq_tf, q_add, q_mul, li0, li1, li2, li3, li4, li5, li6, li7, li8, li12, li16, li24, li48, li500, gF_sA, gA_sF, gF_sF, gR_sA, gR_sF, gL_sA, gL_sF, gA_sA, shl_t, or_t, and_t, sbit_t, ubit_t, b01_0, b01_1, Option.bind_some, ↓reduceIte, eq_self, ne_eq, not_true_eq_false, Bool.false_eq_true, not_false_eq_true, true_and, and_true, false_and, and_false, if_pos, if_neg, o3]
        · rw [f_X9_apart_91_35]
          by_cases p4 : ld u = ld i
          · simp (disch := omega) only [↓lm1, ↓lm2, eq_n1, eq_n2, n1_eq, n2_eq, n1_n2, n2_n1, n1_lt, n2_lt, n1_le, lt_n1, lt_n2, inb_t, cl_t, le_tt, le_tf, lt_tt, lt_tf, eq_tt, eq_tf, q_add, q_mul, li0, li1, li2, li3, li4, li5, li6, li7, li8, li12, li16, li24, li48, li500, gF_sA, gA_sF, gF_sF, gR_sA, gR_sF, gL_sA, gL_sF, gA_sA, shl_t, or_t, and_t, sbit_t, ubit_t, b01_0, b01_1, Option.bind_some, ↓reduceIte, eq_self, ne_eq, not_true_eq_false, Bool.false_eq_true, not_false_eq_true, true_and, and_true, false_and, and_false, if_pos, if_neg, et, eu]
          · simp (disch := omega) only [↓lm1, ↓lm2, eq_n1, eq_n2, n1_eq, n2_eq, n1_n2, n2_n1, n1_lt, n2_lt, n1_le, lt_n1, lt_n2, inb_t, cl_t, le_tt, le_tf, lt_tt, lt_tf, eq_tt, eq_tf, q_add, q_mul, li0, li1, li2, li3, li4, li5, li6, li7, li8, li12, li16, li24, li48, li500, gF_sA, gA_sF, gF_sF, gR_sA, gR_sF, gL_sA, gL_sF, gA_sA, shl_t, or_t, and_t, sbit_t, ubit_t, b01_0, b01_1, Option.bind_some, ↓reduceIte, eq_self, ne_eq, not_true_eq_false, Bool.false_eq_true, not_false_eq_true, true_and, and_true, false_and, and_false, if_pos, if_neg, et, eu]
    rw [lp_X1_keptApart_2, lp_X9_apart_35]
    by_cases p1 : ld t = ld i
    · rw [b01_t p1] at o1
      by_cases p2 : ld u = ld j
      · rw [b01_t p2] at o2
        refine ⟨1, Or.inr rfl, ?_, ?_⟩
        · simp (disch := omega) only [↓lm1, ↓lm2, eq_n1, eq_n2, n1_eq, n2_eq, n1_n2, n2_n1, n1_lt, n2_lt, n1_le, lt_n1, lt_n2, inb_t, cl_t, le_tt, le_tf, lt_tt, lt_tf, eq_tt, eq_tf, q_add, q_mul, li0, li1, li2, li3, li4, li5, li6, li7, li8, li12, li16, li24, li48, li500, gF_sA, gA_sF, gF_sF, gR_sA, gR_sF, gL_sA, gL_sF, gA_sA, shl_t, or_t, and_t, sbit_t, ubit_t, b01_0, b01_1, Option.bind_some, ↓reduceIte, eq_self, ne_eq, not_true_eq_false, Bool.false_eq_true, not_false_eq_true, true_and, and_true, false_and, and_false, if_pos, if_neg, hQ.2.1, y3, y4, o1, o2]
        · simp (disch := omega) only [↓lm1, ↓lm2, eq_n1, eq_n2, n1_eq, n2_eq, n1_n2, n2_n1, n1_lt, n2_lt, n1_le, lt_n1, lt_n2, inb_t, cl_t, le_tt, le_tf, lt_tt, lt_tf, eq_tt, eq_tf, q_add, q_mul, li0, li1, li2, li3, li4, li5, li6, li7, li8, li12, li16, li24, li48, li500, gF_sA, gA_sF, gF_sF, gR_sA, gR_sF, gL_sA, gL_sF, gA_sA, shl_t, or_t, and_t, sbit_t, ubit_t, b01_0, b01_1, Option.bind_some, ↓reduceIte, eq_self, ne_eq, not_true_eq_false, Bool.false_eq_true, not_false_eq_true, true_and, and_true, false_and, and_false, if_pos, if_neg, hD.2.1, z3, z4, ei, ej, et, eu]
      · rw [b01_f p2] at o2
        obtain ⟨v', hv', s1, s2⟩ := second
        refine ⟨v', hv', s1 ▸ ?_, s2 ▸ ?_⟩
        · simp (disch := omega) only [↓lm1, ↓lm2, eq_n1, eq_n2, n1_eq, n2_eq, n1_n2, n2_n1, n1_lt, n2_lt, n1_le, lt_n1, lt_n2, inb_t, cl_t, le_tt, le_tf, lt_tt, lt_tf, eq_tt, eq_tf, q_add, q_mul, li0, li1, li2, li3, li4, li5, li6, li7, li8, li12, li16, li24, li48, li500, gF_sA, gA_sF, gF_sF, gR_sA, gR_sF, gL_sA, gL_sF, gA_sA, shl_t, or_t, and_t, sbit_t, ubit_t, b01_0, b01_1, Option.bind_some, ↓reduceIte, eq_self, ne_eq, not_true_eq_false, Bool.false_eq_true, not_false_eq_true, true_and, and_true, false_and, and_false, if_pos, if_neg, hQ.2.1, y3, y4, o1, o2]
        · simp (disch := omega) only [↓lm1, ↓lm2, eq_n1, eq_n2, n1_eq, n2_eq, n1_n2, n2_n1, n1_lt, n2_lt, n1_le, lt_n1, lt_n2, inb_t, cl_t, le_tt, le_tf, lt_tt, lt_tf, eq_tt, eq_tf, q_add, q_mul, li0, li1, li2, li3, li4, li5, li6, li7, li8, li12, li16, li24, li48, li500, gF_sA, gA_sF, gF_sF, gR_sA, gR_sF, gL_sA, gL_sF, gA_sA, shl_t, or_t, and_t, sbit_t, ubit_t, b01_0, b01_1, Option.bind_some, ↓reduceIte, eq_self, ne_eq, not_true_eq_false, Bool.false_eq_true, not_false_eq_true, true_and, and_true, false_and, and_false, if_pos, if_neg, hD.2.1, z3, z4, ei, ej, et, eu]
    · rw [b01_f p1] at o1
      obtain ⟨v', hv', s1, s2⟩ := second
      refine ⟨v', hv', s1 ▸ ?_, s2 ▸ ?_⟩
      · simp (disch := omega) only [↓lm1, ↓lm2, eq_n1, eq_n2, n1_eq, n2_eq, n1_n2, n2_n1, n1_lt, n2_lt, n1_le, lt_n1, lt_n2, inb_t, cl_t, le_tt, le_tf, lt_tt, lt_tf, eq_tt, eq_tf, q_add, q_mul, li0, li1, li2, li3, li4, li5, li6, li7, li8, li12, li16, li24, li48, li500, gF_sA, gA_sF, gF_sF, gR_sA, gR_sF, gL_sA, gL_sF, gA_sA, shl_t, or_t, and_t, sbit_t, ubit_t, b01_0, b01_1, Option.bind_some, ↓reduceIte, eq_self, ne_eq, not_true_eq_false, Bool.false_eq_true, not_false_eq_true, true_and, and_true, false_and, and_false, if_pos, if_neg, hQ.2.1, y3, y4, o1]
      · simp (disch := omega) only [↓lm1, ↓lm2, eq_n1, eq_n2, n1_eq, n2_eq, n1_n2, n2_n1, n1_lt, n2_lt, n1_le, lt_n1, lt_n2, inb_t, cl_t, le_tt, le_tf, lt_tt, lt_tf, eq_tt, eq_tf, q_add, q_mul, li0, li1, li2, li3, li4, li5, li6, li7, li8, li12, li16, li24, li48, li500, gF_sA, gA_sF, gF_sF, gR_sA, gR_sF, gL_sA, gL_sF, gA_sA, shl_t, or_t, and_t, sbit_t, ubit_t, b01_0, b01_1, Option.bind_some, ↓reduceIte, eq_self, ne_eq, not_true_eq_false, Bool.false_eq_true, not_false_eq_true, true_and, and_true, false_and, and_false, if_pos, if_neg, hD.2.1, z3, z4, ei, ej, et, eu]
theorem op_apart {N f nf : Nat} {tk : Nat → Nat} {R A : List Row} {NL : List (List Nat)} {tp : List Nat} {wx wm : Mem} (hN : 276 < N) (h : RelC wx wm f nf tk R A NL tp) (x1 x2 : Int32) : Op (f_X8_apart N wx x1 x2) (f_X9_apart N wm x1 x2) := by
  have hCI := h.ci
  obtain ⟨⟨⟨hf, h5, h6⟩, ⟨⟨xT, xG, xF⟩, xS, xQ, xD⟩, xFN, xA, xNm, xTp, xCo⟩, hM, hPp, hfa⟩ := id h
  have hM0 := hM.km (mAns_km (cS (run tk c0 (R ++ A))).length wm (nI 0))
  obtain ⟨⟨⟨mT, mR, mN, mJ, mJR, mFR⟩, mS, mQ⟩, mFN, mRW, m8, m9, mNm, mTp⟩ := id hM0
  have hn : (cL (run tk c0 (R ++ A))).length ≤ 24 := xT.1
  have x10 : gF wx 7 10 f = nI (cL (run tk c0 (R ++ A))).length := xT.2.2.1
  have m27 : gF wm 9 27 0 = nI (cL (run tk c0 (R ++ A))).length := hM.1.1.1.2.2.1
  have iX := isTermX (N := N) (show (cL (run tk c0 (R ++ A))).length < 1000 by omega) hf h5 x10
  have iM := isTermM (N := N) (w := wm) (show (cL (run tk c0 (R ++ A))).length < 1000 by omega) m27
  rw [f_X8_apart, f_X9_apart, iX, iX, iM, iM]
  by_cases hT : isT (cL (run tk c0 (R ++ A))).length x1
  · by_cases hU : isT (cL (run tk c0 (R ++ A))).length x2
    · obtain ⟨t, ht, rfl⟩ := hT
      obtain ⟨u, hu, rfl⟩ := hU
      rw [b01_t (isT_nI ht), b01_t (isT_nI hu)]
      have q8 := xQ.1
      obtain ⟨v, hv, b1, b2⟩ := apart_lock (N := N) xG xQ mR mQ ht hu (cQ (run tk c0 (R ++ A))).length N N 0 (by omega) (by omega) (by omega)
      have b1' : f_X1_keptApart N wx f (nI t) (nI u) = some (nI v) := b1
      have hb : f_X8_bit N wx (nI v) = some (nI v) := by rcases hv with rfl | rfl <;> rfl
      simp (disch := omega) only [↓lm1, ↓lm2, eq_n1, eq_n2, n1_eq, n2_eq, n1_n2, n2_n1, n1_lt, n2_lt, n1_le, lt_n1, lt_n2, inb_t, cl_t, le_tt, le_tf, lt_tt, lt_tf, eq_tt, eq_tf, q_add, q_mul, li0, li1, li2, li3, li4, li5, li6, li7, li8, li12, li16, li24, li48, li500, gF_sA, gA_sF, gF_sF, gR_sA, gR_sF, gL_sA, gL_sF, gA_sA, shl_t, or_t, and_t, sbit_t, ubit_t, b01_0, b01_1, Option.bind_some, ↓reduceIte, eq_self, ne_eq, not_true_eq_false, Bool.false_eq_true, not_false_eq_true, true_and, and_true, false_and, and_false, if_pos, if_neg, h5, b1', hb, answer_eq, unless_1, refused_0]
      rw [b2]
      exact op_ans0 h
    · rw [b01_t hT, b01_f hU]
      simp (disch := omega) only [↓lm1, ↓lm2, eq_n1, eq_n2, n1_eq, n2_eq, n1_n2, n2_n1, n1_lt, n2_lt, n1_le, lt_n1, lt_n2, inb_t, cl_t, le_tt, le_tf, lt_tt, lt_tf, eq_tt, eq_tf, q_add, q_mul, li0, li1, li2, li3, li4, li5, li6, li7, li8, li12, li16, li24, li48, li500, gF_sA, gA_sF, gF_sF, gR_sA, gR_sF, gL_sA, gL_sF, gA_sA, shl_t, or_t, and_t, sbit_t, ubit_t, b01_0, b01_1, Option.bind_some, ↓reduceIte, eq_self, ne_eq, not_true_eq_false, Bool.false_eq_true, not_false_eq_true, true_and, and_true, false_and, and_false, if_pos, if_neg, refuse_eq, unless_0, refused_1]
      exact op_ans0 h
  · rw [b01_f hT]
    simp (disch := omega) only [↓lm1, ↓lm2, eq_n1, eq_n2, n1_eq, n2_eq, n1_n2, n2_n1, n1_lt, n2_lt, n1_le, lt_n1, lt_n2, inb_t, cl_t, le_tt, le_tf, lt_tt, lt_tf, eq_tt, eq_tf, q_add, q_mul, li0, li1, li2, li3, li4, li5, li6, li7, li8, li12, li16, li24, li48, li500, gF_sA, gA_sF, gF_sF, gR_sA, gR_sF, gL_sA, gL_sF, gA_sA, shl_t, or_t, and_t, sbit_t, ubit_t, b01_0, b01_1, Option.bind_some, ↓reduceIte, eq_self, ne_eq, not_true_eq_false, Bool.false_eq_true, not_false_eq_true, true_and, and_true, false_and, and_false, if_pos, if_neg, refuse_eq, unless_0, refused_1]
    exact op_ans0 h
theorem op_proves {N f nf : Nat} {tk : Nat → Nat} {R A : List Row} {NL : List (List Nat)} {tp : List Nat} {wx wm : Mem} (hN : 276 < N) (h : RelC wx wm f nf tk R A NL tp) (x1 x2 x3 : Int32) : Op (f_X8_proves N wx x1 x2 x3) (f_X9_proves N wm x1 x2 x3) := by
  have hCI := h.ci
  obtain ⟨⟨⟨hf, h5, h6⟩, ⟨⟨xT, xG, xF⟩, xS, xQ, xD⟩, xFN, xA, xNm, xTp, xCo⟩, hM, hPp, hfa⟩ := id h
  have hM0 := hM.km (mAns_km (cS (run tk c0 (R ++ A))).length wm (nI 0))
  obtain ⟨⟨⟨mT, mR, mN, mJ, mJR, mFR⟩, mS, mQ⟩, mFN, mRW, m8, m9, mNm, mTp⟩ := id hM0
  have hn : (cL (run tk c0 (R ++ A))).length ≤ 24 := xT.1
  have x10 : gF wx 7 10 f = nI (cL (run tk c0 (R ++ A))).length := xT.2.2.1
  have m27 : gF wm 9 27 0 = nI (cL (run tk c0 (R ++ A))).length := hM.1.1.1.2.2.1
  have iX := isTermX (N := N) (show (cL (run tk c0 (R ++ A))).length < 1000 by omega) hf h5 x10
  have iM := isTermM (N := N) (w := wm) (show (cL (run tk c0 (R ++ A))).length < 1000 by omega) m27
  have hs12 : (cSs tk R A).length ≤ 12 := hCI.2.2.1.1
  have hfl := full_lt (cSs tk R A).length
  have hfs : full (cSs tk R A).length < 4096 := Nat.lt_of_lt_of_le hfl (p2le (b := 12) hs12)
  have x9 : gF wx 1 9 f = nI (cSs tk R A).length := xS.2.1
  have m30 : gF wm 9 30 0 = nI (cSs tk R A).length := hM.1.2.1.2.1
  have aX := allX (N := N) (f := f) hs12 x9
  have aM := allM (N := N) hs12 m30
  have hin : f_X9_in N wm x1 (nI 0) (nI (full (cSs tk R A).length)) = some (nI (b01 (isT (full (cSs tk R A).length + 1) x1))) := by
    rcases isT_cases (full (cSs tk R A).length + 1) x1 (by omega) with ⟨b, hb, rfl⟩ | ⟨hx, hnt⟩ | ⟨k, hk1, hk2, rfl, hnt⟩
    · rw [b01_t (isT_nI hb), f_X9_in]
      simp (disch := omega) only [↓lm1, ↓lm2, eq_n1, eq_n2, n1_eq, n2_eq, n1_n2, n2_n1, n1_lt, n2_lt, n1_le, lt_n1, lt_n2, inb_t, cl_t, le_tt, le_tf, lt_tt, lt_tf, eq_tt, eq_tf, q_add, q_mul, li0, li1, li2, li3, li4, li5, li6, li7, li8, li12, li16, li24, li48, li500, gF_sA, gA_sF, gF_sF, gR_sA, gR_sF, gL_sA, gL_sF, gA_sA, shl_t, or_t, and_t, sbit_t, ubit_t, b01_0, b01_1, Option.bind_some, ↓reduceIte, eq_self, ne_eq, not_true_eq_false, Bool.false_eq_true, not_false_eq_true, true_and, and_true, false_and, and_false, if_pos, if_neg]
    · have hng : (x1 < nI 0) = True := eq_true hx
      rw [b01_f hnt, f_X9_in]
      simp (disch := omega) only [↓lm1, ↓lm2, eq_n1, eq_n2, n1_eq, n2_eq, n1_n2, n2_n1, n1_lt, n2_lt, n1_le, lt_n1, lt_n2, inb_t, cl_t, le_tt, le_tf, lt_tt, lt_tf, eq_tt, eq_tf, q_add, q_mul, li0, li1, li2, li3, li4, li5, li6, li7, li8, li12, li16, li24, li48, li500, gF_sA, gA_sF, gF_sF, gR_sA, gR_sF, gL_sA, gL_sF, gA_sA, shl_t, or_t, and_t, sbit_t, ubit_t, b01_0, b01_1, Option.bind_some, ↓reduceIte, eq_self, ne_eq, not_true_eq_false, Bool.false_eq_true, not_false_eq_true, true_and, and_true, false_and, and_false, if_pos, if_neg, hng]
    · rw [b01_f hnt, f_X9_in]
      simp (disch := omega) only [↓lm1, ↓lm2, eq_n1, eq_n2, n1_eq, n2_eq, n1_n2, n2_n1, n1_lt, n2_lt, n1_le, lt_n1, lt_n2, inb_t, cl_t, le_tt, le_tf, lt_tt, lt_tf, eq_tt, eq_tf, q_add, q_mul, li0, li1, li2, li3, li4, li5, li6, li7, li8, li12, li16, li24, li48, li500, gF_sA, gA_sF, gF_sF, gR_sA, gR_sF, gL_sA, gL_sF, gA_sA, shl_t, or_t, and_t, sbit_t, ubit_t, b01_0, b01_1, Option.bind_some, ↓reduceIte, eq_self, ne_eq, not_true_eq_false, Bool.false_eq_true, not_false_eq_true, true_and, and_true, false_and, and_false, if_pos, if_neg]
  rw [f_X8_proves, f_X9_proves, iX, iX, iM, iM]
  by_cases hT : isT (cL (run tk c0 (R ++ A))).length x2
  · by_cases hU : isT (cL (run tk c0 (R ++ A))).length x3
    · obtain ⟨t, ht, rfl⟩ := hT
      obtain ⟨u, hu, rfl⟩ := hU
      rw [b01_t (isT_nI ht), b01_t (isT_nI hu)]
      rcases isT_cases (full (cSs tk R A).length + 1) x1 (by omega) with ⟨b, hb, rfl⟩ | ⟨hx, hnt⟩ | ⟨k, hk1, hk2, rfl, hnt⟩
      · rw [b01_t (isT_nI hb)] at hin
        obtain ⟨v, a1, a2⟩ := h.1.isOneBy (b := b) hN (by omega) ht hu
        obtain ⟨v2, b1, b2⟩ := hM0.isOneBy (b := b) hN (by omega) ht hu
        by_cases z : By (cT tk R A) (cSs tk R A) b t u
        · rw [b01_t z] at a1 b1
          simp (disch := omega) only [↓lm1, ↓lm2, eq_n1, eq_n2, n1_eq, n2_eq, n1_n2, n2_n1, n1_lt, n2_lt, n1_le, lt_n1, lt_n2, inb_t, cl_t, le_tt, le_tf, lt_tt, lt_tf, eq_tt, eq_tf, q_add, q_mul, li0, li1, li2, li3, li4, li5, li6, li7, li8, li12, li16, li24, li48, li500, gF_sA, gA_sF, gF_sF, gR_sA, gR_sF, gL_sA, gL_sF, gA_sA, shl_t, or_t, and_t, sbit_t, ubit_t, b01_0, b01_1, Option.bind_some, ↓reduceIte, eq_self, ne_eq, not_true_eq_false, Bool.false_eq_true, not_false_eq_true, true_and, and_true, false_and, and_false, if_pos, if_neg, h5, aX, a1, bit_1, answer_eq, f_X9_proves_21_s1, f_X9_proves_50_s2, aM, hin, refused_0, b1]
          exact op_ans h a2 (b2.km (by omega) _) b2.ans.1 b2.ans.2 rfl
        · rw [b01_f z] at a1 b1
          simp (disch := omega) only [↓lm1, ↓lm2, eq_n1, eq_n2, n1_eq, n2_eq, n1_n2, n2_n1, n1_lt, n2_lt, n1_le, lt_n1, lt_n2, inb_t, cl_t, le_tt, le_tf, lt_tt, lt_tf, eq_tt, eq_tf, q_add, q_mul, li0, li1, li2, li3, li4, li5, li6, li7, li8, li12, li16, li24, li48, li500, gF_sA, gA_sF, gF_sF, gR_sA, gR_sF, gL_sA, gL_sF, gA_sA, shl_t, or_t, and_t, sbit_t, ubit_t, b01_0, b01_1, Option.bind_some, ↓reduceIte, eq_self, ne_eq, not_true_eq_false, Bool.false_eq_true, not_false_eq_true, true_and, and_true, false_and, and_false, if_pos, if_neg, h5, aX, a1, bit_0, answer_eq, f_X9_proves_21_s1, f_X9_proves_50_s2, aM, hin, refused_0, b1]
          exact op_ans h a2 (b2.km (by omega) _) b2.ans.1 b2.ans.2 rfl
      · have hng : (x1 < nI 0) = True := eq_true hx
        rw [b01_f hnt] at hin
        simp (disch := omega) only [↓lm1, ↓lm2, eq_n1, eq_n2, n1_eq, n2_eq, n1_n2, n2_n1, n1_lt, n2_lt, n1_le, lt_n1, lt_n2, inb_t, cl_t, le_tt, le_tf, lt_tt, lt_tf, eq_tt, eq_tf, q_add, q_mul, li0, li1, li2, li3, li4, li5, li6, li7, li8, li12, li16, li24, li48, li500, gF_sA, gA_sF, gF_sF, gR_sA, gR_sF, gL_sA, gL_sF, gA_sA, shl_t, or_t, and_t, sbit_t, ubit_t, b01_0, b01_1, Option.bind_some, ↓reduceIte, eq_self, ne_eq, not_true_eq_false, Bool.false_eq_true, not_false_eq_true, true_and, and_true, false_and, and_false, if_pos, if_neg, h5, aX, hng, refuse_eq, f_X9_proves_21_s1, f_X9_proves_50_s2, aM, hin, refused_2]
        exact op_ans0 h
      · rw [b01_f hnt] at hin
        simp (disch := omega) only [↓lm1, ↓lm2, eq_n1, eq_n2, n1_eq, n2_eq, n1_n2, n2_n1, n1_lt, n2_lt, n1_le, lt_n1, lt_n2, inb_t, cl_t, le_tt, le_tf, lt_tt, lt_tf, eq_tt, eq_tf, q_add, q_mul, li0, li1, li2, li3, li4, li5, li6, li7, li8, li12, li16, li24, li48, li500, gF_sA, gA_sF, gF_sF, gR_sA, gR_sF, gL_sA, gL_sF, gA_sA, shl_t, or_t, and_t, sbit_t, ubit_t, b01_0, b01_1, Option.bind_some, ↓reduceIte, eq_self, ne_eq, not_true_eq_false, Bool.false_eq_true, not_false_eq_true, true_and, and_true, false_and, and_false, if_pos, if_neg, h5, aX, refuse_eq, f_X9_proves_21_s1, f_X9_proves_50_s2, aM, hin, refused_2]
        exact op_ans0 h
    · rw [b01_t hT, b01_f hU]
      simp (disch := omega) only [↓lm1, ↓lm2, eq_n1, eq_n2, n1_eq, n2_eq, n1_n2, n2_n1, n1_lt, n2_lt, n1_le, lt_n1, lt_n2, inb_t, cl_t, le_tt, le_tf, lt_tt, lt_tf, eq_tt, eq_tf, q_add, q_mul, li0, li1, li2, li3, li4, li5, li6, li7, li8, li12, li16, li24, li48, li500, gF_sA, gA_sF, gF_sF, gR_sA, gR_sF, gL_sA, gL_sF, gA_sA, shl_t, or_t, and_t, sbit_t, ubit_t, b01_0, b01_1, Option.bind_some, ↓reduceIte, eq_self, ne_eq, not_true_eq_false, Bool.false_eq_true, not_false_eq_true, true_and, and_true, false_and, and_false, if_pos, if_neg, refuse_eq, f_X9_proves_21_s1, f_X9_proves_50_s2, refused_1]
      exact op_ans0 h
  · rw [b01_f hT]
    simp (disch := omega) only [↓lm1, ↓lm2, eq_n1, eq_n2, n1_eq, n2_eq, n1_n2, n2_n1, n1_lt, n2_lt, n1_le, lt_n1, lt_n2, inb_t, cl_t, le_tt, le_tf, lt_tt, lt_tf, eq_tt, eq_tf, q_add, q_mul, li0, li1, li2, li3, li4, li5, li6, li7, li8, li12, li16, li24, li48, li500, gF_sA, gA_sF, gF_sF, gR_sA, gR_sF, gL_sA, gL_sF, gA_sA, shl_t, or_t, and_t, sbit_t, ubit_t, b01_0, b01_1, Option.bind_some, ↓reduceIte, eq_self, ne_eq, not_true_eq_false, Bool.false_eq_true, not_false_eq_true, true_and, and_true, false_and, and_false, if_pos, if_neg, refuse_eq, f_X9_proves_21_s1, f_X9_proves_50_s2, refused_1]
    exact op_ans0 h
theorem op_sameOf {N f nf : Nat} {tk : Nat → Nat} {R A : List Row} {NL : List (List Nat)} {tp : List Nat} {wx wm : Mem} (hN : 276 < N) (h : RelC wx wm f nf tk R A NL tp) (x1 x2 : Int32) : Op (f_X8_sameOf N wx x1 x2) (f_X9_sameOf N wm x1 x2) := by
  have hCI := h.ci
  obtain ⟨⟨⟨hf, h5, h6⟩, ⟨⟨xT, xG, xF⟩, xS, xQ, xD⟩, xFN, xA, xNm, xTp, xCo⟩, hM, hPp, hfa⟩ := id h
  have hM0 := hM.km (mAns_km (cS (run tk c0 (R ++ A))).length wm (nI 0))
  obtain ⟨⟨⟨mT, mR, mN, mJ, mJR, mFR⟩, mS, mQ⟩, mFN, mRW, m8, m9, mNm, mTp⟩ := id hM0
  have hn : (cL (run tk c0 (R ++ A))).length ≤ 24 := xT.1
  have x10 : gF wx 7 10 f = nI (cL (run tk c0 (R ++ A))).length := xT.2.2.1
  have m27 : gF wm 9 27 0 = nI (cL (run tk c0 (R ++ A))).length := hM.1.1.1.2.2.1
  have iX := isTermX (N := N) (show (cL (run tk c0 (R ++ A))).length < 1000 by omega) hf h5 x10
  have iM := isTermM (N := N) (w := wm) (show (cL (run tk c0 (R ++ A))).length < 1000 by omega) m27
  have hs12 : (cSs tk R A).length ≤ 12 := hCI.2.2.1.1
  have hfl := full_lt (cSs tk R A).length
  have hfs : full (cSs tk R A).length < 4096 := Nat.lt_of_lt_of_le hfl (p2le (b := 12) hs12)
  have x9 : gF wx 1 9 f = nI (cSs tk R A).length := xS.2.1
  have m30 : gF (mAns wm (nI 0)) 9 30 0 = nI (cSs tk R A).length := mS.2.1
  have m30' : gF wm 9 30 0 = nI (cSs tk R A).length := hM.1.2.1.2.1
  have aX := allX (N := N) (f := f) hs12 x9
  have aM := allM (N := N) hs12 m30
  have hi1 := in_ok (N := N) (w := wm) (n := (cSs tk R A).length) (by omega) x1
  have hi2 := in_ok2 (N := N) (w := wm) (n := 2) (by omega) x2
  have hsx := isSameX (N := N) (show (cSs tk R A).length < 1000 by omega) hf h5 x9 x1
  rw [f_X8_sameOf, f_X9_sameOf, hsx]
  by_cases hT : isT (cSs tk R A).length x1
  · rw [b01_t hT] at hi1 ⊢
    obtain ⟨k, hk, rfl⟩ := hT
    obtain ⟨⟨i, j⟩, hp⟩ := get_at (cSs tk R A) hk
    obtain ⟨ki, kj, y3, y4⟩ := xS.2.2 k i j hp
    obtain ⟨-, -, z3, z4⟩ := mS.2.2 k i j hp
    by_cases hW : isT 3 x2
    · obtain ⟨q, hq, rfl⟩ := hW
      rw [b01_t (isT_nI hq)] at hi2
      have hq' : q = 0 ∨ q = 1 ∨ q = 2 := by omega
      rcases hq' with rfl | rfl | rfl
      · simp (disch := omega) only [↓lm1, ↓lm2, eq_n1, eq_n2, n1_eq, n2_eq, n1_n2, n2_n1, n1_lt, n2_lt, n1_le, lt_n1, lt_n2, inb_t, cl_t, le_tt, le_tf, lt_tt, lt_tf, eq_tt, eq_tf, q_add, q_mul, li0, li1, li2, li3, li4, li5, li6, li7, li8, li12, li16, li24, li48, li500, gF_sA, gA_sF, gF_sF, gR_sA, gR_sF, gL_sA, gL_sF, gA_sA, shl_t, or_t, and_t, sbit_t, ubit_t, b01_0, b01_1, Option.bind_some, ↓reduceIte, eq_self, ne_eq, not_true_eq_false, Bool.false_eq_true, not_false_eq_true, true_and, and_true, false_and, and_false, if_pos, if_neg, h5, hi1, hi2, m30', y3, answer_eq, f_X9_sameOf_29_s2, unless_1, refused_0, z3]
        exact op_ans0 h
      · simp (disch := omega) only [↓lm1, ↓lm2, eq_n1, eq_n2, n1_eq, n2_eq, n1_n2, n2_n1, n1_lt, n2_lt, n1_le, lt_n1, lt_n2, inb_t, cl_t, le_tt, le_tf, lt_tt, lt_tf, eq_tt, eq_tf, q_add, q_mul, li0, li1, li2, li3, li4, li5, li6, li7, li8, li12, li16, li24, li48, li500, gF_sA, gA_sF, gF_sF, gR_sA, gR_sF, gL_sA, gL_sF, gA_sA, shl_t, or_t, and_t, sbit_t, ubit_t, b01_0, b01_1, Option.bind_some, ↓reduceIte, eq_self, ne_eq, not_true_eq_false, Bool.false_eq_true, not_false_eq_true, true_and, and_true, false_and, and_false, if_pos, if_neg, h5, hi1, hi2, m30', y4, answer_eq, f_X9_sameOf_29_s2, unless_1, refused_0, z4]
        exact op_ans0 h
      · have hcl : clr (full (cSs tk R A).length) k < 2 ^ (cSs tk R A).length := clr_lt hfl
        have hcl2 : clr (full (cSs tk R A).length) k < 4096 := clr_lt (n := 12) hfs
        obtain ⟨v, a1, a2⟩ := h.1.isOneBy (b := clr (full (cSs tk R A).length) k) hN (by omega) ki kj
        obtain ⟨v2, b1, b2⟩ := hM0.isOneBy (b := clr (full (cSs tk R A).length) k) hN hcl ki kj
        by_cases z : By (cT tk R A) (cSs tk R A) (clr (full (cSs tk R A).length) k) i j
        · rw [b01_t z] at a1 b1
          simp (disch := omega) only [↓lm1, ↓lm2, eq_n1, eq_n2, n1_eq, n2_eq, n1_n2, n2_n1, n1_lt, n2_lt, n1_le, lt_n1, lt_n2, inb_t, cl_t, le_tt, le_tf, lt_tt, lt_tf, eq_tt, eq_tf, q_add, q_mul, li0, li1, li2, li3, li4, li5, li6, li7, li8, li12, li16, li24, li48, li500, gF_sA, gA_sF, gF_sF, gR_sA, gR_sF, gL_sA, gL_sF, gA_sA, shl_t, or_t, and_t, sbit_t, ubit_t, b01_0, b01_1, Option.bind_some, ↓reduceIte, eq_self, ne_eq, not_true_eq_false, Bool.false_eq_true, not_false_eq_true, true_and, and_true, false_and, and_false, if_pos, if_neg, h5, hi1, hi2, m30', y3, y4, aX, clr_t, a1, bit_1, answer_eq, f_X9_sameOf_29_s2, unless_1, refused_0, z3, z4, aM, b1]
          exact op_ans h a2 (b2.km (by omega) _) b2.ans.1 b2.ans.2 rfl
        · rw [b01_f z] at a1 b1
          simp (disch := omega) only [↓lm1, ↓lm2, eq_n1, eq_n2, n1_eq, n2_eq, n1_n2, n2_n1, n1_lt, n2_lt, n1_le, lt_n1, lt_n2, inb_t, cl_t, le_tt, le_tf, lt_tt, lt_tf, eq_tt, eq_tf, q_add, q_mul, li0, li1, li2, li3, li4, li5, li6, li7, li8, li12, li16, li24, li48, li500, gF_sA, gA_sF, gF_sF, gR_sA, gR_sF, gL_sA, gL_sF, gA_sA, shl_t, or_t, and_t, sbit_t, ubit_t, b01_0, b01_1, Option.bind_some, ↓reduceIte, eq_self, ne_eq, not_true_eq_false, Bool.false_eq_true, not_false_eq_true, true_and, and_true, false_and, and_false, if_pos, if_neg, h5, hi1, hi2, m30', y3, y4, aX, clr_t, a1, bit_0, answer_eq, f_X9_sameOf_29_s2, unless_1, refused_0, z3, z4, aM, b1]
          exact op_ans h a2 (b2.km (by omega) _) b2.ans.1 b2.ans.2 rfl
    · rw [b01_f hW] at hi2
      simp (disch := omega) only [↓lm1, ↓lm2, eq_n1, eq_n2, n1_eq, n2_eq, n1_n2, n2_n1, n1_lt, n2_lt, n1_le, lt_n1, lt_n2, inb_t, cl_t, le_tt, le_tf, lt_tt, lt_tf, eq_tt, eq_tf, q_add, q_mul, li0, li1, li2, li3, li4, li5, li6, li7, li8, li12, li16, li24, li48, li500, gF_sA, gA_sF, gF_sF, gR_sA, gR_sF, gL_sA, gL_sF, gA_sA, shl_t, or_t, and_t, sbit_t, ubit_t, b01_0, b01_1, Option.bind_some, ↓reduceIte, eq_self, ne_eq, not_true_eq_false, Bool.false_eq_true, not_false_eq_true, true_and, and_true, false_and, and_false, if_pos, if_neg, h5, hi1, hi2, m30', y3, y4, refuse_eq, f_X9_sameOf_29_s2, unless_0, refused_1, notT hW]
      exact op_ans0 h
  · rw [b01_f hT] at hi1 ⊢
    simp (disch := omega) only [↓lm1, ↓lm2, eq_n1, eq_n2, n1_eq, n2_eq, n1_n2, n2_n1, n1_lt, n2_lt, n1_le, lt_n1, lt_n2, inb_t, cl_t, le_tt, le_tf, lt_tt, lt_tf, eq_tt, eq_tf, q_add, q_mul, li0, li1, li2, li3, li4, li5, li6, li7, li8, li12, li16, li24, li48, li500, gF_sA, gA_sF, gF_sF, gR_sA, gR_sF, gL_sA, gL_sF, gA_sA, shl_t, or_t, and_t, sbit_t, ubit_t, b01_0, b01_1, Option.bind_some, ↓reduceIte, eq_self, ne_eq, not_true_eq_false, Bool.false_eq_true, not_false_eq_true, true_and, and_true, false_and, and_false, if_pos, if_neg, hi1, m30', refuse_eq, f_X9_sameOf_29_s2, unless_0, refused_1]
    exact op_ans0 h
