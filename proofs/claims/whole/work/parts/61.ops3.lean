/-! make, base, since, without, would -/
theorem op_make {N f nf : Nat} {tk : Nat → Nat} {R A : List Row} {NL : List (List Nat)} {tp : List Nat} {wx wm : Mem} (hN : 276 < N) (h : RelC wx wm f nf tk R A NL tp) (x1 x2 x3 x4 : Int32) : Op (f_X8_make N wx x1 x2 x3 x4) (f_X9_make N wm x1 x2 x3 x4) := by
  have hCI := h.ci
  obtain ⟨⟨⟨hf, h5, h6⟩, ⟨⟨xT, xG, xF⟩, xS, xQ, xD⟩, xFN, xA, xNm, xTp, xCo⟩, hM, hPp, hfa⟩ := id h
  have hM0 := hM.km (mAns_km (cS (run tk c0 (R ++ A))).length wm (nI 0))
  obtain ⟨⟨⟨mT, mR, mN, mJ, mJR, mFR⟩, mS, mQ⟩, mFN, mRW, m8, m9, mNm, mTp⟩ := id hM0
  have hn : (cL (run tk c0 (R ++ A))).length ≤ 24 := xT.1
  have x10 : gF wx 7 10 f = nI (cL (run tk c0 (R ++ A))).length := xT.2.2.1
  have m27 : gF wm 9 27 0 = nI (cL (run tk c0 (R ++ A))).length := hM.1.1.1.2.2.1
  have iX := isTermX (N := N) (show (cL (run tk c0 (R ++ A))).length < 1000 by omega) hf h5 x10
  have iM := isTermM (N := N) (w := wm) (show (cL (run tk c0 (R ++ A))).length < 1000 by omega) m27
  have a0 := xFN.2.1
  have b0 : gF wm 9 6 0 = nI nf := hM.2.1.2.1
  have hnf := xFN.1
  have hi1 := in_ok (N := N) (w := wm) (n := nf) (by omega) x1
  have x9 : gF wx 7 10 f = nI (cL (run tk c0 (R ++ A))).length := x10
  -- the refusals by 1 of both
  have no : Op (some (xAns wx (nI 1), n1)) (some (mAns wm (nI 1), n1)) := op_ans0 h
  rcases isT_cases nf x1 (by omega) with ⟨g, hg, rfl⟩ | ⟨hx, hnt⟩ | ⟨k, hk1, hk2, rfl, hnt⟩
  · rw [b01_t (isT_nI hg)] at hi1
    obtain ⟨ht3, hx31⟩ := xFN.2.2 g hg
    have hm41 : gA wm 41 0 g = nI (tk g) := (hM.2.1.2.2 g hg).2
    -- all parts are terms: the act
    have yes : ∀ ps : List Nat, ps.length = tk g → (∀ k, k < ps.length → ps.getD k 0 < (cL (run tk c0 (R ++ A))).length) → (∀ k, k < ps.length → ar3 x2 x3 x4 k = nI (ps.getD k 0)) → Op (f_X8_make_86 N wx (nI g) x2 x3 x4) (f_X9_make_78_s1 N wm (nI g) x2 x3 x4 (nI 1)) := by
      intro ps p1 p2 p3
      by_cases hs : (cL (run tk c0 (R ++ A))).length = 24
      · rw [hs] at x9
        have m27' : gF wm 9 27 0 = nI 24 := by rw [m27, hs]
        rw [f_X8_make_86, f_X9_make_78_s1]
        simp (disch := omega) only [↓lm1, ↓lm2, eq_n1, eq_n2, n1_eq, n2_eq, n1_n2, n2_n1, n1_lt, n2_lt, n1_le, lt_n1, lt_n2, inb_t, cl_t, le_tt, le_tf, lt_tt, lt_tf, eq_tt, eq_tf, q_add, q_mul, li0, li1, li2, li3, li4, li5, li6, li7, li8, li12, li16, li24, li48, li500, gF_sA, gA_sF, gF_sF, gR_sA, gR_sF, gL_sA, gL_sF, gA_sA, shl_t, or_t, and_t, sbit_t, ubit_t, b01_0, b01_1, Option.bind_some, ↓reduceIte, eq_self, ne_eq, not_true_eq_false, Bool.false_eq_true, not_false_eq_true, true_and, and_true, false_and, and_false, if_pos, if_neg, h5, x9, m27', refuse_eq, f_X9_make_104_s2, refused_3]
        exact op_ans0 h
      · have hr : okR tk nf (run tk c0 (R ++ A)) (.inl (g, ps)) := ⟨hg, p1, p2, by omega⟩
        have hXK : XK wx f tk (run tk (run tk c0 R) A) := by rw [← run_app]; exact h.1.2.1
        obtain ⟨w1, a1, a2, a3, a4⟩ := noteAct_ok (N := N) (.inl (g, ps)) hXK xA (acts_lt hCI hr)
        rw [← run_app] at a2
        have hFN1 : FN w1 f nf tk := ⟨xFN.1, (a4.1 _ _ _ (fun z => by omega)).trans xFN.2.1, fun q hq => by rw [a4.2.1 31 f (fun z => by omega)]; exact xFN.2.2 q hq⟩
        obtain ⟨w2, b1, b2, b3, b3', b4⟩ := comeTerm_ok (nm := nI 0) hN a2 hFN1 hCI hr p3
        have g5 : gR w1 8 5 0 = f := (a4.2.2.2 _ _ _).trans h5
        have g5' : gR w2 8 5 0 = f := (b4.2.2.2 _ _ _).trans g5
        have hNLn : NL.length ≤ (cL (run tk c0 (R ++ A))).length := by
          rw [hPp.2.2.1, run_app]; exact cL_mono tk _ _
        have hlen : (cL (stp tk (run tk c0 (R ++ A)) (.inl (g, ps)))).length = (cL (run tk c0 (R ++ A))).length + 1 := by
          show (cL (run tk c0 (R ++ A)) ++ [(g, ps)]).length = _
          rw [List.length_append]; rfl
        obtain ⟨v, d1, d2, d3, d4⟩ := act_done hN h hr (nI 0) (nI g) x2 x3 x4 ⟨rfl, rfl, by omega, p3⟩ a4 a3 b4 b2 (fun s hs' => by
          rw [hlen] at hs'
          by_cases e : s = (cL (run tk c0 (R ++ A))).length
          · subst e
            rw [b3, show NL.getD (cL (run tk c0 (R ++ A))).length [] = [] by rw [List.getD_eq_getElem?_getD, List.getElem?_eq_none (by omega)]; rfl]
            rfl
          · rw [b3' s e, a4.2.1 34 f (fun z => by omega)]; exact xNm s (by omega)) (settled_fr w2) (Or.inl (by rw [gF_sF, if_pos ⟨rfl, rfl, rfl⟩]))
        have e10 : gF w2 7 10 f = nI ((cL (run tk c0 (R ++ A))).length + 1) := by rw [← hlen]; exact b2.1.1.2.2.1
        have e27 : gF v 9 27 0 = nI ((cL (run tk c0 (R ++ A))).length + 1) := by
          have := d2.2.1.1.1.1.2.2.1
          rw [run_act] at this
          rw [← hlen]; exact this
        have a1' : f_X1_noteAct N wx f (nI 2) = some w1 := a1
        rw [f_X8_make_86, f_X9_make_78_s1]
        simp (disch := omega) only [↓lm1, ↓lm2, eq_n1, eq_n2, n1_eq, n2_eq, n1_n2, n2_n1, n1_lt, n2_lt, n1_le, lt_n1, lt_n2, inb_t, cl_t, le_tt, le_tf, lt_tt, lt_tf, eq_tt, eq_tf, q_add, q_mul, li0, li1, li2, li3, li4, li5, li6, li7, li8, li12, li16, li24, li48, li500, gF_sA, gA_sF, gF_sF, gR_sA, gR_sF, gL_sA, gL_sF, gA_sA, shl_t, or_t, and_t, sbit_t, ubit_t, b01_0, b01_1, Option.bind_some, ↓reduceIte, eq_self, ne_eq, not_true_eq_false, Bool.false_eq_true, not_false_eq_true, true_and, and_true, false_and, and_false, if_pos, if_neg, h5, x9, m27, a1', g5, b1, g5', e10, q_sub, Nat.add_sub_cancel, answer_eq, f_X9_make_104_s2, refused_0, d1, e27]
        exact Op.act d2 d3 d4
    have hn2 : tk g = 0 ∨ tk g = 1 ∨ tk g = 2 ∨ tk g = 3 := by omega
    have nom : f_X9_make_78_s1 N wm (nI g) x2 x3 x4 (nI 0) = some (mAns wm (nI 1), n1) := by
      rw [f_X9_make_78_s1]
      simp (disch := omega) only [↓lm1, ↓lm2, eq_n1, eq_n2, n1_eq, n2_eq, n1_n2, n2_n1, n1_lt, n2_lt, n1_le, lt_n1, lt_n2, inb_t, cl_t, le_tt, le_tf, lt_tt, lt_tf, eq_tt, eq_tf, q_add, q_mul, li0, li1, li2, li3, li4, li5, li6, li7, li8, li12, li16, li24, li48, li500, gF_sA, gA_sF, gF_sF, gR_sA, gR_sF, gL_sA, gL_sF, gA_sA, shl_t, or_t, and_t, sbit_t, ubit_t, b01_0, b01_1, Option.bind_some, ↓reduceIte, eq_self, ne_eq, not_true_eq_false, Bool.false_eq_true, not_false_eq_true, true_and, and_true, false_and, and_false, if_pos, if_neg, f_X9_make_104_s2, refused_1]
    have iX2 := iX x2
    have iX3 := iX x3
    have iX4 := iX x4
    have iM2 := iM x2
    have iM3 := iM x3
    have iM4 := iM x4
    rw [f_X8_make, f_X9_make]
    rcases hn2 with e | e | e | e
    · rw [e] at hx31 hm41
      have hy := yes [] (by rw [e]; rfl) (fun k hk => absurd hk (Nat.not_lt_zero k)) (fun k hk => absurd hk (Nat.not_lt_zero k))
      simp (disch := omega) only [↓lm1, ↓lm2, eq_n1, eq_n2, n1_eq, n2_eq, n1_n2, n2_n1, n1_lt, n2_lt, n1_le, lt_n1, lt_n2, inb_t, cl_t, le_tt, le_tf, lt_tt, lt_tf, eq_tt, eq_tf, q_add, q_mul, li0, li1, li2, li3, li4, li5, li6, li7, li8, li12, li16, li24, li48, li500, gF_sA, gA_sF, gF_sF, gR_sA, gR_sF, gL_sA, gL_sF, gA_sA, shl_t, or_t, and_t, sbit_t, ubit_t, b01_0, b01_1, Option.bind_some, ↓reduceIte, eq_self, ne_eq, not_true_eq_false, Bool.false_eq_true, not_false_eq_true, true_and, and_true, false_and, and_false, if_pos, if_neg, h5, a0, b0, hi1, hx31, hm41, f_X8_make_51, f_X9_make_54]
      exact hy
    · rw [e] at hx31 hm41
      by_cases hA2 : isT (cL (run tk c0 (R ++ A))).length x2
      · rw [b01_t hA2] at iX2 iM2
        obtain ⟨t, ht, rfl⟩ := hA2
        have hy := yes [t] (by rw [e]; rfl) (fun k hk => by
          have : k = 0 := by have : k < 1 := hk; omega
          subst this; exact ht) (fun k hk => by
          have : k = 0 := by have : k < 1 := hk; omega
          subst this; rfl)
        simp (disch := omega) only [↓lm1, ↓lm2, eq_n1, eq_n2, n1_eq, n2_eq, n1_n2, n2_n1, n1_lt, n2_lt, n1_le, lt_n1, lt_n2, inb_t, cl_t, le_tt, le_tf, lt_tt, lt_tf, eq_tt, eq_tf, q_add, q_mul, li0, li1, li2, li3, li4, li5, li6, li7, li8, li12, li16, li24, li48, li500, gF_sA, gA_sF, gF_sF, gR_sA, gR_sF, gL_sA, gL_sF, gA_sA, shl_t, or_t, and_t, sbit_t, ubit_t, b01_0, b01_1, Option.bind_some, ↓reduceIte, eq_self, ne_eq, not_true_eq_false, Bool.false_eq_true, not_false_eq_true, true_and, and_true, false_and, and_false, if_pos, if_neg, h5, a0, b0, hi1, hx31, hm41, iX2, iM2, f_X8_make_51, f_X9_make_54]
        exact hy
      · rw [b01_f hA2] at iX2 iM2
        simp (disch := omega) only [↓lm1, ↓lm2, eq_n1, eq_n2, n1_eq, n2_eq, n1_n2, n2_n1, n1_lt, n2_lt, n1_le, lt_n1, lt_n2, inb_t, cl_t, le_tt, le_tf, lt_tt, lt_tf, eq_tt, eq_tf, q_add, q_mul, li0, li1, li2, li3, li4, li5, li6, li7, li8, li12, li16, li24, li48, li500, gF_sA, gA_sF, gF_sF, gR_sA, gR_sF, gL_sA, gL_sF, gA_sA, shl_t, or_t, and_t, sbit_t, ubit_t, b01_0, b01_1, Option.bind_some, ↓reduceIte, eq_self, ne_eq, not_true_eq_false, Bool.false_eq_true, not_false_eq_true, true_and, and_true, false_and, and_false, if_pos, if_neg, h5, a0, b0, hi1, hx31, hm41, iX2, iM2, refuse_eq, nom]
        exact no
    · rw [e] at hx31 hm41
      by_cases hA2 : isT (cL (run tk c0 (R ++ A))).length x2
      · rw [b01_t hA2] at iX2 iM2
        by_cases hA3 : isT (cL (run tk c0 (R ++ A))).length x3
        · rw [b01_t hA3] at iX3 iM3
          obtain ⟨t, ht, rfl⟩ := hA2
          obtain ⟨u, hu, rfl⟩ := hA3
          have hy := yes [t, u] (by rw [e]; rfl) (fun k hk => by
            have : k = 0 ∨ k = 1 := by have : k < 2 := hk; omega
            rcases this with rfl | rfl
            · exact ht
            · exact hu) (fun k hk => by
            have : k = 0 ∨ k = 1 := by have : k < 2 := hk; omega
            rcases this with rfl | rfl <;> rfl)
          simp (disch := omega) only [↓lm1, ↓lm2, eq_n1, eq_n2, n1_eq, n2_eq, n1_n2, n2_n1, n1_lt, n2_lt, n1_le, lt_n1, lt_n2, inb_t, cl_t, le_tt, le_tf, lt_tt, lt_tf, eq_tt, eq_tf, q_add, q_mul, li0, li1, li2, li3, li4, li5, li6, li7, li8, li12, li16, li24, li48, li500, gF_sA, gA_sF, gF_sF, gR_sA, gR_sF, gL_sA, gL_sF, gA_sA, shl_t, or_t, and_t, sbit_t, ubit_t, b01_0, b01_1, Option.bind_some, ↓reduceIte, eq_self, ne_eq, not_true_eq_false, Bool.false_eq_true, not_false_eq_true, true_and, and_true, false_and, and_false, if_pos, if_neg, h5, a0, b0, hi1, hx31, hm41, iX2, iM2, iX3, iM3, f_X8_make_51, f_X9_make_54]
          exact hy
        · rw [b01_f hA3] at iX3 iM3
          simp (disch := omega) only [↓lm1, ↓lm2, eq_n1, eq_n2, n1_eq, n2_eq, n1_n2, n2_n1, n1_lt, n2_lt, n1_le, lt_n1, lt_n2, inb_t, cl_t, le_tt, le_tf, lt_tt, lt_tf, eq_tt, eq_tf, q_add, q_mul, li0, li1, li2, li3, li4, li5, li6, li7, li8, li12, li16, li24, li48, li500, gF_sA, gA_sF, gF_sF, gR_sA, gR_sF, gL_sA, gL_sF, gA_sA, shl_t, or_t, and_t, sbit_t, ubit_t, b01_0, b01_1, Option.bind_some, ↓reduceIte, eq_self, ne_eq, not_true_eq_false, Bool.false_eq_true, not_false_eq_true, true_and, and_true, false_and, and_false, if_pos, if_neg, h5, a0, b0, hi1, hx31, hm41, iX2, iM2, iX3, iM3, refuse_eq, nom, f_X8_make_51]
          exact no
      · rw [b01_f hA2] at iX2 iM2
        simp (disch := omega) only [↓lm1, ↓lm2, eq_n1, eq_n2, n1_eq, n2_eq, n1_n2, n2_n1, n1_lt, n2_lt, n1_le, lt_n1, lt_n2, inb_t, cl_t, le_tt, le_tf, lt_tt, lt_tf, eq_tt, eq_tf, q_add, q_mul, li0, li1, li2, li3, li4, li5, li6, li7, li8, li12, li16, li24, li48, li500, gF_sA, gA_sF, gF_sF, gR_sA, gR_sF, gL_sA, gL_sF, gA_sA, shl_t, or_t, and_t, sbit_t, ubit_t, b01_0, b01_1, Option.bind_some, ↓reduceIte, eq_self, ne_eq, not_true_eq_false, Bool.false_eq_true, not_false_eq_true, true_and, and_true, false_and, and_false, if_pos, if_neg, h5, a0, b0, hi1, hx31, hm41, iX2, iM2, refuse_eq, nom]
        exact no
    · rw [e] at hx31 hm41
      by_cases hA2 : isT (cL (run tk c0 (R ++ A))).length x2
      · rw [b01_t hA2] at iX2 iM2
        by_cases hA3 : isT (cL (run tk c0 (R ++ A))).length x3
        · rw [b01_t hA3] at iX3 iM3
          by_cases hA4 : isT (cL (run tk c0 (R ++ A))).length x4
          · rw [b01_t hA4] at iX4 iM4
            obtain ⟨t, ht, rfl⟩ := hA2
            obtain ⟨u, hu, rfl⟩ := hA3
            obtain ⟨v, hv, rfl⟩ := hA4
            have hy := yes [t, u, v] (by rw [e]; rfl) (fun k hk => by
              have : k = 0 ∨ k = 1 ∨ k = 2 := by have : k < 3 := hk; omega
              rcases this with rfl | rfl | rfl
              · exact ht
              · exact hu
              · exact hv) (fun k hk => by
              have : k = 0 ∨ k = 1 ∨ k = 2 := by have : k < 3 := hk; omega
              rcases this with rfl | rfl | rfl <;> rfl)
            simp (disch := omega) only [↓lm1, ↓lm2, eq_n1, eq_n2, n1_eq, n2_eq, n1_n2, n2_n1, n1_lt, n2_lt, n1_le, lt_n1, lt_n2, inb_t, cl_t, le_tt, le_tf, lt_tt, lt_tf, eq_tt, eq_tf, q_add, q_mul, li0, li1, li2, li3, li4, li5, li6, li7, li8, li12, li16, li24, li48, li500, gF_sA, gA_sF, gF_sF, gR_sA, gR_sF, gL_sA, gL_sF, gA_sA, shl_t, or_t, and_t, sbit_t, ubit_t, b01_0, b01_1, Option.bind_some, ↓reduceIte, eq_self, ne_eq, not_true_eq_false, Bool.false_eq_true, not_false_eq_true, true_and, and_true, false_and, and_false, if_pos, if_neg, h5, a0, b0, hi1, hx31, hm41, iX2, iM2, iX3, iM3, iX4, iM4, f_X8_make_51, f_X9_make_54]
            exact hy
          · rw [b01_f hA4] at iX4 iM4
            simp (disch := omega) only [↓lm1, ↓lm2, eq_n1, eq_n2, n1_eq, n2_eq, n1_n2, n2_n1, n1_lt, n2_lt, n1_le, lt_n1, lt_n2, inb_t, cl_t, le_tt, le_tf, lt_tt, lt_tf, eq_tt, eq_tf, q_add, q_mul, li0, li1, li2, li3, li4, li5, li6, li7, li8, li12, li16, li24, li48, li500, gF_sA, gA_sF, gF_sF, gR_sA, gR_sF, gL_sA, gL_sF, gA_sA, shl_t, or_t, and_t, sbit_t, ubit_t, b01_0, b01_1, Option.bind_some, ↓reduceIte, eq_self, ne_eq, not_true_eq_false, Bool.false_eq_true, not_false_eq_true, true_and, and_true, false_and, and_false, if_pos, if_neg, h5, a0, b0, hi1, hx31, hm41, iX2, iM2, iX3, iM3, iX4, iM4, refuse_eq, nom, f_X8_make_51, f_X9_make_54]
            exact no
        · rw [b01_f hA3] at iX3 iM3
          simp (disch := omega) only [↓lm1, ↓lm2, eq_n1, eq_n2, n1_eq, n2_eq, n1_n2, n2_n1, n1_lt, n2_lt, n1_le, lt_n1, lt_n2, inb_t, cl_t, le_tt, le_tf, lt_tt, lt_tf, eq_tt, eq_tf, q_add, q_mul, li0, li1, li2, li3, li4, li5, li6, li7, li8, li12, li16, li24, li48, li500, gF_sA, gA_sF, gF_sF, gR_sA, gR_sF, gL_sA, gL_sF, gA_sA, shl_t, or_t, and_t, sbit_t, ubit_t, b01_0, b01_1, Option.bind_some, ↓reduceIte, eq_self, ne_eq, not_true_eq_false, Bool.false_eq_true, not_false_eq_true, true_and, and_true, false_and, and_false, if_pos, if_neg, h5, a0, b0, hi1, hx31, hm41, iX2, iM2, iX3, iM3, refuse_eq, nom, f_X8_make_51]
          exact no
      · rw [b01_f hA2] at iX2 iM2
        simp (disch := omega) only [↓lm1, ↓lm2, eq_n1, eq_n2, n1_eq, n2_eq, n1_n2, n2_n1, n1_lt, n2_lt, n1_le, lt_n1, lt_n2, inb_t, cl_t, le_tt, le_tf, lt_tt, lt_tf, eq_tt, eq_tf, q_add, q_mul, li0, li1, li2, li3, li4, li5, li6, li7, li8, li12, li16, li24, li48, li500, gF_sA, gA_sF, gF_sF, gR_sA, gR_sF, gL_sA, gL_sF, gA_sA, shl_t, or_t, and_t, sbit_t, ubit_t, b01_0, b01_1, Option.bind_some, ↓reduceIte, eq_self, ne_eq, not_true_eq_false, Bool.false_eq_true, not_false_eq_true, true_and, and_true, false_and, and_false, if_pos, if_neg, h5, a0, b0, hi1, hx31, hm41, iX2, iM2, refuse_eq, nom]
        exact no
  · rw [b01_f hnt] at hi1
    have hng : (x1 < nI 0) = True := eq_true hx
    rw [f_X8_make, f_X9_make]
    simp (disch := omega) only [↓lm1, ↓lm2, eq_n1, eq_n2, n1_eq, n2_eq, n1_n2, n2_n1, n1_lt, n2_lt, n1_le, lt_n1, lt_n2, inb_t, cl_t, le_tt, le_tf, lt_tt, lt_tf, eq_tt, eq_tf, q_add, q_mul, li0, li1, li2, li3, li4, li5, li6, li7, li8, li12, li16, li24, li48, li500, gF_sA, gA_sF, gF_sF, gR_sA, gR_sF, gL_sA, gL_sF, gA_sA, shl_t, or_t, and_t, sbit_t, ubit_t, b01_0, b01_1, Option.bind_some, ↓reduceIte, eq_self, ne_eq, not_true_eq_false, Bool.false_eq_true, not_false_eq_true, true_and, and_true, false_and, and_false, if_pos, if_neg, h5, hi1, a0, b0, f_X9_make_78_s1, f_X9_make_104_s2, refused_1, refuse_eq, hng]
    exact no
  · rw [b01_f hnt] at hi1
    rw [f_X8_make, f_X9_make]
    simp (disch := omega) only [↓lm1, ↓lm2, eq_n1, eq_n2, n1_eq, n2_eq, n1_n2, n2_n1, n1_lt, n2_lt, n1_le, lt_n1, lt_n2, inb_t, cl_t, le_tt, le_tf, lt_tt, lt_tf, eq_tt, eq_tf, q_add, q_mul, li0, li1, li2, li3, li4, li5, li6, li7, li8, li12, li16, li24, li48, li500, gF_sA, gA_sF, gF_sF, gR_sA, gR_sF, gL_sA, gL_sF, gA_sA, shl_t, or_t, and_t, sbit_t, ubit_t, b01_0, b01_1, Option.bind_some, ↓reduceIte, eq_self, ne_eq, not_true_eq_false, Bool.false_eq_true, not_false_eq_true, true_and, and_true, false_and, and_false, if_pos, if_neg, h5, hi1, a0, b0, f_X9_make_78_s1, f_X9_make_104_s2, refused_1, refuse_eq]
    exact no
/-- BY all but one, of the two of that one -/
def ByK (T : Trm) (S : Prs) (k b : Nat) : Prop := ∃ i j, S[k]? = some (i, j) ∧ By T S b i j
theorem ByK_iff {T : Trm} {S : Prs} {k b i j : Nat} (h : S[k]? = some (i, j)) : ByK T S k b ↔ By T S b i j := by
  constructor
  · rintro ⟨x, y, h1, h2⟩
    rw [h] at h1
    obtain ⟨rfl, rfl⟩ := Prod.mk.inj (Option.some.inj h1)
    exact h2
  · intro h2; exact ⟨i, j, h, h2⟩
theorem op_base {N : Nat} {wx wm : Mem} (hN : 276 < N) (h : Rel wx wm) : Op (f_X8_base N wx) (f_X9_base N wm) := by
  have hT := h.thrown
  obtain ⟨f, nf, tk, R, A, NL, tp, hC, q1, q2⟩ := id hT
  have hs12 : (cSs tk R A).length ≤ 12 := hC.ci.2.2.1.1
  have hfl := full_lt (cSs tk R A).length
  have hfs : full (cSs tk R A).length < 4096 := Nat.lt_of_lt_of_le hfl (p2le (b := 12) hs12)
  have hp := pow_small (s := (cSs tk R A).length) (by omega)
  have hX := hC.1
  have hM := hC.2.1
  have keyX : ∀ k fuel s w, k ≤ (cSs tk R A).length → s < 4096 → k < fuel → KX wx w → ∃ w', lp_X8_base_18 (fun (w_4 : Mem) (u1_4 : Int32) => (f_X8_base_64 N w_4 u1_4)) N fuel w (nI s) (ixv k) = some (w', nI (prn (ByK (cT tk R A) (cSs tk R A)) k s)) ∧ KX wx w' ∧ (gF w' 8 7 0 = gF w 8 7 0 ∧ gF w' 8 9 0 = gF w 8 9 0) := by
    intro k
    induction k with
    | zero =>
      intro fuel s w hk hs hf hw
      obtain ⟨f', rfl⟩ : ∃ f, fuel = f + 1 := ⟨fuel - 1, by omega⟩
      refine ⟨w, ?_, hw, rfl, rfl⟩
      rw [lp_X8_base_18]
      simp (disch := omega) only [↓lm1, ↓lm2, eq_n1, eq_n2, n1_eq, n2_eq, n1_n2, n2_n1, n1_lt, n2_lt, n1_le, lt_n1, lt_n2, inb_t, cl_t, le_tt, le_tf, lt_tt, lt_tf, eq_tt, eq_tf, q_add, q_mul, li0, li1, li2, li3, li4, li5, li6, li7, li8, li12, li16, li24, li48, li500, gF_sA, gA_sF, gF_sF, gR_sA, gR_sF, gL_sA, gL_sF, gA_sA, shl_t, or_t, and_t, sbit_t, ubit_t, b01_0, b01_1, Option.bind_some, ↓reduceIte, eq_self, ne_eq, not_true_eq_false, Bool.false_eq_true, not_false_eq_true, true_and, and_true, false_and, and_false, if_pos, if_neg, ixv_0]
      rfl
    | succ k ih =>
      intro fuel s w hk hs hf hw
      obtain ⟨f', rfl⟩ : ∃ f, fuel = f + 1 := ⟨fuel - 1, by omega⟩
      have hw' := hX.kx hw
      have h5 := hw'.1.2.1
      have hf2 := hw'.1.1
      have hcl : clr s k < 4096 := clr_lt (n := 12) hs
      obtain ⟨⟨i, j⟩, hpk⟩ := get_at (cSs tk R A) (q := k) (by omega)
      obtain ⟨ki, kj, y3, y4⟩ := hw'.2.1.2.1.2.2 k i j hpk
      obtain ⟨w1, a1, a2⟩ := hw'.isOneBy (b := clr s k) hN (by omega) ki kj
      have a3 : gF w1 8 7 0 = gF w 8 7 0 ∧ gF w1 8 9 0 = gF w 8 9 0 := by
        have := closeBy_ok (N := N) (g := 0) hN (show clr s k < 2 ^ 31 by omega) hw'.2.1.1.1 hw'.2.1.2.1
        obtain ⟨w1', ld', e1, e2, e3, e4⟩ := this
        have ew : w1' = w1 := by
          have ho := one_ok (e2.toE hw'.2.1.1.1.2.1 e3) N ki kj
          rw [f_X8_isOneBy, h5, if_pos hf2, e1, Option.bind_some, ho, Option.bind_some, b01_i, if_pos (of_eq_true b01_01)] at a1
          exact (Prod.mk.inj (Option.some.inj a1)).1
        rw [← ew]
        exact ⟨e4.1 _ _ _ (fun z => by omega), e4.1 _ _ _ (fun z => by omega)⟩
      by_cases z : By (cT tk R A) (cSs tk R A) (clr s k) i j
      · obtain ⟨w', e1, e2, e3⟩ := ih f' (clr s k) w1 (by omega) hcl (by omega) (hw.tr a2)
        refine ⟨w', ?_, e2, e3.1.trans a3.1, e3.2.trans a3.2⟩
        rw [b01_t z] at a1
        rw [prn_t ((ByK_iff hpk).mpr z), ← e1, lp_X8_base_18, show ixv (k + 1) = nI k from rfl]
        simp (disch := omega) only [↓lm1, ↓lm2, eq_n1, eq_n2, n1_eq, n2_eq, n1_n2, n2_n1, n1_lt, n2_lt, n1_le, lt_n1, lt_n2, inb_t, cl_t, le_tt, le_tf, lt_tt, lt_tf, eq_tt, eq_tf, q_add, q_mul, li0, li1, li2, li3, li4, li5, li6, li7, li8, li12, li16, li24, li48, li500, gF_sA, gA_sF, gF_sF, gR_sA, gR_sF, gL_sA, gL_sF, gA_sA, shl_t, or_t, and_t, sbit_t, ubit_t, b01_0, b01_1, Option.bind_some, ↓reduceIte, eq_self, ne_eq, not_true_eq_false, Bool.false_eq_true, not_false_eq_true, true_and, and_true, false_and, and_false, if_pos, if_neg, h5, y3, y4, clr_t, a1, ixv_dec]
      · obtain ⟨w', e1, e2, e3⟩ := ih f' s w1 (by omega) hs (by omega) (hw.tr a2)
        refine ⟨w', ?_, e2, e3.1.trans a3.1, e3.2.trans a3.2⟩
        rw [b01_f z] at a1
        rw [prn_f (fun y => z ((ByK_iff hpk).mp y)), ← e1, lp_X8_base_18, show ixv (k + 1) = nI k from rfl]
        simp (disch := omega) only [↓lm1, ↓lm2, eq_n1, eq_n2, n1_eq, n2_eq, n1_n2, n2_n1, n1_lt, n2_lt, n1_le, lt_n1, lt_n2, inb_t, cl_t, le_tt, le_tf, lt_tt, lt_tf, eq_tt, eq_tf, q_add, q_mul, li0, li1, li2, li3, li4, li5, li6, li7, li8, li12, li16, li24, li48, li500, gF_sA, gA_sF, gF_sF, gR_sA, gR_sF, gL_sA, gL_sF, gA_sA, shl_t, or_t, and_t, sbit_t, ubit_t, b01_0, b01_1, Option.bind_some, ↓reduceIte, eq_self, ne_eq, not_true_eq_false, Bool.false_eq_true, not_false_eq_true, true_and, and_true, false_and, and_false, if_pos, if_neg, h5, y3, y4, clr_t, a1, ixv_dec]
  have keyM : ∀ k fuel s w, k ≤ (cSs tk R A).length → s < 2 ^ (cSs tk R A).length → k < fuel → FrK 59 (sF wm 9 0 0 (nI 0)) w → ∃ w', lp_X9_base_17 (fun (w_3 : Mem) (u1_3 : Int32) => (f_X9_base_65 N w_3 u1_3)) N fuel w (nI s) (ixv k) = some (w', nI (prn (ByK (cT tk R A) (cSs tk R A)) k s)) ∧ FrK 59 (sF wm 9 0 0 (nI 0)) w' := by
    intro k
    induction k with
    | zero =>
      intro fuel s w hk hs hf hw
      obtain ⟨f', rfl⟩ : ∃ f, fuel = f + 1 := ⟨fuel - 1, by omega⟩
      refine ⟨w, ?_, hw⟩
      rw [lp_X9_base_17]
      simp (disch := omega) only [↓lm1, ↓lm2, eq_n1, eq_n2, n1_eq, n2_eq, n1_n2, n2_n1, n1_lt, n2_lt, n1_le, lt_n1, lt_n2, inb_t, cl_t, le_tt, le_tf, lt_tt, lt_tf, eq_tt, eq_tf, q_add, q_mul, li0, li1, li2, li3, li4, li5, li6, li7, li8, li12, li16, li24, li48, li500, gF_sA, gA_sF, gF_sF, gR_sA, gR_sF, gL_sA, gL_sF, gA_sA, shl_t, or_t, and_t, sbit_t, ubit_t, b01_0, b01_1, Option.bind_some, ↓reduceIte, eq_self, ne_eq, not_true_eq_false, Bool.false_eq_true, not_false_eq_true, true_and, and_true, false_and, and_false, if_pos, if_neg, ixv_0]
      rfl
    | succ k ih =>
      intro fuel s w hk hs hf hw
      obtain ⟨f', rfl⟩ : ∃ f, fuel = f + 1 := ⟨fuel - 1, by omega⟩
      have hw' := hM.km (hw.km (by omega) _)
      have hcl : clr s k < 2 ^ (cSs tk R A).length := clr_lt hs
      obtain ⟨⟨i, j⟩, hpk⟩ := get_at (cSs tk R A) (q := k) (by omega)
      obtain ⟨ki, kj, y3, y4⟩ := hw'.1.2.1.2.2 k i j hpk
      obtain ⟨w1, a1, a2⟩ := hw'.isOneBy (b := clr s k) hN hcl ki kj
      by_cases z : By (cT tk R A) (cSs tk R A) (clr s k) i j
      · obtain ⟨w', e1, e2⟩ := ih f' (clr s k) w1 (by omega) hcl (by omega) (hw.tr a2)
        refine ⟨w', ?_, e2⟩
        rw [b01_t z] at a1
        rw [prn_t ((ByK_iff hpk).mpr z), ← e1, lp_X9_base_17, show ixv (k + 1) = nI k from rfl]
        simp (disch := omega) only [↓lm1, ↓lm2, eq_n1, eq_n2, n1_eq, n2_eq, n1_n2, n2_n1, n1_lt, n2_lt, n1_le, lt_n1, lt_n2, inb_t, cl_t, le_tt, le_tf, lt_tt, lt_tf, eq_tt, eq_tf, q_add, q_mul, li0, li1, li2, li3, li4, li5, li6, li7, li8, li12, li16, li24, li48, li500, gF_sA, gA_sF, gF_sF, gR_sA, gR_sF, gL_sA, gL_sF, gA_sA, shl_t, or_t, and_t, sbit_t, ubit_t, b01_0, b01_1, Option.bind_some, ↓reduceIte, eq_self, ne_eq, not_true_eq_false, Bool.false_eq_true, not_false_eq_true, true_and, and_true, false_and, and_false, if_pos, if_neg, y3, y4, clr_t, a1, ixv_dec]
      · obtain ⟨w', e1, e2⟩ := ih f' s w1 (by omega) hs (by omega) (hw.tr a2)
        refine ⟨w', ?_, e2⟩
        rw [b01_f z] at a1
        rw [prn_f (fun y => z ((ByK_iff hpk).mp y)), ← e1, lp_X9_base_17, show ixv (k + 1) = nI k from rfl]
        simp (disch := omega) only [↓lm1, ↓lm2, eq_n1, eq_n2, n1_eq, n2_eq, n1_n2, n2_n1, n1_lt, n2_lt, n1_le, lt_n1, lt_n2, inb_t, cl_t, le_tt, le_tf, lt_tt, lt_tf, eq_tt, eq_tf, q_add, q_mul, li0, li1, li2, li3, li4, li5, li6, li7, li8, li12, li16, li24, li48, li500, gF_sA, gA_sF, gF_sF, gR_sA, gR_sF, gL_sA, gL_sF, gA_sA, shl_t, or_t, and_t, sbit_t, ubit_t, b01_0, b01_1, Option.bind_some, ↓reduceIte, eq_self, ne_eq, not_true_eq_false, Bool.false_eq_true, not_false_eq_true, true_and, and_true, false_and, and_false, if_pos, if_neg, y3, y4, clr_t, a1, ixv_dec]
  obtain ⟨v, a1, a2, a3, a4⟩ := keyX (cSs tk R A).length N (full (cSs tk R A).length) wx (Nat.le_refl _) hfs (by omega) KX.rf
  obtain ⟨u, b1, b2⟩ := keyM (cSs tk R A).length N (full (cSs tk R A).length) (sF wm 9 0 0 (nI 0)) (Nat.le_refl _) hfl (by omega) Fr.rf
  have h5 := hX.1.2.1
  have hf := hX.1.1
  have x9 : gF wx 1 9 f = nI (cSs tk R A).length := hX.2.1.2.1.2.1
  have m30 : gF (sF wm 9 0 0 (nI 0)) 9 30 0 = nI (cSs tk R A).length := hM.1.2.1.2.1
  refine ⟨v, u, nI (prn (ByK (cT tk R A) (cSs tk R A)) (cSs tk R A).length (full (cSs tk R A).length)), ?_, ?_, f, nf, tk, R, A, NL, tp, ⟨hX.kx a2, hM.km (b2.km (by omega) _), hC.2.2.1, by rw [a2.1 8 8 0 (by omega), b2.F]; exact hC.2.2.2⟩, by rw [a3, b2.F]; exact q1, by rw [a4, b2.F, b2.F]; exact q2⟩
  · rw [f_X8_base]
    simp (disch := omega) only [↓lm1, ↓lm2, eq_n1, eq_n2, n1_eq, n2_eq, n1_n2, n2_n1, n1_lt, n2_lt, n1_le, lt_n1, lt_n2, inb_t, cl_t, le_tt, le_tf, lt_tt, lt_tf, eq_tt, eq_tf, q_add, q_mul, li0, li1, li2, li3, li4, li5, li6, li7, li8, li12, li16, li24, li48, li500, gF_sA, gA_sF, gF_sF, gR_sA, gR_sF, gL_sA, gL_sF, gA_sA, shl_t, or_t, and_t, sbit_t, ubit_t, b01_0, b01_1, Option.bind_some, ↓reduceIte, eq_self, ne_eq, not_true_eq_false, Bool.false_eq_true, not_false_eq_true, true_and, and_true, false_and, and_false, if_pos, if_neg, h5, allX hs12 x9, x9, ixv_sub]
    exact a1
  · rw [f_X9_base, show (0 : Int32) = nI 0 from rfl, m30, allM hs12 m30, Option.bind_some, show (1 : Int32) = nI 1 from rfl, ixv_sub]
    exact b1
