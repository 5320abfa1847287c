/-! calls that look: about, function, term, partOf, diffOf, joinOf, height, hung, equal, apart, fault, where, size, trouble -/
theorem isT_cases (n : Nat) (x : Int32) (hn : n < 2147483648) : (∃ t, t < n ∧ x = nI t) ∨ (x < 0 ∧ ¬ isT n x) ∨ ∃ k, n ≤ k ∧ k < 2147483648 ∧ x = nI k ∧ ¬ isT n x := by
  rcases i_cases x with h | ⟨k, hk, rfl⟩
  · exact Or.inr (Or.inl ⟨h, fun ⟨t, ht, e⟩ => by rw [e] at h; exact nI_nn (by omega) h⟩)
  · by_cases z : k < n
    · exact Or.inl ⟨k, z, rfl⟩
    · exact Or.inr (Or.inr ⟨k, by omega, hk, rfl, fun ⟨t, ht, e⟩ => z (by have := (nI_inj_iff (by omega) (by omega)).mp e; omega)⟩)
theorem notT {n : Nat} {x : Int32} (h : ¬ isT n x) : ∀ q, q < n → (x = nI q) = False := fun q hq => eq_false (fun e => h ⟨q, hq, e⟩)
theorem unless_0 (N : Nat) (w : Mem) : f_X9_unless N w (nI 0) = some (nI 1) := rfl
theorem unless_1 (N : Nat) (w : Mem) : f_X9_unless N w (nI 1) = some (nI 0) := rfl
theorem refused_1 (N : Nat) (w : Mem) : f_X9_isRefused N w (nI 1) = some (mAns w (nI 1), nI 1) := refused_n N w (by omega) (by omega)
theorem refused_2 (N : Nat) (w : Mem) : f_X9_isRefused N w (nI 2) = some (mAns w (nI 2), nI 1) := refused_n N w (by omega) (by omega)
theorem refused_3 (N : Nat) (w : Mem) : f_X9_isRefused N w (nI 3) = some (mAns w (nI 3), nI 1) := refused_n N w (by omega) (by omega)
theorem refused_5 (N : Nat) (w : Mem) : f_X9_isRefused N w (nI 5) = some (mAns w (nI 5), nI 1) := refused_n N w (by omega) (by omega)
theorem bit_0 (N : Nat) (w : Mem) : f_X8_bit N w (nI 0) = some (nI 0) := rfl
theorem bit_1 (N : Nat) (w : Mem) : f_X8_bit N w (nI 1) = some (nI 1) := rfl
theorem bit_p (N : Nat) (w : Mem) (P : Prop) : f_X8_bit N w (nI (b01 P)) = some (nI (b01 P)) := by
  by_cases h : P
  · rw [b01_t h]; rfl
  · rw [b01_f h]; rfl
theorem dpt_stab {L : Tl} : ∀ d m i, m + d = L.length → i < m → dpt L i = dpt (L.take m) i := by
  intro d
  induction d with
  | zero => intro m i hm hi; rw [List.take_of_length_le (by omega)]
  | succ d ih =>
    intro m i hm hi
    obtain ⟨x, hx⟩ := get_at L (q := m) (by omega)
    rw [ih (m + 1) i (by omega) (by omega), take_snoc hx, dpt_snoc, List.length_take, if_neg (by omega)]
theorem dpt_rec {L : Tl} (hL : ∀ i, i < L.length → ∀ k, k < (tlP L i).length → (tlP L i).getD k 0 < i) {i : Nat} (hi : i < L.length) : dpt L i = dmx (fun k => dpt L ((tlP L i).getD k 0)) (tlP L i).length := by
  obtain ⟨x, hx⟩ := get_at L hi
  have hp : tlP L i = x.2 := by unfold tlP; rw [hx]; rfl
  rw [dpt_stab (L.length - (i + 1)) (i + 1) i (by omega) (by omega), take_snoc hx, dpt_snoc, List.length_take, if_pos (by omega), hp]
  refine dmx_cong _ (fun k hk => ?_)
  have := hL i hi k (by rw [hp]; exact hk)
  rw [hp] at this
  exact (dpt_stab (L.length - i) i _ (by omega) this).symm
theorem CI.drec {tk : Nat → Nat} {nf : Nat} {c : Core} (h : CI tk nf c) : ∀ i, i < (cL c).length → dpt (cL c) i = dmx (fun k => dpt (cL c) ((tlP (cL c) i).getD k 0)) (tlP (cL c) i).length := fun i hi => by
  refine dpt_rec (fun j hj k hk => ?_) hi
  have h5 := (h.2.2.2.2.1 j hj).2
  exact h.1.1 j hj k (by rw [tA_mk, tF_mk, ← h5]; exact hk)
/-- reading calls of the class -/
def Op1 (wx : Mem) (ox : Option Int32) (om : Option (Mem × Int32)) : Prop := ∃ wm r, ox = some r ∧ om = some (wm, r) ∧ Rel wx wm
theorem thrown_km (s : Nat) (w : Mem) : KM s w (sF w 9 0 0 (nI 0)) := ⟨fun k j i z => by rw [gF_sF, if_neg (by omega)], fun _ _ _ => rfl, fun _ _ => ⟨rfl, rfl⟩⟩
theorem Rel.thrown {wx wm : Mem} (h : Rel wx wm) : Rel wx (sF wm 9 0 0 (nI 0)) := by
  obtain ⟨f, nf, tk, R, A, NL, tp, hC, h1, h2⟩ := h
  refine ⟨f, nf, tk, R, A, NL, tp, ⟨hC.1, hC.2.1.km (thrown_km _ _), hC.2.2.1, ?_⟩, ?_, ?_⟩
  · rw [gF_sF, if_neg (by omega)]; exact hC.2.2.2
  · rw [gF_sF, if_neg (by omega)]; exact h1
  · have e1 : gF (sF wm 9 0 0 (nI 0)) 9 1 0 = gF wm 9 1 0 := by rw [gF_sF, if_neg (by omega)]
    have e3 : gF (sF wm 9 0 0 (nI 0)) 9 3 0 = gF wm 9 3 0 := by rw [gF_sF, if_neg (by omega)]
    rw [e1, e3]; exact h2
theorem op_fault {N : Nat} {wx wm : Mem} (h : Rel wx wm) : Op1 wx (f_X8_fault N wx) (f_X9_fault N wm) := by
  refine ⟨_, _, rfl, ?_, h.thrown⟩
  obtain ⟨f, nf, tk, R, A, NL, tp, hC, h1, h2⟩ := h
  rw [f_X9_fault, hC.2.2.2]
  rfl
theorem op_trouble {N : Nat} {wx wm : Mem} (h : Rel wx wm) : Op1 wx (f_X8_trouble N wx) (f_X9_trouble N wm) := by
  refine ⟨_, _, rfl, ?_, h.thrown⟩
  obtain ⟨f, nf, tk, R, A, NL, tp, hC, h1, h2⟩ := h
  rw [f_X9_trouble, h1]
  rfl
theorem op_size {N : Nat} {wx wm : Mem} (h : Rel wx wm) : Op1 wx (f_X8_size N wx) (f_X9_size N wm) := by
  refine ⟨_, _, rfl, ?_, h.thrown⟩
  obtain ⟨f, nf, tk, R, A, NL, tp, hC, h1, h2⟩ := h
  have a := hC.1.2.2.2.2.2.1.1
  have b := hC.2.1.2.2.2.2.2.2.1
  rw [f_X9_size, a, ← b]
  rfl
theorem op_where {N : Nat} {wx wm : Mem} (h : Rel wx wm) : Op1 wx (f_X8_where N wx) (f_X9_where N wm) := by
  refine ⟨_, _, rfl, ?_, h.thrown⟩
  obtain ⟨f, nf, tk, R, A, NL, tp, hC, h1, h2⟩ := h
  rw [f_X9_where, h2]
  by_cases z : gF wm 9 1 0 = nI 4
  · rw [if_pos z, if_pos (show gF (sF wm 9 0 0 0) 9 1 0 = (4 : Int32) from z)]
    rfl
  · rw [if_neg z, if_neg (show ¬ gF (sF wm 9 0 0 0) 9 1 0 = (4 : Int32) from z)]
    rfl
theorem op_equal {N f nf : Nat} {tk : Nat → Nat} {R A : List Row} {NL : List (List Nat)} {tp : List Nat} {wx wm : Mem} (h : RelC wx wm f nf tk R A NL tp) (x1 x2 : Int32) : Op (f_X8_equal N wx x1 x2) (f_X9_equal N wm x1 x2) := by
  have hCI := h.ci
  obtain ⟨⟨⟨hf, h5, h6⟩, ⟨⟨xT, xG, xF⟩, xS, xQ, xD⟩, xFN, xA, xNm, xTp, xCo⟩, hM, hPp, hfa⟩ := id h
  have hM0 := hM.km (mAns_km (cS (run tk c0 (R ++ A))).length wm (nI 0))
  obtain ⟨⟨⟨mT, mR, mN, mJ, mJR, mFR⟩, mS, mQ⟩, mFN, mRW, m8, m9, mNm, mTp⟩ := id hM0
  have hn : (cL (run tk c0 (R ++ A))).length ≤ 24 := xT.1
  have x10 : gF wx 7 10 f = nI (cL (run tk c0 (R ++ A))).length := xT.2.2.1
  have m27 : gF wm 9 27 0 = nI (cL (run tk c0 (R ++ A))).length := hM.1.1.1.2.2.1
  have iX := isTermX (N := N) (show (cL (run tk c0 (R ++ A))).length < 1000 by omega) hf h5 x10
  have iM := isTermM (N := N) (w := wm) (show (cL (run tk c0 (R ++ A))).length < 1000 by omega) m27
  rw [f_X8_equal, f_X9_equal, iX, iX, iM, iM]
  by_cases hT : isT (cL (run tk c0 (R ++ A))).length x1
  · by_cases hU : isT (cL (run tk c0 (R ++ A))).length x2
    · obtain ⟨t, ht, rfl⟩ := hT
      obtain ⟨u, hu, rfl⟩ := hU
      rw [b01_t (isT_nI ht), b01_t (isT_nI hu)]
      have c1 := (mR.2.1 t ht).1
      have c2 := (mR.2.1 u hu).1
      have e1 := mR.2.2.2 t ht
      have e2 := mR.2.2.2 u hu
      have ho := one_ok xG N (i := t) (j := u) ht hu
      rw [b01_i] at ho
      by_cases z : ldJ (cJ (run tk c0 (R ++ A))) t = ldJ (cJ (run tk c0 (R ++ A))) u
      · rw [b01_t z] at ho
        simp (disch := omega) only [↓lm1, ↓lm2, eq_n1, eq_n2, n1_eq, n2_eq, n1_n2, n2_n1, n1_lt, n2_lt, n1_le, lt_n1, lt_n2, inb_t, cl_t, le_tt, le_tf, lt_tt, lt_tf, eq_tt, eq_tf, q_add, q_mul, li0, li1, li2, li3, li4, li5, li6, li7, li8, li12, li16, li24, li48, li500, gF_sA, gA_sF, gF_sF, gR_sA, gR_sF, gL_sA, gL_sF, gA_sA, shl_t, or_t, and_t, sbit_t, ubit_t, b01_0, b01_1, Option.bind_some, ↓reduceIte, eq_self, ne_eq, not_true_eq_false, Bool.false_eq_true, not_false_eq_true, true_and, and_true, false_and, and_false, if_pos, if_neg, h5, ho, bit_1, answer_eq, f_X9_equal_22_s2, unless_1, refused_0, e1, e2]
        exact op_ans0 h
      · rw [b01_f z] at ho
        simp (disch := omega) only [↓lm1, ↓lm2, eq_n1, eq_n2, n1_eq, n2_eq, n1_n2, n2_n1, n1_lt, n2_lt, n1_le, lt_n1, lt_n2, inb_t, cl_t, le_tt, le_tf, lt_tt, lt_tf, eq_tt, eq_tf, q_add, q_mul, li0, li1, li2, li3, li4, li5, li6, li7, li8, li12, li16, li24, li48, li500, gF_sA, gA_sF, gF_sF, gR_sA, gR_sF, gL_sA, gL_sF, gA_sA, shl_t, or_t, and_t, sbit_t, ubit_t, b01_0, b01_1, Option.bind_some, ↓reduceIte, eq_self, ne_eq, not_true_eq_false, Bool.false_eq_true, not_false_eq_true, true_and, and_true, false_and, and_false, if_pos, if_neg, h5, ho, bit_0, answer_eq, f_X9_equal_22_s2, unless_1, refused_0, e1, e2]
        exact op_ans0 h
    · rw [b01_t hT, b01_f hU]
      simp (disch := omega) only [↓lm1, ↓lm2, eq_n1, eq_n2, n1_eq, n2_eq, n1_n2, n2_n1, n1_lt, n2_lt, n1_le, lt_n1, lt_n2, inb_t, cl_t, le_tt, le_tf, lt_tt, lt_tf, eq_tt, eq_tf, q_add, q_mul, li0, li1, li2, li3, li4, li5, li6, li7, li8, li12, li16, li24, li48, li500, gF_sA, gA_sF, gF_sF, gR_sA, gR_sF, gL_sA, gL_sF, gA_sA, shl_t, or_t, and_t, sbit_t, ubit_t, b01_0, b01_1, Option.bind_some, ↓reduceIte, eq_self, ne_eq, not_true_eq_false, Bool.false_eq_true, not_false_eq_true, true_and, and_true, false_and, and_false, if_pos, if_neg, refuse_eq, f_X9_equal_22_s2, unless_0, refused_1]
      exact op_ans0 h
  · rw [b01_f hT]
    simp (disch := omega) only [↓lm1, ↓lm2, eq_n1, eq_n2, n1_eq, n2_eq, n1_n2, n2_n1, n1_lt, n2_lt, n1_le, lt_n1, lt_n2, inb_t, cl_t, le_tt, le_tf, lt_tt, lt_tf, eq_tt, eq_tf, q_add, q_mul, li0, li1, li2, li3, li4, li5, li6, li7, li8, li12, li16, li24, li48, li500, gF_sA, gA_sF, gF_sF, gR_sA, gR_sF, gL_sA, gL_sF, gA_sA, shl_t, or_t, and_t, sbit_t, ubit_t, b01_0, b01_1, Option.bind_some, ↓reduceIte, eq_self, ne_eq, not_true_eq_false, Bool.false_eq_true, not_false_eq_true, true_and, and_true, false_and, and_false, if_pos, if_neg, refuse_eq, f_X9_equal_22_s2, unless_0, refused_1]
    exact op_ans0 h
theorem op_about {N f nf : Nat} {tk : Nat → Nat} {R A : List Row} {NL : List (List Nat)} {tp : List Nat} {wx wm : Mem} (h : RelC wx wm f nf tk R A NL tp) (hN : 276 < N) (x1 : Int32) : Op (f_X8_about N wx x1) (f_X9_about N wm x1) := by
  have hCI := h.ci
  obtain ⟨⟨⟨hf, h5, h6⟩, ⟨⟨xT, xG, xF⟩, xS, xQ, xD⟩, xFN, xA, xNm, xTp, xCo⟩, hM, hPp, hfa⟩ := id h
  have hM0 := hM.km (mAns_km (cS (run tk c0 (R ++ A))).length wm (nI 0))
  obtain ⟨⟨⟨mT, mR, mN, mJ, mJR, mFR⟩, mS, mQ⟩, mFN, mRW, m8, m9, mNm, mTp⟩ := id hM0
  have hn : (cL (run tk c0 (R ++ A))).length ≤ 24 := xT.1
  have x10 : gF wx 7 10 f = nI (cL (run tk c0 (R ++ A))).length := xT.2.2.1
  have m27 : gF wm 9 27 0 = nI (cL (run tk c0 (R ++ A))).length := hM.1.1.1.2.2.1
  have iX := isTermX (N := N) (show (cL (run tk c0 (R ++ A))).length < 1000 by omega) hf h5 x10
  have iM := isTermM (N := N) (w := wm) (show (cL (run tk c0 (R ++ A))).length < 1000 by omega) m27
  have hi := in_ok2 (N := N) (w := wm) (n := 7) (by omega) x1
  by_cases hW : isT 8 x1
  · obtain ⟨q, hq, rfl⟩ := hW
    rw [b01_t (isT_nI hq)] at hi
    have hrs : nI (R ++ A).length - nI R.length = nI A.length := by
      rw [q_sub (by rw [List.length_append]; omega)]
      congr 1
      rw [List.length_append]; omega
    have hg := groupsIn_ok (N := N) (k := 52) rfl (by omega) mR
    have hcl := clashIn_ok (N := N) (k := 52) rfl (by omega) mR mQ
    have hfc := firstClash_ok (N := N) xQ xG (by omega)
    have hfc' : f_X1_firstClash N wx f (2 + f) = some (oI (fcl (ldJ (cJ (run tk c0 (R ++ A)))) (cQ (run tk c0 (R ++ A))))) := hfc
    have a0 := xFN.2.1
    have a2 := xS.2.1
    have a3 := xQ.2.1
    have a4 := xG.2.2.2.1
    have a5 := xA.2.1
    have a6 := xF.2.2.1
    have b0 := mFN.2.1
    have b1 : gF (mAns wm (nI 0)) 9 27 0 = nI (cL (run tk c0 (R ++ A))).length := m27
    have b2 := mS.2.1
    have b3 := mQ.2.1
    have b6 := mJ
    have hq' : q = 0 ∨ q = 1 ∨ q = 2 ∨ q = 3 ∨ q = 4 ∨ q = 5 ∨ q = 6 ∨ q = 7 := by omega
    rw [f_X8_about, f_X9_about]
    rcases hq' with rfl | rfl | rfl | rfl | rfl | rfl | rfl | rfl
    all_goals
      simp (disch := omega) only [↓lm1, ↓lm2, eq_n1, eq_n2, n1_eq, n2_eq, n1_n2, n2_n1, n1_lt, n2_lt, n1_le, lt_n1, lt_n2, inb_t, cl_t, le_tt, le_tf, lt_tt, lt_tf, eq_tt, eq_tf, q_add, q_mul, li0, li1, li2, li3, li4, li5, li6, li7, li8, li12, li16, li24, li48, li500, gF_sA, gA_sF, gF_sF, gR_sA, gR_sF, gL_sA, gL_sF, gA_sA, shl_t, or_t, and_t, sbit_t, ubit_t, b01_0, b01_1, Option.bind_some, ↓reduceIte, eq_self, ne_eq, not_true_eq_false, Bool.false_eq_true, not_false_eq_true, true_and, and_true, false_and, and_false, if_pos, if_neg, h5, hi, unless_1, refused_0, answer_eq, a0, x10, a2, a3, a4, a5, a6, hfc', b0, b1, b2, b3, b6, hg, hcl, m8, m9, hrs]
      exact op_ans0 h
  · rw [b01_f hW] at hi
    rw [f_X8_about, f_X9_about]
    simp (disch := omega) only [↓lm1, ↓lm2, eq_n1, eq_n2, n1_eq, n2_eq, n1_n2, n2_n1, n1_lt, n2_lt, n1_le, lt_n1, lt_n2, inb_t, cl_t, le_tt, le_tf, lt_tt, lt_tf, eq_tt, eq_tf, q_add, q_mul, li0, li1, li2, li3, li4, li5, li6, li7, li8, li12, li16, li24, li48, li500, gF_sA, gA_sF, gF_sF, gR_sA, gR_sF, gL_sA, gL_sF, gA_sA, shl_t, or_t, and_t, sbit_t, ubit_t, b01_0, b01_1, Option.bind_some, ↓reduceIte, eq_self, ne_eq, not_true_eq_false, Bool.false_eq_true, not_false_eq_true, true_and, and_true, false_and, and_false, if_pos, if_neg, h5, hi, unless_0, refused_1, refuse_eq, notT hW]
    exact op_ans0 h
theorem op_function {N f nf : Nat} {tk : Nat → Nat} {R A : List Row} {NL : List (List Nat)} {tp : List Nat} {wx wm : Mem} (h : RelC wx wm f nf tk R A NL tp) (hN : 276 < N) (x1 x2 : Int32) : Op (f_X8_function N wx x1 x2) (f_X9_function N wm x1 x2) := by
  have hCI := h.ci
  obtain ⟨⟨⟨hf, h5, h6⟩, ⟨⟨xT, xG, xF⟩, xS, xQ, xD⟩, xFN, xA, xNm, xTp, xCo⟩, hM, hPp, hfa⟩ := id h
  have hM0 := hM.km (mAns_km (cS (run tk c0 (R ++ A))).length wm (nI 0))
  obtain ⟨⟨⟨mT, mR, mN, mJ, mJR, mFR⟩, mS, mQ⟩, mFN, mRW, m8, m9, mNm, mTp⟩ := id hM0
  have hn : (cL (run tk c0 (R ++ A))).length ≤ 24 := xT.1
  have x10 : gF wx 7 10 f = nI (cL (run tk c0 (R ++ A))).length := xT.2.2.1
  have m27 : gF wm 9 27 0 = nI (cL (run tk c0 (R ++ A))).length := hM.1.1.1.2.2.1
  have iX := isTermX (N := N) (show (cL (run tk c0 (R ++ A))).length < 1000 by omega) hf h5 x10
  have iM := isTermM (N := N) (w := wm) (show (cL (run tk c0 (R ++ A))).length < 1000 by omega) m27
  have a0 := xFN.2.1
  have b0 : gF wm 9 6 0 = nI nf := hM.2.1.2.1
  have hnf := xFN.1
  have hi1 := in_ok (N := N) (w := wm) (n := nf) (by omega) x1
  have hi2 := in_ok2 (N := N) (w := wm) (n := 2) (by omega) x2
  rcases isT_cases nf x1 (by omega) with ⟨g, hg, rfl⟩ | ⟨hx, hnt⟩ | ⟨k, hk1, hk2, rfl, hnt⟩
  · rw [b01_t (isT_nI hg)] at hi1
    by_cases hW : isT 3 x2
    · obtain ⟨q, hq, rfl⟩ := hW
      rw [b01_t (isT_nI hq)] at hi2
      have hx := (xFN.2.2 g hg).2
      have hm := (mFN.2.2 g hg).2
      have hc1 := termsOf_ok (N := N) (g := g) xT (by omega) (by omega)
      have hc2 := groupsWith_ok (N := N) (g := g) xT xG (by omega) (by omega)
      have hml := mfun_ok (N := N) (g := g) (x := nI q) (fun (u3_22 : Int32) (u4_22 : Int32) => (f_X9_function_119 N (mAns wm (nI 0)) (nI g) (nI q) u3_22 u4_22)) mT mR (by omega) (by omega)
      have hq' : q = 0 ∨ q = 1 ∨ q = 2 := by omega
      rw [f_X8_function, f_X9_function]
      rcases hq' with rfl | rfl | rfl
      all_goals
        simp (disch := omega) only [↓lm1, ↓lm2, eq_n1, eq_n2, n1_eq, n2_eq, n1_n2, n2_n1, n1_lt, n2_lt, n1_le, lt_n1, lt_n2, inb_t, cl_t, le_tt, le_tf, lt_tt, lt_tf, eq_tt, eq_tf, q_add, q_mul, li0, li1, li2, li3, li4, li5, li6, li7, li8, li12, li16, li24, li48, li500, gF_sA, gA_sF, gF_sF, gR_sA, gR_sF, gL_sA, gL_sF, gA_sA, shl_t, or_t, and_t, sbit_t, ubit_t, b01_0, b01_1, Option.bind_some, ↓reduceIte, eq_self, ne_eq, not_true_eq_false, Bool.false_eq_true, not_false_eq_true, true_and, and_true, false_and, and_false, if_pos, if_neg, h5, hi1, hi2, a0, b0, unless_1, refused_0, answer_eq, hx, hc1, hc2]
        rw [hml, f_X9_function_119]
        simp (disch := omega) only [↓lm1, ↓lm2, eq_n1, eq_n2, n1_eq, n2_eq, n1_n2, n2_n1, n1_lt, n2_lt, n1_le, lt_n1, lt_n2, inb_t, cl_t, le_tt, le_tf, lt_tt, lt_tf, eq_tt, eq_tf, q_add, q_mul, li0, li1, li2, li3, li4, li5, li6, li7, li8, li12, li16, li24, li48, li500, gF_sA, gA_sF, gF_sF, gR_sA, gR_sF, gL_sA, gL_sF, gA_sA, shl_t, or_t, and_t, sbit_t, ubit_t, b01_0, b01_1, Option.bind_some, ↓reduceIte, eq_self, ne_eq, not_true_eq_false, Bool.false_eq_true, not_false_eq_true, true_and, and_true, false_and, and_false, if_pos, if_neg, hm]
        exact op_ans0 h
    · rw [b01_f hW] at hi2
      rw [f_X8_function, f_X9_function]
      simp (disch := omega) only [↓lm1, ↓lm2, eq_n1, eq_n2, n1_eq, n2_eq, n1_n2, n2_n1, n1_lt, n2_lt, n1_le, lt_n1, lt_n2, inb_t, cl_t, le_tt, le_tf, lt_tt, lt_tf, eq_tt, eq_tf, q_add, q_mul, li0, li1, li2, li3, li4, li5, li6, li7, li8, li12, li16, li24, li48, li500, gF_sA, gA_sF, gF_sF, gR_sA, gR_sF, gL_sA, gL_sF, gA_sA, shl_t, or_t, and_t, sbit_t, ubit_t, b01_0, b01_1, Option.bind_some, ↓reduceIte, eq_self, ne_eq, not_true_eq_false, Bool.false_eq_true, not_false_eq_true, true_and, and_true, false_and, and_false, if_pos, if_neg, h5, hi1, hi2, a0, b0, f_X9_function_28_s1, unless_0, refused_1, refuse_eq, notT hW]
      exact op_ans0 h
  · rw [b01_f hnt] at hi1
    have hng : (x1 < nI 0) = True := eq_true hx
    rw [f_X8_function, f_X9_function]
    simp (disch := omega) only [↓lm1, ↓lm2, eq_n1, eq_n2, n1_eq, n2_eq, n1_n2, n2_n1, n1_lt, n2_lt, n1_le, lt_n1, lt_n2, inb_t, cl_t, le_tt, le_tf, lt_tt, lt_tf, eq_tt, eq_tf, q_add, q_mul, li0, li1, li2, li3, li4, li5, li6, li7, li8, li12, li16, li24, li48, li500, gF_sA, gA_sF, gF_sF, gR_sA, gR_sF, gL_sA, gL_sF, gA_sA, shl_t, or_t, and_t, sbit_t, ubit_t, b01_0, b01_1, Option.bind_some, ↓reduceIte, eq_self, ne_eq, not_true_eq_false, Bool.false_eq_true, not_false_eq_true, true_and, and_true, false_and, and_false, if_pos, if_neg, h5, hi1, a0, b0, f_X9_function_28_s1, unless_0, refused_1, refuse_eq, hng]
    exact op_ans0 h
  · rw [b01_f hnt] at hi1
    rw [f_X8_function, f_X9_function]
    simp (disch := omega) only [↓lm1, ↓lm2, eq_n1, eq_n2, n1_eq, n2_eq, n1_n2, n2_n1, n1_lt, n2_lt, n1_le, lt_n1, lt_n2, inb_t, cl_t, le_tt, le_tf, lt_tt, lt_tf, eq_tt, eq_tf, q_add, q_mul, li0, li1, li2, li3, li4, li5, li6, li7, li8, li12, li16, li24, li48, li500, gF_sA, gA_sF, gF_sF, gR_sA, gR_sF, gL_sA, gL_sF, gA_sA, shl_t, or_t, and_t, sbit_t, ubit_t, b01_0, b01_1, Option.bind_some, ↓reduceIte, eq_self, ne_eq, not_true_eq_false, Bool.false_eq_true, not_false_eq_true, true_and, and_true, false_and, and_false, if_pos, if_neg, h5, hi1, a0, b0, f_X9_function_28_s1, unless_0, refused_1, refuse_eq]
    exact op_ans0 h
theorem op_term {N f nf : Nat} {tk : Nat → Nat} {R A : List Row} {NL : List (List Nat)} {tp : List Nat} {wx wm : Mem} (h : RelC wx wm f nf tk R A NL tp) (hN : 276 < N) (x1 x2 : Int32) : Op (f_X8_term N wx x1 x2) (f_X9_term N wm x1 x2) := by
  have hCI := h.ci
  obtain ⟨⟨⟨hf, h5, h6⟩, ⟨⟨xT, xG, xF⟩, xS, xQ, xD⟩, xFN, xA, xNm, xTp, xCo⟩, hM, hPp, hfa⟩ := id h
  have hM0 := hM.km (mAns_km (cS (run tk c0 (R ++ A))).length wm (nI 0))
  obtain ⟨⟨⟨mT, mR, mN, mJ, mJR, mFR⟩, mS, mQ⟩, mFN, mRW, m8, m9, mNm, mTp⟩ := id hM0
  have hn : (cL (run tk c0 (R ++ A))).length ≤ 24 := xT.1
  have x10 : gF wx 7 10 f = nI (cL (run tk c0 (R ++ A))).length := xT.2.2.1
  have m27 : gF wm 9 27 0 = nI (cL (run tk c0 (R ++ A))).length := hM.1.1.1.2.2.1
  have iX := isTermX (N := N) (show (cL (run tk c0 (R ++ A))).length < 1000 by omega) hf h5 x10
  have iM := isTermM (N := N) (w := wm) (show (cL (run tk c0 (R ++ A))).length < 1000 by omega) m27
  have hi2 := in_ok2 (N := N) (w := wm) (n := 5) (by omega) x2
  rw [f_X8_term, f_X9_term, iX, iM]
  by_cases hT : isT (cL (run tk c0 (R ++ A))).length x1
  · obtain ⟨t, ht, rfl⟩ := hT
    rw [b01_t (isT_nI ht)]
    by_cases hW : isT 6 x2
    · obtain ⟨q, hq, rfl⟩ := hW
      rw [b01_t (isT_nI hq)] at hi2
      obtain ⟨u1, u2, u3, u4⟩ := xT.2.2.2.1 t ht
      obtain ⟨v1, v2, v3, v4⟩ := mT.2.2.2.1 t ht
      have e1 := xG.2.2.2.2 t ht
      have e2 := mR.2.2.2 t ht
      have e3 := members_ok (N := N) (t := t) xG (by omega) ht
      have e4 := groupMany_ok (N := N) (t := t) mR (by omega) ht
      have e5 := termsAbove_ok (N := N) (t := t) xT xG (by omega) ht
      have e6 := usersOf_ok (N := N) (t := t) mT mR (by omega) ht
      have e7 := xD t ht
      have e8 := xF.2.2.2.2.1 t ht
      have e9 := mFR.1 t ht
      have hq' : q = 0 ∨ q = 1 ∨ q = 2 ∨ q = 3 ∨ q = 4 ∨ q = 5 := by omega
      rcases hq' with rfl | rfl | rfl | rfl | rfl | rfl
      · simp (disch := omega) only [↓lm1, ↓lm2, eq_n1, eq_n2, n1_eq, n2_eq, n1_n2, n2_n1, n1_lt, n2_lt, n1_le, lt_n1, lt_n2, inb_t, cl_t, le_tt, le_tf, lt_tt, lt_tf, eq_tt, eq_tf, q_add, q_mul, li0, li1, li2, li3, li4, li5, li6, li7, li8, li12, li16, li24, li48, li500, gF_sA, gA_sF, gF_sF, gR_sA, gR_sF, gL_sA, gL_sF, gA_sA, shl_t, or_t, and_t, sbit_t, ubit_t, b01_0, b01_1, Option.bind_some, ↓reduceIte, eq_self, ne_eq, not_true_eq_false, Bool.false_eq_true, not_false_eq_true, true_and, and_true, false_and, and_false, if_pos, if_neg, h5, hi2, f_X9_term_23_s2, unless_1, refused_0, answer_eq, u3, v3]
        exact op_ans0 h
      · simp (disch := omega) only [↓lm1, ↓lm2, eq_n1, eq_n2, n1_eq, n2_eq, n1_n2, n2_n1, n1_lt, n2_lt, n1_le, lt_n1, lt_n2, inb_t, cl_t, le_tt, le_tf, lt_tt, lt_tf, eq_tt, eq_tf, q_add, q_mul, li0, li1, li2, li3, li4, li5, li6, li7, li8, li12, li16, li24, li48, li500, gF_sA, gA_sF, gF_sF, gR_sA, gR_sF, gL_sA, gL_sF, gA_sA, shl_t, or_t, and_t, sbit_t, ubit_t, b01_0, b01_1, Option.bind_some, ↓reduceIte, eq_self, ne_eq, not_true_eq_false, Bool.false_eq_true, not_false_eq_true, true_and, and_true, false_and, and_false, if_pos, if_neg, h5, hi2, f_X9_term_23_s2, unless_1, refused_0, answer_eq, e1, e2]
        exact op_ans0 h
      · simp (disch := omega) only [↓lm1, ↓lm2, eq_n1, eq_n2, n1_eq, n2_eq, n1_n2, n2_n1, n1_lt, n2_lt, n1_le, lt_n1, lt_n2, inb_t, cl_t, le_tt, le_tf, lt_tt, lt_tf, eq_tt, eq_tf, q_add, q_mul, li0, li1, li2, li3, li4, li5, li6, li7, li8, li12, li16, li24, li48, li500, gF_sA, gA_sF, gF_sF, gR_sA, gR_sF, gL_sA, gL_sF, gA_sA, shl_t, or_t, and_t, sbit_t, ubit_t, b01_0, b01_1, Option.bind_some, ↓reduceIte, eq_self, ne_eq, not_true_eq_false, Bool.false_eq_true, not_false_eq_true, true_and, and_true, false_and, and_false, if_pos, if_neg, h5, hi2, f_X9_term_23_s2, unless_1, refused_0, answer_eq, e3, e4]
        exact op_ans0 h
      · simp (disch := omega) only [↓lm1, ↓lm2, eq_n1, eq_n2, n1_eq, n2_eq, n1_n2, n2_n1, n1_lt, n2_lt, n1_le, lt_n1, lt_n2, inb_t, cl_t, le_tt, le_tf, lt_tt, lt_tf, eq_tt, eq_tf, q_add, q_mul, li0, li1, li2, li3, li4, li5, li6, li7, li8, li12, li16, li24, li48, li500, gF_sA, gA_sF, gF_sF, gR_sA, gR_sF, gL_sA, gL_sF, gA_sA, shl_t, or_t, and_t, sbit_t, ubit_t, b01_0, b01_1, Option.bind_some, ↓reduceIte, eq_self, ne_eq, not_true_eq_false, Bool.false_eq_true, not_false_eq_true, true_and, and_true, false_and, and_false, if_pos, if_neg, h5, hi2, f_X9_term_23_s2, unless_1, refused_0, answer_eq, e5, e6]
        exact op_ans0 h
      · obtain ⟨w', d1, d2⟩ := deepOf_ok (N := N) mT (by omega) ht (fun i hi => (hCI.2.2.2.2.1 i hi).2) hCI.drec hCI.2.2.2.2.2.1
        simp (disch := omega) only [↓lm1, ↓lm2, eq_n1, eq_n2, n1_eq, n2_eq, n1_n2, n2_n1, n1_lt, n2_lt, n1_le, lt_n1, lt_n2, inb_t, cl_t, le_tt, le_tf, lt_tt, lt_tf, eq_tt, eq_tf, q_add, q_mul, li0, li1, li2, li3, li4, li5, li6, li7, li8, li12, li16, li24, li48, li500, gF_sA, gA_sF, gF_sF, gR_sA, gR_sF, gL_sA, gL_sF, gA_sA, shl_t, or_t, and_t, sbit_t, ubit_t, b01_0, b01_1, Option.bind_some, ↓reduceIte, eq_self, ne_eq, not_true_eq_false, Bool.false_eq_true, not_false_eq_true, true_and, and_true, false_and, and_false, if_pos, if_neg, h5, hi2, f_X9_term_23_s2, unless_1, refused_0, answer_eq, e7, d1]
        exact op_ans h KX.rf (d2.km _ (fun _ _ _ z => z.elim) (fun _ _ z => by omega)) ((d2.F _ _ _).trans (mAns_1 _ _)) ((d2.F _ _ _).trans (mAns_3 _ _)) rfl
      · cases hF : frJ (cJ (run tk c0 (R ++ A))) t with
        | none =>
          rw [hF, oN_none] at e8
          rw [hF, mO_none] at e9
          have l0 : (nI 0 ≤ n1) = False := eq_false (by decide)
          simp (disch := omega) only [↓lm1, ↓lm2, eq_n1, eq_n2, n1_eq, n2_eq, n1_n2, n2_n1, n1_lt, n2_lt, n1_le, lt_n1, lt_n2, inb_t, cl_t, le_tt, le_tf, lt_tt, lt_tf, eq_tt, eq_tf, q_add, q_mul, li0, li1, li2, li3, li4, li5, li6, li7, li8, li12, li16, li24, li48, li500, gF_sA, gA_sF, gF_sF, gR_sA, gR_sF, gL_sA, gL_sF, gA_sA, shl_t, or_t, and_t, sbit_t, ubit_t, b01_0, b01_1, Option.bind_some, ↓reduceIte, eq_self, ne_eq, not_true_eq_false, Bool.false_eq_true, not_false_eq_true, true_and, and_true, false_and, and_false, if_pos, if_neg, h5, hi2, f_X9_term_23_s2, unless_1, refused_0, answer_eq, e8, e9, l0]
          exact op_ans0 h
        | some p =>
          obtain ⟨u, c'⟩ := p
          rw [hF, oN_some] at e8
          rw [hF, mO_some] at e9
          obtain ⟨b1, b2, b3⟩ := hCI.1.2.2.2.2.1.fb t u c' hF
          rw [tN_mk] at b2
          simp (disch := omega) only [↓lm1, ↓lm2, eq_n1, eq_n2, n1_eq, n2_eq, n1_n2, n2_n1, n1_lt, n2_lt, n1_le, lt_n1, lt_n2, inb_t, cl_t, le_tt, le_tf, lt_tt, lt_tf, eq_tt, eq_tf, q_add, q_mul, li0, li1, li2, li3, li4, li5, li6, li7, li8, li12, li16, li24, li48, li500, gF_sA, gA_sF, gF_sF, gR_sA, gR_sF, gL_sA, gL_sF, gA_sA, shl_t, or_t, and_t, sbit_t, ubit_t, b01_0, b01_1, Option.bind_some, ↓reduceIte, eq_self, ne_eq, not_true_eq_false, Bool.false_eq_true, not_false_eq_true, true_and, and_true, false_and, and_false, if_pos, if_neg, h5, hi2, f_X9_term_23_s2, unless_1, refused_0, answer_eq, e8, e9]
          exact op_ans0 h
    · rw [b01_f hW] at hi2
      simp (disch := omega) only [↓lm1, ↓lm2, eq_n1, eq_n2, n1_eq, n2_eq, n1_n2, n2_n1, n1_lt, n2_lt, n1_le, lt_n1, lt_n2, inb_t, cl_t, le_tt, le_tf, lt_tt, lt_tf, eq_tt, eq_tf, q_add, q_mul, li0, li1, li2, li3, li4, li5, li6, li7, li8, li12, li16, li24, li48, li500, gF_sA, gA_sF, gF_sF, gR_sA, gR_sF, gL_sA, gL_sF, gA_sA, shl_t, or_t, and_t, sbit_t, ubit_t, b01_0, b01_1, Option.bind_some, ↓reduceIte, eq_self, ne_eq, not_true_eq_false, Bool.false_eq_true, not_false_eq_true, true_and, and_true, false_and, and_false, if_pos, if_neg, h5, hi2, f_X9_term_23_s2, unless_0, refused_1, refuse_eq, notT hW]
      exact op_ans0 h
  · rw [b01_f hT]
    simp (disch := omega) only [↓lm1, ↓lm2, eq_n1, eq_n2, n1_eq, n2_eq, n1_n2, n2_n1, n1_lt, n2_lt, n1_le, lt_n1, lt_n2, inb_t, cl_t, le_tt, le_tf, lt_tt, lt_tf, eq_tt, eq_tf, q_add, q_mul, li0, li1, li2, li3, li4, li5, li6, li7, li8, li12, li16, li24, li48, li500, gF_sA, gA_sF, gF_sF, gR_sA, gR_sF, gL_sA, gL_sF, gA_sA, shl_t, or_t, and_t, sbit_t, ubit_t, b01_0, b01_1, Option.bind_some, ↓reduceIte, eq_self, ne_eq, not_true_eq_false, Bool.false_eq_true, not_false_eq_true, true_and, and_true, false_and, and_false, if_pos, if_neg, h5, f_X9_term_23_s2, unless_0, refused_1, refuse_eq]
    exact op_ans0 h
theorem op_partOf {N f nf : Nat} {tk : Nat → Nat} {R A : List Row} {NL : List (List Nat)} {tp : List Nat} {wx wm : Mem} (h : RelC wx wm f nf tk R A NL tp) (x1 x2 : Int32) : Op (f_X8_partOf N wx x1 x2) (f_X9_partOf N wm x1 x2) := by
  have hCI := h.ci
  obtain ⟨⟨⟨hf, h5, h6⟩, ⟨⟨xT, xG, xF⟩, xS, xQ, xD⟩, xFN, xA, xNm, xTp, xCo⟩, hM, hPp, hfa⟩ := id h
  have hM0 := hM.km (mAns_km (cS (run tk c0 (R ++ A))).length wm (nI 0))
  obtain ⟨⟨⟨mT, mR, mN, mJ, mJR, mFR⟩, mS, mQ⟩, mFN, mRW, m8, m9, mNm, mTp⟩ := id hM0
  have hn : (cL (run tk c0 (R ++ A))).length ≤ 24 := xT.1
  have x10 : gF wx 7 10 f = nI (cL (run tk c0 (R ++ A))).length := xT.2.2.1
  have m27 : gF wm 9 27 0 = nI (cL (run tk c0 (R ++ A))).length := hM.1.1.1.2.2.1
  have iX := isTermX (N := N) (show (cL (run tk c0 (R ++ A))).length < 1000 by omega) hf h5 x10
  have iM := isTermM (N := N) (w := wm) (show (cL (run tk c0 (R ++ A))).length < 1000 by omega) m27
  rw [f_X8_partOf, f_X9_partOf, iX, iM]
  by_cases hT : isT (cL (run tk c0 (R ++ A))).length x1
  · obtain ⟨t, ht, rfl⟩ := hT
    rw [b01_t (isT_nI ht)]
    rcases i_cases x2 with hx | ⟨k, hk, rfl⟩
    · have hng : (x2 < nI 0) = True := eq_true hx
      have hng2 : (nI 0 ≤ x2) = False := eq_false (fun z => i_not_le.mpr hx z)
      simp (disch := omega) only [↓lm1, ↓lm2, eq_n1, eq_n2, n1_eq, n2_eq, n1_n2, n2_n1, n1_lt, n2_lt, n1_le, lt_n1, lt_n2, inb_t, cl_t, le_tt, le_tf, lt_tt, lt_tf, eq_tt, eq_tf, q_add, q_mul, li0, li1, li2, li3, li4, li5, li6, li7, li8, li12, li16, li24, li48, li500, gF_sA, gA_sF, gF_sF, gR_sA, gR_sF, gL_sA, gL_sF, gA_sA, shl_t, or_t, and_t, sbit_t, ubit_t, b01_0, b01_1, Option.bind_some, ↓reduceIte, eq_self, ne_eq, not_true_eq_false, Bool.false_eq_true, not_false_eq_true, true_and, and_true, false_and, and_false, if_pos, if_neg, hng, hng2, refuse_eq, f_X9_partOf_18_s2, unless_0, refused_1]
      exact op_ans0 h
    · have p1 := partsOf_ok (N := N) xT ht
      have p2 := takesOf_ok (N := N) mT ht
      have t3 := (xT.2.2.2.1 t ht).2.1
      by_cases z : k < tA (mkT tk (cL (run tk c0 (R ++ A)))) (tF (mkT tk (cL (run tk c0 (R ++ A)))) t)
      · have p3 := partAt_ok (N := N) xT ht z
        have p4 := mT.2.2.2.2 t k ht z
        simp (disch := omega) only [↓lm1, ↓lm2, eq_n1, eq_n2, n1_eq, n2_eq, n1_n2, n2_n1, n1_lt, n2_lt, n1_le, lt_n1, lt_n2, inb_t, cl_t, le_tt, le_tf, lt_tt, lt_tf, eq_tt, eq_tf, q_add, q_mul, li0, li1, li2, li3, li4, li5, li6, li7, li8, li12, li16, li24, li48, li500, gF_sA, gA_sF, gF_sF, gR_sA, gR_sF, gL_sA, gL_sF, gA_sA, shl_t, or_t, and_t, sbit_t, ubit_t, b01_0, b01_1, Option.bind_some, ↓reduceIte, eq_self, ne_eq, not_true_eq_false, Bool.false_eq_true, not_false_eq_true, true_and, and_true, false_and, and_false, if_pos, if_neg, h5, p1, p2, p3, p4, answer_eq, f_X9_partOf_18_s2, unless_1, refused_0]
        exact op_ans0 h
      · simp (disch := omega) only [↓lm1, ↓lm2, eq_n1, eq_n2, n1_eq, n2_eq, n1_n2, n2_n1, n1_lt, n2_lt, n1_le, lt_n1, lt_n2, inb_t, cl_t, le_tt, le_tf, lt_tt, lt_tf, eq_tt, eq_tf, q_add, q_mul, li0, li1, li2, li3, li4, li5, li6, li7, li8, li12, li16, li24, li48, li500, gF_sA, gA_sF, gF_sF, gR_sA, gR_sF, gL_sA, gL_sF, gA_sA, shl_t, or_t, and_t, sbit_t, ubit_t, b01_0, b01_1, Option.bind_some, ↓reduceIte, eq_self, ne_eq, not_true_eq_false, Bool.false_eq_true, not_false_eq_true, true_and, and_true, false_and, and_false, if_pos, if_neg, h5, p1, p2, answer_eq, f_X9_partOf_18_s2, unless_1, refused_0]
        exact op_ans0 h
  · rw [b01_f hT]
    simp (disch := omega) only [↓lm1, ↓lm2, eq_n1, eq_n2, n1_eq, n2_eq, n1_n2, n2_n1, n1_lt, n2_lt, n1_le, lt_n1, lt_n2, inb_t, cl_t, le_tt, le_tf, lt_tt, lt_tf, eq_tt, eq_tf, q_add, q_mul, li0, li1, li2, li3, li4, li5, li6, li7, li8, li12, li16, li24, li48, li500, gF_sA, gA_sF, gF_sF, gR_sA, gR_sF, gL_sA, gL_sF, gA_sA, shl_t, or_t, and_t, sbit_t, ubit_t, b01_0, b01_1, Option.bind_some, ↓reduceIte, eq_self, ne_eq, not_true_eq_false, Bool.false_eq_true, not_false_eq_true, true_and, and_true, false_and, and_false, if_pos, if_neg, h5, f_X9_partOf_18_s2, unless_0, refused_1, refuse_eq]
    exact op_ans0 h
theorem op_diffOf {N f nf : Nat} {tk : Nat → Nat} {R A : List Row} {NL : List (List Nat)} {tp : List Nat} {wx wm : Mem} (h : RelC wx wm f nf tk R A NL tp) (x1 x2 : Int32) : Op (f_X8_diffOf N wx x1 x2) (f_X9_diffOf N wm x1 x2) := by
  have hCI := h.ci
  obtain ⟨⟨⟨hf, h5, h6⟩, ⟨⟨xT, xG, xF⟩, xS, xQ, xD⟩, xFN, xA, xNm, xTp, xCo⟩, hM, hPp, hfa⟩ := id h
  have hM0 := hM.km (mAns_km (cS (run tk c0 (R ++ A))).length wm (nI 0))
  obtain ⟨⟨⟨mT, mR, mN, mJ, mJR, mFR⟩, mS, mQ⟩, mFN, mRW, m8, m9, mNm, mTp⟩ := id hM0
  have hn : (cL (run tk c0 (R ++ A))).length ≤ 24 := xT.1
  have x10 : gF wx 7 10 f = nI (cL (run tk c0 (R ++ A))).length := xT.2.2.1
  have m27 : gF wm 9 27 0 = nI (cL (run tk c0 (R ++ A))).length := hM.1.1.1.2.2.1
  have iX := isTermX (N := N) (show (cL (run tk c0 (R ++ A))).length < 1000 by omega) hf h5 x10
  have iM := isTermM (N := N) (w := wm) (show (cL (run tk c0 (R ++ A))).length < 1000 by omega) m27
  have a0 := xQ.2.1
  have b0 : gF wm 9 33 0 = nI (cQ (run tk c0 (R ++ A))).length := hM.1.2.2.2.1
  have hq8 := xQ.1
  have hi1 := in_ok (N := N) (w := wm) (n := (cQ (run tk c0 (R ++ A))).length) (by omega) x1
  have hi2 := in_ok2 (N := N) (w := wm) (n := 2) (by omega) x2
  rw [f_X8_diffOf, f_X9_diffOf]
  rcases isT_cases (cQ (run tk c0 (R ++ A))).length x1 (by omega) with ⟨g, hg, rfl⟩ | ⟨hx, hnt⟩ | ⟨k, hk1, hk2, rfl, hnt⟩
  · rw [b01_t (isT_nI hg)] at hi1
    by_cases hW : isT 3 x2
    · obtain ⟨q, hq, rfl⟩ := hW
      rw [b01_t (isT_nI hq)] at hi2
      obtain ⟨⟨i, j⟩, hp⟩ := get_at (cQ (run tk c0 (R ++ A))) hg
      obtain ⟨y1, y2, y3, y4⟩ := xQ.2.2 g i j hp
      obtain ⟨z1, z2, z3, z4⟩ := mQ.2.2 g i j hp
      have e1 := mR.2.2.2 i z1
      have e2 := mR.2.2.2 j z2
      have c1 := (mR.2.1 i z1).1
      have c2 := (mR.2.1 j z2).1
      have hcl := clashes_ok (N := N) xQ xG hp
      rw [b01_i] at hcl
      have hq' : q = 0 ∨ q = 1 ∨ q = 2 := by omega
      rcases hq' with rfl | rfl | rfl
      · simp (disch := omega) only [↓lm1, ↓lm2, eq_n1, eq_n2, n1_eq, n2_eq, n1_n2, n2_n1, n1_lt, n2_lt, n1_le, lt_n1, lt_n2, inb_t, cl_t, le_tt, le_tf, lt_tt, lt_tf, eq_tt, eq_tf, q_add, q_mul, li0, li1, li2, li3, li4, li5, li6, li7, li8, li12, li16, li24, li48, li500, gF_sA, gA_sF, gF_sF, gR_sA, gR_sF, gL_sA, gL_sF, gA_sA, shl_t, or_t, and_t, sbit_t, ubit_t, b01_0, b01_1, Option.bind_some, ↓reduceIte, eq_self, ne_eq, not_true_eq_false, Bool.false_eq_true, not_false_eq_true, true_and, and_true, false_and, and_false, if_pos, if_neg, h5, hi1, hi2, a0, b0, unless_1, refused_0, answer_eq, y3, f_X9_diffOf_29_s2, z3]
        exact op_ans0 h
      · simp (disch := omega) only [↓lm1, ↓lm2, eq_n1, eq_n2, n1_eq, n2_eq, n1_n2, n2_n1, n1_lt, n2_lt, n1_le, lt_n1, lt_n2, inb_t, cl_t, le_tt, le_tf, lt_tt, lt_tf, eq_tt, eq_tf, q_add, q_mul, li0, li1, li2, li3, li4, li5, li6, li7, li8, li12, li16, li24, li48, li500, gF_sA, gA_sF, gF_sF, gR_sA, gR_sF, gL_sA, gL_sF, gA_sA, shl_t, or_t, and_t, sbit_t, ubit_t, b01_0, b01_1, Option.bind_some, ↓reduceIte, eq_self, ne_eq, not_true_eq_false, Bool.false_eq_true, not_false_eq_true, true_and, and_true, false_and, and_false, if_pos, if_neg, h5, hi1, hi2, a0, b0, unless_1, refused_0, answer_eq, y4, f_X9_diffOf_29_s2, z4]
        exact op_ans0 h
      · by_cases z : ldJ (cJ (run tk c0 (R ++ A))) i = ldJ (cJ (run tk c0 (R ++ A))) j
        · rw [b01_t z] at hcl
          simp (disch := omega) only [↓lm1, ↓lm2, eq_n1, eq_n2, n1_eq, n2_eq, n1_n2, n2_n1, n1_lt, n2_lt, n1_le, lt_n1, lt_n2, inb_t, cl_t, le_tt, le_tf, lt_tt, lt_tf, eq_tt, eq_tf, q_add, q_mul, li0, li1, li2, li3, li4, li5, li6, li7, li8, li12, li16, li24, li48, li500, gF_sA, gA_sF, gF_sF, gR_sA, gR_sF, gL_sA, gL_sF, gA_sA, shl_t, or_t, and_t, sbit_t, ubit_t, b01_0, b01_1, Option.bind_some, ↓reduceIte, eq_self, ne_eq, not_true_eq_false, Bool.false_eq_true, not_false_eq_true, true_and, and_true, false_and, and_false, if_pos, if_neg, h5, hi1, hi2, a0, b0, unless_1, refused_0, answer_eq, hcl, bit_1, f_X9_diffOf_29_s2, z3, z4, e1, e2]
          exact op_ans0 h
        · rw [b01_f z] at hcl
          simp (disch := omega) only [↓lm1, ↓lm2, eq_n1, eq_n2, n1_eq, n2_eq, n1_n2, n2_n1, n1_lt, n2_lt, n1_le, lt_n1, lt_n2, inb_t, cl_t, le_tt, le_tf, lt_tt, lt_tf, eq_tt, eq_tf, q_add, q_mul, li0, li1, li2, li3, li4, li5, li6, li7, li8, li12, li16, li24, li48, li500, gF_sA, gA_sF, gF_sF, gR_sA, gR_sF, gL_sA, gL_sF, gA_sA, shl_t, or_t, and_t, sbit_t, ubit_t, b01_0, b01_1, Option.bind_some, ↓reduceIte, eq_self, ne_eq, not_true_eq_false, Bool.false_eq_true, not_false_eq_true, true_and, and_true, false_and, and_false, if_pos, if_neg, h5, hi1, hi2, a0, b0, unless_1, refused_0, answer_eq, hcl, bit_0, f_X9_diffOf_29_s2, z3, z4, e1, e2]
          exact op_ans0 h
    · rw [b01_f hW] at hi2
      simp (disch := omega) only [↓lm1, ↓lm2, eq_n1, eq_n2, n1_eq, n2_eq, n1_n2, n2_n1, n1_lt, n2_lt, n1_le, lt_n1, lt_n2, inb_t, cl_t, le_tt, le_tf, lt_tt, lt_tf, eq_tt, eq_tf, q_add, q_mul, li0, li1, li2, li3, li4, li5, li6, li7, li8, li12, li16, li24, li48, li500, gF_sA, gA_sF, gF_sF, gR_sA, gR_sF, gL_sA, gL_sF, gA_sA, shl_t, or_t, and_t, sbit_t, ubit_t, b01_0, b01_1, Option.bind_some, ↓reduceIte, eq_self, ne_eq, not_true_eq_false, Bool.false_eq_true, not_false_eq_true, true_and, and_true, false_and, and_false, if_pos, if_neg, h5, hi1, hi2, a0, b0, f_X9_diffOf_29_s2, unless_0, refused_1, refuse_eq, notT hW]
      exact op_ans0 h
  · rw [b01_f hnt] at hi1
    have hng : (x1 < nI 0) = True := eq_true hx
    simp (disch := omega) only [↓lm1, ↓lm2, eq_n1, eq_n2, n1_eq, n2_eq, n1_n2, n2_n1, n1_lt, n2_lt, n1_le, lt_n1, lt_n2, inb_t, cl_t, le_tt, le_tf, lt_tt, lt_tf, eq_tt, eq_tf, q_add, q_mul, li0, li1, li2, li3, li4, li5, li6, li7, li8, li12, li16, li24, li48, li500, gF_sA, gA_sF, gF_sF, gR_sA, gR_sF, gL_sA, gL_sF, gA_sA, shl_t, or_t, and_t, sbit_t, ubit_t, b01_0, b01_1, Option.bind_some, ↓reduceIte, eq_self, ne_eq, not_true_eq_false, Bool.false_eq_true, not_false_eq_true, true_and, and_true, false_and, and_false, if_pos, if_neg, h5, hi1, a0, b0, f_X9_diffOf_29_s2, unless_0, refused_1, refuse_eq, hng]
    exact op_ans0 h
  · rw [b01_f hnt] at hi1
    simp (disch := omega) only [↓lm1, ↓lm2, eq_n1, eq_n2, n1_eq, n2_eq, n1_n2, n2_n1, n1_lt, n2_lt, n1_le, lt_n1, lt_n2, inb_t, cl_t, le_tt, le_tf, lt_tt, lt_tf, eq_tt, eq_tf, q_add, q_mul, li0, li1, li2, li3, li4, li5, li6, li7, li8, li12, li16, li24, li48, li500, gF_sA, gA_sF, gF_sF, gR_sA, gR_sF, gL_sA, gL_sF, gA_sA, shl_t, or_t, and_t, sbit_t, ubit_t, b01_0, b01_1, Option.bind_some, ↓reduceIte, eq_self, ne_eq, not_true_eq_false, Bool.false_eq_true, not_false_eq_true, true_and, and_true, false_and, and_false, if_pos, if_neg, h5, hi1, a0, b0, f_X9_diffOf_29_s2, unless_0, refused_1, refuse_eq]
    exact op_ans0 h
theorem op_joinOf {N f nf : Nat} {tk : Nat → Nat} {R A : List Row} {NL : List (List Nat)} {tp : List Nat} {wx wm : Mem} (h : RelC wx wm f nf tk R A NL tp) (x1 x2 : Int32) : Op (f_X8_joinOf N wx x1 x2) (f_X9_joinOf N wm x1 x2) := by
  have hCI := h.ci
  obtain ⟨⟨⟨hf, h5, h6⟩, ⟨⟨xT, xG, xF⟩, xS, xQ, xD⟩, xFN, xA, xNm, xTp, xCo⟩, hM, hPp, hfa⟩ := id h
  have hM0 := hM.km (mAns_km (cS (run tk c0 (R ++ A))).length wm (nI 0))
  obtain ⟨⟨⟨mT, mR, mN, mJ, mJR, mFR⟩, mS, mQ⟩, mFN, mRW, m8, m9, mNm, mTp⟩ := id hM0
  have hn : (cL (run tk c0 (R ++ A))).length ≤ 24 := xT.1
  have x10 : gF wx 7 10 f = nI (cL (run tk c0 (R ++ A))).length := xT.2.2.1
  have m27 : gF wm 9 27 0 = nI (cL (run tk c0 (R ++ A))).length := hM.1.1.1.2.2.1
  have iX := isTermX (N := N) (show (cL (run tk c0 (R ++ A))).length < 1000 by omega) hf h5 x10
  have iM := isTermM (N := N) (w := wm) (show (cL (run tk c0 (R ++ A))).length < 1000 by omega) m27
  have a0 := xF.2.2.1
  have b0 : gF wm 9 39 0 = nI (cJ (run tk c0 (R ++ A))).length := mJ
  have hq8 := hCI.1.2.2.1.1
  have hi1 := in_ok (N := N) (w := wm) (n := (cJ (run tk c0 (R ++ A))).length) (by omega) x1
  have hi2 := in_ok2 (N := N) (w := wm) (n := 2) (by omega) x2
  rw [f_X8_joinOf, f_X9_joinOf]
  rcases isT_cases (cJ (run tk c0 (R ++ A))).length x1 (by omega) with ⟨g, hg, rfl⟩ | ⟨hx, hnt⟩ | ⟨k, hk1, hk2, rfl, hnt⟩
  · rw [b01_t (isT_nI hg)] at hi1
    by_cases hW : isT 3 x2
    · obtain ⟨q, hq, rfl⟩ := hW
      rw [b01_t (isT_nI hq)] at hi2
      obtain ⟨⟨a, b, cc, r⟩, hp⟩ := get_at (cJ (run tk c0 (R ++ A))) hg
      obtain ⟨y1, y2, y3, y4⟩ := xF.2.2.2.1 g a b cc r hp
      obtain ⟨z1, z2, z3, z4⟩ := mJR g a b cc r hp
      have hq' : q = 0 ∨ q = 1 ∨ q = 2 := by omega
      rcases hq' with rfl | rfl | rfl
      · simp (disch := omega) only [↓lm1, ↓lm2, eq_n1, eq_n2, n1_eq, n2_eq, n1_n2, n2_n1, n1_lt, n2_lt, n1_le, lt_n1, lt_n2, inb_t, cl_t, le_tt, le_tf, lt_tt, lt_tf, eq_tt, eq_tf, q_add, q_mul, li0, li1, li2, li3, li4, li5, li6, li7, li8, li12, li16, li24, li48, li500, gF_sA, gA_sF, gF_sF, gR_sA, gR_sF, gL_sA, gL_sF, gA_sA, shl_t, or_t, and_t, sbit_t, ubit_t, b01_0, b01_1, Option.bind_some, ↓reduceIte, eq_self, ne_eq, not_true_eq_false, Bool.false_eq_true, not_false_eq_true, true_and, and_true, false_and, and_false, if_pos, if_neg, h5, hi1, hi2, a0, b0, unless_1, refused_0, answer_eq, y1, f_X9_joinOf_29_s2, z1]
        exact op_ans0 h
      · simp (disch := omega) only [↓lm1, ↓lm2, eq_n1, eq_n2, n1_eq, n2_eq, n1_n2, n2_n1, n1_lt, n2_lt, n1_le, lt_n1, lt_n2, inb_t, cl_t, le_tt, le_tf, lt_tt, lt_tf, eq_tt, eq_tf, q_add, q_mul, li0, li1, li2, li3, li4, li5, li6, li7, li8, li12, li16, li24, li48, li500, gF_sA, gA_sF, gF_sF, gR_sA, gR_sF, gL_sA, gL_sF, gA_sA, shl_t, or_t, and_t, sbit_t, ubit_t, b01_0, b01_1, Option.bind_some, ↓reduceIte, eq_self, ne_eq, not_true_eq_false, Bool.false_eq_true, not_false_eq_true, true_and, and_true, false_and, and_false, if_pos, if_neg, h5, hi1, hi2, a0, b0, unless_1, refused_0, answer_eq, y2, f_X9_joinOf_29_s2, z2]
        exact op_ans0 h
      · cases cc with
        | none =>
          have l0 : (nI 0 ≤ n1) = False := eq_false (by decide)
          have y3' : gA wx 23 f g = n1 := y3
          have z3' : gA (mAns wm (nI 0)) 57 0 g = n2 := z3
          simp (disch := omega) only [↓lm1, ↓lm2, eq_n1, eq_n2, n1_eq, n2_eq, n1_n2, n2_n1, n1_lt, n2_lt, n1_le, lt_n1, lt_n2, inb_t, cl_t, le_tt, le_tf, lt_tt, lt_tf, eq_tt, eq_tf, q_add, q_mul, li0, li1, li2, li3, li4, li5, li6, li7, li8, li12, li16, li24, li48, li500, gF_sA, gA_sF, gF_sF, gR_sA, gR_sF, gL_sA, gL_sF, gA_sA, shl_t, or_t, and_t, sbit_t, ubit_t, b01_0, b01_1, Option.bind_some, ↓reduceIte, eq_self, ne_eq, not_true_eq_false, Bool.false_eq_true, not_false_eq_true, true_and, and_true, false_and, and_false, if_pos, if_neg, h5, hi1, hi2, a0, b0, unless_1, refused_0, answer_eq, y3', l0, f_X9_joinOf_29_s2, z3']
          exact op_ans0 h
        | some k =>
          have hk := (hCI.1.2.2.1.2 g a b (some k) r hp).2.2.2 k rfl
          have y3' : gA wx 23 f g = nI k := y3
          have z3' : gA (mAns wm (nI 0)) 57 0 g = nI k := z3
          simp (disch := omega) only [↓lm1, ↓lm2, eq_n1, eq_n2, n1_eq, n2_eq, n1_n2, n2_n1, n1_lt, n2_lt, n1_le, lt_n1, lt_n2, inb_t, cl_t, le_tt, le_tf, lt_tt, lt_tf, eq_tt, eq_tf, q_add, q_mul, li0, li1, li2, li3, li4, li5, li6, li7, li8, li12, li16, li24, li48, li500, gF_sA, gA_sF, gF_sF, gR_sA, gR_sF, gL_sA, gL_sF, gA_sA, shl_t, or_t, and_t, sbit_t, ubit_t, b01_0, b01_1, Option.bind_some, ↓reduceIte, eq_self, ne_eq, not_true_eq_false, Bool.false_eq_true, not_false_eq_true, true_and, and_true, false_and, and_false, if_pos, if_neg, h5, hi1, hi2, a0, b0, unless_1, refused_0, answer_eq, y3', f_X9_joinOf_29_s2, z3']
          exact op_ans0 h
    · rw [b01_f hW] at hi2
      simp (disch := omega) only [↓lm1, ↓lm2, eq_n1, eq_n2, n1_eq, n2_eq, n1_n2, n2_n1, n1_lt, n2_lt, n1_le, lt_n1, lt_n2, inb_t, cl_t, le_tt, le_tf, lt_tt, lt_tf, eq_tt, eq_tf, q_add, q_mul, li0, li1, li2, li3, li4, li5, li6, li7, li8, li12, li16, li24, li48, li500, gF_sA, gA_sF, gF_sF, gR_sA, gR_sF, gL_sA, gL_sF, gA_sA, shl_t, or_t, and_t, sbit_t, ubit_t, b01_0, b01_1, Option.bind_some, ↓reduceIte, eq_self, ne_eq, not_true_eq_false, Bool.false_eq_true, not_false_eq_true, true_and, and_true, false_and, and_false, if_pos, if_neg, h5, hi1, hi2, a0, b0, f_X9_joinOf_29_s2, unless_0, refused_1, refuse_eq, notT hW]
      exact op_ans0 h
  · rw [b01_f hnt] at hi1
    have hng : (x1 < nI 0) = True := eq_true hx
    simp (disch := omega) only [↓lm1, ↓lm2, eq_n1, eq_n2, n1_eq, n2_eq, n1_n2, n2_n1, n1_lt, n2_lt, n1_le, lt_n1, lt_n2, inb_t, cl_t, le_tt, le_tf, lt_tt, lt_tf, eq_tt, eq_tf, q_add, q_mul, li0, li1, li2, li3, li4, li5, li6, li7, li8, li12, li16, li24, li48, li500, gF_sA, gA_sF, gF_sF, gR_sA, gR_sF, gL_sA, gL_sF, gA_sA, shl_t, or_t, and_t, sbit_t, ubit_t, b01_0, b01_1, Option.bind_some, ↓reduceIte, eq_self, ne_eq, not_true_eq_false, Bool.false_eq_true, not_false_eq_true, true_and, and_true, false_and, and_false, if_pos, if_neg, h5, hi1, a0, b0, f_X9_joinOf_29_s2, unless_0, refused_1, refuse_eq, hng]
    exact op_ans0 h
  · rw [b01_f hnt] at hi1
    simp (disch := omega) only [↓lm1, ↓lm2, eq_n1, eq_n2, n1_eq, n2_eq, n1_n2, n2_n1, n1_lt, n2_lt, n1_le, lt_n1, lt_n2, inb_t, cl_t, le_tt, le_tf, lt_tt, lt_tf, eq_tt, eq_tf, q_add, q_mul, li0, li1, li2, li3, li4, li5, li6, li7, li8, li12, li16, li24, li48, li500, gF_sA, gA_sF, gF_sF, gR_sA, gR_sF, gL_sA, gL_sF, gA_sA, shl_t, or_t, and_t, sbit_t, ubit_t, b01_0, b01_1, Option.bind_some, ↓reduceIte, eq_self, ne_eq, not_true_eq_false, Bool.false_eq_true, not_false_eq_true, true_and, and_true, false_and, and_false, if_pos, if_neg, h5, hi1, a0, b0, f_X9_joinOf_29_s2, unless_0, refused_1, refuse_eq]
    exact op_ans0 h
