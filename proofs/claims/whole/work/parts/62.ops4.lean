/-! without, would, since -/
theorem oI_c {o : Option Nat} : oI o = match o with | some z => nI z | none => n2 := rfl
theorem fcX {N f n : Nat} {w : Mem} {ld : Nat → Nat} {Q : Prs} {g : Nat} (hQ : DS w f n Q) (hG : GS w g n ld) (hN : 8 < N) : f_X1_firstClash N w f g = some (oI (fcl ld Q)) := firstClash_ok hQ hG hN
theorem op_without {N f nf : Nat} {tk : Nat → Nat} {R A : List Row} {NL : List (List Nat)} {tp : List Nat} {wx wm : Mem} (hN : 276 < N) (h : RelC wx wm f nf tk R A NL tp) (x1 x2 : Int32) : Op (f_X8_without N wx x1 x2) (f_X9_without N wm x1 x2) := by
  have hCI := h.ci
  obtain ⟨⟨⟨hf, h5, h6⟩, ⟨⟨xT, xG, xF⟩, xS, xQ, xD⟩, xFN, xA, xNm, xTp, xCo⟩, hM, hPp, hfa⟩ := id h
  have hM0 := hM.km (mAns_km (cS (run tk c0 (R ++ A))).length wm (nI 0))
  obtain ⟨⟨⟨mT, mR, mN, mJ, mJR, mFR⟩, mS, mQ⟩, mFN, mRW, m8, m9, mNm, mTp⟩ := id hM0
  have hn : (cL (run tk c0 (R ++ A))).length ≤ 24 := xT.1
  have x10 : gF wx 7 10 f = nI (cL (run tk c0 (R ++ A))).length := xT.2.2.1
  have m27 : gF wm 9 27 0 = nI (cL (run tk c0 (R ++ A))).length := hM.1.1.1.2.2.1
  have iX := isTermX (N := N) (show (cL (run tk c0 (R ++ A))).length < 1000 by omega) hf h5 x10
  have iM := isTermM (N := N) (w := wm) (show (cL (run tk c0 (R ++ A))).length < 1000 by omega) m27
  have hs12 : (cSs tk R A).length ≤ 12 := hCI.2.2.1.1
  have hfl := full_lt (cSs tk R A).length
  have hfs : full (cSs tk R A).length < 4096 := Nat.lt_of_lt_of_le hfl (p2le (b := 12) hs12)
  have x9 : gF wx 1 9 f = nI (cSs tk R A).length := xS.2.1
  have m30 : gF (mAns wm (nI 0)) 9 30 0 = nI (cSs tk R A).length := mS.2.1
  have m30' : gF wm 9 30 0 = nI (cSs tk R A).length := hM.1.2.1.2.1
  have aX := allX (N := N) (f := f) hs12 x9
  have aM := allM (N := N) hs12 m30
  have hi1 := in_ok (N := N) (w := wm) (n := (cSs tk R A).length) (by omega) x1
  have hi2 := in_ok2 (N := N) (w := wm) (n := 1) (by omega) x2
  have hsx := isSameX (N := N) (show (cSs tk R A).length < 1000 by omega) hf h5 x9 x1
  rw [f_X8_without, f_X9_without, hsx]
  by_cases hT : isT (cSs tk R A).length x1
  · rw [b01_t hT] at hi1 ⊢
    obtain ⟨k, hk, rfl⟩ := hT
    have hcl : clr (full (cSs tk R A).length) k < 2 ^ (cSs tk R A).length := clr_lt hfl
    have hcl2 : clr (full (cSs tk R A).length) k < 4096 := clr_lt (n := 12) hfs
    rcases isT_cases 2 x2 (by omega) with ⟨q, hq, rfl⟩ | ⟨hx, hnt⟩ | ⟨q, hk1, hk2, rfl, hnt⟩
    · rw [b01_t (isT_nI hq)] at hi2
      obtain ⟨v, a1, a2, a3⟩ := h.1.closeBy (g := 0) (b := clr (full (cSs tk R A).length) k) hN (by omega) (by omega)
      obtain ⟨u, b1, b2, b3⟩ := closesBy_ok hN mT mS.rp hcl
      have hv := h.1.kx a3
      have g5 : gR v 8 5 0 = f := hv.1.2.1
      have e1 := a2.2.2.2.1
      have e2 := fcX (N := N) hv.2.1.2.2.1 a2 (by omega)
      have hu := (hM0.km (FrK.km b3 (by omega) _))
      have e3 := groupsIn_ok (N := N) (k := 59) rfl (by omega) b2
      have e4 := clashIn_ok (N := N) (k := 59) rfl (by omega) b2 hu.1.2.2
      have e3' : f_X9_groupsIn N u 59 = some (nI (cntG (cL (run tk c0 (R ++ A))).length (ldE (cT tk R A) (Pk (cSs tk R A) (clr (full (cSs tk R A).length) k))))) := e3
      have e4' : f_X9_clashIn N u 59 = some (oI (fcl (ldE (cT tk R A) (Pk (cSs tk R A) (clr (full (cSs tk R A).length) k))) (cQ (run tk c0 (R ++ A))))) := e4
      have hq' : q = 0 ∨ q = 1 := by omega
      rcases hq' with rfl | rfl
      · simp (disch := omega) only [↓lm1, ↓lm2, eq_n1, eq_n2, n1_eq, n2_eq, n1_n2, n2_n1, n1_lt, n2_lt, n1_le, lt_n1, lt_n2, inb_t, cl_t, le_tt, le_tf, lt_tt, lt_tf, eq_tt, eq_tf, q_add, q_mul, li0, li1, li2, li3, li4, li5, li6, li7, li8, li12, li16, li24, li48, li500, gF_sA, gA_sF, gF_sF, gR_sA, gR_sF, gL_sA, gL_sF, gA_sA, shl_t, or_t, and_t, sbit_t, ubit_t, b01_0, b01_1, Option.bind_some, ↓reduceIte, eq_self, ne_eq, not_true_eq_false, Bool.false_eq_true, not_false_eq_true, true_and, and_true, false_and, and_false, if_pos, if_neg, h5, hi1, hi2, m30', aX, clr_t, a1, e1, answer_eq, f_X9_without_29_s2, unless_1, refused_0, aM, b1, e3']
        exact op_ans h a3 (b3.km (by omega) _) (FrK.ans b3).1 (FrK.ans b3).2 rfl
      · simp (disch := omega) only [↓lm1, ↓lm2, eq_n1, eq_n2, n1_eq, n2_eq, n1_n2, n2_n1, n1_lt, n2_lt, n1_le, lt_n1, lt_n2, inb_t, cl_t, le_tt, le_tf, lt_tt, lt_tf, eq_tt, eq_tf, q_add, q_mul, li0, li1, li2, li3, li4, li5, li6, li7, li8, li12, li16, li24, li48, li500, gF_sA, gA_sF, gF_sF, gR_sA, gR_sF, gL_sA, gL_sF, gA_sA, shl_t, or_t, and_t, sbit_t, ubit_t, b01_0, b01_1, Option.bind_some, ↓reduceIte, eq_self, ne_eq, not_true_eq_false, Bool.false_eq_true, not_false_eq_true, true_and, and_true, false_and, and_false, if_pos, if_neg, h5, hi1, hi2, m30', aX, clr_t, a1, g5, e2, answer_eq, f_X9_without_29_s2, unless_1, refused_0, aM, b1, e4']
        exact op_ans h a3 (b3.km (by omega) _) (FrK.ans b3).1 (FrK.ans b3).2 rfl
    · have hng : (x2 < nI 0) = True := eq_true hx
      rw [b01_f hnt] at hi2
      simp (disch := omega) only [↓lm1, ↓lm2, eq_n1, eq_n2, n1_eq, n2_eq, n1_n2, n2_n1, n1_lt, n2_lt, n1_le, lt_n1, lt_n2, inb_t, cl_t, le_tt, le_tf, lt_tt, lt_tf, eq_tt, eq_tf, q_add, q_mul, li0, li1, li2, li3, li4, li5, li6, li7, li8, li12, li16, li24, li48, li500, gF_sA, gA_sF, gF_sF, gR_sA, gR_sF, gL_sA, gL_sF, gA_sA, shl_t, or_t, and_t, sbit_t, ubit_t, b01_0, b01_1, Option.bind_some, ↓reduceIte, eq_self, ne_eq, not_true_eq_false, Bool.false_eq_true, not_false_eq_true, true_and, and_true, false_and, and_false, if_pos, if_neg, hi1, hi2, m30', hng, refuse_eq, f_X9_without_29_s2, unless_0, refused_1]
      exact op_ans0 h
    · rw [b01_f hnt] at hi2
      simp (disch := omega) only [↓lm1, ↓lm2, eq_n1, eq_n2, n1_eq, n2_eq, n1_n2, n2_n1, n1_lt, n2_lt, n1_le, lt_n1, lt_n2, inb_t, cl_t, le_tt, le_tf, lt_tt, lt_tf, eq_tt, eq_tf, q_add, q_mul, li0, li1, li2, li3, li4, li5, li6, li7, li8, li12, li16, li24, li48, li500, gF_sA, gA_sF, gF_sF, gR_sA, gR_sF, gL_sA, gL_sF, gA_sA, shl_t, or_t, and_t, sbit_t, ubit_t, b01_0, b01_1, Option.bind_some, ↓reduceIte, eq_self, ne_eq, not_true_eq_false, Bool.false_eq_true, not_false_eq_true, true_and, and_true, false_and, and_false, if_pos, if_neg, hi1, hi2, m30', refuse_eq, f_X9_without_29_s2, unless_0, refused_1]
      exact op_ans0 h
  · rw [b01_f hT] at hi1 ⊢
    simp (disch := omega) only [↓lm1, ↓lm2, eq_n1, eq_n2, n1_eq, n2_eq, n1_n2, n2_n1, n1_lt, n2_lt, n1_le, lt_n1, lt_n2, inb_t, cl_t, le_tt, le_tf, lt_tt, lt_tf, eq_tt, eq_tf, q_add, q_mul, li0, li1, li2, li3, li4, li5, li6, li7, li8, li12, li16, li24, li48, li500, gF_sA, gA_sF, gF_sF, gR_sA, gR_sF, gL_sA, gL_sF, gA_sA, shl_t, or_t, and_t, sbit_t, ubit_t, b01_0, b01_1, Option.bind_some, ↓reduceIte, eq_self, ne_eq, not_true_eq_false, Bool.false_eq_true, not_false_eq_true, true_and, and_true, false_and, and_false, if_pos, if_neg, hi1, m30', refuse_eq, f_X9_without_29_s2, unless_0, refused_1]
    exact op_ans0 h
/-- the sames, and one of t and u -/
def Ew (S : Prs) (t u : Nat) : Nat → Nat → Prop := fun x y => inS S x y ∨ (x = t ∧ y = u)
theorem pk_with {S : Prs} {t u : Nat} : Pk (S ++ [(t, u)]) (full (S.length + 1)) = Ew S t u := by
  funext i; funext j
  apply propext
  have := pk_full (S := S ++ [(t, u)]) i j
  rw [List.length_append] at this
  refine this.trans ?_
  constructor
  · intro h
    rcases List.mem_append.mp h with q | q
    · exact Or.inl q
    · obtain ⟨rfl, rfl⟩ := Prod.mk.inj (List.mem_singleton.mp q)
      exact Or.inr ⟨rfl, rfl⟩
  · rintro (q | ⟨rfl, rfl⟩)
    · exact List.mem_append_left _ q
    · exact List.mem_append_right _ List.mem_cons_self
theorem full_or (s : Nat) : full s ||| 2 ^ s = full (s + 1) := by
  apply Nat.eq_of_testBit_eq
  intro i
  rw [or_bit, full_bit, full_bit]
  by_cases e : i = s
  · subst e; simp
  · rw [decide_eq_false e, Bool.or_false]
    by_cases h : i < s
    · rw [decide_eq_true h, decide_eq_true (by omega)]
    · rw [decide_eq_false h, decide_eq_false (by omega)]
theorem closesWith_ok {N nf t u : Nat} {tk : Nat → Nat} {R A : List Row} {NL : List (List Nat)} {tp : List Nat} {w : Mem} (hN : 276 < N) (h : RelM w nf tk R A NL tp) (ht : t < (cL (run tk c0 (R ++ A))).length) (hu : u < (cL (run tk c0 (R ++ A))).length) : ∃ w', f_X9_closesWith N w (nI t) (nI u) = some w' ∧ RS w' 59 (cL (run tk c0 (R ++ A))).length (ldE (cT tk R A) (Ew (cSs tk R A) t u)) ∧ KM (cSs tk R A).length w w' ∧ ∀ j, gF w' 9 j 0 = gF w 9 j 0 := by
  obtain ⟨⟨mT, mR, -⟩, mS, mQ⟩ := h.1
  have hs12 : (cSs tk R A).length ≤ 12 := mS.1
  have m30 : gF w 9 30 0 = nI (cSs tk R A).length := mS.2.1
  let w1 : Mem := sA (sA w 48 0 (cSs tk R A).length (nI t)) 49 0 (cSs tk R A).length (nI u)
  have hw1 : Fr (fun _ _ _ => False) (fun k i => (k = 48 ∨ k = 49) ∧ i = 0) w w1 := ⟨fun _ _ _ _ => rfl, fun k i z => by
    show gA (sA (sA w 48 0 (cSs tk R A).length (nI t)) 49 0 (cSs tk R A).length (nI u)) k i = _
    rw [gA_sA_ne (fun y => z ⟨Or.inr y.1, y.2⟩), gA_sA_ne (fun y => z ⟨Or.inl y.1, y.2⟩)], fun _ _ => rfl, fun _ _ _ => rfl⟩
  have hk1 : KM (cSs tk R A).length w w1 := ⟨fun _ _ _ _ => rfl, fun k i z => hw1.2.1 k i (fun y => by omega), fun p hp => by
    show gA (sA (sA w 48 0 (cSs tk R A).length (nI t)) 49 0 (cSs tk R A).length (nI u)) 48 0 p = _ ∧ gA (sA (sA w 48 0 (cSs tk R A).length (nI t)) 49 0 (cSs tk R A).length (nI u)) 49 0 p = _
    refine ⟨?_, ?_⟩ <;> simp (disch := omega) only [↓lm1, ↓lm2, eq_n1, eq_n2, n1_eq, n2_eq, n1_n2, n2_n1, n1_lt, n2_lt, n1_le, lt_n1, lt_n2, inb_t, cl_t, le_tt, le_tf, lt_tt, lt_tf, eq_tt, eq_tf, q_add, q_mul, li0, li1, li2, li3, li4, li5, li6, li7, li8, li12, li16, li24, li48, li500, gF_sA, gA_sF, gF_sF, gR_sA, gR_sF, gL_sA, gL_sF, gA_sA, shl_t, or_t, and_t, sbit_t, ubit_t, b01_0, b01_1, Option.bind_some, ↓reduceIte, eq_self, ne_eq, not_true_eq_false, Bool.false_eq_true, not_false_eq_true, true_and, and_true, false_and, and_false, if_pos, if_neg]⟩
  have hRP : RP w1 (tN (cT tk R A)) (cSs tk R A ++ [(t, u)]) := by
    refine ⟨by rw [List.length_append]; show _ + 1 ≤ 13; omega, fun p i j hp => ?_⟩
    show _ ∧ _ ∧ gA (sA (sA w 48 0 (cSs tk R A).length (nI t)) 49 0 (cSs tk R A).length (nI u)) 48 0 p = _ ∧ gA (sA (sA w 48 0 (cSs tk R A).length (nI t)) 49 0 (cSs tk R A).length (nI u)) 49 0 p = _
    rcases get_snoc hp with ⟨g1, g2⟩ | ⟨g1, g2⟩
    · obtain ⟨k1, k2, k3, k4⟩ := mS.2.2 p i j g2
      refine ⟨k1, k2, k3 ▸ ?_, k4 ▸ ?_⟩ <;> simp (disch := omega) only [↓lm1, ↓lm2, eq_n1, eq_n2, n1_eq, n2_eq, n1_n2, n2_n1, n1_lt, n2_lt, n1_le, lt_n1, lt_n2, inb_t, cl_t, le_tt, le_tf, lt_tt, lt_tf, eq_tt, eq_tf, q_add, q_mul, li0, li1, li2, li3, li4, li5, li6, li7, li8, li12, li16, li24, li48, li500, gF_sA, gA_sF, gF_sF, gR_sA, gR_sF, gL_sA, gL_sF, gA_sA, shl_t, or_t, and_t, sbit_t, ubit_t, b01_0, b01_1, Option.bind_some, ↓reduceIte, eq_self, ne_eq, not_true_eq_false, Bool.false_eq_true, not_false_eq_true, true_and, and_true, false_and, and_false, if_pos, if_neg]
    · obtain ⟨rfl, rfl⟩ := Prod.mk.inj g2
      subst g1
      refine ⟨ht, hu, ?_, ?_⟩ <;> simp (disch := omega) only [↓lm1, ↓lm2, eq_n1, eq_n2, n1_eq, n2_eq, n1_n2, n2_n1, n1_lt, n2_lt, n1_le, lt_n1, lt_n2, inb_t, cl_t, le_tt, le_tf, lt_tt, lt_tf, eq_tt, eq_tf, q_add, q_mul, li0, li1, li2, li3, li4, li5, li6, li7, li8, li12, li16, li24, li48, li500, gF_sA, gA_sF, gF_sF, gR_sA, gR_sF, gL_sA, gL_sF, gA_sA, shl_t, or_t, and_t, sbit_t, ubit_t, b01_0, b01_1, Option.bind_some, ↓reduceIte, eq_self, ne_eq, not_true_eq_false, Bool.false_eq_true, not_false_eq_true, true_and, and_true, false_and, and_false, if_pos, if_neg]
  have hT1 : MT w1 (cT tk R A) := mT.fr hw1 (fun _ _ _ z => z.elim) (fun _ _ z => by omega)
  obtain ⟨w2, a1, a2, a3⟩ := closesBy_ok hN hT1 hRP (b := full ((cSs tk R A).length + 1)) (by rw [List.length_append]; exact full_lt _)
  rw [pk_with] at a2
  refine ⟨w2, ?_, a2, hk1.tr (FrK.km a3 (by omega) _), fun j => a3.F _ _ _⟩
  have m30a : gF (sA (sA w 48 0 (cSs tk R A).length (nI t)) 49 0 (cSs tk R A).length (nI u)) 9 30 0 = nI (cSs tk R A).length := m30
  have aM := allM (N := N) hs12 m30a
  have a1' : f_X9_closesBy N (sA (sA w 48 0 (cSs tk R A).length (nI t)) 49 0 (cSs tk R A).length (nI u)) (nI (full ((cSs tk R A).length + 1))) = some w2 := a1
  rw [f_X9_closesWith]
  simp (disch := omega) only [↓lm1, ↓lm2, eq_n1, eq_n2, n1_eq, n2_eq, n1_n2, n2_n1, n1_lt, n2_lt, n1_le, lt_n1, lt_n2, inb_t, cl_t, le_tt, le_tf, lt_tt, lt_tf, eq_tt, eq_tf, q_add, q_mul, li0, li1, li2, li3, li4, li5, li6, li7, li8, li12, li16, li24, li48, li500, gF_sA, gA_sF, gF_sF, gR_sA, gR_sF, gL_sA, gL_sF, gA_sA, shl_t, or_t, and_t, sbit_t, ubit_t, b01_0, b01_1, Option.bind_some, ↓reduceIte, eq_self, ne_eq, not_true_eq_false, Bool.false_eq_true, not_false_eq_true, true_and, and_true, false_and, and_false, if_pos, if_neg, m30, aM, full_or, a1']
theorem suppose_ok {N f nf t u : Nat} {tk : Nat → Nat} {R A : List Row} {NL : List (List Nat)} {tp : List Nat} {w : Mem} (hN : 276 < N) (h : RelX w f nf tk R A NL tp) (hCI : CI tk nf (run tk c0 (R ++ A))) (ht : t < (cL (run tk c0 (R ++ A))).length) (hu : u < (cL (run tk c0 (R ++ A))).length) : ∃ w1 w2, f_X3_copyFrom N w 0 (2 + f) = some w1 ∧ f_X1_supposeSame N w1 f (nI t) (nI u) 0 = some w2 ∧ KX w w1 ∧ KX w w2 ∧ GS w1 0 (cL (run tk c0 (R ++ A))).length (ldJ (cJ (run tk c0 (R ++ A)))) ∧ GS w2 0 (cL (run tk c0 (R ++ A))).length (ldE (cT tk R A) (Ew (cSs tk R A) t u)) := by
  obtain ⟨w1, a1, a2, a3⟩ := copyFrom_ok h.2.1.1.2.1 N (g := 0) (by omega)
  have k1 : KX w w1 := a3.kx (fun k j i z => by omega) (fun k i z => by omega)
  have h1 := h.kx k1
  obtain ⟨w2, ld', b1, b2, b3, b4⟩ := supposeSame_ok (E := inS (cSs tk R A)) hN h1.2.1.1.1 a2 hCI.2.1 (fun i j hij => hCI.2.2.1.2 i j hij) ht hu
  exact ⟨w1, w2, a1, b1, k1, k1.tr (b4.kx (fun k j i z => by omega) (fun k i z => by omega)), a2, b2.toE h.2.1.1.1.2.1 b3⟩
theorem op_would {N f nf : Nat} {tk : Nat → Nat} {R A : List Row} {NL : List (List Nat)} {tp : List Nat} {wx wm : Mem} (hN : 276 < N) (h : RelC wx wm f nf tk R A NL tp) (x1 x2 x3 : Int32) : Op (f_X8_would N wx x1 x2 x3) (f_X9_would N wm x1 x2 x3) := by
  have hCI := h.ci
  obtain ⟨⟨⟨hf, h5, h6⟩, ⟨⟨xT, xG, xF⟩, xS, xQ, xD⟩, xFN, xA, xNm, xTp, xCo⟩, hM, hPp, hfa⟩ := id h
  have hM0 := hM.km (mAns_km (cS (run tk c0 (R ++ A))).length wm (nI 0))
  obtain ⟨⟨⟨mT, mR, mN, mJ, mJR, mFR⟩, mS, mQ⟩, mFN, mRW, m8, m9, mNm, mTp⟩ := id hM0
  have hn : (cL (run tk c0 (R ++ A))).length ≤ 24 := xT.1
  have x10 : gF wx 7 10 f = nI (cL (run tk c0 (R ++ A))).length := xT.2.2.1
  have m27 : gF wm 9 27 0 = nI (cL (run tk c0 (R ++ A))).length := hM.1.1.1.2.2.1
  have iX := isTermX (N := N) (show (cL (run tk c0 (R ++ A))).length < 1000 by omega) hf h5 x10
  have iM := isTermM (N := N) (w := wm) (show (cL (run tk c0 (R ++ A))).length < 1000 by omega) m27
  have hi3 := in_ok2 (N := N) (w := wm) (n := 2) (by omega) x3
  rw [f_X8_would, f_X9_would, iX, iX, iM, iM]
  by_cases hT : isT (cL (run tk c0 (R ++ A))).length x1
  · by_cases hU : isT (cL (run tk c0 (R ++ A))).length x2
    · obtain ⟨t, ht, rfl⟩ := hT
      obtain ⟨u, hu, rfl⟩ := hU
      rw [b01_t (isT_nI ht), b01_t (isT_nI hu)]
      rcases isT_cases 3 x3 (by omega) with ⟨q, hq, rfl⟩ | ⟨hx, hnt⟩ | ⟨q, hk1, hk2, rfl, hnt⟩
      · rw [b01_t (isT_nI hq)] at hi3
        obtain ⟨v1, v2, a1, a2, a3, a4, a5, a6⟩ := suppose_ok hN h.1 hCI ht hu
        obtain ⟨v, b1, b2, b3, b4⟩ := closesWith_ok hN hM0 ht hu
        have hv1 := h.1.kx a3
        have hv2 := h.1.kx a4
        have g5 : gR v1 8 5 0 = f := hv1.1.2.1
        have g5' : gR v2 8 5 0 = f := hv2.1.2.1
        have e1 := a6.2.2.2.1
        have e2 := fcX (N := N) hv2.2.1.2.2.1 a6 (by omega)
        have e3 := hv2.2.1.1.2.1.2.2.2.1
        have hmv := hM0.km b3
        have c1 := groupsIn_ok (N := N) (k := 59) rfl (by omega) b2
        have c2 := clashIn_ok (N := N) (k := 59) rfl (by omega) b2 hmv.1.2.2
        have c3 := groupsIn_ok (N := N) (k := 52) rfl (by omega) hmv.1.1.2.1
        have c3' : f_X9_groupsIn N v 52 = some (nI (cntG (tN (mkT tk (cL (run tk c0 (R ++ A))))) (ldJ (cJ (run tk c0 (R ++ A)))))) := c3
        have t1 : gF v 9 1 0 = nI 0 := (b4 1).trans (mAns_1 _ _)
        have t3 : gF v 9 3 0 = n1 := (b4 3).trans (mAns_3 _ _)
        have hq' : q = 0 ∨ q = 1 ∨ q = 2 := by omega
        rcases hq' with rfl | rfl | rfl
        · simp (disch := omega) only [↓lm1, ↓lm2, eq_n1, eq_n2, n1_eq, n2_eq, n1_n2, n2_n1, n1_lt, n2_lt, n1_le, lt_n1, lt_n2, inb_t, cl_t, le_tt, le_tf, lt_tt, lt_tf, eq_tt, eq_tf, q_add, q_mul, li0, li1, li2, li3, li4, li5, li6, li7, li8, li12, li16, li24, li48, li500, gF_sA, gA_sF, gF_sF, gR_sA, gR_sF, gL_sA, gL_sF, gA_sA, shl_t, or_t, and_t, sbit_t, ubit_t, b01_0, b01_1, Option.bind_some, ↓reduceIte, eq_self, ne_eq, not_true_eq_false, Bool.false_eq_true, not_false_eq_true, true_and, and_true, false_and, and_false, if_pos, if_neg, h5, hi3, a1, g5, a2, e1, answer_eq, f_X9_would_31_s2, unless_1, refused_0, b1, c1]
          exact op_ans h a4 b3 t1 t3 rfl
        · simp (disch := omega) only [↓lm1, ↓lm2, eq_n1, eq_n2, n1_eq, n2_eq, n1_n2, n2_n1, n1_lt, n2_lt, n1_le, lt_n1, lt_n2, inb_t, cl_t, le_tt, le_tf, lt_tt, lt_tf, eq_tt, eq_tf, q_add, q_mul, li0, li1, li2, li3, li4, li5, li6, li7, li8, li12, li16, li24, li48, li500, gF_sA, gA_sF, gF_sF, gR_sA, gR_sF, gL_sA, gL_sF, gA_sA, shl_t, or_t, and_t, sbit_t, ubit_t, b01_0, b01_1, Option.bind_some, ↓reduceIte, eq_self, ne_eq, not_true_eq_false, Bool.false_eq_true, not_false_eq_true, true_and, and_true, false_and, and_false, if_pos, if_neg, h5, hi3, a1, g5, a2, g5', e2, answer_eq, f_X9_would_31_s2, unless_1, refused_0, b1, c2]
          exact op_ans h a4 b3 t1 t3 rfl
        · simp (disch := omega) only [↓lm1, ↓lm2, eq_n1, eq_n2, n1_eq, n2_eq, n1_n2, n2_n1, n1_lt, n2_lt, n1_le, lt_n1, lt_n2, inb_t, cl_t, le_tt, le_tf, lt_tt, lt_tf, eq_tt, eq_tf, q_add, q_mul, li0, li1, li2, li3, li4, li5, li6, li7, li8, li12, li16, li24, li48, li500, gF_sA, gA_sF, gF_sF, gR_sA, gR_sF, gL_sA, gL_sF, gA_sA, shl_t, or_t, and_t, sbit_t, ubit_t, b01_0, b01_1, Option.bind_some, ↓reduceIte, eq_self, ne_eq, not_true_eq_false, Bool.false_eq_true, not_false_eq_true, true_and, and_true, false_and, and_false, if_pos, if_neg, h5, hi3, a1, g5, a2, g5', e1, e3, answer_eq, f_X9_would_31_s2, unless_1, refused_0, b1, c1, c3']
          exact op_ans h a4 b3 t1 t3 rfl
      · have hng : (x3 < nI 0) = True := eq_true hx
        rw [b01_f hnt] at hi3
        simp (disch := omega) only [↓lm1, ↓lm2, eq_n1, eq_n2, n1_eq, n2_eq, n1_n2, n2_n1, n1_lt, n2_lt, n1_le, lt_n1, lt_n2, inb_t, cl_t, le_tt, le_tf, lt_tt, lt_tf, eq_tt, eq_tf, q_add, q_mul, li0, li1, li2, li3, li4, li5, li6, li7, li8, li12, li16, li24, li48, li500, gF_sA, gA_sF, gF_sF, gR_sA, gR_sF, gL_sA, gL_sF, gA_sA, shl_t, or_t, and_t, sbit_t, ubit_t, b01_0, b01_1, Option.bind_some, ↓reduceIte, eq_self, ne_eq, not_true_eq_false, Bool.false_eq_true, not_false_eq_true, true_and, and_true, false_and, and_false, if_pos, if_neg, hi3, hng, refuse_eq, f_X9_would_31_s2, unless_0, refused_1]
        exact op_ans0 h
      · rw [b01_f hnt] at hi3
        simp (disch := omega) only [↓lm1, ↓lm2, eq_n1, eq_n2, n1_eq, n2_eq, n1_n2, n2_n1, n1_lt, n2_lt, n1_le, lt_n1, lt_n2, inb_t, cl_t, le_tt, le_tf, lt_tt, lt_tf, eq_tt, eq_tf, q_add, q_mul, li0, li1, li2, li3, li4, li5, li6, li7, li8, li12, li16, li24, li48, li500, gF_sA, gA_sF, gF_sF, gR_sA, gR_sF, gL_sA, gL_sF, gA_sA, shl_t, or_t, and_t, sbit_t, ubit_t, b01_0, b01_1, Option.bind_some, ↓reduceIte, eq_self, ne_eq, not_true_eq_false, Bool.false_eq_true, not_false_eq_true, true_and, and_true, false_and, and_false, if_pos, if_neg, hi3, refuse_eq, f_X9_would_31_s2, unless_0, refused_1]
        exact op_ans0 h
    · rw [b01_t hT, b01_f hU]
      simp (disch := omega) only [↓lm1, ↓lm2, eq_n1, eq_n2, n1_eq, n2_eq, n1_n2, n2_n1, n1_lt, n2_lt, n1_le, lt_n1, lt_n2, inb_t, cl_t, le_tt, le_tf, lt_tt, lt_tf, eq_tt, eq_tf, q_add, q_mul, li0, li1, li2, li3, li4, li5, li6, li7, li8, li12, li16, li24, li48, li500, gF_sA, gA_sF, gF_sF, gR_sA, gR_sF, gL_sA, gL_sF, gA_sA, shl_t, or_t, and_t, sbit_t, ubit_t, b01_0, b01_1, Option.bind_some, ↓reduceIte, eq_self, ne_eq, not_true_eq_false, Bool.false_eq_true, not_false_eq_true, true_and, and_true, false_and, and_false, if_pos, if_neg, refuse_eq, f_X9_would_31_s2, unless_0, refused_1]
      exact op_ans0 h
  · rw [b01_f hT]
    simp (disch := omega) only [↓lm1, ↓lm2, eq_n1, eq_n2, n1_eq, n2_eq, n1_n2, n2_n1, n1_lt, n2_lt, n1_le, lt_n1, lt_n2, inb_t, cl_t, le_tt, le_tf, lt_tt, lt_tf, eq_tt, eq_tf, q_add, q_mul, li0, li1, li2, li3, li4, li5, li6, li7, li8, li12, li16, li24, li48, li500, gF_sA, gA_sF, gF_sF, gR_sA, gR_sF, gL_sA, gL_sF, gA_sA, shl_t, or_t, and_t, sbit_t, ubit_t, b01_0, b01_1, Option.bind_some, ↓reduceIte, eq_self, ne_eq, not_true_eq_false, Bool.false_eq_true, not_false_eq_true, true_and, and_true, false_and, and_false, if_pos, if_neg, refuse_eq, f_X9_would_31_s2, unless_0, refused_1]
    exact op_ans0 h
theorem pk_first {S : Prs} {k i j : Nat} : Pk S (full k) i j ↔ ∃ p, p < k ∧ S[p]? = some (i, j) := by
  constructor
  · rintro ⟨p, h1, h2⟩
    rw [full_bit] at h1
    exact ⟨p, of_decide_eq_true h1, h2⟩
  · rintro ⟨p, h1, h2⟩
    exact ⟨p, by rw [full_bit]; exact decide_eq_true h1, h2⟩
theorem op_since {N f nf : Nat} {tk : Nat → Nat} {R A : List Row} {NL : List (List Nat)} {tp : List Nat} {wx wm : Mem} (hN : 276 < N) (h : RelC wx wm f nf tk R A NL tp) (x1 x2 : Int32) : Op (f_X8_since N wx x1 x2) (f_X9_since N wm x1 x2) := by
  rcases h.why (N := N) x1 x2 with ⟨q, hq, e1, e2⟩ | ⟨t, u, rfl, rfl, ht, hu, hl, e1, e2⟩
  · rw [f_X8_since, f_X9_since, e1, e2, Option.bind_some, Option.bind_some, refused_n N wm (by omega) (by omega)]
    simp (disch := omega) only [↓lm1, ↓lm2, eq_n1, eq_n2, n1_eq, n2_eq, n1_n2, n2_n1, n1_lt, n2_lt, n1_le, lt_n1, lt_n2, inb_t, cl_t, le_tt, le_tf, lt_tt, lt_tf, eq_tt, eq_tf, q_add, q_mul, li0, li1, li2, li3, li4, li5, li6, li7, li8, li12, li16, li24, li48, li500, gF_sA, gA_sF, gF_sF, gR_sA, gR_sF, gL_sA, gL_sF, gA_sA, shl_t, or_t, and_t, sbit_t, ubit_t, b01_0, b01_1, Option.bind_some, ↓reduceIte, eq_self, ne_eq, not_true_eq_false, Bool.false_eq_true, not_false_eq_true, true_and, and_true, false_and, and_false, if_pos, if_neg, refuse_eq]
    exact op_ans0 h
  · have hCI := h.ci
    have hs12 : (cSs tk R A).length ≤ 12 := hCI.2.2.1.1
    have hM0 := h.2.1.km (mAns_km (cS (run tk c0 (R ++ A))).length wm (nI 0))
    have hTO : TOK (cT tk R A) := hCI.1.1
    have hfull : By (cT tk R A) (cSs tk R A) (full (cSs tk R A).length) t u := (by_full t u).mpr ((hCI.2.1 t u ht hu).mp hl)
    -- the least k
    obtain ⟨k0, hk0, hk1, hk2⟩ : ∃ k0, k0 ≤ (cSs tk R A).length ∧ By (cT tk R A) (cSs tk R A) (full k0) t u ∧ ∀ j, j < k0 → ¬ By (cT tk R A) (cSs tk R A) (full j) t u := by
      have hs := lsF_spec (fun j => @decide (By (cT tk R A) (cSs tk R A) (full j) t u) (Classical.propDecidable _)) (cSs tk R A).length 0 ⟨(cSs tk R A).length, by omega, by omega, (@decide_eq_true_iff _ (Classical.propDecidable _)).mpr hfull⟩
      obtain ⟨s1, s2, s3, s4⟩ := hs
      refine ⟨_, by omega, (@decide_eq_true_iff _ (Classical.propDecidable _)).mp s1, fun j hj hc => ?_⟩
      have h5 := s4 j (by omega) hj
      have h6 := (@decide_eq_true_iff _ (Classical.propDecidable _)).mpr hc
      simp only [h6] at h5
      cases h5
    have keyX : ∀ r fuel k w, k + r = k0 → r < fuel → KX wx w → GS w 0 (cL (run tk c0 (R ++ A))).length (ldE (cT tk R A) (Pk (cSs tk R A) (full k))) → ∃ w', lp_X8_since_32 (fun (w_6 : Mem) (u4_6 : Int32) => (f_X8_since_93 N w_6 u4_6)) N (nI t) (nI u) fuel w (nI k) = some (xAns w' (nI 0), nI k0) ∧ KX wx w' := by
      intro r
      induction r with
      | zero =>
        intro fuel k w hk hf' hw hG
        obtain ⟨f', rfl⟩ : ∃ f, fuel = f + 1 := ⟨fuel - 1, by omega⟩
        have hw' := h.1.kx hw
        have h5 := hw'.1.2.1
        have hf := hw'.1.1
        have x9 : gF w 1 9 f = nI (cSs tk R A).length := hw'.2.1.2.1.2.1
        have e : k = k0 := by omega
        subst e
        refine ⟨w, ?_, hw⟩
        have ho := one_ok hG N ht hu
        rw [b01_i, b01_t ((ldE_iff hTO t u ht hu).mpr hk1)] at ho
        rw [lp_X8_since_32]
        by_cases z : k = (cSs tk R A).length
        · simp (disch := omega) only [↓lm1, ↓lm2, eq_n1, eq_n2, n1_eq, n2_eq, n1_n2, n2_n1, n1_lt, n2_lt, n1_le, lt_n1, lt_n2, inb_t, cl_t, le_tt, le_tf, lt_tt, lt_tf, eq_tt, eq_tf, q_add, q_mul, li0, li1, li2, li3, li4, li5, li6, li7, li8, li12, li16, li24, li48, li500, gF_sA, gA_sF, gF_sF, gR_sA, gR_sF, gL_sA, gL_sF, gA_sA, shl_t, or_t, and_t, sbit_t, ubit_t, b01_0, b01_1, Option.bind_some, ↓reduceIte, eq_self, ne_eq, not_true_eq_false, Bool.false_eq_true, not_false_eq_true, true_and, and_true, false_and, and_false, if_pos, if_neg, h5, x9, f_X8_since_93, answer_eq]
        · simp (disch := omega) only [↓lm1, ↓lm2, eq_n1, eq_n2, n1_eq, n2_eq, n1_n2, n2_n1, n1_lt, n2_lt, n1_le, lt_n1, lt_n2, inb_t, cl_t, le_tt, le_tf, lt_tt, lt_tf, eq_tt, eq_tf, q_add, q_mul, li0, li1, li2, li3, li4, li5, li6, li7, li8, li12, li16, li24, li48, li500, gF_sA, gA_sF, gF_sF, gR_sA, gR_sF, gL_sA, gL_sF, gA_sA, shl_t, or_t, and_t, sbit_t, ubit_t, b01_0, b01_1, Option.bind_some, ↓reduceIte, eq_self, ne_eq, not_true_eq_false, Bool.false_eq_true, not_false_eq_true, true_and, and_true, false_and, and_false, if_pos, if_neg, h5, x9, ho, f_X8_since_93, answer_eq]
      | succ r ih =>
        intro fuel k w hk hf' hw hG
        obtain ⟨f', rfl⟩ : ∃ f, fuel = f + 1 := ⟨fuel - 1, by omega⟩
        have hw' := h.1.kx hw
        have h5 := hw'.1.2.1
        have hf := hw'.1.1
        have x9 : gF w 1 9 f = nI (cSs tk R A).length := hw'.2.1.2.1.2.1
        obtain ⟨⟨i, j⟩, hpk⟩ := get_at (cSs tk R A) (q := k) (by omega)
        obtain ⟨ki, kj, y3, y4⟩ := hw'.2.1.2.1.2.2 k i j hpk
        have ho := one_ok hG N ht hu
        rw [b01_i, b01_f (fun z => hk2 k (by omega) ((ldE_iff hTO t u ht hu).mp z))] at ho
        obtain ⟨w1, ld', a1, a2, a3, a4⟩ := supposeSame_ok (E := Pk (cSs tk R A) (full k)) hN hw'.2.1.1.1 hG (ldE_iff hTO) (fun i j ⟨p, _, hij⟩ => hCI.2.2.1.2 i j (List.mem_of_getElem? hij)) ki kj
        have hG1 : GS w1 0 (cL (run tk c0 (R ++ A))).length (ldE (cT tk R A) (Pk (cSs tk R A) (full (k + 1)))) := by
          refine a2.toE hTO (fun x y hx hy => (a3 x y hx hy).trans ?_)
          have hE : (fun x y => Pk (cSs tk R A) (full k) x y ∨ (x = i ∧ y = j)) = Pk (cSs tk R A) (full (k + 1)) := by
            funext x; funext y
            apply propext
            rw [pk_first, pk_first]
            constructor
            · rintro (⟨p, p1, p2⟩ | ⟨rfl, rfl⟩)
              · exact ⟨p, by omega, p2⟩
              · exact ⟨k, by omega, hpk⟩
            · rintro ⟨p, p1, p2⟩
              by_cases e : p = k
              · subst e
                rw [hpk] at p2
                obtain ⟨rfl, rfl⟩ := Prod.mk.inj (Option.some.inj p2)
                exact Or.inr ⟨rfl, rfl⟩
              · exact Or.inl ⟨p, by omega, p2⟩
          rw [hE]
        obtain ⟨w2, b1, b2⟩ := ih f' (k + 1) w1 (by omega) (by omega) (hw.tr (a4.kx (fun k j i z => by omega) (fun k i z => by omega))) hG1
        refine ⟨w2, ?_, b2⟩
        rw [lp_X8_since_32, ← b1]
        simp (disch := omega) only [↓lm1, ↓lm2, eq_n1, eq_n2, n1_eq, n2_eq, n1_n2, n2_n1, n1_lt, n2_lt, n1_le, lt_n1, lt_n2, inb_t, cl_t, le_tt, le_tf, lt_tt, lt_tf, eq_tt, eq_tf, q_add, q_mul, li0, li1, li2, li3, li4, li5, li6, li7, li8, li12, li16, li24, li48, li500, gF_sA, gA_sF, gF_sF, gR_sA, gR_sF, gL_sA, gL_sF, gA_sA, shl_t, or_t, and_t, sbit_t, ubit_t, b01_0, b01_1, Option.bind_some, ↓reduceIte, eq_self, ne_eq, not_true_eq_false, Bool.false_eq_true, not_false_eq_true, true_and, and_true, false_and, and_false, if_pos, if_neg, h5, x9, ho, y3, y4, a1]
    have keyM : ∀ r fuel k w, k + r = k0 → r < fuel → FrK 59 (mAns wm (nI 0)) w → ∃ w', lp_X9_since_17 (fun (w_5 : Mem) (u3_5 : Int32) => (f_X9_since_37 N w_5 u3_5)) N (nI t) (nI u) fuel w (nI k) = some (w', nI k0) ∧ FrK 59 (mAns wm (nI 0)) w' := by
      intro r
      induction r with
      | zero =>
        intro fuel k w hk hf' hw
        obtain ⟨f', rfl⟩ : ∃ f, fuel = f + 1 := ⟨fuel - 1, by omega⟩
        have hw' := hM0.km (hw.km (by omega) _)
        have e : k = k0 := by omega
        subst e
        obtain ⟨w1, a1, a2⟩ := hw'.isOneBy (b := full k) hN (Nat.lt_of_lt_of_le (full_lt k) (p2le hk0)) ht hu
        rw [b01_t hk1] at a1
        refine ⟨w1, ?_, hw.tr a2⟩
        rw [lp_X9_since_17]
        simp (disch := omega) only [↓lm1, ↓lm2, eq_n1, eq_n2, n1_eq, n2_eq, n1_n2, n2_n1, n1_lt, n2_lt, n1_le, lt_n1, lt_n2, inb_t, cl_t, le_tt, le_tf, lt_tt, lt_tf, eq_tt, eq_tf, q_add, q_mul, li0, li1, li2, li3, li4, li5, li6, li7, li8, li12, li16, li24, li48, li500, gF_sA, gA_sF, gF_sF, gR_sA, gR_sF, gL_sA, gL_sF, gA_sA, shl_t, or_t, and_t, sbit_t, ubit_t, b01_0, b01_1, Option.bind_some, ↓reduceIte, eq_self, ne_eq, not_true_eq_false, Bool.false_eq_true, not_false_eq_true, true_and, and_true, false_and, and_false, if_pos, if_neg, full_t, a1, f_X9_since_37]
      | succ r ih =>
        intro fuel k w hk hf' hw
        obtain ⟨f', rfl⟩ : ∃ f, fuel = f + 1 := ⟨fuel - 1, by omega⟩
        have hw' := hM0.km (hw.km (by omega) _)
        obtain ⟨w1, a1, a2⟩ := hw'.isOneBy (b := full k) hN (Nat.lt_of_lt_of_le (full_lt k) (p2le (by omega))) ht hu
        rw [b01_f (hk2 k (by omega))] at a1
        obtain ⟨w2, b1, b2⟩ := ih f' (k + 1) w1 (by omega) (by omega) (hw.tr a2)
        refine ⟨w2, ?_, b2⟩
        rw [lp_X9_since_17, ← b1]
        simp (disch := omega) only [↓lm1, ↓lm2, eq_n1, eq_n2, n1_eq, n2_eq, n1_n2, n2_n1, n1_lt, n2_lt, n1_le, lt_n1, lt_n2, inb_t, cl_t, le_tt, le_tf, lt_tt, lt_tf, eq_tt, eq_tf, q_add, q_mul, li0, li1, li2, li3, li4, li5, li6, li7, li8, li12, li16, li24, li48, li500, gF_sA, gA_sF, gF_sF, gR_sA, gR_sF, gL_sA, gL_sF, gA_sA, shl_t, or_t, and_t, sbit_t, ubit_t, b01_0, b01_1, Option.bind_some, ↓reduceIte, eq_self, ne_eq, not_true_eq_false, Bool.false_eq_true, not_false_eq_true, true_and, and_true, false_and, and_false, if_pos, if_neg, full_t, a1]
    obtain ⟨v0, p1, p2, p3⟩ := h.1.closeBy (g := 0) (b := 0) hN (by omega) (by omega)
    obtain ⟨v, a1, a2⟩ := keyX k0 N 0 v0 (by omega) (by omega) p3 p2
    obtain ⟨u', b1, b2⟩ := keyM k0 N 0 (mAns wm (nI 0)) (by omega) (by omega) Fr.rf
    have h5 := h.1.1.2.1
    have hf := h.1.1.1
    rw [f_X8_since, f_X9_since, e1, e2]
    simp (disch := omega) only [↓lm1, ↓lm2, eq_n1, eq_n2, n1_eq, n2_eq, n1_n2, n2_n1, n1_lt, n2_lt, n1_le, lt_n1, lt_n2, inb_t, cl_t, le_tt, le_tf, lt_tt, lt_tf, eq_tt, eq_tf, q_add, q_mul, li0, li1, li2, li3, li4, li5, li6, li7, li8, li12, li16, li24, li48, li500, gF_sA, gA_sF, gF_sF, gR_sA, gR_sF, gL_sA, gL_sF, gA_sA, shl_t, or_t, and_t, sbit_t, ubit_t, b01_0, b01_1, Option.bind_some, ↓reduceIte, eq_self, ne_eq, not_true_eq_false, Bool.false_eq_true, not_false_eq_true, true_and, and_true, false_and, and_false, if_pos, if_neg, h5, p1, refused_0]
    rw [a1, b1]
    exact op_ans h a2 (b2.km (by omega) _) b2.ans.1 b2.ans.2 rfl
