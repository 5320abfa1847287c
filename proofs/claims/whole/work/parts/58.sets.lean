/-! sets of sames, why two are one, BY a set: both -/
theorem p2le {a b : Nat} (h : a ≤ b) : 2 ^ a ≤ 2 ^ b := Nat.pow_le_pow_right (by decide) h
theorem p2lt {a b : Nat} (h : a < b) : 2 ^ a < 2 ^ b := Nat.pow_lt_pow_right (by decide) h
/-- a set without k -/
def clr (b k : Nat) : Nat := b ^^^ (b &&& 2 ^ k)
theorem clr_bit (b k i : Nat) : (clr b k).testBit i = (b.testBit i && !decide (i = k)) := by
  unfold clr
  rw [Nat.testBit_xor, Nat.testBit_and, Nat.testBit_two_pow]
  by_cases e : k = i
  · subst e; cases b.testBit k <;> simp
  · rw [decide_eq_false e, decide_eq_false (Ne.symm e)]; cases b.testBit i <;> rfl
theorem clr_lt {b k n : Nat} (h : b < 2 ^ n) : clr b k < 2 ^ n := by
  apply Nat.lt_pow_two_of_testBit
  intro i hi
  rw [clr_bit, Nat.testBit_lt_two_pow (Nat.lt_of_lt_of_le h (Nat.pow_le_pow_right (by decide) hi))]
  rfl
theorem clr_t {b k : Nat} (hb : b < 2147483648) (hk : k < 31) : nI b &&& (nI (2 ^ k) ^^^ n1) = nI (clr b k) := by
  have hc : clr b k < 2147483648 := clr_lt (n := 31) hb
  have hk2 : 2 ^ k < 2147483648 := p2lt (b := 31) hk
  apply b_ext
  intro i hi
  rw [b_and, b_xor, bt_nI hb hi, bt_nI hk2 hi, bt_nI hc hi, clr_bit, show n1 = (-1 : Int32) from rfl, b_m1 i hi, Nat.testBit_two_pow]
  by_cases e : k = i
  · subst e; cases b.testBit k <;> simp
  · rw [decide_eq_false e, decide_eq_false (Ne.symm e)]; cases b.testBit i <;> rfl
def full (s : Nat) : Nat := 2 ^ s - 1
theorem full_bit (s i : Nat) : (full s).testBit i = decide (i < s) := Nat.testBit_two_pow_sub_one s i
theorem full_lt (s : Nat) : full s < 2 ^ s := by have := Nat.two_pow_pos s; unfold full; omega
theorem full_t {s : Nat} : nI (2 ^ s) - nI 1 = nI (full s) := n_sub (Nat.one_le_two_pow)
theorem pow_small {s : Nat} (h : s ≤ 13) : 2 ^ s ≤ 8192 := p2le (b := 13) h
theorem pk_full {S : Prs} : ∀ i j, Pk S (full S.length) i j ↔ inS S i j := by
  intro i j
  constructor
  · rintro ⟨p, h1, h2⟩; exact List.mem_of_getElem? h2
  · intro h
    obtain ⟨p, hp⟩ := List.getElem?_of_mem h
    exact ⟨p, by rw [full_bit]; exact decide_eq_true (List.getElem?_eq_some_iff.mp hp).1, hp⟩
theorem by_full {T : Trm} {S : Prs} (t u : Nat) : By T S (full S.length) t u ↔ Cg T (inS S) t u := by
  unfold By
  rw [show Pk S (full S.length) = inS S from funext (fun i => funext (fun j => propext (pk_full i j)))]
theorem dec_t (k : Nat) : nI (k + 1) + n1 = nI k := by
  rw [← q_add]
  show nI k + (1 : Int32) + (-1 : Int32) = nI k
  rw [Int32.add_assoc]
  show nI k + 0 = nI k
  exact Int32.add_zero _
def ixv : Nat → Int32
  | 0 => n1
  | k + 1 => nI k
theorem ixv_dec (k : Nat) : nI k + n1 = ixv k := by
  cases k with
  | zero => decide
  | succ k => exact dec_t k
theorem ixv_sub (k : Nat) : nI k - nI 1 = ixv k := by
  cases k with
  | zero => decide
  | succ k => rw [q_sub (by omega), Nat.add_sub_cancel]; rfl
theorem ixv_0 : (ixv 0 < nI 0) = True := eq_true (by decide)
abbrev cT (tk : Nat → Nat) (R A : List Row) : Trm := mkT tk (cL (run tk c0 (R ++ A)))
abbrev cSs (tk : Nat → Nat) (R A : List Row) : Prs := cS (run tk c0 (R ++ A))
theorem RelX.closeBy {N f nf b g : Nat} {tk : Nat → Nat} {R A : List Row} {NL : List (List Nat)} {tp : List Nat} {w : Mem} (h : RelX w f nf tk R A NL tp) (hN : 276 < N) (hb : b < 2147483648) (hg : g ≠ 2 ∧ g ≠ 3) : ∃ w', f_X1_closeBy N w f (nI b) g = some w' ∧ GS w' g (cL (run tk c0 (R ++ A))).length (ldE (cT tk R A) (Pk (cSs tk R A) b)) ∧ KX w w' := by
  obtain ⟨⟨hf, h5, h6⟩, ⟨⟨xT, xG, xF⟩, xS, xQ, xD⟩, -⟩ := h
  obtain ⟨w', ld', a1, a2, a3, a4⟩ := closeBy_ok (g := g) hN (show b < 2 ^ 31 from hb) xT xS
  exact ⟨w', a1, a2.toE xT.2.1 a3, a4.kx (fun k j i z => by omega) (fun k i z => by omega)⟩
theorem RelX.isOneBy {N f nf b t u : Nat} {tk : Nat → Nat} {R A : List Row} {NL : List (List Nat)} {tp : List Nat} {w : Mem} (h : RelX w f nf tk R A NL tp) (hN : 276 < N) (hb : b < 2147483648) (ht : t < (cL (run tk c0 (R ++ A))).length) (hu : u < (cL (run tk c0 (R ++ A))).length) : ∃ w', f_X8_isOneBy N w (nI b) (nI t) (nI u) = some (w', nI (b01 (By (cT tk R A) (cSs tk R A) b t u))) ∧ KX w w' := by
  obtain ⟨w', a1, a2, a3⟩ := h.closeBy (g := 0) hN hb (by omega)
  have ho := one_ok a2 N ht hu
  rw [b01_i] at ho
  obtain ⟨⟨hf, h5, h6⟩, ⟨⟨xT, xG, xF⟩, xS, xQ, xD⟩, -⟩ := h
  refine ⟨w', ?_, a3⟩
  rw [f_X8_isOneBy, h5, if_pos hf, a1, Option.bind_some, ho, Option.bind_some, if_pos (of_eq_true b01_01)]
  rw [b01_c (ldE_iff (E := Pk (cSs tk R A) b) xT.2.1 t u ht hu)]
  rfl
theorem RelM.isOneBy {N nf b t u : Nat} {tk : Nat → Nat} {R A : List Row} {NL : List (List Nat)} {tp : List Nat} {w : Mem} (h : RelM w nf tk R A NL tp) (hN : 276 < N) (hb : b < 2 ^ (cSs tk R A).length) (ht : t < (cL (run tk c0 (R ++ A))).length) (hu : u < (cL (run tk c0 (R ++ A))).length) : ∃ w', f_X9_isOneBy N w (nI b) (nI t) (nI u) = some (w', nI (b01 (By (cT tk R A) (cSs tk R A) b t u))) ∧ FrK 59 w w' :=
  isOneBy_ok hN h.1.1.1 h.1.2.1.rp hb ht hu
theorem FrK.km {k : Nat} {w w' : Mem} (h : FrK k w w') (hk : 59 ≤ k) (s : Nat) : KM s w w' := Fr.km h s (fun _ _ _ z => z.elim) (fun x i z => by omega)
theorem FrK.ans {k : Nat} {w v : Mem} {tr : Int32} (h : FrK k (mAns w tr) v) : gF v 9 1 0 = tr ∧ gF v 9 3 0 = n1 := ⟨(h.F _ _ _).trans (mAns_1 _ _), (h.F _ _ _).trans (mAns_3 _ _)⟩
/-- why two aren't one: both tell the same -/
theorem RelC.why {N f nf : Nat} {tk : Nat → Nat} {R A : List Row} {NL : List (List Nat)} {tp : List Nat} {wx wm : Mem} (h : RelC wx wm f nf tk R A NL tp) (x1 x2 : Int32) : (∃ q, (q = 1 ∨ q = 5) ∧ f_X8_whyNotOne N wx x1 x2 = some (nI q) ∧ f_X9_whyNotOne N wm x1 x2 = some (nI q)) ∨ ∃ t u, x1 = nI t ∧ x2 = nI u ∧ t < (cL (run tk c0 (R ++ A))).length ∧ u < (cL (run tk c0 (R ++ A))).length ∧ ldJ (cJ (run tk c0 (R ++ A))) t = ldJ (cJ (run tk c0 (R ++ A))) u ∧ f_X8_whyNotOne N wx x1 x2 = some (nI 0) ∧ f_X9_whyNotOne N wm x1 x2 = some (nI 0) := by
  have hCI := h.ci
  obtain ⟨⟨⟨hf, h5, h6⟩, ⟨⟨xT, xG, xF⟩, xS, xQ, xD⟩, xFN, xA, xNm, xTp, xCo⟩, hM, hPp, hfa⟩ := id h
  have hM0 := hM.km (mAns_km (cS (run tk c0 (R ++ A))).length wm (nI 0))
  obtain ⟨⟨⟨mT, mR, mN, mJ, mJR, mFR⟩, mS, mQ⟩, mFN, mRW, m8, m9, mNm, mTp⟩ := id hM0
  have hn : (cL (run tk c0 (R ++ A))).length ≤ 24 := xT.1
  have x10 : gF wx 7 10 f = nI (cL (run tk c0 (R ++ A))).length := xT.2.2.1
  have m27 : gF wm 9 27 0 = nI (cL (run tk c0 (R ++ A))).length := hM.1.1.1.2.2.1
  have iX := isTermX (N := N) (show (cL (run tk c0 (R ++ A))).length < 1000 by omega) hf h5 x10
  have iM := isTermM (N := N) (w := wm) (show (cL (run tk c0 (R ++ A))).length < 1000 by omega) m27
  rw [f_X8_whyNotOne, f_X9_whyNotOne, iX, iX, iM, iM]
  by_cases hT : isT (cL (run tk c0 (R ++ A))).length x1
  · by_cases hU : isT (cL (run tk c0 (R ++ A))).length x2
    · obtain ⟨t, ht, rfl⟩ := hT
      obtain ⟨u, hu, rfl⟩ := hU
      rw [b01_t (isT_nI ht), b01_t (isT_nI hu)]
      have c1 := (mR.2.1 t ht).1
      have c2 := (mR.2.1 u hu).1
      have e1 : gA wm 52 0 t = nI (ldJ (cJ (run tk c0 (R ++ A))) t) := hM.1.1.2.1.2.2.2 t ht
      have e2 : gA wm 52 0 u = nI (ldJ (cJ (run tk c0 (R ++ A))) u) := hM.1.1.2.1.2.2.2 u hu
      have ho := one_ok xG N (i := t) (j := u) ht hu
      rw [b01_i] at ho
      by_cases z : ldJ (cJ (run tk c0 (R ++ A))) t = ldJ (cJ (run tk c0 (R ++ A))) u
      · rw [b01_t z] at ho
        refine Or.inr ⟨t, u, rfl, rfl, ht, hu, z, ?_, ?_⟩ <;> simp (disch := omega) only [↓lm1, ↓lm2, eq_n1, eq_n2, n1_eq, n2_eq, n1_n2, n2_n1, n1_lt, n2_lt, n1_le, lt_n1, lt_n2, inb_t, cl_t, le_tt, le_tf, lt_tt, lt_tf, eq_tt, eq_tf, q_add, q_mul, li0, li1, li2, li3, li4, li5, li6, li7, li8, li12, li16, li24, li48, li500, gF_sA, gA_sF, gF_sF, gR_sA, gR_sF, gL_sA, gL_sF, gA_sA, shl_t, or_t, and_t, sbit_t, ubit_t, b01_0, b01_1, Option.bind_some, ↓reduceIte, eq_self, ne_eq, not_true_eq_false, Bool.false_eq_true, not_false_eq_true, true_and, and_true, false_and, and_false, if_pos, if_neg, h5, ho, e1, e2]
      · rw [b01_f z] at ho
        refine Or.inl ⟨5, Or.inr rfl, ?_, ?_⟩ <;> simp (disch := omega) only [↓lm1, ↓lm2, eq_n1, eq_n2, n1_eq, n2_eq, n1_n2, n2_n1, n1_lt, n2_lt, n1_le, lt_n1, lt_n2, inb_t, cl_t, le_tt, le_tf, lt_tt, lt_tf, eq_tt, eq_tf, q_add, q_mul, li0, li1, li2, li3, li4, li5, li6, li7, li8, li12, li16, li24, li48, li500, gF_sA, gA_sF, gF_sF, gR_sA, gR_sF, gL_sA, gL_sF, gA_sA, shl_t, or_t, and_t, sbit_t, ubit_t, b01_0, b01_1, Option.bind_some, ↓reduceIte, eq_self, ne_eq, not_true_eq_false, Bool.false_eq_true, not_false_eq_true, true_and, and_true, false_and, and_false, if_pos, if_neg, h5, ho, e1, e2]
    · refine Or.inl ⟨1, Or.inl rfl, ?_, ?_⟩ <;> rw [b01_t hT, b01_f hU] <;> simp (disch := omega) only [↓lm1, ↓lm2, eq_n1, eq_n2, n1_eq, n2_eq, n1_n2, n2_n1, n1_lt, n2_lt, n1_le, lt_n1, lt_n2, inb_t, cl_t, le_tt, le_tf, lt_tt, lt_tf, eq_tt, eq_tf, q_add, q_mul, li0, li1, li2, li3, li4, li5, li6, li7, li8, li12, li16, li24, li48, li500, gF_sA, gA_sF, gF_sF, gR_sA, gR_sF, gL_sA, gL_sF, gA_sA, shl_t, or_t, and_t, sbit_t, ubit_t, b01_0, b01_1, Option.bind_some, ↓reduceIte, eq_self, ne_eq, not_true_eq_false, Bool.false_eq_true, not_false_eq_true, true_and, and_true, false_and, and_false, if_pos, if_neg]
  · refine Or.inl ⟨1, Or.inl rfl, ?_, ?_⟩ <;> rw [b01_f hT] <;> simp (disch := omega) only [↓lm1, ↓lm2, eq_n1, eq_n2, n1_eq, n2_eq, n1_n2, n2_n1, n1_lt, n2_lt, n1_le, lt_n1, lt_n2, inb_t, cl_t, le_tt, le_tf, lt_tt, lt_tf, eq_tt, eq_tf, q_add, q_mul, li0, li1, li2, li3, li4, li5, li6, li7, li8, li12, li16, li24, li48, li500, gF_sA, gA_sF, gF_sF, gR_sA, gR_sF, gL_sA, gL_sF, gA_sA, shl_t, or_t, and_t, sbit_t, ubit_t, b01_0, b01_1, Option.bind_some, ↓reduceIte, eq_self, ne_eq, not_true_eq_false, Bool.false_eq_true, not_false_eq_true, true_and, and_true, false_and, and_false, if_pos, if_neg]
/-- refused by why -/
theorem RelC.refuse {f nf q : Nat} {tk : Nat → Nat} {R A : List Row} {NL : List (List Nat)} {tp : List Nat} {wx wm : Mem} (h : RelC wx wm f nf tk R A NL tp) : Op (some (xAns wx (nI q), n1)) (some (mAns wm (nI q), n1)) := op_ans0 h
/-- one left out after another, from the last -/
noncomputable def prn (P : Nat → Nat → Prop) : Nat → Nat → Nat
  | 0, s => s
  | k + 1, s => prn P k (@ite _ (P k (clr s k)) (Classical.propDecidable _) (clr s k) s)
theorem prn_t {P : Nat → Nat → Prop} {k s : Nat} (h : P k (clr s k)) : prn P (k + 1) s = prn P k (clr s k) := by rw [prn, if_pos h]
theorem prn_f {P : Nat → Nat → Prop} {k s : Nat} (h : ¬ P k (clr s k)) : prn P (k + 1) s = prn P k s := by rw [prn, if_neg h]
theorem prunedX {N f nf t u : Nat} {tk : Nat → Nat} {R A : List Row} {NL : List (List Nat)} {tp : List Nat} {wx : Mem} (hN : 276 < N) (h : RelX wx f nf tk R A NL tp) (kk : Mem → Int32 → Option (Mem × Int32)) (ht : t < (cL (run tk c0 (R ++ A))).length) (hu : u < (cL (run tk c0 (R ++ A))).length) : ∀ k fuel s w, k ≤ 12 → s < 4096 → k < fuel → KX wx w → ∃ w', lp_X8_pruned_37 kk N (nI t) (nI u) fuel w (nI s) (ixv k) = kk w' (nI (prn (fun _ b => By (cT tk R A) (cSs tk R A) b t u) k s)) ∧ KX wx w' := by
  intro k
  induction k with
  | zero =>
    intro fuel s w hk hs hf hw
    obtain ⟨f', rfl⟩ : ∃ f, fuel = f + 1 := ⟨fuel - 1, by omega⟩
    refine ⟨w, ?_, hw⟩
    rw [lp_X8_pruned_37]
    simp (disch := omega) only [↓lm1, ↓lm2, eq_n1, eq_n2, n1_eq, n2_eq, n1_n2, n2_n1, n1_lt, n2_lt, n1_le, lt_n1, lt_n2, inb_t, cl_t, le_tt, le_tf, lt_tt, lt_tf, eq_tt, eq_tf, q_add, q_mul, li0, li1, li2, li3, li4, li5, li6, li7, li8, li12, li16, li24, li48, li500, gF_sA, gA_sF, gF_sF, gR_sA, gR_sF, gL_sA, gL_sF, gA_sA, shl_t, or_t, and_t, sbit_t, ubit_t, b01_0, b01_1, Option.bind_some, ↓reduceIte, eq_self, ne_eq, not_true_eq_false, Bool.false_eq_true, not_false_eq_true, true_and, and_true, false_and, and_false, if_pos, if_neg, ixv_0]
    rfl
  | succ k ih =>
    intro fuel s w hk hs hf hw
    obtain ⟨f', rfl⟩ : ∃ f, fuel = f + 1 := ⟨fuel - 1, by omega⟩
    have hcl : clr s k < 4096 := clr_lt (n := 12) hs
    obtain ⟨w1, a1, a2⟩ := (h.kx hw).isOneBy (b := clr s k) hN (by omega) ht hu
    by_cases z : By (cT tk R A) (cSs tk R A) (clr s k) t u
    · obtain ⟨w', e1, e2⟩ := ih f' (clr s k) w1 (by omega) hcl (by omega) (hw.tr a2)
      refine ⟨w', ?_, e2⟩
      rw [b01_t z] at a1
      rw [prn_t (P := fun _ b => By (cT tk R A) (cSs tk R A) b t u) z, ← e1, lp_X8_pruned_37, show ixv (k + 1) = nI k from rfl]
      simp (disch := omega) only [↓lm1, ↓lm2, eq_n1, eq_n2, n1_eq, n2_eq, n1_n2, n2_n1, n1_lt, n2_lt, n1_le, lt_n1, lt_n2, inb_t, cl_t, le_tt, le_tf, lt_tt, lt_tf, eq_tt, eq_tf, q_add, q_mul, li0, li1, li2, li3, li4, li5, li6, li7, li8, li12, li16, li24, li48, li500, gF_sA, gA_sF, gF_sF, gR_sA, gR_sF, gL_sA, gL_sF, gA_sA, shl_t, or_t, and_t, sbit_t, ubit_t, b01_0, b01_1, Option.bind_some, ↓reduceIte, eq_self, ne_eq, not_true_eq_false, Bool.false_eq_true, not_false_eq_true, true_and, and_true, false_and, and_false, if_pos, if_neg, clr_t, a1, ixv_dec]
    · obtain ⟨w', e1, e2⟩ := ih f' s w1 (by omega) hs (by omega) (hw.tr a2)
      refine ⟨w', ?_, e2⟩
      rw [b01_f z] at a1
      rw [prn_f (P := fun _ b => By (cT tk R A) (cSs tk R A) b t u) z, ← e1, lp_X8_pruned_37, show ixv (k + 1) = nI k from rfl]
      simp (disch := omega) only [↓lm1, ↓lm2, eq_n1, eq_n2, n1_eq, n2_eq, n1_n2, n2_n1, n1_lt, n2_lt, n1_le, lt_n1, lt_n2, inb_t, cl_t, le_tt, le_tf, lt_tt, lt_tf, eq_tt, eq_tf, q_add, q_mul, li0, li1, li2, li3, li4, li5, li6, li7, li8, li12, li16, li24, li48, li500, gF_sA, gA_sF, gF_sF, gR_sA, gR_sF, gL_sA, gL_sF, gA_sA, shl_t, or_t, and_t, sbit_t, ubit_t, b01_0, b01_1, Option.bind_some, ↓reduceIte, eq_self, ne_eq, not_true_eq_false, Bool.false_eq_true, not_false_eq_true, true_and, and_true, false_and, and_false, if_pos, if_neg, clr_t, a1, ixv_dec]
theorem prunedM {N nf t u : Nat} {tk : Nat → Nat} {R A : List Row} {NL : List (List Nat)} {tp : List Nat} {wm : Mem} (hN : 276 < N) (h : RelM wm nf tk R A NL tp) (kk : Mem → Int32 → Option (Mem × Int32)) (ht : t < (cL (run tk c0 (R ++ A))).length) (hu : u < (cL (run tk c0 (R ++ A))).length) (hs12 : (cSs tk R A).length ≤ 12) : ∀ k fuel s w, k ≤ 12 → s < 2 ^ (cSs tk R A).length → k < fuel → FrK 59 wm w → ∃ w', lp_X9_pruned_28 kk N (nI t) (nI u) fuel w (nI s) (ixv k) = kk w' (nI (prn (fun _ b => By (cT tk R A) (cSs tk R A) b t u) k s)) ∧ FrK 59 wm w' := by
  have hp := pow_small (s := (cSs tk R A).length) (by omega)
  intro k
  induction k with
  | zero =>
    intro fuel s w hk hs hf hw
    obtain ⟨f', rfl⟩ : ∃ f, fuel = f + 1 := ⟨fuel - 1, by omega⟩
    refine ⟨w, ?_, hw⟩
    rw [lp_X9_pruned_28]
    simp (disch := omega) only [↓lm1, ↓lm2, eq_n1, eq_n2, n1_eq, n2_eq, n1_n2, n2_n1, n1_lt, n2_lt, n1_le, lt_n1, lt_n2, inb_t, cl_t, le_tt, le_tf, lt_tt, lt_tf, eq_tt, eq_tf, q_add, q_mul, li0, li1, li2, li3, li4, li5, li6, li7, li8, li12, li16, li24, li48, li500, gF_sA, gA_sF, gF_sF, gR_sA, gR_sF, gL_sA, gL_sF, gA_sA, shl_t, or_t, and_t, sbit_t, ubit_t, b01_0, b01_1, Option.bind_some, ↓reduceIte, eq_self, ne_eq, not_true_eq_false, Bool.false_eq_true, not_false_eq_true, true_and, and_true, false_and, and_false, if_pos, if_neg, ixv_0]
    rfl
  | succ k ih =>
    intro fuel s w hk hs hf hw
    obtain ⟨f', rfl⟩ : ∃ f, fuel = f + 1 := ⟨fuel - 1, by omega⟩
    have hcl : clr s k < 2 ^ (cSs tk R A).length := clr_lt hs
    obtain ⟨w1, a1, a2⟩ := (h.km (hw.km (by omega) _)).isOneBy (b := clr s k) hN hcl ht hu
    by_cases z : By (cT tk R A) (cSs tk R A) (clr s k) t u
    · obtain ⟨w', e1, e2⟩ := ih f' (clr s k) w1 (by omega) hcl (by omega) (hw.tr a2)
      refine ⟨w', ?_, e2⟩
      rw [b01_t z] at a1
      rw [prn_t (P := fun _ b => By (cT tk R A) (cSs tk R A) b t u) z, ← e1, lp_X9_pruned_28, show ixv (k + 1) = nI k from rfl]
      simp (disch := omega) only [↓lm1, ↓lm2, eq_n1, eq_n2, n1_eq, n2_eq, n1_n2, n2_n1, n1_lt, n2_lt, n1_le, lt_n1, lt_n2, inb_t, cl_t, le_tt, le_tf, lt_tt, lt_tf, eq_tt, eq_tf, q_add, q_mul, li0, li1, li2, li3, li4, li5, li6, li7, li8, li12, li16, li24, li48, li500, gF_sA, gA_sF, gF_sF, gR_sA, gR_sF, gL_sA, gL_sF, gA_sA, shl_t, or_t, and_t, sbit_t, ubit_t, b01_0, b01_1, Option.bind_some, ↓reduceIte, eq_self, ne_eq, not_true_eq_false, Bool.false_eq_true, not_false_eq_true, true_and, and_true, false_and, and_false, if_pos, if_neg, clr_t, a1, ixv_dec]
    · obtain ⟨w', e1, e2⟩ := ih f' s w1 (by omega) hs (by omega) (hw.tr a2)
      refine ⟨w', ?_, e2⟩
      rw [b01_f z] at a1
      rw [prn_f (P := fun _ b => By (cT tk R A) (cSs tk R A) b t u) z, ← e1, lp_X9_pruned_28, show ixv (k + 1) = nI k from rfl]
      simp (disch := omega) only [↓lm1, ↓lm2, eq_n1, eq_n2, n1_eq, n2_eq, n1_n2, n2_n1, n1_lt, n2_lt, n1_le, lt_n1, lt_n2, inb_t, cl_t, le_tt, le_tf, lt_tt, lt_tf, eq_tt, eq_tf, q_add, q_mul, li0, li1, li2, li3, li4, li5, li6, li7, li8, li12, li16, li24, li48, li500, gF_sA, gA_sF, gF_sF, gR_sA, gR_sF, gL_sA, gL_sF, gA_sA, shl_t, or_t, and_t, sbit_t, ubit_t, b01_0, b01_1, Option.bind_some, ↓reduceIte, eq_self, ne_eq, not_true_eq_false, Bool.false_eq_true, not_false_eq_true, true_and, and_true, false_and, and_false, if_pos, if_neg, clr_t, a1, ixv_dec]
theorem allX {N f s : Nat} {w : Mem} (hs : s ≤ 12) (h : gF w 1 9 f = nI s) : f_X1_allSames N w f = some (nI (full s)) := by
  rw [f_X1_allSames, h]
  simp (disch := omega) only [↓lm1, ↓lm2, eq_n1, eq_n2, n1_eq, n2_eq, n1_n2, n2_n1, n1_lt, n2_lt, n1_le, lt_n1, lt_n2, inb_t, cl_t, le_tt, le_tf, lt_tt, lt_tf, eq_tt, eq_tf, q_add, q_mul, li0, li1, li2, li3, li4, li5, li6, li7, li8, li12, li16, li24, li48, li500, gF_sA, gA_sF, gF_sF, gR_sA, gR_sF, gL_sA, gL_sF, gA_sA, shl_t, or_t, and_t, sbit_t, ubit_t, b01_0, b01_1, Option.bind_some, ↓reduceIte, eq_self, ne_eq, not_true_eq_false, Bool.false_eq_true, not_false_eq_true, true_and, and_true, false_and, and_false, if_pos, if_neg, full_t]
theorem allM {N s : Nat} {w : Mem} (hs : s ≤ 12) (h : gF w 9 30 0 = nI s) : f_X9_allSames N w = some (nI (full s)) := by
  rw [f_X9_allSames, h]
  simp (disch := omega) only [↓lm1, ↓lm2, eq_n1, eq_n2, n1_eq, n2_eq, n1_n2, n2_n1, n1_lt, n2_lt, n1_le, lt_n1, lt_n2, inb_t, cl_t, le_tt, le_tf, lt_tt, lt_tf, eq_tt, eq_tf, q_add, q_mul, li0, li1, li2, li3, li4, li5, li6, li7, li8, li12, li16, li24, li48, li500, gF_sA, gA_sF, gF_sF, gR_sA, gR_sF, gL_sA, gL_sF, gA_sA, shl_t, or_t, and_t, sbit_t, ubit_t, b01_0, b01_1, Option.bind_some, ↓reduceIte, eq_self, ne_eq, not_true_eq_false, Bool.false_eq_true, not_false_eq_true, true_and, and_true, false_and, and_false, if_pos, if_neg, full_t]
theorem op_pruned {N f nf : Nat} {tk : Nat → Nat} {R A : List Row} {NL : List (List Nat)} {tp : List Nat} {wx wm : Mem} (hN : 276 < N) (h : RelC wx wm f nf tk R A NL tp) (x1 x2 : Int32) : Op (f_X8_pruned N wx x1 x2) (f_X9_pruned N wm x1 x2) := by
  rcases h.why (N := N) x1 x2 with ⟨q, hq, e1, e2⟩ | ⟨t, u, rfl, rfl, ht, hu, hl, e1, e2⟩
  · rw [f_X8_pruned, f_X9_pruned, e1, e2, Option.bind_some, Option.bind_some, refused_n N wm (by omega) (by omega)]
    simp (disch := omega) only [↓lm1, ↓lm2, eq_n1, eq_n2, n1_eq, n2_eq, n1_n2, n2_n1, n1_lt, n2_lt, n1_le, lt_n1, lt_n2, inb_t, cl_t, le_tt, le_tf, lt_tt, lt_tf, eq_tt, eq_tf, q_add, q_mul, li0, li1, li2, li3, li4, li5, li6, li7, li8, li12, li16, li24, li48, li500, gF_sA, gA_sF, gF_sF, gR_sA, gR_sF, gL_sA, gL_sF, gA_sA, shl_t, or_t, and_t, sbit_t, ubit_t, b01_0, b01_1, Option.bind_some, ↓reduceIte, eq_self, ne_eq, not_true_eq_false, Bool.false_eq_true, not_false_eq_true, true_and, and_true, false_and, and_false, if_pos, if_neg, refuse_eq]
    exact op_ans0 h
  · have hs12 : (cSs tk R A).length ≤ 12 := h.ci.2.2.1.1
    have hM0 := h.2.1.km (mAns_km (cS (run tk c0 (R ++ A))).length wm (nI 0))
    have hfl := full_lt (cSs tk R A).length
    have hfs : full (cSs tk R A).length < 4096 := Nat.lt_of_lt_of_le hfl (p2le (b := 12) hs12)
    obtain ⟨v, a1, a2⟩ := prunedX hN h.1 (fun (w_6 : Mem) (u4_6 : Int32) => (f_X8_pruned_74 N w_6 u4_6)) ht hu (cSs tk R A).length N (full (cSs tk R A).length) wx hs12 hfs (by omega) KX.rf
    obtain ⟨u', b1, b2⟩ := prunedM hN hM0 (fun (w_7 : Mem) (u3_7 : Int32) => (f_X9_pruned_69 N w_7 u3_7)) ht hu hs12 (cSs tk R A).length N (full (cSs tk R A).length) (mAns wm (nI 0)) hs12 hfl (by omega) Fr.rf
    have h5 := h.1.1.2.1
    have hf := h.1.1.1
    have x9 : gF wx 1 9 f = nI (cSs tk R A).length := h.1.2.1.2.1.2.1
    have m30 : gF (mAns wm (nI 0)) 9 30 0 = nI (cSs tk R A).length := hM0.1.2.1.2.1
    rw [f_X8_pruned, f_X9_pruned, e1, e2]
    simp (disch := omega) only [↓lm1, ↓lm2, eq_n1, eq_n2, n1_eq, n2_eq, n1_n2, n2_n1, n1_lt, n2_lt, n1_le, lt_n1, lt_n2, inb_t, cl_t, le_tt, le_tf, lt_tt, lt_tf, eq_tt, eq_tf, q_add, q_mul, li0, li1, li2, li3, li4, li5, li6, li7, li8, li12, li16, li24, li48, li500, gF_sA, gA_sF, gF_sF, gR_sA, gR_sF, gL_sA, gL_sF, gA_sA, shl_t, or_t, and_t, sbit_t, ubit_t, b01_0, b01_1, Option.bind_some, ↓reduceIte, eq_self, ne_eq, not_true_eq_false, Bool.false_eq_true, not_false_eq_true, true_and, and_true, false_and, and_false, if_pos, if_neg, h5, allX hs12 x9, refused_0, allM hs12 m30, x9, m30, ixv_sub]
    rw [a1, b1, f_X8_pruned_74, f_X9_pruned_69]
    simp (disch := omega) only [↓lm1, ↓lm2, eq_n1, eq_n2, n1_eq, n2_eq, n1_n2, n2_n1, n1_lt, n2_lt, n1_le, lt_n1, lt_n2, inb_t, cl_t, le_tt, le_tf, lt_tt, lt_tf, eq_tt, eq_tf, q_add, q_mul, li0, li1, li2, li3, li4, li5, li6, li7, li8, li12, li16, li24, li48, li500, gF_sA, gA_sF, gF_sF, gR_sA, gR_sF, gL_sA, gL_sF, gA_sA, shl_t, or_t, and_t, sbit_t, ubit_t, b01_0, b01_1, Option.bind_some, ↓reduceIte, eq_self, ne_eq, not_true_eq_false, Bool.false_eq_true, not_false_eq_true, true_and, and_true, false_and, and_false, if_pos, if_neg, answer_eq]
    exact op_ans h a2 (b2.km (by omega) _) b2.ans.1 b2.ans.2 rfl
/-- the sames each of which is needed -/
noncomputable def ndd (P : Nat → Prop) : Nat → Nat
  | 0 => 0
  | k + 1 => @ite _ (P k) (Classical.propDecidable _) (ndd P k) (ndd P k ||| 2 ^ k)
theorem ndd_lt (P : Nat → Prop) : ∀ k, k ≤ 12 → ndd P k < 4096
  | 0, _ => by rw [ndd]; omega
  | k + 1, h => by
    have ih := ndd_lt P k (by omega)
    rw [ndd]
    split
    · exact ih
    · exact Nat.or_lt_two_pow (n := 12) ih (Nat.pow_lt_pow_right (by decide) (by omega))
theorem ndd_t {P : Nat → Prop} {k : Nat} (h : P k) : ndd P (k + 1) = ndd P k := by rw [ndd, if_pos h]
theorem ndd_f {P : Nat → Prop} {k : Nat} (h : ¬ P k) : ndd P (k + 1) = ndd P k ||| 2 ^ k := by rw [ndd, if_neg h]
theorem op_needed {N f nf : Nat} {tk : Nat → Nat} {R A : List Row} {NL : List (List Nat)} {tp : List Nat} {wx wm : Mem} (hN : 276 < N) (h : RelC wx wm f nf tk R A NL tp) (x1 x2 : Int32) : Op (f_X8_needed N wx x1 x2) (f_X9_needed N wm x1 x2) := by
  rcases h.why (N := N) x1 x2 with ⟨q, hq, e1, e2⟩ | ⟨t, u, rfl, rfl, ht, hu, hl, e1, e2⟩
  · rw [f_X8_needed, f_X9_needed, e1, e2, Option.bind_some, Option.bind_some, refused_n N wm (by omega) (by omega)]
    simp (disch := omega) only [↓lm1, ↓lm2, eq_n1, eq_n2, n1_eq, n2_eq, n1_n2, n2_n1, n1_lt, n2_lt, n1_le, lt_n1, lt_n2, inb_t, cl_t, le_tt, le_tf, lt_tt, lt_tf, eq_tt, eq_tf, q_add, q_mul, li0, li1, li2, li3, li4, li5, li6, li7, li8, li12, li16, li24, li48, li500, gF_sA, gA_sF, gF_sF, gR_sA, gR_sF, gL_sA, gL_sF, gA_sA, shl_t, or_t, and_t, sbit_t, ubit_t, b01_0, b01_1, Option.bind_some, ↓reduceIte, eq_self, ne_eq, not_true_eq_false, Bool.false_eq_true, not_false_eq_true, true_and, and_true, false_and, and_false, if_pos, if_neg, refuse_eq]
    exact op_ans0 h
  · have hs12 : (cSs tk R A).length ≤ 12 := h.ci.2.2.1.1
    have hM0 := h.2.1.km (mAns_km (cS (run tk c0 (R ++ A))).length wm (nI 0))
    have hfl := full_lt (cSs tk R A).length
    have hfs : full (cSs tk R A).length < 4096 := Nat.lt_of_lt_of_le hfl (p2le (b := 12) hs12)
    have hf := h.1.1.1
    have keyX : ∀ r fuel k w, k + r = (cSs tk R A).length → r < fuel → KX wx w → ∃ w', lp_X8_needed_23 (fun (w_4 : Mem) (u4_4 : Int32) => (f_X8_needed_73 N w_4 u4_4)) N (nI t) (nI u) fuel w (nI (ndd (fun k => By (cT tk R A) (cSs tk R A) (clr (full (cSs tk R A).length) k) t u) k)) (nI k) = some (xAns w' (nI 0), nI (ndd (fun k => By (cT tk R A) (cSs tk R A) (clr (full (cSs tk R A).length) k) t u) (cSs tk R A).length)) ∧ KX wx w' := by
      intro r
      induction r with
      | zero =>
        intro fuel k w hk hf' hw
        obtain ⟨f', rfl⟩ : ∃ f, fuel = f + 1 := ⟨fuel - 1, by omega⟩
        have hw' := h.1.kx hw
        have h5 := hw'.1.2.1
        have x9 : gF w 1 9 f = nI (cSs tk R A).length := hw'.2.1.2.1.2.1
        have e : k = (cSs tk R A).length := by omega
        subst e
        refine ⟨w, ?_, hw⟩
        rw [lp_X8_needed_23]
        simp (disch := omega) only [↓lm1, ↓lm2, eq_n1, eq_n2, n1_eq, n2_eq, n1_n2, n2_n1, n1_lt, n2_lt, n1_le, lt_n1, lt_n2, inb_t, cl_t, le_tt, le_tf, lt_tt, lt_tf, eq_tt, eq_tf, q_add, q_mul, li0, li1, li2, li3, li4, li5, li6, li7, li8, li12, li16, li24, li48, li500, gF_sA, gA_sF, gF_sF, gR_sA, gR_sF, gL_sA, gL_sF, gA_sA, shl_t, or_t, and_t, sbit_t, ubit_t, b01_0, b01_1, Option.bind_some, ↓reduceIte, eq_self, ne_eq, not_true_eq_false, Bool.false_eq_true, not_false_eq_true, true_and, and_true, false_and, and_false, if_pos, if_neg, h5, x9, f_X8_needed_73, answer_eq]
      | succ r ih =>
        intro fuel k w hk hf' hw
        obtain ⟨f', rfl⟩ : ∃ f, fuel = f + 1 := ⟨fuel - 1, by omega⟩
        have hw' := h.1.kx hw
        have h5 := hw'.1.2.1
        have x9 : gF w 1 9 f = nI (cSs tk R A).length := hw'.2.1.2.1.2.1
        have hcl : clr (full (cSs tk R A).length) k < 4096 := clr_lt (n := 12) hfs
        obtain ⟨w1, a1, a2⟩ := hw'.isOneBy (b := clr (full (cSs tk R A).length) k) hN (by omega) ht hu
        obtain ⟨w2, b1, b2⟩ := ih f' (k + 1) w1 (by omega) (by omega) (hw.tr a2)
        refine ⟨w2, ?_, b2⟩
        by_cases z : By (cT tk R A) (cSs tk R A) (clr (full (cSs tk R A).length) k) t u
        · rw [b01_t z] at a1
          rw [ndd_t (P := fun k => By (cT tk R A) (cSs tk R A) (clr (full (cSs tk R A).length) k) t u) z] at b1
          rw [lp_X8_needed_23, ← b1]
          simp (disch := omega) only [↓lm1, ↓lm2, eq_n1, eq_n2, n1_eq, n2_eq, n1_n2, n2_n1, n1_lt, n2_lt, n1_le, lt_n1, lt_n2, inb_t, cl_t, le_tt, le_tf, lt_tt, lt_tf, eq_tt, eq_tf, q_add, q_mul, li0, li1, li2, li3, li4, li5, li6, li7, li8, li12, li16, li24, li48, li500, gF_sA, gA_sF, gF_sF, gR_sA, gR_sF, gL_sA, gL_sF, gA_sA, shl_t, or_t, and_t, sbit_t, ubit_t, b01_0, b01_1, Option.bind_some, ↓reduceIte, eq_self, ne_eq, not_true_eq_false, Bool.false_eq_true, not_false_eq_true, true_and, and_true, false_and, and_false, if_pos, if_neg, h5, x9, allX hs12 x9, clr_t, a1]
        · rw [b01_f z] at a1
          rw [ndd_f (P := fun k => By (cT tk R A) (cSs tk R A) (clr (full (cSs tk R A).length) k) t u) z] at b1
          rw [lp_X8_needed_23, ← b1]
          simp (disch := omega) only [↓lm1, ↓lm2, eq_n1, eq_n2, n1_eq, n2_eq, n1_n2, n2_n1, n1_lt, n2_lt, n1_le, lt_n1, lt_n2, inb_t, cl_t, le_tt, le_tf, lt_tt, lt_tf, eq_tt, eq_tf, q_add, q_mul, li0, li1, li2, li3, li4, li5, li6, li7, li8, li12, li16, li24, li48, li500, gF_sA, gA_sF, gF_sF, gR_sA, gR_sF, gL_sA, gL_sF, gA_sA, shl_t, or_t, and_t, sbit_t, ubit_t, b01_0, b01_1, Option.bind_some, ↓reduceIte, eq_self, ne_eq, not_true_eq_false, Bool.false_eq_true, not_false_eq_true, true_and, and_true, false_and, and_false, if_pos, if_neg, h5, x9, allX hs12 x9, clr_t, a1]
    have keyM : ∀ r fuel k w, k + r = (cSs tk R A).length → r < fuel → FrK 59 (mAns wm (nI 0)) w → ∃ w', lp_X9_needed_20 (fun (w_5 : Mem) (u3_5 : Int32) => (f_X9_needed_66 N w_5 u3_5)) N (nI t) (nI u) fuel w (nI (ndd (fun k => By (cT tk R A) (cSs tk R A) (clr (full (cSs tk R A).length) k) t u) k)) (nI k) = some (w', nI (ndd (fun k => By (cT tk R A) (cSs tk R A) (clr (full (cSs tk R A).length) k) t u) (cSs tk R A).length)) ∧ FrK 59 (mAns wm (nI 0)) w' := by
      intro r
      induction r with
      | zero =>
        intro fuel k w hk hf' hw
        obtain ⟨f', rfl⟩ : ∃ f, fuel = f + 1 := ⟨fuel - 1, by omega⟩
        have hw' := hM0.km (hw.km (by omega) _)
        have m30 : gF w 9 30 0 = nI (cSs tk R A).length := hw'.1.2.1.2.1
        have e : k = (cSs tk R A).length := by omega
        subst e
        refine ⟨w, ?_, hw⟩
        rw [lp_X9_needed_20]
        simp (disch := omega) only [↓lm1, ↓lm2, eq_n1, eq_n2, n1_eq, n2_eq, n1_n2, n2_n1, n1_lt, n2_lt, n1_le, lt_n1, lt_n2, inb_t, cl_t, le_tt, le_tf, lt_tt, lt_tf, eq_tt, eq_tf, q_add, q_mul, li0, li1, li2, li3, li4, li5, li6, li7, li8, li12, li16, li24, li48, li500, gF_sA, gA_sF, gF_sF, gR_sA, gR_sF, gL_sA, gL_sF, gA_sA, shl_t, or_t, and_t, sbit_t, ubit_t, b01_0, b01_1, Option.bind_some, ↓reduceIte, eq_self, ne_eq, not_true_eq_false, Bool.false_eq_true, not_false_eq_true, true_and, and_true, false_and, and_false, if_pos, if_neg, m30, f_X9_needed_66]
      | succ r ih =>
        intro fuel k w hk hf' hw
        obtain ⟨f', rfl⟩ : ∃ f, fuel = f + 1 := ⟨fuel - 1, by omega⟩
        have hw' := hM0.km (hw.km (by omega) _)
        have m30 : gF w 9 30 0 = nI (cSs tk R A).length := hw'.1.2.1.2.1
        have hcl : clr (full (cSs tk R A).length) k < 2 ^ (cSs tk R A).length := clr_lt hfl
        obtain ⟨w1, a1, a2⟩ := hw'.isOneBy (b := clr (full (cSs tk R A).length) k) hN hcl ht hu
        obtain ⟨w2, b1, b2⟩ := ih f' (k + 1) w1 (by omega) (by omega) (hw.tr a2)
        refine ⟨w2, ?_, b2⟩
        by_cases z : By (cT tk R A) (cSs tk R A) (clr (full (cSs tk R A).length) k) t u
        · rw [b01_t z] at a1
          rw [ndd_t (P := fun k => By (cT tk R A) (cSs tk R A) (clr (full (cSs tk R A).length) k) t u) z] at b1
          rw [lp_X9_needed_20, ← b1]
          simp (disch := omega) only [↓lm1, ↓lm2, eq_n1, eq_n2, n1_eq, n2_eq, n1_n2, n2_n1, n1_lt, n2_lt, n1_le, lt_n1, lt_n2, inb_t, cl_t, le_tt, le_tf, lt_tt, lt_tf, eq_tt, eq_tf, q_add, q_mul, li0, li1, li2, li3, li4, li5, li6, li7, li8, li12, li16, li24, li48, li500, gF_sA, gA_sF, gF_sF, gR_sA, gR_sF, gL_sA, gL_sF, gA_sA, shl_t, or_t, and_t, sbit_t, ubit_t, b01_0, b01_1, Option.bind_some, ↓reduceIte, eq_self, ne_eq, not_true_eq_false, Bool.false_eq_true, not_false_eq_true, true_and, and_true, false_and, and_false, if_pos, if_neg, m30, allM hs12 m30, clr_t, a1, Nat.or_zero]
        · rw [b01_f z] at a1
          rw [ndd_f (P := fun k => By (cT tk R A) (cSs tk R A) (clr (full (cSs tk R A).length) k) t u) z] at b1
          rw [lp_X9_needed_20, ← b1]
          simp (disch := omega) only [↓lm1, ↓lm2, eq_n1, eq_n2, n1_eq, n2_eq, n1_n2, n2_n1, n1_lt, n2_lt, n1_le, lt_n1, lt_n2, inb_t, cl_t, le_tt, le_tf, lt_tt, lt_tf, eq_tt, eq_tf, q_add, q_mul, li0, li1, li2, li3, li4, li5, li6, li7, li8, li12, li16, li24, li48, li500, gF_sA, gA_sF, gF_sF, gR_sA, gR_sF, gL_sA, gL_sF, gA_sA, shl_t, or_t, and_t, sbit_t, ubit_t, b01_0, b01_1, Option.bind_some, ↓reduceIte, eq_self, ne_eq, not_true_eq_false, Bool.false_eq_true, not_false_eq_true, true_and, and_true, false_and, and_false, if_pos, if_neg, m30, allM hs12 m30, clr_t, a1]
    obtain ⟨v, a1, a2⟩ := keyX (cSs tk R A).length N 0 wx (by omega) (by omega) KX.rf
    obtain ⟨u', b1, b2⟩ := keyM (cSs tk R A).length N 0 (mAns wm (nI 0)) (by omega) (by omega) Fr.rf
    rw [f_X8_needed, f_X9_needed, e1, e2]
    simp (disch := omega) only [↓lm1, ↓lm2, eq_n1, eq_n2, n1_eq, n2_eq, n1_n2, n2_n1, n1_lt, n2_lt, n1_le, lt_n1, lt_n2, inb_t, cl_t, le_tt, le_tf, lt_tt, lt_tf, eq_tt, eq_tf, q_add, q_mul, li0, li1, li2, li3, li4, li5, li6, li7, li8, li12, li16, li24, li48, li500, gF_sA, gA_sF, gF_sF, gR_sA, gR_sF, gL_sA, gL_sF, gA_sA, shl_t, or_t, and_t, sbit_t, ubit_t, b01_0, b01_1, Option.bind_some, ↓reduceIte, eq_self, ne_eq, not_true_eq_false, Bool.false_eq_true, not_false_eq_true, true_and, and_true, false_and, and_false, if_pos, if_neg, refused_0]
    rw [show nI 0 = nI (ndd (fun k => By (cT tk R A) (cSs tk R A) (clr (full (cSs tk R A).length) k) t u) 0) from rfl]
    have a1' := a1
    have b1' := b1
    rw [show nI (ndd (fun k => By (cT tk R A) (cSs tk R A) (clr (full (cSs tk R A).length) k) t u) 0) = nI 0 from rfl] at a1' b1' ⊢
    rw [a1', b1']
    exact op_ans h a2 (b2.km (by omega) _) b2.ans.1 b2.ans.2 rfl
