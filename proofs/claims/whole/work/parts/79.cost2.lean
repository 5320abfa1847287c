/-! cost -/
theorem lessens_ok {N : Nat} {T : Trm} {S : Prs} {ld : Nat → Nat} {M : Mx} {w0 w : Mem} (hN : 30 < N) (hT : MT w0 T) (hSS : MSS w0 (tN T) S) (hL : LDC T S ld) (hE : EqL w0 w) (hC : CL w 64 (tN T) M) (hI : IC T S ld M) : ∃ w' fl, f_X9_lessens N w = some (w', nI fl) ∧ PS T S ld M w0 w' fl (fun _ _ => True) (fun _ _ _ => True) := by
  obtain ⟨w1, fl1, a1, a2⟩ := sides_ok (N := N) hN (fun (w_1 : Mem) (u1_1 : Int32) => (f_X9_lessens_105 N w_1 u1_1)) hT hSS hL (w := w) ⟨M, hE, hC, hI, fun _ _ _ _ => Nat.le_refl _, by omega, fun _ => ⟨fun _ _ _ _ => rfl, fun _ _ _ _ z => z.elim, fun _ _ _ _ _ _ z => z.elim⟩, fun z => by omega⟩
  obtain ⟨w2, fl2, b1, b2⟩ := ways_ok (N := N) hN (fun (w_2 : Mem) (u1_2 : Int32) => (f_X9_lessens_246 N w_2 u1_2)) hT a2
  refine ⟨w2, fl2, ?_, b2⟩
  rw [f_X9_lessens, li0, a1, f_X9_lessens_105, li0, b1, f_X9_lessens_246]
  have h5 : fl2 < 2 := by obtain ⟨X, _, _, _, _, h5, _⟩ := b2; exact h5
  rcases fl01 h5 with e | e
  · rw [e]; exact if_pos (Or.inl rfl)
  · rw [e]; exact if_pos (Or.inr rfl)
/-- what the model has when all is laid -/
def MDn (T : Trm) (S : Prs) (ld : Nat → Nat) (w : Mem) (X : Mx) : Prop := CL w 64 (tN T) X ∧ IC T S ld X ∧ (∀ t u, t < tN T → u < tN T → (X t u < 4000000000 ↔ ld t = ld u)) ∧ GSol T S ld (fun t u => min 1000000000 (X t u)) ∧ ∀ t u, t < tN T → u < tN T → gL w 65 0 (24 * t + u) = lI (sd T S X t u)
theorem laysLoop_ok {N : Nat} {T : Trm} {S : Prs} {ld : Nat → Nat} {w0 : Mem} (hN : 30 < N) (hT : MT w0 T) (hSS : MSS w0 (tN T) S) (hL : LDC T S ld) : ∀ r fuel M w, sm2 (tN T) M ≤ r → r + 1 < fuel → EqL w0 w → CL w 64 (tN T) M → IC T S ld M → ∃ w' X, lp_X9_laysCosts_56 (fun (w_2 : Mem) => (f_X9_laysCosts_68 N w_2)) N fuel w (nI 1) = some w' ∧ EqL w0 w' ∧ MDn T S ld w' X := by
  have hS : PRok (tN T) S := fun a b hab => by
    obtain ⟨p, hp⟩ := List.getElem?_of_mem hab
    exact ⟨(hSS.2.2 p a b hp).1, (hSS.2.2 p a b hp).2.1⟩
  intro r
  induction r with
  | zero =>
    intro fuel M w hr hf hE hC hI
    obtain ⟨fu, rfl⟩ : ∃ g, fuel = g + 2 := ⟨fuel - 2, by omega⟩
    obtain ⟨w1, fl, a1, a2⟩ := lessens_ok (N := N) hN hT hSS hL hE hC hI
    obtain ⟨X, h1, h2, h3, h4, h5, h6, h7⟩ := a2
    rcases fl01 h5 with rfl | rfl
    · obtain ⟨g1, g2, g3⟩ := h6 rfl
      obtain ⟨d1, d2⟩ := hI.done hT.2.1 hL (fun t u ht hu => (g2 t u ht hu trivial).2) (fun t u v ht hu hv => g3 v t u hv ht hu trivial) hS
      refine ⟨w1, M, ?_, h1, fun t u ht hu => by rw [← g1 t u ht hu]; exact h2 t u ht hu, hI, d1, d2, fun t u ht hu => (g2 t u ht hu trivial).1⟩
      rw [lp_X9_laysCosts_56, if_neg (show ¬ ((nI 1 : Int32) = 0) by decide), a1, Option.bind_some, lp_X9_laysCosts_56, if_pos (show (nI 0 : Int32) = 0 from rfl), f_X9_laysCosts_68]
    · have := sm2_lt h4 (h7 rfl)
      omega
  | succ r ih =>
    intro fuel M w hr hf hE hC hI
    obtain ⟨fu, rfl⟩ : ∃ g, fuel = g + 2 := ⟨fuel - 2, by omega⟩
    obtain ⟨w1, fl, a1, a2⟩ := lessens_ok (N := N) hN hT hSS hL hE hC hI
    obtain ⟨X, h1, h2, h3, h4, h5, h6, h7⟩ := a2
    rcases fl01 h5 with rfl | rfl
    · obtain ⟨g1, g2, g3⟩ := h6 rfl
      obtain ⟨d1, d2⟩ := hI.done hT.2.1 hL (fun t u ht hu => (g2 t u ht hu trivial).2) (fun t u v ht hu hv => g3 v t u hv ht hu trivial) hS
      refine ⟨w1, M, ?_, h1, fun t u ht hu => by rw [← g1 t u ht hu]; exact h2 t u ht hu, hI, d1, d2, fun t u ht hu => (g2 t u ht hu trivial).1⟩
      rw [lp_X9_laysCosts_56, if_neg (show ¬ ((nI 1 : Int32) = 0) by decide), a1, Option.bind_some, lp_X9_laysCosts_56, if_pos (show (nI 0 : Int32) = 0 from rfl), f_X9_laysCosts_68]
    · have hlt := sm2_lt h4 (h7 rfl)
      obtain ⟨w2, Y, b1, b2⟩ := ih (fu + 1) X w1 (by omega) (by omega) h1 h2 h3
      refine ⟨w2, Y, ?_, b2⟩
      rw [lp_X9_laysCosts_56, if_neg (show ¬ ((nI 1 : Int32) = 0) by decide), a1, Option.bind_some]
      exact b1
theorem laysCosts_ok {N : Nat} {T : Trm} {S : Prs} {ld : Nat → Nat} {w0 : Mem} (hN : 10000000000000 < N) (hT : MT w0 T) (hSS : MSS w0 (tN T) S) (hL : LDC T S ld) : ∃ w' X, f_X9_laysCosts N w0 = some w' ∧ EqL w0 w' ∧ MDn T S ld w' X := by
  have hn := hT.1
  have e27 := hT.2.2.1
  have key := lpc (α := Mem) (tN T) (fun fu a v => lp_X9_laysCosts_2 (fun (w_1 : Mem) => (f_X9_laysCosts_54 N w_1)) N fu a v) (fun a => f_X9_laysCosts_54 N a) (fun q a => EqL w0 a ∧ ∀ t u, t < q → u < tN T → gL a 64 0 (24 * t + u) = lI (if t = u then 0 else 4000000000)) ?_ ?_ 0 N w0 (by omega) (by omega) ⟨EqL.rf, fun t u ht => absurd ht (Nat.not_lt_zero t)⟩
  · obtain ⟨a, ⟨a1, a2⟩, a3⟩ := key
    have hI : IC T S ld (fun t u => if t = u then 0 else 4000000000) := by
      refine ⟨fun t u _ _ => ?_, fun t _ => if_pos rfl, fun t u _ _ => ?_, fun E hE t u ht hu => ?_⟩
      · show fr (if t = u then 0 else 4000000000)
        unfold fr
        split <;> omega
      · show (if t = u then 0 else 4000000000) < 4000000000 → _
        intro h
        by_cases z : t = u
        · rw [z]
        · rw [if_neg z] at h; omega
      · show E t u ≤ (if t = u then 0 else 4000000000)
        by_cases z : t = u
        · rw [if_pos z, ← z, hE.1 t ht]; omega
        · have := (sol_tri hE).1 t u ht hu
          rw [if_neg z]; omega
    have hb := sm2_bd (n := tN T) (F := fun t u => if t = u then 0 else 4000000000) (b := 4000000000) (fun t u _ _ => by show (if t = u then 0 else 4000000000) ≤ 4000000000; split <;> omega)
    have hb2 : tN T * (tN T * 4000000000) ≤ 24 * (24 * 4000000000) := Nat.mul_le_mul hn (Nat.mul_le_mul hn (Nat.le_refl _))
    obtain ⟨w', X, b1, b2, b3⟩ := laysLoop_ok (N := N) (by omega) hT hSS hL (sm2 (tN T) (fun t u => if t = u then 0 else 4000000000)) N _ a (Nat.le_refl _) (by omega) a1 a2 hI
    refine ⟨w', X, ?_, b2, b3⟩
    rw [f_X9_laysCosts, li0, a3, f_X9_laysCosts_54, li1]
    exact b1
  · intro fu a ⟨a1, a2⟩
    have e27a : gF a 9 27 0 = nI (tN T) := by rw [a1.1]; exact e27
    show lp_X9_laysCosts_2 (fun (w_1 : Mem) => (f_X9_laysCosts_54 N w_1)) N (fu + 1) a (nI (tN T)) = f_X9_laysCosts_54 N a
    rw [lp_X9_laysCosts_2, e27a, if_pos (of_eq_true (le_tt (by omega) (by omega) (Nat.le_refl _)))]
  · intro fu t a ht ⟨a1, a2⟩
    have e27a : gF a 9 27 0 = nI (tN T) := by rw [a1.1]; exact e27
    generalize hk2 : (fun (w_1 : Mem) => (f_X9_laysCosts_54 N w_1)) = k2
    have key2 := lpc (α := Mem) (tN T) (fun f2 b v => lp_X9_laysCosts_12 (fun (w_6 : Mem) => (f_X9_laysCosts_48_2 (fun (w : Mem) (v1 : Int32) => lp_X9_laysCosts_2 k2 N fu w v1) k2 N w_6 (nI t))) N (nI t) f2 b v) (fun b => lp_X9_laysCosts_2 k2 N fu b (nI (t + 1))) (fun u b => EqL w0 b ∧ ∀ x y, x < t ∨ (x = t ∧ y < u) → y < tN T → gL b 64 0 (24 * x + y) = lI (if x = y then 0 else 4000000000)) ?_ ?_ 0 N a (by omega) (by omega) ⟨a1, fun x y hxy hy => a2 x y (by omega) hy⟩
    · obtain ⟨b, ⟨b1, b2⟩, b3⟩ := key2
      refine ⟨b, ⟨b1, fun x y hx hy => b2 x y (by omega) hy⟩, ?_⟩
      show lp_X9_laysCosts_2 k2 N (fu + 1) a (nI t) = lp_X9_laysCosts_2 k2 N fu b (nI (t + 1))
      rw [lp_X9_laysCosts_2, e27a, if_neg (of_eq_false (le_tf (by omega) (by omega) ht)), li0]
      exact b3
    · intro f2 b ⟨b1, b2⟩
      have e27b : gF b 9 27 0 = nI (tN T) := by rw [b1.1]; exact e27
      show lp_X9_laysCosts_12 (fun (w_6 : Mem) => (f_X9_laysCosts_48_2 (fun (w : Mem) (v1 : Int32) => lp_X9_laysCosts_2 k2 N fu w v1) k2 N w_6 (nI t))) N (nI t) (f2 + 1) b (nI (tN T)) = lp_X9_laysCosts_2 k2 N fu b (nI (t + 1))
      rw [lp_X9_laysCosts_12, e27b, if_pos (of_eq_true (le_tt (by omega) (by omega) (Nat.le_refl _))), f_X9_laysCosts_48_2, li1, q_add]
    · intro f2 u b hu ⟨b1, b2⟩
      have e27b : gF b 9 27 0 = nI (tN T) := by rw [b1.1]; exact e27
      generalize hk3 : (fun (w_6 : Mem) => (f_X9_laysCosts_48_2 (fun (w : Mem) (v1 : Int32) => lp_X9_laysCosts_2 k2 N fu w v1) k2 N w_6 (nI t))) = k3
      have hi : inb (nI (24 * t + u)) 576 = true := inb_t (by omega) (by omega)
      have hcl : (nI (24 * t + u)).toNatClampNeg = 24 * t + u := cl_t (by omega)
      refine ⟨sL b 64 0 (24 * t + u) (lI (if t = u then 0 else 4000000000)), ⟨b1.tr EqL.sl, fun x y hxy hy => ?_⟩, ?_⟩
      · rw [gL_sL']
        by_cases e : x = t ∧ y = u
        · rw [if_pos (by omega), e.1, e.2]
        · rw [if_neg (by omega)]; exact b2 x y (by omega) hy
      · show lp_X9_laysCosts_12 k3 N (nI t) (f2 + 1) b (nI u) = lp_X9_laysCosts_12 k3 N (nI t) f2 (sL b 64 0 (24 * t + u) (lI (if t = u then 0 else 4000000000))) (nI (u + 1))
        rw [lp_X9_laysCosts_12, e27b, if_neg (of_eq_false (le_tf (by omega) (by omega) hu))]
        simp only [f_X9_pair, Option.bind_some, li24, li1, q_mul, q_add, hi, hcl, l0, lF, ↓reduceIte]
        by_cases z : t = u
        · rw [if_pos (by rw [z]), if_pos z]
        · rw [if_neg (of_eq_false (eq_tf (by omega) (by omega) z)), if_neg z]
theorem RelC.ldc {wx wm : Mem} {f nf : Nat} {tk : Nat → Nat} {R A : List Row} {NL : List (List Nat)} {tp : List Nat} (h : RelC wx wm f nf tk R A NL tp) : LDC (cT tk R A) (cSs tk R A) (ldJ (cJ (run tk c0 (R ++ A)))) := by
  have hCI := h.ci
  have hi := hCI.2.1
  refine ⟨⟨fun _ _ => rfl, fun _ _ _ _ z => z.symm, fun _ _ _ _ _ _ a b => a.trans b, fun i j hi2 hj hij => ?_⟩, fun a b hab => (hi a b (hCI.2.2.1.2 a b hab).1 (hCI.2.2.1.2 a b hab).2).mpr (cg_in hab), fun i j hi2 hj e => (hi i j hi2 hj).mp e⟩
  refine (hi i j hi2 hj).mpr ((cg_congr _ hCI.1.1 _).2.2.2 i j hi2 hj ⟨hij.1, fun k hk => ?_⟩)
  have d := parts_lt hCI.1.1 hi2 hj hij.1 hk
  exact (hi _ _ d.1 d.2).mp (hij.2 k hk)
/-- settled -/
def CO2 (w : Mem) (T : Trm) (S : Prs) (ld : Nat → Nat) (D : Mx) : Prop := CM w (tN T) D ∧ GSol T S ld D ∧ CP w (tN T) (wt T S ld D)
theorem RelC.settle {N : Nat} {wx wm : Mem} {f nf : Nat} {tk : Nat → Nat} {R A : List Row} {NL : List (List Nat)} {tp : List Nat} (hN : 2000 < N) (h : RelC wx wm f nf tk R A NL tp) : ∃ wx' D, f_X0_settle N wx f = some wx' ∧ RelC wx' wm f nf tk R A NL tp ∧ CO2 wx' (cT tk R A) (cSs tk R A) (ldJ (cJ (run tk c0 (R ++ A)))) D := by
  have hCI := h.ci
  obtain ⟨⟨⟨hf, h5, h6⟩, ⟨⟨xT, xG, xF⟩, xS, xQ, xD⟩, xFN, xA, xNm, xTp, xCo⟩, hM, hPp, hfa⟩ := id h
  have hM0 := hM.km (mAns_km (cS (run tk c0 (R ++ A))).length wm (nI 0))
  obtain ⟨⟨⟨mT, mR, mN, mJ, mJR, mFR⟩, mS, mQ⟩, mFN, mRW, m8, m9, mNm, mTp⟩ := id hM0
  have hn : (cL (run tk c0 (R ++ A))).length ≤ 24 := xT.1
  have x10 : gF wx 7 10 f = nI (cL (run tk c0 (R ++ A))).length := xT.2.2.1
  have m27 : gF wm 9 27 0 = nI (cL (run tk c0 (R ++ A))).length := hM.1.1.1.2.2.1
  have iX := isTermX (N := N) (show (cL (run tk c0 (R ++ A))).length < 1000 by omega) hf h5 x10
  have iM := isTermM (N := N) (w := wm) (show (cL (run tk c0 (R ++ A))).length < 1000 by omega) m27
  rcases xCo with e | ⟨e, e2, D, e3, e4⟩
  · obtain ⟨w', X, a1, a2, a3, a4, a5, a6⟩ := settle_ok hN hf xT xG xS e
    refine ⟨w', X, a1, ⟨⟨⟨hf, (a6.2.2.2 _ _ _).trans h5, (a6.2.2.2 _ _ _).trans h6⟩, XK.fr ⟨⟨xT, xG, xF⟩, xS, xQ, xD⟩ a6 (fun _ _ _ z => by omega) (fun _ _ z => by omega), ⟨xFN.1, (a6.1 _ _ _ (by omega)).trans xFN.2.1, fun g hg => by rw [a6.2.1 31 f (by omega)]; exact xFN.2.2 g hg⟩, ⟨xA.1, (a6.1 _ _ _ (by omega)).trans xA.2.1, fun p r hp => by rw [a6.2.1 17 f (by omega), a6.2.1 18 f (by omega)]; exact xA.2.2 p r hp⟩, fun t ht => by rw [a6.2.1 34 f (by omega)]; exact xNm t ht, ⟨(a6.1 _ _ _ (by omega)).trans xTp.1, fun i hi => by rw [a6.2.1 30 0 (by omega)]; exact xTp.2 i hi⟩, Or.inr ⟨a2, a3.1, X, a4, fun t u ht hu => ⟨a3.2 t u ht hu, a5 t u ht hu⟩⟩⟩, h.2.1, h.2.2.1, (a6.1 _ _ _ (by omega)).trans hfa⟩, a3, a4, a5⟩
  · refine ⟨wx, D, ?_, h, ⟨e2, fun t u ht hu => (e4 t u ht hu).1⟩, e3, fun t u ht hu => (e4 t u ht hu).2⟩
    rw [f_X0_settle, if_neg (by rw [e]; decide)]
theorem op_cost {N f nf : Nat} {tk : Nat → Nat} {R A : List Row} {NL : List (List Nat)} {tp : List Nat} {wx wm : Mem} (hN : 10000000000000 < N) (h : RelC wx wm f nf tk R A NL tp) (x1 x2 : Int32) : Op (f_X8_cost N wx x1 x2) (f_X9_cost N wm x1 x2) := by
  rcases h.why (N := N) x1 x2 with ⟨q, hq, e1, e2⟩ | ⟨t, u, rfl, rfl, ht, hu, hl, e1, e2⟩
  · rw [f_X8_cost, f_X9_cost, e1, e2, Option.bind_some, Option.bind_some, refused_n N wm (by omega) (by omega)]
    simp (disch := omega) only [↓lm1, ↓lm2, eq_n1, eq_n2, n1_eq, n2_eq, n1_n2, n2_n1, n1_lt, n2_lt, n1_le, lt_n1, lt_n2, inb_t, cl_t, le_tt, le_tf, lt_tt, lt_tf, eq_tt, eq_tf, q_add, q_mul, li0, li1, li2, li3, li4, li5, li6, li7, li8, li12, li16, li24, li48, li500, gF_sA, gA_sF, gF_sF, gR_sA, gR_sF, gL_sA, gL_sF, gA_sA, shl_t, or_t, and_t, sbit_t, ubit_t, b01_0, b01_1, Option.bind_some, ↓reduceIte, eq_self, ne_eq, not_true_eq_false, Bool.false_eq_true, not_false_eq_true, true_and, and_true, false_and, and_false, if_pos, if_neg, refuse_eq]
    exact op_ans0 h
  · have hM0 := h.2.1.km (mAns_km (cS (run tk c0 (R ++ A))).length wm (nI 0))
    have h5 := h.1.1.2.1
    have hf := h.1.1.1
    have hn24 : tN (cT tk R A) ≤ 24 := h.ci.1.2.1
    obtain ⟨wx', D, a1, a2, a3, a4, a5⟩ := h.settle (N := N) (by omega)
    obtain ⟨wm', X, b1, b2, b3, b4, b5, b6, b7⟩ := laysCosts_ok hN hM0.1.1.1 hM0.1.2.1 h.ldc
    have hfin := (b5 t u ht hu).mpr hl
    have hD := gsol_uniq a4 b6 t u ht hu
    have hfr := b4.1 t u ht hu
    have hDX : D t u = X t u := by
      unfold fr at hfr
      rw [hD]
      show min 1000000000 (X t u) = X t u
      omega
    have h64 := b3 t u ht hu
    have hle := least_ok (N := N) a3 hn24 ht hu
    have hn : tN (cT tk R A) = (cL (run tk c0 (R ++ A))).length := rfl
    rw [f_X8_cost, e1, Option.bind_some, if_pos (show (nI 0 : Int32) = 0 from rfl), if_pos (by rw [h5]; exact hf), h5, a1, Option.bind_some, hle, Option.bind_some, answer_eq, Option.bind_some]
    refine op_ans (tr := nI 0) a2 KX.rf (b2.km _) ?_ ?_ ?_
    · rw [b2.1]; exact mAns_1 _ _
    · rw [b2.1]; exact mAns_3 _ _
    · rw [f_X9_cost, e2, Option.bind_some, refused_0, Option.bind_some, if_pos (show (nI 0 : Int32) = 0 from rfl), b1, Option.bind_some, f_X9_pair, Option.bind_some, li24, q_mul, q_add, if_pos (inb_t (by omega) (by omega)), cl_t (by omega), h64, lI_32, hDX]
