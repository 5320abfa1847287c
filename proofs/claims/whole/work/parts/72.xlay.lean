/-! the class: lay, pave -/
def CM (w : Mem) (n : Nat) (X : Mx) : Prop := gF w 0 3 0 = nI n ∧ ∀ t u, t < n → u < n → gA w 10 0 (t * 24 + u) = nI (X t u)
def CP (w : Mem) (n : Nat) (P : Mx) : Prop := ∀ t u, t < n → u < n → gA w 11 0 (t * 24 + u) = nI (P t u)
theorem CM.ext {w : Mem} {n : Nat} {X Y : Mx} (h : CM w n X) (he : ∀ t u, t < n → u < n → X t u = Y t u) : CM w n Y := ⟨h.1, fun t u ht hu => by rw [← he t u ht hu]; exact h.2 t u ht hu⟩
theorem CM.of {w v : Mem} {n : Nat} {X : Mx} (h : CM w n X) (h1 : gF v 0 3 0 = gF w 0 3 0) (h2 : gA v 10 0 = gA w 10 0) : CM v n X := ⟨by rw [h1]; exact h.1, fun t u ht hu => by rw [h2]; exact h.2 t u ht hu⟩
theorem CP.of {w v : Mem} {n : Nat} {X : Mx} (h : CP w n X) (h2 : gA v 11 0 = gA w 11 0) : CP v n X := fun t u ht hu => by rw [h2]; exact h t u ht hu
theorem liT : (1000000000 : Int32) = nI 1000000000 := by decide
theorem liW : (1000000001 : Int32) = nI 1000000001 := by decide
theorem plus_ok {N : Nat} {w : Mem} {a b : Nat} (h : a + b < 2147483648) : f_X0_plus N w (nI a) (nI b) = some (nI (pl a b)) := by
  rw [f_X0_plus, q_add, liT, n_min (by omega) (by omega)]; rfl
theorem least_ok {N n t u : Nat} {w : Mem} {X : Mx} (h : CM w n X) (hn : n ≤ 24) (ht : t < n) (hu : u < n) : f_X0_least N w (nI t) (nI u) = some (nI (X t u)) := by
  have h1 := h.2 t u ht hu
  rw [f_X0_least]
  simp (disch := omega) only [↓lm1, ↓lm2, eq_n1, eq_n2, n1_eq, n2_eq, n1_n2, n2_n1, n1_lt, n2_lt, n1_le, lt_n1, lt_n2, inb_t, cl_t, le_tt, le_tf, lt_tt, lt_tf, eq_tt, eq_tf, q_add, q_mul, li0, li1, li2, li3, li4, li5, li6, li7, li8, li12, li16, li24, li48, li500, gF_sA, gA_sF, gF_sF, gR_sA, gR_sF, gL_sA, gL_sF, gA_sA, shl_t, or_t, and_t, sbit_t, ubit_t, b01_0, b01_1, Option.bind_some, ↓reduceIte, eq_self, ne_eq, not_true_eq_false, Bool.false_eq_true, not_false_eq_true, true_and, and_true, false_and, and_false, if_pos, if_neg, h1]
/-- rows before t, and row t before u, are new -/
def pst (M M' : Mx) (t u : Nat) : Mx := fun a b => if a < t ∨ (a = t ∧ b < u) then M' a b else M a b
theorem pst_or (M M' : Mx) (t u a b : Nat) : pst M M' t u a b = M a b ∨ pst M M' t u a b = M' a b := by
  unfold pst; split
  · exact Or.inr rfl
  · exact Or.inl rfl
abbrev FrCo (w v : Mem) : Prop := Fr (fun _ _ _ => False) (fun k i => k = 10 ∧ i = 0) w v
theorem pl_bd (a b : Nat) : pl a b ≤ 1000000000 := Nat.min_le_left _ _
theorem layrow_ok {N n i j s t : Nat} {k : Mem → Option (Mem × Int32)} {M : Mx} (hn : n ≤ 24) (hN : 24 < N) (hM : MC n M) (hi : i < n) (hj : j < n) (hs : s ≤ 1000000000) (ht : t < n) (v3 : Int32) {w : Mem} (hw : CM w n (pst M (ly M i j s) t 0)) : ∃ w', lp_X0_lay_55 k N (nI i) (nI j) v3 (nI t) (nI (pl (M t i) s)) (nI (pl (M t j) s)) N w (nI 0) = k w' ∧ CM w' n (pst M (ly M i j s) (t + 1) 0) ∧ FrCo w w' := by
  have key := lpc (α := Mem) n (fun f a v => lp_X0_lay_55 k N (nI i) (nI j) v3 (nI t) (nI (pl (M t i) s)) (nI (pl (M t j) s)) f a v) k (fun q a => CM a n (pst M (ly M i j s) t q) ∧ FrCo w a) ?_ ?_ 0 N w (by omega) (by omega) ⟨hw, Fr.rf⟩
  · obtain ⟨w', ⟨a1, a2⟩, a3⟩ := key
    refine ⟨w', a3, a1.ext (fun a b ha hb => ?_), a2⟩
    unfold pst
    by_cases e : a < t + 1
    · rw [if_pos (by omega), if_pos (by omega)]
    · rw [if_neg (by omega), if_neg (by omega)]
  · intro f a ⟨ha, ha2⟩
    have a1 := ha.1
    show lp_X0_lay_55 k N (nI i) (nI j) v3 (nI t) (nI (pl (M t i) s)) (nI (pl (M t j) s)) (f + 1) a (nI n) = k a
    rw [lp_X0_lay_55]
    simp (disch := omega) only [↓lm1, ↓lm2, eq_n1, eq_n2, n1_eq, n2_eq, n1_n2, n2_n1, n1_lt, n2_lt, n1_le, lt_n1, lt_n2, inb_t, cl_t, le_tt, le_tf, lt_tt, lt_tf, eq_tt, eq_tf, q_add, q_mul, li0, li1, li2, li3, li4, li5, li6, li7, li8, li12, li16, li24, li48, li500, gF_sA, gA_sF, gF_sF, gR_sA, gR_sF, gL_sA, gL_sF, gA_sA, shl_t, or_t, and_t, sbit_t, ubit_t, b01_0, b01_1, Option.bind_some, ↓reduceIte, eq_self, ne_eq, not_true_eq_false, Bool.false_eq_true, not_false_eq_true, true_and, and_true, false_and, and_false, if_pos, if_neg, a1]
  · intro f q a hq ⟨ha, ha2⟩
    have a1 := ha.1
    have e1 := least_ok (N := N) ha hn hj hq
    have e2 := least_ok (N := N) ha hn hi hq
    have e3 := least_ok (N := N) ha hn ht hq
    have etq : pst M (ly M i j s) t q t q = M t q := by unfold pst; rw [if_neg (by omega)]
    have hx := pst_or M (ly M i j s) t q j q
    have hy := pst_or M (ly M i j s) t q i q
    have hv := ly_val hM (s := s) hi hj ht hq hx hy
    have b1 : pst M (ly M i j s) t q j q ≤ 1000000000 := by
      have := hM.2.1 j q hj hq
      have := ly_le M i j s j q
      omega
    have b2 : pst M (ly M i j s) t q i q ≤ 1000000000 := by
      have := hM.2.1 i q hi hq
      have := ly_le M i j s i q
      omega
    have b3 := hM.2.1 t q ht hq
    have p1 := plus_ok (N := N) (w := a) (a := pl (M t i) s) (b := pst M (ly M i j s) t q j q) (by have := pl_bd (M t i) s; omega)
    have p2 := plus_ok (N := N) (w := a) (a := pl (M t j) s) (b := pst M (ly M i j s) t q i q) (by have := pl_bd (M t j) s; omega)
    refine ⟨sA a 10 0 (t * 24 + q) (nI (ly M i j s t q)), ⟨⟨by rw [gF_sA]; exact a1, fun x y hx hy => ?_⟩, ha2.tr ?_⟩, ?_⟩
    · rw [gA_sA]
      unfold pst
      by_cases z : x = t ∧ y = q
      · rw [if_pos (by omega), if_pos (by omega), z.1, z.2]
      · rw [if_neg (by omega), ha.2 x y hx hy]
        unfold pst
        by_cases z2 : x < t ∨ (x = t ∧ y < q)
        · rw [if_pos z2, if_pos (by omega)]
        · rw [if_neg z2, if_neg (by omega)]
    · refine ⟨fun _ _ _ _ => rfl, fun k' i' z => ?_, fun _ _ => rfl, fun _ _ _ => rfl⟩
      funext y
      rw [gA_sA, if_neg (by omega)]
    · show lp_X0_lay_55 k N (nI i) (nI j) v3 (nI t) (nI (pl (M t i) s)) (nI (pl (M t j) s)) (f + 1) a (nI q) = lp_X0_lay_55 k N (nI i) (nI j) v3 (nI t) (nI (pl (M t i) s)) (nI (pl (M t j) s)) f (sA a 10 0 (t * 24 + q) (nI (ly M i j s t q))) (nI (q + 1))
      rw [lp_X0_lay_55]
      have q1 := pl_bd (pl (M t i) s) (pst M (ly M i j s) t q j q)
      have q2 := pl_bd (pl (M t j) s) (pst M (ly M i j s) t q i q)
      rw [a1, if_neg (of_eq_false (le_tf (by omega) (by omega) (show q < n by omega))), e1, Option.bind_some, p1, Option.bind_some, e2, Option.bind_some, p2, Option.bind_some, e3, Option.bind_some, n_min (by omega) (by omega), n_min (by rw [etq]; omega) (by omega), etq, hv]
      simp (disch := omega) only [↓lm1, ↓lm2, eq_n1, eq_n2, n1_eq, n2_eq, n1_n2, n2_n1, n1_lt, n2_lt, n1_le, lt_n1, lt_n2, inb_t, cl_t, le_tt, le_tf, lt_tt, lt_tf, eq_tt, eq_tf, q_add, q_mul, li0, li1, li2, li3, li4, li5, li6, li7, li8, li12, li16, li24, li48, li500, gF_sA, gA_sF, gF_sF, gR_sA, gR_sF, gL_sA, gL_sF, gA_sA, shl_t, or_t, and_t, sbit_t, ubit_t, b01_0, b01_1, Option.bind_some, ↓reduceIte, eq_self, ne_eq, not_true_eq_false, Bool.false_eq_true, not_false_eq_true, true_and, and_true, false_and, and_false, if_pos, if_neg]
theorem lay_ok {N n i j s : Nat} {M : Mx} (hn : n ≤ 24) (hN : 24 < N) (hM : MC n M) (hi : i < n) (hj : j < n) (hs : s ≤ 1000000000) {w : Mem} (hw : CM w n M) : ∃ w' X, f_X0_lay N w (nI i) (nI j) (nI s) = some (w', nI (b01 (s < M i j))) ∧ CM w' n X ∧ FrCo w w' ∧ (s < M i j ∧ X = ly M i j s ∨ ¬ s < M i j ∧ X = M) := by
  have e0 := least_ok (N := N) hw hn hi hj
  have b0 := hM.2.1 i j hi hj
  by_cases z : s < M i j
  · have key := lpc (α := Mem) n (fun f a v => lp_X0_lay_15 (fun (w_3 : Mem) => (f_X0_lay_133 N w_3)) N (nI i) (nI j) (nI s) f a v) (fun a => some (a, nI 1)) (fun q a => CM a n (pst M (ly M i j s) q 0) ∧ FrCo w a) ?_ ?_ 0 N w (by omega) (by omega) ⟨hw.ext (fun a b ha hb => by unfold pst; rw [if_neg (by omega)]), Fr.rf⟩
    · obtain ⟨w', ⟨a1, a2⟩, a3⟩ := key
      refine ⟨w', ly M i j s, ?_, a1.ext (fun a b ha hb => by unfold pst; rw [if_pos (by omega)]), a2, Or.inl ⟨z, rfl⟩⟩
      rw [f_X0_lay, b01_t z]
      simp (disch := omega) only [↓lm1, ↓lm2, eq_n1, eq_n2, n1_eq, n2_eq, n1_n2, n2_n1, n1_lt, n2_lt, n1_le, lt_n1, lt_n2, inb_t, cl_t, le_tt, le_tf, lt_tt, lt_tf, eq_tt, eq_tf, q_add, q_mul, li0, li1, li2, li3, li4, li5, li6, li7, li8, li12, li16, li24, li48, li500, gF_sA, gA_sF, gF_sF, gR_sA, gR_sF, gL_sA, gL_sF, gA_sA, shl_t, or_t, and_t, sbit_t, ubit_t, b01_0, b01_1, Option.bind_some, ↓reduceIte, eq_self, ne_eq, not_true_eq_false, Bool.false_eq_true, not_false_eq_true, true_and, and_true, false_and, and_false, if_pos, if_neg, e0]
      exact a3
    · intro f a ⟨ha, ha2⟩
      have a1 := ha.1
      show lp_X0_lay_15 (fun (w_3 : Mem) => (f_X0_lay_133 N w_3)) N (nI i) (nI j) (nI s) (f + 1) a (nI n) = some (a, nI 1)
      rw [lp_X0_lay_15]
      simp (disch := omega) only [↓lm1, ↓lm2, eq_n1, eq_n2, n1_eq, n2_eq, n1_n2, n2_n1, n1_lt, n2_lt, n1_le, lt_n1, lt_n2, inb_t, cl_t, le_tt, le_tf, lt_tt, lt_tf, eq_tt, eq_tf, q_add, q_mul, li0, li1, li2, li3, li4, li5, li6, li7, li8, li12, li16, li24, li48, li500, gF_sA, gA_sF, gF_sF, gR_sA, gR_sF, gL_sA, gL_sF, gA_sA, shl_t, or_t, and_t, sbit_t, ubit_t, b01_0, b01_1, Option.bind_some, ↓reduceIte, eq_self, ne_eq, not_true_eq_false, Bool.false_eq_true, not_false_eq_true, true_and, and_true, false_and, and_false, if_pos, if_neg, a1, f_X0_lay_133]
    · intro f q a hq ⟨ha, ha2⟩
      have a1 := ha.1
      have e1 := least_ok (N := N) ha hn hq hi
      have e2 := least_ok (N := N) ha hn hq hj
      have eti : pst M (ly M i j s) q 0 q i = M q i := by unfold pst; rw [if_neg (by omega)]
      have etj : pst M (ly M i j s) q 0 q j = M q j := by unfold pst; rw [if_neg (by omega)]
      rw [eti] at e1
      rw [etj] at e2
      have p1 := plus_ok (N := N) (w := a) (a := M q i) (b := s) (by have := hM.2.1 q i hq hi; omega)
      have p2 := plus_ok (N := N) (w := a) (a := M q j) (b := s) (by have := hM.2.1 q j hq hj; omega)
      obtain ⟨w1, c1, c2, c3⟩ := layrow_ok (N := N) (k := (fun (w_12 : Mem) => (f_X0_lay_127_15 (fun (w : Mem) (v4 : Int32) => lp_X0_lay_15 (fun (w_3 : Mem) => (f_X0_lay_133 N w_3)) N (nI i) (nI j) (nI s) f w v4) (fun (w_3 : Mem) => (f_X0_lay_133 N w_3)) N w_12 (nI i) (nI j) (nI s) (nI q)))) hn hN hM hi hj hs hq (nI s) ha
      refine ⟨w1, ⟨c2, ha2.tr c3⟩, ?_⟩
      show lp_X0_lay_15 (fun (w_3 : Mem) => (f_X0_lay_133 N w_3)) N (nI i) (nI j) (nI s) (f + 1) a (nI q) = lp_X0_lay_15 (fun (w_3 : Mem) => (f_X0_lay_133 N w_3)) N (nI i) (nI j) (nI s) f w1 (nI (q + 1))
      rw [lp_X0_lay_15]
      rw [a1, if_neg (of_eq_false (le_tf (by omega) (by omega) (show q < n by omega))), e1, Option.bind_some, p1, Option.bind_some, e2, Option.bind_some, p2, Option.bind_some, li0, c1, f_X0_lay_127_15, li1, q_add]
  · refine ⟨w, M, ?_, hw, Fr.rf, Or.inr ⟨z, rfl⟩⟩
    rw [f_X0_lay, b01_f z]
    simp (disch := omega) only [↓lm1, ↓lm2, eq_n1, eq_n2, n1_eq, n2_eq, n1_n2, n2_n1, n1_lt, n2_lt, n1_le, lt_n1, lt_n2, inb_t, cl_t, le_tt, le_tf, lt_tt, lt_tf, eq_tt, eq_tf, q_add, q_mul, li0, li1, li2, li3, li4, li5, li6, li7, li8, li12, li16, li24, li48, li500, gF_sA, gA_sF, gF_sF, gR_sA, gR_sF, gL_sA, gL_sF, gA_sA, shl_t, or_t, and_t, sbit_t, ubit_t, b01_0, b01_1, Option.bind_some, ↓reduceIte, eq_self, ne_eq, not_true_eq_false, Bool.false_eq_true, not_false_eq_true, true_and, and_true, false_and, and_false, if_pos, if_neg, e0]
abbrev FrPo (w v : Mem) : Prop := Fr (fun _ _ _ => False) (fun k i => k = 11 ∧ i = 0) w v
def pv (P : Mx) (i j s : Nat) : Mx := fun a b => if (a = i ∧ b = j) ∨ (a = j ∧ b = i) then min s (P i j) else P a b
theorem pave_ok {N n i j s : Nat} {P : Mx} (hn : n ≤ 24) (hi : i < n) (hj : j < n) (hs : s ≤ 1000000001) (hP : P i j ≤ 1000000001) {w : Mem} (hw : CP w n P) : ∃ w', f_X0_pave N w (nI i) (nI j) (nI s) = some w' ∧ CP w' n (pv P i j s) ∧ FrPo w w' := by
  have e0 := hw i j hi hj
  refine ⟨sA (sA w 11 0 (i * 24 + j) (nI (min s (P i j)))) 11 0 (j * 24 + i) (nI (min s (P i j))), ?_, fun a b ha hb => ?_, ⟨fun _ _ _ _ => rfl, fun k' i' z => ?_, fun _ _ => rfl, fun _ _ _ => rfl⟩⟩
  · rw [f_X0_pave]
    simp (disch := omega) only [↓lm1, ↓lm2, eq_n1, eq_n2, n1_eq, n2_eq, n1_n2, n2_n1, n1_lt, n2_lt, n1_le, lt_n1, lt_n2, inb_t, cl_t, le_tt, le_tf, lt_tt, lt_tf, eq_tt, eq_tf, q_add, q_mul, li0, li1, li2, li3, li4, li5, li6, li7, li8, li12, li16, li24, li48, li500, gF_sA, gA_sF, gF_sF, gR_sA, gR_sF, gL_sA, gL_sF, gA_sA, shl_t, or_t, and_t, sbit_t, ubit_t, b01_0, b01_1, Option.bind_some, ↓reduceIte, eq_self, ne_eq, not_true_eq_false, Bool.false_eq_true, not_false_eq_true, true_and, and_true, false_and, and_false, if_pos, if_neg, e0]
    rw [n_min (by omega) (by omega)]
  · rw [gA_sA, gA_sA]
    unfold pv
    by_cases z : (a = j ∧ b = i)
    · rw [if_pos (by omega), if_pos (Or.inr z)]
    · rw [if_neg (by omega)]
      by_cases z2 : (a = i ∧ b = j)
      · rw [if_pos (by omega), if_pos (Or.inl z2)]
      · rw [if_neg (by omega), if_neg (by omega)]
        exact hw a b ha hb
  · funext y
    rw [gA_sA, if_neg (by omega), gA_sA, if_neg (by omega)]
theorem partSums_ok {N f n i j : Nat} {T : Trm} {X : Mx} {w : Mem} (hN : 3 < N) (hT : TS w f T) (hX : CM w (tN T) X) (hM : ∀ t u, t < tN T → u < tN T → X t u ≤ 1000000000) (hi : i < tN T) (hj : j < tN T) (hij : tF T i = tF T j) : f_X0_partSums N w f (nI i) (nI j) = some (nI (psm T X i j)) := by
  have a3 := (hT.2.2.2.1 i hi).2.1
  have hn := hT.1
  have key := lpe (α := Unit) (tA T (tF T i)) (fun fu _ v => lp_X0_partSums_6 (fun (u4_1 : Int32) => (f_X0_partSums_48 N w f u4_1)) N w f (nI i) (nI j) fu (nI (psum T X i j v.toNatClampNeg)) v) (fun o => o = some (nI (psm T X i j))) (fun _ _ => True) ?_ ?_ 0 N () (by omega) (by omega) trivial
  · exact key
  · intro fu _ _
    show lp_X0_partSums_6 (fun (u4_1 : Int32) => (f_X0_partSums_48 N w f u4_1)) N w f (nI i) (nI j) (fu + 1) (nI (psum T X i j (nI (tA T (tF T i))).toNatClampNeg)) (nI (tA T (tF T i))) = some (nI (psm T X i j))
    rw [lp_X0_partSums_6, partsOf_ok hT hi]
    simp (disch := omega) only [↓lm1, ↓lm2, eq_n1, eq_n2, n1_eq, n2_eq, n1_n2, n2_n1, n1_lt, n2_lt, n1_le, lt_n1, lt_n2, inb_t, cl_t, le_tt, le_tf, lt_tt, lt_tf, eq_tt, eq_tf, q_add, q_mul, li0, li1, li2, li3, li4, li5, li6, li7, li8, li12, li16, li24, li48, li500, gF_sA, gA_sF, gF_sF, gR_sA, gR_sF, gL_sA, gL_sF, gA_sA, shl_t, or_t, and_t, sbit_t, ubit_t, b01_0, b01_1, Option.bind_some, ↓reduceIte, eq_self, ne_eq, not_true_eq_false, Bool.false_eq_true, not_false_eq_true, true_and, and_true, false_and, and_false, if_pos, if_neg, f_X0_partSums_48]
    rfl
  · intro fu q _ hq _
    refine Or.inr ⟨(), trivial, ?_⟩
    have r1 := hT.2.1 i hi q hq
    have r2 := hT.2.1 j hj q (by rw [← hij]; exact hq)
    have e1 := least_ok (N := N) hX hn (show tP T i q < tN T by omega) (show tP T j q < tN T by omega)
    have b1 := hM (tP T i q) (tP T j q) (by omega) (by omega)
    have b2 := psum_le T X i j q
    have p1 := plus_ok (N := N) (w := w) (a := psum T X i j q) (b := X (tP T i q) (tP T j q)) (by omega)
    show lp_X0_partSums_6 (fun (u4_1 : Int32) => (f_X0_partSums_48 N w f u4_1)) N w f (nI i) (nI j) (fu + 1) (nI (psum T X i j (nI q).toNatClampNeg)) (nI q) = lp_X0_partSums_6 (fun (u4_1 : Int32) => (f_X0_partSums_48 N w f u4_1)) N w f (nI i) (nI j) fu (nI (psum T X i j (nI (q + 1)).toNatClampNeg)) (nI (q + 1))
    rw [cl_t (by omega), cl_t (by omega), lp_X0_partSums_6, partsOf_ok hT hi, partAt_ok hT hi hq, partAt_ok hT hj (by rw [← hij]; exact hq)]
    simp (disch := omega) only [↓lm1, ↓lm2, eq_n1, eq_n2, n1_eq, n2_eq, n1_n2, n2_n1, n1_lt, n2_lt, n1_le, lt_n1, lt_n2, inb_t, cl_t, le_tt, le_tf, lt_tt, lt_tf, eq_tt, eq_tf, q_add, q_mul, li0, li1, li2, li3, li4, li5, li6, li7, li8, li12, li16, li24, li48, li500, gF_sA, gA_sF, gF_sF, gR_sA, gR_sF, gL_sA, gL_sF, gA_sA, shl_t, or_t, and_t, sbit_t, ubit_t, b01_0, b01_1, Option.bind_some, ↓reduceIte, eq_self, ne_eq, not_true_eq_false, Bool.false_eq_true, not_false_eq_true, true_and, and_true, false_and, and_false, if_pos, if_neg, e1, p1, psum]
