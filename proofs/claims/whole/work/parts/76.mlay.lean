/-! the model: sideOf, lessens -/
theorem gL_sL' (w : Mem) (k i x k' i' y : Nat) (v : Int64) : gL (sL w k i x v) k' i' y = if k' = k ∧ i' = i ∧ y = x then v else gL w k' i' y := by
  unfold sL
  rw [gL_sLf]
  by_cases z : k' = k ∧ i' = i
  · rw [if_pos z, z.1, z.2]
    show vp_updL (gL w k i) x v y = _
    by_cases e : y = x
    · rw [if_pos ⟨rfl, rfl, e⟩]; exact if_pos e
    · rw [if_neg (fun q => e q.2.2)]; exact if_neg e
  · rw [if_neg z, if_neg (fun q => z ⟨q.1, q.2.1⟩)]
def CL (w : Mem) (k n : Nat) (C : Mx) : Prop := ∀ t u, t < n → u < n → gL w k 0 (24 * t + u) = lI (C t u)
def EqL (w v : Mem) : Prop := (∀ k j i, gF v k j i = gF w k j i) ∧ (∀ k i, gA v k i = gA w k i) ∧ ∀ k j i, gR v k j i = gR w k j i
theorem EqL.rf {w : Mem} : EqL w w := ⟨fun _ _ _ => rfl, fun _ _ => rfl, fun _ _ _ => rfl⟩
theorem EqL.tr {w v u : Mem} (h : EqL w v) (g : EqL v u) : EqL w u := ⟨fun k j i => (g.1 k j i).trans (h.1 k j i), fun k i => (g.2.1 k i).trans (h.2.1 k i), fun k j i => (g.2.2 k j i).trans (h.2.2 k j i)⟩
theorem EqL.sl {w : Mem} {k i x : Nat} {v : Int64} : EqL w (sL w k i x v) := ⟨fun _ _ _ => rfl, fun _ _ => rfl, fun _ _ _ => rfl⟩
theorem EqL.km {w v : Mem} (h : EqL w v) (s : Nat) : KM s w v := ⟨fun k j i _ => h.1 k j i, fun k i _ => h.2.1 k i, fun p _ => ⟨by rw [h.2.1], by rw [h.2.1]⟩⟩
theorem MT.eq {w v : Mem} {T : Trm} (h : MT w T) (g : EqL w v) : MT v T := ⟨h.1, h.2.1, by rw [g.1]; exact h.2.2.1, fun t ht => by rw [g.2.1, g.2.1]; exact h.2.2.2.1 t ht, fun t k ht hk => by rw [g.2.1]; exact h.2.2.2.2 t k ht hk⟩
theorem MSS.eq {w v : Mem} {n : Nat} {S : Prs} (h : MSS w n S) (g : EqL w v) : MSS v n S := ⟨h.1, by rw [g.1]; exact h.2.1, fun p i j hp => by rw [g.2.1, g.2.1]; exact h.2.2 p i j hp⟩
noncomputable def sSq (S : Prs) (t u q : Nat) : Nat := @ite _ (∃ p, p < q ∧ (S[p]? = some (t, u) ∨ S[p]? = some (u, t))) (Classical.propDecidable _) 1 4000000000
theorem sSq_end (S : Prs) (t u : Nat) : sSq S t u S.length = sS S t u := by
  unfold sSq sS
  congr 1
  refine propext ⟨fun ⟨p, _, h⟩ => h.imp List.mem_of_getElem? List.mem_of_getElem?, fun h => ?_⟩
  rcases h with h | h
  · obtain ⟨p, hp⟩ := List.getElem?_of_mem h
    exact ⟨p, (List.getElem?_eq_some_iff.mp hp).1, Or.inl hp⟩
  · obtain ⟨p, hp⟩ := List.getElem?_of_mem h
    exact ⟨p, (List.getElem?_eq_some_iff.mp hp).1, Or.inr hp⟩
theorem sSq_y {S : Prs} {t u q : Nat} (h : S[q]? = some (t, u) ∨ S[q]? = some (u, t)) : sSq S t u (q + 1) = 1 := by
  unfold sSq
  rw [if_pos ⟨q, by omega, h⟩]
theorem sSq_n {S : Prs} {t u q : Nat} (h : ¬ (S[q]? = some (t, u) ∨ S[q]? = some (u, t))) : sSq S t u (q + 1) = sSq S t u q := by
  unfold sSq
  congr 1
  refine propext ⟨fun ⟨p, hp, h2⟩ => ⟨p, ?_, h2⟩, fun ⟨p, hp, h2⟩ => ⟨p, by omega, h2⟩⟩
  by_cases e : p = q
  · subst e; exact absurd h2 h
  · omega
theorem sideOf_ok {N t u : Nat} {T : Trm} {S : Prs} {C : Mx} {w : Mem} (hN : 30 < N) (hT : MT w T) (hSS : MSS w (tN T) S) (hC : CL w 64 (tN T) C) (hf : ∀ a b, a < tN T → b < tN T → fr (C a b)) (ht : t < tN T) (hu : u < tN T) : f_X9_sideOf N w (nI t) (nI u) = some (lI (min (sS S t u) (sP T C t u))) := by
  have hn := hT.1
  obtain ⟨s1, s2, s3⟩ := hSS
  obtain ⟨b1, b2, b3, b4⟩ := hT.2.2.2.1 t ht
  obtain ⟨d1, d2, d3, d4⟩ := hT.2.2.2.1 u hu
  have key := lpc (α := Int64) S.length (fun fu a v => lp_X9_sideOf_7 (fun (u3_1 : Int64) => (f_X9_sideOf_84 N w (nI t) (nI u) u3_1)) N w (nI t) (nI u) fu a v) (fun a => f_X9_sideOf_84 N w (nI t) (nI u) a) (fun q a => a = lI (sSq S t u q)) ?_ ?_ 0 N (lI 4000000000) (by omega) (by omega) (by
    unfold sSq
    rw [if_neg (fun ⟨p, hp, _⟩ => absurd hp (Nat.not_lt_zero p))])
  · obtain ⟨a, rfl, ha⟩ := key
    rw [f_X9_sideOf, lF]
    refine ha.trans ?_
    rw [sSq_end]
    have key2 := lpe (α := Int64) (tA T (tF T t)) (fun fu a v => lp_X9_sideOf_107 (fun (u5_4 : Int64) => (f_X9_sideOf_189 N w (lI (sS S t u)) u5_4)) N w (nI t) (nI u) (lI (sS S t u)) fu a v) (fun o => tF T t = tF T u → o = some (lI (min (sS S t u) (sP T C t u)))) (fun q a => a = lI (msum T C t u q)) ?_ ?_ 0 N (lI 0) (by omega) (by omega) rfl
    · rw [f_X9_sideOf_84]
      by_cases z : tF T t = tF T u
      · simp (disch := omega) only [↓lm1, ↓lm2, eq_n1, eq_n2, n1_eq, n2_eq, n1_n2, n2_n1, n1_lt, n2_lt, n1_le, lt_n1, lt_n2, inb_t, cl_t, le_tt, le_tf, lt_tt, lt_tf, eq_tt, eq_tf, q_add, q_mul, li0, li1, li2, li3, li4, li5, li6, li7, li8, li12, li16, li24, li48, li500, gF_sA, gA_sF, gF_sF, gR_sA, gR_sF, gL_sA, gL_sF, gA_sA, shl_t, or_t, and_t, sbit_t, ubit_t, b01_0, b01_1, Option.bind_some, ↓reduceIte, eq_self, ne_eq, not_true_eq_false, Bool.false_eq_true, not_false_eq_true, true_and, and_true, false_and, and_false, if_pos, if_neg, b3, d3]
        rw [l0]
        exact key2 z
      · simp (disch := omega) only [↓lm1, ↓lm2, eq_n1, eq_n2, n1_eq, n2_eq, n1_n2, n2_n1, n1_lt, n2_lt, n1_le, lt_n1, lt_n2, inb_t, cl_t, le_tt, le_tf, lt_tt, lt_tf, eq_tt, eq_tf, q_add, q_mul, li0, li1, li2, li3, li4, li5, li6, li7, li8, li12, li16, li24, li48, li500, gF_sA, gA_sF, gF_sF, gR_sA, gR_sF, gL_sA, gL_sF, gA_sA, shl_t, or_t, and_t, sbit_t, ubit_t, b01_0, b01_1, Option.bind_some, ↓reduceIte, eq_self, ne_eq, not_true_eq_false, Bool.false_eq_true, not_false_eq_true, true_and, and_true, false_and, and_false, if_pos, if_neg, b3, d3]
        have e2 : sP T C t u = 4000000000 := by unfold sP; rw [if_neg z]
        have e3 := sS_fr S t u
        unfold fr at e3
        rw [e2, Nat.min_eq_left (by omega)]
    all_goals
      have hk : tF T t = tF T u → ∀ x, x = sP T C t u → f_X9_sideOf_189 N w (lI (sS S t u)) (lI x) = some (lI (min (sS S t u) (sP T C t u))) := by
        intro z x hx
        subst hx
        have e3 := sS_fr S t u
        have e4 := sP_fr T C t u
        unfold fr at e3 e4
        rw [f_X9_sideOf_189]
        by_cases y : sS S t u ≤ sP T C t u
        · rw [if_pos (by rw [cmp_ge (by omega) (by omega)]; exact y), Nat.min_eq_left y]
        · rw [if_neg (by rw [cmp_ge (by omega) (by omega)]; exact y), Nat.min_eq_right (by omega)]
    · intro fu a ha z
      subst ha
      show lp_X9_sideOf_107 (fun (u5_4 : Int64) => (f_X9_sideOf_189 N w (lI (sS S t u)) u5_4)) N w (nI t) (nI u) (lI (sS S t u)) (fu + 1) (lI (msum T C t u (tA T (tF T t)))) (nI (tA T (tF T t))) = _
      rw [lp_X9_sideOf_107, takesOf_ok hT ht, Option.bind_some, if_pos (of_eq_true (le_tt (by omega) (by omega) (Nat.le_refl _)))]
      exact hk z _ (by unfold sP; rw [if_pos z])
    · intro fu q a hq ha
      subst ha
      by_cases z : tF T t = tF T u
      · have hu3 : tA T (tF T u) = tA T (tF T t) := by rw [z]
        have r1 := hT.2.1 t ht q hq
        have r2 := hT.2.1 u hu q (by omega)
        have p1 := hT.2.2.2.2 t q ht hq
        have p2 := hT.2.2.2.2 u q hu (by omega)
        have c1 := hC (tP T t q) (tP T u q) (by omega) (by omega)
        have c2 := hf (tP T t q) (tP T u q) (by omega) (by omega)
        have m1 := msum_fr T C t u q
        unfold fr at c2 m1
        by_cases y : 4000000000 ≤ msum T C t u q
        · refine Or.inl (fun _ => ?_)
          show lp_X9_sideOf_107 (fun (u5_4 : Int64) => (f_X9_sideOf_189 N w (lI (sS S t u)) u5_4)) N w (nI t) (nI u) (lI (sS S t u)) (fu + 1) (lI (msum T C t u q)) (nI q) = _
          rw [lp_X9_sideOf_107, takesOf_ok hT ht, Option.bind_some, if_neg (of_eq_false (le_tf (by omega) (by omega) hq)), lF, if_pos (by rw [cmp_ge (by omega) (by omega)]; exact y)]
          exact hk z _ (by unfold sP; rw [if_pos z, msum_far y (show q ≤ tA T (tF T t) by omega)]; omega)
        · refine Or.inr ⟨lI (msum T C t u (q + 1)), rfl, ?_⟩
          show lp_X9_sideOf_107 (fun (u5_4 : Int64) => (f_X9_sideOf_189 N w (lI (sS S t u)) u5_4)) N w (nI t) (nI u) (lI (sS S t u)) (fu + 1) (lI (msum T C t u q)) (nI q) = lp_X9_sideOf_107 (fun (u5_4 : Int64) => (f_X9_sideOf_189 N w (lI (sS S t u)) u5_4)) N w (nI t) (nI u) (lI (sS S t u)) fu (lI (msum T C t u (q + 1))) (nI (q + 1))
          rw [lp_X9_sideOf_107, takesOf_ok hT ht, Option.bind_some, if_neg (of_eq_false (le_tf (by omega) (by omega) hq)), lF, if_neg (by rw [cmp_ge (by omega) (by omega)]; exact y), li3, li1, q_mul, q_mul, q_add, q_add, if_pos (inb_t (by omega) (by omega)), if_pos (inb_t (by omega) (by omega)), cl_t (by omega), cl_t (by omega), p1, p2, f_X9_pair, Option.bind_some, li24, q_mul, q_add, if_pos (inb_t (by omega) (by omega)), cl_t (by omega), c1, msum, mpl]
          by_cases x : C (tP T t q) (tP T u q) < 4000000000
          · rw [if_pos (by rw [cmp_lt (by omega) (by omega)]; exact x), lI_add, held_ok (by omega), Option.bind_some, q_add, if_pos ⟨by omega, x⟩]
          · rw [if_neg (by rw [cmp_lt (by omega) (by omega)]; exact x), q_add, if_neg (fun h => x h.2)]
      · refine Or.inl (fun h => absurd h z)
  · intro fu a ha
    show lp_X9_sideOf_7 (fun (u3_1 : Int64) => (f_X9_sideOf_84 N w (nI t) (nI u) u3_1)) N w (nI t) (nI u) (fu + 1) a (nI S.length) = f_X9_sideOf_84 N w (nI t) (nI u) a
    rw [lp_X9_sideOf_7]
    simp (disch := omega) only [↓lm1, ↓lm2, eq_n1, eq_n2, n1_eq, n2_eq, n1_n2, n2_n1, n1_lt, n2_lt, n1_le, lt_n1, lt_n2, inb_t, cl_t, le_tt, le_tf, lt_tt, lt_tf, eq_tt, eq_tf, q_add, q_mul, li0, li1, li2, li3, li4, li5, li6, li7, li8, li12, li16, li24, li48, li500, gF_sA, gA_sF, gF_sF, gR_sA, gR_sF, gL_sA, gL_sF, gA_sA, shl_t, or_t, and_t, sbit_t, ubit_t, b01_0, b01_1, Option.bind_some, ↓reduceIte, eq_self, ne_eq, not_true_eq_false, Bool.false_eq_true, not_false_eq_true, true_and, and_true, false_and, and_false, if_pos, if_neg, s2]
  · intro fu q a hq ha
    subst ha
    obtain ⟨⟨i, j⟩, hpk⟩ := get_at S hq
    obtain ⟨hi, hj, y3, y4⟩ := s3 q i j hpk
    refine ⟨_, rfl, ?_⟩
    show lp_X9_sideOf_7 (fun (u3_1 : Int64) => (f_X9_sideOf_84 N w (nI t) (nI u) u3_1)) N w (nI t) (nI u) (fu + 1) (lI (sSq S t u q)) (nI q) = lp_X9_sideOf_7 (fun (u3_1 : Int64) => (f_X9_sideOf_84 N w (nI t) (nI u) u3_1)) N w (nI t) (nI u) fu (lI (sSq S t u (q + 1))) (nI (q + 1))
    rw [lp_X9_sideOf_7]
    have hP : (S[q]? = some (t, u) ∨ S[q]? = some (u, t)) ↔ (i = t ∧ j = u) ∨ (i = u ∧ j = t) := by
      rw [hpk]
      constructor
      · intro h
        rcases h with h | h
        · exact Or.inl (Prod.mk.inj (Option.some.inj h))
        · exact Or.inr (Prod.mk.inj (Option.some.inj h))
      · intro h
        rcases h with ⟨rfl, rfl⟩ | ⟨rfl, rfl⟩
        · exact Or.inl rfl
        · exact Or.inr rfl
    by_cases z : (i = t ∧ j = u) ∨ (i = u ∧ j = t)
    · rw [sSq_y (hP.mpr z), ← l1]
      by_cases y : i = t ∧ j = u
      · simp (disch := omega) only [↓lm1, ↓lm2, eq_n1, eq_n2, n1_eq, n2_eq, n1_n2, n2_n1, n1_lt, n2_lt, n1_le, lt_n1, lt_n2, inb_t, cl_t, le_tt, le_tf, lt_tt, lt_tf, eq_tt, eq_tf, q_add, q_mul, li0, li1, li2, li3, li4, li5, li6, li7, li8, li12, li16, li24, li48, li500, gF_sA, gA_sF, gF_sF, gR_sA, gR_sF, gL_sA, gL_sF, gA_sA, shl_t, or_t, and_t, sbit_t, ubit_t, b01_0, b01_1, Option.bind_some, ↓reduceIte, eq_self, ne_eq, not_true_eq_false, Bool.false_eq_true, not_false_eq_true, true_and, and_true, false_and, and_false, if_pos, if_neg, s2, y3, y4, f_X9_sideOf_60_7]
      · have z2 : i = u ∧ j = t := by omega
        by_cases x : i = t
        · exact absurd ⟨x, by omega⟩ y
        · simp (disch := omega) only [↓lm1, ↓lm2, eq_n1, eq_n2, n1_eq, n2_eq, n1_n2, n2_n1, n1_lt, n2_lt, n1_le, lt_n1, lt_n2, inb_t, cl_t, le_tt, le_tf, lt_tt, lt_tf, eq_tt, eq_tf, q_add, q_mul, li0, li1, li2, li3, li4, li5, li6, li7, li8, li12, li16, li24, li48, li500, gF_sA, gA_sF, gF_sF, gR_sA, gR_sF, gL_sA, gL_sF, gA_sA, shl_t, or_t, and_t, sbit_t, ubit_t, b01_0, b01_1, Option.bind_some, ↓reduceIte, eq_self, ne_eq, not_true_eq_false, Bool.false_eq_true, not_false_eq_true, true_and, and_true, false_and, and_false, if_pos, if_neg, s2, y3, y4, f_X9_sideOf_60_7, f_X9_sideOf_38_7]
    · rw [sSq_n (fun h => z (hP.mp h))]
      have toN : ∀ v3, f_X9_sideOf_38_7 (fun (v3 : Int64) (v5 : Int32) => lp_X9_sideOf_7 (fun (u3_1 : Int64) => (f_X9_sideOf_84 N w (nI t) (nI u) u3_1)) N w (nI t) (nI u) fu v3 v5) (fun (u3_1 : Int64) => (f_X9_sideOf_84 N w (nI t) (nI u) u3_1)) N w (nI t) (nI u) v3 (nI q) = lp_X9_sideOf_7 (fun (u3_1 : Int64) => (f_X9_sideOf_84 N w (nI t) (nI u) u3_1)) N w (nI t) (nI u) fu v3 (nI (q + 1)) := by
        intro v3
        rw [f_X9_sideOf_38_7]
        by_cases x : i = u
        · have x2 : j ≠ t := fun e => z (Or.inr ⟨x, e⟩)
          simp (disch := omega) only [↓lm1, ↓lm2, eq_n1, eq_n2, n1_eq, n2_eq, n1_n2, n2_n1, n1_lt, n2_lt, n1_le, lt_n1, lt_n2, inb_t, cl_t, le_tt, le_tf, lt_tt, lt_tf, eq_tt, eq_tf, q_add, q_mul, li0, li1, li2, li3, li4, li5, li6, li7, li8, li12, li16, li24, li48, li500, gF_sA, gA_sF, gF_sF, gR_sA, gR_sF, gL_sA, gL_sF, gA_sA, shl_t, or_t, and_t, sbit_t, ubit_t, b01_0, b01_1, Option.bind_some, ↓reduceIte, eq_self, ne_eq, not_true_eq_false, Bool.false_eq_true, not_false_eq_true, true_and, and_true, false_and, and_false, if_pos, if_neg, y3, y4, f_X9_sideOf_64_7]
        · simp (disch := omega) only [↓lm1, ↓lm2, eq_n1, eq_n2, n1_eq, n2_eq, n1_n2, n2_n1, n1_lt, n2_lt, n1_le, lt_n1, lt_n2, inb_t, cl_t, le_tt, le_tf, lt_tt, lt_tf, eq_tt, eq_tf, q_add, q_mul, li0, li1, li2, li3, li4, li5, li6, li7, li8, li12, li16, li24, li48, li500, gF_sA, gA_sF, gF_sF, gR_sA, gR_sF, gL_sA, gL_sF, gA_sA, shl_t, or_t, and_t, sbit_t, ubit_t, b01_0, b01_1, Option.bind_some, ↓reduceIte, eq_self, ne_eq, not_true_eq_false, Bool.false_eq_true, not_false_eq_true, true_and, and_true, false_and, and_false, if_pos, if_neg, y3, y4, f_X9_sideOf_64_7]
      by_cases x : i = t
      · have x2 : j ≠ u := fun e => z (Or.inl ⟨x, e⟩)
        simp (disch := omega) only [↓lm1, ↓lm2, eq_n1, eq_n2, n1_eq, n2_eq, n1_n2, n2_n1, n1_lt, n2_lt, n1_le, lt_n1, lt_n2, inb_t, cl_t, le_tt, le_tf, lt_tt, lt_tf, eq_tt, eq_tf, q_add, q_mul, li0, li1, li2, li3, li4, li5, li6, li7, li8, li12, li16, li24, li48, li500, gF_sA, gA_sF, gF_sF, gR_sA, gR_sF, gL_sA, gL_sF, gA_sA, shl_t, or_t, and_t, sbit_t, ubit_t, b01_0, b01_1, Option.bind_some, ↓reduceIte, eq_self, ne_eq, not_true_eq_false, Bool.false_eq_true, not_false_eq_true, true_and, and_true, false_and, and_false, if_pos, if_neg, s2, y3, y4, toN]
      · simp (disch := omega) only [↓lm1, ↓lm2, eq_n1, eq_n2, n1_eq, n2_eq, n1_n2, n2_n1, n1_lt, n2_lt, n1_le, lt_n1, lt_n2, inb_t, cl_t, le_tt, le_tf, lt_tt, lt_tf, eq_tt, eq_tf, q_add, q_mul, li0, li1, li2, li3, li4, li5, li6, li7, li8, li12, li16, li24, li48, li500, gF_sA, gA_sF, gF_sF, gR_sA, gR_sF, gL_sA, gL_sF, gA_sA, shl_t, or_t, and_t, sbit_t, ubit_t, b01_0, b01_1, Option.bind_some, ↓reduceIte, eq_self, ne_eq, not_true_eq_false, Bool.false_eq_true, not_false_eq_true, true_and, and_true, false_and, and_false, if_pos, if_neg, s2, y3, y4, toN]
