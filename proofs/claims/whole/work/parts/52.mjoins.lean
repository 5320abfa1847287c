/-! the model: joins in order -/
theorem sA_sA (w : Mem) (k i x : Nat) (u v : Int32) : sA (sA w k i x u) k i x v = sA w k i x v := by
  unfold sA
  rw [gA_sAf_self, sAf_sAf]
  congr 1
  funext y
  unfold upd
  by_cases h : y = x
  · rw [if_pos h, if_pos h]
  · rw [if_neg h, if_neg h, if_neg h]
/-- the model holds terms, joins -/
def MX (w : Mem) (T : Trm) (J : List Jn) : Prop := MT w T ∧ RS w 52 (tN T) (ldJ J) ∧ MFS w (tN T) J
abbrev FrJ (w w' : Mem) : Prop := Fr (fun k j i => k = 9 ∧ j = 39 ∧ i = 0) (fun k i => (52 ≤ k ∧ k ≤ 58) ∧ i = 0) w w'
/-- what a join's cause gives -/
def cOK (T : Trm) (J : List Jn) (a b : Nat) (c : Option Nat) (r : Nat) : Prop := (∃ k, c = some k ∧ k < 12 ∧ r = 2 ^ k) ∨ (c = none ∧ tF T a = tF T b ∧ eqParts T (ldJ J) a b = true ∧ r = prR T J a b (tA T (tF T a)))
theorem bits_row {w : Mem} {J : List Jn} (h : MJR w J) {c : Nat} (hc : c < J.length) : gA w 58 0 c = nI (bitsJ J c) := by
  obtain ⟨⟨a, b, d, r⟩, hp⟩ := get_at J hc
  rw [(h c a b d r hp).2.2.2]
  unfold bitsJ
  rw [hp]
theorem jt115_ok {N a b r : Nat} {w : Mem} {T : Trm} {J : List Jn} {c : Option Nat} (hN : 60 < N) (hT : MT w T) (hR : RS w 52 (tN T) (ldJ J)) (hM : MFR w (tN T) (frJ J)) (h39 : gF w 9 39 0 = nI J.length) (hJ : MJR w (J ++ [(a, b, c, r)])) (hP : PC T J) (ha : a < tN T) (hb : b < tN T) : ∃ w', f_X9_joinsTwo_115 N w (nI a) (nI b) = some w' ∧ MX w' T (J ++ [(a, b, c, r)]) ∧ FrJ w w' := by
  obtain ⟨p1, p2, p3, p4, p5, p6⟩ := hP
  have hl := p3.1
  obtain ⟨w1, a1, a2, a3⟩ := turns_ok (N := N) hN p2 hl p5 hM ha hb
  have h39' : gF w1 9 39 0 = nI J.length := (a3.1 _ _ _ (fun z => z)).trans h39
  let w2 : Mem := sF (sA (sA w1 53 0 b (nI a)) 54 0 b (nI J.length)) 9 39 0 (nI (J.length + 1))
  have hw2 : Fr (fun k j i => k = 9 ∧ j = 39 ∧ i = 0) (fun k i => (k = 53 ∨ k = 54) ∧ i = 0) w w2 :=
    (a3.mono (fun _ _ _ z => z.elim) (fun _ _ z => z)).tr ⟨fun k j i h => by show gF (sF _ _ _ _ _) _ _ _ = _; rw [gF_sF, if_neg h]; rfl, fun k i h => by show gA (sF _ _ _ _ _) _ _ = _; rw [gA_sF, gA_sA_ne (fun z => h ⟨Or.inr z.1, z.2⟩), gA_sA_ne (fun z => h ⟨Or.inl z.1, z.2⟩)], fun _ _ => rfl, fun _ _ _ => rfl⟩
  have hR2 : RS w2 52 (tN T) (ldJ J) := ⟨hR.1, hR.2.1, (hw2.1 _ _ _ (fun z => by omega)).trans hR.2.2.1, fun i hi => by rw [hw2.2.1 52 0 (fun z => by omega)]; exact hR.2.2.2 i hi⟩
  obtain ⟨w3, b1, b2, b3⟩ := unites_ok (N := N) (a := a) (b := b) (k := 52) rfl hR2 (by omega) ha hb
  have hw3 : FrJ w w3 := (hw2.mono (fun _ _ _ z => z) (fun _ _ z => by omega)).tr (b3.mono (fun _ _ _ z => z.elim) (fun _ _ z => by omega))
  refine ⟨w3, ?_, ⟨hT.fr hw3 (fun _ _ _ z => by omega) (fun _ _ z => by omega), by rw [ldJ_snoc]; exact b2, p2, ?_, ?_, ?_⟩, hw3⟩
  · have b1' : f_X9_unites N (sF (sA (sA w1 53 0 b (nI a)) 54 0 b (nI J.length)) 9 39 0 (nI (J.length + 1))) 52 (nI a) (nI b) = some w3 := b1
    rw [f_X9_joinsTwo_115, a1]
    simp (disch := omega) only [↓lm1, ↓lm2, eq_n1, eq_n2, n1_eq, n2_eq, n1_n2, n2_n1, n1_lt, n2_lt, n1_le, lt_n1, lt_n2, inb_t, cl_t, le_tt, le_tf, lt_tt, lt_tf, eq_tt, eq_tf, q_add, q_mul, li0, li1, li2, li3, li4, li5, li6, li7, li8, li12, li16, li24, li48, li500, gF_sA, gA_sF, gF_sF, gR_sA, gR_sF, gL_sA, gL_sF, gA_sA, shl_t, or_t, and_t, sbit_t, ubit_t, b01_0, b01_1, Option.bind_some, ↓reduceIte, eq_self, ne_eq, not_true_eq_false, Bool.false_eq_true, not_false_eq_true, true_and, and_true, false_and, and_false, if_pos, if_neg, h39', b1']
  · rw [(b3.1 _ _ _ (fun z => z))]
    show gF (sF _ _ _ _ _) _ _ _ = _
    rw [gF_sF, if_pos ⟨rfl, rfl, rfl⟩, List.length_append]; rfl
  · intro p x y z q hp
    rw [b3.2.1 55 0 (fun z => by omega), b3.2.1 56 0 (fun z => by omega), b3.2.1 57 0 (fun z => by omega), b3.2.1 58 0 (fun z => by omega), hw2.2.1 55 0 (fun z => by omega), hw2.2.1 56 0 (fun z => by omega), hw2.2.1 57 0 (fun z => by omega), hw2.2.1 58 0 (fun z => by omega)]
    exact hJ p x y z q hp
  · rw [frJ_snoc]
    refine ⟨fun t ht => ?_, fun t u d ht hF => ?_⟩
    · rw [b3.2.1 53 0 (fun z => by omega)]; exact a2.1 t ht
    · rw [b3.2.1 54 0 (fun z => by omega)]; exact a2.2 t u d ht hF
theorem joinsTwo_ok {N a b r : Nat} {w : Mem} {T : Trm} {J : List Jn} {c : Option Nat} (hN : 60 < N) (hX : MX w T J) (hP : PC T J) (ha : a < tN T) (hb : b < tN T) (hab : ldJ J a ≠ ldJ J b) (hc : cOK T J a b c r) : ∃ w', f_X9_joinsTwo N w (nI a) (nI b) (mC c) = some w' ∧ MX w' T (J ++ [(a, b, c, r)]) ∧ FrJ w w' := by
  obtain ⟨hT, hR, m1, m2, m3, m4⟩ := hX
  obtain ⟨p1, p2, p3, p4, p5, p6⟩ := id hP
  have hl := p3.1
  let W : Nat → Mem := fun q => sA (sA (sA (sA w 55 0 J.length (nI a)) 56 0 J.length (nI b)) 57 0 J.length (mC c)) 58 0 J.length (nI q)
  have hW : ∀ q, Fr (fun _ _ _ => False) (fun k i => (55 ≤ k ∧ k ≤ 58) ∧ i = 0) w (W q) := fun q => ⟨fun _ _ _ _ => rfl, fun k i h => by
    show gA (sA (sA (sA (sA w 55 0 J.length (nI a)) 56 0 J.length (nI b)) 57 0 J.length (mC c)) 58 0 J.length (nI q)) k i = _
    rw [gA_sA_ne (fun z => h ⟨by omega, z.2⟩), gA_sA_ne (fun z => h ⟨by omega, z.2⟩), gA_sA_ne (fun z => h ⟨by omega, z.2⟩), gA_sA_ne (fun z => h ⟨by omega, z.2⟩)], fun _ _ => rfl, fun _ _ _ => rfl⟩
  have hTW : ∀ q, MT (W q) T := fun q => hT.fr (hW q) (fun _ _ _ z => z.elim) (fun _ _ z => by omega)
  have hRW : ∀ q, RS (W q) 52 (tN T) (ldJ J) := fun q => ⟨hR.1, hR.2.1, hR.2.2.1, fun i hi => by rw [(hW q).2.1 52 0 (fun z => by omega)]; exact hR.2.2.2 i hi⟩
  have hMW : ∀ q, MFR (W q) (tN T) (frJ J) := fun q => ⟨fun t ht => by rw [(hW q).2.1 53 0 (fun z => by omega)]; exact m4.1 t ht, fun t u d ht hF => by rw [(hW q).2.1 54 0 (fun z => by omega)]; exact m4.2 t u d ht hF⟩
  have hJW : ∀ q, MJR (W q) (J ++ [(a, b, c, q)]) := by
    intro q p x y z s hp
    show gA (sA (sA (sA (sA w 55 0 J.length (nI a)) 56 0 J.length (nI b)) 57 0 J.length (mC c)) 58 0 J.length (nI q)) 55 0 p = _ ∧ gA (sA (sA (sA (sA w 55 0 J.length (nI a)) 56 0 J.length (nI b)) 57 0 J.length (mC c)) 58 0 J.length (nI q)) 56 0 p = _ ∧ gA (sA (sA (sA (sA w 55 0 J.length (nI a)) 56 0 J.length (nI b)) 57 0 J.length (mC c)) 58 0 J.length (nI q)) 57 0 p = _ ∧ gA (sA (sA (sA (sA w 55 0 J.length (nI a)) 56 0 J.length (nI b)) 57 0 J.length (mC c)) 58 0 J.length (nI q)) 58 0 p = _
    rcases get_snoc hp with ⟨g1, g2⟩ | ⟨g1, g2⟩
    · obtain ⟨k1, k2, k3, k4⟩ := m3 p x y z s g2
      refine ⟨k1 ▸ ?_, k2 ▸ ?_, k3 ▸ ?_, k4 ▸ ?_⟩ <;> simp (disch := omega) only [↓lm1, ↓lm2, eq_n1, eq_n2, n1_eq, n2_eq, n1_n2, n2_n1, n1_lt, n2_lt, n1_le, lt_n1, lt_n2, inb_t, cl_t, le_tt, le_tf, lt_tt, lt_tf, eq_tt, eq_tf, q_add, q_mul, li0, li1, li2, li3, li4, li5, li6, li7, li8, li12, li16, li24, li48, li500, gF_sA, gA_sF, gF_sF, gR_sA, gR_sF, gL_sA, gL_sF, gA_sA, shl_t, or_t, and_t, sbit_t, ubit_t, b01_0, b01_1, Option.bind_some, ↓reduceIte, eq_self, ne_eq, not_true_eq_false, Bool.false_eq_true, not_false_eq_true, true_and, and_true, false_and, and_false, if_pos, if_neg]
    · obtain ⟨rfl, rfl, rfl, rfl⟩ : x = a ∧ y = b ∧ z = c ∧ s = q := by simpa using g2
      subst g1
      refine ⟨?_, ?_, ?_, ?_⟩ <;> simp (disch := omega) only [↓lm1, ↓lm2, eq_n1, eq_n2, n1_eq, n2_eq, n1_n2, n2_n1, n1_lt, n2_lt, n1_le, lt_n1, lt_n2, inb_t, cl_t, le_tt, le_tf, lt_tt, lt_tf, eq_tt, eq_tf, q_add, q_mul, li0, li1, li2, li3, li4, li5, li6, li7, li8, li12, li16, li24, li48, li500, gF_sA, gA_sF, gF_sF, gR_sA, gR_sF, gL_sA, gL_sF, gA_sA, shl_t, or_t, and_t, sbit_t, ubit_t, b01_0, b01_1, Option.bind_some, ↓reduceIte, eq_self, ne_eq, not_true_eq_false, Bool.false_eq_true, not_false_eq_true, true_and, and_true, false_and, and_false, if_pos, if_neg]
  obtain ⟨w', e1, e2, e3⟩ := jt115_ok (N := N) hN (hTW r) (hRW r) (hMW r) m2 (hJW r) hP ha hb
  refine ⟨w', ?_, e2, ((hW r).mono (fun _ _ _ z => z.elim) (fun _ _ z => by omega)).tr e3⟩
  have e1' : f_X9_joinsTwo_115 N (sA (sA (sA (sA w 55 0 J.length (nI a)) 56 0 J.length (nI b)) 57 0 J.length (mC c)) 58 0 J.length (nI r)) (nI a) (nI b) = some w' := e1
  have m2' : gF w 9 39 0 = nI J.length := m2
  rcases hc with ⟨k, hc1, hc2, hc3⟩ | ⟨hc1, hc2, hc3, hc4⟩
  · subst hc1 hc3
    obtain ⟨f', rfl⟩ : ∃ f, N = f + 1 := ⟨N - 1, by omega⟩
    have em : mC (some k) = nI k := rfl
    rw [em] at e1' ⊢
    rw [f_X9_joinsTwo]
    simp (disch := omega) only [↓lm1, ↓lm2, eq_n1, eq_n2, n1_eq, n2_eq, n1_n2, n2_n1, n1_lt, n2_lt, n1_le, lt_n1, lt_n2, inb_t, cl_t, le_tt, le_tf, lt_tt, lt_tf, eq_tt, eq_tf, q_add, q_mul, li0, li1, li2, li3, li4, li5, li6, li7, li8, li12, li16, li24, li48, li500, gF_sA, gA_sF, gF_sF, gR_sA, gR_sF, gL_sA, gL_sF, gA_sA, shl_t, or_t, and_t, sbit_t, ubit_t, b01_0, b01_1, Option.bind_some, ↓reduceIte, eq_self, ne_eq, not_true_eq_false, Bool.false_eq_true, not_false_eq_true, true_and, and_true, false_and, and_false, if_pos, if_neg, m2']
    rw [lp_X9_joinsTwo_55]
    simp (disch := omega) only [↓lm1, ↓lm2, eq_n1, eq_n2, n1_eq, n2_eq, n1_n2, n2_n1, n1_lt, n2_lt, n1_le, lt_n1, lt_n2, inb_t, cl_t, le_tt, le_tf, lt_tt, lt_tf, eq_tt, eq_tf, q_add, q_mul, li0, li1, li2, li3, li4, li5, li6, li7, li8, li12, li16, li24, li48, li500, gF_sA, gA_sF, gF_sF, gR_sA, gR_sF, gL_sA, gL_sF, gA_sA, shl_t, or_t, and_t, sbit_t, ubit_t, b01_0, b01_1, Option.bind_some, ↓reduceIte, eq_self, ne_eq, not_true_eq_false, Bool.false_eq_true, not_false_eq_true, true_and, and_true, false_and, and_false, if_pos, if_neg, e1']
  · subst hc1
    have em : mC none = n2 := rfl
    have t4 := (hT.2.2.2.1 a ha).2.1
    have key : ∀ r0 fuel q, q + r0 = tA T (tF T a) → r0 < fuel → lp_X9_joinsTwo_55 (fun (w_21 : Mem) => (f_X9_joinsTwo_115 N w_21 (nI a) (nI b))) N (nI a) (nI b) n2 fuel (W (prR T J a b q)) (nI q) = some w' := by
      intro r0
      induction r0 with
      | zero =>
        intro fuel q hq hf
        obtain ⟨f', rfl⟩ : ∃ f, fuel = f + 1 := ⟨fuel - 1, by omega⟩
        have hq' : q = tA T (tF T a) := by omega
        subst hq'
        rw [← hc4]
        rw [lp_X9_joinsTwo_55]
        simp (disch := omega) only [↓lm1, ↓lm2, eq_n1, eq_n2, n1_eq, n2_eq, n1_n2, n2_n1, n1_lt, n2_lt, n1_le, lt_n1, lt_n2, inb_t, cl_t, le_tt, le_tf, lt_tt, lt_tf, eq_tt, eq_tf, q_add, q_mul, li0, li1, li2, li3, li4, li5, li6, li7, li8, li12, li16, li24, li48, li500, gF_sA, gA_sF, gF_sF, gR_sA, gR_sF, gL_sA, gL_sF, gA_sA, shl_t, or_t, and_t, sbit_t, ubit_t, b01_0, b01_1, Option.bind_some, ↓reduceIte, eq_self, ne_eq, not_true_eq_false, Bool.false_eq_true, not_false_eq_true, true_and, and_true, false_and, and_false, if_pos, if_neg, takesOf_ok (hTW r) ha]
        exact e1
      | succ r0 ih =>
        intro fuel q hq hf
        obtain ⟨f', rfl⟩ : ∃ f, fuel = f + 1 := ⟨fuel - 1, by omega⟩
        have k1 := p1 a ha q (by omega)
        have k2 := p1 b hb q (by rw [← hc2]; omega)
        have l1 := (hTW (prR T J a b q)).2.2.2.2 a q ha (by omega)
        have l2 := (hTW (prR T J a b q)).2.2.2.2 b q hb (by rw [← hc2]; omega)
        have l3 : gF (W (prR T J a b q)) 9 39 0 = nI J.length := m2
        have l4 : gA (W (prR T J a b q)) 58 0 J.length = nI (prR T J a b q) := by
          show gA (sA _ _ _ _ _) _ _ _ = _
          simp (disch := omega) only [↓lm1, ↓lm2, eq_n1, eq_n2, n1_eq, n2_eq, n1_n2, n2_n1, n1_lt, n2_lt, n1_le, lt_n1, lt_n2, inb_t, cl_t, le_tt, le_tf, lt_tt, lt_tf, eq_tt, eq_tf, q_add, q_mul, li0, li1, li2, li3, li4, li5, li6, li7, li8, li12, li16, li24, li48, li500, gF_sA, gA_sF, gF_sF, gR_sA, gR_sF, gL_sA, gL_sF, gA_sA, shl_t, or_t, and_t, sbit_t, ubit_t, b01_0, b01_1, Option.bind_some, ↓reduceIte, eq_self, ne_eq, not_true_eq_false, Bool.false_eq_true, not_false_eq_true, true_and, and_true, false_and, and_false, if_pos, if_neg]
        have hm := mreasons_ok (N := N) hN p2 (hMW (prR T J a b q)) (fun c hc => by
          have := bits_row (hJW (prR T J a b q)) (c := c) (by rw [List.length_append]; show c < J.length + 1; omega)
          rw [this]
          unfold bitsJ
          rw [List.getElem?_append_left hc]) p5 p3 (show tP T a q < tN T by omega) (show tP T b q < tN T by omega) (eqParts_iff.mp hc3 q (by omega))
        have hst : sA (W (prR T J a b q)) 58 0 J.length (nI (prR T J a b (q + 1))) = W (prR T J a b (q + 1)) := sA_sA _ _ _ _ _ _
        rw [lp_X9_joinsTwo_55, ← ih f' (q + 1) (by omega) (by omega), ← hst, prR]
        simp (disch := omega) only [↓lm1, ↓lm2, eq_n1, eq_n2, n1_eq, n2_eq, n1_n2, n2_n1, n1_lt, n2_lt, n1_le, lt_n1, lt_n2, inb_t, cl_t, le_tt, le_tf, lt_tt, lt_tf, eq_tt, eq_tf, q_add, q_mul, li0, li1, li2, li3, li4, li5, li6, li7, li8, li12, li16, li24, li48, li500, gF_sA, gA_sF, gF_sF, gR_sA, gR_sF, gL_sA, gL_sF, gA_sA, shl_t, or_t, and_t, sbit_t, ubit_t, b01_0, b01_1, Option.bind_some, ↓reduceIte, eq_self, ne_eq, not_true_eq_false, Bool.false_eq_true, not_false_eq_true, true_and, and_true, false_and, and_false, if_pos, if_neg, takesOf_ok (hTW (prR T J a b q)) ha, l1, l2, l3, l4, hm]
    have hk := key (tA T (tF T a)) N 0 (by omega) (by omega)
    rw [em] at e1' ⊢
    rw [f_X9_joinsTwo]
    simp (disch := omega) only [↓lm1, ↓lm2, eq_n1, eq_n2, n1_eq, n2_eq, n1_n2, n2_n1, n1_lt, n2_lt, n1_le, lt_n1, lt_n2, inb_t, cl_t, le_tt, le_tf, lt_tt, lt_tf, eq_tt, eq_tf, q_add, q_mul, li0, li1, li2, li3, li4, li5, li6, li7, li8, li12, li16, li24, li48, li500, gF_sA, gA_sF, gF_sF, gR_sA, gR_sF, gL_sA, gL_sF, gA_sA, shl_t, or_t, and_t, sbit_t, ubit_t, b01_0, b01_1, Option.bind_some, ↓reduceIte, eq_self, ne_eq, not_true_eq_false, Bool.false_eq_true, not_false_eq_true, true_and, and_true, false_and, and_false, if_pos, if_neg, m2']
    exact hk
theorem prs_pre (T : Trm) {i j : Nat} (hi : i < tN T) (hj : j ≤ tN T) : ∃ R, prs T = (prp T i ++ rowp T i j) ++ R := by
  have h1 : ∀ d j, j + d = tN T → ∃ R, rowp T i (tN T) = rowp T i j ++ R := by
    intro d
    induction d with
    | zero => intro j hj; exact ⟨[], by rw [show j = tN T by omega, List.append_nil]⟩
    | succ d ih =>
      intro j hj
      obtain ⟨R, hR⟩ := ih (j + 1) (by omega)
      exact ⟨_, by rw [hR, rowp_succ, List.append_assoc]⟩
  have h2 : ∀ d i, i + d = tN T → ∃ R, prs T = prp T i ++ R := by
    intro d
    induction d with
    | zero => intro i hi; exact ⟨[], by rw [prs_prp, show i = tN T by omega, List.append_nil]⟩
    | succ d ih =>
      intro i hi
      obtain ⟨R, hR⟩ := ih (i + 1) (by omega)
      exact ⟨_, by rw [hR, prp_succ, List.append_assoc]⟩
  obtain ⟨R1, e1⟩ := h1 (tN T - j) j (by omega)
  obtain ⟨R2, e2⟩ := h2 (tN T - (i + 1)) (i + 1) (by omega)
  exact ⟨R1 ++ R2, by rw [e2, prp_succ, e1]; simp only [List.append_assoc]⟩
theorem nxt_here {T : Trm} {ld : Nat → Nat} {i j : Nat} (hij : i < j) (hj : j < tN T) (h : (prp T i ++ rowp T i j).find? (toJoin T ld) = none) (hJ : toJ T ld i j) : nxt T ld = some (i, j) := by
  obtain ⟨R, hR⟩ := prs_pre T (i := i) (j := j + 1) (by omega) (by omega)
  obtain ⟨j1, j2, j3⟩ := hJ
  unfold nxt
  rw [hR, rowp_succ, if_pos ⟨hij, j2⟩, ← List.append_assoc, List.append_assoc, List.find?_append, h]
  have : toJoin T ld (i, j) = true := by simp [toJoin, j1, j3]
  show ([(i, j)] ++ R).find? (toJoin T ld) = _
  rw [List.singleton_append, List.find?_cons_of_pos this]
theorem pre_next {T : Trm} {ld : Nat → Nat} {i j : Nat} (h : (prp T i ++ rowp T i j).find? (toJoin T ld) = none) (hJ : ¬ toJ T ld i j) : (prp T i ++ rowp T i (j + 1)).find? (toJoin T ld) = none := by
  rw [rowp_succ, ← List.append_assoc, List.find?_append, h]
  by_cases z : i < j ∧ tF T i = tF T j
  · rw [if_pos z]
    have : ¬ toJoin T ld (i, j) = true := by
      intro q
      unfold toJoin at q
      rw [Bool.and_eq_true, decide_eq_true_eq] at q
      exact hJ ⟨q.1, z.2, q.2⟩
    show ([(i, j)]).find? (toJoin T ld) = none
    rw [List.find?_cons_of_neg this]
    rfl
  · rw [if_neg z]; rfl
theorem jn14 (kk : Option (Mem × Int32)) {N i : Nat} {w : Mem} {T : Trm} {ld : Nat → Nat} (hN : 24 < N) (hT : MT w T) (hR : RS w 52 (tN T) ld) (hi : i < tN T) : ∀ (r fuel j : Nat), i < j → j + r = tN T → r < fuel → (prp T i ++ rowp T i j).find? (toJoin T ld) = none → ((prp T (i + 1)).find? (toJoin T ld) = none ∧ lp_X9_joinsNext_14 kk N w (nI i) fuel (nI j) = kk) ∨ ∃ p, nxt T ld = some p ∧ lp_X9_joinsNext_14 kk N w (nI i) fuel (nI j) = Option.bind (f_X9_joinsTwo N w (nI p.1) (nI p.2) n2) (fun z7 => some (z7, nI 1)) := by
  have t1 := hT.1
  intro r
  induction r with
  | zero =>
    intro fuel j hij hj hf h
    obtain ⟨f', rfl⟩ : ∃ f, fuel = f + 1 := ⟨fuel - 1, by omega⟩
    have e : j = tN T := by omega
    subst e
    refine Or.inl ⟨by rw [prp_succ]; exact h, ?_⟩
    rw [lp_X9_joinsNext_14]
    simp (disch := omega) only [↓lm1, ↓lm2, eq_n1, eq_n2, n1_eq, n2_eq, n1_n2, n2_n1, n1_lt, n2_lt, n1_le, lt_n1, lt_n2, inb_t, cl_t, le_tt, le_tf, lt_tt, lt_tf, eq_tt, eq_tf, q_add, q_mul, li0, li1, li2, li3, li4, li5, li6, li7, li8, li12, li16, li24, li48, li500, gF_sA, gA_sF, gF_sF, gR_sA, gR_sF, gL_sA, gL_sF, gA_sA, shl_t, or_t, and_t, sbit_t, ubit_t, b01_0, b01_1, Option.bind_some, ↓reduceIte, eq_self, ne_eq, not_true_eq_false, Bool.false_eq_true, not_false_eq_true, true_and, and_true, false_and, and_false, if_pos, if_neg, hT.2.2.1]
  | succ r ih =>
    intro fuel j hij hj hf h
    obtain ⟨f', rfl⟩ : ∃ f, fuel = f + 1 := ⟨fuel - 1, by omega⟩
    have c1 := (hR.2.1 i hi).1
    have c2 := (hR.2.1 j (by omega)).1
    have hA := isAlike_ok (N := N) (k := 52) (i := i) (j := j) rfl hT hR hi (by omega) (by omega)
    by_cases z : toJ T ld i j
    · refine Or.inr ⟨(i, j), nxt_here hij (by omega) h z, ?_⟩
      have z1 := z.1
      rw [if_pos z.2] at hA
      rw [lp_X9_joinsNext_14]
      simp (disch := omega) only [↓lm1, ↓lm2, eq_n1, eq_n2, n1_eq, n2_eq, n1_n2, n2_n1, n1_lt, n2_lt, n1_le, lt_n1, lt_n2, inb_t, cl_t, le_tt, le_tf, lt_tt, lt_tf, eq_tt, eq_tf, q_add, q_mul, li0, li1, li2, li3, li4, li5, li6, li7, li8, li12, li16, li24, li48, li500, gF_sA, gA_sF, gF_sF, gR_sA, gR_sF, gL_sA, gL_sF, gA_sA, shl_t, or_t, and_t, sbit_t, ubit_t, b01_0, b01_1, Option.bind_some, ↓reduceIte, eq_self, ne_eq, not_true_eq_false, Bool.false_eq_true, not_false_eq_true, true_and, and_true, false_and, and_false, if_pos, if_neg, hT.2.2.1, hR.2.2.2, hA]
    · have e : lp_X9_joinsNext_14 kk N w (nI i) (f' + 1) (nI j) = lp_X9_joinsNext_14 kk N w (nI i) f' (nI (j + 1)) := by
        rw [lp_X9_joinsNext_14]
        by_cases y : ld i = ld j
        · simp (disch := omega) only [↓lm1, ↓lm2, eq_n1, eq_n2, n1_eq, n2_eq, n1_n2, n2_n1, n1_lt, n2_lt, n1_le, lt_n1, lt_n2, inb_t, cl_t, le_tt, le_tf, lt_tt, lt_tf, eq_tt, eq_tf, q_add, q_mul, li0, li1, li2, li3, li4, li5, li6, li7, li8, li12, li16, li24, li48, li500, gF_sA, gA_sF, gF_sF, gR_sA, gR_sF, gL_sA, gL_sF, gA_sA, shl_t, or_t, and_t, sbit_t, ubit_t, b01_0, b01_1, Option.bind_some, ↓reduceIte, eq_self, ne_eq, not_true_eq_false, Bool.false_eq_true, not_false_eq_true, true_and, and_true, false_and, and_false, if_pos, if_neg, hT.2.2.1, hR.2.2.2]
        · rw [if_neg (fun q => z ⟨y, q⟩)] at hA
          simp (disch := omega) only [↓lm1, ↓lm2, eq_n1, eq_n2, n1_eq, n2_eq, n1_n2, n2_n1, n1_lt, n2_lt, n1_le, lt_n1, lt_n2, inb_t, cl_t, le_tt, le_tf, lt_tt, lt_tf, eq_tt, eq_tf, q_add, q_mul, li0, li1, li2, li3, li4, li5, li6, li7, li8, li12, li16, li24, li48, li500, gF_sA, gA_sF, gF_sF, gR_sA, gR_sF, gL_sA, gL_sF, gA_sA, shl_t, or_t, and_t, sbit_t, ubit_t, b01_0, b01_1, Option.bind_some, ↓reduceIte, eq_self, ne_eq, not_true_eq_false, Bool.false_eq_true, not_false_eq_true, true_and, and_true, false_and, and_false, if_pos, if_neg, hT.2.2.1, hR.2.2.2, hA]
      rw [e]
      exact ih f' (j + 1) (by omega) (by omega) (by omega) (pre_next h z)
theorem jn2 (kk : Option (Mem × Int32)) {N : Nat} {w : Mem} {T : Trm} {ld : Nat → Nat} (hN : 24 < N) (hT : MT w T) (hR : RS w 52 (tN T) ld) : ∀ (r fuel i : Nat), i + r = tN T → r < fuel → (prp T i).find? (toJoin T ld) = none → (nxt T ld = none ∧ lp_X9_joinsNext_2 kk N w fuel (nI i) = kk) ∨ ∃ p, nxt T ld = some p ∧ lp_X9_joinsNext_2 kk N w fuel (nI i) = Option.bind (f_X9_joinsTwo N w (nI p.1) (nI p.2) n2) (fun z7 => some (z7, nI 1)) := by
  have t1 := hT.1
  intro r
  induction r with
  | zero =>
    intro fuel i hi hf h
    obtain ⟨f', rfl⟩ : ∃ f, fuel = f + 1 := ⟨fuel - 1, by omega⟩
    have e : i = tN T := by omega
    subst e
    refine Or.inl ⟨h, ?_⟩
    rw [lp_X9_joinsNext_2]
    simp (disch := omega) only [↓lm1, ↓lm2, eq_n1, eq_n2, n1_eq, n2_eq, n1_n2, n2_n1, n1_lt, n2_lt, n1_le, lt_n1, lt_n2, inb_t, cl_t, le_tt, le_tf, lt_tt, lt_tf, eq_tt, eq_tf, q_add, q_mul, li0, li1, li2, li3, li4, li5, li6, li7, li8, li12, li16, li24, li48, li500, gF_sA, gA_sF, gF_sF, gR_sA, gR_sF, gL_sA, gL_sF, gA_sA, shl_t, or_t, and_t, sbit_t, ubit_t, b01_0, b01_1, Option.bind_some, ↓reduceIte, eq_self, ne_eq, not_true_eq_false, Bool.false_eq_true, not_false_eq_true, true_and, and_true, false_and, and_false, if_pos, if_neg, hT.2.2.1]
  | succ r ih =>
    intro fuel i hi hf h
    obtain ⟨f', rfl⟩ : ∃ f, fuel = f + 1 := ⟨fuel - 1, by omega⟩
    have e : lp_X9_joinsNext_2 kk N w (f' + 1) (nI i) = lp_X9_joinsNext_14 (f_X9_joinsNext_66_2 (fun (v1 : Int32) => lp_X9_joinsNext_2 kk N w   f' v1) kk N w (nI i)) N w (nI i) N (nI (i + 1)) := by
      rw [lp_X9_joinsNext_2]
      simp (disch := omega) only [↓lm1, ↓lm2, eq_n1, eq_n2, n1_eq, n2_eq, n1_n2, n2_n1, n1_lt, n2_lt, n1_le, lt_n1, lt_n2, inb_t, cl_t, le_tt, le_tf, lt_tt, lt_tf, eq_tt, eq_tf, q_add, q_mul, li0, li1, li2, li3, li4, li5, li6, li7, li8, li12, li16, li24, li48, li500, gF_sA, gA_sF, gF_sF, gR_sA, gR_sF, gL_sA, gL_sF, gA_sA, shl_t, or_t, and_t, sbit_t, ubit_t, b01_0, b01_1, Option.bind_some, ↓reduceIte, eq_self, ne_eq, not_true_eq_false, Bool.false_eq_true, not_false_eq_true, true_and, and_true, false_and, and_false, if_pos, if_neg, hT.2.2.1]
    rw [e]
    rcases jn14 (f_X9_joinsNext_66_2 (fun (v1 : Int32) => lp_X9_joinsNext_2 kk N w   f' v1) kk N w (nI i)) hN hT hR (show i < tN T by omega) (tN T - (i + 1)) N (i + 1) (by omega) (by omega) (by omega) (by rw [(rowp_len T i (i + 1)).2 (by omega), List.append_nil]; exact h) with ⟨g1, g2⟩ | g
    · rw [g2, f_X9_joinsNext_66_2, show nI i + (1 : Int32) = nI (i + 1) from n_add i 1]
      exact ih f' (i + 1) (by omega) (by omega) g1
    · exact Or.inr g
theorem joinsNext_ok {N : Nat} {w : Mem} {T : Trm} {ld : Nat → Nat} (hN : 24 < N) (hT : MT w T) (hR : RS w 52 (tN T) ld) : f_X9_joinsNext N w = match nxt T ld with
    | some p => Option.bind (f_X9_joinsTwo N w (nI p.1) (nI p.2) n2) (fun z7 => some (z7, nI 1))
    | none => some (w, nI 0) := by
  have t1 := hT.1
  rw [f_X9_joinsNext]
  rcases jn2 (f_X9_joinsNext_72 N w) hN hT hR (tN T) N 0 (by omega) (by omega) (by rfl) with ⟨h1, h2⟩ | ⟨p, h1, h2⟩
  · rw [h1]; exact h2
  · rw [h1]; exact h2
abbrev FrJ0 (w w' : Mem) : Prop := Fr (fun k j i => k = 9 ∧ (j = 0 ∨ j = 39) ∧ i = 0) (fun k i => (52 ≤ k ∧ k ≤ 58) ∧ i = 0) w w'
theorem MX.fr {w v : Mem} {T : Trm} {J : List Jn} {P : Nat → Nat → Nat → Prop} {Q : Nat → Nat → Prop} (h : MX w T J) (hf : Fr P Q w v) (hP : ∀ k j i, P k j i → ¬ (k = 9 ∧ (j = 27 ∨ j = 39))) (hQ : ∀ k i, Q k i → ¬ (k = 41 ∨ k = 46 ∨ k = 47 ∨ (52 ≤ k ∧ k ≤ 58))) : MX v T J := by
  obtain ⟨h1, h2, m1, m2, m3, m4⟩ := h
  have hA : ∀ k, 52 ≤ k → k ≤ 58 → gA v k 0 = gA w k 0 := fun k a b => hf.2.1 k 0 (fun z => hQ k 0 z (by omega))
  refine ⟨h1.fr hf (fun k j i z => by have := hP k j i z; omega) (fun k i z => by have := hQ k i z; omega), ⟨h2.1, h2.2.1, (hf.1 _ _ _ (fun z => hP _ _ _ z ⟨rfl, Or.inl rfl⟩)).trans h2.2.2.1, fun i hi => by rw [hA 52 (by omega) (by omega)]; exact h2.2.2.2 i hi⟩, m1, (hf.1 _ _ _ (fun z => hP _ _ _ z ⟨rfl, Or.inr rfl⟩)).trans m2, fun p x y z r hp => ?_, fun t ht => ?_, fun t u c ht hF => ?_⟩
  · rw [hA 55 (by omega) (by omega), hA 56 (by omega) (by omega), hA 57 (by omega) (by omega), hA 58 (by omega) (by omega)]; exact m3 p x y z r hp
  · rw [hA 53 (by omega) (by omega)]; exact m4.1 t ht
  · rw [hA 54 (by omega) (by omega)]; exact m4.2 t u c ht hF
theorem closes_ok {N : Nat} {w : Mem} {T : Trm} {J : List Jn} (hN : 276 < N) (hX : MX w T J) (hP : PC T J) : ∃ w', f_X9_closes N w = some w' ∧ MX w' T (clJ 24 T J) ∧ FrJ0 w w' := by
  have key : ∀ m fuel w J, cntG (tN T) (ldJ J) ≤ m → m < fuel → MX w T J → PC T J → ∃ w', lp_X9_closes_0 (fun (w_1 : Mem) => (f_X9_closes_15 N w_1)) N fuel w = some w' ∧ MX w' T (clJ m T J) ∧ FrJ0 w w' := by
    intro m
    induction m with
    | zero =>
      intro fuel w J hc hf hX hP
      obtain ⟨f', rfl⟩ : ∃ f, fuel = f + 1 := ⟨fuel - 1, by omega⟩
      have hn : nxt T (ldJ J) = none := clJ_none 0 hP hc
      have hj := joinsNext_ok (N := N) (by omega) hX.1 hX.2.1
      rw [hn] at hj
      refine ⟨w, ?_, hX, Fr.rf⟩
      rw [lp_X9_closes_0, hj]
      simp (disch := omega) only [↓lm1, ↓lm2, eq_n1, eq_n2, n1_eq, n2_eq, n1_n2, n2_n1, n1_lt, n2_lt, n1_le, lt_n1, lt_n2, inb_t, cl_t, le_tt, le_tf, lt_tt, lt_tf, eq_tt, eq_tf, q_add, q_mul, li0, li1, li2, li3, li4, li5, li6, li7, li8, li12, li16, li24, li48, li500, gF_sA, gA_sF, gF_sF, gR_sA, gR_sF, gL_sA, gL_sF, gA_sA, shl_t, or_t, and_t, sbit_t, ubit_t, b01_0, b01_1, Option.bind_some, ↓reduceIte, eq_self, ne_eq, not_true_eq_false, Bool.false_eq_true, not_false_eq_true, true_and, and_true, false_and, and_false, if_pos, if_neg]
      rfl
    | succ m ih =>
      intro fuel w J hc hf hX hP
      obtain ⟨f', rfl⟩ : ∃ f, fuel = f + 1 := ⟨fuel - 1, by omega⟩
      have hj := joinsNext_ok (N := N) (by omega) hX.1 hX.2.1
      cases hn : nxt T (ldJ J) with
      | none =>
        rw [hn] at hj
        refine ⟨w, ?_, by rw [clJ, hn]; exact hX, Fr.rf⟩
        rw [lp_X9_closes_0, hj]
        simp (disch := omega) only [↓lm1, ↓lm2, eq_n1, eq_n2, n1_eq, n2_eq, n1_n2, n2_n1, n1_lt, n2_lt, n1_le, lt_n1, lt_n2, inb_t, cl_t, le_tt, le_tf, lt_tt, lt_tf, eq_tt, eq_tf, q_add, q_mul, li0, li1, li2, li3, li4, li5, li6, li7, li8, li12, li16, li24, li48, li500, gF_sA, gA_sF, gF_sF, gR_sA, gR_sF, gL_sA, gL_sF, gA_sA, shl_t, or_t, and_t, sbit_t, ubit_t, b01_0, b01_1, Option.bind_some, ↓reduceIte, eq_self, ne_eq, not_true_eq_false, Bool.false_eq_true, not_false_eq_true, true_and, and_true, false_and, and_false, if_pos, if_neg]
        rfl
      | some p =>
        rw [hn] at hj
        obtain ⟨a, b, c, d, e⟩ := nxt_some hn
        have ha : p.1 < tN T := by omega
        have hcn := cnt_un hP.2.2.2.1 ha b d
        obtain ⟨w1, a1, a2, a3⟩ := joinsTwo_ok (N := N) (c := none) (r := prR T J p.1 p.2 (tA T (tF T p.1))) (by omega) hX hP ha b d (Or.inr ⟨rfl, c, e, rfl⟩)
        have h0 : Fr (fun k j i => k = 9 ∧ j = 0 ∧ i = 0) (fun _ _ => False) w1 (sF w1 9 0 0 (nI 0)) := ⟨fun k j i h => by rw [gF_sF, if_neg h], fun _ _ _ => rfl, fun _ _ => rfl, fun _ _ _ => rfl⟩
        obtain ⟨w2, b1, b2, b3⟩ := ih f' (sF w1 9 0 0 (nI 0)) _ (by rw [ldJ_snoc]; omega) (by omega) (a2.fr h0 (fun _ _ _ z => by omega) (fun _ _ z => z.elim)) (hP.next hn)
        refine ⟨w2, ?_, by rw [clJ, hn]; exact b2, (a3.mono (fun _ _ _ z => by omega) (fun _ _ z => z)).tr ((h0.mono (fun _ _ _ z => by omega) (fun _ _ z => z.elim)).tr b3)⟩
        have a1' : f_X9_joinsTwo N w (nI p.1) (nI p.2) n2 = some w1 := a1
        rw [lp_X9_closes_0, hj, ← b1]
        simp (disch := omega) only [↓lm1, ↓lm2, eq_n1, eq_n2, n1_eq, n2_eq, n1_n2, n2_n1, n1_lt, n2_lt, n1_le, lt_n1, lt_n2, inb_t, cl_t, le_tt, le_tf, lt_tt, lt_tf, eq_tt, eq_tf, q_add, q_mul, li0, li1, li2, li3, li4, li5, li6, li7, li8, li12, li16, li24, li48, li500, gF_sA, gA_sF, gF_sF, gR_sA, gR_sF, gL_sA, gL_sF, gA_sA, shl_t, or_t, and_t, sbit_t, ubit_t, b01_0, b01_1, Option.bind_some, ↓reduceIte, eq_self, ne_eq, not_true_eq_false, Bool.false_eq_true, not_false_eq_true, true_and, and_true, false_and, and_false, if_pos, if_neg, a1']
  have hc := cnt_le (tN T) (ldJ J)
  have h24 := hX.1.1
  rw [f_X9_closes]
  exact key 24 N w J (by omega) (by omega) hX hP
