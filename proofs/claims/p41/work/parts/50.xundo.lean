/-! the class: acts noted and undone -/
theorem hgW_fb {n m : Nat} : ∀ (k : Nat) {F : Fst} {t on c : Nat}, FB n m F → t < n → on < n → c < m → FB n m (hgW k F t on c)
  | 0, _, _, _, _, h, _, _, _ => h
  | k + 1, F, t, on, c, h, ht, ho, hc => by
    rw [hgW]
    cases hF : F t with
    | none => exact h.set ht ho hc
    | some p =>
      obtain ⟨u, d⟩ := p
      obtain ⟨a1, a2, a3⟩ := h t u d hF
      exact hgW_fb k (h.set ht ho hc) a2 ht a3
theorem take_snoc {α : Type} {L : List α} {q : Nat} {x : α} (hp : L[q]? = some x) : L.take (q + 1) = L.take q ++ [x] := by
  rw [List.take_succ, hp]; rfl
theorem frJ_fb {n : Nat} {J : List Jn} (h : JOK n J) : ∀ q, q ≤ J.length → FB n J.length (frJ (J.take q))
  | 0, _ => fun t u c hF => by
    rw [List.take_zero] at hF
    cases hF
  | q + 1, hq => by
    have ih := frJ_fb h q (by omega)
    obtain ⟨⟨a, b, c, r⟩, hp⟩ := get_at J (q := q) (by omega)
    obtain ⟨h1, h2, h3, h4⟩ := h.2 q a b c r hp
    rw [take_snoc hp, frJ_snoc]
    exact hgW_fb 24 ih h2 h1 (by rw [List.length_take]; omega)
/-- bare rows: joins lie there, the forest is read anew -/
theorem lp_cb7x (k : Mem → Option Mem) {N f n v2 : Nat} (hn : n ≤ 24) : ∀ (r fuel q : Nat) (w : Mem), q + r = n → r < fuel → gF w 2 6 f = nI q → (∀ t, t < q → gA w 19 f t = n1) → ∃ w', lp_X2_cutBack_7 k N f (nI n) (nI v2) fuel w (nI q) = k w' ∧ gF w' 2 6 f = nI n ∧ FR w' f n (fun _ => none) ∧ Fr (fun k j i => k = 2 ∧ j = 6 ∧ i = f) (fun k i => (k = 19 ∨ k = 20) ∧ i = f) w w' := by
  intro r
  induction r with
  | zero =>
    intro fuel q w hq hf h1 h2
    obtain ⟨f', rfl⟩ : ∃ f, fuel = f + 1 := ⟨fuel - 1, by omega⟩
    have e : q = n := by omega
    subst e
    refine ⟨w, ?_, h1, ⟨fun t ht => h2 t ht, fun t u c ht hF => by cases hF⟩, Fr.rf⟩
    rw [lp_X2_cutBack_7]
    simp (disch := omega) only [↓lm1, ↓lm2, eq_n1, eq_n2, n1_eq, n2_eq, n1_n2, n2_n1, n1_lt, n2_lt, n1_le, lt_n1, lt_n2, inb_t, cl_t, le_tt, le_tf, lt_tt, lt_tf, eq_tt, eq_tf, q_add, q_mul, li0, li1, li2, li3, li4, li5, li6, li7, li8, li12, li16, li24, li48, li500, gF_sA, gA_sF, gF_sF, gR_sA, gR_sF, gL_sA, gL_sF, gA_sA, shl_t, or_t, and_t, sbit_t, ubit_t, b01_0, b01_1, Option.bind_some, ↓reduceIte, eq_self, ne_eq, not_true_eq_false, Bool.false_eq_true, not_false_eq_true, true_and, and_true, false_and, and_false, if_pos, if_neg]
  | succ r ih =>
    intro fuel q w hq hf h1 h2
    obtain ⟨f', rfl⟩ : ∃ f, fuel = f + 1 := ⟨fuel - 1, by omega⟩
    have h0 : Fr (fun k j i => k = 2 ∧ j = 6 ∧ i = f) (fun k i => (k = 19 ∨ k = 20) ∧ i = f) w (sF (sA (sA w 19 f q n1) 20 f q n1) 2 6 f (nI (q + 1))) :=
      ⟨fun k j i h => by rw [gF_sF, if_neg h]; rfl, fun k i h => by rw [gA_sF, gA_sA_ne (fun z => h ⟨Or.inr z.1, z.2⟩), gA_sA_ne (fun z => h ⟨Or.inl z.1, z.2⟩)], fun _ _ => rfl, fun _ _ _ => rfl⟩
    have ha : f_X2_addLone N w f = some (sF (sA (sA w 19 f q n1) 20 f q n1) 2 6 f (nI (q + 1))) := by
      rw [f_X2_addLone]
      simp (disch := omega) only [↓lm1, ↓lm2, eq_n1, eq_n2, n1_eq, n2_eq, n1_n2, n2_n1, n1_lt, n2_lt, n1_le, lt_n1, lt_n2, inb_t, cl_t, le_tt, le_tf, lt_tt, lt_tf, eq_tt, eq_tf, q_add, q_mul, li0, li1, li2, li3, li4, li5, li6, li7, li8, li12, li16, li24, li48, li500, gF_sA, gA_sF, gF_sF, gR_sA, gR_sF, gL_sA, gL_sF, gA_sA, shl_t, or_t, and_t, sbit_t, ubit_t, b01_0, b01_1, Option.bind_some, ↓reduceIte, eq_self, ne_eq, not_true_eq_false, Bool.false_eq_true, not_false_eq_true, true_and, and_true, false_and, and_false, if_pos, if_neg, h1]
    obtain ⟨w', e1, e2, e3, e4⟩ := ih f' (q + 1) (sF (sA (sA w 19 f q n1) 20 f q n1) 2 6 f (nI (q + 1))) (by omega) (by omega) (by rw [gF_sF, if_pos ⟨rfl, rfl, rfl⟩]) (fun t ht => by
      by_cases e : t = q
      · subst e; simp (disch := omega) only [↓lm1, ↓lm2, eq_n1, eq_n2, n1_eq, n2_eq, n1_n2, n2_n1, n1_lt, n2_lt, n1_le, lt_n1, lt_n2, inb_t, cl_t, le_tt, le_tf, lt_tt, lt_tf, eq_tt, eq_tf, q_add, q_mul, li0, li1, li2, li3, li4, li5, li6, li7, li8, li12, li16, li24, li48, li500, gF_sA, gA_sF, gF_sF, gR_sA, gR_sF, gL_sA, gL_sF, gA_sA, shl_t, or_t, and_t, sbit_t, ubit_t, b01_0, b01_1, Option.bind_some, ↓reduceIte, eq_self, ne_eq, not_true_eq_false, Bool.false_eq_true, not_false_eq_true, true_and, and_true, false_and, and_false, if_pos, if_neg]
      · rw [← h2 t (by omega)]; simp (disch := omega) only [↓lm1, ↓lm2, eq_n1, eq_n2, n1_eq, n2_eq, n1_n2, n2_n1, n1_lt, n2_lt, n1_le, lt_n1, lt_n2, inb_t, cl_t, le_tt, le_tf, lt_tt, lt_tf, eq_tt, eq_tf, q_add, q_mul, li0, li1, li2, li3, li4, li5, li6, li7, li8, li12, li16, li24, li48, li500, gF_sA, gA_sF, gF_sF, gR_sA, gR_sF, gL_sA, gL_sF, gA_sA, shl_t, or_t, and_t, sbit_t, ubit_t, b01_0, b01_1, Option.bind_some, ↓reduceIte, eq_self, ne_eq, not_true_eq_false, Bool.false_eq_true, not_false_eq_true, true_and, and_true, false_and, and_false, if_pos, if_neg])
    refine ⟨w', ?_, e2, e3, h0.tr e4⟩
    rw [lp_X2_cutBack_7, ← e1]
    simp (disch := omega) only [↓lm1, ↓lm2, eq_n1, eq_n2, n1_eq, n2_eq, n1_n2, n2_n1, n1_lt, n2_lt, n1_le, lt_n1, lt_n2, inb_t, cl_t, le_tt, le_tf, lt_tt, lt_tf, eq_tt, eq_tf, q_add, q_mul, li0, li1, li2, li3, li4, li5, li6, li7, li8, li12, li16, li24, li48, li500, gF_sA, gA_sF, gF_sF, gR_sA, gR_sF, gL_sA, gL_sF, gA_sA, shl_t, or_t, and_t, sbit_t, ubit_t, b01_0, b01_1, Option.bind_some, ↓reduceIte, eq_self, ne_eq, not_true_eq_false, Bool.false_eq_true, not_false_eq_true, true_and, and_true, false_and, and_false, if_pos, if_neg, ha]
theorem lp_cb29x (k : Mem → Option Mem) {N f n : Nat} {J : List Jn} (hN : 25 < N) (hn : n ≤ 24) (hJ : JOK n J) : ∀ (r fuel q : Nat) (w : Mem), q + r = J.length → r < fuel → gF w 2 7 f = nI J.length → JR w f J → FR w f n (frJ (J.take q)) → ∃ w', lp_X2_cutBack_29 k N f fuel w (nI q) = k w' ∧ FR w' f n (frJ J) ∧ FrH f w w' := by
  intro r
  induction r with
  | zero =>
    intro fuel q w hq hf h1 h2 h3
    obtain ⟨f', rfl⟩ : ∃ f, fuel = f + 1 := ⟨fuel - 1, by omega⟩
    have hl := hJ.1
    refine ⟨w, ?_, by rw [List.take_of_length_le (by omega)] at h3; exact h3, Fr.rf⟩
    rw [lp_X2_cutBack_29]
    simp (disch := omega) only [↓lm1, ↓lm2, eq_n1, eq_n2, n1_eq, n2_eq, n1_n2, n2_n1, n1_lt, n2_lt, n1_le, lt_n1, lt_n2, inb_t, cl_t, le_tt, le_tf, lt_tt, lt_tf, eq_tt, eq_tf, q_add, q_mul, li0, li1, li2, li3, li4, li5, li6, li7, li8, li12, li16, li24, li48, li500, gF_sA, gA_sF, gF_sF, gR_sA, gR_sF, gL_sA, gL_sF, gA_sA, shl_t, or_t, and_t, sbit_t, ubit_t, b01_0, b01_1, Option.bind_some, ↓reduceIte, eq_self, ne_eq, not_true_eq_false, Bool.false_eq_true, not_false_eq_true, true_and, and_true, false_and, and_false, if_pos, if_neg, h1]
  | succ r ih =>
    intro fuel q w hq hf h1 h2 h3
    obtain ⟨f', rfl⟩ : ∃ f, fuel = f + 1 := ⟨fuel - 1, by omega⟩
    have hl := hJ.1
    obtain ⟨⟨a, b, c, r'⟩, hp⟩ := get_at J (q := q) (by omega)
    obtain ⟨j1, j2, j3, j4⟩ := hJ.2 q a b c r' hp
    obtain ⟨k1, k2, k3, k4⟩ := h2 q a b c r' hp
    obtain ⟨w1, a1, a2, a3⟩ := lp_hang (fun w_2 => f_X2_hang_82 N w_2 f) (N := N) (f := f) hn (show J.length ≤ 24 by omega) 24 N w (frJ (J.take q)) b a q 0 (by omega) (by omega) h3 (frJ_fb hJ q (by omega)) j2 j1 (by omega)
    have hh : f_X2_hang N w f (nI q) = some w1 := by
      rw [f_X2_hang]
      simp (disch := omega) only [↓lm1, ↓lm2, eq_n1, eq_n2, n1_eq, n2_eq, n1_n2, n2_n1, n1_lt, n2_lt, n1_le, lt_n1, lt_n2, inb_t, cl_t, le_tt, le_tf, lt_tt, lt_tf, eq_tt, eq_tf, q_add, q_mul, li0, li1, li2, li3, li4, li5, li6, li7, li8, li12, li16, li24, li48, li500, gF_sA, gA_sF, gF_sF, gR_sA, gR_sF, gL_sA, gL_sF, gA_sA, shl_t, or_t, and_t, sbit_t, ubit_t, b01_0, b01_1, Option.bind_some, ↓reduceIte, eq_self, ne_eq, not_true_eq_false, Bool.false_eq_true, not_false_eq_true, true_and, and_true, false_and, and_false, if_pos, if_neg, k1, k2]
      exact a1
    obtain ⟨w', e1, e2, e3⟩ := ih f' (q + 1) w1 (by omega) (by omega) ((a3.F _ _ _).trans h1) (fun p x y z r hq => by
      rw [a3.A (by omega) (by omega), a3.A (by omega) (by omega), a3.A (by omega) (by omega), a3.A (by omega) (by omega)]
      exact h2 p x y z r hq) (by
      rw [take_snoc hp, frJ_snoc, List.length_take, Nat.min_eq_left (by omega)]; exact a2)
    refine ⟨w', ?_, e2, a3.tr e3⟩
    rw [lp_X2_cutBack_29, ← e1]
    simp (disch := omega) only [↓lm1, ↓lm2, eq_n1, eq_n2, n1_eq, n2_eq, n1_n2, n2_n1, n1_lt, n2_lt, n1_le, lt_n1, lt_n2, inb_t, cl_t, le_tt, le_tf, lt_tt, lt_tf, eq_tt, eq_tf, q_add, q_mul, li0, li1, li2, li3, li4, li5, li6, li7, li8, li12, li16, li24, li48, li500, gF_sA, gA_sF, gF_sF, gR_sA, gR_sF, gL_sA, gL_sF, gA_sA, shl_t, or_t, and_t, sbit_t, ubit_t, b01_0, b01_1, Option.bind_some, ↓reduceIte, eq_self, ne_eq, not_true_eq_false, Bool.false_eq_true, not_false_eq_true, true_and, and_true, false_and, and_false, if_pos, if_neg, h1, hh]
theorem cutBack_ok {N f n : Nat} {w : Mem} {J : List Jn} (hN : 25 < N) (hn : n ≤ 24) (hJ : JOK n J) (hR : JR w f J) : ∃ w', f_X2_cutBack N w f (nI n) (nI J.length) = some w' ∧ FS w' f n J ∧ Fr (fun k _ i => k = 2 ∧ i = f) (fun k i => (k = 19 ∨ k = 20) ∧ i = f) w w' := by
  have h0 : Fr (fun k j i => k = 2 ∧ j = 6 ∧ i = f) (fun k i => (k = 19 ∨ k = 20) ∧ i = f) w (sF w 2 6 f (nI 0)) := ⟨fun k j i h => by rw [gF_sF, if_neg h], fun _ _ _ => rfl, fun _ _ => rfl, fun _ _ _ => rfl⟩
  obtain ⟨w1, a1, a2, a3, a4⟩ := lp_cb7x (fun w_1 => f_X2_cutBack_22 N w_1 f (nI J.length)) (N := N) (f := f) (v2 := J.length) hn n N 0 (sF w 2 6 f (nI 0)) (by omega) (by omega) (by rw [gF_sF, if_pos ⟨rfl, rfl, rfl⟩]) (fun t ht => absurd ht (Nat.not_lt_zero t))
  have h1 : Fr (fun k j i => k = 2 ∧ j = 7 ∧ i = f) (fun _ _ => False) w1 (sF w1 2 7 f (nI J.length)) := ⟨fun k j i h => by rw [gF_sF, if_neg h], fun _ _ _ => rfl, fun _ _ => rfl, fun _ _ _ => rfl⟩
  have h01 : Fr (fun k _ i => k = 2 ∧ i = f) (fun k i => (k = 19 ∨ k = 20) ∧ i = f) w (sF w1 2 7 f (nI J.length)) := (((h0.tr a4).mono (fun _ _ _ z => ⟨z.1, z.2.2⟩) (fun _ _ z => z))).tr (h1.mono (fun _ _ _ z => ⟨z.1, z.2.2⟩) (fun _ _ z => z.elim))
  have hR1 : JR (sF w1 2 7 f (nI J.length)) f J := fun p x y z r hp => by
    rw [h01.2.1 21 f (fun z => by omega), h01.2.1 22 f (fun z => by omega), h01.2.1 23 f (fun z => by omega), h01.2.1 24 f (fun z => by omega)]
    exact hR p x y z r hp
  obtain ⟨w2, b1, b2, b3⟩ := lp_cb29x (fun w_2 => f_X2_cutBack_48 N w_2 f) (N := N) (f := f) hN hn hJ J.length N 0 (sF w1 2 7 f (nI J.length)) (by omega) (by have := hJ.1; omega) (by rw [gF_sF, if_pos ⟨rfl, rfl, rfl⟩]) hR1 (by rw [List.take_zero]; exact a3)
  refine ⟨w2, ?_, ⟨hn, ?_, ?_, fun p x y z r hp => ?_, b2⟩, h01.tr (b3.mono (fun _ _ _ z => z.elim) (fun _ _ z => z))⟩
  · rw [f_X2_cutBack]
    refine a1.trans ?_
    rw [f_X2_cutBack_22]
    exact b1
  · rw [b3.F, gF_sF, if_neg (by omega)]; exact a2
  · rw [b3.F, gF_sF, if_pos ⟨rfl, rfl, rfl⟩]
  · rw [b3.A (by omega) (by omega), b3.A (by omega) (by omega), b3.A (by omega) (by omega), b3.A (by omega) (by omega)]
    exact hR1 p x y z r hp
theorem ldJ_take {J : List Jn} {q a b : Nat} {c : Option Nat} {r : Nat} (hp : J[q]? = some (a, b, c, r)) : ldJ (J.take (q + 1)) = un (ldJ (J.take q)) a b := by rw [take_snoc hp, ldJ_snoc]
theorem lp_ul115 (k : Mem → Option Mem) {N f n : Nat} {J : List Jn} (hN : 25 < N) (hJ : JOK n J) : ∀ (r fuel q : Nat) (w : Mem), q + r = J.length → r < fuel → gF w 2 7 f = nI J.length → JR w f J → GS w (2 + f) n (ldJ (J.take q)) → ∃ w', lp_X1_undoLatest_115 k N f fuel w (nI q) = k w' ∧ GS w' (2 + f) n (ldJ J) ∧ Fr (gP (2 + f)) (gQ (2 + f)) w w' := by
  intro r
  induction r with
  | zero =>
    intro fuel q w hq hf h1 h2 h3
    obtain ⟨f', rfl⟩ : ∃ f, fuel = f + 1 := ⟨fuel - 1, by omega⟩
    have hl := hJ.1
    refine ⟨w, ?_, by rw [List.take_of_length_le (by omega)] at h3; exact h3, Fr.rf⟩
    rw [lp_X1_undoLatest_115]
    simp (disch := omega) only [↓lm1, ↓lm2, eq_n1, eq_n2, n1_eq, n2_eq, n1_n2, n2_n1, n1_lt, n2_lt, n1_le, lt_n1, lt_n2, inb_t, cl_t, le_tt, le_tf, lt_tt, lt_tf, eq_tt, eq_tf, q_add, q_mul, li0, li1, li2, li3, li4, li5, li6, li7, li8, li12, li16, li24, li48, li500, gF_sA, gA_sF, gF_sF, gR_sA, gR_sF, gL_sA, gL_sF, gA_sA, shl_t, or_t, and_t, sbit_t, ubit_t, b01_0, b01_1, Option.bind_some, ↓reduceIte, eq_self, ne_eq, not_true_eq_false, Bool.false_eq_true, not_false_eq_true, true_and, and_true, false_and, and_false, if_pos, if_neg, h1]
  | succ r ih =>
    intro fuel q w hq hf h1 h2 h3
    obtain ⟨f', rfl⟩ : ∃ f, fuel = f + 1 := ⟨fuel - 1, by omega⟩
    have hl := hJ.1
    have hn := h3.1
    obtain ⟨⟨a, b, c, r'⟩, hp⟩ := get_at J (q := q) (by omega)
    obtain ⟨j1, j2, j3, j4⟩ := hJ.2 q a b c r' hp
    obtain ⟨k1, k2, k3, k4⟩ := h2 q a b c r' hp
    obtain ⟨w1, a1, a2, a3⟩ := unite_ok h3 (N := N) (by omega) j1 j2
    obtain ⟨w', e1, e2, e3⟩ := ih f' (q + 1) w1 (by omega) (by omega) ((a3.1 _ _ _ (fun z => by omega)).trans h1) (fun p x y z r hq => by
      rw [a3.2.1 21 f (fun z => by omega), a3.2.1 22 f (fun z => by omega), a3.2.1 23 f (fun z => by omega), a3.2.1 24 f (fun z => by omega)]
      exact h2 p x y z r hq) (by rw [ldJ_take hp]; exact a2)
    refine ⟨w', ?_, e2, a3.tr e3⟩
    rw [lp_X1_undoLatest_115, ← e1]
    simp (disch := omega) only [↓lm1, ↓lm2, eq_n1, eq_n2, n1_eq, n2_eq, n1_n2, n2_n1, n1_lt, n2_lt, n1_le, lt_n1, lt_n2, inb_t, cl_t, le_tt, le_tf, lt_tt, lt_tf, eq_tt, eq_tf, q_add, q_mul, li0, li1, li2, li3, li4, li5, li6, li7, li8, li12, li16, li24, li48, li500, gF_sA, gA_sF, gF_sF, gR_sA, gR_sF, gL_sA, gL_sF, gA_sA, shl_t, or_t, and_t, sbit_t, ubit_t, b01_0, b01_1, Option.bind_some, ↓reduceIte, eq_self, ne_eq, not_true_eq_false, Bool.false_eq_true, not_false_eq_true, true_and, and_true, false_and, and_false, if_pos, if_neg, h1, k1, k2, a1]
/-- the acts that were noted: their kinds, the joins ahead of each -/
def kd : Row → Nat
  | .inl _ => 2
  | .inr (true, _) => 0
  | .inr (false, _) => 1
def AS (w : Mem) (f : Nat) (tk : Nat → Nat) (c : Core) (A : List Row) : Prop := A.length ≤ 44 ∧ gF w 1 11 f = nI A.length ∧ ∀ (p : Nat) (r : Row), A[p]? = some r → gA w 17 f p = nI (kd r) ∧ gA w 18 f p = nI (cJ (run tk c (A.take p))).length
theorem AS.fr {w v : Mem} {f : Nat} {tk : Nat → Nat} {c : Core} {A : List Row} (h : AS w f tk c A) (hf : FrX f w v) : AS v f tk c A := by
  refine ⟨h.1, (hf.1 _ _ _ (fun z => by omega)).trans h.2.1, fun p r hp => ?_⟩
  rw [hf.2.1 17 f (fun z => by omega), hf.2.1 18 f (fun z => by omega)]
  exact h.2.2 p r hp
theorem noteAct_ok {N f : Nat} {w : Mem} {tk : Nat → Nat} {c : Core} {A : List Row} (r : Row) (hX : XK w f tk (run tk c A)) (hA : AS w f tk c A) (hl : A.length < 44) : ∃ w', f_X1_noteAct N w f (nI (kd r)) = some w' ∧ XK w' f tk (run tk c A) ∧ (∀ v, FrX f w' v → AS v f tk c (A ++ [r])) ∧ Fr (fun k j i => k = 1 ∧ j = 11 ∧ i = f) (fun k i => (k = 17 ∨ k = 18) ∧ i = f) w w' := by
  obtain ⟨a1, a2, a3⟩ := hA
  obtain ⟨⟨x1, x2, x3⟩, x4, x5, x6⟩ := hX
  let w1 : Mem := sF (sA (sA w 17 f A.length (nI (kd r))) 18 f A.length (nI (cJ (run tk c A)).length)) 1 11 f (nI (A.length + 1))
  have hw1 : Fr (fun k j i => k = 1 ∧ j = 11 ∧ i = f) (fun k i => (k = 17 ∨ k = 18) ∧ i = f) w w1 :=
    ⟨fun k j i h => by show gF (sF _ _ _ _ _) _ _ _ = _; rw [gF_sF, if_neg h]; rfl, fun k i h => by show gA (sF _ _ _ _ _) _ _ = _; rw [gA_sF, gA_sA_ne (fun z => h ⟨Or.inr z.1, z.2⟩), gA_sA_ne (fun z => h ⟨Or.inl z.1, z.2⟩)], fun _ _ => rfl, fun _ _ _ => rfl⟩
  have hA1 : AS w1 f tk c (A ++ [r]) := by
    refine ⟨by rw [List.length_append]; show _ + 1 ≤ 44; omega, by show gF (sF _ _ _ _ _) _ _ _ = _; rw [gF_sF, if_pos ⟨rfl, rfl, rfl⟩, List.length_append]; rfl, fun p x hp => ?_⟩
    show gA (sF (sA (sA w 17 f A.length (nI (kd r))) 18 f A.length (nI (cJ (run tk c A)).length)) 1 11 f (nI (A.length + 1))) 17 f p = _ ∧ gA (sF (sA (sA w 17 f A.length (nI (kd r))) 18 f A.length (nI (cJ (run tk c A)).length)) 1 11 f (nI (A.length + 1))) 18 f p = _
    rcases get_snoc hp with ⟨g1, g2⟩ | ⟨g1, g2⟩
    · obtain ⟨k1, k2⟩ := a3 p x g2
      rw [List.take_append_of_le_length (by omega)]
      refine ⟨k1 ▸ ?_, k2 ▸ ?_⟩ <;> simp (disch := omega) only [↓lm1, ↓lm2, eq_n1, eq_n2, n1_eq, n2_eq, n1_n2, n2_n1, n1_lt, n2_lt, n1_le, lt_n1, lt_n2, inb_t, cl_t, le_tt, le_tf, lt_tt, lt_tf, eq_tt, eq_tf, q_add, q_mul, li0, li1, li2, li3, li4, li5, li6, li7, li8, li12, li16, li24, li48, li500, gF_sA, gA_sF, gF_sF, gR_sA, gR_sF, gL_sA, gL_sF, gA_sA, shl_t, or_t, and_t, sbit_t, ubit_t, b01_0, b01_1, Option.bind_some, ↓reduceIte, eq_self, ne_eq, not_true_eq_false, Bool.false_eq_true, not_false_eq_true, true_and, and_true, false_and, and_false, if_pos, if_neg]
    · subst g1 g2
      rw [List.take_left]
      refine ⟨?_, ?_⟩ <;> simp (disch := omega) only [↓lm1, ↓lm2, eq_n1, eq_n2, n1_eq, n2_eq, n1_n2, n2_n1, n1_lt, n2_lt, n1_le, lt_n1, lt_n2, inb_t, cl_t, le_tt, le_tf, lt_tt, lt_tf, eq_tt, eq_tf, q_add, q_mul, li0, li1, li2, li3, li4, li5, li6, li7, li8, li12, li16, li24, li48, li500, gF_sA, gA_sF, gF_sF, gR_sA, gR_sF, gL_sA, gL_sF, gA_sA, shl_t, or_t, and_t, sbit_t, ubit_t, b01_0, b01_1, Option.bind_some, ↓reduceIte, eq_self, ne_eq, not_true_eq_false, Bool.false_eq_true, not_false_eq_true, true_and, and_true, false_and, and_false, if_pos, if_neg]
  refine ⟨w1, ?_, ⟨⟨x1.fr hw1 (fun _ _ _ z => by omega) (fun _ _ z => by omega), x2.of (hw1.1 _ _ _ (fun z => by omega)) (hw1.1 _ _ _ (fun z => by omega)) (hw1.2.1 _ _ (fun z => by omega)), x3.fr hw1 (fun _ _ _ z => by omega) (fun _ _ z => by omega)⟩, ?_, ?_, x6.fr (hw1.2.1 _ _ (fun z => by omega))⟩, fun v hv => hA1.fr hv, hw1⟩
  · rw [f_X1_noteAct, show (44 : Int32) = nI 44 from rfl]
    simp (disch := omega) only [↓lm1, ↓lm2, eq_n1, eq_n2, n1_eq, n2_eq, n1_n2, n2_n1, n1_lt, n2_lt, n1_le, lt_n1, lt_n2, inb_t, cl_t, le_tt, le_tf, lt_tt, lt_tf, eq_tt, eq_tf, q_add, q_mul, li0, li1, li2, li3, li4, li5, li6, li7, li8, li12, li16, li24, li48, li500, gF_sA, gA_sF, gF_sF, gR_sA, gR_sF, gL_sA, gL_sF, gA_sA, shl_t, or_t, and_t, sbit_t, ubit_t, b01_0, b01_1, Option.bind_some, ↓reduceIte, eq_self, ne_eq, not_true_eq_false, Bool.false_eq_true, not_false_eq_true, true_and, and_true, false_and, and_false, if_pos, if_neg, a2, x3.2.2.1]
    rfl
  · obtain ⟨d1, d2, d3⟩ := x4
    refine ⟨d1, (hw1.1 _ _ _ (fun z => by omega)).trans d2, fun p i j hp => ?_⟩
    rw [hw1.2.1 13 f (fun z => by omega), hw1.2.1 14 f (fun z => by omega)]; exact d3 p i j hp
  · obtain ⟨d1, d2, d3⟩ := x5
    refine ⟨d1, (hw1.1 _ _ _ (fun z => by omega)).trans d2, fun p i j hp => ?_⟩
    rw [hw1.2.1 15 f (fun z => by omega), hw1.2.1 16 f (fun z => by omega)]; exact d3 p i j hp
theorem stp_J (tk : Nat → Nat) (c : Core) (r : Row) : ∃ L, cJ (stp tk c r) = cJ c ++ L := by
  cases r with
  | inl x => exact clJ_pre 24 (cJ c)
  | inr y =>
    obtain ⟨bb, a, b⟩ := y
    cases bb with
    | true =>
      show ∃ L, (if ldJ (cJ c) a = ldJ (cJ c) b then cJ c else clJ 24 (mkT tk (cL c)) (cJ c ++ [(a, b, some (cS c).length, 2 ^ (cS c).length)])) = cJ c ++ L
      by_cases e : ldJ (cJ c) a = ldJ (cJ c) b
      · rw [if_pos e]; exact ⟨[], by rw [List.append_nil]⟩
      · rw [if_neg e]
        obtain ⟨L, hL⟩ := clJ_pre (T := mkT tk (cL c)) 24 (cJ c ++ [(a, b, some (cS c).length, 2 ^ (cS c).length)])
        exact ⟨_ :: L, by rw [hL, List.append_assoc]; rfl⟩
    | false => exact ⟨[], by rw [List.append_nil]; rfl⟩
theorem get_pre {α : Type} {L M : List α} {p : Nat} {x : α} (h : L[p]? = some x) : (L ++ M)[p]? = some x := by
  have hl := (List.getElem?_eq_some_iff.mp h).1
  rw [List.getElem?_append_left hl]; exact h
/-- behind the first half of undoing: what is behind it -/
theorem undo76_ok {N f m : Nat} {w : Mem} {tk : Nat → Nat} {c : Core} (hN : 276 < N) (hT : TS w f (mkT tk (cL c))) (hP : PC (mkT tk (cL c)) (cJ c)) (hS : SS w f (cL c).length (cS c)) (hQ : DS w f (cL c).length (cQ c)) (hD : DP w f (cL c)) (hR : JR w f (cJ c)) (hm : m < 44) (h11 : gF w 1 11 f = nI m) (h18 : gA w 18 f m = nI (cJ c).length) : ∃ w', f_X1_undoLatest_76 N w f = some w' ∧ XK w' f tk c ∧ Fr (fun k _ i => (k = 2 ∧ i = f) ∨ (k = 3 ∧ i = 2 + f)) (fun k i => ((k = 19 ∨ k = 20) ∧ i = f) ∨ (k = 25 ∧ i = 2 + f)) w w' := by
  obtain ⟨p1, p2, p3, p4, p5, p6⟩ := hP
  rw [tN_mk] at p2 p3
  obtain ⟨w1, a1, a2, a3⟩ := cutBack_ok (N := N) (by omega) p2 p3 hR
  obtain ⟨w2, b1, b2, b3⟩ := partAll_ok w1 (2 + f) (m := (cL c).length) p2 (N := N) (by omega)
  have hl := p3.1
  have a2' := a2.fr b3 (fun _ _ _ z => by omega) (fun _ _ z => by omega)
  obtain ⟨w3, d1, d2, d3⟩ := lp_ul115 (fun w_9 => f_X1_undoLatest_157 N w_9 f) (N := N) (f := f) (by omega) p3 (cJ c).length N 0 w2 (by omega) (by omega) a2'.2.2.1 a2'.2.2.2.1 (by rw [List.take_zero]; exact b2)
  have h10 : gF w 7 10 f = nI (cL c).length := hT.2.2.1
  have h10' : gF w1 7 10 f = nI (cL c).length := (a3.1 _ _ _ (fun z => by omega)).trans h10
  have hAll : Fr (fun k _ i => (k = 2 ∧ i = f) ∨ (k = 3 ∧ i = 2 + f)) (fun k i => ((k = 19 ∨ k = 20) ∧ i = f) ∨ (k = 25 ∧ i = 2 + f)) w w3 := (a3.mono (fun _ _ _ z => Or.inl z) (fun _ _ z => Or.inl z)).tr ((b3.mono (fun _ _ _ z => Or.inr z) (fun _ _ z => Or.inr z)).tr (d3.mono (fun _ _ _ z => Or.inr z) (fun _ _ z => Or.inr z)))
  refine ⟨w3, ?_, ⟨⟨hT.fr hAll (fun _ _ _ z => by omega) (fun _ _ z => by omega), d2, a2'.fr d3 (fun _ _ _ z => by omega) (fun _ _ z => by omega)⟩, hS.fr hAll (fun _ _ _ z => by omega) (fun _ _ z => by omega), hQ.fr hAll (fun _ _ _ z => by omega) (fun _ _ z => by omega), hD.fr (hAll.2.1 _ _ (fun z => by omega))⟩, hAll⟩
  rw [f_X1_undoLatest_76, show (44 : Nat) = 44 from rfl]
  simp (disch := omega) only [↓lm1, ↓lm2, eq_n1, eq_n2, n1_eq, n2_eq, n1_n2, n2_n1, n1_lt, n2_lt, n1_le, lt_n1, lt_n2, inb_t, cl_t, le_tt, le_tf, lt_tt, lt_tf, eq_tt, eq_tf, q_add, q_mul, li0, li1, li2, li3, li4, li5, li6, li7, li8, li12, li16, li24, li48, li500, gF_sA, gA_sF, gF_sF, gR_sA, gR_sF, gL_sA, gL_sF, gA_sA, shl_t, or_t, and_t, sbit_t, ubit_t, b01_0, b01_1, Option.bind_some, ↓reduceIte, eq_self, ne_eq, not_true_eq_false, Bool.false_eq_true, not_false_eq_true, true_and, and_true, false_and, and_false, if_pos, if_neg, h11, h18, h10, a1, h10', b1]
  exact d1
theorem undo_ok {N f nf : Nat} {w : Mem} {tk : Nat → Nat} {c : Core} {A : List Row} {r : Row} (hN : 276 < N) (hX : XK w f tk (run tk c (A ++ [r]))) (hA : AS w f tk c (A ++ [r])) (hC : CI tk nf (run tk c A)) : ∃ w', f_X1_undoLatest N w f = some w' ∧ XK w' f tk (run tk c A) ∧ AS w' f tk c A ∧ gA w' 34 f = gA w 34 f ∧ gF w' 7 9 f = gF w 7 9 f ∧ Fr (fun k j i => (k = 7 ∧ j ≠ 9 ∧ i = f) ∨ (k = 2 ∧ i = f) ∨ (k = 3 ∧ i = 2 + f) ∨ (k = 1 ∧ i = f)) (fun k i => ((k = 19 ∨ k = 20 ∨ k = 38 ∨ k = 39) ∧ i = f) ∨ (k = 25 ∧ i = 2 + f)) w w' := by
  rw [run_snoc] at hX
  generalize hc : run tk c A = cc at hX hC
  obtain ⟨⟨x1, x2, x3⟩, x4, x5, x6⟩ := hX
  obtain ⟨a1, a2, a3⟩ := hA
  have hlen : (A ++ [r]).length = A.length + 1 := by rw [List.length_append]; rfl
  rw [hlen] at a1 a2
  obtain ⟨k1, k2⟩ := a3 A.length r (by rw [List.getElem?_append_right (Nat.le_refl _), Nat.sub_self]; rfl)
  rw [List.take_left, hc] at k2
  obtain ⟨L, hL⟩ := stp_J tk cc r
  have hR : JR w f (cJ cc) := fun p x y z q hp => x3.2.2.2.1 p x y z q (by rw [hL]; exact get_pre hp)
  let w0 : Mem := sF w 1 11 f (nI A.length)
  have hw0 : Fr (fun k j i => k = 1 ∧ j = 11 ∧ i = f) (fun _ _ => False) w w0 := ⟨fun k j i h => by show gF (sF _ _ _ _ _) _ _ _ = _; rw [gF_sF, if_neg h], fun _ _ _ => rfl, fun _ _ => rfl, fun _ _ _ => rfl⟩
  have fin : ∀ v w' : Mem, Fr (fun k j i => (k = 7 ∧ j ≠ 9 ∧ i = f) ∨ (k = 1 ∧ i = f)) (fun k i => (k = 38 ∨ k = 39) ∧ i = f) w v → gF v 1 11 f = nI A.length → Fr (fun k _ i => (k = 2 ∧ i = f) ∨ (k = 3 ∧ i = 2 + f)) (fun k i => ((k = 19 ∨ k = 20) ∧ i = f) ∨ (k = 25 ∧ i = 2 + f)) v w' → AS w' f tk c A ∧ gA w' 34 f = gA w 34 f ∧ gF w' 7 9 f = gF w 7 9 f ∧ Fr (fun k j i => (k = 7 ∧ j ≠ 9 ∧ i = f) ∨ (k = 2 ∧ i = f) ∨ (k = 3 ∧ i = 2 + f) ∨ (k = 1 ∧ i = f)) (fun k i => ((k = 19 ∨ k = 20 ∨ k = 38 ∨ k = 39) ∧ i = f) ∨ (k = 25 ∧ i = 2 + f)) w w' := by
    intro v w' h1 h11 h2
    have hAll : Fr (fun k j i => (k = 7 ∧ j ≠ 9 ∧ i = f) ∨ (k = 2 ∧ i = f) ∨ (k = 3 ∧ i = 2 + f) ∨ (k = 1 ∧ i = f)) (fun k i => ((k = 19 ∨ k = 20 ∨ k = 38 ∨ k = 39) ∧ i = f) ∨ (k = 25 ∧ i = 2 + f)) w w' := (h1.mono (fun _ _ _ z => by omega) (fun _ _ z => by omega)).tr (h2.mono (fun _ _ _ z => by omega) (fun _ _ z => by omega))
    refine ⟨⟨by omega, (h2.1 _ _ _ (fun z => by omega)).trans h11, fun p x hp => ?_⟩, hAll.2.1 _ _ (fun z => by omega), hAll.1 _ _ _ (fun z => by omega), hAll⟩
    rw [hAll.2.1 17 f (fun z => by omega), hAll.2.1 18 f (fun z => by omega)]
    have := a3 p x (get_pre hp)
    rw [List.take_append_of_le_length (by have := (List.getElem?_eq_some_iff.mp hp).1; omega)] at this
    exact this
  have h00 : gF w0 1 11 f = nI A.length := by show gF (sF _ _ _ _ _) _ _ _ = _; rw [gF_sF, if_pos ⟨rfl, rfl, rfl⟩]
  have hm : A.length < 44 := by omega
  cases r with
  | inl x =>
    have hlx : (cL cc ++ [x]).length = (cL cc).length + 1 := by rw [List.length_append]; rfl
    let w1 : Mem := sF w0 7 10 f (nI (cL cc).length)
    have hw1 : Fr (fun k j i => (k = 7 ∧ j = 10 ∧ i = f) ∨ (k = 1 ∧ j = 11 ∧ i = f)) (fun _ _ => False) w w1 := ⟨fun k j i h => by show gF (sF (sF _ _ _ _ _) _ _ _ _) _ _ _ = _; rw [gF_sF, if_neg (fun z => h (Or.inl z)), gF_sF, if_neg (fun z => h (Or.inr z))], fun _ _ _ => rfl, fun _ _ => rfl, fun _ _ _ => rfl⟩
    obtain ⟨t1, t2, t3, t4, t5⟩ := x1.to0
    have hn : tN (mkT tk (cL cc ++ [x])) = (cL cc).length + 1 := hlx
    change tN (mkT tk (cL cc ++ [x])) ≤ 24 at t1
    change gF w 7 10 f = nI (tN (mkT tk (cL cc ++ [x]))) at t3
    rw [hn] at t1 t3
    have hT0 : TS0 w1 f (mkT tk (cL cc)) := by
      refine ⟨hC.1.2.1, hC.1.1, ?_, fun t ht => ?_, fun t k ht hk => ?_⟩
      · show gF (sF _ _ _ _ _) _ _ _ = _; rw [gF_sF, if_pos ⟨rfl, rfl, rfl⟩]; rfl
      · have ht' : t < (cL cc).length := ht
        have := t4 t (show t < (cL cc ++ [x]).length by omega)
        change tlF (cL cc ++ [x]) t < 8 ∧ tk (tlF (cL cc ++ [x]) t) ≤ 3 ∧ gA w 33 f t = nI (tlF (cL cc ++ [x]) t) ∧ gA w 31 f (tlF (cL cc ++ [x]) t) = nI (tk (tlF (cL cc ++ [x]) t)) at this
        rw [tlF_snoc ht'] at this
        exact this
      · have ht' : t < (cL cc).length := ht
        have hk' : k < tk (tlF (cL cc) t) := hk
        have := t5 t k (show t < (cL cc ++ [x]).length by omega) (by show k < tk (tlF (cL cc ++ [x]) t); rw [tlF_snoc ht']; exact hk')
        change gA w 36 f (t * 3 + k) = nI ((tlP (cL cc ++ [x]) t).getD k 0) at this
        rw [tlP_snoc ht'] at this
        exact this
    obtain ⟨w2, b1, b2, b3⟩ := listPairs_ok (N := N) (by omega) hT0
    have h12 : Fr (fun k j i => (k = 7 ∧ j ≠ 9 ∧ i = f) ∨ (k = 1 ∧ j = 11 ∧ i = f)) (fun k i => (k = 38 ∨ k = 39) ∧ i = f) w w2 := (hw1.mono (fun _ _ _ z => by omega) (fun _ _ z => z.elim)).tr (b3.mono (fun _ _ _ z => by omega) (fun _ _ z => z))
    have h11 : gF w2 1 11 f = nI A.length := (b3.1 _ _ _ (fun z => by omega)).trans (by show gF (sF (sF _ _ _ _ _) _ _ _ _) _ _ _ = _; rw [gF_sF, if_neg (by omega), gF_sF, if_pos ⟨rfl, rfl, rfl⟩])
    have hS2 : SS w2 f (cL cc).length (cS cc) := by
      obtain ⟨d1, d2, d3⟩ := x4
      refine ⟨d1, (h12.1 _ _ _ (fun z => by omega)).trans d2, fun p i j hp => ?_⟩
      rw [h12.2.1 13 f (fun z => by omega), h12.2.1 14 f (fun z => by omega)]
      obtain ⟨q1, q2, q3, q4⟩ := d3 p i j hp
      have := hC.2.2.1.2 i j (List.mem_of_getElem? hp)
      exact ⟨this.1, this.2, q3, q4⟩
    have hQ2 : DS w2 f (cL cc).length (cQ cc) := by
      obtain ⟨d1, d2, d3⟩ := x5
      refine ⟨d1, (h12.1 _ _ _ (fun z => by omega)).trans d2, fun p i j hp => ?_⟩
      rw [h12.2.1 15 f (fun z => by omega), h12.2.1 16 f (fun z => by omega)]
      obtain ⟨q1, q2, q3, q4⟩ := d3 p i j hp
      have := hC.2.2.2.1.2 i j (List.mem_of_getElem? hp)
      exact ⟨this.1, this.2, q3, q4⟩
    have hD2 : DP w2 f (cL cc) := by
      intro i hi
      rw [h12.2.1 35 f (fun z => by omega)]
      have := x6 i (show i < (cL cc ++ [x]).length by omega)
      change _ = nI (dpt (cL cc ++ [x]) i) at this
      rw [dpt_snoc, if_neg (by omega)] at this
      exact this
    have hR2 : JR w2 f (cJ cc) := fun p x y z q hp => by
      rw [h12.2.1 21 f (fun z => by omega), h12.2.1 22 f (fun z => by omega), h12.2.1 23 f (fun z => by omega), h12.2.1 24 f (fun z => by omega)]
      exact hR p x y z q hp
    obtain ⟨w3, d1, d2, d3⟩ := undo76_ok hN b2 hC.1 hS2 hQ2 hD2 hR2 hm h11 (by rw [h12.2.1 18 f (fun z => by omega)]; exact k2)
    refine ⟨w3, ?_, d2, fin w2 w3 (h12.mono (fun _ _ _ z => by omega) (fun _ _ z => z)) h11 d3⟩
    have k1' : gA w 17 f A.length = nI 2 := k1
    have hdt : f_X7_dropTerm N w0 f = some w2 := by
      have e10 : gF w0 7 10 f = nI ((cL cc).length + 1) := by show gF (sF _ _ _ _ _) _ _ _ = _; rw [gF_sF, if_neg (by omega)]; exact t3
      rw [f_X7_dropTerm]
      simp (disch := omega) only [↓lm1, ↓lm2, eq_n1, eq_n2, n1_eq, n2_eq, n1_n2, n2_n1, n1_lt, n2_lt, n1_le, lt_n1, lt_n2, inb_t, cl_t, le_tt, le_tf, lt_tt, lt_tf, eq_tt, eq_tf, q_add, q_mul, li0, li1, li2, li3, li4, li5, li6, li7, li8, li12, li16, li24, li48, li500, gF_sA, gA_sF, gF_sF, gR_sA, gR_sF, gL_sA, gL_sF, gA_sA, shl_t, or_t, and_t, sbit_t, ubit_t, b01_0, b01_1, Option.bind_some, ↓reduceIte, eq_self, ne_eq, not_true_eq_false, Bool.false_eq_true, not_false_eq_true, true_and, and_true, false_and, and_false, if_pos, if_neg, e10, q_sub, Nat.add_sub_cancel]
      have b1' : f_X7_listPairs N (sF w0 7 10 f (nI (cL cc).length)) f = some w2 := b1
      simp (disch := omega) only [↓lm1, ↓lm2, eq_n1, eq_n2, n1_eq, n2_eq, n1_n2, n2_n1, n1_lt, n2_lt, n1_le, lt_n1, lt_n2, inb_t, cl_t, le_tt, le_tf, lt_tt, lt_tf, eq_tt, eq_tf, q_add, q_mul, li0, li1, li2, li3, li4, li5, li6, li7, li8, li12, li16, li24, li48, li500, gF_sA, gA_sF, gF_sF, gR_sA, gR_sF, gL_sA, gL_sF, gA_sA, shl_t, or_t, and_t, sbit_t, ubit_t, b01_0, b01_1, Option.bind_some, ↓reduceIte, eq_self, ne_eq, not_true_eq_false, Bool.false_eq_true, not_false_eq_true, true_and, and_true, false_and, and_false, if_pos, if_neg, b1']
    have hdt' : f_X7_dropTerm N (sF w 1 11 f (nI A.length)) f = some w2 := hdt
    rw [f_X1_undoLatest]
    simp (disch := omega) only [↓lm1, ↓lm2, eq_n1, eq_n2, n1_eq, n2_eq, n1_n2, n2_n1, n1_lt, n2_lt, n1_le, lt_n1, lt_n2, inb_t, cl_t, le_tt, le_tf, lt_tt, lt_tf, eq_tt, eq_tf, q_add, q_mul, li0, li1, li2, li3, li4, li5, li6, li7, li8, li12, li16, li24, li48, li500, gF_sA, gA_sF, gF_sF, gR_sA, gR_sF, gL_sA, gL_sF, gA_sA, shl_t, or_t, and_t, sbit_t, ubit_t, b01_0, b01_1, Option.bind_some, ↓reduceIte, eq_self, ne_eq, not_true_eq_false, Bool.false_eq_true, not_false_eq_true, true_and, and_true, false_and, and_false, if_pos, if_neg, a2, q_sub, Nat.add_sub_cancel, k1', hdt']
    exact d1
  | inr y =>
    obtain ⟨bb, a, b⟩ := y
    cases bb with
    | true =>
      let w1 : Mem := sF w0 1 9 f (nI (cS cc).length)
      have h12 : Fr (fun k j i => k = 1 ∧ (j = 9 ∨ j = 11) ∧ i = f) (fun _ _ => False) w w1 := ⟨fun k j i h => by show gF (sF (sF _ _ _ _ _) _ _ _ _) _ _ _ = _; rw [gF_sF, if_neg (fun z => h ⟨z.1, Or.inl z.2.1, z.2.2⟩), gF_sF, if_neg (fun z => h ⟨z.1, Or.inr z.2.1, z.2.2⟩)], fun _ _ _ => rfl, fun _ _ => rfl, fun _ _ _ => rfl⟩
      have h11 : gF w1 1 11 f = nI A.length := by show gF (sF (sF _ _ _ _ _) _ _ _ _) _ _ _ = _; rw [gF_sF, if_neg (by omega), gF_sF, if_pos ⟨rfl, rfl, rfl⟩]
      have hS2 : SS w1 f (cL cc).length (cS cc) := by
        obtain ⟨d1, d2, d3⟩ := x4
        refine ⟨hC.2.2.1.1, by show gF (sF _ _ _ _ _) _ _ _ = _; rw [gF_sF, if_pos ⟨rfl, rfl, rfl⟩], fun p i j hp => ?_⟩
        rw [h12.2.1 13 f (fun z => z), h12.2.1 14 f (fun z => z)]
        exact d3 p i j (get_pre hp)
      have hQ2 : DS w1 f (cL cc).length (cQ cc) := by
        obtain ⟨d1, d2, d3⟩ := x5
        refine ⟨d1, (h12.1 _ _ _ (fun z => by omega)).trans d2, fun p i j hp => ?_⟩
        rw [h12.2.1 15 f (fun z => z), h12.2.1 16 f (fun z => z)]
        exact d3 p i j hp
      have hR2 : JR w1 f (cJ cc) := fun p x y z q hp => hR p x y z q hp
      obtain ⟨w3, d1, d2, d3⟩ := undo76_ok (c := cc) hN (x1.fr h12 (fun _ _ _ z => by omega) (fun _ _ z => z.elim)) hC.1 hS2 hQ2 (fun i hi => x6 i hi) hR2 hm h11 k2
      refine ⟨w3, ?_, d2, fin w1 w3 (h12.mono (fun _ _ _ z => by omega) (fun _ _ z => z.elim)) h11 d3⟩
      have k1' : gA w 17 f A.length = nI 0 := k1
      have s9 : gF w 1 9 f = nI ((cS cc).length + 1) := by rw [x4.2.1]; show nI (cS cc ++ [(a, b)]).length = _; rw [List.length_append]; rfl
      rw [f_X1_undoLatest]
      simp (disch := omega) only [↓lm1, ↓lm2, eq_n1, eq_n2, n1_eq, n2_eq, n1_n2, n2_n1, n1_lt, n2_lt, n1_le, lt_n1, lt_n2, inb_t, cl_t, le_tt, le_tf, lt_tt, lt_tf, eq_tt, eq_tf, q_add, q_mul, li0, li1, li2, li3, li4, li5, li6, li7, li8, li12, li16, li24, li48, li500, gF_sA, gA_sF, gF_sF, gR_sA, gR_sF, gL_sA, gL_sF, gA_sA, shl_t, or_t, and_t, sbit_t, ubit_t, b01_0, b01_1, Option.bind_some, ↓reduceIte, eq_self, ne_eq, not_true_eq_false, Bool.false_eq_true, not_false_eq_true, true_and, and_true, false_and, and_false, if_pos, if_neg, a2, q_sub, Nat.add_sub_cancel, k1', s9]
      exact d1
    | false =>
      let w1 : Mem := sF w0 1 10 f (nI (cQ cc).length)
      have h12 : Fr (fun k j i => k = 1 ∧ (j = 10 ∨ j = 11) ∧ i = f) (fun _ _ => False) w w1 := ⟨fun k j i h => by show gF (sF (sF _ _ _ _ _) _ _ _ _) _ _ _ = _; rw [gF_sF, if_neg (fun z => h ⟨z.1, Or.inl z.2.1, z.2.2⟩), gF_sF, if_neg (fun z => h ⟨z.1, Or.inr z.2.1, z.2.2⟩)], fun _ _ _ => rfl, fun _ _ => rfl, fun _ _ _ => rfl⟩
      have h11 : gF w1 1 11 f = nI A.length := by show gF (sF (sF _ _ _ _ _) _ _ _ _) _ _ _ = _; rw [gF_sF, if_neg (by omega), gF_sF, if_pos ⟨rfl, rfl, rfl⟩]
      have hS2 : SS w1 f (cL cc).length (cS cc) := by
        obtain ⟨d1, d2, d3⟩ := x4
        refine ⟨d1, (h12.1 _ _ _ (fun z => by omega)).trans d2, fun p i j hp => ?_⟩
        rw [h12.2.1 13 f (fun z => z), h12.2.1 14 f (fun z => z)]
        exact d3 p i j hp
      have hQ2 : DS w1 f (cL cc).length (cQ cc) := by
        obtain ⟨d1, d2, d3⟩ := x5
        refine ⟨hC.2.2.2.1.1, by show gF (sF _ _ _ _ _) _ _ _ = _; rw [gF_sF, if_pos ⟨rfl, rfl, rfl⟩], fun p i j hp => ?_⟩
        rw [h12.2.1 15 f (fun z => z), h12.2.1 16 f (fun z => z)]
        exact d3 p i j (get_pre hp)
      have hR2 : JR w1 f (cJ cc) := fun p x y z q hp => hR p x y z q hp
      obtain ⟨w3, d1, d2, d3⟩ := undo76_ok (c := cc) hN (x1.fr h12 (fun _ _ _ z => by omega) (fun _ _ z => z.elim)) hC.1 hS2 hQ2 (fun i hi => x6 i hi) hR2 hm h11 k2
      refine ⟨w3, ?_, d2, fin w1 w3 (h12.mono (fun _ _ _ z => by omega) (fun _ _ z => z.elim)) h11 d3⟩
      have k1' : gA w 17 f A.length = nI 1 := k1
      have s9 : gF w 1 10 f = nI ((cQ cc).length + 1) := by rw [x5.2.1]; show nI (cQ cc ++ [(a, b)]).length = _; rw [List.length_append]; rfl
      rw [f_X1_undoLatest]
      simp (disch := omega) only [↓lm1, ↓lm2, eq_n1, eq_n2, n1_eq, n2_eq, n1_n2, n2_n1, n1_lt, n2_lt, n1_le, lt_n1, lt_n2, inb_t, cl_t, le_tt, le_tf, lt_tt, lt_tf, eq_tt, eq_tf, q_add, q_mul, li0, li1, li2, li3, li4, li5, li6, li7, li8, li12, li16, li24, li48, li500, gF_sA, gA_sF, gF_sF, gR_sA, gR_sF, gL_sA, gL_sF, gA_sA, shl_t, or_t, and_t, sbit_t, ubit_t, b01_0, b01_1, Option.bind_some, ↓reduceIte, eq_self, ne_eq, not_true_eq_false, Bool.false_eq_true, not_false_eq_true, true_and, and_true, false_and, and_false, if_pos, if_neg, a2, q_sub, Nat.add_sub_cancel, k1', s9]
      exact d1

