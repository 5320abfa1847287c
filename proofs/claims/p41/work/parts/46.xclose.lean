/-! the class: joins in order -/
theorem partsOf_ok {N f t : Nat} {w : Mem} {T : Trm} (h : TS w f T) (ht : t < tN T) : f_X7_partsOf N w f (nI t) = some (nI (tA T (tF T t))) := by
  obtain ⟨u1, u2, u3, u4⟩ := h.2.2.2.1 t ht
  have t1 := h.1
  rw [f_X7_partsOf]
  simp (disch := omega) only [↓lm1, ↓lm2, eq_n1, eq_n2, n1_eq, n2_eq, n1_n2, n2_n1, n1_lt, n2_lt, n1_le, lt_n1, lt_n2, inb_t, cl_t, le_tt, le_tf, lt_tt, lt_tf, eq_tt, eq_tf, q_add, q_mul, li0, li1, li2, li3, li4, li5, li6, li7, li8, li12, li16, li24, li48, li500, gF_sA, gA_sF, gF_sF, gR_sA, gR_sF, gL_sA, gL_sF, gA_sA, shl_t, or_t, and_t, sbit_t, ubit_t, b01_0, b01_1, Option.bind_some, ↓reduceIte, eq_self, ne_eq, not_true_eq_false, Bool.false_eq_true, not_false_eq_true, true_and, and_true, false_and, and_false, if_pos, if_neg, u3, u4]
theorem partAt_ok {N f t k : Nat} {w : Mem} {T : Trm} (h : TS w f T) (ht : t < tN T) (hk : k < tA T (tF T t)) : f_X7_partAt N w f (nI t) (nI k) = some (nI (tP T t k)) := by
  obtain ⟨u1, u2, u3, u4⟩ := h.2.2.2.1 t ht
  have t1 := h.1
  have h5 := h.2.2.2.2.1 t k ht hk
  rw [f_X7_partAt]
  simp (disch := omega) only [↓lm1, ↓lm2, eq_n1, eq_n2, n1_eq, n2_eq, n1_n2, n2_n1, n1_lt, n2_lt, n1_le, lt_n1, lt_n2, inb_t, cl_t, le_tt, le_tf, lt_tt, lt_tf, eq_tt, eq_tf, q_add, q_mul, li0, li1, li2, li3, li4, li5, li6, li7, li8, li12, li16, li24, li48, li500, gF_sA, gA_sF, gF_sF, gR_sA, gR_sF, gL_sA, gL_sF, gA_sA, shl_t, or_t, and_t, sbit_t, ubit_t, b01_0, b01_1, Option.bind_some, ↓reduceIte, eq_self, ne_eq, not_true_eq_false, Bool.false_eq_true, not_false_eq_true, true_and, and_true, false_and, and_false, if_pos, if_neg, h5]
/-- reasons for the first q parts of a pair -/
def prR (T : Trm) (J : List Jn) (i j : Nat) : Nat → Nat
  | 0 => 0
  | q + 1 => prR T J i j q ||| rsn (frJ J) (bitsJ J) (tP T i q) (tP T j q)
theorem prR_lt {n : Nat} {T : Trm} {J : List Jn} (hJ : JOK n J) (i j : Nat) : ∀ q, prR T J i j q < 4096
  | 0 => by rw [prR]; omega
  | q + 1 => Nat.or_lt_two_pow (n := 12) (prR_lt hJ i j q) (rsn_lt hJ _ _)
/-- what holds of joins in order -/
def PC (T : Trm) (J : List Jn) : Prop := TOK T ∧ tN T ≤ 24 ∧ JOK (tN T) J ∧ Can (tN T) (ldJ J) ∧ FW (frJ J) (tN T) (ldJ J) J.length ∧ cntG (tN T) (ldJ J) + J.length = tN T
theorem cnt_pos {n : Nat} {ld : Nat → Nat} (h : Can n ld) (hn : 0 < n) : 1 ≤ cntG n ld := by
  induction n with
  | zero => omega
  | succ n ih =>
    rw [cntG]
    by_cases e : n = 0
    · subst e
      have := (h 0 (by omega)).1
      rw [if_pos (by omega)]; omega
    · have := ih (fun i hi => h i (by omega)) (by omega)
      omega
theorem PC.join {T : Trm} {J : List Jn} (h : PC T J) {a b r : Nat} {c : Option Nat} (ha : a < tN T) (hb : b < tN T) (hab : ldJ J a ≠ ldJ J b) (hr : r < 4096) (hc : ∀ k, c = some k → k < 12) : PC T (J ++ [(a, b, c, r)]) := by
  obtain ⟨h1, h2, h3, h4, h5, h6⟩ := h
  have hcn := cnt_un h4 ha hb hab
  have hp := cnt_pos (can_un h4 ha hb) (by omega)
  refine ⟨h1, h2, ⟨?_, fun p x y z q hp => ?_⟩, ?_, ?_, ?_⟩
  · rw [List.length_append]; show J.length + 1 ≤ 23; omega
  · rcases get_snoc hp with ⟨g1, g2⟩ | ⟨g1, g2⟩
    · exact h3.2 p x y z q g2
    · obtain ⟨rfl, rfl, rfl, rfl⟩ : x = a ∧ y = b ∧ z = c ∧ q = r := by simpa using g2
      exact ⟨ha, hb, hr, hc⟩
  · rw [ldJ_snoc]; exact can_un h4 ha hb
  · rw [ldJ_snoc, frJ_snoc, List.length_append]; exact h5.hang h2 ha hb hab
  · rw [ldJ_snoc, List.length_append]; show _ + (J.length + 1) = _; omega
theorem lp_partReasons {N f i j : Nat} {w : Mem} {T : Trm} {J : List Jn} (hN : 25 < N) (hT : TS w f T) (hF : FS w f (tN T) J) (hP : PC T J) (hi : i < tN T) (hj : j < tN T) (hij : tF T i = tF T j) (he : eqParts T (ldJ J) i j = true) : f_X1_partReasons N w f (nI i) (nI j) = some (nI (prR T J i j (tA T (tF T i)))) := by
  obtain ⟨p1, p2, p3, p4, p5, p6⟩ := hP
  have t4 := (hT.2.2.2.1 i hi).2.1
  obtain ⟨a, e1, e2⟩ := lpc (tA T (tF T i)) (fun fu a q => lp_X1_partReasons_5 (fun (u3_1 : Int32) => (f_X1_partReasons_54 N w f u3_1 )) N w f (nI i) (nI j) fu a q) (fun a => some a) (fun q a => a = nI (prR T J i j q)) (fun fu a ha => by
    show lp_X1_partReasons_5 _ N w f (nI i) (nI j) (fu + 1) a (nI _) = some a
    rw [lp_X1_partReasons_5]
    simp (disch := omega) only [↓lm1, ↓lm2, eq_n1, eq_n2, n1_eq, n2_eq, n1_n2, n2_n1, n1_lt, n2_lt, n1_le, lt_n1, lt_n2, inb_t, cl_t, le_tt, le_tf, lt_tt, lt_tf, eq_tt, eq_tf, q_add, q_mul, li0, li1, li2, li3, li4, li5, li6, li7, li8, li12, li16, li24, li48, li500, gF_sA, gA_sF, gF_sF, gR_sA, gR_sF, gL_sA, gL_sF, gA_sA, shl_t, or_t, and_t, sbit_t, ubit_t, b01_0, b01_1, Option.bind_some, ↓reduceIte, eq_self, ne_eq, not_true_eq_false, Bool.false_eq_true, not_false_eq_true, true_and, and_true, false_and, and_false, if_pos, if_neg, partsOf_ok hT hi]
    rfl) (fun fu q a hq ha => by
    subst ha
    refine ⟨_, rfl, ?_⟩
    have k1 := p1 i hi q hq
    have k2 := p1 j hj q (by rw [← hij]; exact hq)
    show lp_X1_partReasons_5 _ N w f (nI i) (nI j) (fu + 1) _ (nI q) = lp_X1_partReasons_5 _ N w f (nI i) (nI j) fu _ (nI (q + 1))
    rw [lp_X1_partReasons_5, prR, partsOf_ok hT hi, partAt_ok hT hi hq, partAt_ok hT hj (by rw [← hij]; exact hq)]
    simp (disch := omega) only [↓lm1, ↓lm2, eq_n1, eq_n2, n1_eq, n2_eq, n1_n2, n2_n1, n1_lt, n2_lt, n1_le, lt_n1, lt_n2, inb_t, cl_t, le_tt, le_tf, lt_tt, lt_tf, eq_tt, eq_tf, q_add, q_mul, li0, li1, li2, li3, li4, li5, li6, li7, li8, li12, li16, li24, li48, li500, gF_sA, gA_sF, gF_sF, gR_sA, gR_sF, gL_sA, gL_sF, gA_sA, shl_t, or_t, and_t, sbit_t, ubit_t, b01_0, b01_1, Option.bind_some, ↓reduceIte, eq_self, ne_eq, not_true_eq_false, Bool.false_eq_true, not_false_eq_true, true_and, and_true, false_and, and_false, if_pos, if_neg, reasons_ok hN hF p5 p3 (show tP T i q < tN T by omega) (show tP T j q < tN T by omega) (eqParts_iff.mp he q hq), fa_or]) 0 N (nI 0) (by omega) (by omega) rfl
  rw [f_X1_partReasons]
  subst e1
  exact e2
/-- the first pair that is to be joined -/
def nxt (T : Trm) (ld : Nat → Nat) : Option (Nat × Nat) := (prs T).find? (toJoin T ld)
theorem find_idx {α : Type} (p : α → Bool) : ∀ (L : List α), match L.findIdx? p with
    | some z => ∃ x, L[z]? = some x ∧ L.find? p = some x
    | none => L.find? p = none
  | [] => rfl
  | x :: L => by
    rw [List.findIdx?_cons]
    by_cases h : p x = true
    · rw [if_pos h]
      exact ⟨x, rfl, by rw [List.find?_cons_of_pos h]⟩
    · rw [if_neg h]
      have ih := find_idx p L
      cases hz : L.findIdx? p with
      | none => rw [hz] at ih; show (x :: L).find? p = none; rw [List.find?_cons_of_neg h]; exact ih
      | some z =>
        rw [hz] at ih
        obtain ⟨y, h1, h2⟩ := ih
        exact ⟨y, h1, by rw [List.find?_cons_of_neg h]; exact h2⟩
/-- joins in order, m at most -/
def clJ : Nat → Trm → List Jn → List Jn
  | 0, _, J => J
  | m + 1, T, J => match nxt T (ldJ J) with
    | none => J
    | some p => clJ m T (J ++ [(p.1, p.2, none, prR T J p.1 p.2 (tA T (tF T p.1)))])
theorem nxt_some {T : Trm} {ld : Nat → Nat} {p : Nat × Nat} (h : nxt T ld = some p) : p.1 < p.2 ∧ p.2 < tN T ∧ tF T p.1 = tF T p.2 ∧ ld p.1 ≠ ld p.2 ∧ eqParts T ld p.1 p.2 = true := by
  have h1 := List.mem_of_find?_eq_some h
  have h2 := List.find?_some h
  obtain ⟨a, b, c⟩ := prs_mem.mp (show (p.1, p.2) ∈ prs T from h1)
  unfold toJoin at h2
  rw [Bool.and_eq_true, decide_eq_true_eq] at h2
  exact ⟨a, b, c, h2.1, h2.2⟩
theorem PC.next {T : Trm} {J : List Jn} (h : PC T J) {p : Nat × Nat} (hp : nxt T (ldJ J) = some p) : PC T (J ++ [(p.1, p.2, none, prR T J p.1 p.2 (tA T (tF T p.1)))]) := by
  obtain ⟨a, b, c, d, e⟩ := nxt_some hp
  exact h.join (by omega) b d (prR_lt h.2.2.1 _ _ _) (fun k hk => by cases hk)
theorem PC.cl {T : Trm} : ∀ (m : Nat) {J : List Jn}, PC T J → PC T (clJ m T J)
  | 0, _, h => h
  | m + 1, J, h => by
    rw [clJ]
    cases hn : nxt T (ldJ J) with
    | none => exact h
    | some p => exact PC.cl m (h.next hn)
/-- all joins made: no pair is left -/
theorem nxt_none {T : Trm} {ld : Nat → Nat} (h : nxt T ld = none) : Clo T ld := by
  apply clo_of
  intro p hp he
  have := List.find?_eq_none.mp h p hp
  apply Classical.byContradiction
  intro z
  exact this (by unfold toJoin; rw [he, decide_eq_true z]; rfl)
theorem clJ_none {T : Trm} : ∀ (m : Nat) {J : List Jn}, PC T J → cntG (tN T) (ldJ J) ≤ m → nxt T (ldJ (clJ m T J)) = none
  | 0, J, h, hm => by
    show nxt T (ldJ J) = none
    cases hn : nxt T (ldJ J) with
    | none => rfl
    | some p =>
      obtain ⟨a, b, c, d, e⟩ := nxt_some hn
      have := cnt_pos h.2.2.2.1 (by omega)
      omega
  | m + 1, J, h, hm => by
    rw [clJ]
    cases hn : nxt T (ldJ J) with
    | none => exact hn
    | some p =>
      obtain ⟨a, b, c, d, e⟩ := nxt_some hn
      have hcn := cnt_un h.2.2.2.1 (show p.1 < tN T by omega) b d
      exact clJ_none m (h.next hn) (by rw [ldJ_snoc]; omega)
theorem clJ_mcl {T : Trm} (hT : TOK T) : ∀ (m : Nat) {J : List Jn}, MCl T (ldJ J) (ldJ (clJ m T J))
  | 0, _ => MCl.rf
  | m + 1, J => by
    rw [clJ]
    cases hn : nxt T (ldJ J) with
    | none => exact MCl.rf
    | some p =>
      obtain ⟨a, b, c, d, e⟩ := nxt_some hn
      refine MCl.tr ?_ (clJ_mcl hT m)
      rw [ldJ_snoc]
      exact MCl.un (by omega) b c hT e
theorem clJ_pre {T : Trm} : ∀ (m : Nat) (J : List Jn), ∃ L, clJ m T J = J ++ L
  | 0, J => ⟨[], by rw [clJ, List.append_nil]⟩
  | m + 1, J => by
    rw [clJ]
    cases nxt T (ldJ J) with
    | none => exact ⟨[], by rw [List.append_nil]⟩
    | some p =>
      obtain ⟨L, hL⟩ := clJ_pre (T := T) m (J ++ [(p.1, p.2, none, prR T J p.1 p.2 (tA T (tF T p.1)))])
      exact ⟨_ :: L, by show clJ m T _ = _; rw [hL, List.append_assoc]; rfl⟩
/-- the class's facts f hold terms, joins -/
def XC (w : Mem) (f : Nat) (T : Trm) (J : List Jn) : Prop := TS w f T ∧ GS w (2 + f) (tN T) (ldJ J) ∧ FS w f (tN T) J
abbrev FrC (f : Nat) (w w' : Mem) : Prop := Fr (fun k _ i => (k = 2 ∧ i = f) ∨ (k = 3 ∧ i = 2 + f)) (fun k i => ((19 ≤ k ∧ k ≤ 24) ∧ i = f) ∨ (k = 25 ∧ i = 2 + f)) w w'
theorem xjoin_ok {N f a b r : Nat} {w : Mem} {T : Trm} {J : List Jn} {c : Option Nat} (hN : 25 < N) (h : XC w f T J) (hP : PC T J) (ha : a < tN T) (hb : b < tN T) (hab : ldJ J a ≠ ldJ J b) : ∃ w1 w', f_X2_addJoin N w f (nI a) (nI b) (cI c) (nI r) = some w1 ∧ f_X3_unite N w1 (2 + f) (nI a) (nI b) = some w' ∧ XC w' f T (J ++ [(a, b, c, r)]) ∧ FrC f w w' := by
  obtain ⟨h1, h2, h3⟩ := h
  obtain ⟨p1, p2, p3, p4, p5, p6⟩ := hP
  obtain ⟨w1, a1, a2, a3⟩ := addJoin_ok (c := c) (r := r) hN h3 p3 p5.fb ha hb (by have := p3.1; omega)
  have g1 : GS w1 (2 + f) (tN T) (ldJ J) := h2.of (a3.1 _ _ _ (fun z => by omega)) (a3.1 _ _ _ (fun z => by omega)) (a3.2.1 _ _ (fun z => by omega))
  obtain ⟨w2, b1, b2, b3⟩ := unite_ok g1 (N := N) (by omega) ha hb
  refine ⟨w1, w2, a1, b1, ⟨?_, by rw [ldJ_snoc]; exact b2, a2.fr b3 (fun _ _ _ z => by omega) (fun _ _ z => by omega)⟩, ?_⟩
  · exact (h1.fr a3 (fun _ _ _ z => by omega) (fun _ _ z => by omega)).fr b3 (fun _ _ _ z => by omega) (fun _ _ z => by omega)
  · exact (a3.mono (fun _ _ _ z => Or.inl z) (fun _ _ z => Or.inl z)).tr (b3.mono (fun _ _ _ z => Or.inr z) (fun _ _ z => Or.inr z))
/-- what nextPair tells -/
def nxI (T : Trm) (ld : Nat → Nat) : Int32 := match (prs T).findIdx? (toJoin T ld) with | some z => nI z | none => n1
theorem lp_cio (k : Mem → Option Mem) {N f : Nat} {T : Trm} (hN : 276 < N) : ∀ (m fuel : Nat) (w : Mem) (J : List Jn) (s : Nat), s + m = 24 → m < fuel → XC w f T J → PC T J → ∃ w', lp_X1_closeInOrder_14 k N f fuel w (nxI T (ldJ J)) (nI s) = k w' ∧ XC w' f T (clJ m T J) ∧ FrC f w w' := by
  intro m
  induction m with
  | zero =>
    intro fuel w J s hs hf hX hP
    obtain ⟨f', rfl⟩ : ∃ f, fuel = f + 1 := ⟨fuel - 1, by omega⟩
    refine ⟨w, ?_, hX, Fr.rf⟩
    rw [lp_X1_closeInOrder_14]
    simp (disch := omega) only [↓lm1, ↓lm2, eq_n1, eq_n2, n1_eq, n2_eq, n1_n2, n2_n1, n1_lt, n2_lt, n1_le, lt_n1, lt_n2, inb_t, cl_t, le_tt, le_tf, lt_tt, lt_tf, eq_tt, eq_tf, q_add, q_mul, li0, li1, li2, li3, li4, li5, li6, li7, li8, li12, li16, li24, li48, li500, gF_sA, gA_sF, gF_sF, gR_sA, gR_sF, gL_sA, gL_sF, gA_sA, shl_t, or_t, and_t, sbit_t, ubit_t, b01_0, b01_1, Option.bind_some, ↓reduceIte, eq_self, ne_eq, not_true_eq_false, Bool.false_eq_true, not_false_eq_true, true_and, and_true, false_and, and_false, if_pos, if_neg]
  | succ m ih =>
    intro fuel w J s hs hf hX hP
    obtain ⟨f', rfl⟩ : ∃ f, fuel = f + 1 := ⟨fuel - 1, by omega⟩
    have hfi := find_idx (toJoin T (ldJ J)) (prs T)
    cases hz : (prs T).findIdx? (toJoin T (ldJ J)) with
    | none =>
      rw [hz] at hfi
      have hn : nxt T (ldJ J) = none := hfi
      refine ⟨w, ?_, by rw [clJ, hn]; exact hX, Fr.rf⟩
      have e : nxI T (ldJ J) = n1 := by unfold nxI; rw [hz]
      rw [lp_X1_closeInOrder_14, e]
      simp (disch := omega) only [↓lm1, ↓lm2, eq_n1, eq_n2, n1_eq, n2_eq, n1_n2, n2_n1, n1_lt, n2_lt, n1_le, lt_n1, lt_n2, inb_t, cl_t, le_tt, le_tf, lt_tt, lt_tf, eq_tt, eq_tf, q_add, q_mul, li0, li1, li2, li3, li4, li5, li6, li7, li8, li12, li16, li24, li48, li500, gF_sA, gA_sF, gF_sF, gR_sA, gR_sF, gL_sA, gL_sF, gA_sA, shl_t, or_t, and_t, sbit_t, ubit_t, b01_0, b01_1, Option.bind_some, ↓reduceIte, eq_self, ne_eq, not_true_eq_false, Bool.false_eq_true, not_false_eq_true, true_and, and_true, false_and, and_false, if_pos, if_neg, lt0_n1]
    | some z =>
      rw [hz] at hfi
      obtain ⟨⟨i, j⟩, q1, q2⟩ := hfi
      have hn : nxt T (ldJ J) = some (i, j) := q2
      obtain ⟨a, b, c, d, e⟩ := nxt_some hn
      obtain ⟨l1, l2⟩ := hX.1.2.2.2.2.2.2.2 z i j q1
      have l3 := (List.getElem?_eq_some_iff.mp q1).1
      have l4 := hX.1.2.2.2.2.2.1
      have hi : i < tN T := Nat.lt_trans a b
      have hpr := lp_partReasons (i := i) (j := j) (N := N) (by omega) hX.1 hX.2.2 hP hi b c e
      obtain ⟨w1, w2, x1, x2, x3, x4⟩ := xjoin_ok (a := i) (b := j) (r := prR T J i j (tA T (tF T i))) (c := none) (N := N) (by omega) hX hP hi b d
      obtain ⟨w3, y1, y2, y3⟩ := ih f' w2 _ (s + 1) (by omega) (by omega) x3 (hP.next hn)
      have hnp := nextPair_ok (N := N) x3.1 x3.2.1 hN
      refine ⟨w3, ?_, by rw [clJ, hn]; exact y2, x4.tr y3⟩
      have e : nxI T (ldJ J) = nI z := by unfold nxI; rw [hz]
      have x1' : f_X2_addJoin N w f (nI i) (nI j) n1 (nI (prR T J i j (tA T (tF T i)))) = some w1 := x1
      rw [lp_X1_closeInOrder_14, e, ← y1]
      simp (disch := omega) only [↓lm1, ↓lm2, eq_n1, eq_n2, n1_eq, n2_eq, n1_n2, n2_n1, n1_lt, n2_lt, n1_le, lt_n1, lt_n2, inb_t, cl_t, le_tt, le_tf, lt_tt, lt_tf, eq_tt, eq_tf, q_add, q_mul, li0, li1, li2, li3, li4, li5, li6, li7, li8, li12, li16, li24, li48, li500, gF_sA, gA_sF, gF_sF, gR_sA, gR_sF, gL_sA, gL_sF, gA_sA, shl_t, or_t, and_t, sbit_t, ubit_t, b01_0, b01_1, Option.bind_some, ↓reduceIte, eq_self, ne_eq, not_true_eq_false, Bool.false_eq_true, not_false_eq_true, true_and, and_true, false_and, and_false, if_pos, if_neg, l1, l2, hpr, x1', x2, hnp]
      rfl
theorem cio_ok {N f : Nat} {w : Mem} {T : Trm} {J : List Jn} (hN : 276 < N) (h : XC w f T J) (hP : PC T J) : ∃ w', f_X1_closeInOrder N w f = some w' ∧ XC w' f T (clJ 24 T J) ∧ FrC f w w' := by
  have hnp := nextPair_ok (N := N) h.1 h.2.1 hN
  obtain ⟨w1, a1, a2, a3⟩ := lp_cio (fun w_3 => f_X1_closeInOrder_91 N w_3 f) (N := N) (f := f) hN 24 N w J 0 (by omega) (by omega) h hP
  refine ⟨w1, ?_, a2, a3⟩
  rw [f_X1_closeInOrder, hnp, Option.bind_some]
  exact a1

