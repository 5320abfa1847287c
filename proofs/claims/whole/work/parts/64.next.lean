/-! next: joins that there would be -/
def nxl (T : Trm) : Nat → (Nat → Nat) → List (Nat × Nat)
  | 0, _ => []
  | m + 1, d => match nxt T d with
    | none => []
    | some p => p :: nxl T m (un d p.1 p.2)
theorem nxl_none {T : Trm} {m : Nat} {d : Nat → Nat} (h : nxt T d = none) : nxl T m d = [] := by
  cases m with
  | zero => rfl
  | succ m => rw [nxl, h]
theorem nxl_some {T : Trm} {m : Nat} {d : Nat → Nat} {p : Nat × Nat} (h : nxt T d = some p) : nxl T (m + 1) d = p :: nxl T m (un d p.1 p.2) := by rw [nxl, h]
theorem nxI_none {T : Trm} {d : Nat → Nat} (h : nxt T d = none) : nxI T d = n1 := by
  have hfi := find_idx (toJoin T d) (prs T)
  unfold nxI
  cases hz : (prs T).findIdx? (toJoin T d) with
  | none => rfl
  | some z =>
    rw [hz] at hfi
    obtain ⟨x, h1, h2⟩ := hfi
    have h' : (prs T).find? (toJoin T d) = none := h
    rw [h'] at h2; cases h2
theorem nxI_some {T : Trm} {d : Nat → Nat} {p : Nat × Nat} (h : nxt T d = some p) : ∃ z, nxI T d = nI z ∧ (prs T)[z]? = some p := by
  have hfi := find_idx (toJoin T d) (prs T)
  unfold nxI
  cases hz : (prs T).findIdx? (toJoin T d) with
  | none =>
    rw [hz] at hfi
    have h' : (prs T).find? (toJoin T d) = some p := h
    rw [h'] at hfi; cases hfi
  | some z =>
    rw [hz] at hfi
    obtain ⟨x, h1, h2⟩ := hfi
    have h' : (prs T).find? (toJoin T d) = some p := h
    rw [h'] at h2
    obtain rfl := Option.some.inj h2
    exact ⟨z, rfl, h1⟩
/-- what next answers of a pair: what 0, 1, 2 -/
def nxA (o : Option (Nat × Nat)) (q : Nat) : Int32 := match o with
  | none => n2
  | some p => if q = 0 then nI p.1 else if q = 1 then nI p.2 else nI 0
theorem nextX {N f nf : Nat} {tk : Nat → Nat} {R A : List Row} {NL : List (List Nat)} {tp : List Nat} {wx : Mem} (hN : 276 < N) (h : RelX wx f nf tk R A NL tp) (i q : Nat) (hi : i < 2147483648) (hq : q < 3) : ∀ m fuel k w d, cntG (tN (cT tk R A)) d ≤ m → cntG (tN (cT tk R A)) d + k ≤ 24 → m < fuel → k ≤ i → KX wx w → GS w 0 (tN (cT tk R A)) d → ∃ w', lp_X8_next_130 (fun (w_23 : Mem) (u5_23 : Int32) => (f_X8_next_203 N w_23 (nI q) u5_23)) N (nI i) (nI q) fuel w (nxI (cT tk R A) d) (nI k) = some (xAns w' (nI 0), nxA ((nxl (cT tk R A) m d)[i - k]?) q) ∧ KX wx w' := by
  have fin : ∀ w d, KX wx w → ∃ w', f_X8_next_203 N w (nI q) (nxI (cT tk R A) d) = some (xAns w' (nI 0), nxA (nxt (cT tk R A) d) q) ∧ KX wx w' := by
    intro w d hw
    have hw' := h.kx hw
    have h5 := hw'.1.2.1
    have hf := hw'.1.1
    have xT := hw'.2.1.1.1
    refine ⟨w, ?_, hw⟩
    have hq' : q = 0 ∨ q = 1 ∨ q = 2 := by omega
    cases hn : nxt (cT tk R A) d with
    | none =>
      rw [nxI_none hn, f_X8_next_203]
      have l0 : (nI 0 ≤ n1) = False := eq_false (by decide)
      simp (disch := omega) only [↓lm1, ↓lm2, eq_n1, eq_n2, n1_eq, n2_eq, n1_n2, n2_n1, n1_lt, n2_lt, n1_le, lt_n1, lt_n2, inb_t, cl_t, le_tt, le_tf, lt_tt, lt_tf, eq_tt, eq_tf, q_add, q_mul, li0, li1, li2, li3, li4, li5, li6, li7, li8, li12, li16, li24, li48, li500, gF_sA, gA_sF, gF_sF, gR_sA, gR_sF, gL_sA, gL_sF, gA_sA, shl_t, or_t, and_t, sbit_t, ubit_t, b01_0, b01_1, Option.bind_some, ↓reduceIte, eq_self, ne_eq, not_true_eq_false, Bool.false_eq_true, not_false_eq_true, true_and, and_true, false_and, and_false, if_pos, if_neg, l0, answer_eq]
      rfl
    | some p =>
      obtain ⟨z, z1, z2⟩ := nxI_some hn
      obtain ⟨i1, i2⟩ := xT.2.2.2.2.2.2.2 z p.1 p.2 z2
      have z3 := (List.getElem?_eq_some_iff.mp z2).1
      have z4 : (prs (cT tk R A)).length ≤ 276 := xT.2.2.2.2.2.1
      rw [z1, f_X8_next_203]
      rcases hq' with rfl | rfl | rfl
      · simp (disch := omega) only [↓lm1, ↓lm2, eq_n1, eq_n2, n1_eq, n2_eq, n1_n2, n2_n1, n1_lt, n2_lt, n1_le, lt_n1, lt_n2, inb_t, cl_t, le_tt, le_tf, lt_tt, lt_tf, eq_tt, eq_tf, q_add, q_mul, li0, li1, li2, li3, li4, li5, li6, li7, li8, li12, li16, li24, li48, li500, gF_sA, gA_sF, gF_sF, gR_sA, gR_sF, gL_sA, gL_sF, gA_sA, shl_t, or_t, and_t, sbit_t, ubit_t, b01_0, b01_1, Option.bind_some, ↓reduceIte, eq_self, ne_eq, not_true_eq_false, Bool.false_eq_true, not_false_eq_true, true_and, and_true, false_and, and_false, if_pos, if_neg, h5, i1, answer_eq]; rfl
      · simp (disch := omega) only [↓lm1, ↓lm2, eq_n1, eq_n2, n1_eq, n2_eq, n1_n2, n2_n1, n1_lt, n2_lt, n1_le, lt_n1, lt_n2, inb_t, cl_t, le_tt, le_tf, lt_tt, lt_tf, eq_tt, eq_tf, q_add, q_mul, li0, li1, li2, li3, li4, li5, li6, li7, li8, li12, li16, li24, li48, li500, gF_sA, gA_sF, gF_sF, gR_sA, gR_sF, gL_sA, gL_sF, gA_sA, shl_t, or_t, and_t, sbit_t, ubit_t, b01_0, b01_1, Option.bind_some, ↓reduceIte, eq_self, ne_eq, not_true_eq_false, Bool.false_eq_true, not_false_eq_true, true_and, and_true, false_and, and_false, if_pos, if_neg, h5, i2, answer_eq]; rfl
      · simp (disch := omega) only [↓lm1, ↓lm2, eq_n1, eq_n2, n1_eq, n2_eq, n1_n2, n2_n1, n1_lt, n2_lt, n1_le, lt_n1, lt_n2, inb_t, cl_t, le_tt, le_tf, lt_tt, lt_tf, eq_tt, eq_tf, q_add, q_mul, li0, li1, li2, li3, li4, li5, li6, li7, li8, li12, li16, li24, li48, li500, gF_sA, gA_sF, gF_sF, gR_sA, gR_sF, gL_sA, gL_sF, gA_sA, shl_t, or_t, and_t, sbit_t, ubit_t, b01_0, b01_1, Option.bind_some, ↓reduceIte, eq_self, ne_eq, not_true_eq_false, Bool.false_eq_true, not_false_eq_true, true_and, and_true, false_and, and_false, if_pos, if_neg, answer_eq]; rfl
  intro m
  induction m with
  | zero =>
    intro fuel k w d hc hk hf hki hw hG
    obtain ⟨f', rfl⟩ : ∃ f, fuel = f + 1 := ⟨fuel - 1, by omega⟩
    have hn : nxt (cT tk R A) d = none := by
      cases hn : nxt (cT tk R A) d with
      | none => rfl
      | some p =>
        obtain ⟨a, b, c, e, g⟩ := nxt_some hn
        have := cnt_pos hG.2.1 (by omega)
        omega
    obtain ⟨w', a1, a2⟩ := fin w d hw
    rw [hn] at a1
    refine ⟨w', ?_, a2⟩
    rw [nxI_none hn] at a1 ⊢
    rw [lp_X8_next_130]
    by_cases e1 : i ≤ k
    · simp (disch := omega) only [↓lm1, ↓lm2, eq_n1, eq_n2, n1_eq, n2_eq, n1_n2, n2_n1, n1_lt, n2_lt, n1_le, lt_n1, lt_n2, inb_t, cl_t, le_tt, le_tf, lt_tt, lt_tf, eq_tt, eq_tf, q_add, q_mul, li0, li1, li2, li3, li4, li5, li6, li7, li8, li12, li16, li24, li48, li500, gF_sA, gA_sF, gF_sF, gR_sA, gR_sF, gL_sA, gL_sF, gA_sA, shl_t, or_t, and_t, sbit_t, ubit_t, b01_0, b01_1, Option.bind_some, ↓reduceIte, eq_self, ne_eq, not_true_eq_false, Bool.false_eq_true, not_false_eq_true, true_and, and_true, false_and, and_false, if_pos, if_neg]; exact a1
    · by_cases e2 : 24 ≤ k
      · simp (disch := omega) only [↓lm1, ↓lm2, eq_n1, eq_n2, n1_eq, n2_eq, n1_n2, n2_n1, n1_lt, n2_lt, n1_le, lt_n1, lt_n2, inb_t, cl_t, le_tt, le_tf, lt_tt, lt_tf, eq_tt, eq_tf, q_add, q_mul, li0, li1, li2, li3, li4, li5, li6, li7, li8, li12, li16, li24, li48, li500, gF_sA, gA_sF, gF_sF, gR_sA, gR_sF, gL_sA, gL_sF, gA_sA, shl_t, or_t, and_t, sbit_t, ubit_t, b01_0, b01_1, Option.bind_some, ↓reduceIte, eq_self, ne_eq, not_true_eq_false, Bool.false_eq_true, not_false_eq_true, true_and, and_true, false_and, and_false, if_pos, if_neg]; exact a1
      · simp (disch := omega) only [↓lm1, ↓lm2, eq_n1, eq_n2, n1_eq, n2_eq, n1_n2, n2_n1, n1_lt, n2_lt, n1_le, lt_n1, lt_n2, inb_t, cl_t, le_tt, le_tf, lt_tt, lt_tf, eq_tt, eq_tf, q_add, q_mul, li0, li1, li2, li3, li4, li5, li6, li7, li8, li12, li16, li24, li48, li500, gF_sA, gA_sF, gF_sF, gR_sA, gR_sF, gL_sA, gL_sF, gA_sA, shl_t, or_t, and_t, sbit_t, ubit_t, b01_0, b01_1, Option.bind_some, ↓reduceIte, eq_self, ne_eq, not_true_eq_false, Bool.false_eq_true, not_false_eq_true, true_and, and_true, false_and, and_false, if_pos, if_neg, lt0_n1]; exact a1
  | succ m ih =>
    intro fuel k w d hc hk hf hki hw hG
    obtain ⟨f', rfl⟩ : ∃ f, fuel = f + 1 := ⟨fuel - 1, by omega⟩
    obtain ⟨w', a1, a2⟩ := fin w d hw
    cases hn : nxt (cT tk R A) d with
    | none =>
      rw [hn] at a1
      refine ⟨w', ?_, a2⟩
      rw [nxl_none hn]
      rw [nxI_none hn] at a1 ⊢
      rw [lp_X8_next_130]
      by_cases e1 : i ≤ k
      · simp (disch := omega) only [↓lm1, ↓lm2, eq_n1, eq_n2, n1_eq, n2_eq, n1_n2, n2_n1, n1_lt, n2_lt, n1_le, lt_n1, lt_n2, inb_t, cl_t, le_tt, le_tf, lt_tt, lt_tf, eq_tt, eq_tf, q_add, q_mul, li0, li1, li2, li3, li4, li5, li6, li7, li8, li12, li16, li24, li48, li500, gF_sA, gA_sF, gF_sF, gR_sA, gR_sF, gL_sA, gL_sF, gA_sA, shl_t, or_t, and_t, sbit_t, ubit_t, b01_0, b01_1, Option.bind_some, ↓reduceIte, eq_self, ne_eq, not_true_eq_false, Bool.false_eq_true, not_false_eq_true, true_and, and_true, false_and, and_false, if_pos, if_neg]; exact a1
      · by_cases e2 : 24 ≤ k
        · simp (disch := omega) only [↓lm1, ↓lm2, eq_n1, eq_n2, n1_eq, n2_eq, n1_n2, n2_n1, n1_lt, n2_lt, n1_le, lt_n1, lt_n2, inb_t, cl_t, le_tt, le_tf, lt_tt, lt_tf, eq_tt, eq_tf, q_add, q_mul, li0, li1, li2, li3, li4, li5, li6, li7, li8, li12, li16, li24, li48, li500, gF_sA, gA_sF, gF_sF, gR_sA, gR_sF, gL_sA, gL_sF, gA_sA, shl_t, or_t, and_t, sbit_t, ubit_t, b01_0, b01_1, Option.bind_some, ↓reduceIte, eq_self, ne_eq, not_true_eq_false, Bool.false_eq_true, not_false_eq_true, true_and, and_true, false_and, and_false, if_pos, if_neg]; exact a1
        · simp (disch := omega) only [↓lm1, ↓lm2, eq_n1, eq_n2, n1_eq, n2_eq, n1_n2, n2_n1, n1_lt, n2_lt, n1_le, lt_n1, lt_n2, inb_t, cl_t, le_tt, le_tf, lt_tt, lt_tf, eq_tt, eq_tf, q_add, q_mul, li0, li1, li2, li3, li4, li5, li6, li7, li8, li12, li16, li24, li48, li500, gF_sA, gA_sF, gF_sF, gR_sA, gR_sF, gL_sA, gL_sF, gA_sA, shl_t, or_t, and_t, sbit_t, ubit_t, b01_0, b01_1, Option.bind_some, ↓reduceIte, eq_self, ne_eq, not_true_eq_false, Bool.false_eq_true, not_false_eq_true, true_and, and_true, false_and, and_false, if_pos, if_neg, lt0_n1]; exact a1
    | some p =>
      rw [hn] at a1
      rw [nxl_some hn]
      obtain ⟨a, b, c, e, g⟩ := nxt_some hn
      have ha : p.1 < tN (cT tk R A) := by omega
      have hcp := cnt_pos hG.2.1 (by omega)
      have hcn := cnt_un hG.2.1 ha b e
      by_cases e1 : i ≤ k
      · have ek : i - k = 0 := by omega
        refine ⟨w', ?_, a2⟩
        rw [ek, lp_X8_next_130]
        simp (disch := omega) only [↓lm1, ↓lm2, eq_n1, eq_n2, n1_eq, n2_eq, n1_n2, n2_n1, n1_lt, n2_lt, n1_le, lt_n1, lt_n2, inb_t, cl_t, le_tt, le_tf, lt_tt, lt_tf, eq_tt, eq_tf, q_add, q_mul, li0, li1, li2, li3, li4, li5, li6, li7, li8, li12, li16, li24, li48, li500, gF_sA, gA_sF, gF_sF, gR_sA, gR_sF, gL_sA, gL_sF, gA_sA, shl_t, or_t, and_t, sbit_t, ubit_t, b01_0, b01_1, Option.bind_some, ↓reduceIte, eq_self, ne_eq, not_true_eq_false, Bool.false_eq_true, not_false_eq_true, true_and, and_true, false_and, and_false, if_pos, if_neg]
        exact a1
      · have hw' := h.kx hw
        have h5 := hw'.1.2.1
        have hf2 := hw'.1.1
        have xT := hw'.2.1.1.1
        obtain ⟨z, z1, z2⟩ := nxI_some hn
        obtain ⟨i1, i2⟩ := xT.2.2.2.2.2.2.2 z p.1 p.2 z2
        have z3 := (List.getElem?_eq_some_iff.mp z2).1
        have z4 : (prs (cT tk R A)).length ≤ 276 := xT.2.2.2.2.2.1
        obtain ⟨w1, b1, b2, b3⟩ := unite_ok hG (N := N) (i := p.1) (j := p.2) (by have := hG.1; omega) ha b
        have hk1 : KX w w1 := b3.kx (fun k j i z => by omega) (fun k i z => by omega)
        have hw1 := h.kx (hw.tr hk1)
        have g5 := hw1.1.2.1
        have hnp := nextPair_ok (N := N) hw1.2.1.1.1 b2 hN
        have hnp' : f_X7_nextPair N w1 f 0 = some (nxI (cT tk R A) (un d p.1 p.2)) := hnp
        obtain ⟨w2, d1, d2⟩ := ih f' (k + 1) w1 (un d p.1 p.2) (by omega) (by omega) (by omega) (by omega) (hw.tr hk1) b2
        refine ⟨w2, ?_, d2⟩
        rw [show i - k = (i - (k + 1)) + 1 by omega, List.getElem?_cons_succ, ← d1, lp_X8_next_130, z1]
        simp (disch := omega) only [↓lm1, ↓lm2, eq_n1, eq_n2, n1_eq, n2_eq, n1_n2, n2_n1, n1_lt, n2_lt, n1_le, lt_n1, lt_n2, inb_t, cl_t, le_tt, le_tf, lt_tt, lt_tf, eq_tt, eq_tf, q_add, q_mul, li0, li1, li2, li3, li4, li5, li6, li7, li8, li12, li16, li24, li48, li500, gF_sA, gA_sF, gF_sF, gR_sA, gR_sF, gL_sA, gL_sF, gA_sA, shl_t, or_t, and_t, sbit_t, ubit_t, b01_0, b01_1, Option.bind_some, ↓reduceIte, eq_self, ne_eq, not_true_eq_false, Bool.false_eq_true, not_false_eq_true, true_and, and_true, false_and, and_false, if_pos, if_neg, h5, i1, i2, b1, g5, hnp']
/-- the model's row of joins that there would be -/
def NRow (w : Mem) (L : List (Nat × Nat)) : Prop := gF w 9 55 0 = nI L.length ∧ ∀ (p i j : Nat), L[p]? = some (i, j) → gA w 67 0 p = nI i ∧ gA w 68 0 p = nI j
abbrev FrN (w w' : Mem) : Prop := Fr (fun k j i => k = 9 ∧ j = 55 ∧ i = 0) (fun k i => (k = 59 ∨ k = 67 ∨ k = 68) ∧ i = 0) w w'
theorem nextJoin_ok {N a b : Nat} {w : Mem} {n : Nat} {d : Nat → Nat} {L : List (Nat × Nat)} (hN : 24 < N) (hR : RS w 59 n d) (hL : NRow w L) (hl : L.length < 24) (ha : a < n) (hb : b < n) : ∃ w', f_X9_nextJoin N w (nI a) (nI b) = some w' ∧ RS w' 59 n (un d a b) ∧ NRow w' (L ++ [(a, b)]) ∧ FrN w w' := by
  let w1 : Mem := sF (sA (sA w 67 0 L.length (nI a)) 68 0 L.length (nI b)) 9 55 0 (nI (L.length + 1))
  have hw1 : Fr (fun k j i => k = 9 ∧ j = 55 ∧ i = 0) (fun k i => (k = 67 ∨ k = 68) ∧ i = 0) w w1 :=
    ⟨fun k j i h => by show gF (sF _ _ _ _ _) _ _ _ = _; rw [gF_sF, if_neg h]; rfl, fun k i h => by show gA (sF _ _ _ _ _) _ _ = _; rw [gA_sF, gA_sA_ne (fun z => h ⟨Or.inr z.1, z.2⟩), gA_sA_ne (fun z => h ⟨Or.inl z.1, z.2⟩)], fun _ _ => rfl, fun _ _ _ => rfl⟩
  have hL1 : NRow w1 (L ++ [(a, b)]) := by
    refine ⟨by show gF (sF _ _ _ _ _) _ _ _ = _; rw [gF_sF, if_pos ⟨rfl, rfl, rfl⟩, List.length_append]; rfl, fun p i j hp => ?_⟩
    show gA (sF (sA (sA w 67 0 L.length (nI a)) 68 0 L.length (nI b)) 9 55 0 (nI (L.length + 1))) 67 0 p = _ ∧ gA (sF (sA (sA w 67 0 L.length (nI a)) 68 0 L.length (nI b)) 9 55 0 (nI (L.length + 1))) 68 0 p = _
    rcases get_snoc hp with ⟨g1, g2⟩ | ⟨g1, g2⟩
    · obtain ⟨k3, k4⟩ := hL.2 p i j g2
      refine ⟨k3 ▸ ?_, k4 ▸ ?_⟩ <;> simp (disch := omega) only [↓lm1, ↓lm2, eq_n1, eq_n2, n1_eq, n2_eq, n1_n2, n2_n1, n1_lt, n2_lt, n1_le, lt_n1, lt_n2, inb_t, cl_t, le_tt, le_tf, lt_tt, lt_tf, eq_tt, eq_tf, q_add, q_mul, li0, li1, li2, li3, li4, li5, li6, li7, li8, li12, li16, li24, li48, li500, gF_sA, gA_sF, gF_sF, gR_sA, gR_sF, gL_sA, gL_sF, gA_sA, shl_t, or_t, and_t, sbit_t, ubit_t, b01_0, b01_1, Option.bind_some, ↓reduceIte, eq_self, ne_eq, not_true_eq_false, Bool.false_eq_true, not_false_eq_true, true_and, and_true, false_and, and_false, if_pos, if_neg]
    · obtain ⟨rfl, rfl⟩ := Prod.mk.inj g2
      subst g1
      refine ⟨?_, ?_⟩ <;> simp (disch := omega) only [↓lm1, ↓lm2, eq_n1, eq_n2, n1_eq, n2_eq, n1_n2, n2_n1, n1_lt, n2_lt, n1_le, lt_n1, lt_n2, inb_t, cl_t, le_tt, le_tf, lt_tt, lt_tf, eq_tt, eq_tf, q_add, q_mul, li0, li1, li2, li3, li4, li5, li6, li7, li8, li12, li16, li24, li48, li500, gF_sA, gA_sF, gF_sF, gR_sA, gR_sF, gL_sA, gL_sF, gA_sA, shl_t, or_t, and_t, sbit_t, ubit_t, b01_0, b01_1, Option.bind_some, ↓reduceIte, eq_self, ne_eq, not_true_eq_false, Bool.false_eq_true, not_false_eq_true, true_and, and_true, false_and, and_false, if_pos, if_neg]
  have hR1 : RS w1 59 n d := ⟨hR.1, hR.2.1, (hw1.1 _ _ _ (fun z => by omega)).trans hR.2.2.1, fun i hi => by rw [hw1.2.1 59 0 (fun z => by omega)]; exact hR.2.2.2 i hi⟩
  obtain ⟨w2, a1, a2, a3⟩ := unites_ok (N := N) (a := a) (b := b) (k := 59) rfl hR1 hN ha hb
  have a3 : FrK 59 w1 w2 := a3
  refine ⟨w2, ?_, a2, ⟨(a3.F _ _ _).trans hL1.1, fun p i j hp => ?_⟩, (hw1.mono (fun _ _ _ z => z) (fun _ _ z => by omega)).tr (a3.mono (fun _ _ _ z => z.elim) (fun _ _ z => by omega))⟩
  · have a1' : f_X9_unites N (sF (sA (sA w 67 0 L.length (nI a)) 68 0 L.length (nI b)) 9 55 0 (nI (L.length + 1))) 59 (nI a) (nI b) = some w2 := a1
    rw [f_X9_nextJoin]
    simp (disch := omega) only [↓lm1, ↓lm2, eq_n1, eq_n2, n1_eq, n2_eq, n1_n2, n2_n1, n1_lt, n2_lt, n1_le, lt_n1, lt_n2, inb_t, cl_t, le_tt, le_tf, lt_tt, lt_tf, eq_tt, eq_tf, q_add, q_mul, li0, li1, li2, li3, li4, li5, li6, li7, li8, li12, li16, li24, li48, li500, gF_sA, gA_sF, gF_sF, gR_sA, gR_sF, gL_sA, gL_sF, gA_sA, shl_t, or_t, and_t, sbit_t, ubit_t, b01_0, b01_1, Option.bind_some, ↓reduceIte, eq_self, ne_eq, not_true_eq_false, Bool.false_eq_true, not_false_eq_true, true_and, and_true, false_and, and_false, if_pos, if_neg, hL.1, a1']
  · rw [a3.A (by omega), a3.A (by omega)]; exact hL1.2 p i j hp
theorem laysNext57 {N : Nat} {T : Trm} (hN : 276 < N) : ∀ m fuel w d L, cntG (tN T) d ≤ m → cntG (tN T) d + L.length ≤ 24 → m + 1 < fuel → MT w T → RS w 59 (tN T) d → NRow w L → ∃ w', lp_X9_laysNext_57 (fun (w_6 : Mem) => (f_X9_laysNext_69 N w_6)) N fuel w (nI 1) = some w' ∧ NRow w' (L ++ nxl T m d) ∧ FrN w w' := by
  intro m
  induction m with
  | zero =>
    intro fuel w d L hc hk hf hT hR hL
    obtain ⟨f', rfl⟩ : ∃ f, fuel = f + 2 := ⟨fuel - 2, by omega⟩
    have hn : nxt T d = none := by
      cases hn : nxt T d with
      | none => rfl
      | some p =>
        obtain ⟨a, b, c, e, g⟩ := nxt_some hn
        have := cnt_pos hR.2.1 (by omega)
        omega
    have hj := nextByParts_ok (N := N) (by omega) hT hR
    rw [hn] at hj
    refine ⟨w, ?_, by rw [nxl, List.append_nil]; exact hL, Fr.rf⟩
    rw [lp_X9_laysNext_57, hj]
    simp (disch := omega) only [↓lm1, ↓lm2, eq_n1, eq_n2, n1_eq, n2_eq, n1_n2, n2_n1, n1_lt, n2_lt, n1_le, lt_n1, lt_n2, inb_t, cl_t, le_tt, le_tf, lt_tt, lt_tf, eq_tt, eq_tf, q_add, q_mul, li0, li1, li2, li3, li4, li5, li6, li7, li8, li12, li16, li24, li48, li500, gF_sA, gA_sF, gF_sF, gR_sA, gR_sF, gL_sA, gL_sF, gA_sA, shl_t, or_t, and_t, sbit_t, ubit_t, b01_0, b01_1, Option.bind_some, ↓reduceIte, eq_self, ne_eq, not_true_eq_false, Bool.false_eq_true, not_false_eq_true, true_and, and_true, false_and, and_false, if_pos, if_neg]
    rw [lp_X9_laysNext_57]
    simp (disch := omega) only [↓lm1, ↓lm2, eq_n1, eq_n2, n1_eq, n2_eq, n1_n2, n2_n1, n1_lt, n2_lt, n1_le, lt_n1, lt_n2, inb_t, cl_t, le_tt, le_tf, lt_tt, lt_tf, eq_tt, eq_tf, q_add, q_mul, li0, li1, li2, li3, li4, li5, li6, li7, li8, li12, li16, li24, li48, li500, gF_sA, gA_sF, gF_sF, gR_sA, gR_sF, gL_sA, gL_sF, gA_sA, shl_t, or_t, and_t, sbit_t, ubit_t, b01_0, b01_1, Option.bind_some, ↓reduceIte, eq_self, ne_eq, not_true_eq_false, Bool.false_eq_true, not_false_eq_true, true_and, and_true, false_and, and_false, if_pos, if_neg]
    rfl
  | succ m ih =>
    intro fuel w d L hc hk hf hT hR hL
    obtain ⟨f', rfl⟩ : ∃ f, fuel = f + 2 := ⟨fuel - 2, by omega⟩
    have hj := nextByParts_ok (N := N) (by omega) hT hR
    cases hn : nxt T d with
    | none =>
      rw [hn] at hj
      refine ⟨w, ?_, by rw [nxl_none hn, List.append_nil]; exact hL, Fr.rf⟩
      rw [lp_X9_laysNext_57, hj]
      simp (disch := omega) only [↓lm1, ↓lm2, eq_n1, eq_n2, n1_eq, n2_eq, n1_n2, n2_n1, n1_lt, n2_lt, n1_le, lt_n1, lt_n2, inb_t, cl_t, le_tt, le_tf, lt_tt, lt_tf, eq_tt, eq_tf, q_add, q_mul, li0, li1, li2, li3, li4, li5, li6, li7, li8, li12, li16, li24, li48, li500, gF_sA, gA_sF, gF_sF, gR_sA, gR_sF, gL_sA, gL_sF, gA_sA, shl_t, or_t, and_t, sbit_t, ubit_t, b01_0, b01_1, Option.bind_some, ↓reduceIte, eq_self, ne_eq, not_true_eq_false, Bool.false_eq_true, not_false_eq_true, true_and, and_true, false_and, and_false, if_pos, if_neg]
      rw [lp_X9_laysNext_57]
      simp (disch := omega) only [↓lm1, ↓lm2, eq_n1, eq_n2, n1_eq, n2_eq, n1_n2, n2_n1, n1_lt, n2_lt, n1_le, lt_n1, lt_n2, inb_t, cl_t, le_tt, le_tf, lt_tt, lt_tf, eq_tt, eq_tf, q_add, q_mul, li0, li1, li2, li3, li4, li5, li6, li7, li8, li12, li16, li24, li48, li500, gF_sA, gA_sF, gF_sF, gR_sA, gR_sF, gL_sA, gL_sF, gA_sA, shl_t, or_t, and_t, sbit_t, ubit_t, b01_0, b01_1, Option.bind_some, ↓reduceIte, eq_self, ne_eq, not_true_eq_false, Bool.false_eq_true, not_false_eq_true, true_and, and_true, false_and, and_false, if_pos, if_neg]
      rfl
    | some p =>
      rw [hn] at hj
      obtain ⟨a, b, c, e, g⟩ := nxt_some hn
      have ha : p.1 < tN T := by omega
      have hcp := cnt_pos hR.2.1 (by omega)
      have hcn := cnt_un hR.2.1 ha b e
      obtain ⟨w1, a1, a2, a3, a4⟩ := nextJoin_ok (N := N) (by omega) hR hL (by omega) ha b
      obtain ⟨w2, b1, b2, b3⟩ := ih (f' + 1) w1 (un d p.1 p.2) (L ++ [(p.1, p.2)]) (by omega) (by rw [List.length_append]; show _ + (_ + 1) ≤ 24; omega) (by omega) (hT.fr a4 (fun _ _ _ z => by omega) (fun _ _ z => by omega)) a2 a3
      refine ⟨w2, ?_, by rw [nxl_some hn]; rw [List.append_assoc] at b2; exact b2, a4.tr b3⟩
      rw [lp_X9_laysNext_57, hj, ← b1]
      simp (disch := omega) only [↓lm1, ↓lm2, eq_n1, eq_n2, n1_eq, n2_eq, n1_n2, n2_n1, n1_lt, n2_lt, n1_le, lt_n1, lt_n2, inb_t, cl_t, le_tt, le_tf, lt_tt, lt_tf, eq_tt, eq_tf, q_add, q_mul, li0, li1, li2, li3, li4, li5, li6, li7, li8, li12, li16, li24, li48, li500, gF_sA, gA_sF, gF_sF, gR_sA, gR_sF, gL_sA, gL_sF, gA_sA, shl_t, or_t, and_t, sbit_t, ubit_t, b01_0, b01_1, Option.bind_some, ↓reduceIte, eq_self, ne_eq, not_true_eq_false, Bool.false_eq_true, not_false_eq_true, true_and, and_true, false_and, and_false, if_pos, if_neg, a1]
theorem laysNext_ok {N t u : Nat} {w : Mem} {T : Trm} {ld : Nat → Nat} (hN : 276 < N) (hT : MT w T) (hR : RS w 52 (tN T) ld) (ht : t < tN T) (hu : u < tN T) : ∃ w', f_X9_laysNext N w (nI t) (nI u) = some w' ∧ NRow w' (if ld t = ld u then [] else (t, u) :: nxl T 23 (un ld t u)) ∧ FrN w w' := by
  have hn := hT.1
  have key : ∀ r fuel q v, q + r = tN T → r < fuel → FrN w v → (∀ i, i < q → gA v 59 0 i = nI (ld i)) → ∃ w', lp_X9_laysNext_2 (fun (w_1 : Mem) => (f_X9_laysNext_28 N w_1 (nI t) (nI u))) N (nI t) (nI u) fuel v (nI q) = some w' ∧ NRow w' (if ld t = ld u then [] else (t, u) :: nxl T 23 (un ld t u)) ∧ FrN w w' := by
    intro r
    induction r with
    | zero =>
      intro fuel q v hq hf hv h59
      obtain ⟨f', rfl⟩ : ∃ f, fuel = f + 1 := ⟨fuel - 1, by omega⟩
      have h27 : gF v 9 27 0 = nI (tN T) := (hv.1 _ _ _ (fun z => by omega)).trans hT.2.2.1
      let v1 : Mem := sF v 9 55 0 (nI 0)
      have hv1 : FrN v v1 := ⟨fun k j i z => by show gF (sF _ _ _ _ _) _ _ _ = _; rw [gF_sF, if_neg z], fun _ _ _ => rfl, fun _ _ => rfl, fun _ _ _ => rfl⟩
      have hR1 : RS v1 59 (tN T) ld := ⟨hn, hR.2.1, (hv1.1 _ _ _ (fun z => by omega)).trans h27, fun i hi => h59 i (by omega)⟩
      have hL1 : NRow v1 [] := ⟨by show gF (sF _ _ _ _ _) _ _ _ = _; rw [gF_sF, if_pos ⟨rfl, rfl, rfl⟩]; rfl, fun p i j hp => by simp at hp⟩
      have c1 := (hR.2.1 t ht).1
      have c2 := (hR.2.1 u hu).1
      have e1 : gA v 59 0 t = nI (ld t) := h59 t (by omega)
      have e2 : gA v 59 0 u = nI (ld u) := h59 u (by omega)
      by_cases z : ld t = ld u
      · refine ⟨v1, ?_, by rw [if_pos z]; exact hL1, hv.tr hv1⟩
        rw [lp_X9_laysNext_2, f_X9_laysNext_28]
        simp (disch := omega) only [↓lm1, ↓lm2, eq_n1, eq_n2, n1_eq, n2_eq, n1_n2, n2_n1, n1_lt, n2_lt, n1_le, lt_n1, lt_n2, inb_t, cl_t, le_tt, le_tf, lt_tt, lt_tf, eq_tt, eq_tf, q_add, q_mul, li0, li1, li2, li3, li4, li5, li6, li7, li8, li12, li16, li24, li48, li500, gF_sA, gA_sF, gF_sF, gR_sA, gR_sF, gL_sA, gL_sF, gA_sA, shl_t, or_t, and_t, sbit_t, ubit_t, b01_0, b01_1, Option.bind_some, ↓reduceIte, eq_self, ne_eq, not_true_eq_false, Bool.false_eq_true, not_false_eq_true, true_and, and_true, false_and, and_false, if_pos, if_neg, h27, e1, e2]
        rfl
      · obtain ⟨v2, a1, a2, a3, a4⟩ := nextJoin_ok (N := N) (by omega) hR1 hL1 (by show 0 < 24; omega) ht hu
        have hcn := cnt_un hR.2.1 ht hu z
        have hcl := cnt_le (tN T) ld
        have hTv2 : MT v2 T := hT.fr ((hv.tr hv1).tr a4) (fun _ _ _ z => by omega) (fun _ _ z => by omega)
        obtain ⟨v3, b1, b2, b3⟩ := laysNext57 hN 23 N v2 (un ld t u) [(t, u)] (by omega) (by show _ + 1 ≤ 24; omega) (by omega) hTv2 a2 a3
        refine ⟨v3, ?_, by rw [if_neg z]; exact b2, ((hv.tr hv1).tr a4).tr b3⟩
        have a1' : f_X9_nextJoin N (sF v 9 55 0 (nI 0)) (nI t) (nI u) = some v2 := a1
        rw [lp_X9_laysNext_2, f_X9_laysNext_28]
        simp (disch := omega) only [↓lm1, ↓lm2, eq_n1, eq_n2, n1_eq, n2_eq, n1_n2, n2_n1, n1_lt, n2_lt, n1_le, lt_n1, lt_n2, inb_t, cl_t, le_tt, le_tf, lt_tt, lt_tf, eq_tt, eq_tf, q_add, q_mul, li0, li1, li2, li3, li4, li5, li6, li7, li8, li12, li16, li24, li48, li500, gF_sA, gA_sF, gF_sF, gR_sA, gR_sF, gL_sA, gL_sF, gA_sA, shl_t, or_t, and_t, sbit_t, ubit_t, b01_0, b01_1, Option.bind_some, ↓reduceIte, eq_self, ne_eq, not_true_eq_false, Bool.false_eq_true, not_false_eq_true, true_and, and_true, false_and, and_false, if_pos, if_neg, h27, e1, e2, a1']
        exact b1
    | succ r ih =>
      intro fuel q v hq hf hv h59
      obtain ⟨f', rfl⟩ : ∃ f, fuel = f + 1 := ⟨fuel - 1, by omega⟩
      have h27 : gF v 9 27 0 = nI (tN T) := (hv.1 _ _ _ (fun z => by omega)).trans hT.2.2.1
      have h52 : gA v 52 0 q = nI (ld q) := by rw [hv.2.1 52 0 (fun z => by omega)]; exact hR.2.2.2 q (by omega)
      have hs : FrK 59 v (sA v 59 0 q (nI (ld q))) := FrK.set
      obtain ⟨w', e1, e2, e3⟩ := ih f' (q + 1) (sA v 59 0 q (nI (ld q))) (by omega) (by omega) (hv.tr (hs.mono (fun _ _ _ z => z.elim) (fun _ _ z => by omega))) (fun i hi => by
        by_cases e : i = q
        · subst e; exact gA_sA_self
        · rw [gA_sA_at e]; exact h59 i (by omega))
      refine ⟨w', ?_, e2, e3⟩
      rw [lp_X9_laysNext_2, ← e1]
      simp (disch := omega) only [↓lm1, ↓lm2, eq_n1, eq_n2, n1_eq, n2_eq, n1_n2, n2_n1, n1_lt, n2_lt, n1_le, lt_n1, lt_n2, inb_t, cl_t, le_tt, le_tf, lt_tt, lt_tf, eq_tt, eq_tf, q_add, q_mul, li0, li1, li2, li3, li4, li5, li6, li7, li8, li12, li16, li24, li48, li500, gF_sA, gA_sF, gF_sF, gR_sA, gR_sF, gL_sA, gL_sF, gA_sA, shl_t, or_t, and_t, sbit_t, ubit_t, b01_0, b01_1, Option.bind_some, ↓reduceIte, eq_self, ne_eq, not_true_eq_false, Bool.false_eq_true, not_false_eq_true, true_and, and_true, false_and, and_false, if_pos, if_neg, h27, h52]
  rw [f_X9_laysNext]
  exact key (tN T) N 0 w (by omega) (by omega) Fr.rf (fun i hi => absurd hi (Nat.not_lt_zero i))
theorem nxl_len {T : Trm} : ∀ (m : Nat) (d : Nat → Nat), Can (tN T) d → (nxl T m d).length + 1 ≤ cntG (tN T) d + (if 0 < tN T then 0 else 1) ∨ nxl T m d = []
  | 0, d, _ => Or.inr rfl
  | m + 1, d, hC => by
    rw [nxl]
    cases hn : nxt T d with
    | none => exact Or.inr rfl
    | some p =>
      obtain ⟨a, b, c, e, g⟩ := nxt_some hn
      have ha : p.1 < tN T := by omega
      have hcn := cnt_un hC ha b e
      have hcp := cnt_pos (can_un hC ha b) (by omega)
      refine Or.inl ?_
      rw [if_pos (by omega)]
      show (nxl T m (un d p.1 p.2)).length + 1 + 1 ≤ _
      rcases nxl_len m (un d p.1 p.2) (can_un hC ha b) with h | h
      · rw [if_pos (by omega)] at h; omega
      · rw [h]; show 0 + 1 + 1 ≤ _; omega
set_option maxHeartbeats 8000000 in
theorem op_next {N f nf : Nat} {tk : Nat → Nat} {R A : List Row} {NL : List (List Nat)} {tp : List Nat} {wx wm : Mem} (hN : 276 < N) (h : RelC wx wm f nf tk R A NL tp) (x1 x2 x3 x4 : Int32) : Op (f_X8_next N wx x1 x2 x3 x4) (f_X9_next N wm x1 x2 x3 x4) := by
  have hCI := h.ci
  obtain ⟨⟨⟨hf, h5, h6⟩, ⟨⟨xT, xG, xF⟩, xS, xQ, xD⟩, xFN, xA, xNm, xTp, xCo⟩, hM, hPp, hfa⟩ := id h
  have hM0 := hM.km (mAns_km (cS (run tk c0 (R ++ A))).length wm (nI 0))
  obtain ⟨⟨⟨mT, mR, mN, mJ, mJR, mFR⟩, mS, mQ⟩, mFN, mRW, m8, m9, mNm, mTp⟩ := id hM0
  have hn : (cL (run tk c0 (R ++ A))).length ≤ 24 := xT.1
  have x10 : gF wx 7 10 f = nI (cL (run tk c0 (R ++ A))).length := xT.2.2.1
  have m27 : gF wm 9 27 0 = nI (cL (run tk c0 (R ++ A))).length := hM.1.1.1.2.2.1
  have iX := isTermX (N := N) (show (cL (run tk c0 (R ++ A))).length < 1000 by omega) hf h5 x10
  have iM := isTermM (N := N) (w := wm) (show (cL (run tk c0 (R ++ A))).length < 1000 by omega) m27
  have hi4 := in_ok2 (N := N) (w := wm) (n := 2) (by omega) x4
  rw [f_X8_next, f_X9_next, iX, iX, iM, iM]
  by_cases hT : isT (cL (run tk c0 (R ++ A))).length x1
  · by_cases hU : isT (cL (run tk c0 (R ++ A))).length x2
    · obtain ⟨t, ht, rfl⟩ := hT
      obtain ⟨u, hu, rfl⟩ := hU
      rw [b01_t (isT_nI ht), b01_t (isT_nI hu)]
      rcases i_cases x3 with hx | ⟨i, hi, rfl⟩
      · have hng : (x3 < nI 0) = True := eq_true hx
        simp (disch := omega) only [↓lm1, ↓lm2, eq_n1, eq_n2, n1_eq, n2_eq, n1_n2, n2_n1, n1_lt, n2_lt, n1_le, lt_n1, lt_n2, inb_t, cl_t, le_tt, le_tf, lt_tt, lt_tf, eq_tt, eq_tf, q_add, q_mul, li0, li1, li2, li3, li4, li5, li6, li7, li8, li12, li16, li24, li48, li500, gF_sA, gA_sF, gF_sF, gR_sA, gR_sF, gL_sA, gL_sF, gA_sA, shl_t, or_t, and_t, sbit_t, ubit_t, b01_0, b01_1, Option.bind_some, ↓reduceIte, eq_self, ne_eq, not_true_eq_false, Bool.false_eq_true, not_false_eq_true, true_and, and_true, false_and, and_false, if_pos, if_neg, hng, refuse_eq, f_X9_next_36_s2, unless_0, refused_1]
        exact op_ans0 h
      · rcases isT_cases 3 x4 (by omega) with ⟨q, hq, rfl⟩ | ⟨hx, hnt⟩ | ⟨q, hk1, hk2, rfl, hnt⟩
        · rw [b01_t (isT_nI hq)] at hi4
          have hq' : q = 0 ∨ q = 1 ∨ q = 2 := by omega
          obtain ⟨v, b1, b2, b3⟩ := laysNext_ok (N := N) hN mT mR ht hu
          have bk : KM (cS (run tk c0 (R ++ A))).length (mAns wm (nI 0)) v := b3.km _ (fun _ _ _ z => by omega) (fun _ _ z => by omega)
          have t1 : gF v 9 1 0 = nI 0 := (b3.1 _ _ _ (fun z => by omega)).trans (mAns_1 _ _)
          have t3 : gF v 9 3 0 = n1 := (b3.1 _ _ _ (fun z => by omega)).trans (mAns_3 _ _)
          have ho := one_ok xG N (i := t) (j := u) ht hu
          rw [b01_i] at ho
          by_cases z : ldJ (cJ (run tk c0 (R ++ A))) t = ldJ (cJ (run tk c0 (R ++ A))) u
          · rw [b01_t z] at ho
            rw [if_pos z] at b2
            have b55 : gF v 9 55 0 = nI 0 := b2.1
            simp (disch := omega) only [↓lm1, ↓lm2, eq_n1, eq_n2, n1_eq, n2_eq, n1_n2, n2_n1, n1_lt, n2_lt, n1_le, lt_n1, lt_n2, inb_t, cl_t, le_tt, le_tf, lt_tt, lt_tf, eq_tt, eq_tf, q_add, q_mul, li0, li1, li2, li3, li4, li5, li6, li7, li8, li12, li16, li24, li48, li500, gF_sA, gA_sF, gF_sF, gR_sA, gR_sF, gL_sA, gL_sF, gA_sA, shl_t, or_t, and_t, sbit_t, ubit_t, b01_0, b01_1, Option.bind_some, ↓reduceIte, eq_self, ne_eq, not_true_eq_false, Bool.false_eq_true, not_false_eq_true, true_and, and_true, false_and, and_false, if_pos, if_neg, hi4, h5, ho, answer_eq, f_X9_next_36_s2, unless_1, refused_0, b1, b55]
            exact op_ans h KX.rf bk t1 t3 rfl
          · rw [b01_f z] at ho
            rw [if_neg z] at b2
            have hnl := nxl_len (T := cT tk R A) 23 (un (ldJ (cJ (run tk c0 (R ++ A)))) t u) (can_un xG.2.1 ht hu)
            have hcn : cntG (tN (cT tk R A)) (un (ldJ (cJ (run tk c0 (R ++ A)))) t u) + 1 = cntG (tN (cT tk R A)) (ldJ (cJ (run tk c0 (R ++ A)))) := cnt_un xG.2.1 ht hu z
            have hcl := cnt_le (tN (cT tk R A)) (ldJ (cJ (run tk c0 (R ++ A))))
            have htn : 0 < tN (cT tk R A) := Nat.lt_of_le_of_lt (Nat.zero_le _) ht
            have hn' : tN (cT tk R A) ≤ 24 := hn
            have hlen : ((t, u) :: nxl (cT tk R A) 23 (un (ldJ (cJ (run tk c0 (R ++ A)))) t u)).length ≤ 24 := by
              show (nxl _ _ _).length + 1 ≤ 24
              rcases hnl with hh | hh
              · rw [if_pos htn] at hh; omega
              · rw [hh]; show 0 + 1 ≤ 24; omega
            have b55 : gF v 9 55 0 = nI ((t, u) :: nxl (cT tk R A) 23 (un (ldJ (cJ (run tk c0 (R ++ A)))) t u)).length := b2.1
            by_cases zi : i = 0
            · subst zi
              obtain ⟨c1, c2⟩ := b2.2 0 t u rfl
              have hpos : 0 < ((t, u) :: nxl (cT tk R A) 23 (un (ldJ (cJ (run tk c0 (R ++ A)))) t u)).length := Nat.succ_pos _
              generalize ((t, u) :: nxl (cT tk R A) 23 (un (ldJ (cJ (run tk c0 (R ++ A)))) t u)).length = LL at *
              rcases hq' with rfl | rfl | rfl
              · simp (disch := omega) only [↓lm1, ↓lm2, eq_n1, eq_n2, n1_eq, n2_eq, n1_n2, n2_n1, n1_lt, n2_lt, n1_le, lt_n1, lt_n2, inb_t, cl_t, le_tt, le_tf, lt_tt, lt_tf, eq_tt, eq_tf, q_add, q_mul, li0, li1, li2, li3, li4, li5, li6, li7, li8, li12, li16, li24, li48, li500, gF_sA, gA_sF, gF_sF, gR_sA, gR_sF, gL_sA, gL_sF, gA_sA, shl_t, or_t, and_t, sbit_t, ubit_t, b01_0, b01_1, Option.bind_some, ↓reduceIte, eq_self, ne_eq, not_true_eq_false, Bool.false_eq_true, not_false_eq_true, true_and, and_true, false_and, and_false, if_pos, if_neg, hi4, h5, ho, answer_eq, f_X9_next_36_s2, unless_1, refused_0, b1, b55, c1]
                exact op_ans h KX.rf bk t1 t3 rfl
              · simp (disch := omega) only [↓lm1, ↓lm2, eq_n1, eq_n2, n1_eq, n2_eq, n1_n2, n2_n1, n1_lt, n2_lt, n1_le, lt_n1, lt_n2, inb_t, cl_t, le_tt, le_tf, lt_tt, lt_tf, eq_tt, eq_tf, q_add, q_mul, li0, li1, li2, li3, li4, li5, li6, li7, li8, li12, li16, li24, li48, li500, gF_sA, gA_sF, gF_sF, gR_sA, gR_sF, gL_sA, gL_sF, gA_sA, shl_t, or_t, and_t, sbit_t, ubit_t, b01_0, b01_1, Option.bind_some, ↓reduceIte, eq_self, ne_eq, not_true_eq_false, Bool.false_eq_true, not_false_eq_true, true_and, and_true, false_and, and_false, if_pos, if_neg, hi4, h5, ho, answer_eq, f_X9_next_36_s2, unless_1, refused_0, b1, b55, c2]
                exact op_ans h KX.rf bk t1 t3 rfl
              · simp (disch := omega) only [↓lm1, ↓lm2, eq_n1, eq_n2, n1_eq, n2_eq, n1_n2, n2_n1, n1_lt, n2_lt, n1_le, lt_n1, lt_n2, inb_t, cl_t, le_tt, le_tf, lt_tt, lt_tf, eq_tt, eq_tf, q_add, q_mul, li0, li1, li2, li3, li4, li5, li6, li7, li8, li12, li16, li24, li48, li500, gF_sA, gA_sF, gF_sF, gR_sA, gR_sF, gL_sA, gL_sF, gA_sA, shl_t, or_t, and_t, sbit_t, ubit_t, b01_0, b01_1, Option.bind_some, ↓reduceIte, eq_self, ne_eq, not_true_eq_false, Bool.false_eq_true, not_false_eq_true, true_and, and_true, false_and, and_false, if_pos, if_neg, hi4, h5, ho, answer_eq, f_X9_next_36_s2, unless_1, refused_0, b1, b55]
                exact op_ans h KX.rf bk t1 t3 rfl
            · obtain ⟨w1, a1, a2, a3⟩ := copyFrom_ok xG N (g := 0) (by omega)
              have k1 : KX wx w1 := a3.kx (fun k j i z => by omega) (fun k i z => by omega)
              obtain ⟨w2, d1, d2, d3⟩ := unite_ok a2 (N := N) (i := t) (j := u) (by omega) ht hu
              have k2 : KX wx w2 := k1.tr (d3.kx (fun k j i z => by omega) (fun k i z => by omega))
              have hw2 := h.1.kx k2
              have g5 := hw2.1.2.1
              have hnp := nextPair_ok (N := N) hw2.2.1.1.1 d2 hN
              have hnp' : f_X7_nextPair N w2 f 0 = some (nxI (cT tk R A) (un (ldJ (cJ (run tk c0 (R ++ A)))) t u)) := hnp
              obtain ⟨w3, f1, f2⟩ := nextX hN h.1 i q hi hq 23 N 1 w2 (un (ldJ (cJ (run tk c0 (R ++ A)))) t u) (by omega) (by omega) (by omega) (by omega) k2 d2
              have hget : ((t, u) :: nxl (cT tk R A) 23 (un (ldJ (cJ (run tk c0 (R ++ A)))) t u))[i]? = (nxl (cT tk R A) 23 (un (ldJ (cJ (run tk c0 (R ++ A)))) t u))[i - 1]? := by
                obtain ⟨i', rfl⟩ : ∃ i', i = i' + 1 := ⟨i - 1, by omega⟩
                rw [List.getElem?_cons_succ, Nat.add_sub_cancel]
              have hX : f_X8_next N wx (nI t) (nI u) (nI i) (nI q) = some (xAns w3 (nI 0), nxA ((nxl (cT tk R A) 23 (un (ldJ (cJ (run tk c0 (R ++ A)))) t u))[i - 1]?) q) := by
                have iXt := iX (nI t)
                have iXu := iX (nI u)
                rw [b01_t (isT_nI ht)] at iXt
                rw [b01_t (isT_nI hu)] at iXu
                rw [f_X8_next, iXt, iXu]
                rcases hq' with rfl | rfl | rfl
                all_goals
                  simp (disch := omega) only [↓lm1, ↓lm2, eq_n1, eq_n2, n1_eq, n2_eq, n1_n2, n2_n1, n1_lt, n2_lt, n1_le, lt_n1, lt_n2, inb_t, cl_t, le_tt, le_tf, lt_tt, lt_tf, eq_tt, eq_tf, q_add, q_mul, li0, li1, li2, li3, li4, li5, li6, li7, li8, li12, li16, li24, li48, li500, gF_sA, gA_sF, gF_sF, gR_sA, gR_sF, gL_sA, gL_sF, gA_sA, shl_t, or_t, and_t, sbit_t, ubit_t, b01_0, b01_1, Option.bind_some, ↓reduceIte, eq_self, ne_eq, not_true_eq_false, Bool.false_eq_true, not_false_eq_true, true_and, and_true, false_and, and_false, if_pos, if_neg, h5, ho, a1, d1, g5, hnp']
                  exact f1
              have iXt := iX (nI t)
              have iXu := iX (nI u)
              rw [b01_t (isT_nI ht)] at iXt
              rw [b01_t (isT_nI hu)] at iXu
              rw [f_X8_next, iXt, iXu] at hX
              rw [hX]
              refine op_ans h f2 bk t1 t3 ?_
              by_cases zl : i < ((t, u) :: nxl (cT tk R A) 23 (un (ldJ (cJ (run tk c0 (R ++ A)))) t u)).length
              · obtain ⟨⟨a, b⟩, hp⟩ := get_at _ zl
                obtain ⟨c1, c2⟩ := b2.2 i a b hp
                rw [hget] at hp
                rw [hp]
                generalize ((t, u) :: nxl (cT tk R A) 23 (un (ldJ (cJ (run tk c0 (R ++ A)))) t u)).length = LL at *
                rcases hq' with rfl | rfl | rfl
                · simp (disch := omega) only [↓lm1, ↓lm2, eq_n1, eq_n2, n1_eq, n2_eq, n1_n2, n2_n1, n1_lt, n2_lt, n1_le, lt_n1, lt_n2, inb_t, cl_t, le_tt, le_tf, lt_tt, lt_tf, eq_tt, eq_tf, q_add, q_mul, li0, li1, li2, li3, li4, li5, li6, li7, li8, li12, li16, li24, li48, li500, gF_sA, gA_sF, gF_sF, gR_sA, gR_sF, gL_sA, gL_sF, gA_sA, shl_t, or_t, and_t, sbit_t, ubit_t, b01_0, b01_1, Option.bind_some, ↓reduceIte, eq_self, ne_eq, not_true_eq_false, Bool.false_eq_true, not_false_eq_true, true_and, and_true, false_and, and_false, if_pos, if_neg, hi4, f_X9_next_36_s2, unless_1, refused_0, b1, b55, c1]; rfl
                · simp (disch := omega) only [↓lm1, ↓lm2, eq_n1, eq_n2, n1_eq, n2_eq, n1_n2, n2_n1, n1_lt, n2_lt, n1_le, lt_n1, lt_n2, inb_t, cl_t, le_tt, le_tf, lt_tt, lt_tf, eq_tt, eq_tf, q_add, q_mul, li0, li1, li2, li3, li4, li5, li6, li7, li8, li12, li16, li24, li48, li500, gF_sA, gA_sF, gF_sF, gR_sA, gR_sF, gL_sA, gL_sF, gA_sA, shl_t, or_t, and_t, sbit_t, ubit_t, b01_0, b01_1, Option.bind_some, ↓reduceIte, eq_self, ne_eq, not_true_eq_false, Bool.false_eq_true, not_false_eq_true, true_and, and_true, false_and, and_false, if_pos, if_neg, hi4, f_X9_next_36_s2, unless_1, refused_0, b1, b55, c2]; rfl
                · simp (disch := omega) only [↓lm1, ↓lm2, eq_n1, eq_n2, n1_eq, n2_eq, n1_n2, n2_n1, n1_lt, n2_lt, n1_le, lt_n1, lt_n2, inb_t, cl_t, le_tt, le_tf, lt_tt, lt_tf, eq_tt, eq_tf, q_add, q_mul, li0, li1, li2, li3, li4, li5, li6, li7, li8, li12, li16, li24, li48, li500, gF_sA, gA_sF, gF_sF, gR_sA, gR_sF, gL_sA, gL_sF, gA_sA, shl_t, or_t, and_t, sbit_t, ubit_t, b01_0, b01_1, Option.bind_some, ↓reduceIte, eq_self, ne_eq, not_true_eq_false, Bool.false_eq_true, not_false_eq_true, true_and, and_true, false_and, and_false, if_pos, if_neg, hi4, f_X9_next_36_s2, unless_1, refused_0, b1, b55]; rfl
              · have hp : (nxl (cT tk R A) 23 (un (ldJ (cJ (run tk c0 (R ++ A)))) t u))[i - 1]? = none := by
                  rw [← hget]; exact List.getElem?_eq_none (by omega)
                rw [hp]
                generalize ((t, u) :: nxl (cT tk R A) 23 (un (ldJ (cJ (run tk c0 (R ++ A)))) t u)).length = LL at *
                simp (disch := omega) only [↓lm1, ↓lm2, eq_n1, eq_n2, n1_eq, n2_eq, n1_n2, n2_n1, n1_lt, n2_lt, n1_le, lt_n1, lt_n2, inb_t, cl_t, le_tt, le_tf, lt_tt, lt_tf, eq_tt, eq_tf, q_add, q_mul, li0, li1, li2, li3, li4, li5, li6, li7, li8, li12, li16, li24, li48, li500, gF_sA, gA_sF, gF_sF, gR_sA, gR_sF, gL_sA, gL_sF, gA_sA, shl_t, or_t, and_t, sbit_t, ubit_t, b01_0, b01_1, Option.bind_some, ↓reduceIte, eq_self, ne_eq, not_true_eq_false, Bool.false_eq_true, not_false_eq_true, true_and, and_true, false_and, and_false, if_pos, if_neg, hi4, f_X9_next_36_s2, unless_1, refused_0, b1, b55]; rfl
        · have hng : (x4 < nI 0) = True := eq_true hx
          rw [b01_f hnt] at hi4
          simp (disch := omega) only [↓lm1, ↓lm2, eq_n1, eq_n2, n1_eq, n2_eq, n1_n2, n2_n1, n1_lt, n2_lt, n1_le, lt_n1, lt_n2, inb_t, cl_t, le_tt, le_tf, lt_tt, lt_tf, eq_tt, eq_tf, q_add, q_mul, li0, li1, li2, li3, li4, li5, li6, li7, li8, li12, li16, li24, li48, li500, gF_sA, gA_sF, gF_sF, gR_sA, gR_sF, gL_sA, gL_sF, gA_sA, shl_t, or_t, and_t, sbit_t, ubit_t, b01_0, b01_1, Option.bind_some, ↓reduceIte, eq_self, ne_eq, not_true_eq_false, Bool.false_eq_true, not_false_eq_true, true_and, and_true, false_and, and_false, if_pos, if_neg, hi4, hng, refuse_eq, f_X9_next_36_s2, unless_0, refused_1]
          exact op_ans0 h
        · rw [b01_f hnt] at hi4
          simp (disch := omega) only [↓lm1, ↓lm2, eq_n1, eq_n2, n1_eq, n2_eq, n1_n2, n2_n1, n1_lt, n2_lt, n1_le, lt_n1, lt_n2, inb_t, cl_t, le_tt, le_tf, lt_tt, lt_tf, eq_tt, eq_tf, q_add, q_mul, li0, li1, li2, li3, li4, li5, li6, li7, li8, li12, li16, li24, li48, li500, gF_sA, gA_sF, gF_sF, gR_sA, gR_sF, gL_sA, gL_sF, gA_sA, shl_t, or_t, and_t, sbit_t, ubit_t, b01_0, b01_1, Option.bind_some, ↓reduceIte, eq_self, ne_eq, not_true_eq_false, Bool.false_eq_true, not_false_eq_true, true_and, and_true, false_and, and_false, if_pos, if_neg, hi4, refuse_eq, f_X9_next_36_s2, unless_0, refused_1]
          exact op_ans0 h
    · rw [b01_t hT, b01_f hU]
      simp (disch := omega) only [↓lm1, ↓lm2, eq_n1, eq_n2, n1_eq, n2_eq, n1_n2, n2_n1, n1_lt, n2_lt, n1_le, lt_n1, lt_n2, inb_t, cl_t, le_tt, le_tf, lt_tt, lt_tf, eq_tt, eq_tf, q_add, q_mul, li0, li1, li2, li3, li4, li5, li6, li7, li8, li12, li16, li24, li48, li500, gF_sA, gA_sF, gF_sF, gR_sA, gR_sF, gL_sA, gL_sF, gA_sA, shl_t, or_t, and_t, sbit_t, ubit_t, b01_0, b01_1, Option.bind_some, ↓reduceIte, eq_self, ne_eq, not_true_eq_false, Bool.false_eq_true, not_false_eq_true, true_and, and_true, false_and, and_false, if_pos, if_neg, refuse_eq, f_X9_next_36_s2, unless_0, refused_1]
      exact op_ans0 h
  · rw [b01_f hT]
    simp (disch := omega) only [↓lm1, ↓lm2, eq_n1, eq_n2, n1_eq, n2_eq, n1_n2, n2_n1, n1_lt, n2_lt, n1_le, lt_n1, lt_n2, inb_t, cl_t, le_tt, le_tf, lt_tt, lt_tf, eq_tt, eq_tf, q_add, q_mul, li0, li1, li2, li3, li4, li5, li6, li7, li8, li12, li16, li24, li48, li500, gF_sA, gA_sF, gF_sF, gR_sA, gR_sF, gL_sA, gL_sF, gA_sA, shl_t, or_t, and_t, sbit_t, ubit_t, b01_0, b01_1, Option.bind_some, ↓reduceIte, eq_self, ne_eq, not_true_eq_false, Bool.false_eq_true, not_false_eq_true, true_and, and_true, false_and, and_false, if_pos, if_neg, refuse_eq, f_X9_next_36_s2, unless_0, refused_1]
    exact op_ans0 h
