/-! acts: join, part, make, undo -/
theorem cL_mono (tk : Nat → Nat) : ∀ (rs : List Row) (c : Core), (cL c).length ≤ (cL (run tk c rs)).length
  | [], _ => Nat.le_refl _
  | r :: rs, c => by
    have ih := cL_mono tk rs (stp tk c r)
    refine Nat.le_trans ?_ ih
    cases r with
    | inl x => show (cL c).length ≤ (cL c ++ [x]).length; rw [List.length_append]; omega
    | inr y =>
      obtain ⟨bb, a, b⟩ := y
      cases bb <;> exact Nat.le_refl _
theorem RelX.act {wx w1 w2 w3 : Mem} {f nf : Nat} {tk : Nat → Nat} {R A : List Row} {NL : List (List Nat)} {tp : List Nat} (h : RelX wx f nf tk R A NL tp) (r : Row) (n1' : Fr (fun k j i => k = 1 ∧ j = 11 ∧ i = f) (fun k i => (k = 17 ∨ k = 18) ∧ i = f) wx w1) (hA : ∀ v, FrX f w1 v → AS v f tk (run tk c0 R) (A ++ [r])) (h2 : FrX f w1 w2) (hK : XK w2 f tk (run tk c0 (R ++ (A ++ [r])))) (hnm : ∀ t, t < (cL (run tk c0 (R ++ (A ++ [r])))).length → gA w2 34 f t = nI (wn (NL.getD t []))) (h3 : Fr (fun k j i => k = 0 ∧ j = 4 ∧ i = 0) (fun _ _ => False) w2 w3) (hc : gF w3 0 4 0 = nI 0 ∨ (gF w3 0 4 0 = nI 1 ∧ CO w3 tk (run tk c0 (R ++ (A ++ [r]))))) : RelX w3 f nf tk R (A ++ [r]) NL tp := by
  obtain ⟨⟨a1, a2, a3⟩, -, a5, a6, a7, a8, -⟩ := h
  have hR : ∀ k j i, gR w3 k j i = gR wx k j i := fun k j i => (h3.2.2.2 k j i).trans ((h2.2.2.2 k j i).trans (n1'.2.2.2 k j i))
  have hAs := hA w2 h2
  refine ⟨⟨a1, (hR _ _ _).trans a2, (hR _ _ _).trans a3⟩, hK.fr h3 (fun _ _ _ z => by omega) (fun _ _ z => z.elim), ⟨a5.1, ?_, fun g hg => ?_⟩, ⟨hAs.1, (h3.1 _ _ _ (fun z => by omega)).trans hAs.2.1, fun p r hp => ?_⟩, fun t ht => ?_, ⟨?_, fun i hi => ?_⟩, hc⟩
  · exact (h3.1 _ _ _ (fun z => by omega)).trans ((h2.1 _ _ _ (fun z => by omega)).trans ((n1'.1 _ _ _ (fun z => by omega)).trans a5.2.1))
  · rw [h3.2.1 31 f (fun z => z), h2.2.1 31 f (fun z => by omega), n1'.2.1 31 f (fun z => by omega)]; exact a5.2.2 g hg
  · rw [h3.2.1 17 f (fun z => z), h3.2.1 18 f (fun z => z)]; exact hAs.2.2 p r hp
  · rw [h3.2.1 34 f (fun z => z)]; exact hnm t ht
  · exact (h3.1 _ _ _ (fun z => by omega)).trans ((h2.1 _ _ _ (fun z => by omega)).trans ((n1'.1 _ _ _ (fun z => by omega)).trans a8.1))
  · rw [h3.2.1 30 0 (fun z => z), h2.2.1 30 0 (fun z => by omega), n1'.2.1 30 0 (fun z => by omega)]; exact a8.2 i hi
theorem okRs_at {tk : Nat → Nat} {nf : Nat} {rs : List Row} {c : Core} {p : Nat} {r : Row} (h : okRs tk nf c rs) (hp : rs[p]? = some r) : okR tk nf (run tk c (rs.take p)) r := by
  rw [← List.take_append_drop p rs, drop_at hp] at h
  exact (okRs_app.mp h).2.1
/-- the model's words for a row -/
def actD (its a b c d : Int32) : Row → Prop
  | .inl (fn, ps) => its = nI 0 ∧ a = nI fn ∧ ps.length ≤ 3 ∧ ∀ k, k < ps.length → ar3 b c d k = nI (ps.getD k 0)
  | .inr (true, x, y) => its = nI 1 ∧ a = nI x ∧ b = nI y
  | .inr (false, x, y) => its = nI 2 ∧ a = nI x ∧ b = nI y
theorem acts_ok {N nf : Nat} {w : Mem} {tk : Nat → Nat} {R A : List Row} {NL : List (List Nat)} {tp : List Nat} (hN : 276 < N) (h : RelM w nf tk R A NL tp) (hC : CI tk nf (run tk c0 (R ++ A))) (hoks : okRs tk nf c0 (R ++ A)) (r : Row) (hr : okR tk nf (run tk c0 (R ++ A)) r) (its a b c d : Int32) (hd : actD its a b c d r) : ∃ w', f_X9_acts N w its a b c d = some w' ∧ RelM w' nf tk R (A ++ [r]) NL tp ∧ ∀ j, j = 1 ∨ j = 2 ∨ j = 3 → gF w' 9 j 0 = gF w 9 j 0 := by
  obtain ⟨h1, h2, h3, h4, h5, h6, h7, h8⟩ := h
  have hl : (R ++ A).length < 48 := by
    have e := run_len tk (R ++ A) c0
    have q1 := hC.1.2.1
    have q2 := hC.2.2.1.1
    have q3 := hC.2.2.2.1.1
    rw [tN_mk] at q1
    have e0 : (cL c0).length + (cS c0).length + (cQ c0).length = 0 := rfl
    omega
  let L := (R ++ A).length
  let w1 : Mem := sA (sA (sA (sA (sA w 42 0 (R ++ A).length its) 43 0 (4 * (R ++ A).length) a) 43 0 (4 * (R ++ A).length + 1) b) 43 0 (4 * (R ++ A).length + 2) c) 43 0 (4 * (R ++ A).length + 3) d
  have hw1 : Fr (fun _ _ _ => False) (fun k i => (k = 42 ∨ k = 43) ∧ i = 0) w w1 := ⟨fun _ _ _ _ => rfl, fun k i z => by
    show gA (sA (sA (sA (sA (sA w 42 0 (R ++ A).length its) 43 0 (4 * (R ++ A).length) a) 43 0 (4 * (R ++ A).length + 1) b) 43 0 (4 * (R ++ A).length + 2) c) 43 0 (4 * (R ++ A).length + 3) d) k i = _
    rw [gA_sA_ne (fun y => z ⟨by omega, y.2⟩), gA_sA_ne (fun y => z ⟨by omega, y.2⟩), gA_sA_ne (fun y => z ⟨by omega, y.2⟩), gA_sA_ne (fun y => z ⟨by omega, y.2⟩), gA_sA_ne (fun y => z ⟨by omega, y.2⟩)], fun _ _ => rfl, fun _ _ _ => rfl⟩
  have e42 : ∀ p, gA w1 42 0 p = if p = (R ++ A).length then its else gA w 42 0 p := by
    intro p
    show gA (sA (sA (sA (sA (sA w 42 0 (R ++ A).length its) 43 0 (4 * (R ++ A).length) a) 43 0 (4 * (R ++ A).length + 1) b) 43 0 (4 * (R ++ A).length + 2) c) 43 0 (4 * (R ++ A).length + 3) d) 42 0 p = _
    by_cases e : p = (R ++ A).length
    · rw [if_pos e]; simp (disch := omega) only [↓lm1, ↓lm2, eq_n1, eq_n2, n1_eq, n2_eq, n1_n2, n2_n1, n1_lt, n2_lt, n1_le, lt_n1, lt_n2, inb_t, cl_t, le_tt, le_tf, lt_tt, lt_tf, eq_tt, eq_tf, q_add, q_mul, li0, li1, li2, li3, li4, li5, li6, li7, li8, li12, li16, li24, li48, li500, gF_sA, gA_sF, gF_sF, gR_sA, gR_sF, gL_sA, gL_sF, gA_sA, shl_t, or_t, and_t, sbit_t, ubit_t, b01_0, b01_1, Option.bind_some, ↓reduceIte, eq_self, ne_eq, not_true_eq_false, Bool.false_eq_true, not_false_eq_true, true_and, and_true, false_and, and_false, if_pos, if_neg]
    · rw [if_neg e]; simp (disch := omega) only [↓lm1, ↓lm2, eq_n1, eq_n2, n1_eq, n2_eq, n1_n2, n2_n1, n1_lt, n2_lt, n1_le, lt_n1, lt_n2, inb_t, cl_t, le_tt, le_tf, lt_tt, lt_tf, eq_tt, eq_tf, q_add, q_mul, li0, li1, li2, li3, li4, li5, li6, li7, li8, li12, li16, li24, li48, li500, gF_sA, gA_sF, gF_sF, gR_sA, gR_sF, gL_sA, gL_sF, gA_sA, shl_t, or_t, and_t, sbit_t, ubit_t, b01_0, b01_1, Option.bind_some, ↓reduceIte, eq_self, ne_eq, not_true_eq_false, Bool.false_eq_true, not_false_eq_true, true_and, and_true, false_and, and_false, if_pos, if_neg]
  have e43 : ∀ p, p < 4 * (R ++ A).length → gA w1 43 0 p = gA w 43 0 p := by
    intro p hp
    show gA (sA (sA (sA (sA (sA w 42 0 (R ++ A).length its) 43 0 (4 * (R ++ A).length) a) 43 0 (4 * (R ++ A).length + 1) b) 43 0 (4 * (R ++ A).length + 2) c) 43 0 (4 * (R ++ A).length + 3) d) 43 0 p = _
    simp (disch := omega) only [↓lm1, ↓lm2, eq_n1, eq_n2, n1_eq, n2_eq, n1_n2, n2_n1, n1_lt, n2_lt, n1_le, lt_n1, lt_n2, inb_t, cl_t, le_tt, le_tf, lt_tt, lt_tf, eq_tt, eq_tf, q_add, q_mul, li0, li1, li2, li3, li4, li5, li6, li7, li8, li12, li16, li24, li48, li500, gF_sA, gA_sF, gF_sF, gR_sA, gR_sF, gL_sA, gL_sF, gA_sA, shl_t, or_t, and_t, sbit_t, ubit_t, b01_0, b01_1, Option.bind_some, ↓reduceIte, eq_self, ne_eq, not_true_eq_false, Bool.false_eq_true, not_false_eq_true, true_and, and_true, false_and, and_false, if_pos, if_neg]
  have e43a : gA w1 43 0 (4 * (R ++ A).length) = a := by
    show gA (sA (sA (sA (sA (sA w 42 0 (R ++ A).length its) 43 0 (4 * (R ++ A).length) a) 43 0 (4 * (R ++ A).length + 1) b) 43 0 (4 * (R ++ A).length + 2) c) 43 0 (4 * (R ++ A).length + 3) d) 43 0 _ = _
    simp (disch := omega) only [↓lm1, ↓lm2, eq_n1, eq_n2, n1_eq, n2_eq, n1_n2, n2_n1, n1_lt, n2_lt, n1_le, lt_n1, lt_n2, inb_t, cl_t, le_tt, le_tf, lt_tt, lt_tf, eq_tt, eq_tf, q_add, q_mul, li0, li1, li2, li3, li4, li5, li6, li7, li8, li12, li16, li24, li48, li500, gF_sA, gA_sF, gF_sF, gR_sA, gR_sF, gL_sA, gL_sF, gA_sA, shl_t, or_t, and_t, sbit_t, ubit_t, b01_0, b01_1, Option.bind_some, ↓reduceIte, eq_self, ne_eq, not_true_eq_false, Bool.false_eq_true, not_false_eq_true, true_and, and_true, false_and, and_false, if_pos, if_neg]
  have e43b : ∀ k, k < 3 → gA w1 43 0 (4 * (R ++ A).length + 1 + k) = ar3 b c d k := by
    intro k hk
    show gA (sA (sA (sA (sA (sA w 42 0 (R ++ A).length its) 43 0 (4 * (R ++ A).length) a) 43 0 (4 * (R ++ A).length + 1) b) 43 0 (4 * (R ++ A).length + 2) c) 43 0 (4 * (R ++ A).length + 3) d) 43 0 _ = _
    have : k = 0 ∨ k = 1 ∨ k = 2 := by omega
    rcases this with rfl | rfl | rfl
    · simp (disch := omega) only [↓lm1, ↓lm2, eq_n1, eq_n2, n1_eq, n2_eq, n1_n2, n2_n1, n1_lt, n2_lt, n1_le, lt_n1, lt_n2, inb_t, cl_t, le_tt, le_tf, lt_tt, lt_tf, eq_tt, eq_tf, q_add, q_mul, li0, li1, li2, li3, li4, li5, li6, li7, li8, li12, li16, li24, li48, li500, gF_sA, gA_sF, gF_sF, gR_sA, gR_sF, gL_sA, gL_sF, gA_sA, shl_t, or_t, and_t, sbit_t, ubit_t, b01_0, b01_1, Option.bind_some, ↓reduceIte, eq_self, ne_eq, not_true_eq_false, Bool.false_eq_true, not_false_eq_true, true_and, and_true, false_and, and_false, if_pos, if_neg]; rfl
    · simp (disch := omega) only [↓lm1, ↓lm2, eq_n1, eq_n2, n1_eq, n2_eq, n1_n2, n2_n1, n1_lt, n2_lt, n1_le, lt_n1, lt_n2, inb_t, cl_t, le_tt, le_tf, lt_tt, lt_tf, eq_tt, eq_tf, q_add, q_mul, li0, li1, li2, li3, li4, li5, li6, li7, li8, li12, li16, li24, li48, li500, gF_sA, gA_sF, gF_sF, gR_sA, gR_sF, gL_sA, gL_sF, gA_sA, shl_t, or_t, and_t, sbit_t, ubit_t, b01_0, b01_1, Option.bind_some, ↓reduceIte, eq_self, ne_eq, not_true_eq_false, Bool.false_eq_true, not_false_eq_true, true_and, and_true, false_and, and_false, if_pos, if_neg]; rfl
    · simp (disch := omega) only [↓lm1, ↓lm2, eq_n1, eq_n2, n1_eq, n2_eq, n1_n2, n2_n1, n1_lt, n2_lt, n1_le, lt_n1, lt_n2, inb_t, cl_t, le_tt, le_tf, lt_tt, lt_tf, eq_tt, eq_tf, q_add, q_mul, li0, li1, li2, li3, li4, li5, li6, li7, li8, li12, li16, li24, li48, li500, gF_sA, gA_sF, gF_sF, gR_sA, gR_sF, gL_sA, gL_sF, gA_sA, shl_t, or_t, and_t, sbit_t, ubit_t, b01_0, b01_1, Option.bind_some, ↓reduceIte, eq_self, ne_eq, not_true_eq_false, Bool.false_eq_true, not_false_eq_true, true_and, and_true, false_and, and_false, if_pos, if_neg]; rfl
  have hrow1 : RW1 w1 (R ++ A).length r := by
    cases r with
    | inl x =>
      obtain ⟨fn, ps⟩ := x
      obtain ⟨d1, d2, d3, d4⟩ := hd
      exact ⟨by rw [e42, if_pos rfl, d1], by rw [e43a, d2], fun k hk => by rw [e43b k (by omega)]; exact d4 k hk⟩
    | inr y =>
      obtain ⟨bb, x, y⟩ := y
      cases bb with
      | true =>
        obtain ⟨d1, d2, d3⟩ := hd
        exact ⟨by rw [e42, if_pos rfl, d1], by rw [e43a, d2], by rw [show 4 * (R ++ A).length + 1 = 4 * (R ++ A).length + 1 + 0 from rfl, e43b 0 (by omega), ← d3]; rfl⟩
      | false =>
        obtain ⟨d1, d2, d3⟩ := hd
        exact ⟨by rw [e42, if_pos rfl, d1], by rw [e43a, d2], by rw [show 4 * (R ++ A).length + 1 = 4 * (R ++ A).length + 1 + 0 from rfl, e43b 0 (by omega), ← d3]; rfl⟩
  have hold : ∀ p x, (R ++ A)[p]? = some x → RW1 w1 p x := by
    intro p x hp
    have hpl := (List.getElem?_eq_some_iff.mp hp).1
    have this := h3 p x hp
    rw [Nat.zero_add] at this
    have p42 : gA w1 42 0 p = gA w 42 0 p := by rw [e42, if_neg (by omega)]
    have p43 : ∀ k, k < 4 → gA w1 43 0 (4 * p + k) = gA w 43 0 (4 * p + k) := fun k hk => e43 _ (by omega)
    have p430 : gA w1 43 0 (4 * p) = gA w 43 0 (4 * p) := p43 0 (by omega)
    cases x with
    | inl x =>
      obtain ⟨fn, ps⟩ := x
      obtain ⟨d1, d2, d3⟩ := this
      have hps : ps.length ≤ 3 := by
        have hok := okRs_at hoks hp
        have := hC.2.2.2.2.2.2.2 fn hok.1
        rw [hok.2.1]; exact this
      exact ⟨by rw [p42]; exact d1, by rw [p430]; exact d2, fun k hk => by rw [Nat.add_assoc, p43 (1 + k) (by omega), ← Nat.add_assoc]; exact d3 k hk⟩
    | inr y =>
      obtain ⟨bb, x, y⟩ := y
      cases bb with
      | true =>
        obtain ⟨d1, d2, d3⟩ := this
        exact ⟨by rw [p42]; exact d1, by rw [p430]; exact d2, by rw [p43 1 (by omega)]; exact d3⟩
      | false =>
        obtain ⟨d1, d2, d3⟩ := this
        exact ⟨by rw [p42]; exact d1, by rw [p430]; exact d2, by rw [p43 1 (by omega)]; exact d3⟩
  have hK1 : MK w1 tk (run tk c0 (R ++ A)) := ⟨h1.1.fr hw1 (fun _ _ _ z => z.elim) (fun _ _ z => by omega), h1.2.1.fr hw1 (fun _ _ _ z => z.elim) (fun _ _ z => by omega), h1.2.2.fr hw1 (fun _ _ _ z => z.elim) (fun _ _ z => by omega)⟩
  have hF1 : MFN w1 nf tk := ⟨h2.1, h2.2.1, fun g hg => by rw [hw1.2.1 41 0 (fun z => by omega)]; exact h2.2.2 g hg⟩
  obtain ⟨w2, a1, a2, a3⟩ := comes_ok hN hK1 hF1 hC hr (by omega) hrow1
  have h8' : gF w2 9 8 0 = nI (R ++ A).length := (a3.1 _ _ _ (fun z => by omega)).trans h4
  have happ : R ++ (A ++ [r]) = (R ++ A) ++ [r] := (List.append_assoc R A [r]).symm
  let w3 : Mem := sF w2 9 8 0 (nI ((R ++ A).length + 1))
  have hw3 : Fr (fun k j i => k = 9 ∧ j = 8 ∧ i = 0) (fun _ _ => False) w2 w3 := ⟨fun k j i z => by show gF (sF _ _ _ _ _) _ _ _ = _; rw [gF_sF, if_neg z], fun _ _ _ => rfl, fun _ _ => rfl, fun _ _ _ => rfl⟩
  have hFg : ∀ j, j ≠ 0 → j ≠ 8 → j ≠ 27 → j ≠ 30 → j ≠ 33 → j ≠ 39 → gF w3 9 j 0 = gF w 9 j 0 := fun j q0 q8 q27 q30 q33 q39 => (hw3.1 _ _ _ (fun z => by omega)).trans (a3.1 _ _ _ (fun z => by omega))
  have hAr : ∀ k, k < 42 ∨ k = 44 ∨ k = 45 → gA w3 k 0 = gA w k 0 := fun k q => (hw3.2.1 _ _ (fun z => z)).trans ((a3.2.1 _ _ (fun z => by omega)).trans (hw1.2.1 _ _ (fun z => by omega)))
  refine ⟨w3, ?_, ⟨?_, ⟨h2.1, (hFg 6 (by omega) (by omega) (by omega) (by omega) (by omega) (by omega)).trans h2.2.1, fun g hg => by rw [hAr 41 (by omega)]; exact h2.2.2 g hg⟩, ?_, ?_, (hFg 9 (by omega) (by omega) (by omega) (by omega) (by omega) (by omega)).trans h5, ⟨(hFg 26 (by omega) (by omega) (by omega) (by omega) (by omega) (by omega)).trans h6.1, fun t k ht hk => by rw [hAr 44 (by omega)]; exact h6.2 t k ht hk⟩, (hFg 5 (by omega) (by omega) (by omega) (by omega) (by omega) (by omega)).trans h7, fun i hi => by rw [hAr 40 (by omega)]; exact h8 i hi⟩, fun j hj => hFg j (by omega) (by omega) (by omega) (by omega) (by omega) (by omega)⟩
  · have a1' : f_X9_comes N (sA (sA (sA (sA (sA w 42 0 (R ++ A).length its) 43 0 (4 * (R ++ A).length) a) 43 0 (4 * (R ++ A).length + 1) b) 43 0 (4 * (R ++ A).length + 2) c) 43 0 (4 * (R ++ A).length + 3) d) (nI (R ++ A).length) = some w2 := a1
    rw [f_X9_acts]
    simp (disch := omega) only [↓lm1, ↓lm2, eq_n1, eq_n2, n1_eq, n2_eq, n1_n2, n2_n1, n1_lt, n2_lt, n1_le, lt_n1, lt_n2, inb_t, cl_t, le_tt, le_tf, lt_tt, lt_tf, eq_tt, eq_tf, q_add, q_mul, li0, li1, li2, li3, li4, li5, li6, li7, li8, li12, li16, li24, li48, li500, gF_sA, gA_sF, gF_sF, gR_sA, gR_sF, gL_sA, gL_sF, gA_sA, shl_t, or_t, and_t, sbit_t, ubit_t, b01_0, b01_1, Option.bind_some, ↓reduceIte, eq_self, ne_eq, not_true_eq_false, Bool.false_eq_true, not_false_eq_true, true_and, and_true, false_and, and_false, if_pos, if_neg, h4, a1', h8']
    rfl
  · rw [happ, run_snoc]
    exact ⟨a2.1.fr hw3 (fun _ _ _ z => by omega) (fun _ _ z => z.elim), a2.2.1.fr hw3 (fun _ _ _ z => by omega) (fun _ _ z => z.elim), a2.2.2.fr hw3 (fun _ _ _ z => by omega) (fun _ _ z => z.elim)⟩
  · rw [happ]
    intro p x hp
    rw [Nat.zero_add]
    have e1 : gA w3 42 0 = gA w1 42 0 := (hw3.2.1 _ _ (fun z => z)).trans (a3.2.1 _ _ (fun z => by omega))
    have e2 : gA w3 43 0 = gA w1 43 0 := (hw3.2.1 _ _ (fun z => z)).trans (a3.2.1 _ _ (fun z => by omega))
    refine RW1.congr ?_ e1 e2
    rcases get_snoc hp with ⟨g1, g2⟩ | ⟨g1, g2⟩
    · exact hold p x g2
    · subst g1 g2; exact hrow1
  · show gF (sF _ _ _ _ _) _ _ _ = _
    rw [gF_sF, if_pos ⟨rfl, rfl, rfl⟩, happ, List.length_append (bs := [r])]; rfl
theorem acts_lt {tk : Nat → Nat} {nf : Nat} {R A : List Row} {r : Row} (hC : CI tk nf (run tk c0 (R ++ A))) (hr : okR tk nf (run tk c0 (R ++ A)) r) : A.length < 44 := by
  have e := run_len tk (R ++ A) c0
  have hC2 := hC.st hr
  have e2 := run_len tk ((R ++ A) ++ [r]) c0
  rw [run_snoc] at e2
  have q1 := hC2.1.2.1
  have q2 := hC2.2.2.1.1
  have q3 := hC2.2.2.2.1.1
  rw [tN_mk] at q1
  have e0 : (cL c0).length + (cS c0).length + (cQ c0).length = 0 := rfl
  rw [List.length_append, List.length_append] at e2
  have : [r].length = 1 := rfl
  omega
theorem RelP.act {nf : Nat} {tk : Nat → Nat} {R A : List Row} {NL : List (List Nat)} {tp : List Nat} {r : Row} (h : RelP nf tk R A NL tp) (hr : okR tk nf (run tk c0 (R ++ A)) r) : RelP nf tk R (A ++ [r]) NL tp :=
  ⟨by rw [← List.append_assoc]; exact okRs_snoc.mpr ⟨h.1, hr⟩, h.2⟩
theorem run_act (tk : Nat → Nat) (R A : List Row) (r : Row) : run tk c0 (R ++ (A ++ [r])) = stp tk (run tk c0 (R ++ A)) r := by rw [← List.append_assoc, run_snoc]
/-- an act is done: both -/
theorem act_done {N f nf : Nat} {tk : Nat → Nat} {R A : List Row} {NL : List (List Nat)} {tp : List Nat} {wx wm w1 w2 w3 : Mem} {r : Row} (hN : 276 < N) (h : RelC wx wm f nf tk R A NL tp) (hr : okR tk nf (run tk c0 (R ++ A)) r) (its a b c d : Int32) (hd : actD its a b c d r) (n1' : Fr (fun k j i => k = 1 ∧ j = 11 ∧ i = f) (fun k i => (k = 17 ∨ k = 18) ∧ i = f) wx w1) (hA : ∀ v, FrX f w1 v → AS v f tk (run tk c0 R) (A ++ [r])) (h2 : FrX f w1 w2) (hK : XK w2 f tk (stp tk (run tk c0 (R ++ A)) r)) (hnm : ∀ t, t < (cL (stp tk (run tk c0 (R ++ A)) r)).length → gA w2 34 f t = nI (wn (NL.getD t []))) (h3 : Fr (fun k j i => k = 0 ∧ j = 4 ∧ i = 0) (fun _ _ => False) w2 w3) (hc : gF w3 0 4 0 = nI 0 ∨ (gF w3 0 4 0 = nI 1 ∧ CO w3 tk (stp tk (run tk c0 (R ++ A)) r))) : ∃ u, f_X9_acts N (mAns wm (nI 0)) its a b c d = some u ∧ RelC w3 u f nf tk R (A ++ [r]) NL tp ∧ gF u 9 1 0 = nI 0 ∧ gF u 9 3 0 = n1 := by
  have hM0 := h.2.1.km (mAns_km (cS (run tk c0 (R ++ A))).length wm (nI 0))
  obtain ⟨u, a1, a2, a3⟩ := acts_ok hN hM0 h.ci h.2.2.1.1 r hr its a b c d hd
  refine ⟨u, a1, ⟨?_, a2, h.2.2.1.act hr, ?_⟩, (a3 1 (by omega)).trans (mAns_1 _ _), (a3 3 (by omega)).trans (mAns_3 _ _)⟩
  · rw [← run_act] at hK hnm hc
    exact h.1.act r n1' hA h2 hK hnm h3 hc
  · have e1 : gF w3 8 8 0 = gF wx 8 8 0 := (h3.1 _ _ _ (fun z => by omega)).trans ((h2.1 _ _ _ (fun z => by omega)).trans (n1'.1 _ _ _ (fun z => by omega)))
    rw [e1, a3 2 (by omega), (mAns_km 0 wm (nI 0)).1 9 2 0 (by omega)]
    exact h.2.2.2
theorem Op.act {f nf : Nat} {tk : Nat → Nat} {R A : List Row} {NL : List (List Nat)} {tp : List Nat} {v u : Mem} {x : Int32} (h : RelC v u f nf tk R A NL tp) (h1 : gF u 9 1 0 = nI 0) (h3 : gF u 9 3 0 = n1) : Op (some (xAns v (nI 0), x)) (some (u, x)) :=
  ⟨_, _, _, rfl, rfl, op_look h (xAns_kx _ _) KM.rf ((xAns_7 _ _).trans h1.symm) (xAns_9 _ _) h3⟩
theorem settled_fr (w : Mem) : Fr (fun k j i => k = 0 ∧ j = 4 ∧ i = 0) (fun _ _ => False) w (sF w 0 4 0 (nI 0)) := ⟨fun k j i z => by rw [gF_sF, if_neg z], fun _ _ _ => rfl, fun _ _ => rfl, fun _ _ _ => rfl⟩
theorem op_join {N f nf : Nat} {tk : Nat → Nat} {R A : List Row} {NL : List (List Nat)} {tp : List Nat} {wx wm : Mem} (hN : 276 < N) (h : RelC wx wm f nf tk R A NL tp) (x1 x2 : Int32) : Op (f_X8_join N wx x1 x2) (f_X9_join N wm x1 x2) := by
  have hCI := h.ci
  obtain ⟨⟨⟨hf, h5, h6⟩, ⟨⟨xT, xG, xF⟩, xS, xQ, xD⟩, xFN, xA, xNm, xTp, xCo⟩, hM, hPp, hfa⟩ := id h
  have hM0 := hM.km (mAns_km (cS (run tk c0 (R ++ A))).length wm (nI 0))
  obtain ⟨⟨⟨mT, mR, mN, mJ, mJR, mFR⟩, mS, mQ⟩, mFN, mRW, m8, m9, mNm, mTp⟩ := id hM0
  have hn : (cL (run tk c0 (R ++ A))).length ≤ 24 := xT.1
  have x10 : gF wx 7 10 f = nI (cL (run tk c0 (R ++ A))).length := xT.2.2.1
  have m27 : gF wm 9 27 0 = nI (cL (run tk c0 (R ++ A))).length := hM.1.1.1.2.2.1
  have iX := isTermX (N := N) (show (cL (run tk c0 (R ++ A))).length < 1000 by omega) hf h5 x10
  have iM := isTermM (N := N) (w := wm) (show (cL (run tk c0 (R ++ A))).length < 1000 by omega) m27
  have hs12 : (cS (run tk c0 (R ++ A))).length ≤ 12 := hCI.2.2.1.1
  have x9 : gF wx 1 9 f = nI (cS (run tk c0 (R ++ A))).length := xS.2.1
  have m30 : gF wm 9 30 0 = nI (cS (run tk c0 (R ++ A))).length := hM.1.2.1.2.1
  rw [f_X8_join, f_X9_join, iX, iX]
  by_cases hT : isT (cL (run tk c0 (R ++ A))).length x1
  · rw [b01_t hT]
    by_cases hU : isT (cL (run tk c0 (R ++ A))).length x2
    · rw [b01_t hU]
      by_cases hs : (cS (run tk c0 (R ++ A))).length = 12
      · rw [hs] at x9 m30
        simp (disch := omega) only [↓lm1, ↓lm2, eq_n1, eq_n2, n1_eq, n2_eq, n1_n2, n2_n1, n1_lt, n2_lt, n1_le, lt_n1, lt_n2, inb_t, cl_t, le_tt, le_tf, lt_tt, lt_tf, eq_tt, eq_tf, q_add, q_mul, li0, li1, li2, li3, li4, li5, li6, li7, li8, li12, li16, li24, li48, li500, gF_sA, gA_sF, gF_sF, gR_sA, gR_sF, gL_sA, gL_sF, gA_sA, shl_t, or_t, and_t, sbit_t, ubit_t, b01_0, b01_1, Option.bind_some, ↓reduceIte, eq_self, ne_eq, not_true_eq_false, Bool.false_eq_true, not_false_eq_true, true_and, and_true, false_and, and_false, if_pos, if_neg, h5, x9, m30, refuse_eq, f_X9_join_18_s5, f_X9_whyNotTwo, iM, b01_t hT, b01_t hU, refused_3]
        exact op_ans0 h
      · obtain ⟨t, ht, rfl⟩ := hT
        obtain ⟨u, hu, rfl⟩ := hU
        have hr : okR tk nf (run tk c0 (R ++ A)) (.inr (true, t, u)) := ⟨ht, hu, by omega⟩
        have hXK : XK wx f tk (run tk (run tk c0 R) A) := by rw [← run_app]; exact h.1.2.1
        obtain ⟨w1, a1, a2, a3, a4⟩ := noteAct_ok (N := N) (.inr (true, t, u)) hXK xA (acts_lt hCI hr)
        rw [← run_app] at a2
        obtain ⟨w2, b1, b2, b3, b4⟩ := comeSame_ok hN a2 hCI hr
        have g5 : gR w1 8 5 0 = f := (a4.2.2.2 _ _ _).trans h5
        have g5' : gR w2 8 5 0 = f := (b4.2.2.2 _ _ _).trans g5
        obtain ⟨v, d1, d2, d3, d4⟩ := act_done hN h hr (nI 1) (nI t) (nI u) (nI 0) (nI 0) ⟨rfl, rfl, rfl⟩ a4 a3 b4 b2 (fun s hs => by rw [b3, a4.2.1 34 f (fun z => by omega)]; exact xNm s hs) (settled_fr w2) (Or.inl (by rw [gF_sF, if_pos ⟨rfl, rfl, rfl⟩]))
        have e2 : gF w2 3 2 (2 + f) = nI (cntG (cL (stp tk (run tk c0 (R ++ A)) (.inr (true, t, u)))).length (ldJ (cJ (stp tk (run tk c0 (R ++ A)) (.inr (true, t, u)))))) := b2.1.2.1.2.2.2.1
        have hg := groupsIn_ok (N := N) (k := 52) rfl (by omega) d2.2.1.1.1.2.1
        rw [run_act] at hg
        have hg' : f_X9_groupsIn N v 52 = some (nI (cntG (cL (stp tk (run tk c0 (R ++ A)) (.inr (true, t, u)))).length (ldJ (cJ (stp tk (run tk c0 (R ++ A)) (.inr (true, t, u))))))) := hg
        have a1' : f_X1_noteAct N wx f (nI 0) = some w1 := a1
        have i1 := iM (nI t)
        have i2 := iM (nI u)
        rw [b01_t (isT_nI ht)] at i1
        rw [b01_t (isT_nI hu)] at i2
        simp (disch := omega) only [↓lm1, ↓lm2, eq_n1, eq_n2, n1_eq, n2_eq, n1_n2, n2_n1, n1_lt, n2_lt, n1_le, lt_n1, lt_n2, inb_t, cl_t, le_tt, le_tf, lt_tt, lt_tf, eq_tt, eq_tf, q_add, q_mul, li0, li1, li2, li3, li4, li5, li6, li7, li8, li12, li16, li24, li48, li500, gF_sA, gA_sF, gF_sF, gR_sA, gR_sF, gL_sA, gL_sF, gA_sA, shl_t, or_t, and_t, sbit_t, ubit_t, b01_0, b01_1, Option.bind_some, ↓reduceIte, eq_self, ne_eq, not_true_eq_false, Bool.false_eq_true, not_false_eq_true, true_and, and_true, false_and, and_false, if_pos, if_neg, h5, x9, m30, a1', g5, b1, g5', e2, answer_eq, f_X9_join_18_s5, f_X9_whyNotTwo, i1, i2, refused_0, d1, hg']
        exact Op.act d2 d3 d4
    · rw [b01_f hU]
      simp (disch := omega) only [↓lm1, ↓lm2, eq_n1, eq_n2, n1_eq, n2_eq, n1_n2, n2_n1, n1_lt, n2_lt, n1_le, lt_n1, lt_n2, inb_t, cl_t, le_tt, le_tf, lt_tt, lt_tf, eq_tt, eq_tf, q_add, q_mul, li0, li1, li2, li3, li4, li5, li6, li7, li8, li12, li16, li24, li48, li500, gF_sA, gA_sF, gF_sF, gR_sA, gR_sF, gL_sA, gL_sF, gA_sA, shl_t, or_t, and_t, sbit_t, ubit_t, b01_0, b01_1, Option.bind_some, ↓reduceIte, eq_self, ne_eq, not_true_eq_false, Bool.false_eq_true, not_false_eq_true, true_and, and_true, false_and, and_false, if_pos, if_neg, refuse_eq, f_X9_join_18_s5, f_X9_whyNotTwo, iM, b01_t hT, b01_f hU, refused_1]
      by_cases hs : gF wm 9 30 0 = nI 12
      · rw [if_pos hs]; exact op_ans0 h
      · rw [if_neg hs]; exact op_ans0 h
  · rw [b01_f hT]
    simp (disch := omega) only [↓lm1, ↓lm2, eq_n1, eq_n2, n1_eq, n2_eq, n1_n2, n2_n1, n1_lt, n2_lt, n1_le, lt_n1, lt_n2, inb_t, cl_t, le_tt, le_tf, lt_tt, lt_tf, eq_tt, eq_tf, q_add, q_mul, li0, li1, li2, li3, li4, li5, li6, li7, li8, li12, li16, li24, li48, li500, gF_sA, gA_sF, gF_sF, gR_sA, gR_sF, gL_sA, gL_sF, gA_sA, shl_t, or_t, and_t, sbit_t, ubit_t, b01_0, b01_1, Option.bind_some, ↓reduceIte, eq_self, ne_eq, not_true_eq_false, Bool.false_eq_true, not_false_eq_true, true_and, and_true, false_and, and_false, if_pos, if_neg, refuse_eq, f_X9_join_18_s5, f_X9_whyNotTwo, iM, b01_f hT, refused_1]
    by_cases hs : gF wm 9 30 0 = nI 12
    · rw [if_pos hs]; exact op_ans0 h
    · rw [if_neg hs]; exact op_ans0 h
theorem op_part {N f nf : Nat} {tk : Nat → Nat} {R A : List Row} {NL : List (List Nat)} {tp : List Nat} {wx wm : Mem} (hN : 276 < N) (h : RelC wx wm f nf tk R A NL tp) (x1 x2 : Int32) : Op (f_X8_part N wx x1 x2) (f_X9_part N wm x1 x2) := by
  have hCI := h.ci
  obtain ⟨⟨⟨hf, h5, h6⟩, ⟨⟨xT, xG, xF⟩, xS, xQ, xD⟩, xFN, xA, xNm, xTp, xCo⟩, hM, hPp, hfa⟩ := id h
  have hM0 := hM.km (mAns_km (cS (run tk c0 (R ++ A))).length wm (nI 0))
  obtain ⟨⟨⟨mT, mR, mN, mJ, mJR, mFR⟩, mS, mQ⟩, mFN, mRW, m8, m9, mNm, mTp⟩ := id hM0
  have hn : (cL (run tk c0 (R ++ A))).length ≤ 24 := xT.1
  have x10 : gF wx 7 10 f = nI (cL (run tk c0 (R ++ A))).length := xT.2.2.1
  have m27 : gF wm 9 27 0 = nI (cL (run tk c0 (R ++ A))).length := hM.1.1.1.2.2.1
  have iX := isTermX (N := N) (show (cL (run tk c0 (R ++ A))).length < 1000 by omega) hf h5 x10
  have iM := isTermM (N := N) (w := wm) (show (cL (run tk c0 (R ++ A))).length < 1000 by omega) m27
  have hs12 : (cQ (run tk c0 (R ++ A))).length ≤ 8 := hCI.2.2.2.1.1
  have x9 : gF wx 1 10 f = nI (cQ (run tk c0 (R ++ A))).length := xQ.2.1
  have m30 : gF wm 9 33 0 = nI (cQ (run tk c0 (R ++ A))).length := hM.1.2.2.2.1
  rw [f_X8_part, f_X9_part, iX, iX]
  by_cases hT : isT (cL (run tk c0 (R ++ A))).length x1
  · rw [b01_t hT]
    by_cases hU : isT (cL (run tk c0 (R ++ A))).length x2
    · rw [b01_t hU]
      by_cases hs : (cQ (run tk c0 (R ++ A))).length = 8
      · rw [hs] at x9 m30
        simp (disch := omega) only [↓lm1, ↓lm2, eq_n1, eq_n2, n1_eq, n2_eq, n1_n2, n2_n1, n1_lt, n2_lt, n1_le, lt_n1, lt_n2, inb_t, cl_t, le_tt, le_tf, lt_tt, lt_tf, eq_tt, eq_tf, q_add, q_mul, li0, li1, li2, li3, li4, li5, li6, li7, li8, li12, li16, li24, li48, li500, gF_sA, gA_sF, gF_sF, gR_sA, gR_sF, gL_sA, gL_sF, gA_sA, shl_t, or_t, and_t, sbit_t, ubit_t, b01_0, b01_1, Option.bind_some, ↓reduceIte, eq_self, ne_eq, not_true_eq_false, Bool.false_eq_true, not_false_eq_true, true_and, and_true, false_and, and_false, if_pos, if_neg, h5, x9, m30, refuse_eq, f_X9_part_18_s5, f_X9_whyNotTwo, iM, b01_t hT, b01_t hU, refused_3]
        exact op_ans0 h
      · obtain ⟨t, ht, rfl⟩ := hT
        obtain ⟨u, hu, rfl⟩ := hU
        have hr : okR tk nf (run tk c0 (R ++ A)) (.inr (false, t, u)) := ⟨ht, hu, by omega⟩
        have hXK : XK wx f tk (run tk (run tk c0 R) A) := by rw [← run_app]; exact h.1.2.1
        obtain ⟨w1, a1, a2, a3, a4⟩ := noteAct_ok (N := N) (.inr (false, t, u)) hXK xA (acts_lt hCI hr)
        rw [← run_app] at a2
        obtain ⟨w2, b1, b2, b3, b4⟩ := comeDiff_ok (N := N) a2 hr
        have g5 : gR w1 8 5 0 = f := (a4.2.2.2 _ _ _).trans h5
        have g5' : gR w2 8 5 0 = f := (b4.2.2.2 _ _ _).trans g5
        have hCk : gF w2 0 4 0 = nI 0 ∨ (gF w2 0 4 0 = nI 1 ∧ CO w2 tk (stp tk (run tk c0 (R ++ A)) (.inr (false, t, u)))) := by
          have k4 : gF w2 0 4 0 = gF wx 0 4 0 := (b4.1 _ _ _ (fun z => by omega)).trans (a4.1 _ _ _ (fun z => by omega))
          have k3 : gF w2 0 3 0 = gF wx 0 3 0 := (b4.1 _ _ _ (fun z => by omega)).trans (a4.1 _ _ _ (fun z => by omega))
          have k10 : gA w2 10 0 = gA wx 10 0 := (b4.2.1 _ _ (fun z => by omega)).trans (a4.2.1 _ _ (fun z => by omega))
          have k11 : gA w2 11 0 = gA wx 11 0 := (b4.2.1 _ _ (fun z => by omega)).trans (a4.2.1 _ _ (fun z => by omega))
          rcases xCo with q | ⟨q, q2, D, q3, q4⟩
          · exact Or.inl (k4.trans q)
          · exact Or.inr ⟨k4.trans q, k3.trans q2, D, q3, fun s s' hs hs' => by rw [k10, k11]; exact q4 s s' hs hs'⟩
        obtain ⟨v, d1, d2, d3, d4⟩ := act_done hN h hr (nI 2) (nI t) (nI u) (nI 0) (nI 0) ⟨rfl, rfl, rfl⟩ a4 a3 b4 b2 (fun s hs => by rw [b3, a4.2.1 34 f (fun z => by omega)]; exact xNm s hs) Fr.rf hCk
        have ho := one_ok b2.1.2.1 N (i := t) (j := u) ht hu
        rw [b01_i] at ho
        have hmR := d2.2.1.1.1.2.1
        rw [run_act] at hmR
        have e1 : gA v 52 0 t = nI (ldJ (cJ (run tk c0 (R ++ A))) t) := hmR.2.2.2 t ht
        have e2 : gA v 52 0 u = nI (ldJ (cJ (run tk c0 (R ++ A))) u) := hmR.2.2.2 u hu
        have l1 := (mR.2.1 t ht).1
        have l2 := (mR.2.1 u hu).1
        have a1' : f_X1_noteAct N wx f (nI 1) = some w1 := a1
        have i1 := iM (nI t)
        have i2 := iM (nI u)
        rw [b01_t (isT_nI ht)] at i1
        rw [b01_t (isT_nI hu)] at i2
        by_cases z : ldJ (cJ (run tk c0 (R ++ A))) t = ldJ (cJ (run tk c0 (R ++ A))) u
        · have ho' : f_X3_one N w2 (2 + f) (nI t) (nI u) = some (nI 1) := by rw [ho]; exact congrArg (fun x => some (nI x)) (b01_t z)
          simp (disch := omega) only [↓lm1, ↓lm2, eq_n1, eq_n2, n1_eq, n2_eq, n1_n2, n2_n1, n1_lt, n2_lt, n1_le, lt_n1, lt_n2, inb_t, cl_t, le_tt, le_tf, lt_tt, lt_tf, eq_tt, eq_tf, q_add, q_mul, li0, li1, li2, li3, li4, li5, li6, li7, li8, li12, li16, li24, li48, li500, gF_sA, gA_sF, gF_sF, gR_sA, gR_sF, gL_sA, gL_sF, gA_sA, shl_t, or_t, and_t, sbit_t, ubit_t, b01_0, b01_1, Option.bind_some, ↓reduceIte, eq_self, ne_eq, not_true_eq_false, Bool.false_eq_true, not_false_eq_true, true_and, and_true, false_and, and_false, if_pos, if_neg, h5, x9, m30, a1', g5, b1, g5', ho', bit_1, answer_eq, f_X9_part_18_s5, f_X9_whyNotTwo, i1, i2, refused_0, d1, e1, e2]
          exact Op.act d2 d3 d4
        · have ho' : f_X3_one N w2 (2 + f) (nI t) (nI u) = some (nI 0) := by rw [ho]; exact congrArg (fun x => some (nI x)) (b01_f z)
          simp (disch := omega) only [↓lm1, ↓lm2, eq_n1, eq_n2, n1_eq, n2_eq, n1_n2, n2_n1, n1_lt, n2_lt, n1_le, lt_n1, lt_n2, inb_t, cl_t, le_tt, le_tf, lt_tt, lt_tf, eq_tt, eq_tf, q_add, q_mul, li0, li1, li2, li3, li4, li5, li6, li7, li8, li12, li16, li24, li48, li500, gF_sA, gA_sF, gF_sF, gR_sA, gR_sF, gL_sA, gL_sF, gA_sA, shl_t, or_t, and_t, sbit_t, ubit_t, b01_0, b01_1, Option.bind_some, ↓reduceIte, eq_self, ne_eq, not_true_eq_false, Bool.false_eq_true, not_false_eq_true, true_and, and_true, false_and, and_false, if_pos, if_neg, h5, x9, m30, a1', g5, b1, g5', ho', bit_0, answer_eq, f_X9_part_18_s5, f_X9_whyNotTwo, i1, i2, refused_0, d1, e1, e2]
          exact Op.act d2 d3 d4
    · rw [b01_f hU]
      simp (disch := omega) only [↓lm1, ↓lm2, eq_n1, eq_n2, n1_eq, n2_eq, n1_n2, n2_n1, n1_lt, n2_lt, n1_le, lt_n1, lt_n2, inb_t, cl_t, le_tt, le_tf, lt_tt, lt_tf, eq_tt, eq_tf, q_add, q_mul, li0, li1, li2, li3, li4, li5, li6, li7, li8, li12, li16, li24, li48, li500, gF_sA, gA_sF, gF_sF, gR_sA, gR_sF, gL_sA, gL_sF, gA_sA, shl_t, or_t, and_t, sbit_t, ubit_t, b01_0, b01_1, Option.bind_some, ↓reduceIte, eq_self, ne_eq, not_true_eq_false, Bool.false_eq_true, not_false_eq_true, true_and, and_true, false_and, and_false, if_pos, if_neg, refuse_eq, f_X9_part_18_s5, f_X9_whyNotTwo, iM, b01_t hT, b01_f hU, refused_1]
      by_cases hs : gF wm 9 33 0 = nI 8
      · rw [if_pos hs]; exact op_ans0 h
      · rw [if_neg hs]; exact op_ans0 h
  · rw [b01_f hT]
    simp (disch := omega) only [↓lm1, ↓lm2, eq_n1, eq_n2, n1_eq, n2_eq, n1_n2, n2_n1, n1_lt, n2_lt, n1_le, lt_n1, lt_n2, inb_t, cl_t, le_tt, le_tf, lt_tt, lt_tf, eq_tt, eq_tf, q_add, q_mul, li0, li1, li2, li3, li4, li5, li6, li7, li8, li12, li16, li24, li48, li500, gF_sA, gA_sF, gF_sF, gR_sA, gR_sF, gL_sA, gL_sF, gA_sA, shl_t, or_t, and_t, sbit_t, ubit_t, b01_0, b01_1, Option.bind_some, ↓reduceIte, eq_self, ne_eq, not_true_eq_false, Bool.false_eq_true, not_false_eq_true, true_and, and_true, false_and, and_false, if_pos, if_neg, refuse_eq, f_X9_part_18_s5, f_X9_whyNotTwo, iM, b01_f hT, refused_1]
    by_cases hs : gF wm 9 33 0 = nI 8
    · rw [if_pos hs]; exact op_ans0 h
    · rw [if_neg hs]; exact op_ans0 h
theorem op_undo {N : Nat} {wx wm : Mem} (hN : 276 < N) (h : Rel wx wm) : Op (f_X8_undo N wx) (f_X9_undo N wm) := by
  obtain ⟨f, nf, tk, R, A, NL, tp, hC, q1, q2⟩ := id h
  obtain ⟨⟨⟨hf, h5, h6⟩, xK, xFN, xA, xNm, xTp, xCo⟩, hM, hPp, hfa⟩ := id hC
  have a11 := xA.2.1
  have m8 : gF (sF wm 9 0 0 (nI 0)) 9 8 0 = nI (R ++ A).length := by rw [gF_sF, if_neg (by omega)]; exact hM.2.2.2.1
  have m9 : gF (sF wm 9 0 0 (nI 0)) 9 9 0 = nI R.length := by rw [gF_sF, if_neg (by omega)]; exact hM.2.2.2.2.1
  have hlR : (R ++ A).length = R.length + A.length := List.length_append
  have hl48 : (R ++ A).length ≤ 48 := by
    have e := run_len tk (R ++ A) c0
    have hCI := hC.ci
    have q1 := hCI.1.2.1
    have q2 := hCI.2.2.1.1
    have q3 := hCI.2.2.2.1.1
    rw [tN_mk] at q1
    have e0 : (cL c0).length + (cS c0).length + (cQ c0).length = 0 := rfl
    omega
  rw [f_X8_undo, f_X9_undo]
  rcases List.eq_nil_or_concat A with rfl | ⟨A', r, rfl⟩
  · refine ⟨wx, _, nI 0, ?_, ?_, h.thrown⟩
    · simp (disch := omega) only [↓lm1, ↓lm2, eq_n1, eq_n2, n1_eq, n2_eq, n1_n2, n2_n1, n1_lt, n2_lt, n1_le, lt_n1, lt_n2, inb_t, cl_t, le_tt, le_tf, lt_tt, lt_tf, eq_tt, eq_tf, q_add, q_mul, li0, li1, li2, li3, li4, li5, li6, li7, li8, li12, li16, li24, li48, li500, gF_sA, gA_sF, gF_sF, gR_sA, gR_sF, gL_sA, gL_sF, gA_sA, shl_t, or_t, and_t, sbit_t, ubit_t, b01_0, b01_1, Option.bind_some, ↓reduceIte, eq_self, ne_eq, not_true_eq_false, Bool.false_eq_true, not_false_eq_true, true_and, and_true, false_and, and_false, if_pos, if_neg, h5, a11, List.length_nil]
    · have : nI (R ++ []).length = nI R.length := by rw [List.append_nil]
      simp (disch := omega) only [↓lm1, ↓lm2, eq_n1, eq_n2, n1_eq, n2_eq, n1_n2, n2_n1, n1_lt, n2_lt, n1_le, lt_n1, lt_n2, inb_t, cl_t, le_tt, le_tf, lt_tt, lt_tf, eq_tt, eq_tf, q_add, q_mul, li0, li1, li2, li3, li4, li5, li6, li7, li8, li12, li16, li24, li48, li500, gF_sA, gA_sF, gF_sF, gR_sA, gR_sF, gL_sA, gL_sF, gA_sA, shl_t, or_t, and_t, sbit_t, ubit_t, b01_0, b01_1, Option.bind_some, ↓reduceIte, eq_self, ne_eq, not_true_eq_false, Bool.false_eq_true, not_false_eq_true, true_and, and_true, false_and, and_false, if_pos, if_neg, m8, m9, this]
  · rw [List.concat_eq_append] at *
    have hlA : (A' ++ [r]).length = A'.length + 1 := by rw [List.length_append]; rfl
    have happ : R ++ (A' ++ [r]) = (R ++ A') ++ [r] := (List.append_assoc R A' [r]).symm
    have hok := hPp.1
    rw [happ] at hok
    obtain ⟨hok1, hok2⟩ := okRs_snoc.mp hok
    have hCI' : CI tk nf (run tk c0 (R ++ A')) := (CI.zero xFN.1 (fun g hg => (xFN.2.2 g hg).1)).rn hok1
    rw [run_app] at xK hCI'
    obtain ⟨w2, b1, b2, b3, b4, b5, b6⟩ := undo_ok hN xK xA hCI'
    rw [← run_app] at b2 hCI'
    let w3 : Mem := sF w2 0 4 0 (nI 0)
    have h3 := settled_fr w2
    let v0 : Mem := sF (sF wm 9 0 0 (nI 0)) 9 8 0 (nI (R ++ A').length)
    have hv0 : Fr (fun k j i => k = 9 ∧ (j = 0 ∨ j = 8) ∧ i = 0) (fun _ _ => False) wm v0 := ⟨fun k j i z => by show gF (sF (sF _ _ _ _ _) _ _ _ _) _ _ _ = _; rw [gF_sF, if_neg (fun y => z ⟨y.1, Or.inr y.2.1, y.2.2⟩), gF_sF, if_neg (fun y => z ⟨y.1, Or.inl y.2.1, y.2.2⟩)], fun _ _ _ => rfl, fun _ _ => rfl, fun _ _ _ => rfl⟩
    have hlen' : (R ++ (A' ++ [r])).length = (R ++ A').length + 1 := by rw [happ, List.length_append]; rfl
    obtain ⟨⟨-, -, -⟩, m2, m3, m4, m5, m6, m7, m8'⟩ := id hM
    have hF0 : MFN v0 nf tk := ⟨m2.1, (hv0.1 _ _ _ (fun z => by omega)).trans m2.2.1, fun g hg => m2.2.2 g hg⟩
    have hR0 : RWS v0 0 (R ++ A') := fun p x hp => (m3 p x (by rw [happ]; exact get_pre hp)).congr rfl rfl
    obtain ⟨u, d1, d2, d3⟩ := makes_ok hN hF0 hR0 (by show gF (sF _ _ _ _ _) _ _ _ = _; rw [gF_sF, if_pos ⟨rfl, rfl, rfl⟩]) (by omega) hok1
    have hu : Fr (fun k j i => k = 9 ∧ (j = 0 ∨ j = 8 ∨ j = 27 ∨ j = 30 ∨ j = 33 ∨ j = 39) ∧ i = 0) (fun k i => (46 ≤ k ∧ k ≤ 58) ∧ i = 0) wm u := (hv0.mono (fun _ _ _ z => by omega) (fun _ _ z => z.elim)).tr (d3.mono (fun _ _ _ z => by omega) (fun _ _ z => z))
    have hx3 : Fr (fun k j i => (k = 7 ∧ j ≠ 9 ∧ i = f) ∨ (k = 2 ∧ i = f) ∨ (k = 3 ∧ i = 2 + f) ∨ (k = 1 ∧ i = f) ∨ (k = 0 ∧ j = 4)) (fun k i => ((k = 19 ∨ k = 20 ∨ k = 38 ∨ k = 39) ∧ i = f) ∨ (k = 25 ∧ i = 2 + f)) wx w3 := (b6.mono (fun _ _ _ z => by omega) (fun _ _ z => z)).tr (h3.mono (fun _ _ _ z => by omega) (fun _ _ z => z.elim))
    have hle : (cL (run tk c0 (R ++ A'))).length ≤ (cL (run tk c0 (R ++ (A' ++ [r])))).length := by rw [happ, run_app tk c0 (R ++ A')]; exact cL_mono tk _ _
    refine ⟨w3, u, nI 1, ?_, ?_, f, nf, tk, R, A', NL, tp, ⟨⟨⟨hf, (hx3.2.2.2 _ _ _).trans h5, (hx3.2.2.2 _ _ _).trans h6⟩, b2.fr h3 (fun _ _ _ z => by omega) (fun _ _ z => z.elim), ⟨xFN.1, (hx3.1 _ _ _ (fun z => by omega)).trans xFN.2.1, fun g hg => by rw [hx3.2.1 31 f (fun z => by omega)]; exact xFN.2.2 g hg⟩, ⟨b3.1, (h3.1 _ _ _ (fun z => by omega)).trans b3.2.1, b3.2.2⟩, fun t ht => ?_, ⟨(hx3.1 _ _ _ (fun z => by omega)).trans xTp.1, fun i hi => by rw [hx3.2.1 30 0 (fun z => by omega)]; exact xTp.2 i hi⟩, Or.inl (by show gF (sF _ _ _ _ _) _ _ _ = _; rw [gF_sF, if_pos ⟨rfl, rfl, rfl⟩])⟩, ⟨d2, ⟨m2.1, (hu.1 _ _ _ (fun z => by omega)).trans m2.2.1, fun g hg => by rw [hu.2.1 41 0 (fun z => by omega)]; exact m2.2.2 g hg⟩, fun p x hp => (m3 p x (by rw [happ]; exact get_pre hp)).congr (hu.2.1 _ _ (fun z => by omega)) (hu.2.1 _ _ (fun z => by omega)), ?_, (hu.1 _ _ _ (fun z => by omega)).trans m5, ⟨(hu.1 _ _ _ (fun z => by omega)).trans m6.1, fun t k ht hk => by rw [hu.2.1 44 0 (fun z => by omega)]; exact m6.2 t k ht hk⟩, (hu.1 _ _ _ (fun z => by omega)).trans m7, fun i hi => by rw [hu.2.1 40 0 (fun z => by omega)]; exact m8' i hi⟩, ⟨hok1, hPp.2⟩, ?_⟩, ?_, ?_⟩
    · rw [hlA] at a11
      simp (disch := omega) only [↓lm1, ↓lm2, eq_n1, eq_n2, n1_eq, n2_eq, n1_n2, n2_n1, n1_lt, n2_lt, n1_le, lt_n1, lt_n2, inb_t, cl_t, le_tt, le_tf, lt_tt, lt_tf, eq_tt, eq_tf, q_add, q_mul, li0, li1, li2, li3, li4, li5, li6, li7, li8, li12, li16, li24, li48, li500, gF_sA, gA_sF, gF_sF, gR_sA, gR_sF, gL_sA, gL_sF, gA_sA, shl_t, or_t, and_t, sbit_t, ubit_t, b01_0, b01_1, Option.bind_some, ↓reduceIte, eq_self, ne_eq, not_true_eq_false, Bool.false_eq_true, not_false_eq_true, true_and, and_true, false_and, and_false, if_pos, if_neg, h5, a11, b1]
      rfl
    · rw [hlen'] at m8
      have d1' : f_X9_makes N (sF (sF wm 9 0 0 (nI 0)) 9 8 0 (nI (R ++ A').length)) = some u := d1
      have hne : R.length < (R ++ A').length + 1 := by rw [List.length_append]; omega
      rw [li0, m8, m9, if_neg (fun z => by have := (nI_inj_iff (by omega) (by omega)).mp z; omega), show (1 : Int32) = nI 1 from rfl, q_sub (by omega), Nat.add_sub_cancel, d1', Option.bind_some]
    · rw [hx3.2.1 34 f (fun z => by omega)]
      exact xNm t (by omega)
    · rw [d3.1 9 8 0 (fun z => by omega)]
      show gF (sF _ _ _ _ _) _ _ _ = _
      rw [gF_sF, if_pos ⟨rfl, rfl, rfl⟩]
    · rw [hx3.1 8 8 0 (fun z => by omega), hu.1 9 2 0 (fun z => by omega)]; exact hfa
    · rw [hx3.1 8 7 0 (fun z => by omega), hu.1 9 1 0 (fun z => by omega)]; exact q1
    · rw [hx3.1 8 9 0 (fun z => by omega), hu.1 9 1 0 (fun z => by omega), hu.1 9 3 0 (fun z => by omega)]; exact q2
