/-! the model: rows that come, all made anew -/
def MSS (w : Mem) (n : Nat) (S : Prs) : Prop := S.length ≤ 12 ∧ gF w 9 30 0 = nI S.length ∧ ∀ (p i j : Nat), S[p]? = some (i, j) → i < n ∧ j < n ∧ gA w 48 0 p = nI i ∧ gA w 49 0 p = nI j
theorem MSS.rp {w : Mem} {n : Nat} {S : Prs} (h : MSS w n S) : RP w n S := ⟨by have := h.1; omega, h.2.2⟩
def MK (w : Mem) (tk : Nat → Nat) (c : Core) : Prop := MX w (mkT tk (cL c)) (cJ c) ∧ MSS w (cL c).length (cS c) ∧ MD w (cL c).length (cQ c)
def MFN (w : Mem) (nf : Nat) (tk : Nat → Nat) : Prop := nf ≤ 8 ∧ gF w 9 6 0 = nI nf ∧ ∀ g, g < nf → tk g ≤ 3 ∧ gA w 41 0 g = nI (tk g)
/-- a row that was told lies at p -/
def RW1 (w : Mem) (p : Nat) : Row → Prop
  | .inl (f, ps) => gA w 42 0 p = nI 0 ∧ gA w 43 0 (4 * p) = nI f ∧ ∀ k, k < ps.length → gA w 43 0 (4 * p + 1 + k) = nI (ps.getD k 0)
  | .inr (true, a, b) => gA w 42 0 p = nI 1 ∧ gA w 43 0 (4 * p) = nI a ∧ gA w 43 0 (4 * p + 1) = nI b
  | .inr (false, a, b) => gA w 42 0 p = nI 2 ∧ gA w 43 0 (4 * p) = nI a ∧ gA w 43 0 (4 * p + 1) = nI b
theorem RW1.congr {w v : Mem} {p : Nat} {r : Row} (h : RW1 w p r) (h1 : gA v 42 0 = gA w 42 0) (h2 : gA v 43 0 = gA w 43 0) : RW1 v p r := by
  cases r with
  | inl x => unfold RW1 at *; rw [h1, h2]; exact h
  | inr y =>
    obtain ⟨bb, a, b⟩ := y
    cases bb <;> (unfold RW1 at *; rw [h1, h2]; exact h)
/-- what coming changes in the model -/
abbrev FrM (w w' : Mem) : Prop := Fr (fun k j i => k = 9 ∧ (j = 0 ∨ j = 27 ∨ j = 30 ∨ j = 33 ∨ j = 39) ∧ i = 0) (fun k i => (46 ≤ k ∧ k ≤ 58) ∧ i = 0) w w'
theorem MFN.fr {w v : Mem} {nf : Nat} {tk : Nat → Nat} (h : MFN w nf tk) (hf : FrM w v) : MFN v nf tk := by
  obtain ⟨a, b, c⟩ := h
  refine ⟨a, (hf.1 _ _ _ (fun z => by omega)).trans b, fun g hg => ?_⟩
  rw [hf.2.1 41 0 (fun z => by omega)]
  exact c g hg
theorem RW1.fr {w v : Mem} {p : Nat} {r : Row} (h : RW1 w p r) (hf : FrM w v) : RW1 v p r := h.congr (hf.2.1 _ _ (fun z => by omega)) (hf.2.1 _ _ (fun z => by omega))
theorem MSS.fr {w v : Mem} {n : Nat} {S : Prs} {P : Nat → Nat → Nat → Prop} {Q : Nat → Nat → Prop} (h : MSS w n S) (hf : Fr P Q w v) (hP : ∀ k j i, P k j i → ¬ (k = 9 ∧ j = 30)) (hQ : ∀ k i, Q k i → k ≠ 48 ∧ k ≠ 49) : MSS v n S := by
  obtain ⟨s1, s2, s3⟩ := h
  refine ⟨s1, (hf.1 _ _ _ (fun z => hP _ _ _ z ⟨rfl, rfl⟩)).trans s2, fun p i j hp => ?_⟩
  rw [hf.2.1 48 0 (fun z => (hQ _ _ z).1 rfl), hf.2.1 49 0 (fun z => (hQ _ _ z).2 rfl)]; exact s3 p i j hp
theorem MD.fr {w v : Mem} {n : Nat} {S : Prs} {P : Nat → Nat → Nat → Prop} {Q : Nat → Nat → Prop} (h : MD w n S) (hf : Fr P Q w v) (hP : ∀ k j i, P k j i → ¬ (k = 9 ∧ j = 33)) (hQ : ∀ k i, Q k i → k ≠ 50 ∧ k ≠ 51) : MD v n S := by
  obtain ⟨s1, s2, s3⟩ := h
  refine ⟨s1, (hf.1 _ _ _ (fun z => hP _ _ _ z ⟨rfl, rfl⟩)).trans s2, fun p i j hp => ?_⟩
  rw [hf.2.1 50 0 (fun z => (hQ _ _ z).1 rfl), hf.2.1 51 0 (fun z => (hQ _ _ z).2 rfl)]; exact s3 p i j hp
theorem MSS.more {w : Mem} {n : Nat} {S : Prs} (h : MSS w n S) : MSS w (n + 1) S := ⟨h.1, h.2.1, fun p i j hp => by obtain ⟨a, b, c, d⟩ := h.2.2 p i j hp; exact ⟨by omega, by omega, c, d⟩⟩
theorem MD.more {w : Mem} {n : Nat} {S : Prs} (h : MD w n S) : MD w (n + 1) S := ⟨h.1, h.2.1, fun p i j hp => by obtain ⟨a, b, c, d⟩ := h.2.2 p i j hp; exact ⟨by omega, by omega, c, d⟩⟩
theorem lp_ct17 (k : Mem → Option Mem) {N n p fn nf : Nat} {tk : Nat → Nat} {ps : List Nat} (hn : n < 24) (hp : p < 96) (hfn : fn < nf) (hl : ps.length = tk fn) : ∀ (r fuel q : Nat) (w : Mem), q + r = 3 → r < fuel → MFN w nf tk → gF w 9 27 0 = nI n → gA w 43 0 (4 * p) = nI fn → (∀ k, k < ps.length → gA w 43 0 (4 * p + 1 + k) = nI (ps.getD k 0)) → (∀ k, k < q → k < ps.length → gA w 47 0 (3 * n + k) = nI (ps.getD k 0)) → ∃ w', lp_X9_comesTerm_17 k N (nI (4 * p)) fuel w (nI q) = k w' ∧ (∀ k, k < ps.length → gA w' 47 0 (3 * n + k) = nI (ps.getD k 0)) ∧ (∀ x, x < 3 * n → gA w' 47 0 x = gA w 47 0 x) ∧ FrK 47 w w' := by
  intro r
  induction r with
  | zero =>
    intro fuel q w hq hf hF h27 h43 hps h47
    obtain ⟨f', rfl⟩ : ∃ f, fuel = f + 1 := ⟨fuel - 1, by omega⟩
    have h3 := (hF.2.2 fn hfn).1
    refine ⟨w, ?_, fun k hk => h47 k (by omega) hk, fun _ _ => rfl, Fr.rf⟩
    rw [lp_X9_comesTerm_17]
    simp (disch := omega) only [↓lm1, ↓lm2, eq_n1, eq_n2, n1_eq, n2_eq, n1_n2, n2_n1, n1_lt, n2_lt, n1_le, lt_n1, lt_n2, inb_t, cl_t, le_tt, le_tf, lt_tt, lt_tf, eq_tt, eq_tf, q_add, q_mul, li0, li1, li2, li3, li4, li5, li6, li7, li8, li12, li16, li24, li48, li500, gF_sA, gA_sF, gF_sF, gR_sA, gR_sF, gL_sA, gL_sF, gA_sA, shl_t, or_t, and_t, sbit_t, ubit_t, b01_0, b01_1, Option.bind_some, ↓reduceIte, eq_self, ne_eq, not_true_eq_false, Bool.false_eq_true, not_false_eq_true, true_and, and_true, false_and, and_false, if_pos, if_neg]
  | succ r ih =>
    intro fuel q w hq hf hF h27 h43 hps h47
    obtain ⟨f', rfl⟩ : ∃ f, fuel = f + 1 := ⟨fuel - 1, by omega⟩
    obtain ⟨h3, h41⟩ := hF.2.2 fn hfn
    have hnf := hF.1
    have go : ∀ v : Int32, (q < ps.length → v = nI (ps.getD q 0)) → ∃ w', lp_X9_comesTerm_17 k N (nI (4 * p)) f' (sA w 47 0 (3 * n + q) v) (nI (q + 1)) = k w' ∧ (∀ k, k < ps.length → gA w' 47 0 (3 * n + k) = nI (ps.getD k 0)) ∧ (∀ x, x < 3 * n → gA w' 47 0 x = gA w 47 0 x) ∧ FrK 47 w w' := by
      intro v hv
      have hs : FrK 47 w (sA w 47 0 (3 * n + q) v) := FrK.set
      obtain ⟨w', e1, e2, e3, e4⟩ := ih f' (q + 1) (sA w 47 0 (3 * n + q) v) (by omega) (by omega) ⟨hF.1, hF.2.1, fun g hg => by rw [hs.A (by omega)]; exact hF.2.2 g hg⟩ h27 (by rw [hs.A (by omega)]; exact h43) (fun k hk => by rw [hs.A (by omega)]; exact hps k hk) (fun k hk hk2 => by
        by_cases e : k = q
        · subst e; rw [gA_sA_self]; exact hv hk2
        · rw [gA_sA_at (by omega)]; exact h47 k (by omega) hk2)
      exact ⟨w', e1, e2, fun x hx => by rw [e3 x hx, gA_sA_at (by omega)], hs.tr e4⟩
    by_cases z : q < tk fn
    · obtain ⟨w', e1, e2⟩ := go (nI (ps.getD q 0)) (fun _ => rfl)
      refine ⟨w', ?_, e2⟩
      have h43q := hps q (by omega)
      rw [lp_X9_comesTerm_17, ← e1]
      simp (disch := omega) only [↓lm1, ↓lm2, eq_n1, eq_n2, n1_eq, n2_eq, n1_n2, n2_n1, n1_lt, n2_lt, n1_le, lt_n1, lt_n2, inb_t, cl_t, le_tt, le_tf, lt_tt, lt_tf, eq_tt, eq_tf, q_add, q_mul, li0, li1, li2, li3, li4, li5, li6, li7, li8, li12, li16, li24, li48, li500, gF_sA, gA_sF, gF_sF, gR_sA, gR_sF, gL_sA, gL_sF, gA_sA, shl_t, or_t, and_t, sbit_t, ubit_t, b01_0, b01_1, Option.bind_some, ↓reduceIte, eq_self, ne_eq, not_true_eq_false, Bool.false_eq_true, not_false_eq_true, true_and, and_true, false_and, and_false, if_pos, if_neg, h27, h43, h41, h43q]
    · obtain ⟨w', e1, e2⟩ := go (nI 0) (fun h => by omega)
      refine ⟨w', ?_, e2⟩
      rw [lp_X9_comesTerm_17, ← e1]
      simp (disch := omega) only [↓lm1, ↓lm2, eq_n1, eq_n2, n1_eq, n2_eq, n1_n2, n2_n1, n1_lt, n2_lt, n1_le, lt_n1, lt_n2, inb_t, cl_t, le_tt, le_tf, lt_tt, lt_tf, eq_tt, eq_tf, q_add, q_mul, li0, li1, li2, li3, li4, li5, li6, li7, li8, li12, li16, li24, li48, li500, gF_sA, gA_sF, gF_sF, gR_sA, gR_sF, gL_sA, gL_sF, gA_sA, shl_t, or_t, and_t, sbit_t, ubit_t, b01_0, b01_1, Option.bind_some, ↓reduceIte, eq_self, ne_eq, not_true_eq_false, Bool.false_eq_true, not_false_eq_true, true_and, and_true, false_and, and_false, if_pos, if_neg, h27, h43, h41]
theorem comesTerm_ok {N nf p : Nat} {w : Mem} {tk : Nat → Nat} {c : Core} {x : Nat × List Nat} (hN : 276 < N) (hX : MK w tk c) (hF : MFN w nf tk) (hC : CI tk nf c) (hr : okR tk nf c (.inl x)) (hp : p < 96) (h43 : gA w 43 0 (4 * p) = nI x.1) (hps : ∀ k, k < x.2.length → gA w 43 0 (4 * p + 1 + k) = nI (x.2.getD k 0)) : ∃ w', f_X9_comesTerm N w (nI (4 * p)) = some w' ∧ MK w' tk (stp tk c (.inl x)) ∧ FrM w w' := by
  obtain ⟨⟨hT, hR, m1, m2, m3, m4⟩, hS, hQ⟩ := hX
  have hP := hC.term hr
  obtain ⟨h1, -, -, -, -, -, hnf, -⟩ := hC
  obtain ⟨r1, r2, r3, r4⟩ := hr
  have hlen : (cL c ++ [x]).length = (cL c).length + 1 := by rw [List.length_append]; rfl
  have ho := h1.2.2.1.out (Nat.le_refl _)
  rw [tN_mk] at ho
  have h27 : gF w 9 27 0 = nI (cL c).length := hT.2.2.1
  let w1 : Mem := sA w 46 0 (cL c).length (nI x.1)
  have hw1 : FrK 46 w w1 := FrK.set
  obtain ⟨w2, a1, a2, a3, a4⟩ := lp_ct17 (fun (w_3 : Mem) => (f_X9_comesTerm_70 N w_3)) (N := N) (n := (cL c).length) (p := p) (fn := x.1) (ps := x.2) r4 hp r1 r2 3 N 0 w1 (by omega) (by omega) ⟨hF.1, hF.2.1, fun g hg => by rw [hw1.A (by omega)]; exact hF.2.2 g hg⟩ h27 (by rw [hw1.A (by omega)]; exact h43) (fun k hk => by rw [hw1.A (by omega)]; exact hps k hk) (fun k hk => absurd hk (Nat.not_lt_zero k))
  let w3 : Mem := sF (sA (sA (sA w2 52 0 (cL c).length (nI (cL c).length)) 53 0 (cL c).length n2) 54 0 (cL c).length n1) 9 27 0 (nI ((cL c).length + 1))
  have hw3 : Fr (fun k j i => k = 9 ∧ j = 27 ∧ i = 0) (fun k i => (k = 52 ∨ k = 53 ∨ k = 54) ∧ i = 0) w2 w3 :=
    ⟨fun k j i h => by show gF (sF _ _ _ _ _) _ _ _ = _; rw [gF_sF, if_neg h]; rfl, fun k i h => by show gA (sF _ _ _ _ _) _ _ = _; rw [gA_sF, gA_sA_ne (fun z => h ⟨by omega, z.2⟩), gA_sA_ne (fun z => h ⟨by omega, z.2⟩), gA_sA_ne (fun z => h ⟨by omega, z.2⟩)], fun _ _ => rfl, fun _ _ _ => rfl⟩
  have hw23 : Fr (fun k j i => k = 9 ∧ j = 27 ∧ i = 0) (fun k i => (k = 46 ∨ k = 47 ∨ k = 52 ∨ k = 53 ∨ k = 54) ∧ i = 0) w w3 := (hw1.mono (fun _ _ _ z => z.elim) (fun _ _ z => by omega)).tr ((a4.mono (fun _ _ _ z => z.elim) (fun _ _ z => by omega)).tr (hw3.mono (fun _ _ _ z => z) (fun _ _ z => by omega)))
  have e46 : ∀ t, gA w3 46 0 t = if t = (cL c).length then nI x.1 else gA w 46 0 t := by
    intro t
    rw [hw3.2.1 46 0 (fun z => by omega), a4.A (by omega)]
    show gA (sA _ _ _ _ _) _ _ _ = _
    by_cases e : t = (cL c).length
    · rw [if_pos e]; simp (disch := omega) only [↓lm1, ↓lm2, eq_n1, eq_n2, n1_eq, n2_eq, n1_n2, n2_n1, n1_lt, n2_lt, n1_le, lt_n1, lt_n2, inb_t, cl_t, le_tt, le_tf, lt_tt, lt_tf, eq_tt, eq_tf, q_add, q_mul, li0, li1, li2, li3, li4, li5, li6, li7, li8, li12, li16, li24, li48, li500, gF_sA, gA_sF, gF_sF, gR_sA, gR_sF, gL_sA, gL_sF, gA_sA, shl_t, or_t, and_t, sbit_t, ubit_t, b01_0, b01_1, Option.bind_some, ↓reduceIte, eq_self, ne_eq, not_true_eq_false, Bool.false_eq_true, not_false_eq_true, true_and, and_true, false_and, and_false, if_pos, if_neg]
    · rw [if_neg e]; simp (disch := omega) only [↓lm1, ↓lm2, eq_n1, eq_n2, n1_eq, n2_eq, n1_n2, n2_n1, n1_lt, n2_lt, n1_le, lt_n1, lt_n2, inb_t, cl_t, le_tt, le_tf, lt_tt, lt_tf, eq_tt, eq_tf, q_add, q_mul, li0, li1, li2, li3, li4, li5, li6, li7, li8, li12, li16, li24, li48, li500, gF_sA, gA_sF, gF_sF, gR_sA, gR_sF, gL_sA, gL_sF, gA_sA, shl_t, or_t, and_t, sbit_t, ubit_t, b01_0, b01_1, Option.bind_some, ↓reduceIte, eq_self, ne_eq, not_true_eq_false, Bool.false_eq_true, not_false_eq_true, true_and, and_true, false_and, and_false, if_pos, if_neg]
  have hn : tN (mkT tk (cL c ++ [x])) = (cL c).length + 1 := hlen
  have hX3 : MX w3 (mkT tk (cL c ++ [x])) (cJ c) := by
    refine ⟨⟨hP.2.1, hP.1, ?_, fun t ht => ?_, fun t k ht hk => ?_⟩, ⟨hP.2.1, hP.2.2.2.1, ?_, fun i hi => ?_⟩, hP.2.1, ?_, fun q y z s r hq => ?_, fun t ht => ?_, fun t u d ht hFt => ?_⟩
    · rw [hn]; show gF (sF _ _ _ _ _) _ _ _ = _; rw [gF_sF, if_pos ⟨rfl, rfl, rfl⟩]
    · rw [hn] at ht
      rw [tF_mk, tA_mk, e46, hw23.2.1 41 0 (fun z => by omega)]
      by_cases e : t = (cL c).length
      · subst e; rw [tlF_last, if_pos rfl]; exact ⟨by omega, (hF.2.2 _ r1).1, rfl, (hF.2.2 _ r1).2⟩
      · rw [tlF_snoc (by omega), if_neg e]; exact hT.2.2.2.1 t (show t < (cL c).length by omega)
    · rw [hn] at ht
      rw [tF_mk, tA_mk] at hk
      rw [tP_mk, hw3.2.1 47 0 (fun z => by omega)]
      by_cases e : t = (cL c).length
      · subst e
        rw [tlF_last] at hk
        rw [tlP_last]
        exact a2 k (by rw [r2]; exact hk)
      · rw [tlF_snoc (by omega)] at hk
        rw [tlP_snoc (by omega)]
        have hk3 := (hT.2.2.2.1 t (show t < (cL c).length by omega)).2.1
        rw [tF_mk, tA_mk] at hk3
        rw [a3 _ (by omega), hw1.A (by omega)]
        exact hT.2.2.2.2 t k (show t < (cL c).length by omega) hk
    · rw [hn]; show gF (sF _ _ _ _ _) _ _ _ = _; rw [gF_sF, if_pos ⟨rfl, rfl, rfl⟩]
    · rw [hn] at hi
      show gA (sF (sA (sA (sA w2 52 0 (cL c).length (nI (cL c).length)) 53 0 (cL c).length n2) 54 0 (cL c).length n1) 9 27 0 (nI ((cL c).length + 1))) 52 0 i = _
      by_cases e : i = (cL c).length
      · subst e; rw [ho]; simp (disch := omega) only [↓lm1, ↓lm2, eq_n1, eq_n2, n1_eq, n2_eq, n1_n2, n2_n1, n1_lt, n2_lt, n1_le, lt_n1, lt_n2, inb_t, cl_t, le_tt, le_tf, lt_tt, lt_tf, eq_tt, eq_tf, q_add, q_mul, li0, li1, li2, li3, li4, li5, li6, li7, li8, li12, li16, li24, li48, li500, gF_sA, gA_sF, gF_sF, gR_sA, gR_sF, gL_sA, gL_sF, gA_sA, shl_t, or_t, and_t, sbit_t, ubit_t, b01_0, b01_1, Option.bind_some, ↓reduceIte, eq_self, ne_eq, not_true_eq_false, Bool.false_eq_true, not_false_eq_true, true_and, and_true, false_and, and_false, if_pos, if_neg]
      · have e2 : gA w2 52 0 i = nI (ldJ (cJ c) i) := by rw [a4.A (by omega), hw1.A (by omega)]; exact hR.2.2.2 i (show i < (cL c).length by omega)
        rw [← e2]; simp (disch := omega) only [↓lm1, ↓lm2, eq_n1, eq_n2, n1_eq, n2_eq, n1_n2, n2_n1, n1_lt, n2_lt, n1_le, lt_n1, lt_n2, inb_t, cl_t, le_tt, le_tf, lt_tt, lt_tf, eq_tt, eq_tf, q_add, q_mul, li0, li1, li2, li3, li4, li5, li6, li7, li8, li12, li16, li24, li48, li500, gF_sA, gA_sF, gF_sF, gR_sA, gR_sF, gL_sA, gL_sF, gA_sA, shl_t, or_t, and_t, sbit_t, ubit_t, b01_0, b01_1, Option.bind_some, ↓reduceIte, eq_self, ne_eq, not_true_eq_false, Bool.false_eq_true, not_false_eq_true, true_and, and_true, false_and, and_false, if_pos, if_neg]
    · rw [hw23.1 9 39 0 (fun z => by omega)]; exact m2
    · rw [hw23.2.1 55 0 (fun z => by omega), hw23.2.1 56 0 (fun z => by omega), hw23.2.1 57 0 (fun z => by omega), hw23.2.1 58 0 (fun z => by omega)]
      exact m3 q y z s r hq
    · rw [hn] at ht
      show gA (sF (sA (sA (sA w2 52 0 (cL c).length (nI (cL c).length)) 53 0 (cL c).length n2) 54 0 (cL c).length n1) 9 27 0 (nI ((cL c).length + 1))) 53 0 t = _
      by_cases e : t = (cL c).length
      · subst e
        rw [show frJ (cJ c) (cL c).length = none from h1.2.2.2.2.1.out (Nat.le_refl _)]
        simp (disch := omega) only [↓lm1, ↓lm2, eq_n1, eq_n2, n1_eq, n2_eq, n1_n2, n2_n1, n1_lt, n2_lt, n1_le, lt_n1, lt_n2, inb_t, cl_t, le_tt, le_tf, lt_tt, lt_tf, eq_tt, eq_tf, q_add, q_mul, li0, li1, li2, li3, li4, li5, li6, li7, li8, li12, li16, li24, li48, li500, gF_sA, gA_sF, gF_sF, gR_sA, gR_sF, gL_sA, gL_sF, gA_sA, shl_t, or_t, and_t, sbit_t, ubit_t, b01_0, b01_1, Option.bind_some, ↓reduceIte, eq_self, ne_eq, not_true_eq_false, Bool.false_eq_true, not_false_eq_true, true_and, and_true, false_and, and_false, if_pos, if_neg, mO_none]
      · have e2 : gA w2 53 0 t = mO (frJ (cJ c) t) := by rw [a4.A (by omega), hw1.A (by omega)]; exact m4.1 t (show t < (cL c).length by omega)
        rw [← e2]; simp (disch := omega) only [↓lm1, ↓lm2, eq_n1, eq_n2, n1_eq, n2_eq, n1_n2, n2_n1, n1_lt, n2_lt, n1_le, lt_n1, lt_n2, inb_t, cl_t, le_tt, le_tf, lt_tt, lt_tf, eq_tt, eq_tf, q_add, q_mul, li0, li1, li2, li3, li4, li5, li6, li7, li8, li12, li16, li24, li48, li500, gF_sA, gA_sF, gF_sF, gR_sA, gR_sF, gL_sA, gL_sF, gA_sA, shl_t, or_t, and_t, sbit_t, ubit_t, b01_0, b01_1, Option.bind_some, ↓reduceIte, eq_self, ne_eq, not_true_eq_false, Bool.false_eq_true, not_false_eq_true, true_and, and_true, false_and, and_false, if_pos, if_neg]
    · rw [hn] at ht
      show gA (sF (sA (sA (sA w2 52 0 (cL c).length (nI (cL c).length)) 53 0 (cL c).length n2) 54 0 (cL c).length n1) 9 27 0 (nI ((cL c).length + 1))) 54 0 t = _
      by_cases e : t = (cL c).length
      · subst e
        rw [show frJ (cJ c) (cL c).length = none from h1.2.2.2.2.1.out (Nat.le_refl _)] at hFt
        cases hFt
      · have e2 : gA w2 54 0 t = nI d := by rw [a4.A (by omega), hw1.A (by omega)]; exact m4.2 t u d (show t < (cL c).length by omega) hFt
        rw [← e2]; simp (disch := omega) only [↓lm1, ↓lm2, eq_n1, eq_n2, n1_eq, n2_eq, n1_n2, n2_n1, n1_lt, n2_lt, n1_le, lt_n1, lt_n2, inb_t, cl_t, le_tt, le_tf, lt_tt, lt_tf, eq_tt, eq_tf, q_add, q_mul, li0, li1, li2, li3, li4, li5, li6, li7, li8, li12, li16, li24, li48, li500, gF_sA, gA_sF, gF_sF, gR_sA, gR_sF, gL_sA, gL_sF, gA_sA, shl_t, or_t, and_t, sbit_t, ubit_t, b01_0, b01_1, Option.bind_some, ↓reduceIte, eq_self, ne_eq, not_true_eq_false, Bool.false_eq_true, not_false_eq_true, true_and, and_true, false_and, and_false, if_pos, if_neg]
  obtain ⟨w4, b1, b2, b3⟩ := closes_ok hN hX3 hP
  have hAll : Fr (fun k j i => k = 9 ∧ (j = 0 ∨ j = 27 ∨ j = 39) ∧ i = 0) (fun k i => (k = 46 ∨ k = 47 ∨ (52 ≤ k ∧ k ≤ 58)) ∧ i = 0) w w4 := (hw23.mono (fun _ _ _ z => by omega) (fun _ _ z => by omega)).tr (b3.mono (fun _ _ _ z => by omega) (fun _ _ z => by omega))
  refine ⟨w4, ?_, ⟨b2, ?_, ?_⟩, hAll.mono (fun _ _ _ z => by omega) (fun _ _ z => by omega)⟩
  · have b1' : f_X9_closes N (sF (sA (sA (sA w2 52 0 (cL c).length (nI (cL c).length)) 53 0 (cL c).length n2) 54 0 (cL c).length n1) 9 27 0 (nI ((cL c).length + 1))) = some w4 := b1
    have h27' : gF w2 9 27 0 = nI (cL c).length := (a4.F _ _ _).trans h27
    rw [f_X9_comesTerm]
    simp (disch := omega) only [↓lm1, ↓lm2, eq_n1, eq_n2, n1_eq, n2_eq, n1_n2, n2_n1, n1_lt, n2_lt, n1_le, lt_n1, lt_n2, inb_t, cl_t, le_tt, le_tf, lt_tt, lt_tf, eq_tt, eq_tf, q_add, q_mul, li0, li1, li2, li3, li4, li5, li6, li7, li8, li12, li16, li24, li48, li500, gF_sA, gA_sF, gF_sF, gR_sA, gR_sF, gL_sA, gL_sF, gA_sA, shl_t, or_t, and_t, sbit_t, ubit_t, b01_0, b01_1, Option.bind_some, ↓reduceIte, eq_self, ne_eq, not_true_eq_false, Bool.false_eq_true, not_false_eq_true, true_and, and_true, false_and, and_false, if_pos, if_neg, h27, h43]
    refine a1.trans ?_
    rw [f_X9_comesTerm_70]
    simp (disch := omega) only [↓lm1, ↓lm2, eq_n1, eq_n2, n1_eq, n2_eq, n1_n2, n2_n1, n1_lt, n2_lt, n1_le, lt_n1, lt_n2, inb_t, cl_t, le_tt, le_tf, lt_tt, lt_tf, eq_tt, eq_tf, q_add, q_mul, li0, li1, li2, li3, li4, li5, li6, li7, li8, li12, li16, li24, li48, li500, gF_sA, gA_sF, gF_sF, gR_sA, gR_sF, gL_sA, gL_sF, gA_sA, shl_t, or_t, and_t, sbit_t, ubit_t, b01_0, b01_1, Option.bind_some, ↓reduceIte, eq_self, ne_eq, not_true_eq_false, Bool.false_eq_true, not_false_eq_true, true_and, and_true, false_and, and_false, if_pos, if_neg, h27', b1']
  · show MSS w4 (cL c ++ [x]).length (cS c)
    rw [hlen]
    exact hS.more.fr hAll (fun _ _ _ z => by omega) (fun _ _ z => by omega)
  · show MD w4 (cL c ++ [x]).length (cQ c)
    rw [hlen]
    exact hQ.more.fr hAll (fun _ _ _ z => by omega) (fun _ _ z => by omega)
theorem comesSame_ok {N nf a b : Nat} {w : Mem} {tk : Nat → Nat} {c : Core} (hN : 276 < N) (hX : MK w tk c) (hC : CI tk nf c) (hr : okR tk nf c (.inr (true, a, b))) : ∃ w', f_X9_comesSame N w (nI a) (nI b) = some w' ∧ MK w' tk (stp tk c (.inr (true, a, b))) ∧ FrM w w' := by
  obtain ⟨hX, hS, hQ⟩ := hX
  obtain ⟨h1, -⟩ := hC
  obtain ⟨r1, r2, r3⟩ := hr
  have hn24 : (cL c).length ≤ 24 := h1.2.1
  let w1 : Mem := sF (sA (sA w 48 0 (cS c).length (nI a)) 49 0 (cS c).length (nI b)) 9 30 0 (nI ((cS c).length + 1))
  have hw1 : Fr (fun k j i => k = 9 ∧ j = 30 ∧ i = 0) (fun k i => (k = 48 ∨ k = 49) ∧ i = 0) w w1 :=
    ⟨fun k j i h => by show gF (sF _ _ _ _ _) _ _ _ = _; rw [gF_sF, if_neg h]; rfl, fun k i h => by show gA (sF _ _ _ _ _) _ _ = _; rw [gA_sF, gA_sA_ne (fun z => h ⟨Or.inr z.1, z.2⟩), gA_sA_ne (fun z => h ⟨Or.inl z.1, z.2⟩)], fun _ _ => rfl, fun _ _ _ => rfl⟩
  have hS1 : MSS w1 (cL c).length (cS c ++ [(a, b)]) := by
    refine ⟨by rw [List.length_append]; show _ + 1 ≤ 12; omega, by show gF (sF _ _ _ _ _) _ _ _ = _; rw [gF_sF, if_pos ⟨rfl, rfl, rfl⟩, List.length_append]; rfl, fun p i j hp => ?_⟩
    show _ ∧ _ ∧ gA (sF (sA (sA w 48 0 (cS c).length (nI a)) 49 0 (cS c).length (nI b)) 9 30 0 (nI ((cS c).length + 1))) 48 0 p = _ ∧ gA (sF (sA (sA w 48 0 (cS c).length (nI a)) 49 0 (cS c).length (nI b)) 9 30 0 (nI ((cS c).length + 1))) 49 0 p = _
    rcases get_snoc hp with ⟨g1, g2⟩ | ⟨g1, g2⟩
    · obtain ⟨k1, k2, k3, k4⟩ := hS.2.2 p i j g2
      refine ⟨k1, k2, k3 ▸ ?_, k4 ▸ ?_⟩ <;> simp (disch := omega) only [↓lm1, ↓lm2, eq_n1, eq_n2, n1_eq, n2_eq, n1_n2, n2_n1, n1_lt, n2_lt, n1_le, lt_n1, lt_n2, inb_t, cl_t, le_tt, le_tf, lt_tt, lt_tf, eq_tt, eq_tf, q_add, q_mul, li0, li1, li2, li3, li4, li5, li6, li7, li8, li12, li16, li24, li48, li500, gF_sA, gA_sF, gF_sF, gR_sA, gR_sF, gL_sA, gL_sF, gA_sA, shl_t, or_t, and_t, sbit_t, ubit_t, b01_0, b01_1, Option.bind_some, ↓reduceIte, eq_self, ne_eq, not_true_eq_false, Bool.false_eq_true, not_false_eq_true, true_and, and_true, false_and, and_false, if_pos, if_neg]
    · obtain ⟨rfl, rfl⟩ := Prod.mk.inj g2
      subst g1
      refine ⟨r1, r2, ?_, ?_⟩ <;> simp (disch := omega) only [↓lm1, ↓lm2, eq_n1, eq_n2, n1_eq, n2_eq, n1_n2, n2_n1, n1_lt, n2_lt, n1_le, lt_n1, lt_n2, inb_t, cl_t, le_tt, le_tf, lt_tt, lt_tf, eq_tt, eq_tf, q_add, q_mul, li0, li1, li2, li3, li4, li5, li6, li7, li8, li12, li16, li24, li48, li500, gF_sA, gA_sF, gF_sF, gR_sA, gR_sF, gL_sA, gL_sF, gA_sA, shl_t, or_t, and_t, sbit_t, ubit_t, b01_0, b01_1, Option.bind_some, ↓reduceIte, eq_self, ne_eq, not_true_eq_false, Bool.false_eq_true, not_false_eq_true, true_and, and_true, false_and, and_false, if_pos, if_neg]
  have hX1 : MX w1 (mkT tk (cL c)) (cJ c) := hX.fr hw1 (fun _ _ _ z => by omega) (fun _ _ z => by omega)
  have hQ1 : MD w1 (cL c).length (cQ c) := hQ.fr hw1 (fun _ _ _ z => by omega) (fun _ _ z => by omega)
  have s1 : gF w 9 30 0 = nI (cS c).length := hS.2.1
  have l1 := (hX.2.1.2.1 a r1).1
  have l2 := (hX.2.1.2.1 b r2).1
  have e1 := hX.2.1.2.2.2 a r1
  have e2 := hX.2.1.2.2.2 b r2
  by_cases e : ldJ (cJ c) a = ldJ (cJ c) b
  · have es : stp tk c (.inr (true, a, b)) = (cL c, cS c ++ [(a, b)], cQ c, cJ c) := by
      show (cL c, cS c ++ [(a, b)], cQ c, if ldJ (cJ c) a = ldJ (cJ c) b then cJ c else _) = _
      rw [if_pos e]
    refine ⟨w1, ?_, by rw [es]; exact ⟨hX1, hS1, hQ1⟩, hw1.mono (fun _ _ _ z => by omega) (fun _ _ z => by omega)⟩
    rw [f_X9_comesSame]
    simp (disch := omega) only [↓lm1, ↓lm2, eq_n1, eq_n2, n1_eq, n2_eq, n1_n2, n2_n1, n1_lt, n2_lt, n1_le, lt_n1, lt_n2, inb_t, cl_t, le_tt, le_tf, lt_tt, lt_tf, eq_tt, eq_tf, q_add, q_mul, li0, li1, li2, li3, li4, li5, li6, li7, li8, li12, li16, li24, li48, li500, gF_sA, gA_sF, gF_sF, gR_sA, gR_sF, gL_sA, gL_sF, gA_sA, shl_t, or_t, and_t, sbit_t, ubit_t, b01_0, b01_1, Option.bind_some, ↓reduceIte, eq_self, ne_eq, not_true_eq_false, Bool.false_eq_true, not_false_eq_true, true_and, and_true, false_and, and_false, if_pos, if_neg, s1, e1, e2]
    rfl
  · have es : stp tk c (.inr (true, a, b)) = (cL c, cS c ++ [(a, b)], cQ c, clJ 24 (mkT tk (cL c)) (cJ c ++ [(a, b, some (cS c).length, 2 ^ (cS c).length)])) := by
      show (cL c, cS c ++ [(a, b)], cQ c, if ldJ (cJ c) a = ldJ (cJ c) b then cJ c else _) = _
      rw [if_neg e]
    have hP : PC (mkT tk (cL c)) (cJ c ++ [(a, b, some (cS c).length, 2 ^ (cS c).length)]) := h1.join r1 r2 e (Nat.lt_of_lt_of_le (Nat.pow_lt_pow_right (a := 2) (by decide) r3) (by decide)) (fun k hk => by
      obtain rfl := Option.some.inj hk
      exact r3)
    obtain ⟨w2, a1, a2, a3⟩ := joinsTwo_ok (a := a) (b := b) (r := 2 ^ (cS c).length) (c := some (cS c).length) (N := N) (by omega) hX1 h1 r1 r2 e (Or.inl ⟨_, rfl, r3, rfl⟩)
    obtain ⟨w3, b1, b2, b3⟩ := closes_ok hN a2 hP
    have h13 : Fr (fun k j i => k = 9 ∧ (j = 0 ∨ j = 39) ∧ i = 0) (fun k i => (52 ≤ k ∧ k ≤ 58) ∧ i = 0) w1 w3 := (a3.mono (fun _ _ _ z => by omega) (fun _ _ z => z)).tr b3
    refine ⟨w3, ?_, by rw [es]; exact ⟨b2, hS1.fr h13 (fun _ _ _ z => by omega) (fun _ _ z => by omega), hQ1.fr h13 (fun _ _ _ z => by omega) (fun _ _ z => by omega)⟩, (hw1.mono (fun _ _ _ z => by omega) (fun _ _ z => by omega)).tr (h13.mono (fun _ _ _ z => by omega) (fun _ _ z => by omega))⟩
    have a1' : f_X9_joinsTwo N (sF (sA (sA w 48 0 (cS c).length (nI a)) 49 0 (cS c).length (nI b)) 9 30 0 (nI ((cS c).length + 1))) (nI a) (nI b) (nI (cS c).length) = some w2 := a1
    rw [f_X9_comesSame]
    simp (disch := omega) only [↓lm1, ↓lm2, eq_n1, eq_n2, n1_eq, n2_eq, n1_n2, n2_n1, n1_lt, n2_lt, n1_le, lt_n1, lt_n2, inb_t, cl_t, le_tt, le_tf, lt_tt, lt_tf, eq_tt, eq_tf, q_add, q_mul, li0, li1, li2, li3, li4, li5, li6, li7, li8, li12, li16, li24, li48, li500, gF_sA, gA_sF, gF_sF, gR_sA, gR_sF, gL_sA, gL_sF, gA_sA, shl_t, or_t, and_t, sbit_t, ubit_t, b01_0, b01_1, Option.bind_some, ↓reduceIte, eq_self, ne_eq, not_true_eq_false, Bool.false_eq_true, not_false_eq_true, true_and, and_true, false_and, and_false, if_pos, if_neg, s1, e1, e2, q_sub, Nat.add_sub_cancel, a1', b1]
theorem comes_ok {N nf p : Nat} {w : Mem} {tk : Nat → Nat} {c : Core} {r : Row} (hN : 276 < N) (hX : MK w tk c) (hF : MFN w nf tk) (hC : CI tk nf c) (hr : okR tk nf c r) (hp : p < 96) (hrow : RW1 w p r) : ∃ w', f_X9_comes N w (nI p) = some w' ∧ MK w' tk (stp tk c r) ∧ FrM w w' := by
  cases r with
  | inl x =>
    obtain ⟨k1, k2, k3⟩ := hrow
    obtain ⟨w', a1, a2, a3⟩ := comesTerm_ok hN hX hF hC hr hp k2 k3
    refine ⟨w', ?_, a2, a3⟩
    rw [f_X9_comes]
    simp (disch := omega) only [↓lm1, ↓lm2, eq_n1, eq_n2, n1_eq, n2_eq, n1_n2, n2_n1, n1_lt, n2_lt, n1_le, lt_n1, lt_n2, inb_t, cl_t, le_tt, le_tf, lt_tt, lt_tf, eq_tt, eq_tf, q_add, q_mul, li0, li1, li2, li3, li4, li5, li6, li7, li8, li12, li16, li24, li48, li500, gF_sA, gA_sF, gF_sF, gR_sA, gR_sF, gL_sA, gL_sF, gA_sA, shl_t, or_t, and_t, sbit_t, ubit_t, b01_0, b01_1, Option.bind_some, ↓reduceIte, eq_self, ne_eq, not_true_eq_false, Bool.false_eq_true, not_false_eq_true, true_and, and_true, false_and, and_false, if_pos, if_neg, k1, a1]
  | inr y =>
    obtain ⟨bb, a, b⟩ := y
    cases bb with
    | true =>
      obtain ⟨k1, k2, k3⟩ := hrow
      obtain ⟨w', a1, a2, a3⟩ := comesSame_ok hN hX hC hr
      refine ⟨w', ?_, a2, a3⟩
      rw [f_X9_comes]
      simp (disch := omega) only [↓lm1, ↓lm2, eq_n1, eq_n2, n1_eq, n2_eq, n1_n2, n2_n1, n1_lt, n2_lt, n1_le, lt_n1, lt_n2, inb_t, cl_t, le_tt, le_tf, lt_tt, lt_tf, eq_tt, eq_tf, q_add, q_mul, li0, li1, li2, li3, li4, li5, li6, li7, li8, li12, li16, li24, li48, li500, gF_sA, gA_sF, gF_sF, gR_sA, gR_sF, gL_sA, gL_sF, gA_sA, shl_t, or_t, and_t, sbit_t, ubit_t, b01_0, b01_1, Option.bind_some, ↓reduceIte, eq_self, ne_eq, not_true_eq_false, Bool.false_eq_true, not_false_eq_true, true_and, and_true, false_and, and_false, if_pos, if_neg, k1, k2, k3, a1]
    | false =>
      obtain ⟨k1, k2, k3⟩ := hrow
      obtain ⟨hX, hS, hQ⟩ := hX
      obtain ⟨r1, r2, r3⟩ := hr
      let w1 : Mem := sF (sA (sA w 50 0 (cQ c).length (nI a)) 51 0 (cQ c).length (nI b)) 9 33 0 (nI ((cQ c).length + 1))
      have hw1 : Fr (fun k j i => k = 9 ∧ j = 33 ∧ i = 0) (fun k i => (k = 50 ∨ k = 51) ∧ i = 0) w w1 :=
        ⟨fun k j i h => by show gF (sF _ _ _ _ _) _ _ _ = _; rw [gF_sF, if_neg h]; rfl, fun k i h => by show gA (sF _ _ _ _ _) _ _ = _; rw [gA_sF, gA_sA_ne (fun z => h ⟨Or.inr z.1, z.2⟩), gA_sA_ne (fun z => h ⟨Or.inl z.1, z.2⟩)], fun _ _ => rfl, fun _ _ _ => rfl⟩
      have hQ1 : MD w1 (cL c).length (cQ c ++ [(a, b)]) := by
        refine ⟨by rw [List.length_append]; show _ + 1 ≤ 8; omega, by show gF (sF _ _ _ _ _) _ _ _ = _; rw [gF_sF, if_pos ⟨rfl, rfl, rfl⟩, List.length_append]; rfl, fun p i j hp => ?_⟩
        show _ ∧ _ ∧ gA (sF (sA (sA w 50 0 (cQ c).length (nI a)) 51 0 (cQ c).length (nI b)) 9 33 0 (nI ((cQ c).length + 1))) 50 0 p = _ ∧ gA (sF (sA (sA w 50 0 (cQ c).length (nI a)) 51 0 (cQ c).length (nI b)) 9 33 0 (nI ((cQ c).length + 1))) 51 0 p = _
        rcases get_snoc hp with ⟨g1, g2⟩ | ⟨g1, g2⟩
        · obtain ⟨k1, k2, k3, k4⟩ := hQ.2.2 p i j g2
          refine ⟨k1, k2, k3 ▸ ?_, k4 ▸ ?_⟩ <;> simp (disch := omega) only [↓lm1, ↓lm2, eq_n1, eq_n2, n1_eq, n2_eq, n1_n2, n2_n1, n1_lt, n2_lt, n1_le, lt_n1, lt_n2, inb_t, cl_t, le_tt, le_tf, lt_tt, lt_tf, eq_tt, eq_tf, q_add, q_mul, li0, li1, li2, li3, li4, li5, li6, li7, li8, li12, li16, li24, li48, li500, gF_sA, gA_sF, gF_sF, gR_sA, gR_sF, gL_sA, gL_sF, gA_sA, shl_t, or_t, and_t, sbit_t, ubit_t, b01_0, b01_1, Option.bind_some, ↓reduceIte, eq_self, ne_eq, not_true_eq_false, Bool.false_eq_true, not_false_eq_true, true_and, and_true, false_and, and_false, if_pos, if_neg]
        · obtain ⟨rfl, rfl⟩ := Prod.mk.inj g2
          subst g1
          refine ⟨r1, r2, ?_, ?_⟩ <;> simp (disch := omega) only [↓lm1, ↓lm2, eq_n1, eq_n2, n1_eq, n2_eq, n1_n2, n2_n1, n1_lt, n2_lt, n1_le, lt_n1, lt_n2, inb_t, cl_t, le_tt, le_tf, lt_tt, lt_tf, eq_tt, eq_tf, q_add, q_mul, li0, li1, li2, li3, li4, li5, li6, li7, li8, li12, li16, li24, li48, li500, gF_sA, gA_sF, gF_sF, gR_sA, gR_sF, gL_sA, gL_sF, gA_sA, shl_t, or_t, and_t, sbit_t, ubit_t, b01_0, b01_1, Option.bind_some, ↓reduceIte, eq_self, ne_eq, not_true_eq_false, Bool.false_eq_true, not_false_eq_true, true_and, and_true, false_and, and_false, if_pos, if_neg]
      refine ⟨w1, ?_, ⟨hX.fr hw1 (fun _ _ _ z => by omega) (fun _ _ z => by omega), hS.fr hw1 (fun _ _ _ z => by omega) (fun _ _ z => by omega), hQ1⟩, hw1.mono (fun _ _ _ z => by omega) (fun _ _ z => by omega)⟩
      rw [f_X9_comes]
      simp (disch := omega) only [↓lm1, ↓lm2, eq_n1, eq_n2, n1_eq, n2_eq, n1_n2, n2_n1, n1_lt, n2_lt, n1_le, lt_n1, lt_n2, inb_t, cl_t, le_tt, le_tf, lt_tt, lt_tf, eq_tt, eq_tf, q_add, q_mul, li0, li1, li2, li3, li4, li5, li6, li7, li8, li12, li16, li24, li48, li500, gF_sA, gA_sF, gF_sF, gR_sA, gR_sF, gL_sA, gL_sF, gA_sA, shl_t, or_t, and_t, sbit_t, ubit_t, b01_0, b01_1, Option.bind_some, ↓reduceIte, eq_self, ne_eq, not_true_eq_false, Bool.false_eq_true, not_false_eq_true, true_and, and_true, false_and, and_false, if_pos, if_neg, k1, k2, k3, hQ.2.1]
      rfl
/-- the rows from off on -/
def RWS (w : Mem) (off : Nat) (rs : List Row) : Prop := ∀ (p : Nat) (r : Row), rs[p]? = some r → RW1 w (off + p) r
theorem RWS.fr {w v : Mem} {off : Nat} {rs : List Row} (h : RWS w off rs) (hf : FrM w v) : RWS v off rs := fun p r hp => (h p r hp).fr hf
theorem makes_ok {N nf : Nat} {w : Mem} {tk : Nat → Nat} {rs : List Row} (hN : 276 < N) (hF : MFN w nf tk) (hrs : RWS w 0 rs) (h8 : gF w 9 8 0 = nI rs.length) (hl : rs.length ≤ 48) (hok : okRs tk nf c0 rs) : ∃ w', f_X9_makes N w = some w' ∧ MK w' tk (run tk c0 rs) ∧ FrM w w' := by
  have hnf := hF.1
  have h3 : ∀ g, g < nf → tk g ≤ 3 := fun g hg => (hF.2.2 g hg).1
  let w0 : Mem := sF (sF (sF (sF w 9 27 0 (nI 0)) 9 30 0 (nI 0)) 9 33 0 (nI 0)) 9 39 0 (nI 0)
  have hw0 : Fr (fun k j i => k = 9 ∧ (j = 27 ∨ j = 30 ∨ j = 33 ∨ j = 39) ∧ i = 0) (fun _ _ => False) w w0 := ⟨fun k j i h => by
    show gF (sF (sF (sF (sF w 9 27 0 (nI 0)) 9 30 0 (nI 0)) 9 33 0 (nI 0)) 9 39 0 (nI 0)) _ _ _ = _
    rw [gF_sF, if_neg (fun z => h ⟨z.1, by omega, z.2.2⟩), gF_sF, if_neg (fun z => h ⟨z.1, by omega, z.2.2⟩), gF_sF, if_neg (fun z => h ⟨z.1, by omega, z.2.2⟩), gF_sF, if_neg (fun z => h ⟨z.1, by omega, z.2.2⟩)], fun _ _ _ => rfl, fun _ _ => rfl, fun _ _ _ => rfl⟩
  have hM0 : MK w0 tk c0 := by
    have q27 : gF w0 9 27 0 = nI 0 := rfl
    have q30 : gF w0 9 30 0 = nI 0 := rfl
    have q33 : gF w0 9 33 0 = nI 0 := rfl
    have q39 : gF w0 9 39 0 = nI 0 := rfl
    exact ⟨⟨⟨by show 0 ≤ 24; omega, fun i hi => absurd hi (Nat.not_lt_zero i), q27, fun t ht => absurd ht (Nat.not_lt_zero t), fun t k ht => absurd ht (Nat.not_lt_zero t)⟩, ⟨by show 0 ≤ 24; omega, fun i hi => absurd hi (Nat.not_lt_zero i), q27, fun t ht => absurd ht (Nat.not_lt_zero t)⟩, by show 0 ≤ 24; omega, q39, fun p a b c r hp => by simp [c0, cJ] at hp, fun t ht => absurd ht (Nat.not_lt_zero t), fun t u c ht => absurd ht (Nat.not_lt_zero t)⟩, ⟨by show 0 ≤ 12; omega, q30, fun p i j hp => by simp [c0, cS] at hp⟩, by show 0 ≤ 8; omega, q33, fun p i j hp => by simp [c0, cQ] at hp⟩
  have hw0M : FrM w w0 := hw0.mono (fun _ _ _ z => by omega) (fun _ _ z => z.elim)
  have key : ∀ r0 fuel q v, q + r0 = rs.length → r0 < fuel → MK v tk (run tk c0 (rs.take q)) → FrM w v → ∃ w', lp_X9_makes_22 (fun (w_1 : Mem) => (f_X9_makes_41 N w_1)) N fuel v (nI q) = some w' ∧ MK w' tk (run tk c0 rs) ∧ FrM w w' := by
    intro r0
    induction r0 with
    | zero =>
      intro fuel q v hq hf hK hv
      obtain ⟨f', rfl⟩ : ∃ f, fuel = f + 1 := ⟨fuel - 1, by omega⟩
      have h8' : gF v 9 8 0 = nI rs.length := (hv.1 _ _ _ (fun z => by omega)).trans h8
      rw [List.take_of_length_le (by omega)] at hK
      refine ⟨v, ?_, hK, hv⟩
      rw [lp_X9_makes_22]
      simp (disch := omega) only [↓lm1, ↓lm2, eq_n1, eq_n2, n1_eq, n2_eq, n1_n2, n2_n1, n1_lt, n2_lt, n1_le, lt_n1, lt_n2, inb_t, cl_t, le_tt, le_tf, lt_tt, lt_tf, eq_tt, eq_tf, q_add, q_mul, li0, li1, li2, li3, li4, li5, li6, li7, li8, li12, li16, li24, li48, li500, gF_sA, gA_sF, gF_sF, gR_sA, gR_sF, gL_sA, gL_sF, gA_sA, shl_t, or_t, and_t, sbit_t, ubit_t, b01_0, b01_1, Option.bind_some, ↓reduceIte, eq_self, ne_eq, not_true_eq_false, Bool.false_eq_true, not_false_eq_true, true_and, and_true, false_and, and_false, if_pos, if_neg, h8']
      rfl
    | succ r0 ih =>
      intro fuel q v hq hf hK hv
      obtain ⟨f', rfl⟩ : ∃ f, fuel = f + 1 := ⟨fuel - 1, by omega⟩
      have h8' : gF v 9 8 0 = nI rs.length := (hv.1 _ _ _ (fun z => by omega)).trans h8
      obtain ⟨r, hr⟩ := get_at rs (q := q) (by omega)
      have htk : rs.take (q + 1) = rs.take q ++ [r] := take_snoc hr
      have hsplit : okRs tk nf c0 (rs.take (q + 1)) := by
        have := hok
        rw [← List.take_append_drop (q + 1) rs] at this
        exact (okRs_app.mp this).1
      rw [htk] at hsplit
      obtain ⟨o1, o2⟩ := okRs_snoc.mp hsplit
      have hC : CI tk nf (run tk c0 (rs.take q)) := (CI.zero hnf h3).rn o1
      have hrow := (hrs q r hr).fr hv
      rw [Nat.zero_add] at hrow
      obtain ⟨v', a1, a2, a3⟩ := comes_ok hN hK (hF.fr hv) hC o2 (by omega) hrow
      obtain ⟨w', e1, e2, e3⟩ := ih f' (q + 1) v' (by omega) (by omega) (by rw [htk, run_snoc]; exact a2) (hv.tr a3)
      refine ⟨w', ?_, e2, e3⟩
      rw [lp_X9_makes_22, ← e1]
      simp (disch := omega) only [↓lm1, ↓lm2, eq_n1, eq_n2, n1_eq, n2_eq, n1_n2, n2_n1, n1_lt, n2_lt, n1_le, lt_n1, lt_n2, inb_t, cl_t, le_tt, le_tf, lt_tt, lt_tf, eq_tt, eq_tf, q_add, q_mul, li0, li1, li2, li3, li4, li5, li6, li7, li8, li12, li16, li24, li48, li500, gF_sA, gA_sF, gF_sF, gR_sA, gR_sF, gL_sA, gL_sF, gA_sA, shl_t, or_t, and_t, sbit_t, ubit_t, b01_0, b01_1, Option.bind_some, ↓reduceIte, eq_self, ne_eq, not_true_eq_false, Bool.false_eq_true, not_false_eq_true, true_and, and_true, false_and, and_false, if_pos, if_neg, h8', a1]
  rw [f_X9_makes]
  exact key rs.length N 0 w0 (by omega) (by omega) hM0 hw0M
