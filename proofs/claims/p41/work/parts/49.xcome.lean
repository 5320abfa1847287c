/-! the class: terms, sames, diffs that come -/
def DP (w : Mem) (f : Nat) (L : Tl) : Prop := ∀ i, i < L.length → gA w 35 f i = nI (dpt L i)
/-- the class's functions -/
def FN (w : Mem) (f nf : Nat) (tk : Nat → Nat) : Prop := nf ≤ 8 ∧ gF w 7 9 f = nI nf ∧ ∀ g, g < nf → tk g ≤ 3 ∧ gA w 31 f g = nI (tk g)
/-- the class's facts f -/
def XK (w : Mem) (f : Nat) (tk : Nat → Nat) (c : Core) : Prop := XC w f (mkT tk (cL c)) (cJ c) ∧ SS w f (cL c).length (cS c) ∧ DS w f (cL c).length (cQ c) ∧ DP w f (cL c)
/-- what coming may change -/
abbrev FrX (f : Nat) (w w' : Mem) : Prop := Fr (fun k j i => (k = 7 ∧ j ≠ 9 ∧ i = f) ∨ (k = 2 ∧ i = f) ∨ (k = 3 ∧ i = 2 + f) ∨ (k = 1 ∧ j ≠ 11 ∧ i = f)) (fun k i => (((13 ≤ k ∧ k ≤ 16) ∨ (19 ≤ k ∧ k ≤ 24) ∨ (33 ≤ k ∧ k ≤ 36) ∨ k = 38 ∨ k = 39) ∧ i = f) ∨ (k = 25 ∧ i = 2 + f)) w w'
theorem FN.fr {w v : Mem} {f nf : Nat} {tk : Nat → Nat} (h : FN w f nf tk) (hf : FrX f w v) : FN v f nf tk := by
  obtain ⟨a, b, c⟩ := h
  refine ⟨a, (hf.1 _ _ _ (fun z => by omega)).trans b, fun g hg => ?_⟩
  rw [hf.2.1 31 f (fun z => by omega)]
  exact c g hg
theorem lp_at74 (k : Int32 → Option Mem) {N f nm v6 : Nat} {w : Mem} (g : Nat → Nat) (q0 : Nat) (hq0 : q0 ≤ 3) (hnm : nm < 8) (h31 : gA w 31 f nm = nI q0) (hv6 : v6 + 3 ≤ 72) (hg : ∀ i, i < q0 → g i < 24 ∧ ∃ p, p < 24 ∧ gA w 36 f (v6 + i) = nI p ∧ gA w 35 f p = nI (g i)) (fuel : Nat) (hf : 3 < fuel) : lp_X7_addTerm_74 k N w f (nI nm) (nI v6) fuel (nI 0) (nI 0) = k (nI (dmx g q0)) := by
  obtain ⟨a, e1, e2⟩ := lpc q0 (fun fu a q => lp_X7_addTerm_74 k N w f (nI nm) (nI v6) fu a q) k (fun q a => a = nI (dmx g q)) (fun fu a ha => by
    show lp_X7_addTerm_74 k N w f (nI nm) (nI v6) (fu + 1) a (nI q0) = _
    rw [lp_X7_addTerm_74]
    simp (disch := omega) only [↓lm1, ↓lm2, eq_n1, eq_n2, n1_eq, n2_eq, n1_n2, n2_n1, n1_lt, n2_lt, n1_le, lt_n1, lt_n2, inb_t, cl_t, le_tt, le_tf, lt_tt, lt_tf, eq_tt, eq_tf, q_add, q_mul, li0, li1, li2, li3, li4, li5, li6, li7, li8, li12, li16, li24, li48, li500, gF_sA, gA_sF, gF_sF, gR_sA, gR_sF, gL_sA, gL_sF, gA_sA, shl_t, or_t, and_t, sbit_t, ubit_t, b01_0, b01_1, Option.bind_some, ↓reduceIte, eq_self, ne_eq, not_true_eq_false, Bool.false_eq_true, not_false_eq_true, true_and, and_true, false_and, and_false, if_pos, if_neg, h31]) (fun fu q a hq ha => by
    subst ha
    refine ⟨_, rfl, ?_⟩
    show lp_X7_addTerm_74 k N w f (nI nm) (nI v6) (fu + 1) _ (nI q) = lp_X7_addTerm_74 k N w f (nI nm) (nI v6) fu _ (nI (q + 1))
    obtain ⟨g1, p, p1, p2, p3⟩ := hg q hq
    have hd : dmx g q ≤ 24 := dmx_le q (fun k hk => by have := (hg k (by omega)).1; omega)
    rw [lp_X7_addTerm_74, dmx]
    by_cases z : dmx g q < 1 + g q
    · simp (disch := omega) only [↓lm1, ↓lm2, eq_n1, eq_n2, n1_eq, n2_eq, n1_n2, n2_n1, n1_lt, n2_lt, n1_le, lt_n1, lt_n2, inb_t, cl_t, le_tt, le_tf, lt_tt, lt_tf, eq_tt, eq_tf, q_add, q_mul, li0, li1, li2, li3, li4, li5, li6, li7, li8, li12, li16, li24, li48, li500, gF_sA, gA_sF, gF_sF, gR_sA, gR_sF, gL_sA, gL_sF, gA_sA, shl_t, or_t, and_t, sbit_t, ubit_t, b01_0, b01_1, Option.bind_some, ↓reduceIte, eq_self, ne_eq, not_true_eq_false, Bool.false_eq_true, not_false_eq_true, true_and, and_true, false_and, and_false, if_pos, if_neg, h31, p2, p3, Nat.max_eq_right (Nat.le_of_lt z)]
    · simp (disch := omega) only [↓lm1, ↓lm2, eq_n1, eq_n2, n1_eq, n2_eq, n1_n2, n2_n1, n1_lt, n2_lt, n1_le, lt_n1, lt_n2, inb_t, cl_t, le_tt, le_tf, lt_tt, lt_tf, eq_tt, eq_tf, q_add, q_mul, li0, li1, li2, li3, li4, li5, li6, li7, li8, li12, li16, li24, li48, li500, gF_sA, gA_sF, gF_sF, gR_sA, gR_sF, gL_sA, gL_sF, gA_sA, shl_t, or_t, and_t, sbit_t, ubit_t, b01_0, b01_1, Option.bind_some, ↓reduceIte, eq_self, ne_eq, not_true_eq_false, Bool.false_eq_true, not_false_eq_true, true_and, and_true, false_and, and_false, if_pos, if_neg, h31, p2, p3, Nat.max_eq_left (Nat.le_of_not_lt z)]) 0 fuel (nI 0) (by omega) (by omega) rfl
  subst e1
  exact e2
/-- three numbers as the parts of a term -/
def ar3 (a b c : Int32) : Nat → Int32
  | 0 => a
  | 1 => b
  | _ => c
theorem addTerm_ok {N f fn : Nat} {w : Mem} {tk : Nat → Nat} {L : Tl} {ps : List Nat} {nm a b c : Int32} (hN : 24 < N) (hT : TS w f (mkT tk L)) (hD : DP w f L) (hdl : ∀ i, dpt L i ≤ i) (hl : L.length < 24) (hfn : fn < 8) (h31 : gA w 31 f fn = nI (tk fn)) (htk : tk fn ≤ 3) (hps : ps.length = tk fn) (hpl : ∀ k, k < ps.length → ps.getD k 0 < L.length) (har : ∀ k, k < ps.length → ar3 a b c k = nI (ps.getD k 0)) : ∃ w', f_X7_addTerm N w f nm (nI fn) a b c = some w' ∧ TS w' f (mkT tk (L ++ [(fn, ps)])) ∧ DP w' f (L ++ [(fn, ps)]) ∧ gA w' 34 f L.length = nm ∧ (∀ i, i ≠ L.length → gA w' 34 f i = gA w 34 f i) ∧ Fr (fun k j i => (k = 7 ∧ j ≠ 9 ∧ i = f)) (fun k i => (((33 ≤ k ∧ k ≤ 36) ∨ k = 38 ∨ k = 39) ∧ i = f)) w w' := by
  obtain ⟨t1, t2, t3, t4, t5⟩ := hT.to0
  rw [tN_mk] at t1 t3 t4 t5
  have hlen : (L ++ [(fn, ps)]).length = L.length + 1 := by rw [List.length_append]; rfl
  let w1 : Mem := sA (sA (sA (sA (sA w 36 f (L.length * 3) a) 36 f (L.length * 3 + 1) b) 36 f (L.length * 3 + 2) c) 34 f L.length nm) 33 f L.length (nI fn)
  let g : Nat → Nat := fun k => dpt L (ps.getD k 0)
  have hw1 : Fr (fun _ _ _ => False) (fun k i => (33 ≤ k ∧ k ≤ 36) ∧ i = f) w w1 := by
    refine ⟨fun _ _ _ _ => rfl, fun k i hk => ?_, fun _ _ => rfl, fun _ _ _ => rfl⟩
    show gA (sA (sA (sA (sA (sA w 36 f (L.length * 3) a) 36 f (L.length * 3 + 1) b) 36 f (L.length * 3 + 2) c) 34 f L.length nm) 33 f L.length (nI fn)) k i = _
    rw [gA_sA_ne (fun z => hk ⟨by omega, z.2⟩), gA_sA_ne (fun z => hk ⟨by omega, z.2⟩), gA_sA_ne (fun z => hk ⟨by omega, z.2⟩), gA_sA_ne (fun z => hk ⟨by omega, z.2⟩), gA_sA_ne (fun z => hk ⟨by omega, z.2⟩)]
  have h36 : ∀ i, gA w1 36 f i = if i = L.length * 3 + 2 then c else if i = L.length * 3 + 1 then b else if i = L.length * 3 then a else gA w 36 f i := by
    intro i
    show gA (sA (sA (sA (sA (sA w 36 f (L.length * 3) a) 36 f (L.length * 3 + 1) b) 36 f (L.length * 3 + 2) c) 34 f L.length nm) 33 f L.length (nI fn)) 36 f i = _
    simp only [gA_sA, true_and]
    rw [if_neg (by omega), if_neg (by omega)]
  have hparts : ∀ k, k < ps.length → gA w1 36 f (L.length * 3 + k) = nI (ps.getD k 0) := by
    intro k hk
    rw [← har k hk, h36]
    have : k = 0 ∨ k = 1 ∨ k = 2 := by omega
    rcases this with rfl | rfl | rfl
    · rw [if_neg (by omega), if_neg (by omega), if_pos (by omega)]; rfl
    · rw [if_neg (by omega), if_pos (by omega)]; rfl
    · rw [if_pos (by omega)]; rfl
  have hg : ∀ i, i < tk fn → g i < 24 ∧ ∃ p, p < 24 ∧ gA w1 36 f (L.length * 3 + i) = nI p ∧ gA w1 35 f p = nI (g i) := by
    intro i hi
    have h1 := hpl i (by omega)
    have h2 := hdl (ps.getD i 0)
    refine ⟨by show dpt L (ps.getD i 0) < 24; omega, ps.getD i 0, by omega, hparts i (by omega), ?_⟩
    have : gA w1 35 f (ps.getD i 0) = gA w 35 f (ps.getD i 0) := by
      show gA (sA (sA (sA (sA (sA w 36 f (L.length * 3) a) 36 f (L.length * 3 + 1) b) 36 f (L.length * 3 + 2) c) 34 f L.length nm) 33 f L.length (nI fn)) 35 f _ = _
      simp (disch := omega) only [↓lm1, ↓lm2, eq_n1, eq_n2, n1_eq, n2_eq, n1_n2, n2_n1, n1_lt, n2_lt, n1_le, lt_n1, lt_n2, inb_t, cl_t, le_tt, le_tf, lt_tt, lt_tf, eq_tt, eq_tf, q_add, q_mul, li0, li1, li2, li3, li4, li5, li6, li7, li8, li12, li16, li24, li48, li500, gF_sA, gA_sF, gF_sF, gR_sA, gR_sF, gL_sA, gL_sF, gA_sA, shl_t, or_t, and_t, sbit_t, ubit_t, b01_0, b01_1, Option.bind_some, ↓reduceIte, eq_self, ne_eq, not_true_eq_false, Bool.false_eq_true, not_false_eq_true, true_and, and_true, false_and, and_false, if_pos, if_neg]
    rw [this]
    exact hD _ h1
  have hdm : dmx g (tk fn) ≤ 24 := dmx_le _ (fun k hk => by have := (hg k hk).1; omega)
  let w2 : Mem := sF (sA w1 35 f L.length (nI (dmx g (tk fn)))) 7 10 f (nI (L.length + 1))
  have hw2 : Fr (fun k j i => k = 7 ∧ j = 10 ∧ i = f) (fun k i => k = 35 ∧ i = f) w1 w2 :=
    ⟨fun k j i h => by show gF (sF _ _ _ _ _) _ _ _ = _; rw [gF_sF, if_neg h]; rfl, fun k i h => by show gA (sF _ _ _ _ _) _ _ = _; rw [gA_sF, gA_sA_ne h], fun _ _ => rfl, fun _ _ _ => rfl⟩
  have h12 : Fr (fun k j i => k = 7 ∧ j = 10 ∧ i = f) (fun k i => (33 ≤ k ∧ k ≤ 36) ∧ i = f) w w2 := (hw1.mono (fun _ _ _ z => z.elim) (fun _ _ z => z)).tr (hw2.mono (fun _ _ _ z => z) (fun _ _ z => by omega))
  have h33 : ∀ i, gA w2 33 f i = if i = L.length then nI fn else gA w 33 f i := by
    intro i
    rw [hw2.2.1 33 f (fun z => by omega)]
    show gA (sA (sA (sA (sA (sA w 36 f (L.length * 3) a) 36 f (L.length * 3 + 1) b) 36 f (L.length * 3 + 2) c) 34 f L.length nm) 33 f L.length (nI fn)) 33 f i = _
    by_cases e : i = L.length
    · rw [if_pos e]; simp (disch := omega) only [↓lm1, ↓lm2, eq_n1, eq_n2, n1_eq, n2_eq, n1_n2, n2_n1, n1_lt, n2_lt, n1_le, lt_n1, lt_n2, inb_t, cl_t, le_tt, le_tf, lt_tt, lt_tf, eq_tt, eq_tf, q_add, q_mul, li0, li1, li2, li3, li4, li5, li6, li7, li8, li12, li16, li24, li48, li500, gF_sA, gA_sF, gF_sF, gR_sA, gR_sF, gL_sA, gL_sF, gA_sA, shl_t, or_t, and_t, sbit_t, ubit_t, b01_0, b01_1, Option.bind_some, ↓reduceIte, eq_self, ne_eq, not_true_eq_false, Bool.false_eq_true, not_false_eq_true, true_and, and_true, false_and, and_false, if_pos, if_neg]
    · rw [if_neg e]; simp (disch := omega) only [↓lm1, ↓lm2, eq_n1, eq_n2, n1_eq, n2_eq, n1_n2, n2_n1, n1_lt, n2_lt, n1_le, lt_n1, lt_n2, inb_t, cl_t, le_tt, le_tf, lt_tt, lt_tf, eq_tt, eq_tf, q_add, q_mul, li0, li1, li2, li3, li4, li5, li6, li7, li8, li12, li16, li24, li48, li500, gF_sA, gA_sF, gF_sF, gR_sA, gR_sF, gL_sA, gL_sF, gA_sA, shl_t, or_t, and_t, sbit_t, ubit_t, b01_0, b01_1, Option.bind_some, ↓reduceIte, eq_self, ne_eq, not_true_eq_false, Bool.false_eq_true, not_false_eq_true, true_and, and_true, false_and, and_false, if_pos, if_neg]
  have h36' : gA w2 36 f = gA w1 36 f := hw2.2.1 36 f (fun z => by omega)
  have h31' : gA w2 31 f = gA w 31 f := h12.2.1 31 f (fun z => by omega)
  have hT2 : TS0 w2 f (mkT tk (L ++ [(fn, ps)])) := by
    have hn : tN (mkT tk (L ++ [(fn, ps)])) = L.length + 1 := hlen
    refine ⟨by rw [hn]; omega, ?_, by rw [hn]; show gF (sF _ _ _ _ _) _ _ _ = _; rw [gF_sF, if_pos ⟨rfl, rfl, rfl⟩], fun t ht => ?_, fun t k ht hk => ?_⟩
    · intro i hi k hk
      rw [hn] at hi
      rw [tP_mk]
      rw [tA_mk, tF_mk] at hk
      by_cases e : i = L.length
      · subst e
        rw [tlF_last] at hk
        rw [tlP_last]
        exact hpl k (by rw [hps]; exact hk)
      · rw [tlF_snoc (by omega)] at hk
        rw [tlP_snoc (by omega)]
        exact t2 i (show i < L.length by omega) k hk
    · rw [hn] at ht
      rw [tF_mk, tA_mk, h33, h31']
      by_cases e : t = L.length
      · subst e; rw [tlF_last, if_pos rfl]; exact ⟨hfn, htk, rfl, h31⟩
      · rw [tlF_snoc (by omega), if_neg e]; exact t4 t (by omega)
    · rw [hn] at ht
      rw [tF_mk, tA_mk] at hk
      rw [tP_mk, h36']
      by_cases e : t = L.length
      · subst e
        rw [tlF_last] at hk
        rw [tlP_last]
        exact hparts k (by rw [hps]; exact hk)
      · rw [tlF_snoc (by omega)] at hk
        rw [tlP_snoc (by omega)]
        have hk3 := (t4 t (by omega)).2.1
        rw [tF_mk, tA_mk] at hk3
        rw [h36, if_neg (by omega), if_neg (by omega), if_neg (by omega)]
        exact t5 t k (by omega) hk
  obtain ⟨w3, c1, c2, c3⟩ := listPairs_ok (N := N) hN hT2
  have h13 := (h12.mono (P' := fun k j i => (k = 7 ∧ j ≠ 9 ∧ i = f)) (Q' := fun k i => (((33 ≤ k ∧ k ≤ 36) ∨ k = 38 ∨ k = 39) ∧ i = f)) (fun _ _ _ z => by omega) (fun _ _ z => by omega)).tr (c3.mono (fun _ _ _ z => by omega) (fun _ _ z => by omega))
  have h34 : ∀ i, gA w3 34 f i = if i = L.length then nm else gA w 34 f i := by
    intro i
    rw [c3.2.1 34 f (fun z => by omega), hw2.2.1 34 f (fun z => by omega)]
    show gA (sA (sA (sA (sA (sA w 36 f (L.length * 3) a) 36 f (L.length * 3 + 1) b) 36 f (L.length * 3 + 2) c) 34 f L.length nm) 33 f L.length (nI fn)) 34 f i = _
    by_cases e : i = L.length
    · rw [if_pos e]; simp (disch := omega) only [↓lm1, ↓lm2, eq_n1, eq_n2, n1_eq, n2_eq, n1_n2, n2_n1, n1_lt, n2_lt, n1_le, lt_n1, lt_n2, inb_t, cl_t, le_tt, le_tf, lt_tt, lt_tf, eq_tt, eq_tf, q_add, q_mul, li0, li1, li2, li3, li4, li5, li6, li7, li8, li12, li16, li24, li48, li500, gF_sA, gA_sF, gF_sF, gR_sA, gR_sF, gL_sA, gL_sF, gA_sA, shl_t, or_t, and_t, sbit_t, ubit_t, b01_0, b01_1, Option.bind_some, ↓reduceIte, eq_self, ne_eq, not_true_eq_false, Bool.false_eq_true, not_false_eq_true, true_and, and_true, false_and, and_false, if_pos, if_neg]
    · rw [if_neg e]; simp (disch := omega) only [↓lm1, ↓lm2, eq_n1, eq_n2, n1_eq, n2_eq, n1_n2, n2_n1, n1_lt, n2_lt, n1_le, lt_n1, lt_n2, inb_t, cl_t, le_tt, le_tf, lt_tt, lt_tf, eq_tt, eq_tf, q_add, q_mul, li0, li1, li2, li3, li4, li5, li6, li7, li8, li12, li16, li24, li48, li500, gF_sA, gA_sF, gF_sF, gR_sA, gR_sF, gL_sA, gL_sF, gA_sA, shl_t, or_t, and_t, sbit_t, ubit_t, b01_0, b01_1, Option.bind_some, ↓reduceIte, eq_self, ne_eq, not_true_eq_false, Bool.false_eq_true, not_false_eq_true, true_and, and_true, false_and, and_false, if_pos, if_neg]
  refine ⟨w3, ?_, c2, fun i hi => ?_, by rw [h34, if_pos rfl], fun i hi => by rw [h34, if_neg hi], h13⟩
  · rw [f_X7_addTerm]
    simp (disch := omega) only [↓lm1, ↓lm2, eq_n1, eq_n2, n1_eq, n2_eq, n1_n2, n2_n1, n1_lt, n2_lt, n1_le, lt_n1, lt_n2, inb_t, cl_t, le_tt, le_tf, lt_tt, lt_tf, eq_tt, eq_tf, q_add, q_mul, li0, li1, li2, li3, li4, li5, li6, li7, li8, li12, li16, li24, li48, li500, gF_sA, gA_sF, gF_sF, gR_sA, gR_sF, gL_sA, gL_sF, gA_sA, shl_t, or_t, and_t, sbit_t, ubit_t, b01_0, b01_1, Option.bind_some, ↓reduceIte, eq_self, ne_eq, not_true_eq_false, Bool.false_eq_true, not_false_eq_true, true_and, and_true, false_and, and_false, if_pos, if_neg, t3]
    refine (lp_at74 _ (w := w1) (nm := fn) (v6 := L.length * 3) g (tk fn) htk hfn (by rw [hw1.2.1 31 f (fun z => by omega)]; exact h31) (by omega) hg N (by omega)).trans ?_
    rw [f_X7_addTerm_115]
    have e3 : gF w1 7 10 f = nI L.length := t3
    have e4 : f_X7_listPairs N (sF (sA w1 35 f L.length (nI (dmx g (tk fn)))) 7 10 f (nI (L.length + 1))) f = some w3 := c1
    show (if inb (gF w1 7 10 f) 24 = true then Option.bind (f_X7_listPairs N (sF (sA w1 35 f (gF w1 7 10 f).toNatClampNeg (nI (dmx g (tk fn)))) 7 10 f (gF (sA w1 35 f (gF w1 7 10 f).toNatClampNeg (nI (dmx g (tk fn)))) 7 10 f + 1)) f) (fun z8 => some z8) else none) = some w3
    simp (disch := omega) only [↓lm1, ↓lm2, eq_n1, eq_n2, n1_eq, n2_eq, n1_n2, n2_n1, n1_lt, n2_lt, n1_le, lt_n1, lt_n2, inb_t, cl_t, le_tt, le_tf, lt_tt, lt_tf, eq_tt, eq_tf, q_add, q_mul, li0, li1, li2, li3, li4, li5, li6, li7, li8, li12, li16, li24, li48, li500, gF_sA, gA_sF, gF_sF, gR_sA, gR_sF, gL_sA, gL_sF, gA_sA, shl_t, or_t, and_t, sbit_t, ubit_t, b01_0, b01_1, Option.bind_some, ↓reduceIte, eq_self, ne_eq, not_true_eq_false, Bool.false_eq_true, not_false_eq_true, true_and, and_true, false_and, and_false, if_pos, if_neg, e3, e4]
  · rw [hlen] at hi
    rw [c3.2.1 35 f (fun z => by omega), dpt_snoc]
    have e5 : gA w2 35 f i = if i = L.length then nI (dmx g (tk fn)) else gA w 35 f i := by
      show gA (sF (sA w1 35 f L.length (nI (dmx g (tk fn)))) 7 10 f (nI (L.length + 1))) 35 f i = _
      have e6 : gA w1 35 f i = gA w 35 f i := by
        show gA (sA (sA (sA (sA (sA w 36 f (L.length * 3) a) 36 f (L.length * 3 + 1) b) 36 f (L.length * 3 + 2) c) 34 f L.length nm) 33 f L.length (nI fn)) 35 f i = _
        simp (disch := omega) only [↓lm1, ↓lm2, eq_n1, eq_n2, n1_eq, n2_eq, n1_n2, n2_n1, n1_lt, n2_lt, n1_le, lt_n1, lt_n2, inb_t, cl_t, le_tt, le_tf, lt_tt, lt_tf, eq_tt, eq_tf, q_add, q_mul, li0, li1, li2, li3, li4, li5, li6, li7, li8, li12, li16, li24, li48, li500, gF_sA, gA_sF, gF_sF, gR_sA, gR_sF, gL_sA, gL_sF, gA_sA, shl_t, or_t, and_t, sbit_t, ubit_t, b01_0, b01_1, Option.bind_some, ↓reduceIte, eq_self, ne_eq, not_true_eq_false, Bool.false_eq_true, not_false_eq_true, true_and, and_true, false_and, and_false, if_pos, if_neg]
      by_cases e : i = L.length
      · rw [if_pos e]; simp (disch := omega) only [↓lm1, ↓lm2, eq_n1, eq_n2, n1_eq, n2_eq, n1_n2, n2_n1, n1_lt, n2_lt, n1_le, lt_n1, lt_n2, inb_t, cl_t, le_tt, le_tf, lt_tt, lt_tf, eq_tt, eq_tf, q_add, q_mul, li0, li1, li2, li3, li4, li5, li6, li7, li8, li12, li16, li24, li48, li500, gF_sA, gA_sF, gF_sF, gR_sA, gR_sF, gL_sA, gL_sF, gA_sA, shl_t, or_t, and_t, sbit_t, ubit_t, b01_0, b01_1, Option.bind_some, ↓reduceIte, eq_self, ne_eq, not_true_eq_false, Bool.false_eq_true, not_false_eq_true, true_and, and_true, false_and, and_false, if_pos, if_neg]
      · rw [if_neg e, ← e6]; simp (disch := omega) only [↓lm1, ↓lm2, eq_n1, eq_n2, n1_eq, n2_eq, n1_n2, n2_n1, n1_lt, n2_lt, n1_le, lt_n1, lt_n2, inb_t, cl_t, le_tt, le_tf, lt_tt, lt_tf, eq_tt, eq_tf, q_add, q_mul, li0, li1, li2, li3, li4, li5, li6, li7, li8, li12, li16, li24, li48, li500, gF_sA, gA_sF, gF_sF, gR_sA, gR_sF, gL_sA, gL_sF, gA_sA, shl_t, or_t, and_t, sbit_t, ubit_t, b01_0, b01_1, Option.bind_some, ↓reduceIte, eq_self, ne_eq, not_true_eq_false, Bool.false_eq_true, not_false_eq_true, true_and, and_true, false_and, and_false, if_pos, if_neg]
    rw [e5]
    by_cases e : i = L.length
    · rw [if_pos e, if_pos e]
      show _ = nI (dmx _ ps.length)
      rw [hps]
    · rw [if_neg e, if_neg e]; exact hD i (by omega)
theorem xAddLone_ok {N f n : Nat} {w : Mem} {J : List Jn} (h : FS w f n J) (hn : n < 24) (hF : frJ J n = none) : ∃ w', f_X2_addLone N w f = some w' ∧ FS w' f (n + 1) J ∧ Fr (fun k _ i => k = 2 ∧ i = f) (fun k i => (k = 19 ∨ k = 20) ∧ i = f) w w' := by
  obtain ⟨a, b, c, d, e⟩ := h
  have h0 : Fr (fun k _ i => k = 2 ∧ i = f) (fun k i => (k = 19 ∨ k = 20) ∧ i = f) w (sF (sA (sA w 19 f n n1) 20 f n n1) 2 6 f (nI (n + 1))) :=
    ⟨fun k j i h => by rw [gF_sF, if_neg (fun z => h ⟨z.1, z.2.2⟩)]; rfl, fun k i h => by rw [gA_sF, gA_sA_ne (fun z => h ⟨Or.inr z.1, z.2⟩), gA_sA_ne (fun z => h ⟨Or.inl z.1, z.2⟩)], fun _ _ => rfl, fun _ _ _ => rfl⟩
  refine ⟨_, ?_, ⟨by omega, ?_, ?_, ?_, ?_, ?_⟩, h0⟩
  · rw [f_X2_addLone]
    simp (disch := omega) only [↓lm1, ↓lm2, eq_n1, eq_n2, n1_eq, n2_eq, n1_n2, n2_n1, n1_lt, n2_lt, n1_le, lt_n1, lt_n2, inb_t, cl_t, le_tt, le_tf, lt_tt, lt_tf, eq_tt, eq_tf, q_add, q_mul, li0, li1, li2, li3, li4, li5, li6, li7, li8, li12, li16, li24, li48, li500, gF_sA, gA_sF, gF_sF, gR_sA, gR_sF, gL_sA, gL_sF, gA_sA, shl_t, or_t, and_t, sbit_t, ubit_t, b01_0, b01_1, Option.bind_some, ↓reduceIte, eq_self, ne_eq, not_true_eq_false, Bool.false_eq_true, not_false_eq_true, true_and, and_true, false_and, and_false, if_pos, if_neg, b]
  · rw [gF_sF, if_pos ⟨rfl, rfl, rfl⟩]
  · rw [gF_sF, if_neg (by omega)]; exact c
  · intro p x y z r hp
    rw [h0.2.1 21 f (fun z => by omega), h0.2.1 22 f (fun z => by omega), h0.2.1 23 f (fun z => by omega), h0.2.1 24 f (fun z => by omega)]
    exact d p x y z r hp
  · intro t ht
    by_cases q : t = n
    · subst q; rw [hF]; simp (disch := omega) only [↓lm1, ↓lm2, eq_n1, eq_n2, n1_eq, n2_eq, n1_n2, n2_n1, n1_lt, n2_lt, n1_le, lt_n1, lt_n2, inb_t, cl_t, le_tt, le_tf, lt_tt, lt_tf, eq_tt, eq_tf, q_add, q_mul, li0, li1, li2, li3, li4, li5, li6, li7, li8, li12, li16, li24, li48, li500, gF_sA, gA_sF, gF_sF, gR_sA, gR_sF, gL_sA, gL_sF, gA_sA, shl_t, or_t, and_t, sbit_t, ubit_t, b01_0, b01_1, Option.bind_some, ↓reduceIte, eq_self, ne_eq, not_true_eq_false, Bool.false_eq_true, not_false_eq_true, true_and, and_true, false_and, and_false, if_pos, if_neg, oN_none]
    · rw [← e.1 t (by omega)]; simp (disch := omega) only [↓lm1, ↓lm2, eq_n1, eq_n2, n1_eq, n2_eq, n1_n2, n2_n1, n1_lt, n2_lt, n1_le, lt_n1, lt_n2, inb_t, cl_t, le_tt, le_tf, lt_tt, lt_tf, eq_tt, eq_tf, q_add, q_mul, li0, li1, li2, li3, li4, li5, li6, li7, li8, li12, li16, li24, li48, li500, gF_sA, gA_sF, gF_sF, gR_sA, gR_sF, gL_sA, gL_sF, gA_sA, shl_t, or_t, and_t, sbit_t, ubit_t, b01_0, b01_1, Option.bind_some, ↓reduceIte, eq_self, ne_eq, not_true_eq_false, Bool.false_eq_true, not_false_eq_true, true_and, and_true, false_and, and_false, if_pos, if_neg]
  · intro t u z ht hz
    by_cases q : t = n
    · subst q; rw [hF] at hz; cases hz
    · rw [← e.2 t u z (by omega) hz]; simp (disch := omega) only [↓lm1, ↓lm2, eq_n1, eq_n2, n1_eq, n2_eq, n1_n2, n2_n1, n1_lt, n2_lt, n1_le, lt_n1, lt_n2, inb_t, cl_t, le_tt, le_tf, lt_tt, lt_tf, eq_tt, eq_tf, q_add, q_mul, li0, li1, li2, li3, li4, li5, li6, li7, li8, li12, li16, li24, li48, li500, gF_sA, gA_sF, gF_sF, gR_sA, gR_sF, gL_sA, gL_sF, gA_sA, shl_t, or_t, and_t, sbit_t, ubit_t, b01_0, b01_1, Option.bind_some, ↓reduceIte, eq_self, ne_eq, not_true_eq_false, Bool.false_eq_true, not_false_eq_true, true_and, and_true, false_and, and_false, if_pos, if_neg]
theorem FW.out {F : Fst} {n nJ : Nat} {ld : Nat → Nat} (h : FW F n ld nJ) {t : Nat} (ht : n ≤ t) : F t = none := by
  cases hF : F t with
  | none => rfl
  | some p => have := h.fb t p.1 p.2 hF; omega
theorem SS.more {w : Mem} {f n : Nat} {S : Prs} (h : SS w f n S) : SS w f (n + 1) S := ⟨h.1, h.2.1, fun p i j hp => by obtain ⟨a, b, c, d⟩ := h.2.2 p i j hp; exact ⟨by omega, by omega, c, d⟩⟩
theorem DS.more {w : Mem} {f n : Nat} {S : Prs} (h : DS w f n S) : DS w f (n + 1) S := ⟨h.1, h.2.1, fun p i j hp => by obtain ⟨a, b, c, d⟩ := h.2.2 p i j hp; exact ⟨by omega, by omega, c, d⟩⟩
theorem comeTerm_ok {N f fn nf : Nat} {w : Mem} {tk : Nat → Nat} {c : Core} {ps : List Nat} {nm a b d : Int32} (hN : 276 < N) (hX : XK w f tk c) (hF : FN w f nf tk) (hC : CI tk nf c) (hr : okR tk nf c (.inl (fn, ps))) (har : ∀ k, k < ps.length → ar3 a b d k = nI (ps.getD k 0)) : ∃ w', f_X1_comeTerm N w f nm (nI fn) a b d = some w' ∧ XK w' f tk (stp tk c (.inl (fn, ps))) ∧ gA w' 34 f (cL c).length = nm ∧ (∀ i, i ≠ (cL c).length → gA w' 34 f i = gA w 34 f i) ∧ FrX f w w' := by
  obtain ⟨⟨x1, x2, x3⟩, x4, x5, x6⟩ := hX
  have hP := hC.term hr
  obtain ⟨h1, h2, h3, h4, h5, h6, h7, h8⟩ := hC
  obtain ⟨r1, r2, r3, r4⟩ := hr
  have hlen : (cL c ++ [(fn, ps)]).length = (cL c).length + 1 := by rw [List.length_append]; rfl
  have ho := h1.2.2.1.out (Nat.le_refl _)
  rw [tN_mk] at ho
  obtain ⟨w1, a1, a2, a3, a4, a5, a6⟩ := addTerm_ok (nm := nm) (a := a) (b := b) (c := d) (N := N) (by omega) x1 x6 h6 r4 (by omega) (hF.2.2 fn r1).2 (h8 fn r1) r2 r3 har
  have g1 : GS w1 (2 + f) (cL c).length (ldJ (cJ c)) := x2.of (a6.1 _ _ _ (fun z => by omega)) (a6.1 _ _ _ (fun z => by omega)) (a6.2.1 _ _ (fun z => by omega))
  obtain ⟨w2, b1, b2, b3⟩ := addLone_ok g1 N r4
  have g2 : GS w2 (2 + f) ((cL c).length + 1) (ldJ (cJ c)) := b2.ext (fun i hi => by
    by_cases e : i = (cL c).length
    · rw [if_pos e, e]; exact ho
    · rw [if_neg e])
  have f1 : FS w2 f (cL c).length (cJ c) := (x3.fr a6 (fun _ _ _ z => by omega) (fun _ _ z => by omega)).fr b3 (fun _ _ _ z => by omega) (fun _ _ z => by omega)
  obtain ⟨w3, d1, d2, d3⟩ := xAddLone_ok (N := N) f1 r4 (h1.2.2.2.2.1.out (Nat.le_refl _))
  have hX3 : XC w3 f (mkT tk (cL c ++ [(fn, ps)])) (cJ c) := by
    refine ⟨(a2.fr b3 (fun _ _ _ z => by omega) (fun _ _ z => by omega)).fr d3 (fun _ _ _ z => by omega) (fun _ _ z => by omega), ?_, ?_⟩
    · rw [tN_mk, hlen]
      exact g2.of (d3.1 _ _ _ (fun z => by omega)) (d3.1 _ _ _ (fun z => by omega)) (d3.2.1 _ _ (fun z => by omega))
    · rw [tN_mk, hlen]; exact d2
  obtain ⟨w4, e1, e2, e3⟩ := cio_ok hN hX3 hP
  have hAll : FrX f w w4 := by
    refine Fr.tr (a6.mono (fun _ _ _ z => by omega) (fun _ _ z => by omega)) (Fr.tr (b3.mono (fun _ _ _ z => by omega) (fun _ _ z => by omega)) (Fr.tr (d3.mono (fun _ _ _ z => by omega) (fun _ _ z => by omega)) (e3.mono (fun _ _ _ z => by omega) (fun _ _ z => by omega))))
  have h34 : ∀ i, gA w4 34 f i = gA w1 34 f i := fun i => by
    rw [e3.2.1 34 f (fun z => by omega), d3.2.1 34 f (fun z => by omega), b3.2.1 34 f (fun z => by omega)]
  refine ⟨w4, ?_, ⟨e2, ?_, ?_, fun i hi => ?_⟩, by rw [h34]; exact a4, fun i hi => by rw [h34]; exact a5 i hi, hAll⟩
  · rw [f_X1_comeTerm, a1, Option.bind_some, b1, Option.bind_some, d1, Option.bind_some, e1, Option.bind_some]
  · show SS w4 f (cL c ++ [(fn, ps)]).length (cS c)
    rw [hlen]
    exact ((((x4.more.fr a6 (fun _ _ _ z => by omega) (fun _ _ z => by omega)).fr b3 (fun _ _ _ z => by omega) (fun _ _ z => by omega)).fr d3 (fun _ _ _ z => by omega) (fun _ _ z => by omega)).fr e3 (fun _ _ _ z => by omega) (fun _ _ z => by omega))
  · show DS w4 f (cL c ++ [(fn, ps)]).length (cQ c)
    rw [hlen]
    exact ((((x5.more.fr a6 (fun _ _ _ z => by omega) (fun _ _ z => by omega)).fr b3 (fun _ _ _ z => by omega) (fun _ _ z => by omega)).fr d3 (fun _ _ _ z => by omega) (fun _ _ z => by omega)).fr e3 (fun _ _ _ z => by omega) (fun _ _ z => by omega))
  · have := a3 i hi
    rw [e3.2.1 35 f (fun z => by omega), d3.2.1 35 f (fun z => by omega), b3.2.1 35 f (fun z => by omega)]
    exact this
theorem DP.fr {w v : Mem} {f : Nat} {L : Tl} (h : DP w f L) (he : gA v 35 f = gA w 35 f) : DP v f L := fun i hi => by rw [he]; exact h i hi
theorem SS.push {w : Mem} {f n a b : Nat} {S : Prs} (h : SS w f n S) (hl : S.length < 12) (ha : a < n) (hb : b < n) : SS (sF (sA (sA w 13 f S.length (nI a)) 14 f S.length (nI b)) 1 9 f (nI (S.length + 1))) f n (S ++ [(a, b)]) := by
  refine ⟨by rw [List.length_append]; show _ + 1 ≤ 12; omega, by rw [gF_sF, if_pos ⟨rfl, rfl, rfl⟩, List.length_append]; rfl, fun p i j hp => ?_⟩
  rcases get_snoc hp with ⟨g1, g2⟩ | ⟨g1, g2⟩
  · obtain ⟨k1, k2, k3, k4⟩ := h.2.2 p i j g2
    refine ⟨k1, k2, k3 ▸ ?_, k4 ▸ ?_⟩ <;> simp (disch := omega) only [↓lm1, ↓lm2, eq_n1, eq_n2, n1_eq, n2_eq, n1_n2, n2_n1, n1_lt, n2_lt, n1_le, lt_n1, lt_n2, inb_t, cl_t, le_tt, le_tf, lt_tt, lt_tf, eq_tt, eq_tf, q_add, q_mul, li0, li1, li2, li3, li4, li5, li6, li7, li8, li12, li16, li24, li48, li500, gF_sA, gA_sF, gF_sF, gR_sA, gR_sF, gL_sA, gL_sF, gA_sA, shl_t, or_t, and_t, sbit_t, ubit_t, b01_0, b01_1, Option.bind_some, ↓reduceIte, eq_self, ne_eq, not_true_eq_false, Bool.false_eq_true, not_false_eq_true, true_and, and_true, false_and, and_false, if_pos, if_neg]
  · obtain ⟨rfl, rfl⟩ := Prod.mk.inj g2
    subst g1
    refine ⟨ha, hb, ?_, ?_⟩ <;> simp (disch := omega) only [↓lm1, ↓lm2, eq_n1, eq_n2, n1_eq, n2_eq, n1_n2, n2_n1, n1_lt, n2_lt, n1_le, lt_n1, lt_n2, inb_t, cl_t, le_tt, le_tf, lt_tt, lt_tf, eq_tt, eq_tf, q_add, q_mul, li0, li1, li2, li3, li4, li5, li6, li7, li8, li12, li16, li24, li48, li500, gF_sA, gA_sF, gF_sF, gR_sA, gR_sF, gL_sA, gL_sF, gA_sA, shl_t, or_t, and_t, sbit_t, ubit_t, b01_0, b01_1, Option.bind_some, ↓reduceIte, eq_self, ne_eq, not_true_eq_false, Bool.false_eq_true, not_false_eq_true, true_and, and_true, false_and, and_false, if_pos, if_neg]
theorem comeSame_ok {N f nf a b : Nat} {w : Mem} {tk : Nat → Nat} {c : Core} (hN : 276 < N) (hX : XK w f tk c) (hC : CI tk nf c) (hr : okR tk nf c (.inr (true, a, b))) : ∃ w', f_X1_comeSame N w f (nI a) (nI b) = some w' ∧ XK w' f tk (stp tk c (.inr (true, a, b))) ∧ gA w' 34 f = gA w 34 f ∧ FrX f w w' := by
  obtain ⟨⟨x1, x2, x3⟩, x4, x5, x6⟩ := hX
  obtain ⟨h1, h2, h3, h4, h5, h6, h7, h8⟩ := hC
  obtain ⟨r1, r2, r3⟩ := hr
  let w1 : Mem := sF (sA (sA w 13 f (cS c).length (nI a)) 14 f (cS c).length (nI b)) 1 9 f (nI ((cS c).length + 1))
  have hw1 : Fr (fun k j i => k = 1 ∧ j = 9 ∧ i = f) (fun k i => (k = 13 ∨ k = 14) ∧ i = f) w w1 :=
    ⟨fun k j i h => by show gF (sF _ _ _ _ _) _ _ _ = _; rw [gF_sF, if_neg h]; rfl, fun k i h => by show gA (sF _ _ _ _ _) _ _ = _; rw [gA_sF, gA_sA_ne (fun z => h ⟨Or.inr z.1, z.2⟩), gA_sA_ne (fun z => h ⟨Or.inl z.1, z.2⟩)], fun _ _ => rfl, fun _ _ _ => rfl⟩
  have hS1 : SS w1 f (cL c).length (cS c ++ [(a, b)]) := x4.push r3 r1 r2
  have hX1 : XC w1 f (mkT tk (cL c)) (cJ c) := ⟨x1.fr hw1 (fun _ _ _ z => by omega) (fun _ _ z => by omega), x2.of (hw1.1 _ _ _ (fun z => by omega)) (hw1.1 _ _ _ (fun z => by omega)) (hw1.2.1 _ _ (fun z => by omega)), x3.fr hw1 (fun _ _ _ z => by omega) (fun _ _ z => by omega)⟩
  have hD1 : DS w1 f (cL c).length (cQ c) := by
    obtain ⟨d1, d2, d3⟩ := x5
    refine ⟨d1, (hw1.1 _ _ _ (fun z => by omega)).trans d2, fun p i j hp => ?_⟩
    rw [hw1.2.1 15 f (fun z => by omega), hw1.2.1 16 f (fun z => by omega)]; exact d3 p i j hp
  have hone := one_ok hX1.2.1 N (i := a) (j := b) r1 r2
  have s1 : gF w 1 9 f = nI (cS c).length := x4.2.1
  by_cases e : ldJ (cJ c) a = ldJ (cJ c) b
  · have es : stp tk c (.inr (true, a, b)) = (cL c, cS c ++ [(a, b)], cQ c, cJ c) := by
      show (cL c, cS c ++ [(a, b)], cQ c, if ldJ (cJ c) a = ldJ (cJ c) b then cJ c else _) = _
      rw [if_pos e]
    refine ⟨w1, ?_, by rw [es]; exact ⟨hX1, hS1, hD1, x6.fr (hw1.2.1 _ _ (fun z => by omega))⟩, hw1.2.1 _ _ (fun z => by omega), hw1.mono (fun _ _ _ z => by omega) (fun _ _ z => by omega)⟩
    rw [if_pos e] at hone
    have hone' : f_X3_one N (sF (sA (sA w 13 f (cS c).length (nI a)) 14 f (cS c).length (nI b)) 1 9 f (nI ((cS c).length + 1))) (2 + f) (nI a) (nI b) = some 1 := hone
    rw [f_X1_comeSame]
    simp (disch := omega) only [↓lm1, ↓lm2, eq_n1, eq_n2, n1_eq, n2_eq, n1_n2, n2_n1, n1_lt, n2_lt, n1_le, lt_n1, lt_n2, inb_t, cl_t, le_tt, le_tf, lt_tt, lt_tf, eq_tt, eq_tf, q_add, q_mul, li0, li1, li2, li3, li4, li5, li6, li7, li8, li12, li16, li24, li48, li500, gF_sA, gA_sF, gF_sF, gR_sA, gR_sF, gL_sA, gL_sF, gA_sA, shl_t, or_t, and_t, sbit_t, ubit_t, b01_0, b01_1, Option.bind_some, ↓reduceIte, eq_self, ne_eq, not_true_eq_false, Bool.false_eq_true, not_false_eq_true, true_and, and_true, false_and, and_false, if_pos, if_neg, s1, hone']
    rfl
  · have es : stp tk c (.inr (true, a, b)) = (cL c, cS c ++ [(a, b)], cQ c, clJ 24 (mkT tk (cL c)) (cJ c ++ [(a, b, some (cS c).length, 2 ^ (cS c).length)])) := by
      show (cL c, cS c ++ [(a, b)], cQ c, if ldJ (cJ c) a = ldJ (cJ c) b then cJ c else _) = _
      rw [if_neg e]
    have hP : PC (mkT tk (cL c)) (cJ c ++ [(a, b, some (cS c).length, 2 ^ (cS c).length)]) := h1.join r1 r2 e (Nat.lt_of_lt_of_le (Nat.pow_lt_pow_right (a := 2) (by decide) r3) (by decide)) (fun k hk => by
      obtain rfl := Option.some.inj hk
      exact r3)
    obtain ⟨w2, w3, a1, a2, a3, a4⟩ := xjoin_ok (a := a) (b := b) (r := 2 ^ (cS c).length) (c := some (cS c).length) (N := N) (by omega) hX1 h1 r1 r2 e
    obtain ⟨w4, b1, b2, b3⟩ := cio_ok hN a3 hP
    have h14 := a4.tr b3
    refine ⟨w4, ?_, by rw [es]; exact ⟨b2, hS1.fr h14 (fun _ _ _ z => by omega) (fun _ _ z => by omega), hD1.fr h14 (fun _ _ _ z => by omega) (fun _ _ z => by omega), x6.fr ((h14.2.1 _ _ (fun z => by omega)).trans (hw1.2.1 _ _ (fun z => by omega)))⟩, (h14.2.1 _ _ (fun z => by omega)).trans (hw1.2.1 _ _ (fun z => by omega)), (hw1.mono (fun _ _ _ z => by omega) (fun _ _ z => by omega)).tr (h14.mono (fun _ _ _ z => by omega) (fun _ _ z => by omega))⟩
    rw [if_neg e] at hone
    have hone' : f_X3_one N (sF (sA (sA w 13 f (cS c).length (nI a)) 14 f (cS c).length (nI b)) 1 9 f (nI ((cS c).length + 1))) (2 + f) (nI a) (nI b) = some 0 := hone
    have a1' : f_X2_addJoin N (sF (sA (sA w 13 f (cS c).length (nI a)) 14 f (cS c).length (nI b)) 1 9 f (nI ((cS c).length + 1))) f (nI a) (nI b) (nI (cS c).length) (nI (2 ^ (cS c).length)) = some w2 := a1
    rw [f_X1_comeSame]
    simp (disch := omega) only [↓lm1, ↓lm2, eq_n1, eq_n2, n1_eq, n2_eq, n1_n2, n2_n1, n1_lt, n2_lt, n1_le, lt_n1, lt_n2, inb_t, cl_t, le_tt, le_tf, lt_tt, lt_tf, eq_tt, eq_tf, q_add, q_mul, li0, li1, li2, li3, li4, li5, li6, li7, li8, li12, li16, li24, li48, li500, gF_sA, gA_sF, gF_sF, gR_sA, gR_sF, gL_sA, gL_sF, gA_sA, shl_t, or_t, and_t, sbit_t, ubit_t, b01_0, b01_1, Option.bind_some, ↓reduceIte, eq_self, ne_eq, not_true_eq_false, Bool.false_eq_true, not_false_eq_true, true_and, and_true, false_and, and_false, if_pos, if_neg, s1, hone', q_sub, Nat.add_sub_cancel, a1', a2, b1]
theorem comeDiff_ok {N f nf a b : Nat} {w : Mem} {tk : Nat → Nat} {c : Core} (hX : XK w f tk c) (hr : okR tk nf c (.inr (false, a, b))) : ∃ w', f_X1_comeDiff N w f (nI a) (nI b) = some w' ∧ XK w' f tk (stp tk c (.inr (false, a, b))) ∧ gA w' 34 f = gA w 34 f ∧ FrX f w w' := by
  obtain ⟨⟨x1, x2, x3⟩, x4, x5, x6⟩ := hX
  obtain ⟨r1, r2, r3⟩ := hr
  let w1 : Mem := sF (sA (sA w 15 f (cQ c).length (nI a)) 16 f (cQ c).length (nI b)) 1 10 f (nI ((cQ c).length + 1))
  have hw1 : Fr (fun k j i => k = 1 ∧ j = 10 ∧ i = f) (fun k i => (k = 15 ∨ k = 16) ∧ i = f) w w1 :=
    ⟨fun k j i h => by show gF (sF _ _ _ _ _) _ _ _ = _; rw [gF_sF, if_neg h]; rfl, fun k i h => by show gA (sF _ _ _ _ _) _ _ = _; rw [gA_sF, gA_sA_ne (fun z => h ⟨Or.inr z.1, z.2⟩), gA_sA_ne (fun z => h ⟨Or.inl z.1, z.2⟩)], fun _ _ => rfl, fun _ _ _ => rfl⟩
  refine ⟨w1, ?_, ⟨⟨x1.fr hw1 (fun _ _ _ z => by omega) (fun _ _ z => by omega), x2.of (hw1.1 _ _ _ (fun z => by omega)) (hw1.1 _ _ _ (fun z => by omega)) (hw1.2.1 _ _ (fun z => by omega)), x3.fr hw1 (fun _ _ _ z => by omega) (fun _ _ z => by omega)⟩, ?_, ?_, x6.fr (hw1.2.1 _ _ (fun z => by omega))⟩, hw1.2.1 _ _ (fun z => by omega), hw1.mono (fun _ _ _ z => by omega) (fun _ _ z => by omega)⟩
  · rw [f_X1_comeDiff]
    simp (disch := omega) only [↓lm1, ↓lm2, eq_n1, eq_n2, n1_eq, n2_eq, n1_n2, n2_n1, n1_lt, n2_lt, n1_le, lt_n1, lt_n2, inb_t, cl_t, le_tt, le_tf, lt_tt, lt_tf, eq_tt, eq_tf, q_add, q_mul, li0, li1, li2, li3, li4, li5, li6, li7, li8, li12, li16, li24, li48, li500, gF_sA, gA_sF, gF_sF, gR_sA, gR_sF, gL_sA, gL_sF, gA_sA, shl_t, or_t, and_t, sbit_t, ubit_t, b01_0, b01_1, Option.bind_some, ↓reduceIte, eq_self, ne_eq, not_true_eq_false, Bool.false_eq_true, not_false_eq_true, true_and, and_true, false_and, and_false, if_pos, if_neg, x5.2.1]
    rfl
  · obtain ⟨d1, d2, d3⟩ := x4
    refine ⟨d1, (hw1.1 _ _ _ (fun z => by omega)).trans d2, fun p i j hp => ?_⟩
    rw [hw1.2.1 13 f (fun z => by omega), hw1.2.1 14 f (fun z => by omega)]; exact d3 p i j hp
  · show DS w1 f (cL c).length (cQ c ++ [(a, b)])
    refine ⟨by rw [List.length_append]; show _ + 1 ≤ 8; omega, by show gF (sF _ _ _ _ _) _ _ _ = _; rw [gF_sF, if_pos ⟨rfl, rfl, rfl⟩, List.length_append]; rfl, fun p i j hp => ?_⟩
    show _ ∧ _ ∧ gA (sF (sA (sA w 15 f (cQ c).length (nI a)) 16 f (cQ c).length (nI b)) 1 10 f (nI ((cQ c).length + 1))) 15 f p = _ ∧ gA (sF (sA (sA w 15 f (cQ c).length (nI a)) 16 f (cQ c).length (nI b)) 1 10 f (nI ((cQ c).length + 1))) 16 f p = _
    rcases get_snoc hp with ⟨g1, g2⟩ | ⟨g1, g2⟩
    · obtain ⟨k1, k2, k3, k4⟩ := x5.2.2 p i j g2
      refine ⟨k1, k2, k3 ▸ ?_, k4 ▸ ?_⟩ <;> simp (disch := omega) only [↓lm1, ↓lm2, eq_n1, eq_n2, n1_eq, n2_eq, n1_n2, n2_n1, n1_lt, n2_lt, n1_le, lt_n1, lt_n2, inb_t, cl_t, le_tt, le_tf, lt_tt, lt_tf, eq_tt, eq_tf, q_add, q_mul, li0, li1, li2, li3, li4, li5, li6, li7, li8, li12, li16, li24, li48, li500, gF_sA, gA_sF, gF_sF, gR_sA, gR_sF, gL_sA, gL_sF, gA_sA, shl_t, or_t, and_t, sbit_t, ubit_t, b01_0, b01_1, Option.bind_some, ↓reduceIte, eq_self, ne_eq, not_true_eq_false, Bool.false_eq_true, not_false_eq_true, true_and, and_true, false_and, and_false, if_pos, if_neg]
    · obtain ⟨rfl, rfl⟩ := Prod.mk.inj g2
      subst g1
      refine ⟨r1, r2, ?_, ?_⟩ <;> simp (disch := omega) only [↓lm1, ↓lm2, eq_n1, eq_n2, n1_eq, n2_eq, n1_n2, n2_n1, n1_lt, n2_lt, n1_le, lt_n1, lt_n2, inb_t, cl_t, le_tt, le_tf, lt_tt, lt_tf, eq_tt, eq_tf, q_add, q_mul, li0, li1, li2, li3, li4, li5, li6, li7, li8, li12, li16, li24, li48, li500, gF_sA, gA_sF, gF_sF, gR_sA, gR_sF, gL_sA, gL_sF, gA_sA, shl_t, or_t, and_t, sbit_t, ubit_t, b01_0, b01_1, Option.bind_some, ↓reduceIte, eq_self, ne_eq, not_true_eq_false, Bool.false_eq_true, not_false_eq_true, true_and, and_true, false_and, and_false, if_pos, if_neg]

