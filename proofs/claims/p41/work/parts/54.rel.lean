/-! the class's memory and the model's: what ties them -/
theorem run_len (tk : Nat → Nat) : ∀ (rs : List Row) (c : Core), (cL (run tk c rs)).length + (cS (run tk c rs)).length + (cQ (run tk c rs)).length = (cL c).length + (cS c).length + (cQ c).length + rs.length
  | [], c => rfl
  | r :: rs, c => by
    have ih := run_len tk rs (stp tk c r)
    rw [show run tk c (r :: rs) = run tk (stp tk c r) rs from rfl, ih, List.length_cons]
    cases r with
    | inl x => show (cL c ++ [x]).length + (cS c).length + (cQ c).length + _ = _; rw [List.length_append]; show _ + 1 + _ + _ + _ = _; omega
    | inr y =>
      obtain ⟨bb, a, b⟩ := y
      cases bb with
      | true => show (cL c).length + (cS c ++ [(a, b)]).length + (cQ c).length + _ = _; rw [List.length_append]; show _ + (_ + 1) + _ + _ = _; omega
      | false => show (cL c).length + (cS c).length + (cQ c ++ [(a, b)]).length + _ = _; rw [List.length_append]; show _ + _ + (_ + 1) + _ = _; omega
theorem run_app (tk : Nat → Nat) (c : Core) (r1 r2 : List Row) : run tk c (r1 ++ r2) = run tk (run tk c r1) r2 := by rw [run, List.foldl_append]; rfl
/-! costs: what they are -/
def TOP : Nat := 1000000000
def NOW : Nat := 1000000001
def pl (a b : Nat) : Nat := min TOP (a + b)
def psum (T : Trm) (D : Nat → Nat → Nat) (i j : Nat) : Nat → Nat
  | 0 => 0
  | q + 1 => pl (psum T D i j q) (D (tP T i q) (tP T j q))
def psm (T : Trm) (D : Nat → Nat → Nat) (i j : Nat) : Nat := psum T D i j (tA T (tF T i))
def alk (T : Trm) (ld : Nat → Nat) (i j : Nat) : Prop := i ≠ j ∧ tF T i = tF T j ∧ eqParts T ld i j = true
def Sol (T : Trm) (S : Prs) (ld : Nat → Nat) (D : Nat → Nat → Nat) : Prop :=
  (∀ t, t < tN T → D t t = 0) ∧ (∀ t u, t < tN T → u < tN T → D t u ≤ TOP) ∧ (∀ t u v, t < tN T → u < tN T → v < tN T → D t u ≤ pl (D t v) (D v u)) ∧ (∀ a b, (a, b) ∈ S → D a b ≤ 1 ∧ D b a ≤ 1) ∧ ∀ i j, i < tN T → j < tN T → alk T ld i j → D i j ≤ psm T D i j
def GSol (T : Trm) (S : Prs) (ld : Nat → Nat) (D : Nat → Nat → Nat) : Prop := Sol T S ld D ∧ ∀ E, Sol T S ld E → ∀ t u, t < tN T → u < tN T → E t u ≤ D t u
/-- what a step between two costs -/
noncomputable def wt (T : Trm) (S : Prs) (ld : Nat → Nat) (D : Nat → Nat → Nat) (t u : Nat) : Nat := min (@ite _ ((t, u) ∈ S ∨ (u, t) ∈ S) (Classical.propDecidable _) 1 NOW) (@ite _ (alk T ld t u) (Classical.propDecidable _) (psm T D t u) NOW)
def CO (w : Mem) (tk : Nat → Nat) (c : Core) : Prop := gF w 0 3 0 = nI (cL c).length ∧ ∃ D, GSol (mkT tk (cL c)) (cS c) (ldJ (cJ c)) D ∧ ∀ t u, t < (cL c).length → u < (cL c).length → gA w 10 0 (t * 24 + u) = nI (D t u) ∧ gA w 11 0 (t * 24 + u) = nI (wt (mkT tk (cL c)) (cS c) (ldJ (cJ c)) D t u)
/-! names: words of letters -/
def wn (ls : List Nat) : Nat := ls.foldl (fun a c => a * 27 + (c - 96)) 0
def WOK (ls : List Nat) : Prop := 1 ≤ ls.length ∧ ls.length ≤ 6 ∧ ∀ c, c ∈ ls → 97 ≤ c ∧ c ≤ 122
/-- a byte as the machine holds it -/
def sb (b : Nat) : Int32 := if b < 128 then nI b else nI b - 256
def RelX (wx : Mem) (f nf : Nat) (tk : Nat → Nat) (R A : List Row) (NL : List (List Nat)) (tp : List Nat) : Prop :=
  (f < 2 ∧ gR wx 8 5 0 = f ∧ gR wx 8 6 0 = 1 - f) ∧ XK wx f tk (run tk c0 (R ++ A)) ∧ FN wx f nf tk ∧ AS wx f tk (run tk c0 R) A ∧ (∀ t, t < (cL (run tk c0 (R ++ A))).length → gA wx 34 f t = nI (wn (NL.getD t []))) ∧ (gF wx 6 1 0 = nI tp.length ∧ ∀ i, i < tp.length → gA wx 30 0 i = sb (tp.getD i 0)) ∧ (gF wx 0 4 0 = nI 0 ∨ (gF wx 0 4 0 = nI 1 ∧ CO wx tk (run tk c0 (R ++ A))))
def RelP (nf : Nat) (tk : Nat → Nat) (R A : List Row) (NL : List (List Nat)) (tp : List Nat) : Prop :=
  okRs tk nf c0 (R ++ A) ∧ (∀ ls, ls ∈ NL → WOK ls) ∧ NL.length = (cL (run tk c0 R)).length ∧ tp.length ≤ 500 ∧ ∀ b, b ∈ tp → b < 256
/-- what a call that only looks may change in the class's memory -/
def KX (w w' : Mem) : Prop := (∀ k j i, ¬ ((k = 3 ∧ i ≠ 2 ∧ i ≠ 3) ∨ k = 4 ∨ (k = 8 ∧ (j = 7 ∨ j = 9))) → gF w' k j i = gF w k j i) ∧ (∀ k i, ¬ (k = 12 ∨ (k = 25 ∧ i ≠ 2 ∧ i ≠ 3) ∨ k = 27 ∨ k = 37) → gA w' k i = gA w k i) ∧ ∀ k j i, gR w' k j i = gR w k j i
theorem KX.rf {w : Mem} : KX w w := ⟨fun _ _ _ _ => rfl, fun _ _ _ => rfl, fun _ _ _ => rfl⟩
theorem KX.tr {w v u : Mem} (h1 : KX w v) (h2 : KX v u) : KX w u := ⟨fun k j i h => (h2.1 k j i h).trans (h1.1 k j i h), fun k i h => (h2.2.1 k i h).trans (h1.2.1 k i h), fun k j i => (h2.2.2 k j i).trans (h1.2.2 k j i)⟩
theorem Fr.kx {P : Nat → Nat → Nat → Prop} {Q : Nat → Nat → Prop} {w v : Mem} (h : Fr P Q w v) (hP : ∀ k j i, P k j i → (k = 3 ∧ i ≠ 2 ∧ i ≠ 3) ∨ k = 4 ∨ (k = 8 ∧ (j = 7 ∨ j = 9))) (hQ : ∀ k i, Q k i → k = 12 ∨ (k = 25 ∧ i ≠ 2 ∧ i ≠ 3) ∨ k = 27 ∨ k = 37) : KX w v :=
  ⟨fun k j i z => h.1 k j i (fun q => z (hP k j i q)), fun k i z => h.2.1 k i (fun q => z (hQ k i q)), h.2.2.2⟩
def setL (w' w : Mem) : Mem := (w'.1, w'.2.1, w.2.2.1, w'.2.2.2)
theorem KX.fr {w v : Mem} (h : KX w v) : Fr (fun k j i => (k = 3 ∧ i ≠ 2 ∧ i ≠ 3) ∨ k = 4 ∨ (k = 8 ∧ (j = 7 ∨ j = 9))) (fun k i => k = 12 ∨ (k = 25 ∧ i ≠ 2 ∧ i ≠ 3) ∨ k = 27 ∨ k = 37) w (setL v w) :=
  ⟨fun k j i z => h.1 k j i z, fun k i z => h.2.1 k i z, fun _ _ => rfl, fun k j i => h.2.2 k j i⟩
theorem XK.fr {w v : Mem} {f : Nat} {tk : Nat → Nat} {c : Core} {P : Nat → Nat → Nat → Prop} {Q : Nat → Nat → Prop} (h : XK w f tk c) (hf : Fr P Q w v) (hP : ∀ k j i, P k j i → ¬ (k = 1 ∨ k = 2 ∨ k = 7 ∨ (k = 3 ∧ i = 2 + f))) (hQ : ∀ k i, Q k i → ¬ ((13 ≤ k ∧ k ≤ 24) ∨ (31 ≤ k ∧ k ≤ 36) ∨ k = 38 ∨ k = 39 ∨ (k = 25 ∧ i = 2 + f))) : XK v f tk c := by
  obtain ⟨⟨x1, x2, x3⟩, x4, x5, x6⟩ := h
  exact ⟨⟨x1.fr hf (fun k j i z => by have := hP k j i z; omega) (fun k i z => by have := hQ k i z; omega), x2.of (hf.1 _ _ _ (fun z => hP _ _ _ z (by omega))) (hf.1 _ _ _ (fun z => hP _ _ _ z (by omega))) (hf.2.1 _ _ (fun z => hQ _ _ z (by omega))), x3.fr hf (fun k j i z => by have := hP k j i z; omega) (fun k i z => by have := hQ k i z; omega)⟩, x4.fr hf (fun k j i z => by have := hP k j i z; omega) (fun k i z => by have := hQ k i z; omega), x5.fr hf (fun k j i z => by have := hP k j i z; omega) (fun k i z => by have := hQ k i z; omega), x6.fr (hf.2.1 _ _ (fun z => hQ _ _ z (by omega)))⟩
theorem RelX.kx {w v : Mem} {f nf : Nat} {tk : Nat → Nat} {R A : List Row} {NL : List (List Nat)} {tp : List Nat} (h : RelX w f nf tk R A NL tp) (hk : KX w v) : RelX v f nf tk R A NL tp := by
  obtain ⟨⟨h1, h2, h3⟩, h4, h5, h6, h7, h8, h9⟩ := h
  refine ⟨⟨h1, (hk.2.2 _ _ _).trans h2, (hk.2.2 _ _ _).trans h3⟩, (h4.fr hk.fr (fun _ _ _ z => by omega) (fun _ _ z => by omega) : XK (setL v w) f tk _), ⟨h5.1, (hk.1 _ _ _ (by omega)).trans h5.2.1, fun g hg => by rw [hk.2.1 31 f (by omega)]; exact h5.2.2 g hg⟩, ⟨h6.1, (hk.1 _ _ _ (by omega)).trans h6.2.1, fun p r hp => by rw [hk.2.1 17 f (by omega), hk.2.1 18 f (by omega)]; exact h6.2.2 p r hp⟩, fun t ht => by rw [hk.2.1 34 f (by omega)]; exact h7 t ht, ⟨(hk.1 _ _ _ (by omega)).trans h8.1, fun i hi => by rw [hk.2.1 30 0 (by omega)]; exact h8.2 i hi⟩, ?_⟩
  rcases h9 with h9 | ⟨h9, h10, D, h11, h12⟩
  · exact Or.inl ((hk.1 _ _ _ (by omega)).trans h9)
  · exact Or.inr ⟨(hk.1 _ _ _ (by omega)).trans h9, (hk.1 _ _ _ (by omega)).trans h10, D, h11, fun t u ht hu => by rw [hk.2.1 10 0 (by omega), hk.2.1 11 0 (by omega)]; exact h12 t u ht hu⟩
/-- what a call that only looks may change in the model's memory: s sames -/
def KM (s : Nat) (w w' : Mem) : Prop := (∀ k j i, ¬ (k = 9 ∧ (j = 0 ∨ j = 1 ∨ j = 3 ∨ 40 ≤ j)) → gF w' k j i = gF w k j i) ∧ (∀ k i, ¬ (59 ≤ k ∨ k = 48 ∨ k = 49) → gA w' k i = gA w k i) ∧ ∀ p, p < s → gA w' 48 0 p = gA w 48 0 p ∧ gA w' 49 0 p = gA w 49 0 p
theorem KM.rf {s : Nat} {w : Mem} : KM s w w := ⟨fun _ _ _ _ => rfl, fun _ _ _ => rfl, fun _ _ => ⟨rfl, rfl⟩⟩
theorem KM.tr {s : Nat} {w v u : Mem} (h1 : KM s w v) (h2 : KM s v u) : KM s w u := ⟨fun k j i h => (h2.1 k j i h).trans (h1.1 k j i h), fun k i h => (h2.2.1 k i h).trans (h1.2.1 k i h), fun p hp => ⟨(h2.2.2 p hp).1.trans (h1.2.2 p hp).1, (h2.2.2 p hp).2.trans (h1.2.2 p hp).2⟩⟩
theorem Fr.km {P : Nat → Nat → Nat → Prop} {Q : Nat → Nat → Prop} {w v : Mem} (h : Fr P Q w v) (s : Nat) (hP : ∀ k j i, P k j i → k = 9 ∧ (j = 0 ∨ j = 1 ∨ j = 3 ∨ 40 ≤ j)) (hQ : ∀ k i, Q k i → 59 ≤ k) : KM s w v :=
  ⟨fun k j i z => h.1 k j i (fun q => z (hP k j i q)), fun k i z => h.2.1 k i (fun q => z (Or.inl (hQ k i q))), fun p _ => ⟨by rw [h.2.1 48 0 (fun q => by have := hQ _ _ q; omega)], by rw [h.2.1 49 0 (fun q => by have := hQ _ _ q; omega)]⟩⟩
def xAns (w : Mem) (tr : Int32) : Mem := sF (sF w 8 7 0 tr) 8 9 0 n1
def mAns (w : Mem) (tr : Int32) : Mem := sF (sF (sF w 9 0 0 (nI 0)) 9 3 0 n1) 9 1 0 tr
theorem xAns_kx (w : Mem) (tr : Int32) : KX w (xAns w tr) := ⟨fun k j i z => by
  show gF (sF (sF w 8 7 0 tr) 8 9 0 n1) k j i = _
  rw [gF_sF, if_neg (by omega), gF_sF, if_neg (by omega)], fun _ _ _ => rfl, fun _ _ _ => rfl⟩
theorem mAns_km (s : Nat) (w : Mem) (tr : Int32) : KM s w (mAns w tr) := ⟨fun k j i z => by
  show gF (sF (sF (sF w 9 0 0 (nI 0)) 9 3 0 n1) 9 1 0 tr) k j i = _
  rw [gF_sF, if_neg (by omega), gF_sF, if_neg (by omega), gF_sF, if_neg (by omega)], fun _ _ _ => rfl, fun _ _ => ⟨rfl, rfl⟩⟩
theorem xAns_7 (w : Mem) (tr : Int32) : gF (xAns w tr) 8 7 0 = tr := by
  show gF (sF (sF w 8 7 0 tr) 8 9 0 n1) 8 7 0 = _
  rw [gF_sF, if_neg (by omega), gF_sF, if_pos ⟨rfl, rfl, rfl⟩]
theorem xAns_9 (w : Mem) (tr : Int32) : gF (xAns w tr) 8 9 0 = n1 := by
  show gF (sF (sF w 8 7 0 tr) 8 9 0 n1) 8 9 0 = _
  rw [gF_sF, if_pos ⟨rfl, rfl, rfl⟩]
theorem mAns_1 (w : Mem) (tr : Int32) : gF (mAns w tr) 9 1 0 = tr := by
  show gF (sF (sF (sF w 9 0 0 (nI 0)) 9 3 0 n1) 9 1 0 tr) 9 1 0 = _
  rw [gF_sF, if_pos ⟨rfl, rfl, rfl⟩]
theorem mAns_3 (w : Mem) (tr : Int32) : gF (mAns w tr) 9 3 0 = n1 := by
  show gF (sF (sF (sF w 9 0 0 (nI 0)) 9 3 0 n1) 9 1 0 tr) 9 3 0 = _
  rw [gF_sF, if_neg (by omega), gF_sF, if_pos ⟨rfl, rfl, rfl⟩]
theorem answer_eq (N : Nat) (w : Mem) (x : Int32) : f_X8_answer N w x = some (xAns w (nI 0), x) := rfl
theorem refuse_eq (N : Nat) (w : Mem) (x : Int32) : f_X8_refuse N w x = some (xAns w x, n1) := rfl
/-- a number of a term -/
def isT (n : Nat) (x : Int32) : Prop := ∃ t, t < n ∧ x = nI t
theorem isT_nI {n t : Nat} (ht : t < n) : isT n (nI t) := ⟨t, ht, rfl⟩
theorem b01_01 {P : Prop} : (nI (b01 P) = 0 ∨ nI (b01 P) = 1) = True := eq_true (by
  by_cases h : P
  · rw [b01_t h]; exact Or.inr rfl
  · rw [b01_f h]; exact Or.inl rfl)
theorem isTermX {N n f : Nat} {w : Mem} (hn : n < 1000) (hf : f < 2) (h5 : gR w 8 5 0 = f) (h : gF w 7 10 f = nI n) (x : Int32) : f_X8_isTerm N w x = some (nI (b01 (isT n x))) := by
  rw [f_X8_isTerm, h5]
  rcases i_cases x with hx | ⟨k, hk, rfl⟩
  · rw [if_pos hx, b01_f (fun ⟨t, ht, e⟩ => by rw [e] at hx; exact nI_nn (by omega) hx)]; rfl
  · by_cases z : k < n
    · rw [b01_t ⟨k, z, rfl⟩]
      simp (disch := omega) only [↓lm1, ↓lm2, eq_n1, eq_n2, n1_eq, n2_eq, n1_n2, n2_n1, n1_lt, n2_lt, n1_le, lt_n1, lt_n2, inb_t, cl_t, le_tt, le_tf, lt_tt, lt_tf, eq_tt, eq_tf, q_add, q_mul, li0, li1, li2, li3, li4, li5, li6, li7, li8, li12, li16, li24, li48, li500, gF_sA, gA_sF, gF_sF, gR_sA, gR_sF, gL_sA, gL_sF, gA_sA, shl_t, or_t, and_t, sbit_t, ubit_t, b01_0, b01_1, Option.bind_some, ↓reduceIte, eq_self, ne_eq, not_true_eq_false, Bool.false_eq_true, not_false_eq_true, true_and, and_true, false_and, and_false, if_pos, if_neg, h]
    · rw [b01_f (fun ⟨t, ht, e⟩ => z (by have := (nI_inj_iff (by omega) (by omega)).mp e; omega))]
      simp (disch := omega) only [↓lm1, ↓lm2, eq_n1, eq_n2, n1_eq, n2_eq, n1_n2, n2_n1, n1_lt, n2_lt, n1_le, lt_n1, lt_n2, inb_t, cl_t, le_tt, le_tf, lt_tt, lt_tf, eq_tt, eq_tf, q_add, q_mul, li0, li1, li2, li3, li4, li5, li6, li7, li8, li12, li16, li24, li48, li500, gF_sA, gA_sF, gF_sF, gR_sA, gR_sF, gL_sA, gL_sF, gA_sA, shl_t, or_t, and_t, sbit_t, ubit_t, b01_0, b01_1, Option.bind_some, ↓reduceIte, eq_self, ne_eq, not_true_eq_false, Bool.false_eq_true, not_false_eq_true, true_and, and_true, false_and, and_false, if_pos, if_neg, h]
theorem isSameX {N n f : Nat} {w : Mem} (hn : n < 1000) (hf : f < 2) (h5 : gR w 8 5 0 = f) (h : gF w 1 9 f = nI n) (x : Int32) : f_X8_isSame N w x = some (nI (b01 (isT n x))) := by
  rw [f_X8_isSame, h5]
  rcases i_cases x with hx | ⟨k, hk, rfl⟩
  · rw [if_pos hx, b01_f (fun ⟨t, ht, e⟩ => by rw [e] at hx; exact nI_nn (by omega) hx)]; rfl
  · by_cases z : k < n
    · rw [b01_t ⟨k, z, rfl⟩]
      simp (disch := omega) only [↓lm1, ↓lm2, eq_n1, eq_n2, n1_eq, n2_eq, n1_n2, n2_n1, n1_lt, n2_lt, n1_le, lt_n1, lt_n2, inb_t, cl_t, le_tt, le_tf, lt_tt, lt_tf, eq_tt, eq_tf, q_add, q_mul, li0, li1, li2, li3, li4, li5, li6, li7, li8, li12, li16, li24, li48, li500, gF_sA, gA_sF, gF_sF, gR_sA, gR_sF, gL_sA, gL_sF, gA_sA, shl_t, or_t, and_t, sbit_t, ubit_t, b01_0, b01_1, Option.bind_some, ↓reduceIte, eq_self, ne_eq, not_true_eq_false, Bool.false_eq_true, not_false_eq_true, true_and, and_true, false_and, and_false, if_pos, if_neg, h]
    · rw [b01_f (fun ⟨t, ht, e⟩ => z (by have := (nI_inj_iff (by omega) (by omega)).mp e; omega))]
      simp (disch := omega) only [↓lm1, ↓lm2, eq_n1, eq_n2, n1_eq, n2_eq, n1_n2, n2_n1, n1_lt, n2_lt, n1_le, lt_n1, lt_n2, inb_t, cl_t, le_tt, le_tf, lt_tt, lt_tf, eq_tt, eq_tf, q_add, q_mul, li0, li1, li2, li3, li4, li5, li6, li7, li8, li12, li16, li24, li48, li500, gF_sA, gA_sF, gF_sF, gR_sA, gR_sF, gL_sA, gL_sF, gA_sA, shl_t, or_t, and_t, sbit_t, ubit_t, b01_0, b01_1, Option.bind_some, ↓reduceIte, eq_self, ne_eq, not_true_eq_false, Bool.false_eq_true, not_false_eq_true, true_and, and_true, false_and, and_false, if_pos, if_neg, h]

