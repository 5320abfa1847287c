/-! the class's forest -/
def oN (o : Option (Nat × Nat)) : Int32 := match o with | some (u, _) => nI u | none => n1
def cI (o : Option Nat) : Int32 := match o with | some k => nI k | none => n1
theorem oN_none : oN none = n1 := rfl
theorem oN_some (u c : Nat) : oN (some (u, c)) = nI u := rfl
/-- rows that hold a forest -/
def FR (w : Mem) (f n : Nat) (F : Fst) : Prop := (∀ t, t < n → gA w 19 f t = oN (F t)) ∧ ∀ t u c, t < n → F t = some (u, c) → gA w 20 f t = nI c
/-- a forest among n terms, joins below m -/
def FB (n m : Nat) (F : Fst) : Prop := ∀ t u c, F t = some (u, c) → t < n ∧ u < n ∧ c < m
theorem FW.fb {F : Fst} {n nJ : Nat} {ld : Nat → Nat} (h : FW F n ld nJ) : FB n nJ F := by
  obtain ⟨⟨r, hr⟩, -⟩ := h
  intro t u c hF
  obtain ⟨a, b, c, -⟩ := hr t u c hF
  exact ⟨a, b, c⟩
/-- what a turning round may change -/
abbrev FrH (f : Nat) (w w' : Mem) : Prop := Fr (fun _ _ _ => False) (fun k i => (k = 19 ∨ k = 20) ∧ i = f) w w'
theorem FrH.F {f : Nat} {w w' : Mem} (h : FrH f w w') (a b c : Nat) : gF w' a b c = gF w a b c := h.1 a b c (fun z => z)
theorem FrH.A {f : Nat} {w w' : Mem} (h : FrH f w w') {a : Nat} (h1 : a ≠ 19) (h2 : a ≠ 20) (i : Nat) : gA w' a i = gA w a i := h.2.1 a i (fun z => z.1.elim h1 h2)
theorem FrH.set {f : Nat} {w : Mem} {x : Nat} {v u : Int32} : FrH f w (sA (sA w 19 f x v) 20 f x u) := ⟨fun _ _ _ _ => rfl, fun k i h => by
  rw [gA_sA_ne (fun z => h ⟨Or.inr z.1, z.2⟩), gA_sA_ne (fun z => h ⟨Or.inl z.1, z.2⟩)], fun _ _ => rfl, fun _ _ _ => rfl⟩
theorem FR.set {w : Mem} {f n t on c : Nat} {F : Fst} (h : FR w f n F) : FR (sA (sA w 19 f t (nI on)) 20 f t (nI c)) f n (fset F t (some (on, c))) := by
  refine ⟨fun x hx => ?_, fun x u d hx hF => ?_⟩
  · by_cases e : x = t
    · subst e; rw [fset_eq]; simp (disch := omega) only [↓lm1, ↓lm2, eq_n1, eq_n2, n1_eq, n2_eq, n1_n2, n2_n1, n1_lt, n2_lt, n1_le, lt_n1, lt_n2, inb_t, cl_t, le_tt, le_tf, lt_tt, lt_tf, eq_tt, eq_tf, q_add, q_mul, li0, li1, li2, li3, li4, li5, li6, li7, li8, li12, li16, li24, li48, li500, gF_sA, gA_sF, gF_sF, gR_sA, gR_sF, gL_sA, gL_sF, gA_sA, shl_t, or_t, and_t, sbit_t, ubit_t, b01_0, b01_1, Option.bind_some, ↓reduceIte, eq_self, ne_eq, not_true_eq_false, Bool.false_eq_true, not_false_eq_true, true_and, and_true, false_and, and_false, if_pos, if_neg, oN_some]
    · rw [fset_ne F _ e, ← h.1 x hx]; simp (disch := omega) only [↓lm1, ↓lm2, eq_n1, eq_n2, n1_eq, n2_eq, n1_n2, n2_n1, n1_lt, n2_lt, n1_le, lt_n1, lt_n2, inb_t, cl_t, le_tt, le_tf, lt_tt, lt_tf, eq_tt, eq_tf, q_add, q_mul, li0, li1, li2, li3, li4, li5, li6, li7, li8, li12, li16, li24, li48, li500, gF_sA, gA_sF, gF_sF, gR_sA, gR_sF, gL_sA, gL_sF, gA_sA, shl_t, or_t, and_t, sbit_t, ubit_t, b01_0, b01_1, Option.bind_some, ↓reduceIte, eq_self, ne_eq, not_true_eq_false, Bool.false_eq_true, not_false_eq_true, true_and, and_true, false_and, and_false, if_pos, if_neg]
  · by_cases e : x = t
    · subst e
      rw [fset_eq] at hF
      obtain ⟨rfl, rfl⟩ := Prod.mk.inj (Option.some.inj hF)
      simp (disch := omega) only [↓lm1, ↓lm2, eq_n1, eq_n2, n1_eq, n2_eq, n1_n2, n2_n1, n1_lt, n2_lt, n1_le, lt_n1, lt_n2, inb_t, cl_t, le_tt, le_tf, lt_tt, lt_tf, eq_tt, eq_tf, q_add, q_mul, li0, li1, li2, li3, li4, li5, li6, li7, li8, li12, li16, li24, li48, li500, gF_sA, gA_sF, gF_sF, gR_sA, gR_sF, gL_sA, gL_sF, gA_sA, shl_t, or_t, and_t, sbit_t, ubit_t, b01_0, b01_1, Option.bind_some, ↓reduceIte, eq_self, ne_eq, not_true_eq_false, Bool.false_eq_true, not_false_eq_true, true_and, and_true, false_and, and_false, if_pos, if_neg]
    · rw [fset_ne F _ e] at hF
      rw [← h.2 x u d hx hF]; simp (disch := omega) only [↓lm1, ↓lm2, eq_n1, eq_n2, n1_eq, n2_eq, n1_n2, n2_n1, n1_lt, n2_lt, n1_le, lt_n1, lt_n2, inb_t, cl_t, le_tt, le_tf, lt_tt, lt_tf, eq_tt, eq_tf, q_add, q_mul, li0, li1, li2, li3, li4, li5, li6, li7, li8, li12, li16, li24, li48, li500, gF_sA, gA_sF, gF_sF, gR_sA, gR_sF, gL_sA, gL_sF, gA_sA, shl_t, or_t, and_t, sbit_t, ubit_t, b01_0, b01_1, Option.bind_some, ↓reduceIte, eq_self, ne_eq, not_true_eq_false, Bool.false_eq_true, not_false_eq_true, true_and, and_true, false_and, and_false, if_pos, if_neg]
theorem FB.set {n m t on c : Nat} {F : Fst} (h : FB n m F) (ht : t < n) (ho : on < n) (hc : c < m) : FB n m (fset F t (some (on, c))) := by
  intro x u d hF
  by_cases e : x = t
  · subst e
    rw [fset_eq] at hF
    obtain ⟨rfl, rfl⟩ := Prod.mk.inj (Option.some.inj hF)
    exact ⟨ht, ho, hc⟩
  · rw [fset_ne F _ e] at hF; exact h x u d hF
theorem lp_hang (k : Mem → Option Mem) {N f n m0 : Nat} (hn : n ≤ 24) (hm0 : m0 ≤ 24) : ∀ (m fuel : Nat) (w : Mem) (F : Fst) (t on c s : Nat), s + m = 24 → m + 1 < fuel → FR w f n F → FB n m0 F → t < n → on < n → c < m0 → ∃ w', lp_X2_hang_20 k N f fuel w (nI on) (nI c) (nI t) (nI s) = k w' ∧ FR w' f n (hgW m F t on c) ∧ FrH f w w' := by
  intro m
  induction m with
  | zero =>
    intro fuel w F t on c s hs hf hR hB ht ho hc
    obtain ⟨f', rfl⟩ : ∃ f, fuel = f + 1 := ⟨fuel - 1, by omega⟩
    refine ⟨w, ?_, hR, Fr.rf⟩
    rw [lp_X2_hang_20]
    simp (disch := omega) only [↓lm1, ↓lm2, eq_n1, eq_n2, n1_eq, n2_eq, n1_n2, n2_n1, n1_lt, n2_lt, n1_le, lt_n1, lt_n2, inb_t, cl_t, le_tt, le_tf, lt_tt, lt_tf, eq_tt, eq_tf, q_add, q_mul, li0, li1, li2, li3, li4, li5, li6, li7, li8, li12, li16, li24, li48, li500, gF_sA, gA_sF, gF_sF, gR_sA, gR_sF, gL_sA, gL_sF, gA_sA, shl_t, or_t, and_t, sbit_t, ubit_t, b01_0, b01_1, Option.bind_some, ↓reduceIte, eq_self, ne_eq, not_true_eq_false, Bool.false_eq_true, not_false_eq_true, true_and, and_true, false_and, and_false, if_pos, if_neg]
  | succ m ih =>
    intro fuel w F t on c s hs hf hR hB ht ho hc
    obtain ⟨f', rfl⟩ : ∃ f, fuel = f + 2 := ⟨fuel - 2, by omega⟩
    have h19 := hR.1 t ht
    cases hF : F t with
    | none =>
      rw [hF, oN_none] at h19
      refine ⟨_, ?_, ?_, FrH.set (x := t) (v := nI on) (u := nI c)⟩
      · rw [lp_X2_hang_20]
        simp (disch := omega) only [↓lm1, ↓lm2, eq_n1, eq_n2, n1_eq, n2_eq, n1_n2, n2_n1, n1_lt, n2_lt, n1_le, lt_n1, lt_n2, inb_t, cl_t, le_tt, le_tf, lt_tt, lt_tf, eq_tt, eq_tf, q_add, q_mul, li0, li1, li2, li3, li4, li5, li6, li7, li8, li12, li16, li24, li48, li500, gF_sA, gA_sF, gF_sF, gR_sA, gR_sF, gL_sA, gL_sF, gA_sA, shl_t, or_t, and_t, sbit_t, ubit_t, b01_0, b01_1, Option.bind_some, ↓reduceIte, eq_self, ne_eq, not_true_eq_false, Bool.false_eq_true, not_false_eq_true, true_and, and_true, false_and, and_false, if_pos, if_neg, h19]
        rw [lp_X2_hang_20]
        by_cases e : s + 1 = 24
        · simp (disch := omega) only [↓lm1, ↓lm2, eq_n1, eq_n2, n1_eq, n2_eq, n1_n2, n2_n1, n1_lt, n2_lt, n1_le, lt_n1, lt_n2, inb_t, cl_t, le_tt, le_tf, lt_tt, lt_tf, eq_tt, eq_tf, q_add, q_mul, li0, li1, li2, li3, li4, li5, li6, li7, li8, li12, li16, li24, li48, li500, gF_sA, gA_sF, gF_sF, gR_sA, gR_sF, gL_sA, gL_sF, gA_sA, shl_t, or_t, and_t, sbit_t, ubit_t, b01_0, b01_1, Option.bind_some, ↓reduceIte, eq_self, ne_eq, not_true_eq_false, Bool.false_eq_true, not_false_eq_true, true_and, and_true, false_and, and_false, if_pos, if_neg]
        · simp (disch := omega) only [↓lm1, ↓lm2, eq_n1, eq_n2, n1_eq, n2_eq, n1_n2, n2_n1, n1_lt, n2_lt, n1_le, lt_n1, lt_n2, inb_t, cl_t, le_tt, le_tf, lt_tt, lt_tf, eq_tt, eq_tf, q_add, q_mul, li0, li1, li2, li3, li4, li5, li6, li7, li8, li12, li16, li24, li48, li500, gF_sA, gA_sF, gF_sF, gR_sA, gR_sF, gL_sA, gL_sF, gA_sA, shl_t, or_t, and_t, sbit_t, ubit_t, b01_0, b01_1, Option.bind_some, ↓reduceIte, eq_self, ne_eq, not_true_eq_false, Bool.false_eq_true, not_false_eq_true, true_and, and_true, false_and, and_false, if_pos, if_neg]
      · rw [hgW, hF]; exact hR.set
    | some p =>
      obtain ⟨u, d⟩ := p
      have h20 := hR.2 t u d ht hF
      obtain ⟨b1, b2, b3⟩ := hB t u d hF
      rw [hF, oN_some] at h19
      obtain ⟨w', e1, e2, e3⟩ := ih (f' + 1) (sA (sA w 19 f t (nI on)) 20 f t (nI c)) (fset F t (some (on, c))) u t d (s + 1) (by omega) (by omega) hR.set (hB.set ht ho hc) b2 ht b3
      refine ⟨w', ?_, ?_, FrH.set.tr e3⟩
      · rw [lp_X2_hang_20, ← e1]
        simp (disch := omega) only [↓lm1, ↓lm2, eq_n1, eq_n2, n1_eq, n2_eq, n1_n2, n2_n1, n1_lt, n2_lt, n1_le, lt_n1, lt_n2, inb_t, cl_t, le_tt, le_tf, lt_tt, lt_tf, eq_tt, eq_tf, q_add, q_mul, li0, li1, li2, li3, li4, li5, li6, li7, li8, li12, li16, li24, li48, li500, gF_sA, gA_sF, gF_sF, gR_sA, gR_sF, gL_sA, gL_sF, gA_sA, shl_t, or_t, and_t, sbit_t, ubit_t, b01_0, b01_1, Option.bind_some, ↓reduceIte, eq_self, ne_eq, not_true_eq_false, Bool.false_eq_true, not_false_eq_true, true_and, and_true, false_and, and_false, if_pos, if_neg, h19, h20]
      · rw [hgW, hF]; exact e2
/-- the joins that lie in rows -/
def JR (w : Mem) (f : Nat) (J : List Jn) : Prop := ∀ (p a b : Nat) (c : Option Nat) (r : Nat), J[p]? = some (a, b, c, r) → gA w 21 f p = nI a ∧ gA w 22 f p = nI b ∧ gA w 23 f p = cI c ∧ gA w 24 f p = nI r
def JOK (n : Nat) (J : List Jn) : Prop := J.length ≤ 23 ∧ ∀ (p a b : Nat) (c : Option Nat) (r : Nat), J[p]? = some (a, b, c, r) → a < n ∧ b < n ∧ r < 4096 ∧ ∀ k, c = some k → k < 12
def ldJ (J : List Jn) : Nat → Nat := J.foldl (fun d j => un d j.1 j.2.1) (fun i => i)
def frS (J : List Jn) : Fst × Nat := J.foldl (fun s j => (hgW 24 s.1 j.2.1 j.1 s.2, s.2 + 1)) (fun _ => none, 0)
def frJ (J : List Jn) : Fst := (frS J).1
theorem frS_len (J : List Jn) : (frS J).2 = J.length := by
  have key : ∀ (L : List Jn) (s : Fst × Nat), (L.foldl (fun s j => (hgW 24 s.1 j.2.1 j.1 s.2, s.2 + 1)) s).2 = s.2 + L.length := by
    intro L
    induction L with
    | nil => intro s; rfl
    | cons j L ih => intro s; rw [List.foldl_cons, ih, List.length_cons]; show s.2 + 1 + _ = _; omega
  rw [frS, key]
  show 0 + J.length = J.length
  omega
theorem frJ_snoc (J : List Jn) (a b : Nat) (c : Option Nat) (r : Nat) : frJ (J ++ [(a, b, c, r)]) = hgW 24 (frJ J) b a J.length := by
  have h := frS_len J
  unfold frJ
  rw [frS, List.foldl_append, List.foldl_cons, List.foldl_nil]
  show hgW 24 (frS J).1 b a (frS J).2 = _
  rw [h]
theorem ldJ_snoc (J : List Jn) (a b : Nat) (c : Option Nat) (r : Nat) : ldJ (J ++ [(a, b, c, r)]) = un (ldJ J) a b := by
  rw [ldJ, List.foldl_append]; rfl
def bitsJ (J : List Jn) (c : Nat) : Nat := match J[c]? with
  | some j => j.2.2.2
  | none => 0
theorem bitsJ_lt {n : Nat} {J : List Jn} (h : JOK n J) (c : Nat) : bitsJ J c < 4096 := by
  unfold bitsJ
  cases hc : J[c]? with
  | none => show 0 < 4096; omega
  | some j => exact (h.2 c j.1 j.2.1 j.2.2.1 j.2.2.2 hc).2.2.1
/-- the forest of facts f -/
def FS (w : Mem) (f n : Nat) (J : List Jn) : Prop := n ≤ 24 ∧ gF w 2 6 f = nI n ∧ gF w 2 7 f = nI J.length ∧ JR w f J ∧ FR w f n (frJ J)
theorem FS.fr {w v : Mem} {f n : Nat} {J : List Jn} {P : Nat → Nat → Nat → Prop} {Q : Nat → Nat → Prop} (h : FS w f n J) (hf : Fr P Q w v) (hP : ∀ k j i, P k j i → k ≠ 2) (hQ : ∀ k i, Q k i → k < 19 ∨ 24 < k) : FS v f n J := by
  obtain ⟨a, b, c, d, e⟩ := h
  have hA : ∀ k, 19 ≤ k → k ≤ 24 → gA v k f = gA w k f := fun k h1 h2 => hf.2.1 k f (fun z => by have := hQ k f z; omega)
  refine ⟨a, (hf.1 _ _ _ (fun z => hP _ _ _ z rfl)).trans b, (hf.1 _ _ _ (fun z => hP _ _ _ z rfl)).trans c, fun p x y z r hp => ?_, fun t ht => ?_, fun t u c' ht hF => ?_⟩
  · rw [hA 21 (by omega) (by omega), hA 22 (by omega) (by omega), hA 23 (by omega) (by omega), hA 24 (by omega) (by omega)]; exact d p x y z r hp
  · rw [hA 19 (by omega) (by omega)]; exact e.1 t ht
  · rw [hA 20 (by omega) (by omega)]; exact e.2 t u c' ht hF
theorem get_snoc {α : Type} {L : List α} {p : Nat} {x y : α} (h : (L ++ [x])[p]? = some y) : (p < L.length ∧ L[p]? = some y) ∨ (p = L.length ∧ y = x) := by
  by_cases h1 : p < L.length
  · rw [List.getElem?_append_left h1] at h; exact Or.inl ⟨h1, h⟩
  · rw [List.getElem?_append_right (by omega)] at h
    by_cases h2 : p = L.length
    · subst h2
      simp at h
      exact Or.inr ⟨rfl, h.symm⟩
    · have : p - L.length ≠ 0 := by omega
      obtain ⟨q, hq⟩ : ∃ q, p - L.length = q + 1 := ⟨p - L.length - 1, by omega⟩
      rw [hq] at h
      simp at h
theorem addJoin_ok {N f n a b r : Nat} {w : Mem} {J : List Jn} {c : Option Nat} (hN : 25 < N) (h : FS w f n J) (hJ : JOK n J) (hB : FB n J.length (frJ J)) (ha : a < n) (hb : b < n) (hl : J.length < 24) : ∃ w', f_X2_addJoin N w f (nI a) (nI b) (cI c) (nI r) = some w' ∧ FS w' f n (J ++ [(a, b, c, r)]) ∧ Fr (fun k _ i => k = 2 ∧ i = f) (fun k i => (19 ≤ k ∧ k ≤ 24) ∧ i = f) w w' := by
  obtain ⟨h1, h2, h3, h4, h5⟩ := h
  let w1 : Mem := sA (sA (sA (sA w 21 f J.length (nI a)) 22 f J.length (nI b)) 23 f J.length (cI c)) 24 f J.length (nI r)
  have hw1 : Fr (fun k _ i => k = 2 ∧ i = f) (fun k i => (19 ≤ k ∧ k ≤ 24) ∧ i = f) w w1 := by
    refine ⟨fun _ _ _ _ => rfl, fun k i hk => ?_, fun _ _ => rfl, fun _ _ _ => rfl⟩
    show gA (sA (sA (sA (sA w 21 f J.length (nI a)) 22 f J.length (nI b)) 23 f J.length (cI c)) 24 f J.length (nI r)) k i = _
    rw [gA_sA_ne (fun z => hk ⟨by omega, z.2⟩), gA_sA_ne (fun z => hk ⟨by omega, z.2⟩), gA_sA_ne (fun z => hk ⟨by omega, z.2⟩), gA_sA_ne (fun z => hk ⟨by omega, z.2⟩)]
  have hR : FR w1 f n (frJ J) := by
    refine ⟨fun t ht => ?_, fun t u d ht hF => ?_⟩
    · rw [← h5.1 t ht]; show gA (sA _ _ _ _ _) _ _ _ = _; simp (disch := omega) only [↓lm1, ↓lm2, eq_n1, eq_n2, n1_eq, n2_eq, n1_n2, n2_n1, n1_lt, n2_lt, n1_le, lt_n1, lt_n2, inb_t, cl_t, le_tt, le_tf, lt_tt, lt_tf, eq_tt, eq_tf, q_add, q_mul, li0, li1, li2, li3, li4, li5, li6, li7, li8, li12, li16, li24, li48, li500, gF_sA, gA_sF, gF_sF, gR_sA, gR_sF, gL_sA, gL_sF, gA_sA, shl_t, or_t, and_t, sbit_t, ubit_t, b01_0, b01_1, Option.bind_some, ↓reduceIte, eq_self, ne_eq, not_true_eq_false, Bool.false_eq_true, not_false_eq_true, true_and, and_true, false_and, and_false, if_pos, if_neg]
    · rw [← h5.2 t u d ht hF]; show gA (sA _ _ _ _ _) _ _ _ = _; simp (disch := omega) only [↓lm1, ↓lm2, eq_n1, eq_n2, n1_eq, n2_eq, n1_n2, n2_n1, n1_lt, n2_lt, n1_le, lt_n1, lt_n2, inb_t, cl_t, le_tt, le_tf, lt_tt, lt_tf, eq_tt, eq_tf, q_add, q_mul, li0, li1, li2, li3, li4, li5, li6, li7, li8, li12, li16, li24, li48, li500, gF_sA, gA_sF, gF_sF, gR_sA, gR_sF, gL_sA, gL_sF, gA_sA, shl_t, or_t, and_t, sbit_t, ubit_t, b01_0, b01_1, Option.bind_some, ↓reduceIte, eq_self, ne_eq, not_true_eq_false, Bool.false_eq_true, not_false_eq_true, true_and, and_true, false_and, and_false, if_pos, if_neg]
  obtain ⟨w2, e1, e2, e3⟩ := lp_hang (fun w_2 => f_X2_hang_82 N w_2 f) (N := N) (f := f) (n := n) (m0 := J.length + 1) h1 (by omega) 24 N w1 (frJ J) b a J.length 0 (by omega) (by omega) hR (fun t u d hF => by have := hB t u d hF; omega) hb ha (by omega)
  have hJw : JR w1 f (J ++ [(a, b, c, r)]) := by
    intro p x y z q hp
    show gA (sA _ _ _ _ _) _ _ _ = _ ∧ gA (sA _ _ _ _ _) _ _ _ = _ ∧ gA (sA _ _ _ _ _) _ _ _ = _ ∧ gA (sA _ _ _ _ _) _ _ _ = _
    rcases get_snoc hp with ⟨g1, g2⟩ | ⟨g1, g2⟩
    · obtain ⟨k1, k2, k3, k4⟩ := h4 p x y z q g2
      refine ⟨k1 ▸ ?_, k2 ▸ ?_, k3 ▸ ?_, k4 ▸ ?_⟩ <;> simp (disch := omega) only [↓lm1, ↓lm2, eq_n1, eq_n2, n1_eq, n2_eq, n1_n2, n2_n1, n1_lt, n2_lt, n1_le, lt_n1, lt_n2, inb_t, cl_t, le_tt, le_tf, lt_tt, lt_tf, eq_tt, eq_tf, q_add, q_mul, li0, li1, li2, li3, li4, li5, li6, li7, li8, li12, li16, li24, li48, li500, gF_sA, gA_sF, gF_sF, gR_sA, gR_sF, gL_sA, gL_sF, gA_sA, shl_t, or_t, and_t, sbit_t, ubit_t, b01_0, b01_1, Option.bind_some, ↓reduceIte, eq_self, ne_eq, not_true_eq_false, Bool.false_eq_true, not_false_eq_true, true_and, and_true, false_and, and_false, if_pos, if_neg]
    · obtain ⟨rfl, rfl, rfl, rfl⟩ : x = a ∧ y = b ∧ z = c ∧ q = r := by simpa using g2
      subst g1
      simp (disch := omega) only [↓lm1, ↓lm2, eq_n1, eq_n2, n1_eq, n2_eq, n1_n2, n2_n1, n1_lt, n2_lt, n1_le, lt_n1, lt_n2, inb_t, cl_t, le_tt, le_tf, lt_tt, lt_tf, eq_tt, eq_tf, q_add, q_mul, li0, li1, li2, li3, li4, li5, li6, li7, li8, li12, li16, li24, li48, li500, gF_sA, gA_sF, gF_sF, gR_sA, gR_sF, gL_sA, gL_sF, gA_sA, shl_t, or_t, and_t, sbit_t, ubit_t, b01_0, b01_1, Option.bind_some, ↓reduceIte, eq_self, ne_eq, not_true_eq_false, Bool.false_eq_true, not_false_eq_true, true_and, and_true, false_and, and_false, if_pos, if_neg]
  refine ⟨sF w2 2 7 f (nI (J.length + 1)), ?_, ⟨h1, ?_, ?_, ?_, ?_⟩, ?_⟩
  · rw [f_X2_addJoin]
    simp (disch := omega) only [↓lm1, ↓lm2, eq_n1, eq_n2, n1_eq, n2_eq, n1_n2, n2_n1, n1_lt, n2_lt, n1_le, lt_n1, lt_n2, inb_t, cl_t, le_tt, le_tf, lt_tt, lt_tf, eq_tt, eq_tf, q_add, q_mul, li0, li1, li2, li3, li4, li5, li6, li7, li8, li12, li16, li24, li48, li500, gF_sA, gA_sF, gF_sF, gR_sA, gR_sF, gL_sA, gL_sF, gA_sA, shl_t, or_t, and_t, sbit_t, ubit_t, b01_0, b01_1, Option.bind_some, ↓reduceIte, eq_self, ne_eq, not_true_eq_false, Bool.false_eq_true, not_false_eq_true, true_and, and_true, false_and, and_false, if_pos, if_neg, h3]
    have e1' : f_X2_hang N w1 f (nI J.length) = some w2 := by
      rw [f_X2_hang]
      have q1 : gA w1 21 f J.length = nI a := (hJw J.length a b c r (by simp)).1
      have q2 : gA w1 22 f J.length = nI b := (hJw J.length a b c r (by simp)).2.1
      simp (disch := omega) only [↓lm1, ↓lm2, eq_n1, eq_n2, n1_eq, n2_eq, n1_n2, n2_n1, n1_lt, n2_lt, n1_le, lt_n1, lt_n2, inb_t, cl_t, le_tt, le_tf, lt_tt, lt_tf, eq_tt, eq_tf, q_add, q_mul, li0, li1, li2, li3, li4, li5, li6, li7, li8, li12, li16, li24, li48, li500, gF_sA, gA_sF, gF_sF, gR_sA, gR_sF, gL_sA, gL_sF, gA_sA, shl_t, or_t, and_t, sbit_t, ubit_t, b01_0, b01_1, Option.bind_some, ↓reduceIte, eq_self, ne_eq, not_true_eq_false, Bool.false_eq_true, not_false_eq_true, true_and, and_true, false_and, and_false, if_pos, if_neg, q1, q2]
      exact e1
    have e1'' : f_X2_hang N (sA (sA (sA (sA w 21 f J.length (nI a)) 22 f J.length (nI b)) 23 f J.length (cI c)) 24 f J.length (nI r)) f (nI J.length) = some w2 := e1'
    simp (disch := omega) only [↓lm1, ↓lm2, eq_n1, eq_n2, n1_eq, n2_eq, n1_n2, n2_n1, n1_lt, n2_lt, n1_le, lt_n1, lt_n2, inb_t, cl_t, le_tt, le_tf, lt_tt, lt_tf, eq_tt, eq_tf, q_add, q_mul, li0, li1, li2, li3, li4, li5, li6, li7, li8, li12, li16, li24, li48, li500, gF_sA, gA_sF, gF_sF, gR_sA, gR_sF, gL_sA, gL_sF, gA_sA, shl_t, or_t, and_t, sbit_t, ubit_t, b01_0, b01_1, Option.bind_some, ↓reduceIte, eq_self, ne_eq, not_true_eq_false, Bool.false_eq_true, not_false_eq_true, true_and, and_true, false_and, and_false, if_pos, if_neg, e1'', show gF w2 2 7 f = nI J.length from (e3.F 2 7 f).trans h3]
  · rw [gF_sF, if_neg (by omega), e3.F]; exact h2
  · rw [gF_sF, if_pos ⟨rfl, rfl, rfl⟩, List.length_append]; rfl
  · intro p x y z q hp
    have := hJw p x y z q hp
    rw [gA_sF, e3.A (by omega) (by omega), gA_sF, e3.A (by omega) (by omega), gA_sF, e3.A (by omega) (by omega), gA_sF, e3.A (by omega) (by omega)]
    exact this
  · rw [frJ_snoc]; exact e2
  · refine hw1.tr (Fr.tr (v := w2) (e3.mono (fun _ _ _ z => z.elim) (fun k i z => ⟨by omega, z.2⟩)) ?_)
    exact ⟨fun k j i z => by rw [gF_sF, if_neg (fun y => z ⟨y.1, y.2.2⟩)], fun _ _ _ => rfl, fun _ _ => rfl, fun _ _ _ => rfl⟩

