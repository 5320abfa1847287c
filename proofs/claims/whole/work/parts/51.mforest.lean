/-! the model: its forest -/
def mO (o : Option (Nat × Nat)) : Int32 := match o with | some (u, _) => nI u | none => n2
def mC (o : Option Nat) : Int32 := match o with | some k => nI k | none => n2
theorem mO_none : mO none = n2 := rfl
theorem mO_some (u c : Nat) : mO (some (u, c)) = nI u := rfl
def MFR (w : Mem) (n : Nat) (F : Fst) : Prop := (∀ t, t < n → gA w 53 0 t = mO (F t)) ∧ ∀ t u c, t < n → F t = some (u, c) → gA w 54 0 t = nI c
def MJR (w : Mem) (J : List Jn) : Prop := ∀ (p a b : Nat) (c : Option Nat) (r : Nat), J[p]? = some (a, b, c, r) → gA w 55 0 p = nI a ∧ gA w 56 0 p = nI b ∧ gA w 57 0 p = mC c ∧ gA w 58 0 p = nI r
def MFS (w : Mem) (n : Nat) (J : List Jn) : Prop := n ≤ 24 ∧ gF w 9 39 0 = nI J.length ∧ MJR w J ∧ MFR w n (frJ J)
theorem MFS.row {w : Mem} {n : Nat} {J : List Jn} (h : MFR w n (frJ J)) {t u c : Nat} (ht : t < n) (hF : frJ J t = some (u, c)) : gA w 53 0 t = nI u ∧ gA w 54 0 t = nI c := by
  have h1 := h.1 t ht
  rw [hF] at h1
  exact ⟨h1, h.2 t u c ht hF⟩
theorem MFS.row0 {w : Mem} {n : Nat} {J : List Jn} (h : MFR w n (frJ J)) {t : Nat} (ht : t < n) (hF : frJ J t = none) : gA w 53 0 t = n2 := by
  have h1 := h.1 t ht
  rw [hF] at h1
  exact h1
theorem depthOf_ok {N n : Nat} {w : Mem} {J : List Jn} {ld : Nat → Nat} {t : Nat} (hN : 25 < N) (hn : n ≤ 24) (h : MFR w n (frJ J)) (hW : FW (frJ J) n ld J.length) (ht : t < n) : f_X9_depthOf N w (nI t) = some (nI (dp (frJ J) t)) := by
  obtain ⟨d1, d2, d3⟩ := hW.dpS hn ht
  have key : ∀ r fuel s, s + r = dp (frJ J) t → r < fuel → lp_X9_depthOf_4 (fun (u2_1 : Int32) => (f_X9_depthOf_28 N w u2_1)) N w fuel (nI s) (nI (anc (frJ J) s t)) = some (nI (dp (frJ J) t)) := by
    intro r
    induction r with
    | zero =>
      intro fuel s hs hf
      obtain ⟨f', rfl⟩ : ∃ f, fuel = f + 1 := ⟨fuel - 1, by omega⟩
      have hes : s = dp (frJ J) t := by omega
      subst hes
      have hl := hW.lt ht (dp (frJ J) t)
      rw [lp_X9_depthOf_4]
      simp (disch := omega) only [↓lm1, ↓lm2, eq_n1, eq_n2, n1_eq, n2_eq, n1_n2, n2_n1, n1_lt, n2_lt, n1_le, lt_n1, lt_n2, inb_t, cl_t, le_tt, le_tf, lt_tt, lt_tf, eq_tt, eq_tf, q_add, q_mul, li0, li1, li2, li3, li4, li5, li6, li7, li8, li12, li16, li24, li48, li500, gF_sA, gA_sF, gF_sF, gR_sA, gR_sF, gL_sA, gL_sF, gA_sA, shl_t, or_t, and_t, sbit_t, ubit_t, b01_0, b01_1, Option.bind_some, ↓reduceIte, eq_self, ne_eq, not_true_eq_false, Bool.false_eq_true, not_false_eq_true, true_and, and_true, false_and, and_false, if_pos, if_neg, MFS.row0 h hl d1]
      rfl
    | succ r ih =>
      intro fuel s hs hf
      obtain ⟨f', rfl⟩ : ∃ f, fuel = f + 1 := ⟨fuel - 1, by omega⟩
      obtain ⟨c, q1, q2⟩ := hW.edge hn ht (k := s) (by omega)
      have hl := hW.lt ht s
      have hl2 := hW.lt ht (s + 1)
      rw [lp_X9_depthOf_4, ← ih f' (s + 1) (by omega) (by omega)]
      simp (disch := omega) only [↓lm1, ↓lm2, eq_n1, eq_n2, n1_eq, n2_eq, n1_n2, n2_n1, n1_lt, n2_lt, n1_le, lt_n1, lt_n2, inb_t, cl_t, le_tt, le_tf, lt_tt, lt_tf, eq_tt, eq_tf, q_add, q_mul, li0, li1, li2, li3, li4, li5, li6, li7, li8, li12, li16, li24, li48, li500, gF_sA, gA_sF, gF_sF, gR_sA, gR_sF, gL_sA, gL_sF, gA_sA, shl_t, or_t, and_t, sbit_t, ubit_t, b01_0, b01_1, Option.bind_some, ↓reduceIte, eq_self, ne_eq, not_true_eq_false, Bool.false_eq_true, not_false_eq_true, true_and, and_true, false_and, and_false, if_pos, if_neg, (MFS.row h hl q1).1]
  rw [f_X9_depthOf]
  exact key (dp (frJ J) t) N 0 (by omega) (by omega)
theorem mreasons_ok {N n : Nat} {w : Mem} {J : List Jn} {ld : Nat → Nat} {t u : Nat} (hN : 60 < N) (hn : n ≤ 24) (h : MFR w n (frJ J)) (hb : ∀ c, c < J.length → gA w 58 0 c = nI (bitsJ J c)) (hW : FW (frJ J) n ld J.length) (hJ : JOK n J) (ht : t < n) (hu : u < n) (hl : ld t = ld u) : f_X9_reasonsOf N w (nI t) (nI u) = some (nI (rsn (frJ J) (bitsJ J) t u)) := by
  have d1 := (hW.dpS hn ht).2.1
  have d2 := (hW.dpS hn hu).2.1
  have hjl := hJ.1
  obtain ⟨m1, m2, m3, m4, m5⟩ := mt_spec hW hn ht hu hl
  have key : ∀ r fuel i j, i ≤ mtT (frJ J) t u → j ≤ mtU (frJ J) t u → (mtT (frJ J) t u - i) + (mtU (frJ J) t u - j) = r → r < fuel → lp_X9_reasonsOf_8 (fun (u3_1 : Int32) => (f_X9_reasonsOf_84 N w u3_1)) N w fuel (nI (orU (frJ J) (bitsJ J) j u ||| orU (frJ J) (bitsJ J) i t)) (nI (anc (frJ J) i t)) (nI (anc (frJ J) j u)) = some (nI (rsn (frJ J) (bitsJ J) t u)) := by
    intro r
    induction r with
    | zero =>
      intro fuel i j hi hj hr hf
      obtain ⟨f', rfl⟩ : ∃ f, fuel = f + 1 := ⟨fuel - 1, by omega⟩
      have e1 : i = mtT (frJ J) t u := by omega
      have e2 : j = mtU (frJ J) t u := by omega
      subst e1 e2
      rw [lp_X9_reasonsOf_8, m3]
      simp (disch := omega) only [↓lm1, ↓lm2, eq_n1, eq_n2, n1_eq, n2_eq, n1_n2, n2_n1, n1_lt, n2_lt, n1_le, lt_n1, lt_n2, inb_t, cl_t, le_tt, le_tf, lt_tt, lt_tf, eq_tt, eq_tf, q_add, q_mul, li0, li1, li2, li3, li4, li5, li6, li7, li8, li12, li16, li24, li48, li500, gF_sA, gA_sF, gF_sF, gR_sA, gR_sF, gL_sA, gL_sF, gA_sA, shl_t, or_t, and_t, sbit_t, ubit_t, b01_0, b01_1, Option.bind_some, ↓reduceIte, eq_self, ne_eq, not_true_eq_false, Bool.false_eq_true, not_false_eq_true, true_and, and_true, false_and, and_false, if_pos, if_neg]
      rfl
    | succ r ih =>
      intro fuel i j hi hj hr hf
      obtain ⟨f', rfl⟩ : ∃ f, fuel = f + 1 := ⟨fuel - 1, by omega⟩
      have la := hW.lt ht i
      have lb := hW.lt hu j
      have hne : anc (frJ J) i t ≠ anc (frJ J) j u := by
        intro z
        have hA : isAn (frJ J) t (anc (frJ J) j u) = true := (isAn_iff hW hn ht).mpr ⟨i, by omega, z⟩
        have : j = mtU (frJ J) t u := by
          apply Classical.byContradiction
          intro q
          have := m4 j (by omega)
          rw [hA] at this
          cases this
        subst this
        exact m5 i (by omega) z
      have da := depthOf_ok (N := N) (by omega) hn h hW la
      have db := depthOf_ok (N := N) (by omega) hn h hW lb
      have ea := hW.dp_anc hn ht i (by omega)
      have eb := hW.dp_anc hn hu j (by omega)
      have ea2 := hW.dp_anc hn ht (mtT (frJ J) t u) m2
      have eb2 := hW.dp_anc hn hu (mtU (frJ J) t u) m1
      rw [m3] at ea2
      by_cases z : dp (frJ J) (anc (frJ J) i t) < dp (frJ J) (anc (frJ J) j u)
      · have hj2 : j < mtU (frJ J) t u := by omega
        obtain ⟨c, q1, q2⟩ := hW.edge hn hu (k := j) (by omega)
        have hlt2 := hW.lt hu (j + 1)
        obtain ⟨r1, r2⟩ := MFS.row h lb q1
        have hsn := orU_snoc (frJ J) (bitsJ J) j u _ c q1 (fun i hi => (hW.dpS hn hu).2.2 i (by omega))
        have e1 := ih f' i (j + 1) hi hj2 (by omega) (by omega)
        rw [hsn, show (orU (frJ J) (bitsJ J) j u ||| bitsJ J c) ||| orU (frJ J) (bitsJ J) i t = (orU (frJ J) (bitsJ J) j u ||| orU (frJ J) (bitsJ J) i t) ||| bitsJ J c by rw [Nat.or_assoc, Nat.or_comm (bitsJ J c), ← Nat.or_assoc]] at e1
        rw [lp_X9_reasonsOf_8, ← e1]
        simp (disch := omega) only [↓lm1, ↓lm2, eq_n1, eq_n2, n1_eq, n2_eq, n1_n2, n2_n1, n1_lt, n2_lt, n1_le, lt_n1, lt_n2, inb_t, cl_t, le_tt, le_tf, lt_tt, lt_tf, eq_tt, eq_tf, q_add, q_mul, li0, li1, li2, li3, li4, li5, li6, li7, li8, li12, li16, li24, li48, li500, gF_sA, gA_sF, gF_sF, gR_sA, gR_sF, gL_sA, gL_sF, gA_sA, shl_t, or_t, and_t, sbit_t, ubit_t, b01_0, b01_1, Option.bind_some, ↓reduceIte, eq_self, ne_eq, not_true_eq_false, Bool.false_eq_true, not_false_eq_true, true_and, and_true, false_and, and_false, if_pos, if_neg, da, db, r1, r2, hb c q2]
      · have hi2 : i < mtT (frJ J) t u := by
          apply Classical.byContradiction
          intro q
          have e1 : i = mtT (frJ J) t u := by omega
          have e2 : j = mtU (frJ J) t u := by rw [e1, m3] at ea z; omega
          exact hne (by rw [e1, e2]; exact m3)
        obtain ⟨c, q1, q2⟩ := hW.edge hn ht (k := i) (by omega)
        have hlt2 := hW.lt ht (i + 1)
        obtain ⟨r1, r2⟩ := MFS.row h la q1
        have hsn := orU_snoc (frJ J) (bitsJ J) i t _ c q1 (fun i hi => (hW.dpS hn ht).2.2 i (by omega))
        have e1 := ih f' (i + 1) j hi2 hj (by omega) (by omega)
        rw [hsn, ← Nat.or_assoc] at e1
        rw [lp_X9_reasonsOf_8, ← e1]
        simp (disch := omega) only [↓lm1, ↓lm2, eq_n1, eq_n2, n1_eq, n2_eq, n1_n2, n2_n1, n1_lt, n2_lt, n1_le, lt_n1, lt_n2, inb_t, cl_t, le_tt, le_tf, lt_tt, lt_tf, eq_tt, eq_tf, q_add, q_mul, li0, li1, li2, li3, li4, li5, li6, li7, li8, li12, li16, li24, li48, li500, gF_sA, gA_sF, gF_sF, gR_sA, gR_sF, gL_sA, gL_sF, gA_sA, shl_t, or_t, and_t, sbit_t, ubit_t, b01_0, b01_1, Option.bind_some, ↓reduceIte, eq_self, ne_eq, not_true_eq_false, Bool.false_eq_true, not_false_eq_true, true_and, and_true, false_and, and_false, if_pos, if_neg, da, db, r1, r2, hb c q2]
  rw [f_X9_reasonsOf]
  have := key _ N 0 0 (Nat.zero_le _) (Nat.zero_le _) rfl (by omega)
  rw [show orU (frJ J) (bitsJ J) 0 u ||| orU (frJ J) (bitsJ J) 0 t = 0 by simp [orU]] at this
  exact this
/-- rows that hold a forest, but for x -/
def MFRx (w : Mem) (n : Nat) (F : Fst) (x : Nat) : Prop := (∀ t, t < n → t ≠ x → gA w 53 0 t = mO (F t)) ∧ ∀ t u c, t < n → t ≠ x → F t = some (u, c) → gA w 54 0 t = nI c
abbrev FrT (w w' : Mem) : Prop := Fr (fun _ _ _ => False) (fun k i => (k = 53 ∨ k = 54) ∧ i = 0) w w'
theorem FrT.set {w : Mem} {x : Nat} {v u : Int32} : FrT w (sA (sA w 53 0 x v) 54 0 x u) := ⟨fun _ _ _ _ => rfl, fun k i h => by
  rw [gA_sA_ne (fun z => h ⟨Or.inr z.1, z.2⟩), gA_sA_ne (fun z => h ⟨Or.inl z.1, z.2⟩)], fun _ _ => rfl, fun _ _ _ => rfl⟩
theorem MFRx.set {w : Mem} {n t on c x : Nat} {F : Fst} (h : MFRx w n F x) : MFRx (sA (sA w 53 0 t (nI on)) 54 0 t (nI c)) n (fset F t (some (on, c))) x := by
  refine ⟨fun y hy hx => ?_, fun y u d hy hx hF => ?_⟩
  · by_cases e : y = t
    · subst e; rw [fset_eq]; simp (disch := omega) only [↓lm1, ↓lm2, eq_n1, eq_n2, n1_eq, n2_eq, n1_n2, n2_n1, n1_lt, n2_lt, n1_le, lt_n1, lt_n2, inb_t, cl_t, le_tt, le_tf, lt_tt, lt_tf, eq_tt, eq_tf, q_add, q_mul, li0, li1, li2, li3, li4, li5, li6, li7, li8, li12, li16, li24, li48, li500, gF_sA, gA_sF, gF_sF, gR_sA, gR_sF, gL_sA, gL_sF, gA_sA, shl_t, or_t, and_t, sbit_t, ubit_t, b01_0, b01_1, Option.bind_some, ↓reduceIte, eq_self, ne_eq, not_true_eq_false, Bool.false_eq_true, not_false_eq_true, true_and, and_true, false_and, and_false, if_pos, if_neg, mO_some]
    · rw [fset_ne F _ e, ← h.1 y hy hx]; simp (disch := omega) only [↓lm1, ↓lm2, eq_n1, eq_n2, n1_eq, n2_eq, n1_n2, n2_n1, n1_lt, n2_lt, n1_le, lt_n1, lt_n2, inb_t, cl_t, le_tt, le_tf, lt_tt, lt_tf, eq_tt, eq_tf, q_add, q_mul, li0, li1, li2, li3, li4, li5, li6, li7, li8, li12, li16, li24, li48, li500, gF_sA, gA_sF, gF_sF, gR_sA, gR_sF, gL_sA, gL_sF, gA_sA, shl_t, or_t, and_t, sbit_t, ubit_t, b01_0, b01_1, Option.bind_some, ↓reduceIte, eq_self, ne_eq, not_true_eq_false, Bool.false_eq_true, not_false_eq_true, true_and, and_true, false_and, and_false, if_pos, if_neg]
  · by_cases e : y = t
    · subst e
      rw [fset_eq] at hF
      obtain ⟨rfl, rfl⟩ := Prod.mk.inj (Option.some.inj hF)
      simp (disch := omega) only [↓lm1, ↓lm2, eq_n1, eq_n2, n1_eq, n2_eq, n1_n2, n2_n1, n1_lt, n2_lt, n1_le, lt_n1, lt_n2, inb_t, cl_t, le_tt, le_tf, lt_tt, lt_tf, eq_tt, eq_tf, q_add, q_mul, li0, li1, li2, li3, li4, li5, li6, li7, li8, li12, li16, li24, li48, li500, gF_sA, gA_sF, gF_sF, gR_sA, gR_sF, gL_sA, gL_sF, gA_sA, shl_t, or_t, and_t, sbit_t, ubit_t, b01_0, b01_1, Option.bind_some, ↓reduceIte, eq_self, ne_eq, not_true_eq_false, Bool.false_eq_true, not_false_eq_true, true_and, and_true, false_and, and_false, if_pos, if_neg]
    · rw [fset_ne F _ e] at hF
      rw [← h.2 y u d hy hx hF]; simp (disch := omega) only [↓lm1, ↓lm2, eq_n1, eq_n2, n1_eq, n2_eq, n1_n2, n2_n1, n1_lt, n2_lt, n1_le, lt_n1, lt_n2, inb_t, cl_t, le_tt, le_tf, lt_tt, lt_tf, eq_tt, eq_tf, q_add, q_mul, li0, li1, li2, li3, li4, li5, li6, li7, li8, li12, li16, li24, li48, li500, gF_sA, gA_sF, gF_sF, gR_sA, gR_sF, gL_sA, gL_sF, gA_sA, shl_t, or_t, and_t, sbit_t, ubit_t, b01_0, b01_1, Option.bind_some, ↓reduceIte, eq_self, ne_eq, not_true_eq_false, Bool.false_eq_true, not_false_eq_true, true_and, and_true, false_and, and_false, if_pos, if_neg]
theorem lp_turns (k : Mem → Option Mem) {N n x : Nat} (hn : n ≤ 24) : ∀ (d fuel m : Nat) (w : Mem) (F : Fst) (t on c : Nat) (nJ : Nat), d < m → d + 1 < fuel → t < n → FB n nJ F → nJ ≤ 24 → on < n → c < nJ → F (anc F d t) = none → (∀ k, k < d → F (anc F k t) ≠ none) → (∀ i j, i < j → j ≤ d → anc F i t ≠ anc F j t) → (∀ i, i ≤ d → anc F i t ≠ x) → MFRx w n F x → ∃ w', lp_X9_turns_8 k N fuel w (nI t) (nI on) (nI c) = k w' ∧ MFRx w' n (hgW m F t on c) x ∧ FrT w w' := by
  intro d
  induction d with
  | zero =>
    intro fuel m w F t on c nJ hm hf ht hB hnJ hon hc hr hk hne hx hM
    obtain ⟨f', rfl⟩ : ∃ f, fuel = f + 2 := ⟨fuel - 2, by omega⟩
    obtain ⟨m', rfl⟩ : ∃ m', m = m' + 1 := ⟨m - 1, by omega⟩
    have hF : F t = none := hr
    have h1 := hM.1 t ht (hx 0 (Nat.le_refl _))
    rw [hF, mO_none] at h1
    refine ⟨_, ?_, ?_, FrT.set (x := t) (v := nI on) (u := nI c)⟩
    · rw [lp_X9_turns_8]
      simp (disch := omega) only [↓lm1, ↓lm2, eq_n1, eq_n2, n1_eq, n2_eq, n1_n2, n2_n1, n1_lt, n2_lt, n1_le, lt_n1, lt_n2, inb_t, cl_t, le_tt, le_tf, lt_tt, lt_tf, eq_tt, eq_tf, q_add, q_mul, li0, li1, li2, li3, li4, li5, li6, li7, li8, li12, li16, li24, li48, li500, gF_sA, gA_sF, gF_sF, gR_sA, gR_sF, gL_sA, gL_sF, gA_sA, shl_t, or_t, and_t, sbit_t, ubit_t, b01_0, b01_1, Option.bind_some, ↓reduceIte, eq_self, ne_eq, not_true_eq_false, Bool.false_eq_true, not_false_eq_true, true_and, and_true, false_and, and_false, if_pos, if_neg, h1]
      rw [lp_X9_turns_8, if_pos lm2.symm]
    · rw [hgW, hF]; exact hM.set
  | succ d ih =>
    intro fuel m w F t on c nJ hm hf ht hB hnJ hon hc hr hk hne hx hM
    obtain ⟨f', rfl⟩ : ∃ f, fuel = f + 1 := ⟨fuel - 1, by omega⟩
    obtain ⟨m', rfl⟩ : ∃ m', m = m' + 1 := ⟨m - 1, by omega⟩
    cases hF : F t with
    | none => exact absurd hF (hk 0 (by omega))
    | some p =>
      obtain ⟨u, c'⟩ := p
      obtain ⟨b1, b2, b3⟩ := hB t u c' hF
      have h1 := hM.1 t ht (hx 0 (by omega))
      have h2 := hM.2 t u c' ht (hx 0 (by omega)) hF
      rw [hF, mO_some] at h1
      have hp : ∀ k, anc F (k + 1) t = anc F k u := fun k => by
        show anc F k (par F t) = anc F k u
        rw [par_some hF]
      have hnt : ∀ i, i ≤ d → anc F i u ≠ t := fun i hi z => hne 0 (i + 1) (by omega) (by omega) (by rw [hp]; exact z.symm)
      have ha : ∀ k, k ≤ d → anc (fset F t (some (on, c))) k u = anc F k u := fun k hk => anc_fset k u (fun i hi => hnt i (by omega))
      obtain ⟨w', e1, e2, e3⟩ := ih f' m' (sA (sA w 53 0 t (nI on)) 54 0 t (nI c)) (fset F t (some (on, c))) u t c' nJ (by omega) (by omega) b2 (hB.set ht hon hc) hnJ ht b3 (by rw [ha d (Nat.le_refl _), fset_ne F _ (hnt d (Nat.le_refl _)), ← hp]; exact hr) (fun k hk' => by
        rw [ha k (by omega), fset_ne F _ (hnt k (by omega)), ← hp]
        exact hk (k + 1) (by omega)) (fun i j hij hj => by
        rw [ha i (by omega), ha j hj, ← hp, ← hp]
        exact hne (i + 1) (j + 1) (by omega) (by omega)) (fun i hi => by rw [ha i hi, ← hp]; exact hx (i + 1) (by omega)) hM.set
      refine ⟨w', ?_, by rw [hgW, hF]; exact e2, FrT.set.tr e3⟩
      rw [lp_X9_turns_8, ← e1]
      simp (disch := omega) only [↓lm1, ↓lm2, eq_n1, eq_n2, n1_eq, n2_eq, n1_n2, n2_n1, n1_lt, n2_lt, n1_le, lt_n1, lt_n2, inb_t, cl_t, le_tt, le_tf, lt_tt, lt_tf, eq_tt, eq_tf, q_add, q_mul, li0, li1, li2, li3, li4, li5, li6, li7, li8, li12, li16, li24, li48, li500, gF_sA, gA_sF, gF_sF, gR_sA, gR_sF, gL_sA, gL_sF, gA_sA, shl_t, or_t, and_t, sbit_t, ubit_t, b01_0, b01_1, Option.bind_some, ↓reduceIte, eq_self, ne_eq, not_true_eq_false, Bool.false_eq_true, not_false_eq_true, true_and, and_true, false_and, and_false, if_pos, if_neg, h1, h2]
theorem turns_ok {N n a b : Nat} {w : Mem} {J : List Jn} {ld : Nat → Nat} (hN : 60 < N) (hn : n ≤ 24) (hJl : J.length ≤ 23) (hW : FW (frJ J) n ld J.length) (h : MFR w n (frJ J)) (ha : a < n) (hb : b < n) : ∃ w', f_X9_turns N w (nI b) = some w' ∧ MFR (sA (sA w' 53 0 b (nI a)) 54 0 b (nI J.length)) n (hgW 24 (frJ J) b a J.length) ∧ FrT w w' := by
  obtain ⟨d1, d2, d3⟩ := hW.dpS hn hb
  have hap := hW.apart hn hb
  obtain ⟨s1, s2, s3⟩ := hgW_spec 24 (dp (frJ J) b) (frJ J) b a J.length (by omega) d1 d3 hap
  have fin : ∀ w' : Mem, MFRx w' n (hgW 24 (frJ J) b a J.length) b → MFR (sA (sA w' 53 0 b (nI a)) 54 0 b (nI J.length)) n (hgW 24 (frJ J) b a J.length) := by
    intro w' hM
    refine ⟨fun y hy => ?_, fun y u d hy hF => ?_⟩
    · by_cases e : y = b
      · subst e; rw [s2]; simp (disch := omega) only [↓lm1, ↓lm2, eq_n1, eq_n2, n1_eq, n2_eq, n1_n2, n2_n1, n1_lt, n2_lt, n1_le, lt_n1, lt_n2, inb_t, cl_t, le_tt, le_tf, lt_tt, lt_tf, eq_tt, eq_tf, q_add, q_mul, li0, li1, li2, li3, li4, li5, li6, li7, li8, li12, li16, li24, li48, li500, gF_sA, gA_sF, gF_sF, gR_sA, gR_sF, gL_sA, gL_sF, gA_sA, shl_t, or_t, and_t, sbit_t, ubit_t, b01_0, b01_1, Option.bind_some, ↓reduceIte, eq_self, ne_eq, not_true_eq_false, Bool.false_eq_true, not_false_eq_true, true_and, and_true, false_and, and_false, if_pos, if_neg, mO_some]
      · rw [← hM.1 y hy e]; simp (disch := omega) only [↓lm1, ↓lm2, eq_n1, eq_n2, n1_eq, n2_eq, n1_n2, n2_n1, n1_lt, n2_lt, n1_le, lt_n1, lt_n2, inb_t, cl_t, le_tt, le_tf, lt_tt, lt_tf, eq_tt, eq_tf, q_add, q_mul, li0, li1, li2, li3, li4, li5, li6, li7, li8, li12, li16, li24, li48, li500, gF_sA, gA_sF, gF_sF, gR_sA, gR_sF, gL_sA, gL_sF, gA_sA, shl_t, or_t, and_t, sbit_t, ubit_t, b01_0, b01_1, Option.bind_some, ↓reduceIte, eq_self, ne_eq, not_true_eq_false, Bool.false_eq_true, not_false_eq_true, true_and, and_true, false_and, and_false, if_pos, if_neg]
    · by_cases e : y = b
      · subst e
        rw [s2] at hF
        obtain ⟨rfl, rfl⟩ := Prod.mk.inj (Option.some.inj hF)
        simp (disch := omega) only [↓lm1, ↓lm2, eq_n1, eq_n2, n1_eq, n2_eq, n1_n2, n2_n1, n1_lt, n2_lt, n1_le, lt_n1, lt_n2, inb_t, cl_t, le_tt, le_tf, lt_tt, lt_tf, eq_tt, eq_tf, q_add, q_mul, li0, li1, li2, li3, li4, li5, li6, li7, li8, li12, li16, li24, li48, li500, gF_sA, gA_sF, gF_sF, gR_sA, gR_sF, gL_sA, gL_sF, gA_sA, shl_t, or_t, and_t, sbit_t, ubit_t, b01_0, b01_1, Option.bind_some, ↓reduceIte, eq_self, ne_eq, not_true_eq_false, Bool.false_eq_true, not_false_eq_true, true_and, and_true, false_and, and_false, if_pos, if_neg]
      · rw [← hM.2 y u d hy e hF]; simp (disch := omega) only [↓lm1, ↓lm2, eq_n1, eq_n2, n1_eq, n2_eq, n1_n2, n2_n1, n1_lt, n2_lt, n1_le, lt_n1, lt_n2, inb_t, cl_t, le_tt, le_tf, lt_tt, lt_tf, eq_tt, eq_tf, q_add, q_mul, li0, li1, li2, li3, li4, li5, li6, li7, li8, li12, li16, li24, li48, li500, gF_sA, gA_sF, gF_sF, gR_sA, gR_sF, gL_sA, gL_sF, gA_sA, shl_t, or_t, and_t, sbit_t, ubit_t, b01_0, b01_1, Option.bind_some, ↓reduceIte, eq_self, ne_eq, not_true_eq_false, Bool.false_eq_true, not_false_eq_true, true_and, and_true, false_and, and_false, if_pos, if_neg]
  have hx0 : ∀ F : Fst, (∀ t, t ≠ b → F t = frJ J t) → MFRx (sA (sA w 53 0 b n2) 54 0 b n1) n F b := fun F hF => ⟨fun y hy hx => by rw [hF y hx, ← h.1 y hy]; simp (disch := omega) only [↓lm1, ↓lm2, eq_n1, eq_n2, n1_eq, n2_eq, n1_n2, n2_n1, n1_lt, n2_lt, n1_le, lt_n1, lt_n2, inb_t, cl_t, le_tt, le_tf, lt_tt, lt_tf, eq_tt, eq_tf, q_add, q_mul, li0, li1, li2, li3, li4, li5, li6, li7, li8, li12, li16, li24, li48, li500, gF_sA, gA_sF, gF_sF, gR_sA, gR_sF, gL_sA, gL_sF, gA_sA, shl_t, or_t, and_t, sbit_t, ubit_t, b01_0, b01_1, Option.bind_some, ↓reduceIte, eq_self, ne_eq, not_true_eq_false, Bool.false_eq_true, not_false_eq_true, true_and, and_true, false_and, and_false, if_pos, if_neg], fun y u c hy hx hFy => by rw [hF y hx] at hFy; rw [← h.2 y u c hy hFy]; simp (disch := omega) only [↓lm1, ↓lm2, eq_n1, eq_n2, n1_eq, n2_eq, n1_n2, n2_n1, n1_lt, n2_lt, n1_le, lt_n1, lt_n2, inb_t, cl_t, le_tt, le_tf, lt_tt, lt_tf, eq_tt, eq_tf, q_add, q_mul, li0, li1, li2, li3, li4, li5, li6, li7, li8, li12, li16, li24, li48, li500, gF_sA, gA_sF, gF_sF, gR_sA, gR_sF, gL_sA, gL_sF, gA_sA, shl_t, or_t, and_t, sbit_t, ubit_t, b01_0, b01_1, Option.bind_some, ↓reduceIte, eq_self, ne_eq, not_true_eq_false, Bool.false_eq_true, not_false_eq_true, true_and, and_true, false_and, and_false, if_pos, if_neg]⟩
  obtain ⟨f', rfl⟩ : ∃ f, N = f + 1 := ⟨N - 1, by omega⟩
  cases hF : frJ J b with
  | none =>
    have hM0 := hx0 (hgW 24 (frJ J) b a J.length) (fun t ht => s1 t (fun i hi e => by
      have : dp (frJ J) b = 0 := hW.dp_none hn hb hF
      have hi0 : i = 0 := by omega
      subst hi0
      exact ht e))
    have h1 := h.1 b hb
    rw [hF, mO_none] at h1
    refine ⟨_, ?_, fin _ hM0, FrT.set⟩
    rw [f_X9_turns, lp_X9_turns_8]
    simp (disch := omega) only [↓lm1, ↓lm2, eq_n1, eq_n2, n1_eq, n2_eq, n1_n2, n2_n1, n1_lt, n2_lt, n1_le, lt_n1, lt_n2, inb_t, cl_t, le_tt, le_tf, lt_tt, lt_tf, eq_tt, eq_tf, q_add, q_mul, li0, li1, li2, li3, li4, li5, li6, li7, li8, li12, li16, li24, li48, li500, gF_sA, gA_sF, gF_sF, gR_sA, gR_sF, gL_sA, gL_sF, gA_sA, shl_t, or_t, and_t, sbit_t, ubit_t, b01_0, b01_1, Option.bind_some, ↓reduceIte, eq_self, ne_eq, not_true_eq_false, Bool.false_eq_true, not_false_eq_true, true_and, and_true, false_and, and_false, if_pos, if_neg, h1]
    obtain ⟨g, rfl⟩ : ∃ g, f' = g + 1 := ⟨f' - 1, by omega⟩
    rw [lp_X9_turns_8, if_pos lm2.symm]
    rfl
  | some p =>
    obtain ⟨u, c'⟩ := p
    obtain ⟨b1, b2, b3⟩ := hW.fb b u c' hF
    have hdu := hW.dp_some hn hb hF
    have h1 := h.1 b hb
    have h2 := h.2 b u c' hb hF
    rw [hF, mO_some] at h1
    have hp : ∀ k, anc (frJ J) (k + 1) b = anc (frJ J) k u := fun k => by
      show anc (frJ J) k (par (frJ J) b) = anc (frJ J) k u
      rw [par_some hF]
    have hnt : ∀ i, i ≤ dp (frJ J) u → anc (frJ J) i u ≠ b := fun i hi z => hap 0 (i + 1) (by omega) (by omega) (by rw [hp]; exact z.symm)
    have haf : ∀ k, k ≤ dp (frJ J) u → anc (fset (frJ J) b (some (a, J.length))) k u = anc (frJ J) k u := fun k hk => anc_fset k u (fun i hi => hnt i (by omega))
    have hM0 := hx0 (fset (frJ J) b (some (a, J.length))) (fun t ht => fset_ne _ _ ht)
    have hB1 : FB n (J.length + 1) (fset (frJ J) b (some (a, J.length))) := by
      intro t v c hv
      by_cases e : t = b
      · subst e
        rw [fset_eq] at hv
        obtain ⟨rfl, rfl⟩ := Prod.mk.inj (Option.some.inj hv)
        exact ⟨hb, ha, by omega⟩
      · rw [fset_ne _ _ e] at hv
        have := hW.fb t v c hv
        omega
    obtain ⟨w', e1, e2, e3⟩ := lp_turns (fun (w_1 : Mem) => (f_X9_turns_57 (f' + 1) w_1)) (N := f' + 1) (x := b) hn (dp (frJ J) u) f' 23 (sA (sA w 53 0 b n2) 54 0 b n1) (fset (frJ J) b (some (a, J.length))) u b c' (J.length + 1) (by omega) (by omega) b2 hB1 (by omega) hb (by omega) (by
      rw [haf _ (Nat.le_refl _), fset_ne _ _ (hnt _ (Nat.le_refl _))]; exact (hW.dpS hn b2).1) (fun k hk => by
      rw [haf k (by omega), fset_ne _ _ (hnt k (by omega))]; exact (hW.dpS hn b2).2.2 k hk) (fun i j hij hj => by
      rw [haf i (by omega), haf j hj]; exact hW.apart hn b2 i j hij hj) (fun i hi => by rw [haf i hi]; exact hnt i hi) hM0
    have he : hgW 24 (frJ J) b a J.length = hgW 23 (fset (frJ J) b (some (a, J.length))) u b c' := by rw [hgW, hF]
    refine ⟨w', ?_, fin w' (by rw [he]; exact e2), FrT.set.tr e3⟩
    rw [f_X9_turns, lp_X9_turns_8]
    simp (disch := omega) only [↓lm1, ↓lm2, eq_n1, eq_n2, n1_eq, n2_eq, n1_n2, n2_n1, n1_lt, n2_lt, n1_le, lt_n1, lt_n2, inb_t, cl_t, le_tt, le_tf, lt_tt, lt_tf, eq_tt, eq_tf, q_add, q_mul, li0, li1, li2, li3, li4, li5, li6, li7, li8, li12, li16, li24, li48, li500, gF_sA, gA_sF, gF_sF, gR_sA, gR_sF, gL_sA, gL_sF, gA_sA, shl_t, or_t, and_t, sbit_t, ubit_t, b01_0, b01_1, Option.bind_some, ↓reduceIte, eq_self, ne_eq, not_true_eq_false, Bool.false_eq_true, not_false_eq_true, true_and, and_true, false_and, and_false, if_pos, if_neg, h1, h2]
    exact e1
