/-! the class: reasons between two -/
theorem or_bit (A x y : Nat) : (A ||| 2 ^ x).testBit y = (A.testBit y || decide (y = x)) := fb_bit_set A x y
theorem FS.row {w : Mem} {f n : Nat} {J : List Jn} (h : FS w f n J) {t u c : Nat} (ht : t < n) (hF : frJ J t = some (u, c)) : gA w 19 f t = nI u ∧ gA w 20 f t = nI c := by
  have h1 := h.2.2.2.2.1 t ht
  rw [hF] at h1
  exact ⟨h1, h.2.2.2.2.2 t u c ht hF⟩
theorem FS.row0 {w : Mem} {f n : Nat} {J : List Jn} (h : FS w f n J) {t : Nat} (ht : t < n) (hF : frJ J t = none) : gA w 19 f t = n1 := by
  have h1 := h.2.2.2.2.1 t ht
  rw [hF] at h1
  exact h1
theorem FS.bits {w : Mem} {f n : Nat} {J : List Jn} (h : FS w f n J) {c : Nat} (hc : c < J.length) : gA w 24 f c = nI (bitsJ J c) := by
  obtain ⟨⟨a, b, d, r⟩, hp⟩ := get_at J hc
  rw [(h.2.2.2.1 c a b d r hp).2.2.2]
  unfold bitsJ
  rw [hp]
theorem orU_lt {F : Fst} {B : Nat → Nat} (hB : ∀ c, B c < 4096) : ∀ (k t : Nat), orU F B k t < 4096
  | 0, t => by rw [orU]; omega
  | k + 1, t => by
    rw [orU]
    cases F t with
    | none => show 0 < 4096; omega
    | some p => exact Nat.or_lt_two_pow (n := 12) (hB p.2) (orU_lt hB k p.1)
theorem lt0_n1 : (n1 < nI 0) = True := eq_true (by decide)
theorem lp_rb10 (k : Int32 → Option Int32) {N f n v1 v2 : Nat} {w : Mem} {J : List Jn} {ld : Nat → Nat} {t : Nat} (h : FS w f n J) (hW : FW (frJ J) n ld J.length) (ht : t < n) : ∀ (r fuel s A : Nat), s + r = dp (frJ J) t → r < fuel → A < 16777216 → (∀ x, A.testBit x = true ↔ ∃ i, i ≤ s ∧ anc (frJ J) i t = x) → ∃ A', lp_X2_reasonsBetween_10 k N w f (nI v1) (nI v2) fuel (nI A) (nI (anc (frJ J) s t)) (nI s) = k (nI A') ∧ A' < 16777216 ∧ ∀ x, A'.testBit x = isAn (frJ J) t x := by
  have hn := h.1
  obtain ⟨d1, d2, d3⟩ := hW.dpS hn ht
  intro r
  induction r with
  | zero =>
    intro fuel s A hs hf hA hb
    obtain ⟨f', rfl⟩ : ∃ f, fuel = f + 1 := ⟨fuel - 1, by omega⟩
    have hes : s = dp (frJ J) t := by omega
    subst hes
    have hl := hW.lt ht (dp (frJ J) t)
    have h0 := h.row0 hl d1
    refine ⟨A, ?_, hA, fun x => ?_⟩
    · rw [lp_X2_reasonsBetween_10]
      simp (disch := omega) only [↓lm1, ↓lm2, eq_n1, eq_n2, n1_eq, n2_eq, n1_n2, n2_n1, n1_lt, n2_lt, n1_le, lt_n1, lt_n2, inb_t, cl_t, le_tt, le_tf, lt_tt, lt_tf, eq_tt, eq_tf, q_add, q_mul, li0, li1, li2, li3, li4, li5, li6, li7, li8, li12, li16, li24, li48, li500, gF_sA, gA_sF, gF_sF, gR_sA, gR_sF, gL_sA, gL_sF, gA_sA, shl_t, or_t, and_t, sbit_t, ubit_t, b01_0, b01_1, Option.bind_some, ↓reduceIte, eq_self, ne_eq, not_true_eq_false, Bool.false_eq_true, not_false_eq_true, true_and, and_true, false_and, and_false, if_pos, if_neg, h0, lt0_n1]
    · have := (hb x).trans (isAn_iff hW hn ht (x := x)).symm
      cases h1 : A.testBit x <;> cases h2 : isAn (frJ J) t x <;> simp_all
  | succ r ih =>
    intro fuel s A hs hf hA hb
    obtain ⟨f', rfl⟩ : ∃ f, fuel = f + 1 := ⟨fuel - 1, by omega⟩
    obtain ⟨c, q1, q2⟩ := hW.edge hn ht (k := s) (by omega)
    have hl := hW.lt ht s
    have hl2 := hW.lt ht (s + 1)
    obtain ⟨r1, r2⟩ := h.row hl q1
    obtain ⟨A', e1, e2, e3⟩ := ih f' (s + 1) (A ||| 2 ^ (anc (frJ J) (s + 1) t)) (by omega) (by omega) (Nat.or_lt_two_pow (n := 24) hA (Nat.pow_lt_pow_right (by decide) (by omega))) (fun x => by
      rw [or_bit, Bool.or_eq_true, hb x, decide_eq_true_iff]
      constructor
      · rintro (⟨i, h1, h2⟩ | h1)
        · exact ⟨i, by omega, h2⟩
        · exact ⟨s + 1, Nat.le_refl _, h1.symm⟩
      · rintro ⟨i, h1, h2⟩
        by_cases e : i = s + 1
        · subst e; exact Or.inr h2.symm
        · exact Or.inl ⟨i, by omega, h2⟩)
    refine ⟨A', ?_, e2, e3⟩
    rw [lp_X2_reasonsBetween_10, ← e1]
    simp (disch := omega) only [↓lm1, ↓lm2, eq_n1, eq_n2, n1_eq, n2_eq, n1_n2, n2_n1, n1_lt, n2_lt, n1_le, lt_n1, lt_n2, inb_t, cl_t, le_tt, le_tf, lt_tt, lt_tf, eq_tt, eq_tf, q_add, q_mul, li0, li1, li2, li3, li4, li5, li6, li7, li8, li12, li16, li24, li48, li500, gF_sA, gA_sF, gF_sF, gR_sA, gR_sF, gL_sA, gL_sF, gA_sA, shl_t, or_t, and_t, sbit_t, ubit_t, b01_0, b01_1, Option.bind_some, ↓reduceIte, eq_self, ne_eq, not_true_eq_false, Bool.false_eq_true, not_false_eq_true, true_and, and_true, false_and, and_false, if_pos, if_neg, r1, one_shl, fa_or]
theorem lp_rb58 (k : Int32 → Int32 → Option Int32) {N f n v1 A : Nat} {w : Mem} {J : List Jn} {ld : Nat → Nat} {t u : Nat} (h : FS w f n J) (hW : FW (frJ J) n ld J.length) (hJ : JOK n J) (ht : t < n) (hu : u < n) (hl : ld t = ld u) (hA : A < 16777216) (hb : ∀ x, A.testBit x = isAn (frJ J) t x) : ∀ (r fuel s : Nat), s + r = mtU (frJ J) t u → r < fuel → lp_X2_reasonsBetween_58 k N w f (nI v1) (nI A) fuel (nI (orU (frJ J) (bitsJ J) s u)) (nI (anc (frJ J) s u)) (nI s) = k (nI (orU (frJ J) (bitsJ J) (mtU (frJ J) t u) u)) (nI (anc (frJ J) (mtU (frJ J) t u) u)) := by
  have hn := h.1
  obtain ⟨m1, m2, m3, m4, m5⟩ := mt_spec hW hn ht hu hl
  have d2 := (hW.dpS hn hu).2.1
  intro r
  induction r with
  | zero =>
    intro fuel s hs hf
    obtain ⟨f', rfl⟩ : ∃ f, fuel = f + 1 := ⟨fuel - 1, by omega⟩
    have hes : s = mtU (frJ J) t u := by omega
    subst hes
    have hlt := hW.lt hu (mtU (frJ J) t u)
    have hbit : A.testBit (anc (frJ J) (mtU (frJ J) t u) u) = true := by
      rw [hb]; exact (isAn_iff hW hn ht).mpr ⟨_, m2, m3⟩
    have hub := ubit_ok (b := A) (k := anc (frJ J) (mtU (frJ J) t u) u) (by omega) (by omega)
    rw [b01_t hbit] at hub
    rw [lp_X2_reasonsBetween_58, hub]
    simp (disch := omega) only [↓lm1, ↓lm2, eq_n1, eq_n2, n1_eq, n2_eq, n1_n2, n2_n1, n1_lt, n2_lt, n1_le, lt_n1, lt_n2, inb_t, cl_t, le_tt, le_tf, lt_tt, lt_tf, eq_tt, eq_tf, q_add, q_mul, li0, li1, li2, li3, li4, li5, li6, li7, li8, li12, li16, li24, li48, li500, gF_sA, gA_sF, gF_sF, gR_sA, gR_sF, gL_sA, gL_sF, gA_sA, shl_t, or_t, and_t, sbit_t, ubit_t, b01_0, b01_1, Option.bind_some, ↓reduceIte, eq_self, ne_eq, not_true_eq_false, Bool.false_eq_true, not_false_eq_true, true_and, and_true, false_and, and_false, if_pos, if_neg]
  | succ r ih =>
    intro fuel s hs hf
    obtain ⟨f', rfl⟩ : ∃ f, fuel = f + 1 := ⟨fuel - 1, by omega⟩
    obtain ⟨c, q1, q2⟩ := hW.edge hn hu (k := s) (by omega)
    have hlt := hW.lt hu s
    have hlt2 := hW.lt hu (s + 1)
    obtain ⟨r1, r2⟩ := h.row hlt q1
    have hbit : ¬ A.testBit (anc (frJ J) s u) = true := by
      rw [hb, m4 s (by omega)]; decide
    have hub := ubit_ok (b := A) (k := anc (frJ J) s u) (by omega) (by omega)
    rw [b01_f hbit] at hub
    have hjl := hJ.1
    have hsn := orU_snoc (frJ J) (bitsJ J) s u _ c q1 (fun i hi => (hW.dpS hn hu).2.2 i (by omega))
    rw [lp_X2_reasonsBetween_58, hub, ← ih f' (s + 1) (by omega) (by omega), hsn]
    simp (disch := omega) only [↓lm1, ↓lm2, eq_n1, eq_n2, n1_eq, n2_eq, n1_n2, n2_n1, n1_lt, n2_lt, n1_le, lt_n1, lt_n2, inb_t, cl_t, le_tt, le_tf, lt_tt, lt_tf, eq_tt, eq_tf, q_add, q_mul, li0, li1, li2, li3, li4, li5, li6, li7, li8, li12, li16, li24, li48, li500, gF_sA, gA_sF, gF_sF, gR_sA, gR_sF, gL_sA, gL_sF, gA_sA, shl_t, or_t, and_t, sbit_t, ubit_t, b01_0, b01_1, Option.bind_some, ↓reduceIte, eq_self, ne_eq, not_true_eq_false, Bool.false_eq_true, not_false_eq_true, true_and, and_true, false_and, and_false, if_pos, if_neg, r1, r2, h.bits q2, fa_or]
theorem lp_rb122 (k : Int32 → Option Int32) {N f n B0 : Nat} {w : Mem} {J : List Jn} {ld : Nat → Nat} {t u : Nat} (h : FS w f n J) (hW : FW (frJ J) n ld J.length) (hJ : JOK n J) (ht : t < n) (hu : u < n) (hl : ld t = ld u) : ∀ (r fuel s : Nat), s + r = mtT (frJ J) t u → r < fuel → lp_X2_reasonsBetween_122 k N w f (nI (anc (frJ J) (mtU (frJ J) t u) u)) fuel (nI (anc (frJ J) s t)) (nI (B0 ||| orU (frJ J) (bitsJ J) s t)) (nI s) = k (nI (B0 ||| orU (frJ J) (bitsJ J) (mtT (frJ J) t u) t)) := by
  have hn := h.1
  obtain ⟨m1, m2, m3, m4, m5⟩ := mt_spec hW hn ht hu hl
  have d2 := (hW.dpS hn ht).2.1
  intro r
  induction r with
  | zero =>
    intro fuel s hs hf
    obtain ⟨f', rfl⟩ : ∃ f, fuel = f + 1 := ⟨fuel - 1, by omega⟩
    have hes : s = mtT (frJ J) t u := by omega
    subst hes
    rw [lp_X2_reasonsBetween_122, m3]
    simp (disch := omega) only [↓lm1, ↓lm2, eq_n1, eq_n2, n1_eq, n2_eq, n1_n2, n2_n1, n1_lt, n2_lt, n1_le, lt_n1, lt_n2, inb_t, cl_t, le_tt, le_tf, lt_tt, lt_tf, eq_tt, eq_tf, q_add, q_mul, li0, li1, li2, li3, li4, li5, li6, li7, li8, li12, li16, li24, li48, li500, gF_sA, gA_sF, gF_sF, gR_sA, gR_sF, gL_sA, gL_sF, gA_sA, shl_t, or_t, and_t, sbit_t, ubit_t, b01_0, b01_1, Option.bind_some, ↓reduceIte, eq_self, ne_eq, not_true_eq_false, Bool.false_eq_true, not_false_eq_true, true_and, and_true, false_and, and_false, if_pos, if_neg]
  | succ r ih =>
    intro fuel s hs hf
    obtain ⟨f', rfl⟩ : ∃ f, fuel = f + 1 := ⟨fuel - 1, by omega⟩
    obtain ⟨c, q1, q2⟩ := hW.edge hn ht (k := s) (by omega)
    have hlt := hW.lt ht s
    have hlt2 := hW.lt ht (s + 1)
    have hlt3 := hW.lt hu (mtU (frJ J) t u)
    obtain ⟨r1, r2⟩ := h.row hlt q1
    have hjl := hJ.1
    have hne := m5 s (by omega)
    have hsn := orU_snoc (frJ J) (bitsJ J) s t _ c q1 (fun i hi => (hW.dpS hn ht).2.2 i (by omega))
    rw [lp_X2_reasonsBetween_122, ← ih f' (s + 1) (by omega) (by omega), hsn, ← Nat.or_assoc]
    simp (disch := omega) only [↓lm1, ↓lm2, eq_n1, eq_n2, n1_eq, n2_eq, n1_n2, n2_n1, n1_lt, n2_lt, n1_le, lt_n1, lt_n2, inb_t, cl_t, le_tt, le_tf, lt_tt, lt_tf, eq_tt, eq_tf, q_add, q_mul, li0, li1, li2, li3, li4, li5, li6, li7, li8, li12, li16, li24, li48, li500, gF_sA, gA_sF, gF_sF, gR_sA, gR_sF, gL_sA, gL_sF, gA_sA, shl_t, or_t, and_t, sbit_t, ubit_t, b01_0, b01_1, Option.bind_some, ↓reduceIte, eq_self, ne_eq, not_true_eq_false, Bool.false_eq_true, not_false_eq_true, true_and, and_true, false_and, and_false, if_pos, if_neg, r1, r2, h.bits q2, fa_or]
theorem reasons_ok {N f n : Nat} {w : Mem} {J : List Jn} {ld : Nat → Nat} {t u : Nat} (hN : 25 < N) (h : FS w f n J) (hW : FW (frJ J) n ld J.length) (hJ : JOK n J) (ht : t < n) (hu : u < n) (hl : ld t = ld u) : f_X2_reasonsBetween N w f (nI t) (nI u) = some (nI (rsn (frJ J) (bitsJ J) t u)) := by
  have hn := h.1
  have d1 := (hW.dpS hn ht).2.1
  obtain ⟨m1, m2, m3, m4, m5⟩ := mt_spec hW hn ht hu hl
  have d2 := (hW.dpS hn hu).2.1
  obtain ⟨A, a1, a2, a3⟩ := lp_rb10 (fun (u3_1 : Int32) => (f_X2_reasonsBetween_49 N w f (nI t) (nI u) u3_1 )) (N := N) (v1 := t) (v2 := u) h hW ht (dp (frJ J) t) N 0 (2 ^ t) (by omega) (by omega) (Nat.pow_lt_pow_right (n := 24) (by decide) (by omega)) (fun x => by
    rw [Nat.testBit_two_pow]
    constructor
    · intro z; exact ⟨0, Nat.le_refl _, of_decide_eq_true z⟩
    · rintro ⟨i, h1, h2⟩
      have : i = 0 := by omega
      subst this
      exact decide_eq_true h2)
  rw [f_X2_reasonsBetween, one_shl (by omega)]
  refine a1.trans ?_
  rw [f_X2_reasonsBetween_49]
  refine (lp_rb58 _ (v1 := t) h hW hJ ht hu hl a2 a3 (mtU (frJ J) t u) N 0 (by omega) (by omega)).trans ?_
  rw [f_X2_reasonsBetween_116]
  have := lp_rb122 (fun (u5_3 : Int32) => (f_X2_reasonsBetween_178 N w f u5_3 )) (N := N) (B0 := orU (frJ J) (bitsJ J) (mtU (frJ J) t u) u) h hW hJ ht hu hl (mtT (frJ J) t u) N 0 (by omega) (by omega)
  rw [show orU (frJ J) (bitsJ J) 0 t = 0 from rfl, Nat.or_zero] at this
  exact this
theorem rsn_lt {n : Nat} {J : List Jn} (hJ : JOK n J) (t u : Nat) : rsn (frJ J) (bitsJ J) t u < 4096 :=
  Nat.or_lt_two_pow (n := 12) (orU_lt (bitsJ_lt hJ) _ _) (orU_lt (bitsJ_lt hJ) _ _)

