/-! level, next -/
/-- the sames alone -/
def unS (S : Prs) : Nat → Nat := S.foldl (fun d p => un d p.1 p.2) (fun i => i)
theorem unS_take {S : Prs} {q i j : Nat} (h : S[q]? = some (i, j)) : unS (S.take (q + 1)) = un (unS (S.take q)) i j := by
  rw [take_snoc h, unS, List.foldl_append]; rfl
theorem unS_prop {T : Trm} {S : Prs} (hS : PRok (tN T) S) : ∀ q, q ≤ S.length → Can (tN T) (unS (S.take q)) ∧ (∀ p i j, p < q → S[p]? = some (i, j) → unS (S.take q) i = unS (S.take q) j)
  | 0, _ => ⟨by rw [List.take_zero]; exact can_id _, fun p i j h => absurd h (Nat.not_lt_zero p)⟩
  | q + 1, hq => by
    obtain ⟨h1, h2⟩ := unS_prop hS q (by omega)
    obtain ⟨⟨a, b⟩, hp⟩ := get_at S (q := q) (by omega)
    obtain ⟨ha, hb⟩ := hS a b (List.mem_of_getElem? hp)
    rw [unS_take hp]
    refine ⟨can_un h1 ha hb, fun p i j hpq hij => ?_⟩
    by_cases e : p = q
    · subst e
      rw [hp] at hij
      obtain ⟨rfl, rfl⟩ := Prod.mk.inj (Option.some.inj hij)
      exact un_a
    · exact un_mono (h2 p i j (by omega) hij)
def lvl (T : Trm) (S : Prs) : Nat → Nat → Nat
  | 0 => unS S
  | n + 1 => clb T (lvl T S n) (prs T) (lvl T S n)
theorem lvl_can {T : Trm} {S : Prs} (hS : PRok (tN T) S) : ∀ n, Can (tN T) (lvl T S n)
  | 0 => by
    have := (unS_prop hS S.length (Nat.le_refl _)).1
    rw [List.take_length] at this
    exact this
  | n + 1 => clb_can _ _ (fun _ h => h) (lvl_can hS n)
theorem lvl_in {T : Trm} {S : Prs} (hS : PRok (tN T) S) : ∀ n a b, (a, b) ∈ S → lvl T S n a = lvl T S n b
  | 0, a, b, h => by
    have := (unS_prop hS S.length (Nat.le_refl _)).2
    rw [List.take_length] at this
    obtain ⟨p, hp⟩ := List.getElem?_of_mem h
    exact this p a b (List.getElem?_eq_some_iff.mp hp).1 hp
  | n + 1, a, b, h => clb_mono _ _ (lvl_in hS n a b h)
theorem lvl_end {T : Trm} {S : Prs} (hS : PRok (tN T) S) (hn : tN T ≤ 24) {t u : Nat} (ht : t < tN T) (hu : u < tN T) (hc : Cg T (inS S) t u) : ∃ n0, n0 ≤ 24 ∧ lvl T S n0 t = lvl T S n0 u ∧ ∀ j, j < n0 → lvl T S j t ≠ lvl T S j u := by
  have key : ∀ n, (∃ m, m ≤ n ∧ lvl T S m t = lvl T S m u) ∨ cntG (tN T) (lvl T S n) + n ≤ 24 := by
    intro n
    induction n with
    | zero => exact Or.inr (by have := cnt_le (tN T) (lvl T S 0); omega)
    | succ n ih =>
      rcases ih with ⟨m, m1, m2⟩ | ih
      · exact Or.inl ⟨m, by omega, m2⟩
      · obtain ⟨c1, c2⟩ := clb_cnt (ld := lvl T S n) (prs T) (lvl T S n) (fun _ h => h) (lvl_can hS n)
        by_cases z : cntG (tN T) (lvl T S n) ≤ cntG (tN T) (lvl T S (n + 1))
        · refine Or.inl ⟨n, by omega, ?_⟩
          have hclo : Clo T (lvl T S n) := clo_of (c2 z)
          exact hc _ (clo_congr hclo) (fun a b hab => lvl_in hS n a b hab)
        · have : cntG (tN T) (lvl T S (n + 1)) ≤ cntG (tN T) (lvl T S n) := c1
          exact Or.inr (by omega)
  have hex : ∃ m, m ≤ 24 ∧ lvl T S m t = lvl T S m u := by
    rcases key 24 with h | h
    · exact h
    · have := cnt_pos (lvl_can (T := T) hS 24) (by omega)
      omega
  obtain ⟨m, m1, m2⟩ := hex
  have hs := lsF_spec (fun j => decide (lvl T S j t = lvl T S j u)) 24 0 ⟨m, by omega, by omega, decide_eq_true m2⟩
  obtain ⟨s1, s2, s3, s4⟩ := hs
  exact ⟨_, by omega, of_decide_eq_true s1, fun j hj => of_decide_eq_false (s4 j (by omega) hj)⟩
theorem clb_app (T : Trm) (ld : Nat → Nat) (l1 l2 : List (Nat × Nat)) (d : Nat → Nat) : clb T ld (l1 ++ l2) d = clb T ld l2 (clb T ld l1 d) := by
  unfold clb
  rw [List.foldl_append]
theorem op_level {N f nf : Nat} {tk : Nat → Nat} {R A : List Row} {NL : List (List Nat)} {tp : List Nat} {wx wm : Mem} (hN : 276 < N) (h : RelC wx wm f nf tk R A NL tp) (x1 x2 : Int32) : Op (f_X8_level N wx x1 x2) (f_X9_level N wm x1 x2) := by
  rcases h.why (N := N) x1 x2 with ⟨q, hq, e1, e2⟩ | ⟨t, u, rfl, rfl, ht, hu, hl, e1, e2⟩
  · rw [f_X8_level, f_X9_level, e1, e2, Option.bind_some, Option.bind_some, refused_n N wm (by omega) (by omega)]
    simp (disch := omega) only [↓lm1, ↓lm2, eq_n1, eq_n2, n1_eq, n2_eq, n1_n2, n2_n1, n1_lt, n2_lt, n1_le, lt_n1, lt_n2, inb_t, cl_t, le_tt, le_tf, lt_tt, lt_tf, eq_tt, eq_tf, q_add, q_mul, li0, li1, li2, li3, li4, li5, li6, li7, li8, li12, li16, li24, li48, li500, gF_sA, gA_sF, gF_sF, gR_sA, gR_sF, gL_sA, gL_sF, gA_sA, shl_t, or_t, and_t, sbit_t, ubit_t, b01_0, b01_1, Option.bind_some, ↓reduceIte, eq_self, ne_eq, not_true_eq_false, Bool.false_eq_true, not_false_eq_true, true_and, and_true, false_and, and_false, if_pos, if_neg, refuse_eq]
    exact op_ans0 h
  · have hCI := h.ci
    have hs12 : (cSs tk R A).length ≤ 12 := hCI.2.2.1.1
    have hSok : PRok (tN (cT tk R A)) (cSs tk R A) := hCI.2.2.1.2
    have hM0 := h.2.1.km (mAns_km (cS (run tk c0 (R ++ A))).length wm (nI 0))
    have hTO : TOK (cT tk R A) := hCI.1.1
    have hn24 : tN (cT tk R A) ≤ 24 := hCI.1.2.1
    obtain ⟨n0, n1', n2', n3'⟩ := lvl_end (T := cT tk R A) hSok hn24 ht hu ((hCI.2.1 t u ht hu).mp hl)
    -- the class
    have keyX2 : ∀ r fuel k w, k + r = n0 → r < fuel → KX wx w → GS w 0 (tN (cT tk R A)) (lvl (cT tk R A) (cSs tk R A) k) → ∃ w', lp_X8_level_85 (fun (w_7 : Mem) (u4_7 : Int32) => (f_X8_level_139 N w_7 u4_7)) N (nI t) (nI u) fuel w (nI k) = some (xAns w' (nI 0), nI n0) ∧ KX wx w' := by
      intro r
      induction r with
      | zero =>
        intro fuel k w hk hf' hw hG
        obtain ⟨f', rfl⟩ : ∃ f, fuel = f + 1 := ⟨fuel - 1, by omega⟩
        have e : k = n0 := by omega
        subst e
        refine ⟨w, ?_, hw⟩
        have ho := one_ok hG N ht hu
        rw [b01_i, b01_t n2'] at ho
        rw [lp_X8_level_85]
        by_cases z : k = 24
        · simp (disch := omega) only [↓lm1, ↓lm2, eq_n1, eq_n2, n1_eq, n2_eq, n1_n2, n2_n1, n1_lt, n2_lt, n1_le, lt_n1, lt_n2, inb_t, cl_t, le_tt, le_tf, lt_tt, lt_tf, eq_tt, eq_tf, q_add, q_mul, li0, li1, li2, li3, li4, li5, li6, li7, li8, li12, li16, li24, li48, li500, gF_sA, gA_sF, gF_sF, gR_sA, gR_sF, gL_sA, gL_sF, gA_sA, shl_t, or_t, and_t, sbit_t, ubit_t, b01_0, b01_1, Option.bind_some, ↓reduceIte, eq_self, ne_eq, not_true_eq_false, Bool.false_eq_true, not_false_eq_true, true_and, and_true, false_and, and_false, if_pos, if_neg, f_X8_level_139, answer_eq]
        · simp (disch := omega) only [↓lm1, ↓lm2, eq_n1, eq_n2, n1_eq, n2_eq, n1_n2, n2_n1, n1_lt, n2_lt, n1_le, lt_n1, lt_n2, inb_t, cl_t, le_tt, le_tf, lt_tt, lt_tf, eq_tt, eq_tf, q_add, q_mul, li0, li1, li2, li3, li4, li5, li6, li7, li8, li12, li16, li24, li48, li500, gF_sA, gA_sF, gF_sF, gR_sA, gR_sF, gL_sA, gL_sF, gA_sA, shl_t, or_t, and_t, sbit_t, ubit_t, b01_0, b01_1, Option.bind_some, ↓reduceIte, eq_self, ne_eq, not_true_eq_false, Bool.false_eq_true, not_false_eq_true, true_and, and_true, false_and, and_false, if_pos, if_neg, ho, f_X8_level_139, answer_eq]
      | succ r ih =>
        intro fuel k w hk hf' hw hG
        obtain ⟨f', rfl⟩ : ∃ f, fuel = f + 1 := ⟨fuel - 1, by omega⟩
        have ho := one_ok hG N ht hu
        rw [b01_i, b01_f (n3' k (by omega))] at ho
        obtain ⟨w1, a1, a2, a3⟩ := copyFrom_ok hG N (g := 1) (by omega)
        have hk1 : KX w w1 := a3.kx (fun k j i z => by omega) (fun k i z => by omega)
        have hw1 := h.1.kx (hw.tr hk1)
        have h5 := hw1.1.2.1
        have hf := hw1.1.1
        have hG1 : GS w1 0 (tN (cT tk R A)) (lvl (cT tk R A) (cSs tk R A) k) := hG.of (a3.1 _ _ _ (fun z => by omega)) (a3.1 _ _ _ (fun z => by omega)) (a3.2.1 _ _ (fun z => by omega))
        obtain ⟨w2, b1, b2, b3⟩ := climb_ok hN hw1.2.1.1.1 a2 hG1
        have hk2 : KX w1 w2 := b3.kx (fun k j i z => by omega) (fun k i z => by omega)
        obtain ⟨w3, d1, d2⟩ := ih f' (k + 1) w2 (by omega) (by omega) ((hw.tr hk1).tr hk2) b2
        refine ⟨w3, ?_, d2⟩
        rw [lp_X8_level_85, ← d1]
        simp (disch := omega) only [↓lm1, ↓lm2, eq_n1, eq_n2, n1_eq, n2_eq, n1_n2, n2_n1, n1_lt, n2_lt, n1_le, lt_n1, lt_n2, inb_t, cl_t, le_tt, le_tf, lt_tt, lt_tf, eq_tt, eq_tf, q_add, q_mul, li0, li1, li2, li3, li4, li5, li6, li7, li8, li12, li16, li24, li48, li500, gF_sA, gA_sF, gF_sF, gR_sA, gR_sF, gL_sA, gL_sF, gA_sA, shl_t, or_t, and_t, sbit_t, ubit_t, b01_0, b01_1, Option.bind_some, ↓reduceIte, eq_self, ne_eq, not_true_eq_false, Bool.false_eq_true, not_false_eq_true, true_and, and_true, false_and, and_false, if_pos, if_neg, ho, a1, h5, b1]
    have keyX1 : ∀ r fuel k w, k + r = (cSs tk R A).length → r < fuel → KX wx w → GS w 0 (tN (cT tk R A)) (unS ((cSs tk R A).take k)) → ∃ w', lp_X8_level_37 (fun (w_6 : Mem) => (f_X8_level_82 N w_6 (nI t) (nI u))) N (nI t) (nI u) fuel w (nI k) = some (xAns w' (nI 0), nI n0) ∧ KX wx w' := by
      intro r
      induction r with
      | zero =>
        intro fuel k w hk hf' hw hG
        obtain ⟨f', rfl⟩ : ∃ f, fuel = f + 1 := ⟨fuel - 1, by omega⟩
        have hw' := h.1.kx hw
        have h5 := hw'.1.2.1
        have hf := hw'.1.1
        have x9 : gF w 1 9 f = nI (cSs tk R A).length := hw'.2.1.2.1.2.1
        rw [List.take_of_length_le (by omega)] at hG
        obtain ⟨w1, a1, a2⟩ := keyX2 n0 N 0 w (by omega) (by omega) hw hG
        refine ⟨w1, ?_, a2⟩
        rw [lp_X8_level_37]
        simp (disch := omega) only [↓lm1, ↓lm2, eq_n1, eq_n2, n1_eq, n2_eq, n1_n2, n2_n1, n1_lt, n2_lt, n1_le, lt_n1, lt_n2, inb_t, cl_t, le_tt, le_tf, lt_tt, lt_tf, eq_tt, eq_tf, q_add, q_mul, li0, li1, li2, li3, li4, li5, li6, li7, li8, li12, li16, li24, li48, li500, gF_sA, gA_sF, gF_sF, gR_sA, gR_sF, gL_sA, gL_sF, gA_sA, shl_t, or_t, and_t, sbit_t, ubit_t, b01_0, b01_1, Option.bind_some, ↓reduceIte, eq_self, ne_eq, not_true_eq_false, Bool.false_eq_true, not_false_eq_true, true_and, and_true, false_and, and_false, if_pos, if_neg, h5, x9, f_X8_level_82]
        exact a1
      | succ r ih =>
        intro fuel k w hk hf' hw hG
        obtain ⟨f', rfl⟩ : ∃ f, fuel = f + 1 := ⟨fuel - 1, by omega⟩
        have hw' := h.1.kx hw
        have h5 := hw'.1.2.1
        have hf := hw'.1.1
        have x9 : gF w 1 9 f = nI (cSs tk R A).length := hw'.2.1.2.1.2.1
        obtain ⟨⟨i, j⟩, hpk⟩ := get_at (cSs tk R A) (q := k) (by omega)
        obtain ⟨ki, kj, y3, y4⟩ := hw'.2.1.2.1.2.2 k i j hpk
        obtain ⟨w1, a1, a2, a3⟩ := unite_ok hG (N := N) (by omega) ki kj
        obtain ⟨w2, b1, b2⟩ := ih f' (k + 1) w1 (by omega) (by omega) (hw.tr (a3.kx (fun k j i z => by omega) (fun k i z => by omega))) (by rw [unS_take hpk]; exact a2)
        refine ⟨w2, ?_, b2⟩
        rw [lp_X8_level_37, ← b1]
        simp (disch := omega) only [↓lm1, ↓lm2, eq_n1, eq_n2, n1_eq, n2_eq, n1_n2, n2_n1, n1_lt, n2_lt, n1_le, lt_n1, lt_n2, inb_t, cl_t, le_tt, le_tf, lt_tt, lt_tf, eq_tt, eq_tf, q_add, q_mul, li0, li1, li2, li3, li4, li5, li6, li7, li8, li12, li16, li24, li48, li500, gF_sA, gA_sF, gF_sF, gR_sA, gR_sF, gL_sA, gL_sF, gA_sA, shl_t, or_t, and_t, sbit_t, ubit_t, b01_0, b01_1, Option.bind_some, ↓reduceIte, eq_self, ne_eq, not_true_eq_false, Bool.false_eq_true, not_false_eq_true, true_and, and_true, false_and, and_false, if_pos, if_neg, h5, x9, y3, y4, a1]
    -- the model: frames of rows 62, 63
    have FrV : ∀ {k : Nat} {a b : Mem}, FrK k a b → 59 ≤ k → ∀ {z : Mem}, KM (cSs tk R A).length (mAns wm (nI 0)) z → True := fun _ _ _ _ => trivial
    have mF : ∀ {w : Mem}, Fr (fun _ _ _ => False) (fun k i => (k = 62 ∨ k = 63) ∧ i = 0) (mAns wm (nI 0)) w → MT w (cT tk R A) ∧ MSS w (tN (cT tk R A)) (cSs tk R A) := fun hw => ⟨hM0.1.1.1.fr hw (fun _ _ _ z => z.elim) (fun _ _ z => by omega), hM0.1.2.1.fr hw (fun _ _ _ z => z.elim) (fun _ _ z => by omega)⟩
    have toR : ∀ {k : Nat} {a b : Mem}, FrK k a b → k = 62 ∨ k = 63 → Fr (fun _ _ _ => False) (fun k i => (k = 62 ∨ k = 63) ∧ i = 0) a b := fun hk hk2 => hk.mono (fun _ _ _ z => z) (fun _ _ z => by omega)
    have inner : ∀ (kk : Mem → Option (Mem × Int32)) (ld : Nat → Nat) (v3 : Int32) (i : Nat), i < tN (cT tk R A) → ∀ r fuel j w d, i < j → j + r = tN (cT tk R A) → r < fuel → Fr (fun _ _ _ => False) (fun k i => (k = 62 ∨ k = 63) ∧ i = 0) (mAns wm (nI 0)) w → RS w 63 (tN (cT tk R A)) ld → RS w 62 (tN (cT tk R A)) (clb (cT tk R A) ld (prp (cT tk R A) i ++ rowp (cT tk R A) i j) d) → ∃ w', lp_X9_level_141 kk N (nI t) (nI u) v3 (nI i) fuel w (nI j) = kk w' ∧ Fr (fun _ _ _ => False) (fun k i => (k = 62 ∨ k = 63) ∧ i = 0) (mAns wm (nI 0)) w' ∧ RS w' 63 (tN (cT tk R A)) ld ∧ RS w' 62 (tN (cT tk R A)) (clb (cT tk R A) ld (prp (cT tk R A) (i + 1)) d) := by
      intro kk ld v3 i hi r
      induction r with
      | zero =>
        intro fuel j w d hij hj hf hw h63 h62
        obtain ⟨f', rfl⟩ : ∃ f, fuel = f + 1 := ⟨fuel - 1, by omega⟩
        have hT := (mF hw).1
        have e : j = tN (cT tk R A) := by omega
        subst e
        refine ⟨w, ?_, hw, h63, by rw [prp_succ]; exact h62⟩
        rw [lp_X9_level_141]
        simp (disch := omega) only [↓lm1, ↓lm2, eq_n1, eq_n2, n1_eq, n2_eq, n1_n2, n2_n1, n1_lt, n2_lt, n1_le, lt_n1, lt_n2, inb_t, cl_t, le_tt, le_tf, lt_tt, lt_tf, eq_tt, eq_tf, q_add, q_mul, li0, li1, li2, li3, li4, li5, li6, li7, li8, li12, li16, li24, li48, li500, gF_sA, gA_sF, gF_sF, gR_sA, gR_sF, gL_sA, gL_sF, gA_sA, shl_t, or_t, and_t, sbit_t, ubit_t, b01_0, b01_1, Option.bind_some, ↓reduceIte, eq_self, ne_eq, not_true_eq_false, Bool.false_eq_true, not_false_eq_true, true_and, and_true, false_and, and_false, if_pos, if_neg, hT.2.2.1]
      | succ r ih =>
        intro fuel j w d hij hj hf hw h63 h62
        obtain ⟨f', rfl⟩ : ∃ f, fuel = f + 1 := ⟨fuel - 1, by omega⟩
        have hT := (mF hw).1
        have hA := isAlike_ok (N := N) (k := 63) (i := i) (j := j) rfl hT h63 hi (by omega) (by omega)
        by_cases z : tF (cT tk R A) i = tF (cT tk R A) j ∧ eqParts (cT tk R A) ld i j = true
        · obtain ⟨w1, a1, a2, a3⟩ := unites_ok (N := N) (a := i) (b := j) (k := 62) rfl h62 (by omega) hi (by omega)
          have a3 : FrK 62 w w1 := a3
          have h63' : RS w1 63 (tN (cT tk R A)) ld := ⟨h63.1, h63.2.1, (a3.F _ _ _).trans h63.2.2.1, fun x hx => by rw [a3.A (by omega)]; exact h63.2.2.2 x hx⟩
          obtain ⟨w', e1, e2, e3, e4⟩ := ih f' (j + 1) w1 d (by omega) (by omega) (by omega) (hw.tr (toR a3 (Or.inl rfl))) h63' (by
            rw [rowp_succ, if_pos ⟨hij, z.1⟩, ← List.append_assoc, clb_app]
            show RS w1 62 _ (if eqParts (cT tk R A) ld i j = true then un _ i j else _)
            rw [if_pos z.2]; exact a2)
          refine ⟨w', ?_, e2, e3, e4⟩
          rw [if_pos z] at hA
          rw [lp_X9_level_141, ← e1]
          simp (disch := omega) only [↓lm1, ↓lm2, eq_n1, eq_n2, n1_eq, n2_eq, n1_n2, n2_n1, n1_lt, n2_lt, n1_le, lt_n1, lt_n2, inb_t, cl_t, le_tt, le_tf, lt_tt, lt_tf, eq_tt, eq_tf, q_add, q_mul, li0, li1, li2, li3, li4, li5, li6, li7, li8, li12, li16, li24, li48, li500, gF_sA, gA_sF, gF_sF, gR_sA, gR_sF, gL_sA, gL_sF, gA_sA, shl_t, or_t, and_t, sbit_t, ubit_t, b01_0, b01_1, Option.bind_some, ↓reduceIte, eq_self, ne_eq, not_true_eq_false, Bool.false_eq_true, not_false_eq_true, true_and, and_true, false_and, and_false, if_pos, if_neg, hT.2.2.1, hA, a1]
        · obtain ⟨w', e1, e2, e3, e4⟩ := ih f' (j + 1) w d (by omega) (by omega) (by omega) hw h63 (by
            rw [rowp_succ, ← List.append_assoc, clb_app]
            by_cases y : i < j ∧ tF (cT tk R A) i = tF (cT tk R A) j
            · rw [if_pos y]
              show RS w 62 _ (if eqParts (cT tk R A) ld i j = true then un _ i j else _)
              rw [if_neg (fun q => z ⟨y.2, q⟩)]; exact h62
            · rw [if_neg y]; exact h62)
          refine ⟨w', ?_, e2, e3, e4⟩
          rw [if_neg z] at hA
          rw [lp_X9_level_141, ← e1]
          simp (disch := omega) only [↓lm1, ↓lm2, eq_n1, eq_n2, n1_eq, n2_eq, n1_n2, n2_n1, n1_lt, n2_lt, n1_le, lt_n1, lt_n2, inb_t, cl_t, le_tt, le_tf, lt_tt, lt_tf, eq_tt, eq_tf, q_add, q_mul, li0, li1, li2, li3, li4, li5, li6, li7, li8, li12, li16, li24, li48, li500, gF_sA, gA_sF, gF_sF, gR_sA, gR_sF, gL_sA, gL_sF, gA_sA, shl_t, or_t, and_t, sbit_t, ubit_t, b01_0, b01_1, Option.bind_some, ↓reduceIte, eq_self, ne_eq, not_true_eq_false, Bool.false_eq_true, not_false_eq_true, true_and, and_true, false_and, and_false, if_pos, if_neg, hT.2.2.1, hA]
    have outer : ∀ (kk : Mem → Option (Mem × Int32)) (ld : Nat → Nat) (v3 : Int32), ∀ r fuel i w d, i + r = tN (cT tk R A) → r < fuel → Fr (fun _ _ _ => False) (fun k i => (k = 62 ∨ k = 63) ∧ i = 0) (mAns wm (nI 0)) w → RS w 63 (tN (cT tk R A)) ld → RS w 62 (tN (cT tk R A)) (clb (cT tk R A) ld (prp (cT tk R A) i) d) → ∃ w', lp_X9_level_126 kk N (nI t) (nI u) v3 fuel w (nI i) = kk w' ∧ Fr (fun _ _ _ => False) (fun k i => (k = 62 ∨ k = 63) ∧ i = 0) (mAns wm (nI 0)) w' ∧ RS w' 62 (tN (cT tk R A)) (clb (cT tk R A) ld (prs (cT tk R A)) d) := by
      intro kk ld v3 r
      induction r with
      | zero =>
        intro fuel i w d hi hf hw h63 h62
        obtain ⟨f', rfl⟩ : ∃ f, fuel = f + 1 := ⟨fuel - 1, by omega⟩
        have hT := (mF hw).1
        have e : i = tN (cT tk R A) := by omega
        subst e
        refine ⟨w, ?_, hw, h62⟩
        rw [lp_X9_level_126]
        simp (disch := omega) only [↓lm1, ↓lm2, eq_n1, eq_n2, n1_eq, n2_eq, n1_n2, n2_n1, n1_lt, n2_lt, n1_le, lt_n1, lt_n2, inb_t, cl_t, le_tt, le_tf, lt_tt, lt_tf, eq_tt, eq_tf, q_add, q_mul, li0, li1, li2, li3, li4, li5, li6, li7, li8, li12, li16, li24, li48, li500, gF_sA, gA_sF, gF_sF, gR_sA, gR_sF, gL_sA, gL_sF, gA_sA, shl_t, or_t, and_t, sbit_t, ubit_t, b01_0, b01_1, Option.bind_some, ↓reduceIte, eq_self, ne_eq, not_true_eq_false, Bool.false_eq_true, not_false_eq_true, true_and, and_true, false_and, and_false, if_pos, if_neg, hT.2.2.1]
      | succ r ih =>
        intro fuel i w d hi hf hw h63 h62
        obtain ⟨f', rfl⟩ : ∃ f, fuel = f + 1 := ⟨fuel - 1, by omega⟩
        have hT := (mF hw).1
        obtain ⟨w1, a1, a2, a3, a4⟩ := inner (fun (w_12 : Mem) => (f_X9_level_183_126 (fun (w : Mem) (v4 : Int32) => lp_X9_level_126 kk N (nI t) (nI u) v3 f' w v4) kk N w_12 (nI t) (nI u) v3 (nI i))) ld v3 i (by omega) (tN (cT tk R A) - (i + 1)) N (i + 1) w d (by omega) (by omega) (by omega) hw h63 (by rw [(rowp_len (cT tk R A) i (i + 1)).2 (by omega), List.append_nil]; exact h62)
        obtain ⟨w', e1, e2, e3⟩ := ih f' (i + 1) w1 d (by omega) (by omega) a2 a3 a4
        refine ⟨w', ?_, e2, e3⟩
        rw [lp_X9_level_126, ← e1]
        simp (disch := omega) only [↓lm1, ↓lm2, eq_n1, eq_n2, n1_eq, n2_eq, n1_n2, n2_n1, n1_lt, n2_lt, n1_le, lt_n1, lt_n2, inb_t, cl_t, le_tt, le_tf, lt_tt, lt_tf, eq_tt, eq_tf, q_add, q_mul, li0, li1, li2, li3, li4, li5, li6, li7, li8, li12, li16, li24, li48, li500, gF_sA, gA_sF, gF_sF, gR_sA, gR_sF, gL_sA, gL_sF, gA_sA, shl_t, or_t, and_t, sbit_t, ubit_t, b01_0, b01_1, Option.bind_some, ↓reduceIte, eq_self, ne_eq, not_true_eq_false, Bool.false_eq_true, not_false_eq_true, true_and, and_true, false_and, and_false, if_pos, if_neg, hT.2.2.1]
        refine a1.trans ?_
        simp (disch := omega) only [↓lm1, ↓lm2, eq_n1, eq_n2, n1_eq, n2_eq, n1_n2, n2_n1, n1_lt, n2_lt, n1_le, lt_n1, lt_n2, inb_t, cl_t, le_tt, le_tf, lt_tt, lt_tf, eq_tt, eq_tf, q_add, q_mul, li0, li1, li2, li3, li4, li5, li6, li7, li8, li12, li16, li24, li48, li500, gF_sA, gA_sF, gF_sF, gR_sA, gR_sF, gL_sA, gL_sF, gA_sA, shl_t, or_t, and_t, sbit_t, ubit_t, b01_0, b01_1, Option.bind_some, ↓reduceIte, eq_self, ne_eq, not_true_eq_false, Bool.false_eq_true, not_false_eq_true, true_and, and_true, false_and, and_false, if_pos, if_neg, f_X9_level_183_126]
    have copy : ∀ (kk : Mem → Option (Mem × Int32)) (v3 : Int32) (ld : Nat → Nat), ∀ r fuel q w, q + r = tN (cT tk R A) → r < fuel → Fr (fun _ _ _ => False) (fun k i => (k = 62 ∨ k = 63) ∧ i = 0) (mAns wm (nI 0)) w → RS w 62 (tN (cT tk R A)) ld → (∀ i, i < q → gA w 63 0 i = nI (ld i)) → ∃ w', lp_X9_level_94 kk N (nI t) (nI u) v3 fuel w (nI q) = kk w' ∧ Fr (fun _ _ _ => False) (fun k i => (k = 62 ∨ k = 63) ∧ i = 0) (mAns wm (nI 0)) w' ∧ RS w' 62 (tN (cT tk R A)) ld ∧ RS w' 63 (tN (cT tk R A)) ld := by
      intro kk v3 ld r
      induction r with
      | zero =>
        intro fuel q w hq hf hw h62 h63
        obtain ⟨f', rfl⟩ : ∃ f, fuel = f + 1 := ⟨fuel - 1, by omega⟩
        have hT := (mF hw).1
        refine ⟨w, ?_, hw, h62, h62.1, h62.2.1, h62.2.2.1, fun i hi => h63 i (by omega)⟩
        rw [lp_X9_level_94]
        simp (disch := omega) only [↓lm1, ↓lm2, eq_n1, eq_n2, n1_eq, n2_eq, n1_n2, n2_n1, n1_lt, n2_lt, n1_le, lt_n1, lt_n2, inb_t, cl_t, le_tt, le_tf, lt_tt, lt_tf, eq_tt, eq_tf, q_add, q_mul, li0, li1, li2, li3, li4, li5, li6, li7, li8, li12, li16, li24, li48, li500, gF_sA, gA_sF, gF_sF, gR_sA, gR_sF, gL_sA, gL_sF, gA_sA, shl_t, or_t, and_t, sbit_t, ubit_t, b01_0, b01_1, Option.bind_some, ↓reduceIte, eq_self, ne_eq, not_true_eq_false, Bool.false_eq_true, not_false_eq_true, true_and, and_true, false_and, and_false, if_pos, if_neg, hT.2.2.1]
      | succ r ih =>
        intro fuel q w hq hf hw h62 h63
        obtain ⟨f', rfl⟩ : ∃ f, fuel = f + 1 := ⟨fuel - 1, by omega⟩
        have hT := (mF hw).1
        have hv := h62.2.2.2 q (by omega)
        have hs : FrK 63 w (sA w 63 0 q (nI (ld q))) := FrK.set
        obtain ⟨w', e1, e2, e3, e4⟩ := ih f' (q + 1) (sA w 63 0 q (nI (ld q))) (by omega) (by omega) (hw.tr (toR hs (Or.inr rfl))) ⟨h62.1, h62.2.1, h62.2.2.1, fun x hx => by rw [hs.A (by omega)]; exact h62.2.2.2 x hx⟩ (fun i hi => by
          by_cases e : i = q
          · subst e; exact gA_sA_self
          · rw [gA_sA_at e]; exact h63 i (by omega))
        refine ⟨w', ?_, e2, e3, e4⟩
        rw [lp_X9_level_94, ← e1]
        simp (disch := omega) only [↓lm1, ↓lm2, eq_n1, eq_n2, n1_eq, n2_eq, n1_n2, n2_n1, n1_lt, n2_lt, n1_le, lt_n1, lt_n2, inb_t, cl_t, le_tt, le_tf, lt_tt, lt_tf, eq_tt, eq_tf, q_add, q_mul, li0, li1, li2, li3, li4, li5, li6, li7, li8, li12, li16, li24, li48, li500, gF_sA, gA_sF, gF_sF, gR_sA, gR_sF, gL_sA, gL_sF, gA_sA, shl_t, or_t, and_t, sbit_t, ubit_t, b01_0, b01_1, Option.bind_some, ↓reduceIte, eq_self, ne_eq, not_true_eq_false, Bool.false_eq_true, not_false_eq_true, true_and, and_true, false_and, and_false, if_pos, if_neg, hT.2.2.1, hv]
    have keyM3 : ∀ r fuel k w, k + r = n0 → r < fuel → Fr (fun _ _ _ => False) (fun k i => (k = 62 ∨ k = 63) ∧ i = 0) (mAns wm (nI 0)) w → RS w 62 (tN (cT tk R A)) (lvl (cT tk R A) (cSs tk R A) k) → ∃ w', lp_X9_level_76 (fun (w_7 : Mem) (u3_7 : Int32) => (f_X9_level_195 N w_7 u3_7)) N (nI t) (nI u) fuel w (nI k) = some (w', nI n0) ∧ Fr (fun _ _ _ => False) (fun k i => (k = 62 ∨ k = 63) ∧ i = 0) (mAns wm (nI 0)) w' := by
      intro r
      induction r with
      | zero =>
        intro fuel k w hk hf hw h62
        obtain ⟨f', rfl⟩ : ∃ f, fuel = f + 1 := ⟨fuel - 1, by omega⟩
        have e : k = n0 := by omega
        subst e
        have ht' : t < tN (cT tk R A) := ht
        have hu' : u < tN (cT tk R A) := hu
        have c1 := (h62.2.1 t ht).1
        have c2 := (h62.2.1 u hu).1
        have d1 := h62.2.2.2 t ht
        have d2 := h62.2.2.2 u hu
        refine ⟨w, ?_, hw⟩
        rw [lp_X9_level_76]
        simp (disch := omega) only [↓lm1, ↓lm2, eq_n1, eq_n2, n1_eq, n2_eq, n1_n2, n2_n1, n1_lt, n2_lt, n1_le, lt_n1, lt_n2, inb_t, cl_t, le_tt, le_tf, lt_tt, lt_tf, eq_tt, eq_tf, q_add, q_mul, li0, li1, li2, li3, li4, li5, li6, li7, li8, li12, li16, li24, li48, li500, gF_sA, gA_sF, gF_sF, gR_sA, gR_sF, gL_sA, gL_sF, gA_sA, shl_t, or_t, and_t, sbit_t, ubit_t, b01_0, b01_1, Option.bind_some, ↓reduceIte, eq_self, ne_eq, not_true_eq_false, Bool.false_eq_true, not_false_eq_true, true_and, and_true, false_and, and_false, if_pos, if_neg, d1, d2, f_X9_level_195]
      | succ r ih =>
        intro fuel k w hk hf hw h62
        obtain ⟨f', rfl⟩ : ∃ f, fuel = f + 1 := ⟨fuel - 1, by omega⟩
        have ht' : t < tN (cT tk R A) := ht
        have hu' : u < tN (cT tk R A) := hu
        have c1 := (h62.2.1 t ht).1
        have c2 := (h62.2.1 u hu).1
        have d1 := h62.2.2.2 t ht
        have d2 := h62.2.2.2 u hu
        have hne := n3' k (by omega)
        let rc : Mem → Int32 → Option (Mem × Int32) := fun w v3 => lp_X9_level_76 (fun (w_7 : Mem) (u3_7 : Int32) => (f_X9_level_195 N w_7 u3_7)) N (nI t) (nI u) f' w v3
        obtain ⟨w1, a1, a2, a3, a4⟩ := copy (fun (w_10 : Mem) => (f_X9_level_123_76 rc (fun (w_7 : Mem) (u3_7 : Int32) => (f_X9_level_195 N w_7 u3_7)) N w_10 (nI t) (nI u) (nI k))) (nI k) (lvl (cT tk R A) (cSs tk R A) k) (tN (cT tk R A)) N 0 w (by omega) (by omega) hw h62 (fun i hi => absurd hi (Nat.not_lt_zero i))
        obtain ⟨w2, b1, b2, b3⟩ := outer (fun (w_11 : Mem) => (f_X9_level_189_76 rc (fun (w_7 : Mem) (u3_7 : Int32) => (f_X9_level_195 N w_7 u3_7)) N w_11 (nI t) (nI u) (nI k))) (lvl (cT tk R A) (cSs tk R A) k) (nI k) (tN (cT tk R A)) N 0 w1 (lvl (cT tk R A) (cSs tk R A) k) (by omega) (by omega) a2 a4 a3
        obtain ⟨w3, d3, d4⟩ := ih f' (k + 1) w2 (by omega) (by omega) b2 b3
        refine ⟨w3, ?_, d4⟩
        rw [lp_X9_level_76, ← d3]
        simp (disch := omega) only [↓lm1, ↓lm2, eq_n1, eq_n2, n1_eq, n2_eq, n1_n2, n2_n1, n1_lt, n2_lt, n1_le, lt_n1, lt_n2, inb_t, cl_t, le_tt, le_tf, lt_tt, lt_tf, eq_tt, eq_tf, q_add, q_mul, li0, li1, li2, li3, li4, li5, li6, li7, li8, li12, li16, li24, li48, li500, gF_sA, gA_sF, gF_sF, gR_sA, gR_sF, gL_sA, gL_sF, gA_sA, shl_t, or_t, and_t, sbit_t, ubit_t, b01_0, b01_1, Option.bind_some, ↓reduceIte, eq_self, ne_eq, not_true_eq_false, Bool.false_eq_true, not_false_eq_true, true_and, and_true, false_and, and_false, if_pos, if_neg, d1, d2]
        refine a1.trans ?_
        rw [f_X9_level_123_76]
        refine b1.trans ?_
        simp (disch := omega) only [↓lm1, ↓lm2, eq_n1, eq_n2, n1_eq, n2_eq, n1_n2, n2_n1, n1_lt, n2_lt, n1_le, lt_n1, lt_n2, inb_t, cl_t, le_tt, le_tf, lt_tt, lt_tf, eq_tt, eq_tf, q_add, q_mul, li0, li1, li2, li3, li4, li5, li6, li7, li8, li12, li16, li24, li48, li500, gF_sA, gA_sF, gF_sF, gR_sA, gR_sF, gL_sA, gL_sF, gA_sA, shl_t, or_t, and_t, sbit_t, ubit_t, b01_0, b01_1, Option.bind_some, ↓reduceIte, eq_self, ne_eq, not_true_eq_false, Bool.false_eq_true, not_false_eq_true, true_and, and_true, false_and, and_false, if_pos, if_neg, f_X9_level_189_76]
        rfl
    have keyM2 : ∀ r fuel k w, k + r = (cSs tk R A).length → r < fuel → Fr (fun _ _ _ => False) (fun k i => (k = 62 ∨ k = 63) ∧ i = 0) (mAns wm (nI 0)) w → RS w 62 (tN (cT tk R A)) (unS ((cSs tk R A).take k)) → ∃ w', lp_X9_level_40 (fun (w_6 : Mem) => (f_X9_level_74 N w_6 (nI t) (nI u))) N (nI t) (nI u) fuel w (nI k) = some (w', nI n0) ∧ Fr (fun _ _ _ => False) (fun k i => (k = 62 ∨ k = 63) ∧ i = 0) (mAns wm (nI 0)) w' := by
      intro r
      induction r with
      | zero =>
        intro fuel k w hk hf hw h62
        obtain ⟨f', rfl⟩ : ∃ f, fuel = f + 1 := ⟨fuel - 1, by omega⟩
        have hSw := (mF hw).2
        rw [List.take_of_length_le (by omega)] at h62
        obtain ⟨w1, a1, a2⟩ := keyM3 n0 N 0 w (by omega) (by omega) hw h62
        refine ⟨w1, ?_, a2⟩
        rw [lp_X9_level_40]
        simp (disch := omega) only [↓lm1, ↓lm2, eq_n1, eq_n2, n1_eq, n2_eq, n1_n2, n2_n1, n1_lt, n2_lt, n1_le, lt_n1, lt_n2, inb_t, cl_t, le_tt, le_tf, lt_tt, lt_tf, eq_tt, eq_tf, q_add, q_mul, li0, li1, li2, li3, li4, li5, li6, li7, li8, li12, li16, li24, li48, li500, gF_sA, gA_sF, gF_sF, gR_sA, gR_sF, gL_sA, gL_sF, gA_sA, shl_t, or_t, and_t, sbit_t, ubit_t, b01_0, b01_1, Option.bind_some, ↓reduceIte, eq_self, ne_eq, not_true_eq_false, Bool.false_eq_true, not_false_eq_true, true_and, and_true, false_and, and_false, if_pos, if_neg, hSw.2.1, f_X9_level_74]
        exact a1
      | succ r ih =>
        intro fuel k w hk hf hw h62
        obtain ⟨f', rfl⟩ : ∃ f, fuel = f + 1 := ⟨fuel - 1, by omega⟩
        have hSw := (mF hw).2
        obtain ⟨⟨i, j⟩, hpk⟩ := get_at (cSs tk R A) (q := k) (by omega)
        obtain ⟨ki, kj, y3, y4⟩ := hSw.2.2 k i j hpk
        obtain ⟨w1, a1, a2, a3⟩ := unites_ok (N := N) (a := i) (b := j) (k := 62) rfl h62 (by omega) ki kj
        obtain ⟨w2, b1, b2⟩ := ih f' (k + 1) w1 (by omega) (by omega) (hw.tr (toR a3 (Or.inl rfl))) (by rw [unS_take hpk]; exact a2)
        refine ⟨w2, ?_, b2⟩
        rw [lp_X9_level_40, ← b1]
        simp (disch := omega) only [↓lm1, ↓lm2, eq_n1, eq_n2, n1_eq, n2_eq, n1_n2, n2_n1, n1_lt, n2_lt, n1_le, lt_n1, lt_n2, inb_t, cl_t, le_tt, le_tf, lt_tt, lt_tf, eq_tt, eq_tf, q_add, q_mul, li0, li1, li2, li3, li4, li5, li6, li7, li8, li12, li16, li24, li48, li500, gF_sA, gA_sF, gF_sF, gR_sA, gR_sF, gL_sA, gL_sF, gA_sA, shl_t, or_t, and_t, sbit_t, ubit_t, b01_0, b01_1, Option.bind_some, ↓reduceIte, eq_self, ne_eq, not_true_eq_false, Bool.false_eq_true, not_false_eq_true, true_and, and_true, false_and, and_false, if_pos, if_neg, hSw.2.1, y3, y4, a1]
    have keyM1 : ∀ r fuel q w, q + r = tN (cT tk R A) → r < fuel → Fr (fun _ _ _ => False) (fun k i => (k = 62 ∨ k = 63) ∧ i = 0) (mAns wm (nI 0)) w → (∀ i, i < q → gA w 62 0 i = nI i) → ∃ w', lp_X9_level_17 (fun (w_5 : Mem) => (f_X9_level_38 N w_5 (nI t) (nI u))) N (nI t) (nI u) fuel w (nI q) = some (w', nI n0) ∧ Fr (fun _ _ _ => False) (fun k i => (k = 62 ∨ k = 63) ∧ i = 0) (mAns wm (nI 0)) w' := by
      intro r
      induction r with
      | zero =>
        intro fuel q w hq hf hw h62
        obtain ⟨f', rfl⟩ : ∃ f, fuel = f + 1 := ⟨fuel - 1, by omega⟩
        have hT := (mF hw).1
        obtain ⟨w1, a1, a2⟩ := keyM2 (cSs tk R A).length N 0 w (by omega) (by omega) hw ⟨hn24, by rw [List.take_zero]; exact can_id _, hT.2.2.1, fun i hi => by rw [List.take_zero]; exact h62 i (by omega)⟩
        refine ⟨w1, ?_, a2⟩
        rw [lp_X9_level_17]
        simp (disch := omega) only [↓lm1, ↓lm2, eq_n1, eq_n2, n1_eq, n2_eq, n1_n2, n2_n1, n1_lt, n2_lt, n1_le, lt_n1, lt_n2, inb_t, cl_t, le_tt, le_tf, lt_tt, lt_tf, eq_tt, eq_tf, q_add, q_mul, li0, li1, li2, li3, li4, li5, li6, li7, li8, li12, li16, li24, li48, li500, gF_sA, gA_sF, gF_sF, gR_sA, gR_sF, gL_sA, gL_sF, gA_sA, shl_t, or_t, and_t, sbit_t, ubit_t, b01_0, b01_1, Option.bind_some, ↓reduceIte, eq_self, ne_eq, not_true_eq_false, Bool.false_eq_true, not_false_eq_true, true_and, and_true, false_and, and_false, if_pos, if_neg, hT.2.2.1, f_X9_level_38]
        exact a1
      | succ r ih =>
        intro fuel q w hq hf hw h62
        obtain ⟨f', rfl⟩ : ∃ f, fuel = f + 1 := ⟨fuel - 1, by omega⟩
        have hT := (mF hw).1
        have hs : FrK 62 w (sA w 62 0 q (nI q)) := FrK.set
        obtain ⟨w', e1, e2⟩ := ih f' (q + 1) (sA w 62 0 q (nI q)) (by omega) (by omega) (hw.tr (toR hs (Or.inl rfl))) (fun i hi => by
          by_cases e : i = q
          · subst e; exact gA_sA_self
          · rw [gA_sA_at e]; exact h62 i (by omega))
        refine ⟨w', ?_, e2⟩
        rw [lp_X9_level_17, ← e1]
        simp (disch := omega) only [↓lm1, ↓lm2, eq_n1, eq_n2, n1_eq, n2_eq, n1_n2, n2_n1, n1_lt, n2_lt, n1_le, lt_n1, lt_n2, inb_t, cl_t, le_tt, le_tf, lt_tt, lt_tf, eq_tt, eq_tf, q_add, q_mul, li0, li1, li2, li3, li4, li5, li6, li7, li8, li12, li16, li24, li48, li500, gF_sA, gA_sF, gF_sF, gR_sA, gR_sF, gL_sA, gL_sF, gA_sA, shl_t, or_t, and_t, sbit_t, ubit_t, b01_0, b01_1, Option.bind_some, ↓reduceIte, eq_self, ne_eq, not_true_eq_false, Bool.false_eq_true, not_false_eq_true, true_and, and_true, false_and, and_false, if_pos, if_neg, hT.2.2.1]
    have h5 := h.1.1.2.1
    have hf := h.1.1.1
    have x10 : gF wx 7 10 f = nI (tN (cT tk R A)) := h.1.2.1.1.1.2.2.1
    obtain ⟨v0, p1, p2, p3⟩ := partAll_ok wx 0 (m := tN (cT tk R A)) hn24 (N := N) (by omega)
    obtain ⟨v, a1, a2⟩ := keyX1 (cSs tk R A).length N 0 v0 (by omega) (by omega) (p3.kx (fun k j i z => by omega) (fun k i z => by omega)) (by rw [List.take_zero]; exact p2)
    obtain ⟨u', b1, b2⟩ := keyM1 (tN (cT tk R A)) N 0 (mAns wm (nI 0)) (by omega) (by omega) Fr.rf (fun i hi => absurd hi (Nat.not_lt_zero i))
    rw [f_X8_level, f_X9_level, e1, e2]
    simp (disch := omega) only [↓lm1, ↓lm2, eq_n1, eq_n2, n1_eq, n2_eq, n1_n2, n2_n1, n1_lt, n2_lt, n1_le, lt_n1, lt_n2, inb_t, cl_t, le_tt, le_tf, lt_tt, lt_tf, eq_tt, eq_tf, q_add, q_mul, li0, li1, li2, li3, li4, li5, li6, li7, li8, li12, li16, li24, li48, li500, gF_sA, gA_sF, gF_sF, gR_sA, gR_sF, gL_sA, gL_sF, gA_sA, shl_t, or_t, and_t, sbit_t, ubit_t, b01_0, b01_1, Option.bind_some, ↓reduceIte, eq_self, ne_eq, not_true_eq_false, Bool.false_eq_true, not_false_eq_true, true_and, and_true, false_and, and_false, if_pos, if_neg, h5, x10, p1, refused_0]
    rw [a1, b1]
    exact op_ans h a2 (b2.km _ (fun _ _ _ z => z.elim) (fun _ _ z => by omega)) ((b2.1 _ _ _ (fun z => z)).trans (mAns_1 _ _)) ((b2.1 _ _ _ (fun z => z)).trans (mAns_3 _ _)) rfl
theorem nb14 (kk : Option (Mem × Int32)) {N i : Nat} {w : Mem} {T : Trm} {ld : Nat → Nat} (hN : 24 < N) (hT : MT w T) (hR : RS w 59 (tN T) ld) (hi : i < tN T) : ∀ (r fuel j : Nat), i < j → j + r = tN T → r < fuel → (prp T i ++ rowp T i j).find? (toJoin T ld) = none → ((prp T (i + 1)).find? (toJoin T ld) = none ∧ lp_X9_nextByParts_14 kk N w (nI i) fuel (nI j) = kk) ∨ ∃ p, nxt T ld = some p ∧ lp_X9_nextByParts_14 kk N w (nI i) fuel (nI j) = Option.bind (f_X9_nextJoin N w (nI p.1) (nI p.2)) (fun z7 => some (z7, nI 1)) := by
  have t1 := hT.1
  intro r
  induction r with
  | zero =>
    intro fuel j hij hj hf h
    obtain ⟨f', rfl⟩ : ∃ f, fuel = f + 1 := ⟨fuel - 1, by omega⟩
    have e : j = tN T := by omega
    subst e
    refine Or.inl ⟨by rw [prp_succ]; exact h, ?_⟩
    rw [lp_X9_nextByParts_14]
    simp (disch := omega) only [↓lm1, ↓lm2, eq_n1, eq_n2, n1_eq, n2_eq, n1_n2, n2_n1, n1_lt, n2_lt, n1_le, lt_n1, lt_n2, inb_t, cl_t, le_tt, le_tf, lt_tt, lt_tf, eq_tt, eq_tf, q_add, q_mul, li0, li1, li2, li3, li4, li5, li6, li7, li8, li12, li16, li24, li48, li500, gF_sA, gA_sF, gF_sF, gR_sA, gR_sF, gL_sA, gL_sF, gA_sA, shl_t, or_t, and_t, sbit_t, ubit_t, b01_0, b01_1, Option.bind_some, ↓reduceIte, eq_self, ne_eq, not_true_eq_false, Bool.false_eq_true, not_false_eq_true, true_and, and_true, false_and, and_false, if_pos, if_neg, hT.2.2.1]
  | succ r ih =>
    intro fuel j hij hj hf h
    obtain ⟨f', rfl⟩ : ∃ f, fuel = f + 1 := ⟨fuel - 1, by omega⟩
    have c1 := (hR.2.1 i hi).1
    have c2 := (hR.2.1 j (by omega)).1
    have hA := isAlike_ok (N := N) (k := 59) (i := i) (j := j) rfl hT hR hi (by omega) (by omega)
    by_cases z : toJ T ld i j
    · refine Or.inr ⟨(i, j), nxt_here hij (by omega) h z, ?_⟩
      have z1 := z.1
      rw [if_pos z.2] at hA
      rw [lp_X9_nextByParts_14]
      simp (disch := omega) only [↓lm1, ↓lm2, eq_n1, eq_n2, n1_eq, n2_eq, n1_n2, n2_n1, n1_lt, n2_lt, n1_le, lt_n1, lt_n2, inb_t, cl_t, le_tt, le_tf, lt_tt, lt_tf, eq_tt, eq_tf, q_add, q_mul, li0, li1, li2, li3, li4, li5, li6, li7, li8, li12, li16, li24, li48, li500, gF_sA, gA_sF, gF_sF, gR_sA, gR_sF, gL_sA, gL_sF, gA_sA, shl_t, or_t, and_t, sbit_t, ubit_t, b01_0, b01_1, Option.bind_some, ↓reduceIte, eq_self, ne_eq, not_true_eq_false, Bool.false_eq_true, not_false_eq_true, true_and, and_true, false_and, and_false, if_pos, if_neg, hT.2.2.1, hR.2.2.2, hA]
    · have e : lp_X9_nextByParts_14 kk N w (nI i) (f' + 1) (nI j) = lp_X9_nextByParts_14 kk N w (nI i) f' (nI (j + 1)) := by
        rw [lp_X9_nextByParts_14]
        by_cases y : ld i = ld j
        · simp (disch := omega) only [↓lm1, ↓lm2, eq_n1, eq_n2, n1_eq, n2_eq, n1_n2, n2_n1, n1_lt, n2_lt, n1_le, lt_n1, lt_n2, inb_t, cl_t, le_tt, le_tf, lt_tt, lt_tf, eq_tt, eq_tf, q_add, q_mul, li0, li1, li2, li3, li4, li5, li6, li7, li8, li12, li16, li24, li48, li500, gF_sA, gA_sF, gF_sF, gR_sA, gR_sF, gL_sA, gL_sF, gA_sA, shl_t, or_t, and_t, sbit_t, ubit_t, b01_0, b01_1, Option.bind_some, ↓reduceIte, eq_self, ne_eq, not_true_eq_false, Bool.false_eq_true, not_false_eq_true, true_and, and_true, false_and, and_false, if_pos, if_neg, hT.2.2.1, hR.2.2.2]
        · rw [if_neg (fun q => z ⟨y, q⟩)] at hA
          simp (disch := omega) only [↓lm1, ↓lm2, eq_n1, eq_n2, n1_eq, n2_eq, n1_n2, n2_n1, n1_lt, n2_lt, n1_le, lt_n1, lt_n2, inb_t, cl_t, le_tt, le_tf, lt_tt, lt_tf, eq_tt, eq_tf, q_add, q_mul, li0, li1, li2, li3, li4, li5, li6, li7, li8, li12, li16, li24, li48, li500, gF_sA, gA_sF, gF_sF, gR_sA, gR_sF, gL_sA, gL_sF, gA_sA, shl_t, or_t, and_t, sbit_t, ubit_t, b01_0, b01_1, Option.bind_some, ↓reduceIte, eq_self, ne_eq, not_true_eq_false, Bool.false_eq_true, not_false_eq_true, true_and, and_true, false_and, and_false, if_pos, if_neg, hT.2.2.1, hR.2.2.2, hA]
      rw [e]
      exact ih f' (j + 1) (by omega) (by omega) (by omega) (pre_next h z)
theorem nb2 (kk : Option (Mem × Int32)) {N : Nat} {w : Mem} {T : Trm} {ld : Nat → Nat} (hN : 24 < N) (hT : MT w T) (hR : RS w 59 (tN T) ld) : ∀ (r fuel i : Nat), i + r = tN T → r < fuel → (prp T i).find? (toJoin T ld) = none → (nxt T ld = none ∧ lp_X9_nextByParts_2 kk N w fuel (nI i) = kk) ∨ ∃ p, nxt T ld = some p ∧ lp_X9_nextByParts_2 kk N w fuel (nI i) = Option.bind (f_X9_nextJoin N w (nI p.1) (nI p.2)) (fun z7 => some (z7, nI 1)) := by
  have t1 := hT.1
  intro r
  induction r with
  | zero =>
    intro fuel i hi hf h
    obtain ⟨f', rfl⟩ : ∃ f, fuel = f + 1 := ⟨fuel - 1, by omega⟩
    have e : i = tN T := by omega
    subst e
    refine Or.inl ⟨h, ?_⟩
    rw [lp_X9_nextByParts_2]
    simp (disch := omega) only [↓lm1, ↓lm2, eq_n1, eq_n2, n1_eq, n2_eq, n1_n2, n2_n1, n1_lt, n2_lt, n1_le, lt_n1, lt_n2, inb_t, cl_t, le_tt, le_tf, lt_tt, lt_tf, eq_tt, eq_tf, q_add, q_mul, li0, li1, li2, li3, li4, li5, li6, li7, li8, li12, li16, li24, li48, li500, gF_sA, gA_sF, gF_sF, gR_sA, gR_sF, gL_sA, gL_sF, gA_sA, shl_t, or_t, and_t, sbit_t, ubit_t, b01_0, b01_1, Option.bind_some, ↓reduceIte, eq_self, ne_eq, not_true_eq_false, Bool.false_eq_true, not_false_eq_true, true_and, and_true, false_and, and_false, if_pos, if_neg, hT.2.2.1]
  | succ r ih =>
    intro fuel i hi hf h
    obtain ⟨f', rfl⟩ : ∃ f, fuel = f + 1 := ⟨fuel - 1, by omega⟩
    have e : lp_X9_nextByParts_2 kk N w (f' + 1) (nI i) = lp_X9_nextByParts_14 (f_X9_nextByParts_64_2 (fun (v1 : Int32) => lp_X9_nextByParts_2 kk N w   f' v1) kk N w (nI i)) N w (nI i) N (nI (i + 1)) := by
      rw [lp_X9_nextByParts_2]
      simp (disch := omega) only [↓lm1, ↓lm2, eq_n1, eq_n2, n1_eq, n2_eq, n1_n2, n2_n1, n1_lt, n2_lt, n1_le, lt_n1, lt_n2, inb_t, cl_t, le_tt, le_tf, lt_tt, lt_tf, eq_tt, eq_tf, q_add, q_mul, li0, li1, li2, li3, li4, li5, li6, li7, li8, li12, li16, li24, li48, li500, gF_sA, gA_sF, gF_sF, gR_sA, gR_sF, gL_sA, gL_sF, gA_sA, shl_t, or_t, and_t, sbit_t, ubit_t, b01_0, b01_1, Option.bind_some, ↓reduceIte, eq_self, ne_eq, not_true_eq_false, Bool.false_eq_true, not_false_eq_true, true_and, and_true, false_and, and_false, if_pos, if_neg, hT.2.2.1]
    rw [e]
    rcases nb14 (f_X9_nextByParts_64_2 (fun (v1 : Int32) => lp_X9_nextByParts_2 kk N w   f' v1) kk N w (nI i)) hN hT hR (show i < tN T by omega) (tN T - (i + 1)) N (i + 1) (by omega) (by omega) (by omega) (by rw [(rowp_len T i (i + 1)).2 (by omega), List.append_nil]; exact h) with ⟨g1, g2⟩ | g
    · rw [g2, f_X9_nextByParts_64_2, show nI i + (1 : Int32) = nI (i + 1) from n_add i 1]
      exact ih f' (i + 1) (by omega) (by omega) g1
    · exact Or.inr g
theorem nextByParts_ok {N : Nat} {w : Mem} {T : Trm} {ld : Nat → Nat} (hN : 24 < N) (hT : MT w T) (hR : RS w 59 (tN T) ld) : f_X9_nextByParts N w = match nxt T ld with
    | some p => Option.bind (f_X9_nextJoin N w (nI p.1) (nI p.2)) (fun z7 => some (z7, nI 1))
    | none => some (w, nI 0) := by
  have t1 := hT.1
  rw [f_X9_nextByParts]
  rcases nb2 (f_X9_nextByParts_70 N w) hN hT hR (tN T) N 0 (by omega) (by omega) (by rfl) with ⟨h1, h2⟩ | ⟨p, h1, h2⟩
  · rw [h1]; exact h2
  · rw [h1]; exact h2
