/-! many, core -/
theorem nar0 : vp_nar .boolean (nI 0) = nI 0 := by decide
theorem nar1 : vp_nar .boolean (nI 1) = nI 1 := by decide
def wless (w : Mem) (s m : Nat) : Prop := ∃ k, k < m ∧ s.testBit k = true ∧ hb w (clr s k) = true
theorem withLess_ok {N s : Nat} {w : Mem} {m : Nat} (hN : 5000 < N) (h3 : gF w 4 3 0 = nI m) (hm : m ≤ 12) (hs : s < 2 ^ m) : f_X4_holdsWithLess N w (nI s) = some (nI (b01 (wless w s m))) := by
  have hs2 : s < 4096 := Nat.lt_of_lt_of_le hs (p2le (b := 12) hm)
  have key : ∀ r fuel q, q + r = m → r < fuel → (∀ k, k < q → s.testBit k = true → hb w (clr s k) ≠ true) → lp_X4_holdsWithLess_2 (f_X4_holdsWithLess_40 N w) N w (nI s) fuel (nI q) = some (nI (b01 (wless w s m))) := by
    intro r
    induction r with
    | zero =>
      intro fuel q hq hf h
      obtain ⟨f', rfl⟩ : ∃ f, fuel = f + 1 := ⟨fuel - 1, by omega⟩
      rw [b01_f (fun ⟨k, k1, k2, k3⟩ => h k (by omega) k2 k3), lp_X4_holdsWithLess_2]
      simp (disch := omega) only [↓lm1, ↓lm2, eq_n1, eq_n2, n1_eq, n2_eq, n1_n2, n2_n1, n1_lt, n2_lt, n1_le, lt_n1, lt_n2, inb_t, cl_t, le_tt, le_tf, lt_tt, lt_tf, eq_tt, eq_tf, q_add, q_mul, li0, li1, li2, li3, li4, li5, li6, li7, li8, li12, li16, li24, li48, li500, gF_sA, gA_sF, gF_sF, gR_sA, gR_sF, gL_sA, gL_sF, gA_sA, shl_t, or_t, and_t, sbit_t, ubit_t, b01_0, b01_1, Option.bind_some, ↓reduceIte, eq_self, ne_eq, not_true_eq_false, Bool.false_eq_true, not_false_eq_true, true_and, and_true, false_and, and_false, if_pos, if_neg, h3]
      rfl
    | succ r ih =>
      intro fuel q hq hf h
      obtain ⟨f', rfl⟩ : ∃ f, fuel = f + 1 := ⟨fuel - 1, by omega⟩
      have hub := ubit_ok (b := s) (k := q) (by omega) (by omega)
      have hcl : clr s q < 4096 := clr_lt (n := 12) hs2
      have hh := holds_ok (N := N) (s := clr s q) (w := w) hcl
      rw [lp_X4_holdsWithLess_2, hub]
      by_cases z : s.testBit q = true
      · rw [b01_t z]
        by_cases y : hb w (clr s q) = true
        · rw [b01_t y] at hh
          rw [b01_t ⟨q, by omega, z, y⟩]
          simp (disch := omega) only [↓lm1, ↓lm2, eq_n1, eq_n2, n1_eq, n2_eq, n1_n2, n2_n1, n1_lt, n2_lt, n1_le, lt_n1, lt_n2, inb_t, cl_t, le_tt, le_tf, lt_tt, lt_tf, eq_tt, eq_tf, q_add, q_mul, li0, li1, li2, li3, li4, li5, li6, li7, li8, li12, li16, li24, li48, li500, gF_sA, gA_sF, gF_sF, gR_sA, gR_sF, gL_sA, gL_sF, gA_sA, shl_t, or_t, and_t, sbit_t, ubit_t, b01_0, b01_1, Option.bind_some, ↓reduceIte, eq_self, ne_eq, not_true_eq_false, Bool.false_eq_true, not_false_eq_true, true_and, and_true, false_and, and_false, if_pos, if_neg, h3, clr_t, hh]
        · rw [b01_f y] at hh
          have hi := ih f' (q + 1) (by omega) (by omega) (fun k hk k2 => by
            by_cases e : k = q
            · subst e; exact y
            · exact h k (by omega) k2)
          rw [← hi]
          simp (disch := omega) only [↓lm1, ↓lm2, eq_n1, eq_n2, n1_eq, n2_eq, n1_n2, n2_n1, n1_lt, n2_lt, n1_le, lt_n1, lt_n2, inb_t, cl_t, le_tt, le_tf, lt_tt, lt_tf, eq_tt, eq_tf, q_add, q_mul, li0, li1, li2, li3, li4, li5, li6, li7, li8, li12, li16, li24, li48, li500, gF_sA, gA_sF, gF_sF, gR_sA, gR_sF, gL_sA, gL_sF, gA_sA, shl_t, or_t, and_t, sbit_t, ubit_t, b01_0, b01_1, Option.bind_some, ↓reduceIte, eq_self, ne_eq, not_true_eq_false, Bool.false_eq_true, not_false_eq_true, true_and, and_true, false_and, and_false, if_pos, if_neg, h3, clr_t, hh]
      · rw [b01_f z]
        have hi := ih f' (q + 1) (by omega) (by omega) (fun k hk k2 => by
          by_cases e : k = q
          · subst e; exact absurd k2 z
          · exact h k (by omega) k2)
        rw [← hi]
        simp (disch := omega) only [↓lm1, ↓lm2, eq_n1, eq_n2, n1_eq, n2_eq, n1_n2, n2_n1, n1_lt, n2_lt, n1_le, lt_n1, lt_n2, inb_t, cl_t, le_tt, le_tf, lt_tt, lt_tf, eq_tt, eq_tf, q_add, q_mul, li0, li1, li2, li3, li4, li5, li6, li7, li8, li12, li16, li24, li48, li500, gF_sA, gA_sF, gF_sF, gR_sA, gR_sF, gL_sA, gL_sF, gA_sA, shl_t, or_t, and_t, sbit_t, ubit_t, b01_0, b01_1, Option.bind_some, ↓reduceIte, eq_self, ne_eq, not_true_eq_false, Bool.false_eq_true, not_false_eq_true, true_and, and_true, false_and, and_false, if_pos, if_neg, h3]
  rw [f_X4_holdsWithLess]
  exact key m N 0 (by omega) (by omega) (fun k hk => absurd hk (Nat.not_lt_zero k))
noncomputable def mnX (w : Mem) (m s : Nat) : Bool := @decide (hb w s = true ∧ ¬ wless w s m) (Classical.propDecidable _)
theorem mnX_iff {w : Mem} {m s : Nat} : mnX w m s = true ↔ hb w s = true ∧ ¬ wless w s m := @decide_eq_true_iff _ (Classical.propDecidable _)
theorem leastL_ok {N f : Nat} {w : Mem} {m : Nat} (hN : 5000 < N) (h3 : gF w 4 3 0 = nI m) (hm : m ≤ 12) : lp_X4_leastSets_61 (fun (u4_6 : Int32) => (f_X4_leastSets_99 N w f u4_6)) N w f N (0 : Int32) (0 : Int32) = some (w, nI (fb_ct (mnX w m) (2 ^ m))) := by
  have hp : 2 ^ m ≤ 4096 := p2le (b := 12) hm
  have key : ∀ r fuel q, q + r = 2 ^ m → r < fuel → lp_X4_leastSets_61 (fun (u4_6 : Int32) => (f_X4_leastSets_99 N w f u4_6)) N w f fuel (nI (fb_ct (mnX w m) q)) (nI q) = some (w, nI (fb_ct (mnX w m) (2 ^ m))) := by
    intro r
    induction r with
    | zero =>
      intro fuel q hq hf
      obtain ⟨f', rfl⟩ : ∃ f, fuel = f + 1 := ⟨fuel - 1, by omega⟩
      have e : q = 2 ^ m := by omega
      subst e
      rw [lp_X4_leastSets_61]
      simp (disch := omega) only [↓lm1, ↓lm2, eq_n1, eq_n2, n1_eq, n2_eq, n1_n2, n2_n1, n1_lt, n2_lt, n1_le, lt_n1, lt_n2, inb_t, cl_t, le_tt, le_tf, lt_tt, lt_tf, eq_tt, eq_tf, q_add, q_mul, li0, li1, li2, li3, li4, li5, li6, li7, li8, li12, li16, li24, li48, li500, gF_sA, gA_sF, gF_sF, gR_sA, gR_sF, gL_sA, gL_sF, gA_sA, shl_t, or_t, and_t, sbit_t, ubit_t, b01_0, b01_1, Option.bind_some, ↓reduceIte, eq_self, ne_eq, not_true_eq_false, Bool.false_eq_true, not_false_eq_true, true_and, and_true, false_and, and_false, if_pos, if_neg, h3]
      rfl
    | succ r ih =>
      intro fuel q hq hf
      obtain ⟨f', rfl⟩ : ∃ f, fuel = f + 1 := ⟨fuel - 1, by omega⟩
      have hh := holds_ok (N := N) (s := q) (w := w) (by omega)
      have hw := withLess_ok (N := N) (s := q) hN h3 hm (by omega)
      have hl := fb_ct_le (mnX w m) q
      rw [lp_X4_leastSets_61, ← ih f' (q + 1) (by omega) (by omega)]
      by_cases z : hb w q = true
      · rw [b01_t z] at hh
        by_cases y : wless w q m
        · rw [b01_t y] at hw
          rw [ct_f (fun x => (mnX_iff.mp x).2 y)]
          simp (disch := omega) only [↓lm1, ↓lm2, eq_n1, eq_n2, n1_eq, n2_eq, n1_n2, n2_n1, n1_lt, n2_lt, n1_le, lt_n1, lt_n2, inb_t, cl_t, le_tt, le_tf, lt_tt, lt_tf, eq_tt, eq_tf, q_add, q_mul, li0, li1, li2, li3, li4, li5, li6, li7, li8, li12, li16, li24, li48, li500, gF_sA, gA_sF, gF_sF, gR_sA, gR_sF, gL_sA, gL_sF, gA_sA, shl_t, or_t, and_t, sbit_t, ubit_t, b01_0, b01_1, Option.bind_some, ↓reduceIte, eq_self, ne_eq, not_true_eq_false, Bool.false_eq_true, not_false_eq_true, true_and, and_true, false_and, and_false, if_pos, if_neg, h3, hh, hw]
        · rw [b01_f y] at hw
          rw [ct_t (mnX_iff.mpr ⟨z, y⟩)]
          simp (disch := omega) only [↓lm1, ↓lm2, eq_n1, eq_n2, n1_eq, n2_eq, n1_n2, n2_n1, n1_lt, n2_lt, n1_le, lt_n1, lt_n2, inb_t, cl_t, le_tt, le_tf, lt_tt, lt_tf, eq_tt, eq_tf, q_add, q_mul, li0, li1, li2, li3, li4, li5, li6, li7, li8, li12, li16, li24, li48, li500, gF_sA, gA_sF, gF_sF, gR_sA, gR_sF, gL_sA, gL_sF, gA_sA, shl_t, or_t, and_t, sbit_t, ubit_t, b01_0, b01_1, Option.bind_some, ↓reduceIte, eq_self, ne_eq, not_true_eq_false, Bool.false_eq_true, not_false_eq_true, true_and, and_true, false_and, and_false, if_pos, if_neg, h3, hh, hw]
      · rw [b01_f z] at hh
        rw [ct_f (fun x => z (mnX_iff.mp x).1)]
        simp (disch := omega) only [↓lm1, ↓lm2, eq_n1, eq_n2, n1_eq, n2_eq, n1_n2, n2_n1, n1_lt, n2_lt, n1_le, lt_n1, lt_n2, inb_t, cl_t, le_tt, le_tf, lt_tt, lt_tf, eq_tt, eq_tf, q_add, q_mul, li0, li1, li2, li3, li4, li5, li6, li7, li8, li12, li16, li24, li48, li500, gF_sA, gA_sF, gF_sF, gR_sA, gR_sF, gL_sA, gL_sF, gA_sA, shl_t, or_t, and_t, sbit_t, ubit_t, b01_0, b01_1, Option.bind_some, ↓reduceIte, eq_self, ne_eq, not_true_eq_false, Bool.false_eq_true, not_false_eq_true, true_and, and_true, false_and, and_false, if_pos, if_neg, h3, hh]
  exact key (2 ^ m) N 0 (by omega) (by omega)
noncomputable def mnM (T : Trm) (S : Prs) (t u B : Nat) : Bool := @decide (By T S B t u ∧ ∀ k, k < S.length → B.testBit k = true → ¬ By T S (clr B k) t u) (Classical.propDecidable _)
theorem mnM_iff {T : Trm} {S : Prs} {t u B : Nat} : mnM T S t u B = true ↔ By T S B t u ∧ ∀ k, k < S.length → B.testBit k = true → ¬ By T S (clr B k) t u := @decide_eq_true_iff _ (Classical.propDecidable _)
theorem many_eq {w : Mem} {T : Trm} {S : Prs} {pk : List Nat} {t u : Nat} (h3 : PkB pk S.length) (h4 : PkOK pk S.length) (h7 : ∀ B, By T S B t u → ∃ s, s < 2 ^ pk.length ∧ By T S (exS pk s) t u ∧ ∀ k, (exS pk s).testBit k = true → B.testBit k = true) (hmn : ∀ s, s < 2 ^ pk.length → (mnX w pk.length s = true ↔ By T S (exS pk s) t u ∧ ∀ k, k < pk.length → s.testBit k = true → ¬ By T S (exS pk (clr s k)) t u)) : fb_ct (mnM T S t u) (2 ^ S.length) = fb_ct (mnX w pk.length) (2 ^ pk.length) := by
  have hlt : ∀ s, exS pk s < 2 ^ S.length := fun s => ex_lt pk.length (fun k p _ hp => h3 k p hp)
  rw [ct_map (f := exS pk) (p := mnM T S t u) (2 ^ pk.length) (2 ^ S.length) (fun i j hij hj => exS_strict h4 hij hj) (fun i _ => hlt i) (fun B hB hP => by
    obtain ⟨b1, b2⟩ := mnM_iff.mp hP
    obtain ⟨s, s1, s2, s3⟩ := h7 B b1
    refine ⟨s, s1, ?_⟩
    apply Classical.byContradiction
    intro hne
    have hex : ∃ x, B.testBit x = true ∧ (exS pk s).testBit x = false := by
      apply Classical.byContradiction
      intro hc
      apply hne
      apply Nat.eq_of_testBit_eq
      intro x
      cases g1 : B.testBit x with
      | false =>
        cases g2 : (exS pk s).testBit x with
        | false => rfl
        | true => rw [s3 x g2] at g1; cases g1
      | true =>
        cases g2 : (exS pk s).testBit x with
        | false => exact absurd ⟨x, g1, g2⟩ hc
        | true => rfl
    obtain ⟨x, x1, x2⟩ := hex
    refine b2 x (low_bit hB x1) x1 (By.mono (fun k hk => ?_) s2)
    rw [clr_bit, s3 k hk]
    by_cases e : k = x
    · subst e; rw [x2] at hk; cases hk
    · rw [decide_eq_false e]; rfl)]
  refine fb_ct_cong (fun s hs => ?_)
  have hiff : mnM T S t u (exS pk s) = true ↔ mnX w pk.length s = true := by
    rw [mnM_iff, hmn s hs]
    constructor
    · rintro ⟨a, b⟩
      refine ⟨a, fun k k1 k2 k3 => ?_⟩
      obtain ⟨p, hp⟩ := get_at pk k1
      rw [exS_clr h4 hp] at k3
      exact b p (h3 k p hp) (exS_bit.mpr ⟨k, k2, hp⟩) k3
    · rintro ⟨a, b⟩
      refine ⟨a, fun x hx hb2 hc => ?_⟩
      obtain ⟨k, k1, k2⟩ := exS_bit.mp hb2
      rw [← exS_clr h4 k2] at hc
      exact b k (List.getElem?_eq_some_iff.mp k2).1 k1 hc
  show mnM T S t u (exS pk s) = mnX w pk.length s
  cases g1 : mnM T S t u (exS pk s) <;> cases g2 : mnX w pk.length s <;> simp_all
/-- what is noted tells the least ones -/
theorem least_iff {w : Mem} {P : Nat → Prop} {Q : Nat → Nat → Prop} {m s : Nat} (hQ : ∀ c a b, (∀ k, a.testBit k = true → b.testBit k = true) → Q c a → Q c b) (hQP : ∀ c set s, Q c set → (∀ k, set.testBit k = true → s.testBit k = true) → P (s ||| 2 ^ c) → P s) (h1 : ∀ s, s < 2 ^ m → hb w s = true → P s ∧ (NI Q s ∨ ∃ k, s.testBit k = true ∧ hb w (clr s k) = true)) (h2 : ∀ s, s < 2 ^ m → P s → NI Q s → hb w s = true) (hs : s < 2 ^ m) : mnX w m s = true ↔ P s ∧ ∀ k, k < m → s.testBit k = true → ¬ P (clr s k) := by
  rw [mnX_iff]
  constructor
  · rintro ⟨a, b⟩
    obtain ⟨a1, a2⟩ := h1 s hs a
    have hni : NI Q s := by
      rcases a2 with q | ⟨k, k1, k2⟩
      · exact q
      · exact absurd ⟨k, low_bit hs k1, k1, k2⟩ b
    refine ⟨a1, fun k k1 k2 k3 => b ⟨k, k1, k2, h2 _ (clr_lt hs) k3 (hni.sub hQ (fun i hi => ?_))⟩⟩
    rw [clr_bit, Bool.and_eq_true] at hi
    exact hi.1
  · rintro ⟨a, b⟩
    refine ⟨h2 s hs a (fun k hk hq => b k (low_bit hs hk) hk (hQP k _ _ hq (fun i hi => ?_) ?_)), fun ⟨k, k1, k2, k3⟩ => b k k1 k2 (h1 _ (clr_lt hs) k3).1⟩
    · rw [hiB_bit, Bool.and_eq_true, decide_eq_true_iff] at hi
      rw [clr_bit, hi.2, decide_eq_false (by omega)]
      rfl
    · have e : clr s k ||| 2 ^ k = s := by
        apply Nat.eq_of_testBit_eq
        intro i
        rw [or_bit, clr_bit]
        by_cases q : i = k
        · subst q; rw [hk]; simp
        · rw [decide_eq_false q]; simp
      rw [e]; exact a
set_option maxHeartbeats 1000000 in
theorem leastX {N f nf t u : Nat} {tk : Nat → Nat} {R A : List Row} {NL : List (List Nat)} {tp : List Nat} {wx w : Mem} (hN : 5000 < N) (h : RelX wx f nf tk R A NL tp) (hCI : CI tk nf (run tk c0 (R ++ A))) (ht : t < tN (cT tk R A)) (hu : u < tN (cT tk R A)) (hw : KX wx w) : ∃ w', f_X4_leastSets N w f (nI t) (nI u) = some (w', nI (fb_ct (mnM (cT tk R A) (cSs tk R A) t u) (2 ^ (cSs tk R A).length))) ∧ KX wx w' ∧ (∀ j, gF w' 8 j 0 = gF w 8 j 0) := by
  have hs12 : (cSs tk R A).length ≤ 12 := h.2.1.2.1.1
  obtain ⟨w1, pk, a1, a2, a3, b1, b2, b3, b4, b5, b6, b7⟩ := begin_ok hN h hCI ht hu hw
  have hm12 : 2 ^ pk.length ≤ 4096 := p2le (b := 12) b5
  obtain ⟨w2, hw2⟩ : ∃ w2 : Mem, w2 = sF (sF w1 4 6 0 (nI 0)) 4 7 0 (nI 13) := ⟨_, rfl⟩
  have hF0 : ∀ k j i, ¬ (k = 4 ∧ 6 ≤ j) → gF w2 k j i = gF w1 k j i := fun k j i z => by
    rw [hw2, gF_sF, if_neg (by omega), gF_sF, if_neg (by omega)]
  have e60 : gF w2 4 6 0 = nI 0 := by rw [hw2, gF_sF, if_neg (by omega), gF_sF, if_pos ⟨rfl, rfl, rfl⟩]
  have e70 : gF w2 4 7 0 = nI 13 := by rw [hw2, gF_sF, if_pos ⟨rfl, rfl, rfl⟩]
  -- holding is emptied
  have keyZ : ∀ r fuel q v, q + r = 64 → r < fuel → (∀ k j i, gF v k j i = gF w2 k j i) → (∀ k i, gA v k i = gA w2 k i) → (∀ k j i, gR v k j i = gR w2 k j i) → (∀ x, x < q → gL v 28 0 x = 0) → ∃ w', lp_X4_leastSets_21 (fun (w_3 : Mem) => (f_X4_leastSets_45 N w_3 f)) N f fuel v (nI q) = f_X4_leastSets_45 N w' f ∧ (∀ k j i, gF w' k j i = gF w2 k j i) ∧ (∀ k i, gA w' k i = gA w2 k i) ∧ (∀ k j i, gR w' k j i = gR w2 k j i) ∧ ∀ x, x < 64 → gL w' 28 0 x = 0 := by
    intro r
    induction r with
    | zero =>
      intro fuel q v hq hf h1 h2 h3 h4
      obtain ⟨f', rfl⟩ : ∃ f, fuel = f + 1 := ⟨fuel - 1, by omega⟩
      refine ⟨v, ?_, h1, h2, h3, fun x hx => h4 x (by omega)⟩
      rw [lp_X4_leastSets_21, show (64 : Int32) = nI 64 from rfl]
      simp (disch := omega) only [↓lm1, ↓lm2, eq_n1, eq_n2, n1_eq, n2_eq, n1_n2, n2_n1, n1_lt, n2_lt, n1_le, lt_n1, lt_n2, inb_t, cl_t, le_tt, le_tf, lt_tt, lt_tf, eq_tt, eq_tf, q_add, q_mul, li0, li1, li2, li3, li4, li5, li6, li7, li8, li12, li16, li24, li48, li500, gF_sA, gA_sF, gF_sF, gR_sA, gR_sF, gL_sA, gL_sF, gA_sA, shl_t, or_t, and_t, sbit_t, ubit_t, b01_0, b01_1, Option.bind_some, ↓reduceIte, eq_self, ne_eq, not_true_eq_false, Bool.false_eq_true, not_false_eq_true, true_and, and_true, false_and, and_false, if_pos, if_neg]
    | succ r ih =>
      intro fuel q v hq hf h1 h2 h3 h4
      obtain ⟨f', rfl⟩ : ∃ f, fuel = f + 1 := ⟨fuel - 1, by omega⟩
      obtain ⟨w', e1, e2⟩ := ih f' (q + 1) (sL v 28 0 q 0) (by omega) (by omega) h1 h2 h3 (fun x hx => by
        have e : gL (sL v 28 0 q 0) 28 0 x = if x = q then 0 else gL v 28 0 x := by
          unfold sL
          rw [gL_sLf, if_pos ⟨rfl, rfl⟩]
          rfl
        rw [e]
        by_cases y : x = q
        · rw [if_pos y]
        · rw [if_neg y]; exact h4 x (by omega))
      refine ⟨w', ?_, e2⟩
      rw [lp_X4_leastSets_21, ← e1, show (64 : Int32) = nI 64 from rfl]
      simp (disch := omega) only [↓lm1, ↓lm2, eq_n1, eq_n2, n1_eq, n2_eq, n1_n2, n2_n1, n1_lt, n2_lt, n1_le, lt_n1, lt_n2, inb_t, cl_t, le_tt, le_tf, lt_tt, lt_tf, eq_tt, eq_tf, q_add, q_mul, li0, li1, li2, li3, li4, li5, li6, li7, li8, li12, li16, li24, li48, li500, gF_sA, gA_sF, gF_sF, gR_sA, gR_sF, gL_sA, gL_sF, gA_sA, shl_t, or_t, and_t, sbit_t, ubit_t, b01_0, b01_1, Option.bind_some, ↓reduceIte, eq_self, ne_eq, not_true_eq_false, Bool.false_eq_true, not_false_eq_true, true_and, and_true, false_and, and_false, if_pos, if_neg]
  obtain ⟨w3, d1, d2, d3, d4, d5⟩ := keyZ 64 N 0 w2 (by omega) (by omega) (fun _ _ _ => rfl) (fun _ _ => rfl) (fun _ _ _ => rfl) (fun x hx => absurd hx (Nat.not_lt_zero x))
  have hF : ∀ k j i, ¬ (k = 4 ∧ 6 ≤ j) → gF w3 k j i = gF w1 k j i := fun k j i z => (d2 k j i).trans (hF0 k j i z)
  have hA : ∀ k i, gA w3 k i = gA w1 k i := fun k i => (d3 k i).trans (by rw [hw2]; rfl)
  have kx2 : KX w1 w3 := ⟨fun k j i z => hF k j i (by omega), fun k i _ => hA k i, fun k j i => (d4 k j i).trans (by rw [hw2]; rfl)⟩
  have e6 : gF w3 4 6 0 = nI (b01 (false = true)) := by rw [b01_f (by decide), d2]; exact e60
  have e7 : gF w3 4 7 0 = nI 13 := (d2 _ _ _).trans e70
  have hG := b6.of (v := w3) (hF 3 1 _ (by omega)) (hF 3 2 _ (by omega)) (hA _ _)
  have hP2 : PKw w3 pk t u := ⟨(hF _ _ _ (by omega)).trans b2.1, (hF _ _ _ (by omega)).trans b2.2.1, fun k p hp => by rw [hA]; exact b2.2.2 k p hp⟩
  have hst : VS false w3 (13, none, hb w3) := ⟨e7, fun q => Bool.noConfusion q, fun _ => rfl⟩
  obtain ⟨w4, c1, c2, c3⟩ := visit_ok (fa := false) hN h hCI b3 b5 ht hu pk.length 14 w3 0 (13, none, hb w3) (by omega) (Nat.le_refl _) (a2.tr kx2) hG (by omega) (Nat.zero_mod _) hP2 e6 hst (by show (13 : Nat) ≤ 25; omega)
  have hp0 : pop 0 = 0 := by decide
  have hv := visL (P := fun s => By (cT tk R A) (cSs tk R A) (exS pk s) t u) (Q := QB (cT tk R A) (cSs tk R A) pk) byP pk.length 0 (13, none, hb w3) b5 (Nat.zero_mod _) (by omega) rfl (by omega) (fun k hk => by rw [Nat.zero_testBit] at hk; cases hk)
  obtain ⟨v1, v2, v3, v4⟩ := hv
  have h3b : ∀ s, s < 4096 → hb w3 s = false := by
    intro s hs
    unfold hb
    rw [d5 (s / 64) (by omega)]
    exact BitVec.getLsbD_zero
  have e3 : gF w3 4 3 0 = nI pk.length := (hF _ _ _ (by omega)).trans b1
  have f3 : gF w4 4 3 0 = nI pk.length := (c2.2.2.1 _ _ (by omega)).trans e3
  have hl := leastL_ok (N := N) (f := f) hN f3 b5
  have hmn : ∀ s, s < 2 ^ pk.length → (mnX w4 pk.length s = true ↔ By (cT tk R A) (cSs tk R A) (exS pk s) t u ∧ ∀ k, k < pk.length → s.testBit k = true → ¬ By (cT tk R A) (cSs tk R A) (exS pk (clr s k)) t u) := fun s hs =>
    least_iff (P := fun s => By (cT tk R A) (cSs tk R A) (exS pk s) t u) (Q := QB (cT tk R A) (cSs tk R A) pk) qbM qbP (fun s hs hh => by
      rw [c3.2.2 s] at hh
      rcases v3 s hh with q | ⟨_, _, q3, q4⟩
      · have q' : hb w3 s = true := q
        rw [h3b s (by omega)] at q'
        cases q'
      · exact ⟨q3, q4.imp id (fun ⟨k, k1, k2⟩ => ⟨k, k1, by rw [c3.2.2]; exact k2⟩)⟩) (fun s hs h1 h2 => by
      rw [c3.2.2 s]
      exact v4 s (Nat.zero_le _) (by omega) h1 h2) hs
  rw [← many_eq b3 b4 b7 hmn] at hl
  refine ⟨w4, ?_, (a2.tr kx2).tr c2.1, fun j => ((c2.2.2.2.2 j).trans (hF _ _ _ (by omega))).trans (a3 j)⟩
  have hvv : f_X4_leastSets N w f (nI t) (nI u) = lp_X4_leastSets_21 (fun (w_3 : Mem) => (f_X4_leastSets_45 N w_3 f)) N f N w2 (nI 0) := by
    rw [f_X4_leastSets, a1, Option.bind_some, hw2]
    rfl
  have c1' : f_X4_visit N 14 w3 f (nI pk.length) (0 : Int32) = some w4 := c1
  rw [hvv, d1, f_X4_leastSets_45, e3, c1', Option.bind_some]
  exact hl
set_option maxHeartbeats 8000000 in
theorem op_many {N f nf : Nat} {tk : Nat → Nat} {R A : List Row} {NL : List (List Nat)} {tp : List Nat} {wx wm : Mem} (hN : 5000 < N) (h : RelC wx wm f nf tk R A NL tp) (x1 x2 : Int32) : Op (f_X8_many N wx x1 x2) (f_X9_many N wm x1 x2) := by
  rcases h.why (N := N) x1 x2 with ⟨q, hq, e1, e2⟩ | ⟨t, u, rfl, rfl, ht, hu, hl, e1, e2⟩
  · rw [f_X8_many, f_X9_many, e1, e2, Option.bind_some, Option.bind_some, refused_n N wm (by omega) (by omega)]
    simp (disch := omega) only [↓lm1, ↓lm2, eq_n1, eq_n2, n1_eq, n2_eq, n1_n2, n2_n1, n1_lt, n2_lt, n1_le, lt_n1, lt_n2, inb_t, cl_t, le_tt, le_tf, lt_tt, lt_tf, eq_tt, eq_tf, q_add, q_mul, li0, li1, li2, li3, li4, li5, li6, li7, li8, li12, li16, li24, li48, li500, gF_sA, gA_sF, gF_sF, gR_sA, gR_sF, gL_sA, gL_sF, gA_sA, shl_t, or_t, and_t, sbit_t, ubit_t, b01_0, b01_1, Option.bind_some, ↓reduceIte, eq_self, ne_eq, not_true_eq_false, Bool.false_eq_true, not_false_eq_true, true_and, and_true, false_and, and_false, if_pos, if_neg, refuse_eq]
    exact op_ans0 h
  · have hCI := h.ci
    have hs12 : (cSs tk R A).length ≤ 12 := hCI.2.2.1.1
    have hM0 := h.2.1.km (mAns_km (cS (run tk c0 (R ++ A))).length wm (nI 0))
    have hp12 : 2 ^ (cSs tk R A).length ≤ 4096 := p2le (b := 12) hs12
    have hfp := full_p (cSs tk R A).length
    obtain ⟨v, a1, a2, a3⟩ := leastX hN h.1 hCI ht hu KX.rf
    let Fr2 : Mem → Mem → Prop := fun w w' => Fr (fun _ _ _ => False) (fun k i => (k = 59 ∨ k = 61) ∧ i = 0) w w'
    have inner : ∀ (kk : Int32 → Option (Mem × Int32)) (B : Nat) (v3 : Int32) (w : Mem), B < 2 ^ (cSs tk R A).length → gF w 9 30 0 = nI (cSs tk R A).length → (∀ x, x ≤ B → gA w 61 0 x = nI (b01 (By (cT tk R A) (cSs tk R A) x t u))) → ∀ r fuel q, q + r = (cSs tk R A).length → r < fuel → lp_X9_many_56 kk N w (nI t) (nI u) v3 (nI B) fuel (nI (b01 (By (cT tk R A) (cSs tk R A) B t u ∧ ∀ k, k < q → B.testBit k = true → ¬ By (cT tk R A) (cSs tk R A) (clr B k) t u))) (nI q) = kk (nI (b01 (mnM (cT tk R A) (cSs tk R A) t u B = true))) := by
      intro kk B v3 w hB h30 h61 r
      induction r with
      | zero =>
        intro fuel q hq hf
        obtain ⟨f', rfl⟩ : ∃ f, fuel = f + 1 := ⟨fuel - 1, by omega⟩
        have e : q = (cSs tk R A).length := by omega
        subst e
        rw [b01_c mnM_iff, lp_X9_many_56]
        simp (disch := omega) only [↓lm1, ↓lm2, eq_n1, eq_n2, n1_eq, n2_eq, n1_n2, n2_n1, n1_lt, n2_lt, n1_le, lt_n1, lt_n2, inb_t, cl_t, le_tt, le_tf, lt_tt, lt_tf, eq_tt, eq_tf, q_add, q_mul, li0, li1, li2, li3, li4, li5, li6, li7, li8, li12, li16, li24, li48, li500, gF_sA, gA_sF, gF_sF, gR_sA, gR_sF, gL_sA, gL_sF, gA_sA, shl_t, or_t, and_t, sbit_t, ubit_t, b01_0, b01_1, Option.bind_some, ↓reduceIte, eq_self, ne_eq, not_true_eq_false, Bool.false_eq_true, not_false_eq_true, true_and, and_true, false_and, and_false, if_pos, if_neg, h30]
      | succ r ih =>
        intro fuel q hq hf
        obtain ⟨f', rfl⟩ : ∃ f, fuel = f + 1 := ⟨fuel - 1, by omega⟩
        have hsb := sbit_ok (b := B) (k := q) (by omega) (by omega)
        have hcl : clr B q < 2 ^ (cSs tk R A).length := clr_lt hB
        have hi := ih f' (q + 1) (by omega) (by omega)
        have hext : ∀ P : Prop, (P ↔ By (cT tk R A) (cSs tk R A) B t u ∧ ∀ k, k < q + 1 → B.testBit k = true → ¬ By (cT tk R A) (cSs tk R A) (clr B k) t u) → lp_X9_many_56 kk N w (nI t) (nI u) v3 (nI B) f' (nI (b01 P)) (nI (q + 1)) = kk (nI (b01 (mnM (cT tk R A) (cSs tk R A) t u B = true))) := fun P hP => by rw [b01_c hP]; exact hi
        by_cases z : By (cT tk R A) (cSs tk R A) B t u ∧ ∀ k, k < q → B.testBit k = true → ¬ By (cT tk R A) (cSs tk R A) (clr B k) t u
        · rw [b01_t z, lp_X9_many_56, hsb]
          by_cases y : B.testBit q = true
          · have hle : clr B q ≤ B := by
              have h1 : clr B q = B &&& clr B q := by
                apply Nat.eq_of_testBit_eq
                intro i
                rw [Nat.testBit_and, clr_bit]
                cases B.testBit i <;> rfl
              rw [h1]
              exact Nat.and_le_left
            have e61 := h61 (clr B q) hle
            by_cases x : By (cT tk R A) (cSs tk R A) (clr B q) t u
            · have := hext False ⟨False.elim, fun w => w.2 q (by omega) y x⟩
              rw [b01_f (fun w => w)] at this
              rw [b01_t x] at e61
              rw [b01_t y, ← this]
              simp (disch := omega) only [↓lm1, ↓lm2, eq_n1, eq_n2, n1_eq, n2_eq, n1_n2, n2_n1, n1_lt, n2_lt, n1_le, lt_n1, lt_n2, inb_t, cl_t, le_tt, le_tf, lt_tt, lt_tf, eq_tt, eq_tf, q_add, q_mul, li0, li1, li2, li3, li4, li5, li6, li7, li8, li12, li16, li24, li48, li500, gF_sA, gA_sF, gF_sF, gR_sA, gR_sF, gL_sA, gL_sF, gA_sA, shl_t, or_t, and_t, sbit_t, ubit_t, b01_0, b01_1, Option.bind_some, ↓reduceIte, eq_self, ne_eq, not_true_eq_false, Bool.false_eq_true, not_false_eq_true, true_and, and_true, false_and, and_false, if_pos, if_neg, h30, clr_t, e61]
            · have := hext True ⟨fun _ => ⟨z.1, fun k hk hk2 => by
                by_cases e : k = q
                · subst e; exact x
                · exact z.2 k (by omega) hk2⟩, fun _ => trivial⟩
              rw [b01_t trivial] at this
              rw [b01_f x] at e61
              rw [b01_t y, ← this]
              simp (disch := omega) only [↓lm1, ↓lm2, eq_n1, eq_n2, n1_eq, n2_eq, n1_n2, n2_n1, n1_lt, n2_lt, n1_le, lt_n1, lt_n2, inb_t, cl_t, le_tt, le_tf, lt_tt, lt_tf, eq_tt, eq_tf, q_add, q_mul, li0, li1, li2, li3, li4, li5, li6, li7, li8, li12, li16, li24, li48, li500, gF_sA, gA_sF, gF_sF, gR_sA, gR_sF, gL_sA, gL_sF, gA_sA, shl_t, or_t, and_t, sbit_t, ubit_t, b01_0, b01_1, Option.bind_some, ↓reduceIte, eq_self, ne_eq, not_true_eq_false, Bool.false_eq_true, not_false_eq_true, true_and, and_true, false_and, and_false, if_pos, if_neg, h30, clr_t, e61]
          · have := hext True ⟨fun _ => ⟨z.1, fun k hk hk2 => by
              by_cases e : k = q
              · subst e; exact absurd hk2 y
              · exact z.2 k (by omega) hk2⟩, fun _ => trivial⟩
            rw [b01_t trivial] at this
            rw [b01_f y, ← this]
            simp (disch := omega) only [↓lm1, ↓lm2, eq_n1, eq_n2, n1_eq, n2_eq, n1_n2, n2_n1, n1_lt, n2_lt, n1_le, lt_n1, lt_n2, inb_t, cl_t, le_tt, le_tf, lt_tt, lt_tf, eq_tt, eq_tf, q_add, q_mul, li0, li1, li2, li3, li4, li5, li6, li7, li8, li12, li16, li24, li48, li500, gF_sA, gA_sF, gF_sF, gR_sA, gR_sF, gL_sA, gL_sF, gA_sA, shl_t, or_t, and_t, sbit_t, ubit_t, b01_0, b01_1, Option.bind_some, ↓reduceIte, eq_self, ne_eq, not_true_eq_false, Bool.false_eq_true, not_false_eq_true, true_and, and_true, false_and, and_false, if_pos, if_neg, h30]
        · have := hext False ⟨False.elim, fun w => z ⟨w.1, fun k hk => w.2 k (by omega)⟩⟩
          rw [b01_f (fun w => w)] at this
          rw [b01_f z, lp_X9_many_56, ← this]
          simp (disch := omega) only [↓lm1, ↓lm2, eq_n1, eq_n2, n1_eq, n2_eq, n1_n2, n2_n1, n1_lt, n2_lt, n1_le, lt_n1, lt_n2, inb_t, cl_t, le_tt, le_tf, lt_tt, lt_tf, eq_tt, eq_tf, q_add, q_mul, li0, li1, li2, li3, li4, li5, li6, li7, li8, li12, li16, li24, li48, li500, gF_sA, gA_sF, gF_sF, gR_sA, gR_sF, gL_sA, gL_sF, gA_sA, shl_t, or_t, and_t, sbit_t, ubit_t, b01_0, b01_1, Option.bind_some, ↓reduceIte, eq_self, ne_eq, not_true_eq_false, Bool.false_eq_true, not_false_eq_true, true_and, and_true, false_and, and_false, if_pos, if_neg, h30]
    have keyM : ∀ r fuel q w, q + r = 2 ^ (cSs tk R A).length → r < fuel → Fr2 (mAns wm (nI 0)) w → (∀ x, x < q → gA w 61 0 x = nI (b01 (By (cT tk R A) (cSs tk R A) x t u))) → ∃ w', lp_X9_many_20 (fun (w_5 : Mem) (u3_5 : Int32) => (f_X9_many_129 N w_5 u3_5)) N (nI t) (nI u) fuel w (nI (fb_ct (mnM (cT tk R A) (cSs tk R A) t u) q)) (nI q) = some (w', nI (fb_ct (mnM (cT tk R A) (cSs tk R A) t u) (2 ^ (cSs tk R A).length))) ∧ Fr2 (mAns wm (nI 0)) w' := by
      intro r
      induction r with
      | zero =>
        intro fuel q w hq hf hw h61
        obtain ⟨f', rfl⟩ : ∃ f, fuel = f + 1 := ⟨fuel - 1, by omega⟩
        have hw' := hM0.km (Fr.km hw _ (fun _ _ _ z => z.elim) (fun _ _ z => by omega))
        have m30 : gF w 9 30 0 = nI (cSs tk R A).length := hw'.1.2.1.2.1
        have e : q = 2 ^ (cSs tk R A).length := by omega
        subst e
        refine ⟨w, ?_, hw⟩
        rw [lp_X9_many_20, allM hs12 m30]
        simp (disch := omega) only [↓lm1, ↓lm2, eq_n1, eq_n2, n1_eq, n2_eq, n1_n2, n2_n1, n1_lt, n2_lt, n1_le, lt_n1, lt_n2, inb_t, cl_t, le_tt, le_tf, lt_tt, lt_tf, eq_tt, eq_tf, q_add, q_mul, li0, li1, li2, li3, li4, li5, li6, li7, li8, li12, li16, li24, li48, li500, gF_sA, gA_sF, gF_sF, gR_sA, gR_sF, gL_sA, gL_sF, gA_sA, shl_t, or_t, and_t, sbit_t, ubit_t, b01_0, b01_1, Option.bind_some, ↓reduceIte, eq_self, ne_eq, not_true_eq_false, Bool.false_eq_true, not_false_eq_true, true_and, and_true, false_and, and_false, if_pos, if_neg, f_X9_many_129]
      | succ r ih =>
        intro fuel q w hq hf hw h61
        obtain ⟨f', rfl⟩ : ∃ f, fuel = f + 1 := ⟨fuel - 1, by omega⟩
        have hw' := hM0.km (Fr.km hw _ (fun _ _ _ z => z.elim) (fun _ _ z => by omega))
        have m30 : gF w 9 30 0 = nI (cSs tk R A).length := hw'.1.2.1.2.1
        obtain ⟨w1, c1, c2⟩ := hw'.isOneBy (b := q) (N := N) (by omega) (by omega) ht hu
        have hs1 : FrK 61 w1 (sA w1 61 0 q (nI (b01 (By (cT tk R A) (cSs tk R A) q t u)))) := FrK.set
        have hw2 : Fr2 (mAns wm (nI 0)) (sA w1 61 0 q (nI (b01 (By (cT tk R A) (cSs tk R A) q t u)))) := (Fr.tr hw (c2.mono (fun _ _ _ z => z) (fun _ _ z => by omega))).tr (hs1.mono (fun _ _ _ z => z) (fun _ _ z => by omega))
        have h61' : ∀ x, x < q + 1 → gA (sA w1 61 0 q (nI (b01 (By (cT tk R A) (cSs tk R A) q t u)))) 61 0 x = nI (b01 (By (cT tk R A) (cSs tk R A) x t u)) := fun x hx => by
          by_cases e : x = q
          · subst e; exact gA_sA_self
          · rw [gA_sA_at e, c2.A (by omega)]; exact h61 x (by omega)
        have m30' : gF (sA w1 61 0 q (nI (b01 (By (cT tk R A) (cSs tk R A) q t u)))) 9 30 0 = nI (cSs tk R A).length := (c2.F _ _ _).trans m30
        obtain ⟨w3, d1, d2⟩ := ih f' (q + 1) _ (by omega) (by omega) hw2 h61'
        have hnar : vp_nar .boolean (nI (b01 (By (cT tk R A) (cSs tk R A) q t u))) = nI (b01 (By (cT tk R A) (cSs tk R A) q t u)) := by
          by_cases z : By (cT tk R A) (cSs tk R A) q t u
          · rw [b01_t z]; exact nar1
          · rw [b01_f z]; exact nar0
        have hin := inner (fun (u5_11 : Int32) => (f_X9_many_110_20 (fun (w : Mem) (v3 : Int32) (v4 : Int32) => lp_X9_many_20 (fun (w_5 : Mem) (u3_5 : Int32) => (f_X9_many_129 N w_5 u3_5)) N (nI t) (nI u) f' w v3 v4) (fun (w_5 : Mem) (u3_5 : Int32) => (f_X9_many_129 N w_5 u3_5)) N (sA w1 61 0 q (nI (b01 (By (cT tk R A) (cSs tk R A) q t u)))) (nI t) (nI u) (nI (fb_ct (mnM (cT tk R A) (cSs tk R A) t u) q)) (nI q) u5_11)) q (nI (fb_ct (mnM (cT tk R A) (cSs tk R A) t u) q)) (sA w1 61 0 q (nI (b01 (By (cT tk R A) (cSs tk R A) q t u)))) (by omega) m30' (fun x hx => h61' x (by omega)) (cSs tk R A).length N 0 (by omega) (by omega)
        have h0 : (By (cT tk R A) (cSs tk R A) q t u ∧ ∀ k, k < 0 → q.testBit k = true → ¬ By (cT tk R A) (cSs tk R A) (clr q k) t u) ↔ By (cT tk R A) (cSs tk R A) q t u := ⟨fun x => x.1, fun x => ⟨x, fun k hk => absurd hk (Nat.not_lt_zero k)⟩⟩
        rw [b01_c h0] at hin
        refine ⟨w3, ?_, d2⟩
        have e61 := h61' q (by omega)
        rw [lp_X9_many_20, allM hs12 m30, Option.bind_some, if_neg (by rw [nI_lt_iff (by omega) (by omega)]; omega), c1, Option.bind_some, if_pos (inb_t (by omega) (by omega)), cl_t (by omega)]
        simp only [hnar, e61]
        refine hin.trans ?_
        rw [f_X9_many_110_20, ← d1]
        by_cases z : mnM (cT tk R A) (cSs tk R A) t u q = true
        · rw [b01_t z, ct_t z]
          simp (disch := omega) only [↓lm1, ↓lm2, eq_n1, eq_n2, n1_eq, n2_eq, n1_n2, n2_n1, n1_lt, n2_lt, n1_le, lt_n1, lt_n2, inb_t, cl_t, le_tt, le_tf, lt_tt, lt_tf, eq_tt, eq_tf, q_add, q_mul, li0, li1, li2, li3, li4, li5, li6, li7, li8, li12, li16, li24, li48, li500, gF_sA, gA_sF, gF_sF, gR_sA, gR_sF, gL_sA, gL_sF, gA_sA, shl_t, or_t, and_t, sbit_t, ubit_t, b01_0, b01_1, Option.bind_some, ↓reduceIte, eq_self, ne_eq, not_true_eq_false, Bool.false_eq_true, not_false_eq_true, true_and, and_true, false_and, and_false, if_pos, if_neg]
        · rw [b01_f z, ct_f z]
          simp (disch := omega) only [↓lm1, ↓lm2, eq_n1, eq_n2, n1_eq, n2_eq, n1_n2, n2_n1, n1_lt, n2_lt, n1_le, lt_n1, lt_n2, inb_t, cl_t, le_tt, le_tf, lt_tt, lt_tf, eq_tt, eq_tf, q_add, q_mul, li0, li1, li2, li3, li4, li5, li6, li7, li8, li12, li16, li24, li48, li500, gF_sA, gA_sF, gF_sF, gR_sA, gR_sF, gL_sA, gL_sF, gA_sA, shl_t, or_t, and_t, sbit_t, ubit_t, b01_0, b01_1, Option.bind_some, ↓reduceIte, eq_self, ne_eq, not_true_eq_false, Bool.false_eq_true, not_false_eq_true, true_and, and_true, false_and, and_false, if_pos, if_neg, Nat.add_zero]
    obtain ⟨u', m1, m2⟩ := keyM (2 ^ (cSs tk R A).length) N 0 (mAns wm (nI 0)) (by omega) (by omega) Fr.rf (fun x hx => absurd hx (Nat.not_lt_zero x))
    have h5 := h.1.1.2.1
    have hf := h.1.1.1
    have m1' : lp_X9_many_20 (fun (w_5 : Mem) (u3_5 : Int32) => (f_X9_many_129 N w_5 u3_5)) N (nI t) (nI u) N (mAns wm (nI 0)) (nI 0) (nI 0) = some (u', nI (fb_ct (mnM (cT tk R A) (cSs tk R A) t u) (2 ^ (cSs tk R A).length))) := m1
    rw [f_X8_many, f_X9_many, e1, e2]
    simp (disch := omega) only [↓lm1, ↓lm2, eq_n1, eq_n2, n1_eq, n2_eq, n1_n2, n2_n1, n1_lt, n2_lt, n1_le, lt_n1, lt_n2, inb_t, cl_t, le_tt, le_tf, lt_tt, lt_tf, eq_tt, eq_tf, q_add, q_mul, li0, li1, li2, li3, li4, li5, li6, li7, li8, li12, li16, li24, li48, li500, gF_sA, gA_sF, gF_sF, gR_sA, gR_sF, gL_sA, gL_sF, gA_sA, shl_t, or_t, and_t, sbit_t, ubit_t, b01_0, b01_1, Option.bind_some, ↓reduceIte, eq_self, ne_eq, not_true_eq_false, Bool.false_eq_true, not_false_eq_true, true_and, and_true, false_and, and_false, if_pos, if_neg, h5, a1, answer_eq, refused_0]
    rw [m1']
    exact op_ans h a2 (Fr.km m2 _ (fun _ _ _ z => z.elim) (fun _ _ z => by omega)) ((m2.1 _ _ _ (fun z => z)).trans (mAns_1 _ _)) ((m2.1 _ _ _ (fun z => z)).trans (mAns_3 _ _)) rfl
/-- some diff is one BY a set -/
def Cl (T : Trm) (S Q : Prs) (q B : Nat) : Prop := ∃ d i j, d < q ∧ Q[d]? = some (i, j) ∧ By T S B i j
def oN2 (o : Option Nat) : Int32 := match o with | some b => nI b | none => n2
set_option maxHeartbeats 8000000 in
theorem op_core {N : Nat} {wx wm : Mem} (hN : 5000 < N) (h : Rel wx wm) : Op (f_X8_core N wx) (f_X9_core N wm) := by
  have hT := h.thrown
  obtain ⟨f, nf, tk, R, A, NL, tp, hC, q1, q2⟩ := id hT
  have hCI := hC.ci
  have hX := hC.1
  have hM := hC.2.1
  have hs12 : (cSs tk R A).length ≤ 12 := hCI.2.2.1.1
  have hq8 : (cQ (run tk c0 (R ++ A))).length ≤ 8 := hCI.2.2.2.1.1
  have hQok : PRok (tN (cT tk R A)) (cQ (run tk c0 (R ++ A))) := hCI.2.2.2.1.2
  have hp12 : 2 ^ (cSs tk R A).length ≤ 4096 := p2le (b := 12) hs12
  have hfp := full_p (cSs tk R A).length
  generalize hQ : cQ (run tk c0 (R ++ A)) = Q at hq8 hQok
  let good : Nat → Option Nat → Prop := fun q o => match o with
    | none => ∀ B, B < 2 ^ (cSs tk R A).length → ¬ Cl (cT tk R A) (cSs tk R A) Q q B
    | some b => IsMin (Cl (cT tk R A) (cSs tk R A) Q q) (2 ^ (cSs tk R A).length) b
  have clS : ∀ q i j B, Q[q]? = some (i, j) → (Cl (cT tk R A) (cSs tk R A) Q (q + 1) B ↔ Cl (cT tk R A) (cSs tk R A) Q q B ∨ By (cT tk R A) (cSs tk R A) B i j) := by
    intro q i j B hp
    constructor
    · rintro ⟨d, a, b, d1, d2, d3⟩
      by_cases e : d = q
      · subst e
        rw [hp] at d2
        obtain ⟨rfl, rfl⟩ := Prod.mk.inj (Option.some.inj d2)
        exact Or.inr d3
      · exact Or.inl ⟨d, a, b, by omega, d2, d3⟩
    · rintro (⟨d, a, b, d1, d2, d3⟩ | d)
      · exact ⟨d, a, b, by omega, d2, d3⟩
      · exact ⟨q, i, j, by omega, hp, d⟩
  have keyX : ∀ r fuel q o w, q + r = Q.length → r < fuel → KX wx w → (∀ j, gF w 8 j 0 = gF wx 8 j 0) → good q o → ∃ w' o', lp_X8_core_5 (fun (w_1 : Mem) (u1_1 : Int32) => (f_X8_core_113 N w_1 u1_1)) N fuel w (oN2 o) (nI q) = some (w', oN2 o') ∧ good Q.length o' ∧ KX wx w' ∧ ∀ j, gF w' 8 j 0 = gF wx 8 j 0 := by
    intro r
    induction r with
    | zero =>
      intro fuel q o w hq hf' hw h8 hg
      obtain ⟨f', rfl⟩ : ∃ f, fuel = f + 1 := ⟨fuel - 1, by omega⟩
      have hw' := hX.kx hw
      have h5 := hw'.1.2.1
      have hf := hw'.1.1
      have x10 := hw'.2.1.2.2.1.2.1
      rw [hQ] at x10
      have e : q = Q.length := by omega
      subst e
      refine ⟨w, o, ?_, hg, hw, h8⟩
      rw [lp_X8_core_5]
      simp (disch := omega) only [↓lm1, ↓lm2, eq_n1, eq_n2, n1_eq, n2_eq, n1_n2, n2_n1, n1_lt, n2_lt, n1_le, lt_n1, lt_n2, inb_t, cl_t, le_tt, le_tf, lt_tt, lt_tf, eq_tt, eq_tf, q_add, q_mul, li0, li1, li2, li3, li4, li5, li6, li7, li8, li12, li16, li24, li48, li500, gF_sA, gA_sF, gF_sF, gR_sA, gR_sF, gL_sA, gL_sF, gA_sA, shl_t, or_t, and_t, sbit_t, ubit_t, b01_0, b01_1, Option.bind_some, ↓reduceIte, eq_self, ne_eq, not_true_eq_false, Bool.false_eq_true, not_false_eq_true, true_and, and_true, false_and, and_false, if_pos, if_neg, h5, x10]
      rfl
    | succ r ih =>
      intro fuel q o w hq hf' hw h8 hg
      obtain ⟨f', rfl⟩ : ∃ f, fuel = f + 1 := ⟨fuel - 1, by omega⟩
      have hw' := hX.kx hw
      have h5 := hw'.1.2.1
      have hf := hw'.1.1
      have xQ := hw'.2.1.2.2.1
      rw [hQ] at xQ
      have x10 := xQ.2.1
      obtain ⟨⟨i, j⟩, hp⟩ := get_at Q (q := q) (by omega)
      obtain ⟨ki, kj, y3, y4⟩ := xQ.2.2 q i j hp
      have hcl := clashes_ok (N := N) xQ hw'.2.1.1.2.1 hp
      rw [b01_i] at hcl
      by_cases z : ldJ (cJ (run tk c0 (R ++ A))) i = ldJ (cJ (run tk c0 (R ++ A))) j
      · rw [b01_t z] at hcl
        have hfull : By (cT tk R A) (cSs tk R A) (full (cSs tk R A).length) i j := (by_full i j).mpr ((hCI.2.1 i j ki kj).mp z)
        cases o with
        | none =>
          obtain ⟨v, B, a1, a2, a3, b2⟩ : ∃ v B, f_X4_fewestSames N w f (nI i) (nI j) (nI 12) = some (v, nI B) ∧ KX wx v ∧ (∀ j, gF v 8 j 0 = gF w 8 j 0) ∧ IsMin (fun B => By (cT tk R A) (cSs tk R A) B i j) (2 ^ (cSs tk R A).length) B := by
            obtain ⟨v, o, a1, a2, a3, a4⟩ := fewX hN hX hCI ki kj hw (most := 12) (by decide)
            cases o with
            | none =>
              have h1 := a4 _ (full_lt _) hfull
              have h2 := pop_lt (full_lt (cSs tk R A).length) (by omega)
              omega
            | some B => exact ⟨v, B, a1, a2, a3, a4.1⟩
          have h8v : ∀ j, gF v 8 j 0 = gF wx 8 j 0 := fun j => (a3 j).trans (h8 j)
          have hBl : B < 4096 := by have := b2.1; omega
          have hg' : good (q + 1) (some B) := by
            refine ⟨b2.1, (clS q i j B hp).mpr (Or.inr b2.2.1), fun x hx hP => ?_⟩
            rcases (clS q i j x hp).mp hP with w | w
            · exact absurd w (hg x hx)
            · exact b2.2.2 x hx w
          obtain ⟨w', o', e1, e2⟩ := ih f' (q + 1) (some B) v (by omega) (by omega) a2 h8v hg'
          refine ⟨w', o', ?_, e2⟩
          have hn2 : oN2 none = n2 := rfl
          have hsB : oN2 (some B) = nI B := rfl
          have hlt : (n2 < nI 0) = True := eq_true (by decide)
          have hle : (nI 0 ≤ n2) = False := eq_false (by decide)
          rw [hsB] at e1
          rw [lp_X8_core_5, ← e1, hn2]
          simp (disch := omega) only [↓lm1, ↓lm2, eq_n1, eq_n2, n1_eq, n2_eq, n1_n2, n2_n1, n1_lt, n2_lt, n1_le, lt_n1, lt_n2, inb_t, cl_t, le_tt, le_tf, lt_tt, lt_tf, eq_tt, eq_tf, q_add, q_mul, li0, li1, li2, li3, li4, li5, li6, li7, li8, li12, li16, li24, li48, li500, gF_sA, gA_sF, gF_sF, gR_sA, gR_sF, gL_sA, gL_sF, gA_sA, shl_t, or_t, and_t, sbit_t, ubit_t, b01_0, b01_1, Option.bind_some, ↓reduceIte, eq_self, ne_eq, not_true_eq_false, Bool.false_eq_true, not_false_eq_true, true_and, and_true, false_and, and_false, if_pos, if_neg, h5, x10, hcl, y3, y4, hlt, hle, f_X8_core_47_5_s1, a1]
        | some b =>
          have hg2 : IsMin (Cl (cT tk R A) (cSs tk R A) Q q) (2 ^ (cSs tk R A).length) b := hg
          have hbl : b < 4096 := by have := hg2.1; omega
          have p2 := bitCount_ok (N := N) (w := w) (b := b) (by omega)
          have pl2 := pop_le b
          have hsb : oN2 (some b) = nI b := rfl
          obtain ⟨v, o, a1, a2, a3, a4⟩ := fewX hN hX hCI ki kj hw (most := pop b) (by omega)
          have h8v : ∀ j, gF v 8 j 0 = gF wx 8 j 0 := fun j => (a3 j).trans (h8 j)
          -- nothing better
          have keep : (∀ x, x < 2 ^ (cSs tk R A).length → By (cT tk R A) (cSs tk R A) x i j → pop b < pop x ∨ (pop b = pop x ∧ b ≤ x)) → good (q + 1) (some b) := fun hk => by
            refine ⟨hg2.1, (clS q i j b hp).mpr (Or.inl hg2.2.1), fun x hx hP => ?_⟩
            rcases (clS q i j x hp).mp hP with w | w
            · exact hg2.2.2 x hx w
            · exact hk x hx w
          cases o with
          | none =>
            have a1' : f_X4_fewestSames N w f (nI i) (nI j) (nI (pop b)) = some (v, n1) := a1
            obtain ⟨w', o', e1, e2⟩ := ih f' (q + 1) (some b) v (by omega) (by omega) a2 h8v (keep (fun x hx hP => Or.inl (a4 x hx hP)))
            refine ⟨w', o', ?_, e2⟩
            rw [hsb] at e1
            rw [lp_X8_core_5, ← e1, hsb]
            simp (disch := omega) only [↓lm1, ↓lm2, eq_n1, eq_n2, n1_eq, n2_eq, n1_n2, n2_n1, n1_lt, n2_lt, n1_le, lt_n1, lt_n2, inb_t, cl_t, le_tt, le_tf, lt_tt, lt_tf, eq_tt, eq_tf, q_add, q_mul, li0, li1, li2, li3, li4, li5, li6, li7, li8, li12, li16, li24, li48, li500, gF_sA, gA_sF, gF_sF, gR_sA, gR_sF, gL_sA, gL_sF, gA_sA, shl_t, or_t, and_t, sbit_t, ubit_t, b01_0, b01_1, Option.bind_some, ↓reduceIte, eq_self, ne_eq, not_true_eq_false, Bool.false_eq_true, not_false_eq_true, true_and, and_true, false_and, and_false, if_pos, if_neg, h5, x10, hcl, y3, y4, p2, f_X8_core_47_5_s1, a1', n1_lt]
          | some B =>
            obtain ⟨b2, hBp⟩ := a4
            have a1' : f_X4_fewestSames N w f (nI i) (nI j) (nI (pop b)) = some (v, nI B) := a1
            have hBl : B < 4096 := by have := b2.1; omega
            have p1 := bitCount_ok (N := N) (w := v) (b := B) (by omega)
            have pl1 := pop_le B
            by_cases y : pop B < pop b ∨ (pop B = pop b ∧ B < b)
            · have hg' : good (q + 1) (some B) := by
                refine ⟨b2.1, (clS q i j B hp).mpr (Or.inr b2.2.1), fun x hx hP => ?_⟩
                rcases (clS q i j x hp).mp hP with w | w
                · have := hg2.2.2 x hx w; omega
                · exact b2.2.2 x hx w
              obtain ⟨w', o', e1, e2⟩ := ih f' (q + 1) (some B) v (by omega) (by omega) a2 h8v hg'
              refine ⟨w', o', ?_, e2⟩
              have hsB : oN2 (some B) = nI B := rfl
              rw [hsB] at e1
              rw [lp_X8_core_5, ← e1, hsb]
              rcases y with y | ⟨y1, y2⟩
              · simp (disch := omega) only [↓lm1, ↓lm2, eq_n1, eq_n2, n1_eq, n2_eq, n1_n2, n2_n1, n1_lt, n2_lt, n1_le, lt_n1, lt_n2, inb_t, cl_t, le_tt, le_tf, lt_tt, lt_tf, eq_tt, eq_tf, q_add, q_mul, li0, li1, li2, li3, li4, li5, li6, li7, li8, li12, li16, li24, li48, li500, gF_sA, gA_sF, gF_sF, gR_sA, gR_sF, gL_sA, gL_sF, gA_sA, shl_t, or_t, and_t, sbit_t, ubit_t, b01_0, b01_1, Option.bind_some, ↓reduceIte, eq_self, ne_eq, not_true_eq_false, Bool.false_eq_true, not_false_eq_true, true_and, and_true, false_and, and_false, if_pos, if_neg, h5, x10, hcl, y3, y4, p2, f_X8_core_47_5_s1, a1', p1]
              · simp (disch := omega) only [↓lm1, ↓lm2, eq_n1, eq_n2, n1_eq, n2_eq, n1_n2, n2_n1, n1_lt, n2_lt, n1_le, lt_n1, lt_n2, inb_t, cl_t, le_tt, le_tf, lt_tt, lt_tf, eq_tt, eq_tf, q_add, q_mul, li0, li1, li2, li3, li4, li5, li6, li7, li8, li12, li16, li24, li48, li500, gF_sA, gA_sF, gF_sF, gR_sA, gR_sF, gL_sA, gL_sF, gA_sA, shl_t, or_t, and_t, sbit_t, ubit_t, b01_0, b01_1, Option.bind_some, ↓reduceIte, eq_self, ne_eq, not_true_eq_false, Bool.false_eq_true, not_false_eq_true, true_and, and_true, false_and, and_false, if_pos, if_neg, h5, x10, hcl, y3, y4, p2, f_X8_core_47_5_s1, a1', p1]
            · obtain ⟨w', o', e1, e2⟩ := ih f' (q + 1) (some b) v (by omega) (by omega) a2 h8v (keep (fun x hx hP => by have := b2.2.2 x hx hP; omega))
              refine ⟨w', o', ?_, e2⟩
              rw [hsb] at e1
              rw [lp_X8_core_5, ← e1, hsb]
              have x : pop B = pop b := by omega
              have x2 : b ≤ B := by omega
              simp (disch := omega) only [↓lm1, ↓lm2, eq_n1, eq_n2, n1_eq, n2_eq, n1_n2, n2_n1, n1_lt, n2_lt, n1_le, lt_n1, lt_n2, inb_t, cl_t, le_tt, le_tf, lt_tt, lt_tf, eq_tt, eq_tf, q_add, q_mul, li0, li1, li2, li3, li4, li5, li6, li7, li8, li12, li16, li24, li48, li500, gF_sA, gA_sF, gF_sF, gR_sA, gR_sF, gL_sA, gL_sF, gA_sA, shl_t, or_t, and_t, sbit_t, ubit_t, b01_0, b01_1, Option.bind_some, ↓reduceIte, eq_self, ne_eq, not_true_eq_false, Bool.false_eq_true, not_false_eq_true, true_and, and_true, false_and, and_false, if_pos, if_neg, h5, x10, hcl, y3, y4, p2, f_X8_core_47_5_s1, a1', p1]
      · rw [b01_f z] at hcl
        have hno : ∀ B, B < 2 ^ (cSs tk R A).length → ¬ By (cT tk R A) (cSs tk R A) B i j := fun B hB hc => z ((hCI.2.1 i j ki kj).mpr ((by_full i j).mp (By.mono (fun k hk => by rw [full_bit]; exact decide_eq_true (low_bit hB hk)) hc)))
        have hg' : good (q + 1) o := by
          cases o with
          | none => exact fun B hB hP => ((clS q i j B hp).mp hP).elim (hg B hB) (hno B hB)
          | some b =>
            have hg2 : IsMin (Cl (cT tk R A) (cSs tk R A) Q q) (2 ^ (cSs tk R A).length) b := hg
            exact ⟨hg2.1, (clS q i j b hp).mpr (Or.inl hg2.2.1), fun x hx hP => ((clS q i j x hp).mp hP).elim (hg2.2.2 x hx) (fun w => absurd w (hno x hx))⟩
        obtain ⟨w', o', e1, e2⟩ := ih f' (q + 1) o w (by omega) (by omega) hw h8 hg'
        refine ⟨w', o', ?_, e2⟩
        rw [lp_X8_core_5, ← e1]
        simp (disch := omega) only [↓lm1, ↓lm2, eq_n1, eq_n2, n1_eq, n2_eq, n1_n2, n2_n1, n1_lt, n2_lt, n1_le, lt_n1, lt_n2, inb_t, cl_t, le_tt, le_tf, lt_tt, lt_tf, eq_tt, eq_tf, q_add, q_mul, li0, li1, li2, li3, li4, li5, li6, li7, li8, li12, li16, li24, li48, li500, gF_sA, gA_sF, gF_sF, gR_sA, gR_sF, gL_sA, gL_sF, gA_sA, shl_t, or_t, and_t, sbit_t, ubit_t, b01_0, b01_1, Option.bind_some, ↓reduceIte, eq_self, ne_eq, not_true_eq_false, Bool.false_eq_true, not_false_eq_true, true_and, and_true, false_and, and_false, if_pos, if_neg, h5, x10, hcl]
  have keyM : ∀ r fuel q w, q + r = 2 ^ (cSs tk R A).length → r < fuel → FrK 59 (sF wm 9 0 0 (nI 0)) w → ∃ w', lp_X9_core_10 (fun (w_1 : Mem) (u1_1 : Int32) => (f_X9_core_65 N w_1 u1_1)) N fuel w (oN2 (bst (Cl (cT tk R A) (cSs tk R A) Q Q.length) q)) (nI q) = some (w', oN2 (bst (Cl (cT tk R A) (cSs tk R A) Q Q.length) (2 ^ (cSs tk R A).length))) ∧ FrK 59 (sF wm 9 0 0 (nI 0)) w' := by
    intro r
    induction r with
    | zero =>
      intro fuel q w hq hf hw
      obtain ⟨f', rfl⟩ : ∃ f, fuel = f + 1 := ⟨fuel - 1, by omega⟩
      have hw' := hM.km (hw.km (by omega) _)
      have m30 : gF w 9 30 0 = nI (cSs tk R A).length := hw'.1.2.1.2.1
      have e : q = 2 ^ (cSs tk R A).length := by omega
      refine ⟨w, ?_, hw⟩
      rw [lp_X9_core_10, allM hs12 m30]
      simp (disch := omega) only [↓lm1, ↓lm2, eq_n1, eq_n2, n1_eq, n2_eq, n1_n2, n2_n1, n1_lt, n2_lt, n1_le, lt_n1, lt_n2, inb_t, cl_t, le_tt, le_tf, lt_tt, lt_tf, eq_tt, eq_tf, q_add, q_mul, li0, li1, li2, li3, li4, li5, li6, li7, li8, li12, li16, li24, li48, li500, gF_sA, gA_sF, gF_sF, gR_sA, gR_sF, gL_sA, gL_sF, gA_sA, shl_t, or_t, and_t, sbit_t, ubit_t, b01_0, b01_1, Option.bind_some, ↓reduceIte, eq_self, ne_eq, not_true_eq_false, Bool.false_eq_true, not_false_eq_true, true_and, and_true, false_and, and_false, if_pos, if_neg, f_X9_core_65]
      rw [e]
    | succ r ih =>
      intro fuel q w hq hf hw
      obtain ⟨f', rfl⟩ : ∃ f, fuel = f + 1 := ⟨fuel - 1, by omega⟩
      have hw' := hM.km (hw.km (by omega) _)
      have m30 : gF w 9 30 0 = nI (cSs tk R A).length := hw'.1.2.1.2.1
      obtain ⟨w1, c1, c2, c3⟩ := closesBy_ok (N := N) (b := q) (by omega) hw'.1.1.1 hw'.1.2.1.rp (by show q < 2 ^ (cSs tk R A).length; omega)
      have hw1 := hM.km (FrK.km (Fr.tr hw c3) (by omega) _)
      have hD := hw1.1.2.2
      rw [hQ] at hD
      have c4 := clashIn_ok (N := N) (k := 59) rfl (by omega) c2 hD
      have hPiff : Cl (cT tk R A) (cSs tk R A) Q Q.length q ↔ fcl (ldE (cT tk R A) (Pk (cSs tk R A) q)) Q ≠ none := by
        unfold fcl
        rw [ne_eq, List.findIdx?_eq_none_iff]
        constructor
        · rintro ⟨d, i, j, d1, d2, d3⟩ hall
          have hm := List.mem_of_getElem? d2
          have := hall (i, j) hm
          obtain ⟨g1, g2⟩ := hQok i j hm
          have e : ldE (cT tk R A) (Pk (cSs tk R A) q) i = ldE (cT tk R A) (Pk (cSs tk R A) q) j := (ldE_iff hCI.1.1 i j g1 g2).mpr d3
          simp [e] at this
        · intro hall
          apply Classical.byContradiction
          intro hc
          apply hall
          rintro ⟨i, j⟩ hm
          obtain ⟨d, hd⟩ := List.getElem?_of_mem hm
          obtain ⟨g1, g2⟩ := hQok i j hm
          apply decide_eq_false
          intro e
          exact hc ⟨d, i, j, (List.getElem?_eq_some_iff.mp hd).1, hd, (ldE_iff hCI.1.1 i j g1 g2).mp e⟩
      -- one set tried
      have tried : ∀ v1 : Int32, ∃ w', (∀ rc kk, f_X9_core_35_10 rc kk N w v1 (nI q) = if fcl (ldE (cT tk R A) (Pk (cSs tk R A) q)) Q = none then rc w' v1 (nI (q + 1)) else rc w' (nI q) (nI (q + 1))) ∧ FrK 59 (sF wm 9 0 0 (nI 0)) w' := by
        intro v1
        refine ⟨w1, fun rc kk => ?_, hw.tr c3⟩
        rw [f_X9_core_35_10, c1, Option.bind_some]
        cases hz : fcl (ldE (cT tk R A) (Pk (cSs tk R A) q)) Q with
        | none =>
          have c5 : f_X9_clashIn N w1 59 = some n2 := by rw [c4]; show some (oI (fcl (ldE (cT tk R A) (Pk (cSs tk R A) q)) Q)) = _; rw [hz]; rfl
          rw [if_pos rfl, c5]
          simp (disch := omega) only [↓lm1, ↓lm2, eq_n1, eq_n2, n1_eq, n2_eq, n1_n2, n2_n1, n1_lt, n2_lt, n1_le, lt_n1, lt_n2, inb_t, cl_t, le_tt, le_tf, lt_tt, lt_tf, eq_tt, eq_tf, q_add, q_mul, li0, li1, li2, li3, li4, li5, li6, li7, li8, li12, li16, li24, li48, li500, gF_sA, gA_sF, gF_sF, gR_sA, gR_sF, gL_sA, gL_sF, gA_sA, shl_t, or_t, and_t, sbit_t, ubit_t, b01_0, b01_1, Option.bind_some, ↓reduceIte, eq_self, ne_eq, not_true_eq_false, Bool.false_eq_true, not_false_eq_true, true_and, and_true, false_and, and_false, if_pos, if_neg]
        | some y =>
          have hy8 : y < 8 := by
            obtain ⟨hlt, -⟩ := List.findIdx?_eq_some_iff_getElem.mp hz
            omega
          have c5 : f_X9_clashIn N w1 59 = some (nI y) := by rw [c4]; show some (oI (fcl (ldE (cT tk R A) (Pk (cSs tk R A) q)) Q)) = _; rw [hz]; rfl
          rw [if_neg (fun w => by cases w), c5]
          simp (disch := omega) only [↓lm1, ↓lm2, eq_n1, eq_n2, n1_eq, n2_eq, n1_n2, n2_n1, n1_lt, n2_lt, n1_le, lt_n1, lt_n2, inb_t, cl_t, le_tt, le_tf, lt_tt, lt_tf, eq_tt, eq_tf, q_add, q_mul, li0, li1, li2, li3, li4, li5, li6, li7, li8, li12, li16, li24, li48, li500, gF_sA, gA_sF, gF_sF, gR_sA, gR_sF, gL_sA, gL_sF, gA_sA, shl_t, or_t, and_t, sbit_t, ubit_t, b01_0, b01_1, Option.bind_some, ↓reduceIte, eq_self, ne_eq, not_true_eq_false, Bool.false_eq_true, not_false_eq_true, true_and, and_true, false_and, and_false, if_pos, if_neg]
      cases hbq : bst (Cl (cT tk R A) (cSs tk R A) Q Q.length) q with
      | none =>
        obtain ⟨w2, t1, t2⟩ := tried n2
        obtain ⟨w3, d1, d2⟩ := ih f' (q + 1) w2 (by omega) (by omega) t2
        have hn : oN2 none = n2 := rfl
        refine ⟨w3, ?_, d2⟩
        rw [lp_X9_core_10, allM hs12 m30, hn]
        have htr := t1 (fun (w : Mem) (v1 : Int32) (v2 : Int32) => lp_X9_core_10 (fun (w_1 : Mem) (u1_1 : Int32) => (f_X9_core_65 N w_1 u1_1)) N f' w v1 v2) (fun (w_1 : Mem) (u1_1 : Int32) => (f_X9_core_65 N w_1 u1_1))
        simp (disch := omega) only [↓lm1, ↓lm2, eq_n1, eq_n2, n1_eq, n2_eq, n1_n2, n2_n1, n1_lt, n2_lt, n1_le, lt_n1, lt_n2, inb_t, cl_t, le_tt, le_tf, lt_tt, lt_tf, eq_tt, eq_tf, q_add, q_mul, li0, li1, li2, li3, li4, li5, li6, li7, li8, li12, li16, li24, li48, li500, gF_sA, gA_sF, gF_sF, gR_sA, gR_sF, gL_sA, gL_sF, gA_sA, shl_t, or_t, and_t, sbit_t, ubit_t, b01_0, b01_1, Option.bind_some, ↓reduceIte, eq_self, ne_eq, not_true_eq_false, Bool.false_eq_true, not_false_eq_true, true_and, and_true, false_and, and_false, if_pos, if_neg]
        rw [htr, ← d1]
        by_cases z : fcl (ldE (cT tk R A) (Pk (cSs tk R A) q)) Q = none
        · rw [if_pos z, bst_nn hbq (fun w => hPiff.mp w z)]
          rfl
        · rw [if_neg z, bst_n hbq (hPiff.mpr z)]
          rfl
      | some b =>
        have hbl := bst_lt hbq
        have hsb : oN2 (some b) = nI b := rfl
        have p1 := ones_ok (N := N) (w := w) (b := q) hN (by omega)
        have p2 := ones_ok (N := N) (w := w) (b := b) hN (by omega)
        have pl1 := pop_le q
        have pl2 := pop_le b
        by_cases y : pop q < pop b
        · obtain ⟨w2, t1, t2⟩ := tried (nI b)
          obtain ⟨w3, d1, d2⟩ := ih f' (q + 1) w2 (by omega) (by omega) t2
          refine ⟨w3, ?_, d2⟩
          rw [lp_X9_core_10, allM hs12 m30, hsb]
          have htr := t1 (fun (w : Mem) (v1 : Int32) (v2 : Int32) => lp_X9_core_10 (fun (w_1 : Mem) (u1_1 : Int32) => (f_X9_core_65 N w_1 u1_1)) N f' w v1 v2) (fun (w_1 : Mem) (u1_1 : Int32) => (f_X9_core_65 N w_1 u1_1))
          simp (disch := omega) only [↓lm1, ↓lm2, eq_n1, eq_n2, n1_eq, n2_eq, n1_n2, n2_n1, n1_lt, n2_lt, n1_le, lt_n1, lt_n2, inb_t, cl_t, le_tt, le_tf, lt_tt, lt_tf, eq_tt, eq_tf, q_add, q_mul, li0, li1, li2, li3, li4, li5, li6, li7, li8, li12, li16, li24, li48, li500, gF_sA, gA_sF, gF_sF, gR_sA, gR_sF, gL_sA, gL_sF, gA_sA, shl_t, or_t, and_t, sbit_t, ubit_t, b01_0, b01_1, Option.bind_some, ↓reduceIte, eq_self, ne_eq, not_true_eq_false, Bool.false_eq_true, not_false_eq_true, true_and, and_true, false_and, and_false, if_pos, if_neg, p1, p2]
          rw [htr, ← d1]
          by_cases z : fcl (ldE (cT tk R A) (Pk (cSs tk R A) q)) Q = none
          · rw [if_pos z, bst_sn hbq (fun w => hPiff.mp w.2 z)]
            rfl
          · rw [if_neg z, bst_s hbq ⟨y, hPiff.mpr z⟩]
            rfl
        · obtain ⟨w3, d1, d2⟩ := ih f' (q + 1) w (by omega) (by omega) hw
          rw [bst_sn hbq (fun x => y x.1), hsb] at d1
          refine ⟨w3, ?_, d2⟩
          rw [lp_X9_core_10, allM hs12 m30, ← d1, hsb]
          simp (disch := omega) only [↓lm1, ↓lm2, eq_n1, eq_n2, n1_eq, n2_eq, n1_n2, n2_n1, n1_lt, n2_lt, n1_le, lt_n1, lt_n2, inb_t, cl_t, le_tt, le_tf, lt_tt, lt_tf, eq_tt, eq_tf, q_add, q_mul, li0, li1, li2, li3, li4, li5, li6, li7, li8, li12, li16, li24, li48, li500, gF_sA, gA_sF, gF_sF, gR_sA, gR_sF, gL_sA, gL_sF, gA_sA, shl_t, or_t, and_t, sbit_t, ubit_t, b01_0, b01_1, Option.bind_some, ↓reduceIte, eq_self, ne_eq, not_true_eq_false, Bool.false_eq_true, not_false_eq_true, true_and, and_true, false_and, and_false, if_pos, if_neg, p1, p2]
  obtain ⟨v, o', a1, a2, a3, a4⟩ := keyX Q.length N 0 none wx (by omega) (by omega) KX.rf (fun _ => rfl) (fun B hB ⟨d, i, j, d1, _⟩ => absurd d1 (Nat.not_lt_zero d))
  obtain ⟨u, b1, b2⟩ := keyM (2 ^ (cSs tk R A).length) N 0 (sF wm 9 0 0 (nI 0)) (by omega) (by omega) Fr.rf
  have hsp := bst_spec (Cl (cT tk R A) (cSs tk R A) Q Q.length) (2 ^ (cSs tk R A).length)
  have heq : bst (Cl (cT tk R A) (cSs tk R A) Q Q.length) (2 ^ (cSs tk R A).length) = o' := by
    cases hbb : bst (Cl (cT tk R A) (cSs tk R A) Q Q.length) (2 ^ (cSs tk R A).length) with
    | none =>
      rw [hbb] at hsp
      cases o' with
      | none => rfl
      | some b =>
        have hg2 : IsMin (Cl (cT tk R A) (cSs tk R A) Q Q.length) (2 ^ (cSs tk R A).length) b := a2
        exact absurd hg2.2.1 (hsp b hg2.1)
    | some b =>
      rw [hbb] at hsp
      cases o' with
      | none => exact absurd hsp.2.1 (a2 b hsp.1)
      | some b' =>
        have hg2 : IsMin (Cl (cT tk R A) (cSs tk R A) Q Q.length) (2 ^ (cSs tk R A).length) b' := a2
        rw [hsp.uniq hg2]
  rw [heq] at b1
  refine ⟨v, u, oN2 o', ?_, ?_, f, nf, tk, R, A, NL, tp, ⟨hX.kx a3, hM.km (b2.km (by omega) _), hC.2.2.1, by rw [a4, b2.F]; exact hC.2.2.2⟩, by rw [a4, b2.F]; exact q1, by rw [a4, b2.F, b2.F]; exact q2⟩
  · rw [f_X8_core]; exact a1
  · rw [f_X9_core]; exact b1
