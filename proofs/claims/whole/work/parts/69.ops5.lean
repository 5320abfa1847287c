/-! fewest, many, core -/
theorem holdP {T : Trm} {S : Prs} {pk : List Nat} {t u b : Nat} (h3 : PkB pk S.length) (h4 : PkOK pk S.length) (h5 : pk.length ≤ 12) (h7 : ∀ B, By T S B t u → ∃ s, s < 2 ^ pk.length ∧ By T S (exS pk s) t u ∧ ∀ k, (exS pk s).testBit k = true → B.testBit k = true) (hs12 : S.length ≤ 12) (hb : IsMin (fun s => By T S (exS pk s) t u) (2 ^ pk.length) b) : IsMin (fun B => By T S B t u) (2 ^ S.length) (exS pk b) := by
  obtain ⟨b1, b2, b3⟩ := hb
  refine ⟨ex_lt pk.length (fun k p _ hp => h3 k p hp), b2, fun B hB hP => ?_⟩
  obtain ⟨s, s1, s2, s3⟩ := h7 B hP
  have hBlt : B < 16777216 := Nat.lt_of_lt_of_le hB (p2le (b := 24) (by omega))
  have hslt : exS pk s < 16777216 := Nat.lt_of_lt_of_le (ex_lt (b := S.length) pk.length (fun k p _ hp => h3 k p hp)) (p2le (b := 24) (by omega))
  have e1 := exS_pop (b := S.length) (by omega) h3 h4 (by omega) b1
  have e2 := exS_pop (b := S.length) (by omega) h3 h4 (by omega) s1
  have hmin := b3 s s1 s2
  by_cases z : B = exS pk s
  · rw [z, e1, e2]
    rcases hmin with q | ⟨q1, q2⟩
    · exact Or.inl q
    · refine Or.inr ⟨q1, ?_⟩
      rcases Nat.lt_or_ge b s with y | y
      · exact Nat.le_of_lt (exS_strict h4 y s1)
      · have : b = s := by omega
        rw [this]; exact Nat.le_refl _
  · have := pop_strict hslt hBlt s3 z
    refine Or.inl ?_
    rw [e1]
    omega
theorem byP {T : Trm} {S : Prs} {pk : List Nat} {t u : Nat} (a b : Nat) (h : ∀ k, a.testBit k = true → b.testBit k = true) (ha : By T S (exS pk a) t u) : By T S (exS pk b) t u := By.mono (exS_mono h) ha
theorem qbM {T : Trm} {S : Prs} {pk : List Nat} (c a b : Nat) (h : ∀ k, a.testBit k = true → b.testBit k = true) (ha : QB T S pk c a) : QB T S pk c b := fun p i j hp hS => By.mono (exS_mono h) (ha p i j hp hS)
theorem qbP {T : Trm} {S : Prs} {pk : List Nat} {t u : Nat} (c set s : Nat) (hq : QB T S pk c set) (h : ∀ k, set.testBit k = true → s.testBit k = true) (hb : By T S (exS pk (s ||| 2 ^ c)) t u) : By T S (exS pk s) t u := fun Rr hR hE => hb Rr hR (fun x y hxy => by
  obtain ⟨k, p, q1, q2, q3⟩ := pk_ex.mp hxy
  rw [or_bit, Bool.or_eq_true, decide_eq_true_iff] at q1
  rcases q1 with q1 | rfl
  · exact hE x y (pk_ex.mpr ⟨k, p, q1, q2, q3⟩)
  · exact (By.mono (exS_mono h) (hq p x y q2 q3)) Rr hR hE)
def FewO (P : Nat → Prop) (K most : Nat) : Option Nat → Prop
  | none => ∀ B, B < K → P B → most < pop B
  | some B => IsMin P K B ∧ pop B ≤ most
set_option maxHeartbeats 1000000 in
theorem fewX {N f nf t u most : Nat} {tk : Nat → Nat} {R A : List Row} {NL : List (List Nat)} {tp : List Nat} {wx w : Mem} (hN : 5000 < N) (h : RelX wx f nf tk R A NL tp) (hCI : CI tk nf (run tk c0 (R ++ A))) (ht : t < tN (cT tk R A)) (hu : u < tN (cT tk R A)) (hw : KX wx w) (hm : most ≤ 24) : ∃ w' o, f_X4_fewestSames N w f (nI t) (nI u) (nI most) = some (w', oN1 o) ∧ KX wx w' ∧ (∀ j, gF w' 8 j 0 = gF w 8 j 0) ∧ FewO (fun B => By (cT tk R A) (cSs tk R A) B t u) (2 ^ (cSs tk R A).length) most o := by
  have hs12 : (cSs tk R A).length ≤ 12 := h.2.1.2.1.1
  obtain ⟨w1, pk, a1, a2, a3, b1, b2, b3, b4, b5, b6, b7⟩ := begin_ok hN h hCI ht hu hw
  have hm12 : 2 ^ pk.length ≤ 4096 := p2le (b := 12) b5
  obtain ⟨w2, hw2⟩ : ∃ w2 : Mem, w2 = sF (sF (sF w1 4 6 0 (nI 1)) 4 7 0 (nI (most + 1))) 4 8 0 n1 := ⟨_, rfl⟩
  have hF : ∀ k j i, ¬ (k = 4 ∧ 6 ≤ j) → gF w2 k j i = gF w1 k j i := fun k j i z => by
    rw [hw2, gF_sF, if_neg (by omega), gF_sF, if_neg (by omega), gF_sF, if_neg (by omega)]
  have hA : ∀ k i, gA w2 k i = gA w1 k i := fun k i => by rw [hw2]; rfl
  have kx2 : KX w1 w2 := ⟨fun k j i z => hF k j i (by omega), fun k i _ => hA k i, fun k j i => by rw [hw2]; rfl⟩
  have e6 : gF w2 4 6 0 = nI (b01 (true = true)) := by rw [b01_t rfl, hw2, gF_sF, if_neg (by omega), gF_sF, if_neg (by omega), gF_sF, if_pos ⟨rfl, rfl, rfl⟩]
  have e7 : gF w2 4 7 0 = nI (most + 1) := by rw [hw2, gF_sF, if_neg (by omega), gF_sF, if_pos ⟨rfl, rfl, rfl⟩]
  have e8 : gF w2 4 8 0 = n1 := by rw [hw2, gF_sF, if_pos ⟨rfl, rfl, rfl⟩]
  have hG := b6.of (v := w2) (hF 3 1 _ (by omega)) (hF 3 2 _ (by omega)) (hA _ _)
  have hP2 : PKw w2 pk t u := ⟨(hF _ _ _ (by omega)).trans b2.1, (hF _ _ _ (by omega)).trans b2.2.1, fun k p hp => by rw [hA]; exact b2.2.2 k p hp⟩
  have hst : VS true w2 (most + 1, none, hb w2) := ⟨e7, fun _ => e8, fun _ => rfl⟩
  obtain ⟨w3, c1, c2, c3⟩ := visit_ok (fa := true) hN h hCI b3 b5 ht hu pk.length 14 w2 0 (most + 1, none, hb w2) (by omega) (Nat.le_refl _) (a2.tr kx2) hG (by omega) (Nat.zero_mod _) hP2 e6 hst (by show most + 1 ≤ 25; omega)
  have hp0 : pop 0 = 0 := by decide
  have hv := visF (P := fun s => By (cT tk R A) (cSs tk R A) (exS pk s) t u) (Q := QB (cT tk R A) (cSs tk R A) pk) byP qbP pk.length 0 (most + 1, none, hb w2) b5 (Nat.zero_mod _) (by omega) (by show pop 0 < most + 1; omega)
  have e3 : gF w2 4 3 0 = nI pk.length := (hF _ _ _ (by omega)).trans b1
  have f3 : gF w3 4 3 0 = nI pk.length := (c2.2.2.1 _ _ (by omega)).trans e3
  have f27 : ∀ k p : Nat, pk[k]? = some p → gA w3 27 0 k = nI p := (hP2.kw c2).2.2
  have h1 : (nI most + (1 : Int32)) = nI (most + 1) := n_add most 1
  have hvv : f_X4_fewestSames N w f (nI t) (nI u) (nI most) = Option.bind (f_X4_visit N 14 w2 f (gF w2 4 3 0) (nI 0)) (fun z3 => if (0 : Int32) ≤ (gF z3 4 8 0) then lp_X4_fewestSames_50 (fun (u5_5 : Int32) => (f_X4_fewestSames_87 N z3 f u5_5)) N z3 f N (0 : Int32) (0 : Int32) else some (z3, n1)) := by
    rw [f_X4_fewestSames, a1, Option.bind_some, h1, hw2]
    rfl
  have h8' : ∀ j, gF w3 8 j 0 = gF w 8 j 0 := fun j => ((c2.2.2.2.2 j).trans (hF _ _ _ (by omega))).trans (a3 j)
  rcases hv with ⟨g1, g2, g3⟩ | ⟨b, g1, g2, g3, g4, g5, g6, g7⟩
  · have f8 : gF w3 4 8 0 = n1 := by
      have := c3.2.1 rfl
      rw [g3] at this
      exact this
    refine ⟨w3, none, ?_, (a2.tr kx2).tr c2.1, h8', fun B hB hP => ?_⟩
    · rw [hvv, e3, c1, Option.bind_some, f8, if_neg (by decide)]
      rfl
    · obtain ⟨s, s1, s2, s3⟩ := b7 B hP
      have q1 := g1 s (Nat.zero_le _) (by omega) s2
      have q2 := exS_pop (b := (cSs tk R A).length) (by omega) b3 b4 (by omega) s1
      have hBlt : B < 16777216 := Nat.lt_of_lt_of_le hB (p2le (b := 24) (by omega))
      have hslt : exS pk s < 16777216 := Nat.lt_of_lt_of_le (ex_lt (b := (cSs tk R A).length) pk.length (fun k p _ hp => b3 k p hp)) (p2le (b := 24) (by omega))
      have q3 := pop_sub hslt hBlt s3
      have q4 : most + 1 ≤ pop s := q1
      omega
  · have f8 : gF w3 4 8 0 = nI b := by
      have := c3.2.1 rfl
      rw [g6] at this
      exact this
    have hbl : b < 4096 := by omega
    have hmin : IsMin (fun s => By (cT tk R A) (cSs tk R A) (exS pk s) t u) (2 ^ pk.length) b := ⟨by omega, g3, fun x hx hP => g7 x (Nat.zero_le _) (by omega) hP⟩
    refine ⟨w3, some (exS pk b), ?_, (a2.tr kx2).tr c2.1, h8', holdP b3 b4 b5 b7 hs12 hmin, ?_⟩
    · have key2 : ∀ r fuel q, q + r = pk.length → r < fuel → lp_X4_fewestSames_50 (fun (u5_5 : Int32) => (f_X4_fewestSames_87 N w3 f u5_5)) N w3 f fuel (nI (ex pk b q)) (nI q) = some (w3, nI (exS pk b)) := by
        intro r
        induction r with
        | zero =>
          intro fuel q hq hf'
          obtain ⟨f', rfl⟩ : ∃ f, fuel = f + 1 := ⟨fuel - 1, by omega⟩
          have e : q = pk.length := by omega
          subst e
          rw [lp_X4_fewestSames_50]
          simp (disch := omega) only [↓lm1, ↓lm2, eq_n1, eq_n2, n1_eq, n2_eq, n1_n2, n2_n1, n1_lt, n2_lt, n1_le, lt_n1, lt_n2, inb_t, cl_t, le_tt, le_tf, lt_tt, lt_tf, eq_tt, eq_tf, q_add, q_mul, li0, li1, li2, li3, li4, li5, li6, li7, li8, li12, li16, li24, li48, li500, gF_sA, gA_sF, gF_sF, gR_sA, gR_sF, gL_sA, gL_sF, gA_sA, shl_t, or_t, and_t, sbit_t, ubit_t, b01_0, b01_1, Option.bind_some, ↓reduceIte, eq_self, ne_eq, not_true_eq_false, Bool.false_eq_true, not_false_eq_true, true_and, and_true, false_and, and_false, if_pos, if_neg, f3]
          rfl
        | succ r ih =>
          intro fuel q hq hf'
          obtain ⟨f', rfl⟩ : ∃ f, fuel = f + 1 := ⟨fuel - 1, by omega⟩
          obtain ⟨p, hp⟩ := get_at pk (q := q) (by omega)
          have e27 := f27 q p hp
          have hps := b3 q p hp
          have hi := ih f' (q + 1) (by omega) (by omega)
          rw [ex, hp] at hi
          rw [lp_X4_fewestSames_50, ← hi, f8]
          show _ = lp_X4_fewestSames_50 _ N w3 f f' (nI (if b.testBit q = true then ex pk b q ||| 2 ^ p else ex pk b q)) (nI (q + 1))
          have hub := ubit_ok (b := b) (k := q) (by omega) (by omega)
          by_cases z : b.testBit q = true
          · rw [if_pos z, hub, b01_t z]
            simp (disch := omega) only [↓lm1, ↓lm2, eq_n1, eq_n2, n1_eq, n2_eq, n1_n2, n2_n1, n1_lt, n2_lt, n1_le, lt_n1, lt_n2, inb_t, cl_t, le_tt, le_tf, lt_tt, lt_tf, eq_tt, eq_tf, q_add, q_mul, li0, li1, li2, li3, li4, li5, li6, li7, li8, li12, li16, li24, li48, li500, gF_sA, gA_sF, gF_sF, gR_sA, gR_sF, gL_sA, gL_sF, gA_sA, shl_t, or_t, and_t, sbit_t, ubit_t, b01_0, b01_1, Option.bind_some, ↓reduceIte, eq_self, ne_eq, not_true_eq_false, Bool.false_eq_true, not_false_eq_true, true_and, and_true, false_and, and_false, if_pos, if_neg, f3, e27]
          · rw [if_neg z, hub, b01_f z]
            have h0 : nI 0 <<< (nI p &&& 31) = nI 0 := by
              apply b_ext
              intro i hi
              rw [b_shl p (by omega) _ hi, bt_nI (by omega) hi, Nat.zero_testBit]
              by_cases y : p ≤ i
              · rw [bt_nI (by omega) (by omega), Nat.zero_testBit, Bool.and_false]
              · rw [decide_eq_false y, Bool.false_and]
            simp (disch := omega) only [↓lm1, ↓lm2, eq_n1, eq_n2, n1_eq, n2_eq, n1_n2, n2_n1, n1_lt, n2_lt, n1_le, lt_n1, lt_n2, inb_t, cl_t, le_tt, le_tf, lt_tt, lt_tf, eq_tt, eq_tf, q_add, q_mul, li0, li1, li2, li3, li4, li5, li6, li7, li8, li12, li16, li24, li48, li500, gF_sA, gA_sF, gF_sF, gR_sA, gR_sF, gL_sA, gL_sF, gA_sA, shl_t, or_t, and_t, sbit_t, ubit_t, b01_0, b01_1, Option.bind_some, ↓reduceIte, eq_self, ne_eq, not_true_eq_false, Bool.false_eq_true, not_false_eq_true, true_and, and_true, false_and, and_false, if_pos, if_neg, f3, e27, h0, Nat.or_zero]
      have hk := key2 pk.length N 0 (by omega) (by omega)
      have hle : (0 : Int32) ≤ nI b := by
        have := (le_tt (a := 0) (b := b) (by omega) (by omega) (by omega))
        exact of_eq_true this
      rw [hvv, e3, c1, Option.bind_some, f8, if_pos hle]
      exact hk
    · have q2 := exS_pop (b := (cSs tk R A).length) (by omega) b3 b4 (by omega) (show b < 2 ^ pk.length by omega)
      have q4 : pop b < most + 1 := g4
      omega
theorem ones_ok {N b : Nat} {w : Mem} (hN : 5000 < N) (hb : b < 8192) : f_X9_ones N w (nI b) = some (nI (pop b)) := by
  have key : ∀ r fuel q, q + r = 13 → r < fuel → lp_X9_ones_4 (fun (u1_1 : Int32) => (f_X9_ones_24 N w u1_1)) N w (nI b) fuel (nI (fb_ct (fun i => b.testBit i) q)) (nI q) = some (nI (pop b)) := by
    intro r
    induction r with
    | zero =>
      intro fuel q hq hf
      obtain ⟨f', rfl⟩ : ∃ f, fuel = f + 1 := ⟨fuel - 1, by omega⟩
      have e : q = 13 := by omega
      subst e
      have hp : pop b = fb_ct (fun i => b.testBit i) 13 := ct_cut (by omega) (fun k hk _ => Nat.testBit_lt_two_pow (Nat.lt_of_lt_of_le hb (p2le (a := 13) hk)))
      rw [lp_X9_ones_4, hp]
      simp (disch := omega) only [↓lm1, ↓lm2, eq_n1, eq_n2, n1_eq, n2_eq, n1_n2, n2_n1, n1_lt, n2_lt, n1_le, lt_n1, lt_n2, inb_t, cl_t, le_tt, le_tf, lt_tt, lt_tf, eq_tt, eq_tf, q_add, q_mul, li0, li1, li2, li3, li4, li5, li6, li7, li8, li12, li16, li24, li48, li500, gF_sA, gA_sF, gF_sF, gR_sA, gR_sF, gL_sA, gL_sF, gA_sA, shl_t, or_t, and_t, sbit_t, ubit_t, b01_0, b01_1, Option.bind_some, ↓reduceIte, eq_self, ne_eq, not_true_eq_false, Bool.false_eq_true, not_false_eq_true, true_and, and_true, false_and, and_false, if_pos, if_neg]
      rfl
    | succ r ih =>
      intro fuel q hq hf
      obtain ⟨f', rfl⟩ : ∃ f, fuel = f + 1 := ⟨fuel - 1, by omega⟩
      have hsb := sbit_ok (b := b) (k := q) (by omega) (by omega)
      have hl := fb_ct_le (fun i => b.testBit i) q
      rw [lp_X9_ones_4, hsb, ← ih f' (q + 1) (by omega) (by omega)]
      by_cases z : b.testBit q = true
      · rw [ct_t (p := fun i => b.testBit i) z, b01_t z]
        simp (disch := omega) only [↓lm1, ↓lm2, eq_n1, eq_n2, n1_eq, n2_eq, n1_n2, n2_n1, n1_lt, n2_lt, n1_le, lt_n1, lt_n2, inb_t, cl_t, le_tt, le_tf, lt_tt, lt_tf, eq_tt, eq_tf, q_add, q_mul, li0, li1, li2, li3, li4, li5, li6, li7, li8, li12, li16, li24, li48, li500, gF_sA, gA_sF, gF_sF, gR_sA, gR_sF, gL_sA, gL_sF, gA_sA, shl_t, or_t, and_t, sbit_t, ubit_t, b01_0, b01_1, Option.bind_some, ↓reduceIte, eq_self, ne_eq, not_true_eq_false, Bool.false_eq_true, not_false_eq_true, true_and, and_true, false_and, and_false, if_pos, if_neg]
      · rw [ct_f (p := fun i => b.testBit i) z, b01_f z]
        simp (disch := omega) only [↓lm1, ↓lm2, eq_n1, eq_n2, n1_eq, n2_eq, n1_n2, n2_n1, n1_lt, n2_lt, n1_le, lt_n1, lt_n2, inb_t, cl_t, le_tt, le_tf, lt_tt, lt_tf, eq_tt, eq_tf, q_add, q_mul, li0, li1, li2, li3, li4, li5, li6, li7, li8, li12, li16, li24, li48, li500, gF_sA, gA_sF, gF_sF, gR_sA, gR_sF, gL_sA, gL_sF, gA_sA, shl_t, or_t, and_t, sbit_t, ubit_t, b01_0, b01_1, Option.bind_some, ↓reduceIte, eq_self, ne_eq, not_true_eq_false, Bool.false_eq_true, not_false_eq_true, true_and, and_true, false_and, and_false, if_pos, if_neg, Nat.add_zero]
  rw [f_X9_ones]
  exact key 13 N 0 (by omega) (by omega)
theorem pop_lt {n b : Nat} (h : b < 2 ^ n) (hn : n ≤ 24) : pop b ≤ n := by
  have e : pop b = fb_ct (fun i => b.testBit i) n := ct_cut hn (fun k hk _ => Nat.testBit_lt_two_pow (Nat.lt_of_lt_of_le h (p2le hk)))
  rw [e]
  exact fb_ct_le _ _
theorem full_p (s : Nat) : full s + 1 = 2 ^ s := by have := Nat.two_pow_pos s; unfold full; omega
theorem op_fewest {N f nf : Nat} {tk : Nat → Nat} {R A : List Row} {NL : List (List Nat)} {tp : List Nat} {wx wm : Mem} (hN : 5000 < N) (h : RelC wx wm f nf tk R A NL tp) (x1 x2 : Int32) : Op (f_X8_fewest N wx x1 x2) (f_X9_fewest N wm x1 x2) := by
  rcases h.why (N := N) x1 x2 with ⟨q, hq, e1, e2⟩ | ⟨t, u, rfl, rfl, ht, hu, hl, e1, e2⟩
  · rw [f_X8_fewest, f_X9_fewest, e1, e2, Option.bind_some, Option.bind_some, refused_n N wm (by omega) (by omega)]
    simp (disch := omega) only [↓lm1, ↓lm2, eq_n1, eq_n2, n1_eq, n2_eq, n1_n2, n2_n1, n1_lt, n2_lt, n1_le, lt_n1, lt_n2, inb_t, cl_t, le_tt, le_tf, lt_tt, lt_tf, eq_tt, eq_tf, q_add, q_mul, li0, li1, li2, li3, li4, li5, li6, li7, li8, li12, li16, li24, li48, li500, gF_sA, gA_sF, gF_sF, gR_sA, gR_sF, gL_sA, gL_sF, gA_sA, shl_t, or_t, and_t, sbit_t, ubit_t, b01_0, b01_1, Option.bind_some, ↓reduceIte, eq_self, ne_eq, not_true_eq_false, Bool.false_eq_true, not_false_eq_true, true_and, and_true, false_and, and_false, if_pos, if_neg, refuse_eq]
    exact op_ans0 h
  · have hCI := h.ci
    have hs12 : (cSs tk R A).length ≤ 12 := hCI.2.2.1.1
    have hM0 := h.2.1.km (mAns_km (cS (run tk c0 (R ++ A))).length wm (nI 0))
    have hfull : By (cT tk R A) (cSs tk R A) (full (cSs tk R A).length) t u := (by_full t u).mpr ((hCI.2.1 t u ht hu).mp hl)
    have hp12 : 2 ^ (cSs tk R A).length ≤ 4096 := p2le (b := 12) hs12
    have hfp := full_p (cSs tk R A).length
    obtain ⟨v, B, a1, a2, a3, b2⟩ : ∃ v B, f_X4_fewestSames N wx f (nI t) (nI u) (nI 12) = some (v, nI B) ∧ KX wx v ∧ (∀ j, gF v 8 j 0 = gF wx 8 j 0) ∧ IsMin (fun B => By (cT tk R A) (cSs tk R A) B t u) (2 ^ (cSs tk R A).length) B := by
      obtain ⟨v, o, a1, a2, a3, a4⟩ := fewX hN h.1 hCI ht hu KX.rf (most := 12) (by decide)
      cases o with
      | none =>
        have h1 := a4 _ (full_lt _) hfull
        have h2 := pop_lt (full_lt (cSs tk R A).length) (by omega)
        omega
      | some B => exact ⟨v, B, a1, a2, a3, a4.1⟩
    have keyM : ∀ r fuel q w, q + r = 2 ^ (cSs tk R A).length → r < fuel → FrK 59 (mAns wm (nI 0)) w → ∃ w', lp_X9_fewest_20 (fun (w_5 : Mem) (u3_5 : Int32) => (f_X9_fewest_66 N w_5 u3_5)) N (nI t) (nI u) fuel w (oN1 (bst (fun B => By (cT tk R A) (cSs tk R A) B t u) q)) (nI q) = some (w', oN1 (bst (fun B => By (cT tk R A) (cSs tk R A) B t u) (2 ^ (cSs tk R A).length))) ∧ FrK 59 (mAns wm (nI 0)) w' := by
      intro r
      induction r with
      | zero =>
        intro fuel q w hq hf hw
        obtain ⟨f', rfl⟩ : ∃ f, fuel = f + 1 := ⟨fuel - 1, by omega⟩
        have hw' := hM0.km (hw.km (by omega) _)
        have m30 : gF w 9 30 0 = nI (cSs tk R A).length := hw'.1.2.1.2.1
        have e : q = 2 ^ (cSs tk R A).length := by omega
        refine ⟨w, ?_, hw⟩
        rw [lp_X9_fewest_20, allM hs12 m30]
        simp (disch := omega) only [↓lm1, ↓lm2, eq_n1, eq_n2, n1_eq, n2_eq, n1_n2, n2_n1, n1_lt, n2_lt, n1_le, lt_n1, lt_n2, inb_t, cl_t, le_tt, le_tf, lt_tt, lt_tf, eq_tt, eq_tf, q_add, q_mul, li0, li1, li2, li3, li4, li5, li6, li7, li8, li12, li16, li24, li48, li500, gF_sA, gA_sF, gF_sF, gR_sA, gR_sF, gL_sA, gL_sF, gA_sA, shl_t, or_t, and_t, sbit_t, ubit_t, b01_0, b01_1, Option.bind_some, ↓reduceIte, eq_self, ne_eq, not_true_eq_false, Bool.false_eq_true, not_false_eq_true, true_and, and_true, false_and, and_false, if_pos, if_neg, f_X9_fewest_66]
        rw [e]
      | succ r ih =>
        intro fuel q w hq hf hw
        obtain ⟨f', rfl⟩ : ∃ f, fuel = f + 1 := ⟨fuel - 1, by omega⟩
        have hw' := hM0.km (hw.km (by omega) _)
        have m30 : gF w 9 30 0 = nI (cSs tk R A).length := hw'.1.2.1.2.1
        obtain ⟨w1, c1, c2⟩ := hw'.isOneBy (b := q) (N := N) (by omega) (by omega) ht hu
        cases hbq : bst (fun B => By (cT tk R A) (cSs tk R A) B t u) q with
        | none =>
          have hn : oN1 none = n1 := rfl
          by_cases z : By (cT tk R A) (cSs tk R A) q t u
          · rw [b01_t z] at c1
            obtain ⟨w2, d1, d2⟩ := ih f' (q + 1) w1 (by omega) (by omega) (hw.tr c2)
            rw [bst_n (P := fun B => By (cT tk R A) (cSs tk R A) B t u) hbq z] at d1
            have hs : oN1 (some q) = nI q := rfl
            rw [hs] at d1
            refine ⟨w2, ?_, d2⟩
            rw [lp_X9_fewest_20, allM hs12 m30, ← d1, hn]
            simp (disch := omega) only [↓lm1, ↓lm2, eq_n1, eq_n2, n1_eq, n2_eq, n1_n2, n2_n1, n1_lt, n2_lt, n1_le, lt_n1, lt_n2, inb_t, cl_t, le_tt, le_tf, lt_tt, lt_tf, eq_tt, eq_tf, q_add, q_mul, li0, li1, li2, li3, li4, li5, li6, li7, li8, li12, li16, li24, li48, li500, gF_sA, gA_sF, gF_sF, gR_sA, gR_sF, gL_sA, gL_sF, gA_sA, shl_t, or_t, and_t, sbit_t, ubit_t, b01_0, b01_1, Option.bind_some, ↓reduceIte, eq_self, ne_eq, not_true_eq_false, Bool.false_eq_true, not_false_eq_true, true_and, and_true, false_and, and_false, if_pos, if_neg, c1]
          · rw [b01_f z] at c1
            obtain ⟨w2, d1, d2⟩ := ih f' (q + 1) w1 (by omega) (by omega) (hw.tr c2)
            rw [bst_nn (P := fun B => By (cT tk R A) (cSs tk R A) B t u) hbq z] at d1
            refine ⟨w2, ?_, d2⟩
            rw [lp_X9_fewest_20, allM hs12 m30, ← d1, hn]
            simp (disch := omega) only [↓lm1, ↓lm2, eq_n1, eq_n2, n1_eq, n2_eq, n1_n2, n2_n1, n1_lt, n2_lt, n1_le, lt_n1, lt_n2, inb_t, cl_t, le_tt, le_tf, lt_tt, lt_tf, eq_tt, eq_tf, q_add, q_mul, li0, li1, li2, li3, li4, li5, li6, li7, li8, li12, li16, li24, li48, li500, gF_sA, gA_sF, gF_sF, gR_sA, gR_sF, gL_sA, gL_sF, gA_sA, shl_t, or_t, and_t, sbit_t, ubit_t, b01_0, b01_1, Option.bind_some, ↓reduceIte, eq_self, ne_eq, not_true_eq_false, Bool.false_eq_true, not_false_eq_true, true_and, and_true, false_and, and_false, if_pos, if_neg, c1]
        | some b =>
          have hbl := bst_lt hbq
          have hs : oN1 (some b) = nI b := rfl
          have p1 := ones_ok (N := N) (w := w) (b := q) hN (by omega)
          have p2 := ones_ok (N := N) (w := w) (b := b) hN (by omega)
          have q1 := pop_le q
          have q2 := pop_le b
          by_cases y : pop q < pop b
          · by_cases z : By (cT tk R A) (cSs tk R A) q t u
            · rw [b01_t z] at c1
              obtain ⟨w2, d1, d2⟩ := ih f' (q + 1) w1 (by omega) (by omega) (hw.tr c2)
              rw [bst_s (P := fun B => By (cT tk R A) (cSs tk R A) B t u) hbq ⟨y, z⟩] at d1
              have hs2 : oN1 (some q) = nI q := rfl
              rw [hs2] at d1
              refine ⟨w2, ?_, d2⟩
              rw [lp_X9_fewest_20, allM hs12 m30, ← d1, hs]
              simp (disch := omega) only [↓lm1, ↓lm2, eq_n1, eq_n2, n1_eq, n2_eq, n1_n2, n2_n1, n1_lt, n2_lt, n1_le, lt_n1, lt_n2, inb_t, cl_t, le_tt, le_tf, lt_tt, lt_tf, eq_tt, eq_tf, q_add, q_mul, li0, li1, li2, li3, li4, li5, li6, li7, li8, li12, li16, li24, li48, li500, gF_sA, gA_sF, gF_sF, gR_sA, gR_sF, gL_sA, gL_sF, gA_sA, shl_t, or_t, and_t, sbit_t, ubit_t, b01_0, b01_1, Option.bind_some, ↓reduceIte, eq_self, ne_eq, not_true_eq_false, Bool.false_eq_true, not_false_eq_true, true_and, and_true, false_and, and_false, if_pos, if_neg, p1, p2, c1]
            · rw [b01_f z] at c1
              obtain ⟨w2, d1, d2⟩ := ih f' (q + 1) w1 (by omega) (by omega) (hw.tr c2)
              rw [bst_sn (P := fun B => By (cT tk R A) (cSs tk R A) B t u) hbq (fun x => z x.2), hs] at d1
              refine ⟨w2, ?_, d2⟩
              rw [lp_X9_fewest_20, allM hs12 m30, ← d1, hs]
              simp (disch := omega) only [↓lm1, ↓lm2, eq_n1, eq_n2, n1_eq, n2_eq, n1_n2, n2_n1, n1_lt, n2_lt, n1_le, lt_n1, lt_n2, inb_t, cl_t, le_tt, le_tf, lt_tt, lt_tf, eq_tt, eq_tf, q_add, q_mul, li0, li1, li2, li3, li4, li5, li6, li7, li8, li12, li16, li24, li48, li500, gF_sA, gA_sF, gF_sF, gR_sA, gR_sF, gL_sA, gL_sF, gA_sA, shl_t, or_t, and_t, sbit_t, ubit_t, b01_0, b01_1, Option.bind_some, ↓reduceIte, eq_self, ne_eq, not_true_eq_false, Bool.false_eq_true, not_false_eq_true, true_and, and_true, false_and, and_false, if_pos, if_neg, p1, p2, c1]
          · obtain ⟨w2, d1, d2⟩ := ih f' (q + 1) w (by omega) (by omega) hw
            rw [bst_sn (P := fun B => By (cT tk R A) (cSs tk R A) B t u) hbq (fun x => y x.1), hs] at d1
            refine ⟨w2, ?_, d2⟩
            rw [lp_X9_fewest_20, allM hs12 m30, ← d1, hs]
            simp (disch := omega) only [↓lm1, ↓lm2, eq_n1, eq_n2, n1_eq, n2_eq, n1_n2, n2_n1, n1_lt, n2_lt, n1_le, lt_n1, lt_n2, inb_t, cl_t, le_tt, le_tf, lt_tt, lt_tf, eq_tt, eq_tf, q_add, q_mul, li0, li1, li2, li3, li4, li5, li6, li7, li8, li12, li16, li24, li48, li500, gF_sA, gA_sF, gF_sF, gR_sA, gR_sF, gL_sA, gL_sF, gA_sA, shl_t, or_t, and_t, sbit_t, ubit_t, b01_0, b01_1, Option.bind_some, ↓reduceIte, eq_self, ne_eq, not_true_eq_false, Bool.false_eq_true, not_false_eq_true, true_and, and_true, false_and, and_false, if_pos, if_neg, p1, p2]
    obtain ⟨u', m1, m2⟩ := keyM (2 ^ (cSs tk R A).length) N 0 (mAns wm (nI 0)) (by omega) (by omega) Fr.rf
    have hsp := bst_spec (fun B => By (cT tk R A) (cSs tk R A) B t u) (2 ^ (cSs tk R A).length)
    have hB : bst (fun B => By (cT tk R A) (cSs tk R A) B t u) (2 ^ (cSs tk R A).length) = some B := by
      cases hbb : bst (fun B => By (cT tk R A) (cSs tk R A) B t u) (2 ^ (cSs tk R A).length) with
      | none => rw [hbb] at hsp; exact absurd hfull (hsp _ (full_lt _))
      | some b => rw [hbb] at hsp; rw [hsp.uniq b2]
    rw [hB] at m1
    have h5 := h.1.1.2.1
    have hf := h.1.1.1
    have m1' : lp_X9_fewest_20 (fun (w_5 : Mem) (u3_5 : Int32) => (f_X9_fewest_66 N w_5 u3_5)) N (nI t) (nI u) N (mAns wm (nI 0)) n1 (nI 0) = some (u', nI B) := m1
    rw [f_X8_fewest, f_X9_fewest, e1, e2]
    simp (disch := omega) only [↓lm1, ↓lm2, eq_n1, eq_n2, n1_eq, n2_eq, n1_n2, n2_n1, n1_lt, n2_lt, n1_le, lt_n1, lt_n2, inb_t, cl_t, le_tt, le_tf, lt_tt, lt_tf, eq_tt, eq_tf, q_add, q_mul, li0, li1, li2, li3, li4, li5, li6, li7, li8, li12, li16, li24, li48, li500, gF_sA, gA_sF, gF_sF, gR_sA, gR_sF, gL_sA, gL_sF, gA_sA, shl_t, or_t, and_t, sbit_t, ubit_t, b01_0, b01_1, Option.bind_some, ↓reduceIte, eq_self, ne_eq, not_true_eq_false, Bool.false_eq_true, not_false_eq_true, true_and, and_true, false_and, and_false, if_pos, if_neg, h5, a1, answer_eq, refused_0]
    rw [m1']
    exact op_ans h a2 (m2.km (by omega) _) (FrK.ans m2).1 (FrK.ans m2).2 rfl
