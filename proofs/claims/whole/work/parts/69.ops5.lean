/-! fewest, many, core -/
theorem holdP {w : Mem} {T : Trm} {S : Prs} {pk : List Nat} {t u : Nat} (h : Wd w T S pk t u) (hs12 : S.length ≤ 12) {b : Nat} (hb : IsMin (fun s => hb w s = true) (2 ^ pk.length) b) : IsMin (fun B => By T S B t u) (2 ^ S.length) (exS pk b) := by
  obtain ⟨h1, h2, h3, h4, h5, h6, h7⟩ := h
  obtain ⟨b1, b2, b3⟩ := hb
  refine ⟨ex_lt pk.length (fun k p _ hp => h3 k p hp), (h6 b b1).mp b2, fun B hB hP => ?_⟩
  obtain ⟨s, s1, s2, s3⟩ := h7 B hP
  have hBlt : B < 16777216 := Nat.lt_of_lt_of_le hB (p2le (b := 24) (by omega))
  have hslt : exS pk s < 16777216 := Nat.lt_of_lt_of_le (ex_lt (b := S.length) pk.length (fun k p _ hp => h3 k p hp)) (p2le (b := 24) (by omega))
  have e1 := exS_pop (b := S.length) (by omega) h3 h4 (by omega) b1
  have e2 := exS_pop (b := S.length) (by omega) h3 h4 (by omega) s1
  have hmin := b3 s s1 ((h6 s s1).mpr s2)
  by_cases z : B = exS pk s
  · rw [z, e1, e2]
    rcases hmin with q | ⟨q1, q2⟩
    · exact Or.inl q
    · refine Or.inr ⟨q1, ?_⟩
      rcases Nat.lt_or_ge b s with y | y
      · exact Nat.le_of_lt (exS_strict h4 y s1)
      · have : b = s := by omega
        rw [this]; exact Nat.le_refl _
  · have := pop_strict hslt hBlt s3 z
    refine Or.inl ?_
    rw [e1]
    omega
def oN1 (o : Option Nat) : Int32 := match o with | some b => nI b | none => n1
theorem fewX {N : Nat} {w : Mem} {T : Trm} {S : Prs} {pk : List Nat} {t u : Nat} (hN : 5000 < N) (h : Wd w T S pk t u) (hs12 : S.length ≤ 12) (hf : By T S (full S.length) t u) : ∃ B, f_X4_fewestSames N w = some (nI B) ∧ IsMin (fun B => By T S B t u) (2 ^ S.length) B := by
  obtain ⟨h1, h2, h3, h4, h5, h6, h7⟩ := id h
  have hm : 2 ^ pk.length ≤ 4096 := p2le (b := 12) h5
  have key : ∀ r fuel q, q + r = 2 ^ pk.length → r < fuel → lp_X4_fewestSames_4 (fun (u1_1 : Int32) => (f_X4_fewestSames_42 N w u1_1)) N w fuel (oN1 (bst (fun s => hb w s = true) q)) (nI q) = f_X4_fewestSames_42 N w (oN1 (bst (fun s => hb w s = true) (2 ^ pk.length))) := by
    intro r
    induction r with
    | zero =>
      intro fuel q hq hf'
      obtain ⟨f', rfl⟩ : ∃ f, fuel = f + 1 := ⟨fuel - 1, by omega⟩
      have e : q = 2 ^ pk.length := by omega
      subst e
      rw [lp_X4_fewestSames_4]
      simp (disch := omega) only [↓lm1, ↓lm2, eq_n1, eq_n2, n1_eq, n2_eq, n1_n2, n2_n1, n1_lt, n2_lt, n1_le, lt_n1, lt_n2, inb_t, cl_t, le_tt, le_tf, lt_tt, lt_tf, eq_tt, eq_tf, q_add, q_mul, li0, li1, li2, li3, li4, li5, li6, li7, li8, li12, li16, li24, li48, li500, gF_sA, gA_sF, gF_sF, gR_sA, gR_sF, gL_sA, gL_sF, gA_sA, shl_t, or_t, and_t, sbit_t, ubit_t, b01_0, b01_1, Option.bind_some, ↓reduceIte, eq_self, ne_eq, not_true_eq_false, Bool.false_eq_true, not_false_eq_true, true_and, and_true, false_and, and_false, if_pos, if_neg, h1]
    | succ r ih =>
      intro fuel q hq hf'
      obtain ⟨f', rfl⟩ : ∃ f, fuel = f + 1 := ⟨fuel - 1, by omega⟩
      have hh := holds_ok (N := N) (s := q) (w := w) (by omega)
      rw [lp_X4_fewestSames_4, ← ih f' (q + 1) (by omega) (by omega)]
      by_cases z : hb w q = true
      · rw [b01_t z] at hh
        cases hbq : bst (fun s => hb w s = true) q with
        | none =>
          rw [bst_n (P := fun s => hb w s = true) hbq z]
          show (if _ then _ else Option.bind _ (fun z6 => _)) = lp_X4_fewestSames_4 _ N w f' (nI q) (nI (q + 1))
          have hn : oN1 none = n1 := rfl
          rw [hn]
          simp (disch := omega) only [↓lm1, ↓lm2, eq_n1, eq_n2, n1_eq, n2_eq, n1_n2, n2_n1, n1_lt, n2_lt, n1_le, lt_n1, lt_n2, inb_t, cl_t, le_tt, le_tf, lt_tt, lt_tf, eq_tt, eq_tf, q_add, q_mul, li0, li1, li2, li3, li4, li5, li6, li7, li8, li12, li16, li24, li48, li500, gF_sA, gA_sF, gF_sF, gR_sA, gR_sF, gL_sA, gL_sF, gA_sA, shl_t, or_t, and_t, sbit_t, ubit_t, b01_0, b01_1, Option.bind_some, ↓reduceIte, eq_self, ne_eq, not_true_eq_false, Bool.false_eq_true, not_false_eq_true, true_and, and_true, false_and, and_false, if_pos, if_neg, h1, hh, lt0_n1]
        | some b =>
          have hbl := bst_lt hbq
          have p1 := bitCount_ok (N := N) (w := w) (b := q) (by omega)
          have p2 := bitCount_ok (N := N) (w := w) (b := b) (by omega)
          have q1 := pop_le q
          have q2 := pop_le b
          have hs : oN1 (some b) = nI b := rfl
          by_cases y : pop q < pop b
          · rw [bst_s (P := fun s => hb w s = true) hbq ⟨y, z⟩]
            have hs2 : oN1 (some q) = nI q := rfl
            rw [hs, hs2]
            simp (disch := omega) only [↓lm1, ↓lm2, eq_n1, eq_n2, n1_eq, n2_eq, n1_n2, n2_n1, n1_lt, n2_lt, n1_le, lt_n1, lt_n2, inb_t, cl_t, le_tt, le_tf, lt_tt, lt_tf, eq_tt, eq_tf, q_add, q_mul, li0, li1, li2, li3, li4, li5, li6, li7, li8, li12, li16, li24, li48, li500, gF_sA, gA_sF, gF_sF, gR_sA, gR_sF, gL_sA, gL_sF, gA_sA, shl_t, or_t, and_t, sbit_t, ubit_t, b01_0, b01_1, Option.bind_some, ↓reduceIte, eq_self, ne_eq, not_true_eq_false, Bool.false_eq_true, not_false_eq_true, true_and, and_true, false_and, and_false, if_pos, if_neg, h1, hh, f_X4_ahead, p1, p2]
          · rw [bst_sn (P := fun s => hb w s = true) hbq (fun x => y x.1), hs]
            by_cases x : pop q = pop b
            · simp (disch := omega) only [↓lm1, ↓lm2, eq_n1, eq_n2, n1_eq, n2_eq, n1_n2, n2_n1, n1_lt, n2_lt, n1_le, lt_n1, lt_n2, inb_t, cl_t, le_tt, le_tf, lt_tt, lt_tf, eq_tt, eq_tf, q_add, q_mul, li0, li1, li2, li3, li4, li5, li6, li7, li8, li12, li16, li24, li48, li500, gF_sA, gA_sF, gF_sF, gR_sA, gR_sF, gL_sA, gL_sF, gA_sA, shl_t, or_t, and_t, sbit_t, ubit_t, b01_0, b01_1, Option.bind_some, ↓reduceIte, eq_self, ne_eq, not_true_eq_false, Bool.false_eq_true, not_false_eq_true, true_and, and_true, false_and, and_false, if_pos, if_neg, h1, hh, f_X4_ahead, p1, p2]
            · simp (disch := omega) only [↓lm1, ↓lm2, eq_n1, eq_n2, n1_eq, n2_eq, n1_n2, n2_n1, n1_lt, n2_lt, n1_le, lt_n1, lt_n2, inb_t, cl_t, le_tt, le_tf, lt_tt, lt_tf, eq_tt, eq_tf, q_add, q_mul, li0, li1, li2, li3, li4, li5, li6, li7, li8, li12, li16, li24, li48, li500, gF_sA, gA_sF, gF_sF, gR_sA, gR_sF, gL_sA, gL_sF, gA_sA, shl_t, or_t, and_t, sbit_t, ubit_t, b01_0, b01_1, Option.bind_some, ↓reduceIte, eq_self, ne_eq, not_true_eq_false, Bool.false_eq_true, not_false_eq_true, true_and, and_true, false_and, and_false, if_pos, if_neg, h1, hh, f_X4_ahead, p1, p2]
      · rw [b01_f z] at hh
        have e : bst (fun s => hb w s = true) (q + 1) = bst (fun s => hb w s = true) q := by
          cases hbq : bst (fun s => hb w s = true) q with
          | none => exact bst_nn hbq z
          | some b => exact bst_sn hbq (fun x => z x.2)
        rw [e]
        simp (disch := omega) only [↓lm1, ↓lm2, eq_n1, eq_n2, n1_eq, n2_eq, n1_n2, n2_n1, n1_lt, n2_lt, n1_le, lt_n1, lt_n2, inb_t, cl_t, le_tt, le_tf, lt_tt, lt_tf, eq_tt, eq_tf, q_add, q_mul, li0, li1, li2, li3, li4, li5, li6, li7, li8, li12, li16, li24, li48, li500, gF_sA, gA_sF, gF_sF, gR_sA, gR_sF, gL_sA, gL_sF, gA_sA, shl_t, or_t, and_t, sbit_t, ubit_t, b01_0, b01_1, Option.bind_some, ↓reduceIte, eq_self, ne_eq, not_true_eq_false, Bool.false_eq_true, not_false_eq_true, true_and, and_true, false_and, and_false, if_pos, if_neg, h1, hh]
  have hk := key (2 ^ pk.length) N 0 (by omega) (by omega)
  have hsp := bst_spec (fun s => hb w s = true) (2 ^ pk.length)
  cases hbb : bst (fun s => hb w s = true) (2 ^ pk.length) with
  | none =>
    rw [hbb] at hsp
    obtain ⟨s, s1, s2, s3⟩ := h7 _ hf
    exact absurd ((h6 s s1).mpr s2) (hsp s s1)
  | some b =>
    rw [hbb] at hsp hk
    have hbl := bst_lt hbb
    refine ⟨exS pk b, ?_, holdP h hs12 hsp⟩
    have key2 : ∀ r fuel q, q + r = pk.length → r < fuel → lp_X4_fewestSames_46 (fun (u2_2 : Int32) => (f_X4_fewestSames_79 N w u2_2)) N w (nI b) fuel (nI (ex pk b q)) (nI q) = some (nI (exS pk b)) := by
      intro r
      induction r with
      | zero =>
        intro fuel q hq hf'
        obtain ⟨f', rfl⟩ : ∃ f, fuel = f + 1 := ⟨fuel - 1, by omega⟩
        have e : q = pk.length := by omega
        subst e
        rw [lp_X4_fewestSames_46]
        simp (disch := omega) only [↓lm1, ↓lm2, eq_n1, eq_n2, n1_eq, n2_eq, n1_n2, n2_n1, n1_lt, n2_lt, n1_le, lt_n1, lt_n2, inb_t, cl_t, le_tt, le_tf, lt_tt, lt_tf, eq_tt, eq_tf, q_add, q_mul, li0, li1, li2, li3, li4, li5, li6, li7, li8, li12, li16, li24, li48, li500, gF_sA, gA_sF, gF_sF, gR_sA, gR_sF, gL_sA, gL_sF, gA_sA, shl_t, or_t, and_t, sbit_t, ubit_t, b01_0, b01_1, Option.bind_some, ↓reduceIte, eq_self, ne_eq, not_true_eq_false, Bool.false_eq_true, not_false_eq_true, true_and, and_true, false_and, and_false, if_pos, if_neg, h1]
        rfl
      | succ r ih =>
        intro fuel q hq hf'
        obtain ⟨f', rfl⟩ : ∃ f, fuel = f + 1 := ⟨fuel - 1, by omega⟩
        obtain ⟨p, hp⟩ := get_at pk (q := q) (by omega)
        have e27 := h2 q p hp
        have hps := h3 q p hp
        have hi := ih f' (q + 1) (by omega) (by omega)
        rw [ex, hp] at hi
        rw [lp_X4_fewestSames_46, ← hi]
        show _ = lp_X4_fewestSames_46 _ N w (nI b) f' (nI (if b.testBit q = true then ex pk b q ||| 2 ^ p else ex pk b q)) (nI (q + 1))
        have hub := ubit_ok (b := b) (k := q) (by omega) (by omega)
        by_cases z : b.testBit q = true
        · rw [if_pos z, hub, b01_t z]
          simp (disch := omega) only [↓lm1, ↓lm2, eq_n1, eq_n2, n1_eq, n2_eq, n1_n2, n2_n1, n1_lt, n2_lt, n1_le, lt_n1, lt_n2, inb_t, cl_t, le_tt, le_tf, lt_tt, lt_tf, eq_tt, eq_tf, q_add, q_mul, li0, li1, li2, li3, li4, li5, li6, li7, li8, li12, li16, li24, li48, li500, gF_sA, gA_sF, gF_sF, gR_sA, gR_sF, gL_sA, gL_sF, gA_sA, shl_t, or_t, and_t, sbit_t, ubit_t, b01_0, b01_1, Option.bind_some, ↓reduceIte, eq_self, ne_eq, not_true_eq_false, Bool.false_eq_true, not_false_eq_true, true_and, and_true, false_and, and_false, if_pos, if_neg, h1, e27]
        · rw [if_neg z, hub, b01_f z]
          have h0 : nI 0 <<< (nI p &&& 31) = nI 0 := by
            apply b_ext
            intro i hi
            rw [b_shl p (by omega) _ hi, bt_nI (by omega) hi, Nat.zero_testBit]
            by_cases y : p ≤ i
            · rw [bt_nI (by omega) (by omega), Nat.zero_testBit, Bool.and_false]
            · rw [decide_eq_false y, Bool.false_and]
          simp (disch := omega) only [↓lm1, ↓lm2, eq_n1, eq_n2, n1_eq, n2_eq, n1_n2, n2_n1, n1_lt, n2_lt, n1_le, lt_n1, lt_n2, inb_t, cl_t, le_tt, le_tf, lt_tt, lt_tf, eq_tt, eq_tf, q_add, q_mul, li0, li1, li2, li3, li4, li5, li6, li7, li8, li12, li16, li24, li48, li500, gF_sA, gA_sF, gF_sF, gR_sA, gR_sF, gL_sA, gL_sF, gA_sA, shl_t, or_t, and_t, sbit_t, ubit_t, b01_0, b01_1, Option.bind_some, ↓reduceIte, eq_self, ne_eq, not_true_eq_false, Bool.false_eq_true, not_false_eq_true, true_and, and_true, false_and, and_false, if_pos, if_neg, h1, e27, h0, Nat.or_zero]
    rw [f_X4_fewestSames]
    refine hk.trans ?_
    show f_X4_fewestSames_42 N w (nI b) = _
    rw [f_X4_fewestSames_42]
    exact key2 pk.length N 0 (by omega) (by omega)
theorem ones_ok {N b : Nat} {w : Mem} (hN : 5000 < N) (hb : b < 8192) : f_X9_ones N w (nI b) = some (nI (pop b)) := by
  have key : ∀ r fuel q, q + r = 13 → r < fuel → lp_X9_ones_4 (fun (u1_1 : Int32) => (f_X9_ones_24 N w u1_1)) N w (nI b) fuel (nI (fb_ct (fun i => b.testBit i) q)) (nI q) = some (nI (pop b)) := by
    intro r
    induction r with
    | zero =>
      intro fuel q hq hf
      obtain ⟨f', rfl⟩ : ∃ f, fuel = f + 1 := ⟨fuel - 1, by omega⟩
      have e : q = 13 := by omega
      subst e
      have hp : pop b = fb_ct (fun i => b.testBit i) 13 := ct_cut (by omega) (fun k hk _ => Nat.testBit_lt_two_pow (Nat.lt_of_lt_of_le hb (p2le (a := 13) hk)))
      rw [lp_X9_ones_4, hp]
      simp (disch := omega) only [↓lm1, ↓lm2, eq_n1, eq_n2, n1_eq, n2_eq, n1_n2, n2_n1, n1_lt, n2_lt, n1_le, lt_n1, lt_n2, inb_t, cl_t, le_tt, le_tf, lt_tt, lt_tf, eq_tt, eq_tf, q_add, q_mul, li0, li1, li2, li3, li4, li5, li6, li7, li8, li12, li16, li24, li48, li500, gF_sA, gA_sF, gF_sF, gR_sA, gR_sF, gL_sA, gL_sF, gA_sA, shl_t, or_t, and_t, sbit_t, ubit_t, b01_0, b01_1, Option.bind_some, ↓reduceIte, eq_self, ne_eq, not_true_eq_false, Bool.false_eq_true, not_false_eq_true, true_and, and_true, false_and, and_false, if_pos, if_neg]
      rfl
    | succ r ih =>
      intro fuel q hq hf
      obtain ⟨f', rfl⟩ : ∃ f, fuel = f + 1 := ⟨fuel - 1, by omega⟩
      have hsb := sbit_ok (b := b) (k := q) (by omega) (by omega)
      have hl := fb_ct_le (fun i => b.testBit i) q
      rw [lp_X9_ones_4, hsb, ← ih f' (q + 1) (by omega) (by omega)]
      by_cases z : b.testBit q = true
      · rw [ct_t (p := fun i => b.testBit i) z, b01_t z]
        simp (disch := omega) only [↓lm1, ↓lm2, eq_n1, eq_n2, n1_eq, n2_eq, n1_n2, n2_n1, n1_lt, n2_lt, n1_le, lt_n1, lt_n2, inb_t, cl_t, le_tt, le_tf, lt_tt, lt_tf, eq_tt, eq_tf, q_add, q_mul, li0, li1, li2, li3, li4, li5, li6, li7, li8, li12, li16, li24, li48, li500, gF_sA, gA_sF, gF_sF, gR_sA, gR_sF, gL_sA, gL_sF, gA_sA, shl_t, or_t, and_t, sbit_t, ubit_t, b01_0, b01_1, Option.bind_some, ↓reduceIte, eq_self, ne_eq, not_true_eq_false, Bool.false_eq_true, not_false_eq_true, true_and, and_true, false_and, and_false, if_pos, if_neg]
      · rw [ct_f (p := fun i => b.testBit i) z, b01_f z]
        simp (disch := omega) only [↓lm1, ↓lm2, eq_n1, eq_n2, n1_eq, n2_eq, n1_n2, n2_n1, n1_lt, n2_lt, n1_le, lt_n1, lt_n2, inb_t, cl_t, le_tt, le_tf, lt_tt, lt_tf, eq_tt, eq_tf, q_add, q_mul, li0, li1, li2, li3, li4, li5, li6, li7, li8, li12, li16, li24, li48, li500, gF_sA, gA_sF, gF_sF, gR_sA, gR_sF, gL_sA, gL_sF, gA_sA, shl_t, or_t, and_t, sbit_t, ubit_t, b01_0, b01_1, Option.bind_some, ↓reduceIte, eq_self, ne_eq, not_true_eq_false, Bool.false_eq_true, not_false_eq_true, true_and, and_true, false_and, and_false, if_pos, if_neg, Nat.add_zero]
  rw [f_X9_ones]
  exact key 13 N 0 (by omega) (by omega)
theorem full_p (s : Nat) : full s + 1 = 2 ^ s := by have := Nat.two_pow_pos s; unfold full; omega
theorem op_fewest {N f nf : Nat} {tk : Nat → Nat} {R A : List Row} {NL : List (List Nat)} {tp : List Nat} {wx wm : Mem} (hN : 5000 < N) (h : RelC wx wm f nf tk R A NL tp) (x1 x2 : Int32) : Op (f_X8_fewest N wx x1 x2) (f_X9_fewest N wm x1 x2) := by
  rcases h.why (N := N) x1 x2 with ⟨q, hq, e1, e2⟩ | ⟨t, u, rfl, rfl, ht, hu, hl, e1, e2⟩
  · rw [f_X8_fewest, f_X9_fewest, e1, e2, Option.bind_some, Option.bind_some, refused_n N wm (by omega) (by omega)]
    simp (disch := omega) only [↓lm1, ↓lm2, eq_n1, eq_n2, n1_eq, n2_eq, n1_n2, n2_n1, n1_lt, n2_lt, n1_le, lt_n1, lt_n2, inb_t, cl_t, le_tt, le_tf, lt_tt, lt_tf, eq_tt, eq_tf, q_add, q_mul, li0, li1, li2, li3, li4, li5, li6, li7, li8, li12, li16, li24, li48, li500, gF_sA, gA_sF, gF_sF, gR_sA, gR_sF, gL_sA, gL_sF, gA_sA, shl_t, or_t, and_t, sbit_t, ubit_t, b01_0, b01_1, Option.bind_some, ↓reduceIte, eq_self, ne_eq, not_true_eq_false, Bool.false_eq_true, not_false_eq_true, true_and, and_true, false_and, and_false, if_pos, if_neg, refuse_eq]
    exact op_ans0 h
  · have hCI := h.ci
    have hs12 : (cSs tk R A).length ≤ 12 := hCI.2.2.1.1
    have hM0 := h.2.1.km (mAns_km (cS (run tk c0 (R ++ A))).length wm (nI 0))
    have hfull : By (cT tk R A) (cSs tk R A) (full (cSs tk R A).length) t u := (by_full t u).mpr ((hCI.2.1 t u ht hu).mp hl)
    have hp12 : 2 ^ (cSs tk R A).length ≤ 4096 := p2le (b := 12) hs12
    have hfp := full_p (cSs tk R A).length
    obtain ⟨v, pk, a1, a2, a3, a4⟩ := weigh_ok hN h.1 hCI ht hu KX.rf
    obtain ⟨B, b1, b2⟩ := fewX hN a4 hs12 hfull
    have keyM : ∀ r fuel q w, q + r = 2 ^ (cSs tk R A).length → r < fuel → FrK 59 (mAns wm (nI 0)) w → ∃ w', lp_X9_fewest_20 (fun (w_5 : Mem) (u3_5 : Int32) => (f_X9_fewest_66 N w_5 u3_5)) N (nI t) (nI u) fuel w (oN1 (bst (fun B => By (cT tk R A) (cSs tk R A) B t u) q)) (nI q) = some (w', oN1 (bst (fun B => By (cT tk R A) (cSs tk R A) B t u) (2 ^ (cSs tk R A).length))) ∧ FrK 59 (mAns wm (nI 0)) w' := by
      intro r
      induction r with
      | zero =>
        intro fuel q w hq hf hw
        obtain ⟨f', rfl⟩ : ∃ f, fuel = f + 1 := ⟨fuel - 1, by omega⟩
        have hw' := hM0.km (hw.km (by omega) _)
        have m30 : gF w 9 30 0 = nI (cSs tk R A).length := hw'.1.2.1.2.1
        have e : q = 2 ^ (cSs tk R A).length := by omega
        refine ⟨w, ?_, hw⟩
        rw [lp_X9_fewest_20, allM hs12 m30]
        simp (disch := omega) only [↓lm1, ↓lm2, eq_n1, eq_n2, n1_eq, n2_eq, n1_n2, n2_n1, n1_lt, n2_lt, n1_le, lt_n1, lt_n2, inb_t, cl_t, le_tt, le_tf, lt_tt, lt_tf, eq_tt, eq_tf, q_add, q_mul, li0, li1, li2, li3, li4, li5, li6, li7, li8, li12, li16, li24, li48, li500, gF_sA, gA_sF, gF_sF, gR_sA, gR_sF, gL_sA, gL_sF, gA_sA, shl_t, or_t, and_t, sbit_t, ubit_t, b01_0, b01_1, Option.bind_some, ↓reduceIte, eq_self, ne_eq, not_true_eq_false, Bool.false_eq_true, not_false_eq_true, true_and, and_true, false_and, and_false, if_pos, if_neg, f_X9_fewest_66]
        rw [e]
      | succ r ih =>
        intro fuel q w hq hf hw
        obtain ⟨f', rfl⟩ : ∃ f, fuel = f + 1 := ⟨fuel - 1, by omega⟩
        have hw' := hM0.km (hw.km (by omega) _)
        have m30 : gF w 9 30 0 = nI (cSs tk R A).length := hw'.1.2.1.2.1
        obtain ⟨w1, c1, c2⟩ := hw'.isOneBy (b := q) (N := N) (by omega) (by omega) ht hu
        cases hbq : bst (fun B => By (cT tk R A) (cSs tk R A) B t u) q with
        | none =>
          have hn : oN1 none = n1 := rfl
          by_cases z : By (cT tk R A) (cSs tk R A) q t u
          · rw [b01_t z] at c1
            obtain ⟨w2, d1, d2⟩ := ih f' (q + 1) w1 (by omega) (by omega) (hw.tr c2)
            rw [bst_n (P := fun B => By (cT tk R A) (cSs tk R A) B t u) hbq z] at d1
            have hs : oN1 (some q) = nI q := rfl
            rw [hs] at d1
            refine ⟨w2, ?_, d2⟩
            rw [lp_X9_fewest_20, allM hs12 m30, ← d1, hn]
            simp (disch := omega) only [↓lm1, ↓lm2, eq_n1, eq_n2, n1_eq, n2_eq, n1_n2, n2_n1, n1_lt, n2_lt, n1_le, lt_n1, lt_n2, inb_t, cl_t, le_tt, le_tf, lt_tt, lt_tf, eq_tt, eq_tf, q_add, q_mul, li0, li1, li2, li3, li4, li5, li6, li7, li8, li12, li16, li24, li48, li500, gF_sA, gA_sF, gF_sF, gR_sA, gR_sF, gL_sA, gL_sF, gA_sA, shl_t, or_t, and_t, sbit_t, ubit_t, b01_0, b01_1, Option.bind_some, ↓reduceIte, eq_self, ne_eq, not_true_eq_false, Bool.false_eq_true, not_false_eq_true, true_and, and_true, false_and, and_false, if_pos, if_neg, c1]
          · rw [b01_f z] at c1
            obtain ⟨w2, d1, d2⟩ := ih f' (q + 1) w1 (by omega) (by omega) (hw.tr c2)
            rw [bst_nn (P := fun B => By (cT tk R A) (cSs tk R A) B t u) hbq z] at d1
            refine ⟨w2, ?_, d2⟩
            rw [lp_X9_fewest_20, allM hs12 m30, ← d1, hn]
            simp (disch := omega) only [↓lm1, ↓lm2, eq_n1, eq_n2, n1_eq, n2_eq, n1_n2, n2_n1, n1_lt, n2_lt, n1_le, lt_n1, lt_n2, inb_t, cl_t, le_tt, le_tf, lt_tt, lt_tf, eq_tt, eq_tf, q_add, q_mul, li0, li1, li2, li3, li4, li5, li6, li7, li8, li12, li16, li24, li48, li500, gF_sA, gA_sF, gF_sF, gR_sA, gR_sF, gL_sA, gL_sF, gA_sA, shl_t, or_t, and_t, sbit_t, ubit_t, b01_0, b01_1, Option.bind_some, ↓reduceIte, eq_self, ne_eq, not_true_eq_false, Bool.false_eq_true, not_false_eq_true, true_and, and_true, false_and, and_false, if_pos, if_neg, c1]
        | some b =>
          have hbl := bst_lt hbq
          have hs : oN1 (some b) = nI b := rfl
          have p1 := ones_ok (N := N) (w := w) (b := q) hN (by omega)
          have p2 := ones_ok (N := N) (w := w) (b := b) hN (by omega)
          have q1 := pop_le q
          have q2 := pop_le b
          by_cases y : pop q < pop b
          · by_cases z : By (cT tk R A) (cSs tk R A) q t u
            · rw [b01_t z] at c1
              obtain ⟨w2, d1, d2⟩ := ih f' (q + 1) w1 (by omega) (by omega) (hw.tr c2)
              rw [bst_s (P := fun B => By (cT tk R A) (cSs tk R A) B t u) hbq ⟨y, z⟩] at d1
              have hs2 : oN1 (some q) = nI q := rfl
              rw [hs2] at d1
              refine ⟨w2, ?_, d2⟩
              rw [lp_X9_fewest_20, allM hs12 m30, ← d1, hs]
              simp (disch := omega) only [↓lm1, ↓lm2, eq_n1, eq_n2, n1_eq, n2_eq, n1_n2, n2_n1, n1_lt, n2_lt, n1_le, lt_n1, lt_n2, inb_t, cl_t, le_tt, le_tf, lt_tt, lt_tf, eq_tt, eq_tf, q_add, q_mul, li0, li1, li2, li3, li4, li5, li6, li7, li8, li12, li16, li24, li48, li500, gF_sA, gA_sF, gF_sF, gR_sA, gR_sF, gL_sA, gL_sF, gA_sA, shl_t, or_t, and_t, sbit_t, ubit_t, b01_0, b01_1, Option.bind_some, ↓reduceIte, eq_self, ne_eq, not_true_eq_false, Bool.false_eq_true, not_false_eq_true, true_and, and_true, false_and, and_false, if_pos, if_neg, p1, p2, c1]
            · rw [b01_f z] at c1
              obtain ⟨w2, d1, d2⟩ := ih f' (q + 1) w1 (by omega) (by omega) (hw.tr c2)
              rw [bst_sn (P := fun B => By (cT tk R A) (cSs tk R A) B t u) hbq (fun x => z x.2), hs] at d1
              refine ⟨w2, ?_, d2⟩
              rw [lp_X9_fewest_20, allM hs12 m30, ← d1, hs]
              simp (disch := omega) only [↓lm1, ↓lm2, eq_n1, eq_n2, n1_eq, n2_eq, n1_n2, n2_n1, n1_lt, n2_lt, n1_le, lt_n1, lt_n2, inb_t, cl_t, le_tt, le_tf, lt_tt, lt_tf, eq_tt, eq_tf, q_add, q_mul, li0, li1, li2, li3, li4, li5, li6, li7, li8, li12, li16, li24, li48, li500, gF_sA, gA_sF, gF_sF, gR_sA, gR_sF, gL_sA, gL_sF, gA_sA, shl_t, or_t, and_t, sbit_t, ubit_t, b01_0, b01_1, Option.bind_some, ↓reduceIte, eq_self, ne_eq, not_true_eq_false, Bool.false_eq_true, not_false_eq_true, true_and, and_true, false_and, and_false, if_pos, if_neg, p1, p2, c1]
          · obtain ⟨w2, d1, d2⟩ := ih f' (q + 1) w (by omega) (by omega) hw
            rw [bst_sn (P := fun B => By (cT tk R A) (cSs tk R A) B t u) hbq (fun x => y x.1), hs] at d1
            refine ⟨w2, ?_, d2⟩
            rw [lp_X9_fewest_20, allM hs12 m30, ← d1, hs]
            simp (disch := omega) only [↓lm1, ↓lm2, eq_n1, eq_n2, n1_eq, n2_eq, n1_n2, n2_n1, n1_lt, n2_lt, n1_le, lt_n1, lt_n2, inb_t, cl_t, le_tt, le_tf, lt_tt, lt_tf, eq_tt, eq_tf, q_add, q_mul, li0, li1, li2, li3, li4, li5, li6, li7, li8, li12, li16, li24, li48, li500, gF_sA, gA_sF, gF_sF, gR_sA, gR_sF, gL_sA, gL_sF, gA_sA, shl_t, or_t, and_t, sbit_t, ubit_t, b01_0, b01_1, Option.bind_some, ↓reduceIte, eq_self, ne_eq, not_true_eq_false, Bool.false_eq_true, not_false_eq_true, true_and, and_true, false_and, and_false, if_pos, if_neg, p1, p2]
    obtain ⟨u', m1, m2⟩ := keyM (2 ^ (cSs tk R A).length) N 0 (mAns wm (nI 0)) (by omega) (by omega) Fr.rf
    have hsp := bst_spec (fun B => By (cT tk R A) (cSs tk R A) B t u) (2 ^ (cSs tk R A).length)
    have hB : bst (fun B => By (cT tk R A) (cSs tk R A) B t u) (2 ^ (cSs tk R A).length) = some B := by
      cases hbb : bst (fun B => By (cT tk R A) (cSs tk R A) B t u) (2 ^ (cSs tk R A).length) with
      | none => rw [hbb] at hsp; exact absurd hfull (hsp _ (full_lt _))
      | some b => rw [hbb] at hsp; rw [hsp.uniq b2]
    rw [hB] at m1
    have h5 := h.1.1.2.1
    have hf := h.1.1.1
    have m1' : lp_X9_fewest_20 (fun (w_5 : Mem) (u3_5 : Int32) => (f_X9_fewest_66 N w_5 u3_5)) N (nI t) (nI u) N (mAns wm (nI 0)) n1 (nI 0) = some (u', nI B) := m1
    rw [f_X8_fewest, f_X9_fewest, e1, e2]
    simp (disch := omega) only [↓lm1, ↓lm2, eq_n1, eq_n2, n1_eq, n2_eq, n1_n2, n2_n1, n1_lt, n2_lt, n1_le, lt_n1, lt_n2, inb_t, cl_t, le_tt, le_tf, lt_tt, lt_tf, eq_tt, eq_tf, q_add, q_mul, li0, li1, li2, li3, li4, li5, li6, li7, li8, li12, li16, li24, li48, li500, gF_sA, gA_sF, gF_sF, gR_sA, gR_sF, gL_sA, gL_sF, gA_sA, shl_t, or_t, and_t, sbit_t, ubit_t, b01_0, b01_1, Option.bind_some, ↓reduceIte, eq_self, ne_eq, not_true_eq_false, Bool.false_eq_true, not_false_eq_true, true_and, and_true, false_and, and_false, if_pos, if_neg, h5, a1, b1, answer_eq, refused_0]
    rw [m1']
    exact op_ans h a2 (m2.km (by omega) _) (FrK.ans m2).1 (FrK.ans m2).2 rfl
