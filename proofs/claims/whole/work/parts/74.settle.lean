/-! the class: settle -/
abbrev FrLc (w v : Mem) : Prop := Fr (fun _ _ _ => False) (fun k i => (k = 10 ∨ k = 11) ∧ i = 0) w v
theorem or01 {a b : Nat} (ha : a < 2) (hb : b < 2) : nI a ||| nI b = nI (if b = 1 then 1 else a) := by
  have h1 : a = 0 ∨ a = 1 := by omega
  have h2 : b = 0 ∨ b = 1 := by omega
  rcases h1 with rfl | rfl <;> rcases h2 with rfl | rfl <;> decide
theorem round_ok {N f : Nat} {T : Trm} {S : Prs} {ld : Nat → Nat} {M P : Mx} {m : Nat} (k : Mem → Int32 → Option Mem) (v3 : Int32) {w : Mem} (hN : 276 < N) (hf : f < 2) (hT : TS w f T) (hG : GS w (2 + f) (tN T) ld) (hm : m ≤ 1000000000) (hQ : QQ T ld M m) (hM : CM w (tN T) M) (hP : CP w (tN T) P) (hR : RI T S ld M m 0 0 M P) : ∃ w' X P' fl, lp_X0_layPairs_19 k N f v3 N w (nI 0) (nI 0) = k w' (nI fl) ∧ CM w' (tN T) X ∧ CP w' (tN T) P' ∧ RI T S ld M m (prs T).length fl X P' ∧ FrLc w w' := by
  have hn := hT.1
  have hpl := hT.2.2.2.2.2.1
  have key := lpc (α := Mem × Int32) (prs T).length (fun fu a v => lp_X0_layPairs_19 k N f v3 fu a.1 a.2 v) (fun a => k a.1 a.2) (fun q a => ∃ X P fl, a.2 = nI fl ∧ CM a.1 (tN T) X ∧ CP a.1 (tN T) P ∧ RI T S ld M m q fl X P ∧ FrLc w a.1) ?_ ?_ 0 N (w, nI 0) (by omega) (by omega) ⟨M, P, 0, rfl, hM, hP, hR, Fr.rf⟩
  · obtain ⟨a, ⟨X, P', fl, b1, b2, b3, b4, b5⟩, b6⟩ := key
    exact ⟨a.1, X, P', fl, by rw [← b1]; exact b6, b2, b3, b4, b5⟩
  · intro fu a ⟨X, P', fl, b1, b2, b3, b4, b5⟩
    have hTa : TS a.1 f T := hT.fr b5 (fun _ _ _ z => z.elim) (fun _ _ z => by omega)
    have h11 := hTa.2.2.2.2.2.2.1
    show lp_X0_layPairs_19 k N f v3 (fu + 1) a.1 a.2 (nI (prs T).length) = k a.1 a.2
    rw [lp_X0_layPairs_19]
    simp (disch := omega) only [↓lm1, ↓lm2, eq_n1, eq_n2, n1_eq, n2_eq, n1_n2, n2_n1, n1_lt, n2_lt, n1_le, lt_n1, lt_n2, inb_t, cl_t, le_tt, le_tf, lt_tt, lt_tf, eq_tt, eq_tf, q_add, q_mul, li0, li1, li2, li3, li4, li5, li6, li7, li8, li12, li16, li24, li48, li500, gF_sA, gA_sF, gF_sF, gR_sA, gR_sF, gL_sA, gL_sF, gA_sA, shl_t, or_t, and_t, sbit_t, ubit_t, b01_0, b01_1, Option.bind_some, ↓reduceIte, eq_self, ne_eq, not_true_eq_false, Bool.false_eq_true, not_false_eq_true, true_and, and_true, false_and, and_false, if_pos, if_neg, h11]
  · intro fu q a hq ⟨X, P', fl, b1, b2, b3, b4, b5⟩
    have hTa : TS a.1 f T := hT.fr b5 (fun _ _ _ z => z.elim) (fun _ _ z => by omega)
    have hGa : GS a.1 (2 + f) (tN T) ld := hG.of (b5.1 _ _ _ (fun z => z.elim)) (b5.1 _ _ _ (fun z => z.elim)) (b5.2.1 _ _ (fun z => by omega))
    have h11 := hTa.2.2.2.2.2.2.1
    obtain ⟨⟨i, j⟩, hpk⟩ := get_at (prs T) (q := q) (by omega)
    obtain ⟨h38, h39⟩ := hTa.2.2.2.2.2.2.2 q i j hpk
    obtain ⟨c1, c2, c3⟩ := prs_mem.mp (List.mem_of_getElem? hpk)
    have hi : i < tN T := by omega
    have hal := alike_ok (N := N) hTa hGa hpk (by omega)
    by_cases he : eqParts T ld i j = true
    · rw [if_pos he] at hal
      have hb := b4.1.1.2.1
      have eps := partSums_ok (N := N) (n := 0) (show 3 < N by omega) hTa b2 hb hi c2 c3
      have hs : psm T X i j ≤ 1000000000 := psum_le T X i j _
      obtain ⟨w1, d1, d2, d3⟩ := pave_ok (N := N) (s := psm T X i j) hn hi c2 (by omega) (b4.1.2.2.2.1 i j hi c2) b3
      have hX1 : CM w1 (tN T) X := b2.of (d3.1 _ _ _ (fun z => z)) (d3.2.1 _ _ (fun z => by omega))
      obtain ⟨w2, X', g1, g2, g3, g4⟩ := lay_ok (N := N) hn (by omega) b4.1.1 hi c2 hs hX1
      refine ⟨(w2, nI (if psm T X i j < X i j then 1 else fl)), ⟨X', pv P' i j (psm T X i j), _, rfl, g2, d2.of (g3.2.1 _ _ (fun z => by omega)), b4.step hTa.2.1 hm hQ hpk he g4, (b5.tr (d3.mono (fun _ _ _ z => z) (fun _ _ z => by omega))).tr (g3.mono (fun _ _ _ z => z) (fun _ _ z => by omega))⟩, ?_⟩
      show lp_X0_layPairs_19 k N f v3 (fu + 1) a.1 a.2 (nI q) = lp_X0_layPairs_19 k N f v3 fu w2 (nI (if psm T X i j < X i j then 1 else fl)) (nI (q + 1))
      rw [lp_X0_layPairs_19]
      simp (disch := omega) only [↓lm1, ↓lm2, eq_n1, eq_n2, n1_eq, n2_eq, n1_n2, n2_n1, n1_lt, n2_lt, n1_le, lt_n1, lt_n2, inb_t, cl_t, le_tt, le_tf, lt_tt, lt_tf, eq_tt, eq_tf, q_add, q_mul, li0, li1, li2, li3, li4, li5, li6, li7, li8, li12, li16, li24, li48, li500, gF_sA, gA_sF, gF_sF, gR_sA, gR_sF, gL_sA, gL_sF, gA_sA, shl_t, or_t, and_t, sbit_t, ubit_t, b01_0, b01_1, Option.bind_some, ↓reduceIte, eq_self, ne_eq, not_true_eq_false, Bool.false_eq_true, not_false_eq_true, true_and, and_true, false_and, and_false, if_pos, if_neg, h11, hal, h38, h39]
      rw [eps, Option.bind_some, d1, Option.bind_some, g1, Option.bind_some]
      have hor : nI fl ||| nI (b01 (psm T X i j < X i j)) = nI (if psm T X i j < X i j then 1 else fl) := by
        rw [or01 b4.2.2.2.2.2.1 (b01_lt _)]
        by_cases y : psm T X i j < X i j
        · rw [b01_t y, if_pos rfl, if_pos y]
        · rw [b01_f y, if_neg (by omega), if_neg y]
      show lp_X0_layPairs_19 k N f v3 fu w2 (a.2 ||| nI (b01 (psm T X i j < X i j))) (nI (q + 1)) = _
      rw [b1, hor]
    · rw [if_neg he] at hal
      refine ⟨a, ⟨X, P', fl, b1, b2, b3, b4.skip hpk he, b5⟩, ?_⟩
      show lp_X0_layPairs_19 k N f v3 (fu + 1) a.1 a.2 (nI q) = lp_X0_layPairs_19 k N f v3 fu a.1 a.2 (nI (q + 1))
      rw [lp_X0_layPairs_19]
      simp (disch := omega) only [↓lm1, ↓lm2, eq_n1, eq_n2, n1_eq, n2_eq, n1_n2, n2_n1, n1_lt, n2_lt, n1_le, lt_n1, lt_n2, inb_t, cl_t, le_tt, le_tf, lt_tt, lt_tf, eq_tt, eq_tf, q_add, q_mul, li0, li1, li2, li3, li4, li5, li6, li7, li8, li12, li16, li24, li48, li500, gF_sA, gA_sF, gF_sF, gR_sA, gR_sF, gL_sA, gL_sF, gA_sA, shl_t, or_t, and_t, sbit_t, ubit_t, b01_0, b01_1, Option.bind_some, ↓reduceIte, eq_self, ne_eq, not_true_eq_false, Bool.false_eq_true, not_false_eq_true, true_and, and_true, false_and, and_false, if_pos, if_neg, h11, hal]
theorem RI.start {T : Trm} {S : Prs} {ld : Nat → Nat} {M P : Mx} {m : Nat} (h : CK T S ld M P) (h2 : SI S M P S.length) : RI T S ld M m 0 0 M P :=
  ⟨h, h2, fun _ _ _ _ => Nat.le_refl _, fun _ _ _ _ => Or.inl rfl, fun p _ _ hp => absurd hp (Nat.not_lt_zero p), by omega, fun _ => ⟨fun _ _ _ _ => rfl, fun p _ _ hp => absurd hp (Nat.not_lt_zero p)⟩, fun z => by omega⟩
theorem liM : (1000000 : Int32) = nI 1000000 := by decide
theorem rounds_ok {N f : Nat} {T : Trm} {S : Prs} {ld : Nat → Nat} (k : Mem → Option Mem) {w0 : Mem} (hN : 276 < N) (hf : f < 2) (hT0 : TS w0 f T) (hG0 : GS w0 (2 + f) (tN T) ld) (hS : PRok (tN T) S) : ∀ r fuel c m M P w, phi (tN T) M m ≤ r → r + 1 < fuel → c + r < 999999 → m ≤ 1000000000 → QQ T ld M m → CM w (tN T) M → CP w (tN T) P → CK T S ld M P → SI S M P S.length → FrLc w0 w → ∃ w' X, lp_X0_layPairs_4 k N f fuel w (nI 1) (nI c) = k w' ∧ CM w' (tN T) X ∧ GSol T S ld X ∧ CP w' (tN T) (wt T S ld X) ∧ FrLc w0 w' := by
  intro r
  induction r with
  | zero =>
    intro fuel c m M P w hph hfu hc hm hQ hM hP hK hI hw
    obtain ⟨fu, rfl⟩ : ∃ g, fuel = g + 2 := ⟨fuel - 2, by omega⟩
    have hT : TS w f T := hT0.fr hw (fun _ _ _ z => z.elim) (fun _ _ z => by omega)
    have hG : GS w (2 + f) (tN T) ld := hG0.of (hw.1 _ _ _ (fun z => z.elim)) (hw.1 _ _ _ (fun z => z.elim)) (hw.2.1 _ _ (fun z => by omega))
    obtain ⟨w', X, P', fl, a1, a2, a3, a4, a5⟩ := round_ok (N := N) (fun (w_2 : Mem) (u2_2 : Int32) => (f_X0_layPairs_114_4 (fun (w : Mem) (v2 : Int32) (v3 : Int32) => lp_X0_layPairs_4 k N f (fu + 1) w v2 v3) k N w_2 f u2_2 (nI c))) (nI c) hN hf hT hG hm hQ hM hP (RI.start hK hI)
    have hfl : fl = 0 ∨ fl = 1 := by have := a4.2.2.2.2.2.1; omega
    rcases hfl with rfl | rfl
    · obtain ⟨e1, e2⟩ := a4.done hT.2.1 hS
      refine ⟨w', X, ?_, a2, e1, fun t u ht hu => by rw [← e2 t u ht hu]; exact a3 t u ht hu, hw.tr a5⟩
      rw [lp_X0_layPairs_4, if_neg (by decide), liM, if_neg (of_eq_false (le_tf (by omega) (by omega) (by omega)))]
      refine a1.trans ?_
      rw [f_X0_layPairs_114_4, lp_X0_layPairs_4, if_pos (show (nI 0 : Int32) = 0 from rfl)]
    · obtain ⟨m', b1, b2, b3⟩ := a4.fall hT.2.1
      omega
  | succ r ih =>
    intro fuel c m M P w hph hfu hc hm hQ hM hP hK hI hw
    obtain ⟨fu, rfl⟩ : ∃ g, fuel = g + 2 := ⟨fuel - 2, by omega⟩
    have hT : TS w f T := hT0.fr hw (fun _ _ _ z => z.elim) (fun _ _ z => by omega)
    have hG : GS w (2 + f) (tN T) ld := hG0.of (hw.1 _ _ _ (fun z => z.elim)) (hw.1 _ _ _ (fun z => z.elim)) (hw.2.1 _ _ (fun z => by omega))
    obtain ⟨w', X, P', fl, a1, a2, a3, a4, a5⟩ := round_ok (N := N) (fun (w_2 : Mem) (u2_2 : Int32) => (f_X0_layPairs_114_4 (fun (w : Mem) (v2 : Int32) (v3 : Int32) => lp_X0_layPairs_4 k N f (fu + 1) w v2 v3) k N w_2 f u2_2 (nI c))) (nI c) hN hf hT hG hm hQ hM hP (RI.start hK hI)
    have hfl : fl = 0 ∨ fl = 1 := by have := a4.2.2.2.2.2.1; omega
    rcases hfl with rfl | rfl
    · obtain ⟨e1, e2⟩ := a4.done hT.2.1 hS
      refine ⟨w', X, ?_, a2, e1, fun t u ht hu => by rw [← e2 t u ht hu]; exact a3 t u ht hu, hw.tr a5⟩
      rw [lp_X0_layPairs_4, if_neg (by decide), liM, if_neg (of_eq_false (le_tf (by omega) (by omega) (by omega)))]
      refine a1.trans ?_
      rw [f_X0_layPairs_114_4, lp_X0_layPairs_4, if_pos (show (nI 0 : Int32) = 0 from rfl)]
    · obtain ⟨m', b1, b2, b3⟩ := a4.fall hT.2.1
      obtain ⟨w2, X2, c1, c2⟩ := ih (fu + 1) (c + 1) m' X P' w' (by omega) (by omega) (by omega) b1 b2 a2 a3 a4.1 a4.2.1 (hw.tr a5)
      refine ⟨w2, X2, ?_, c2⟩
      rw [lp_X0_layPairs_4, if_neg (by decide), liM, if_neg (of_eq_false (le_tf (by omega) (by omega) (by omega)))]
      refine a1.trans ?_
      rw [f_X0_layPairs_114_4, li1, q_add]
      exact c1
abbrev FrSe (w v : Mem) : Prop := Fr (fun k j _ => k = 0 ∧ (j = 3 ∨ j = 4)) (fun k i => (k = 10 ∨ k = 11) ∧ i = 0) w v
theorem li576 : (576 : Int32) = nI 576 := by decide
theorem settle_ok {N f : Nat} {T : Trm} {S : Prs} {ld : Nat → Nat} {w : Mem} (hN : 2000 < N) (hf : f < 2) (hT : TS w f T) (hG : GS w (2 + f) (tN T) ld) (hSS : SS w f (tN T) S) (h0 : gF w 0 4 0 = nI 0) : ∃ w' X, f_X0_settle N w f = some w' ∧ gF w' 0 4 0 = nI 1 ∧ CM w' (tN T) X ∧ GSol T S ld X ∧ CP w' (tN T) (wt T S ld X) ∧ FrSe w w' := by
  have hn := hT.1
  have hS : PRok (tN T) S := fun a b hab => by
    obtain ⟨p, hp⟩ := List.getElem?_of_mem hab
    exact ⟨(hSS.2.2 p a b hp).1, (hSS.2.2 p a b hp).2.1⟩
  have toS : ∀ {a b : Mem}, FrLc a b → FrSe a b := fun h => h.mono (fun _ _ _ z => z.elim) (fun _ _ z => z)
  -- the sames, then the rounds
  have key3 : ∀ a, FrSe w a → CM a (tN T) (fun t u => if t = u then 0 else 1000000000) → CP a (tN T) (fun _ _ => 1000000001) → ∃ w' X, f_X0_settle_80 N a f = some w' ∧ gF w' 0 4 0 = nI 1 ∧ CM w' (tN T) X ∧ GSol T S ld X ∧ CP w' (tN T) (wt T S ld X) ∧ FrSe w w' := by
    intro a ha hM0 hP0
    have hK0 : CK T S ld (fun t u => if t = u then 0 else 1000000000) (fun _ _ => 1000000001) := by
      refine ⟨⟨fun t _ => if_pos rfl, fun t u _ _ => by show (if t = u then 0 else 1000000000) ≤ 1000000000; split <;> omega, fun t u _ _ => by
        show (if t = u then 0 else 1000000000) = (if u = t then 0 else 1000000000)
        by_cases z : t = u
        · rw [if_pos z, if_pos z.symm]
        · rw [if_neg z, if_neg (fun q => z q.symm)], fun t u v _ _ _ => by
        show (if t = u then 0 else 1000000000) ≤ (if t = v then 0 else 1000000000) + (if v = u then 0 else 1000000000)
        by_cases z : t = u
        · rw [if_pos z]; omega
        · rw [if_neg z]
          by_cases y : t = v
          · rw [if_pos y, if_neg (fun q => z (y.trans q))]; omega
          · rw [if_neg y]; omega⟩, fun E hE t u ht hu => ?_, fun _ _ _ _ => rfl, fun _ _ _ _ => Nat.le_refl _, fun E hE t u ht hu => wt_leN⟩
      show E t u ≤ (if t = u then 0 else 1000000000)
      by_cases z : t = u
      · rw [if_pos z, ← z, hE.1 t ht]; omega
      · rw [if_neg z]; exact hE.2.1 t u ht hu
    have key := lpc (α := Mem) S.length (fun fu a v => lp_X0_settle_82 (fun (w_3 : Mem) => (f_X0_settle_131 N w_3 f)) N f fu a v) (fun a => f_X0_settle_131 N a f) (fun q b => ∃ X P, CM b (tN T) X ∧ CP b (tN T) P ∧ CK T S ld X P ∧ SI S X P q ∧ FrLc a b) ?_ ?_ 0 N a (by omega) (by have := hSS.1; omega) ⟨_, _, hM0, hP0, hK0, fun p _ _ hp => absurd hp (Nat.not_lt_zero p), Fr.rf⟩
    · obtain ⟨b, ⟨X, P, b1, b2, b3, b4, b5⟩, b6⟩ := key
      have hab : FrSe w b := ha.tr (toS b5)
      have hTb : TS b f T := hT.fr hab (fun _ _ _ z => by omega) (fun _ _ z => by omega)
      have hGb : GS b (2 + f) (tN T) ld := hG.of (hab.1 _ _ _ (fun z => by omega)) (hab.1 _ _ _ (fun z => by omega)) (hab.2.1 _ _ (fun z => by omega))
      have hph := phi_bd (tN T) X 0
      have hph2 : tN T * (tN T * 1) ≤ 24 * (24 * 1) := Nat.mul_le_mul hn (Nat.mul_le_mul hn (Nat.le_refl _))
      obtain ⟨w', X', c1, c2, c3, c4, c5⟩ := rounds_ok (N := N) (fun (w_1 : Mem) => (f_X0_layPairs_120 N w_1 f)) (by omega) hf hTb hGb hS 576 N 0 0 X P b (by omega) (by omega) (by omega) (by omega) (fun i j _ _ => Or.inr (Nat.zero_le _)) b1 b2 b3 b4 Fr.rf
      refine ⟨sF w' 0 4 0 (nI 1), X', ?_, by rw [gF_sF, if_pos ⟨rfl, rfl, rfl⟩], c2.of (by rw [gF_sF, if_neg (by omega)]) rfl, c3, c4.of rfl, hab.tr ((toS c5).tr ⟨fun k j i z => by rw [gF_sF, if_neg (by omega)], fun _ _ _ => rfl, fun _ _ => rfl, fun _ _ _ => rfl⟩)⟩
      rw [f_X0_settle_80]
      refine b6.trans ?_
      rw [f_X0_settle_131, f_X0_layPairs, li1, li0, c1, f_X0_layPairs_120, Option.bind_some]
    · intro fu b ⟨X, P, b1, b2, b3, b4, b5⟩
      have hab : FrSe w b := ha.tr (toS b5)
      have h9 : gF b 1 9 f = nI S.length := (hab.1 _ _ _ (fun z => by omega)).trans hSS.2.1
      have hs12 := hSS.1
      show lp_X0_settle_82 (fun (w_3 : Mem) => (f_X0_settle_131 N w_3 f)) N f (fu + 1) b (nI S.length) = f_X0_settle_131 N b f
      rw [lp_X0_settle_82]
      simp (disch := omega) only [↓lm1, ↓lm2, eq_n1, eq_n2, n1_eq, n2_eq, n1_n2, n2_n1, n1_lt, n2_lt, n1_le, lt_n1, lt_n2, inb_t, cl_t, le_tt, le_tf, lt_tt, lt_tf, eq_tt, eq_tf, q_add, q_mul, li0, li1, li2, li3, li4, li5, li6, li7, li8, li12, li16, li24, li48, li500, gF_sA, gA_sF, gF_sF, gR_sA, gR_sF, gL_sA, gL_sF, gA_sA, shl_t, or_t, and_t, sbit_t, ubit_t, b01_0, b01_1, Option.bind_some, ↓reduceIte, eq_self, ne_eq, not_true_eq_false, Bool.false_eq_true, not_false_eq_true, true_and, and_true, false_and, and_false, if_pos, if_neg, h9]
    · intro fu q b hq ⟨X, P, b1, b2, b3, b4, b5⟩
      have hab : FrSe w b := ha.tr (toS b5)
      have h9 : gF b 1 9 f = nI S.length := (hab.1 _ _ _ (fun z => by omega)).trans hSS.2.1
      have hs12 := hSS.1
      obtain ⟨⟨i, j⟩, hpk⟩ := get_at S hq
      obtain ⟨hi, hj, y3, y4⟩ := hSS.2.2 q i j hpk
      have z3 : gA b 13 f q = nI i := by rw [hab.2.1 _ _ (fun z => by omega)]; exact y3
      have z4 : gA b 14 f q = nI j := by rw [hab.2.1 _ _ (fun z => by omega)]; exact y4
      obtain ⟨w2, X', g1, g2, g3, g4⟩ := lay_ok (N := N) hn (by omega) b3.1 hi hj (show 1 ≤ 1000000000 by omega) b1
      have hX2 : X' = ly X i j 1 ∨ X' = X := g4.imp (fun z => z.2) (fun z => z.2)
      have hat : X' i j ≤ 1 := by
        rcases g4 with ⟨z1, z2⟩ | ⟨z1, z2⟩
        · rw [z2]; exact ly_at b3.1 hi hj
        · rw [z2]; omega
      obtain ⟨w3, d1, d2, d3⟩ := pave_ok (N := N) (s := 1) hn hi hj (by omega) (b3.2.2.2.1 i j hi hj) (b2.of (g3.2.1 11 0 (fun z => by omega)) : CP w2 (tN T) P)
      have u3 : gA w2 13 f q = nI i := by rw [g3.2.1 _ _ (fun z => by omega)]; exact z3
      have u4 : gA w2 14 f q = nI j := by rw [g3.2.1 _ _ (fun z => by omega)]; exact z4
      have hmem := List.mem_of_getElem? hpk
      refine ⟨w3, ⟨X', pv P i j 1, g2.of (d3.1 _ _ _ (fun z => z)) (d3.2.1 _ _ (fun z => by omega)), d2, b3.step hi hj (fun E hE => ⟨(hE.2.2.2.1 i j hmem).1, (hE.2.2.2.1 i j hmem).2, wt_le1 (Or.inl hmem), wt_le1 (Or.inr hmem)⟩) hX2, fun p c d hp hcd => ?_, (b5.tr (g3.mono (fun _ _ _ z => z) (fun _ _ z => by omega))).tr (d3.mono (fun _ _ _ z => z) (fun _ _ z => by omega))⟩, ?_⟩
      · by_cases e : p = q
        · subst e
          rw [hpk] at hcd
          obtain ⟨rfl, rfl⟩ := Prod.mk.inj (Option.some.inj hcd)
          exact ⟨hat, pv_le P i j 1 i j (Or.inl ⟨rfl, rfl⟩)⟩
        · exact (SI.step b4 b3.2.2.1 hi hj hX2) p c d (by omega) hcd
      · show lp_X0_settle_82 (fun (w_3 : Mem) => (f_X0_settle_131 N w_3 f)) N f (fu + 1) b (nI q) = lp_X0_settle_82 (fun (w_3 : Mem) => (f_X0_settle_131 N w_3 f)) N f fu w3 (nI (q + 1))
        rw [lp_X0_settle_82]
        simp (disch := omega) only [↓lm1, ↓lm2, eq_n1, eq_n2, n1_eq, n2_eq, n1_n2, n2_n1, n1_lt, n2_lt, n1_le, lt_n1, lt_n2, inb_t, cl_t, le_tt, le_tf, lt_tt, lt_tf, eq_tt, eq_tf, q_add, q_mul, li0, li1, li2, li3, li4, li5, li6, li7, li8, li12, li16, li24, li48, li500, gF_sA, gA_sF, gF_sF, gR_sA, gR_sF, gL_sA, gL_sF, gA_sA, shl_t, or_t, and_t, sbit_t, ubit_t, b01_0, b01_1, Option.bind_some, ↓reduceIte, eq_self, ne_eq, not_true_eq_false, Bool.false_eq_true, not_false_eq_true, true_and, and_true, false_and, and_false, if_pos, if_neg, h9, z3, z4]
        rw [g1, Option.bind_some]
        show Option.bind (f_X0_pave N w2 (gA w2 13 f q) (gA w2 14 f q) (nI 1)) _ = _
        rw [u3, u4, d1, Option.bind_some]
  -- the diagonal
  have key2 : ∀ a, FrSe w a → gF a 0 3 0 = nI (tN T) → (∀ x, x < 576 → gA a 10 0 x = nI 1000000000 ∧ gA a 11 0 x = nI 1000000001) → ∃ w' X, f_X0_settle_52 N a f = some w' ∧ gF w' 0 4 0 = nI 1 ∧ CM w' (tN T) X ∧ GSol T S ld X ∧ CP w' (tN T) (wt T S ld X) ∧ FrSe w w' := by
    intro a ha h3 hall
    have key := lpc (α := Mem) (tN T) (fun fu a v => lp_X0_settle_54 (fun (w_2 : Mem) => (f_X0_settle_80 N w_2 f)) N f fu a v) (fun a => f_X0_settle_80 N a f) (fun q b => CM b (tN T) (fun t u => if t = u ∧ t < q then 0 else 1000000000) ∧ CP b (tN T) (fun _ _ => 1000000001) ∧ FrLc a b) ?_ ?_ 0 N a (by omega) (by omega) ⟨⟨h3, fun t u ht hu => by show _ = nI (if t = u ∧ t < 0 then 0 else 1000000000); rw [if_neg (by omega)]; exact (hall _ (by omega)).1⟩, fun t u ht hu => (hall _ (by omega)).2, Fr.rf⟩
    · obtain ⟨b, ⟨b1, b2, b3⟩, b4⟩ := key
      rw [f_X0_settle_52, show (lp_X0_settle_54 (fun (w_2 : Mem) => (f_X0_settle_80 N w_2 f)) N f N a (0 : Int32)) = _ from b4]
      refine key3 b (ha.tr (toS b3)) (b1.ext (fun t u ht hu => ?_)) b2
      show (if t = u ∧ t < tN T then 0 else 1000000000) = (if t = u then 0 else 1000000000)
      by_cases z : t = u
      · rw [if_pos ⟨z, ht⟩, if_pos z]
      · rw [if_neg (fun q => z q.1), if_neg z]
    · intro fu b ⟨b1, b2, b3⟩
      have b11 := b1.1
      show lp_X0_settle_54 (fun (w_2 : Mem) => (f_X0_settle_80 N w_2 f)) N f (fu + 1) b (nI (tN T)) = f_X0_settle_80 N b f
      rw [lp_X0_settle_54]
      simp (disch := omega) only [↓lm1, ↓lm2, eq_n1, eq_n2, n1_eq, n2_eq, n1_n2, n2_n1, n1_lt, n2_lt, n1_le, lt_n1, lt_n2, inb_t, cl_t, le_tt, le_tf, lt_tt, lt_tf, eq_tt, eq_tf, q_add, q_mul, li0, li1, li2, li3, li4, li5, li6, li7, li8, li12, li16, li24, li48, li500, gF_sA, gA_sF, gF_sF, gR_sA, gR_sF, gL_sA, gL_sF, gA_sA, shl_t, or_t, and_t, sbit_t, ubit_t, b01_0, b01_1, Option.bind_some, ↓reduceIte, eq_self, ne_eq, not_true_eq_false, Bool.false_eq_true, not_false_eq_true, true_and, and_true, false_and, and_false, if_pos, if_neg, b11]
    · intro fu q b hq ⟨b1, b2, b3⟩
      have b11 := b1.1
      refine ⟨sA b 10 0 (q * 24 + q) (nI 0), ⟨⟨by rw [gF_sA]; exact b11, fun t u ht hu => ?_⟩, b2.of (by funext y; rw [gA_sA, if_neg (by omega)]), b3.tr ⟨fun _ _ _ _ => rfl, fun k' i' z => by funext y; rw [gA_sA, if_neg (by omega)], fun _ _ => rfl, fun _ _ _ => rfl⟩⟩, ?_⟩
      · show _ = nI (if t = u ∧ t < q + 1 then 0 else 1000000000)
        rw [gA_sA]
        by_cases z : t = q ∧ u = q
        · rw [if_pos (by omega), if_pos (by omega)]
        · rw [if_neg (by omega), b1.2 t u ht hu]
          show nI (if t = u ∧ t < q then 0 else 1000000000) = _
          by_cases y : t = u ∧ t < q
          · rw [if_pos y, if_pos (by omega)]
          · rw [if_neg y, if_neg (by omega)]
      · show lp_X0_settle_54 (fun (w_2 : Mem) => (f_X0_settle_80 N w_2 f)) N f (fu + 1) b (nI q) = lp_X0_settle_54 (fun (w_2 : Mem) => (f_X0_settle_80 N w_2 f)) N f fu (sA b 10 0 (q * 24 + q) (nI 0)) (nI (q + 1))
        rw [lp_X0_settle_54]
        simp (disch := omega) only [↓lm1, ↓lm2, eq_n1, eq_n2, n1_eq, n2_eq, n1_n2, n2_n1, n1_lt, n2_lt, n1_le, lt_n1, lt_n2, inb_t, cl_t, le_tt, le_tf, lt_tt, lt_tf, eq_tt, eq_tf, q_add, q_mul, li0, li1, li2, li3, li4, li5, li6, li7, li8, li12, li16, li24, li48, li500, gF_sA, gA_sF, gF_sF, gR_sA, gR_sF, gL_sA, gL_sF, gA_sA, shl_t, or_t, and_t, sbit_t, ubit_t, b01_0, b01_1, Option.bind_some, ↓reduceIte, eq_self, ne_eq, not_true_eq_false, Bool.false_eq_true, not_false_eq_true, true_and, and_true, false_and, and_false, if_pos, if_neg, b11]
  -- all rows
  have h10 := hT.2.2.1
  have key := lpc (α := Mem) 576 (fun fu a v => lp_X0_settle_21 (fun (w_1 : Mem) => (f_X0_settle_52 N w_1 f)) N f fu a v) (fun a => f_X0_settle_52 N a f) (fun q b => (∀ x, x < q → gA b 10 0 x = nI 1000000000 ∧ gA b 11 0 x = nI 1000000001) ∧ FrLc (sF w 0 3 0 (gF w 7 10 f)) b) ?_ ?_ 0 N (sF w 0 3 0 (gF w 7 10 f)) (by omega) (by omega) ⟨fun x hx => absurd hx (Nat.not_lt_zero x), Fr.rf⟩
  · obtain ⟨b, ⟨b1, b2⟩, b3⟩ := key
    rw [f_X0_settle, if_pos (show gF w 0 4 0 = 0 from h0), show (lp_X0_settle_21 (fun (w_1 : Mem) => (f_X0_settle_52 N w_1 f)) N f N (sF w 0 3 0 (gF w 7 10 f)) (0 : Int32)) = _ from b3]
    refine key2 b (Fr.tr (show FrSe w (sF w 0 3 0 (gF w 7 10 f)) from ⟨fun k j i z => by rw [gF_sF, if_neg (by omega)], fun _ _ _ => rfl, fun _ _ => rfl, fun _ _ _ => rfl⟩) (toS b2)) ?_ b1
    rw [b2.1 _ _ _ (fun z => z), gF_sF, if_pos ⟨rfl, rfl, rfl⟩, h10]
  · intro fu b ⟨b1, b2⟩
    show lp_X0_settle_21 (fun (w_1 : Mem) => (f_X0_settle_52 N w_1 f)) N f (fu + 1) b (nI 576) = f_X0_settle_52 N b f
    rw [lp_X0_settle_21, li576, if_pos (of_eq_true (le_tt (by omega) (by omega) (Nat.le_refl _)))]
  · intro fu q b hq ⟨b1, b2⟩
    refine ⟨sA (sA b 10 0 q (nI 1000000000)) 11 0 q (nI 1000000001), ⟨fun x hx => ?_, b2.tr ⟨fun _ _ _ _ => rfl, fun k' i' z => by funext y; rw [gA_sA, if_neg (by omega), gA_sA, if_neg (by omega)], fun _ _ => rfl, fun _ _ _ => rfl⟩⟩, ?_⟩
    · rw [gA_sA, if_neg (by omega), gA_sA, gA_sA]
      by_cases z : x = q
      · rw [if_pos ⟨rfl, rfl, z⟩, if_pos ⟨rfl, rfl, z⟩]; exact ⟨rfl, rfl⟩
      · rw [if_neg (by omega), if_neg (by omega), gA_sA, if_neg (by omega)]; exact b1 x (by omega)
    · show lp_X0_settle_21 (fun (w_1 : Mem) => (f_X0_settle_52 N w_1 f)) N f (fu + 1) b (nI q) = lp_X0_settle_21 (fun (w_1 : Mem) => (f_X0_settle_52 N w_1 f)) N f fu (sA (sA b 10 0 q (nI 1000000000)) 11 0 q (nI 1000000001)) (nI (q + 1))
      rw [lp_X0_settle_21, li576, if_neg (of_eq_false (le_tf (by omega) (by omega) (by omega))), if_pos (inb_t (by omega) (by omega)), cl_t (by omega), liT, liW, li1, q_add]
