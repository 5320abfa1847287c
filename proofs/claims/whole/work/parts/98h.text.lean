/-! text: all lines; the call -/
theorem text_lp {N g n : Nat} {tp : List Nat} (hN : 600 < N) : ∀ (r fx fm v : Nat) (wx wm : Mem) (FL : List (List Nat)) (tg : List Nat) (NL : List (List Nat)) (rs : List Row) (p q : Nat) (K : Kd), n < p + r → r < fx → r ≤ fm → v ≤ p → TR wx wm g n tp FL tg NL rs p q K → LO (FrR g) FrNn wx wm (lp_X5_readText_13 (fun (w_6 : Mem) => (f_X5_readText_63 N w_6)) N fx wx (nI v)) (Option.bind (f_X9_readLine N wm) (fun z3 => if z3.2 = (0 : Int32) then some (z3.1, (0 : Int32)) else lp_X9_readAll_48 (fun (w_5 : Mem) => (f_X9_readAll_68 N w_5)) N fm z3.1)) (NXt g n tp 0) := by
  intro r
  induction r with
  | zero =>
    intro fx fm v wx wm FL tg NL rs p q K h1 h2 h3 h4 h5
    have := h5.2.2.2.2.2.2.2.2
    omega
  | succ r ih =>
    intro fx fm v wx wm FL tg NL rs p q K h1 h2 h3 h4 h5
    have hpn : p ≤ n := h5.2.2.2.2.2.2.2.2
    have hlim := h5.2.2.1.1
    have hl5 := hlim.2.2.1
    have hn5 := hlim.2.1
    obtain ⟨fx, rfl⟩ : ∃ f, fx = f + 1 := ⟨fx - 1, by omega⟩
    obtain ⟨fm, rfl⟩ : ∃ f, fm = f + 1 := ⟨fm - 1, by omega⟩
    have X0 : ((500 : Int32) < nI v) = False := lt_tf (a := 500) (by omega) (by omega) (by omega)
    have z10 : ((1 : Int32) = 0) = False := eq_false (by decide)
    have z1n : ((nI 1 : Int32) = 0) = False := eq_false (by decide)
    have z0n : ((nI 0 : Int32) = 0) = True := eq_true rfl
    rcases line_ok hN h5 with ⟨vx, vm, f1, f2, ⟨c1, c2, FL', tg', NL', rs', p1, q1, K1, c3, c4⟩ | ⟨c1, c2, c3⟩⟩ | ⟨vx, vm, f1, f2, c1, c2, c3, c4, c5, c6⟩
    · have k1 : KO tp n p1 q1 K1 := c3.2.2.2.2.2.2.2.1
      have x0 : (gF vx 5 6 0 = (0 : Int32)) = _ := xEot c3.2.2.2.1
      have s59 : f_X5_isSign N vx (59 : Int32) = some (nI (b01 (K1 = .sgn 59))) := xSign (c := 59) c3.2.2.2.1 k1 (by omega)
      have m59 : (gF vm 9 16 0 = (59 : Int32)) = (K1 = .sgn 59) := mSign (c := 59) c3.2.2.2.2.1 k1 (by unfold sig; omega)
      have m0 : (gF vm 9 16 0 = (0 : Int32)) = (K1 = .eot) := mEot c3.2.2.2.2.1 k1
      by_cases e0 : K1 = .eot
      · have x0' := x0.trans (eq_true e0)
        have m0' := m0.trans (eq_true e0)
        have m59' := m59.trans (eq_false (fun z => by rw [e0] at z; cases z))
        refine ⟨vx, vm, f1, f2, Or.inl ⟨?_, ?_, FL', tg', NL', rs', p1, q1, K1, c3, Nat.zero_le _⟩⟩
        · rw [lp_X5_readText_13]
          simp only [X0, ↓reduceIte, c1, Option.bind_some, z10, x0']
        · rw [c2]
          simp only [Option.bind_some, z10, ↓reduceIte]
          rw [lp_X9_readAll_48]
          simp only [m59', m0', ↓reduceIte]
      · have x0' := x0.trans (eq_false e0)
        have m0' := m0.trans (eq_false e0)
        by_cases e59 : K1 = .sgn 59
        · rw [b01_t e59] at s59
          have m59' := m59.trans (eq_true e59)
          have hq1 : q1 = p1 + 1 ∧ q1 ≤ n := by rw [e59] at k1; exact k1.2
          obtain ⟨ux, um, p2, q2, K2, b1, b2, b3, b4, b5, b6⟩ := step_ok hN c3 (fun z => by rw [e59] at z; cases z) hq1.2
          have IH := ih fx fm (v + 1) ux um FL' tg' NL' rs' p2 q2 K2 (by omega) (by omega) (by omega) (by omega) b3
          have X4 : nI v + (1 : Int32) = nI (v + 1) := by rw [li1, q_add]
          have ex : lp_X5_readText_13 (fun (w_6 : Mem) => (f_X5_readText_63 N w_6)) N (fx + 1) wx (nI v) = lp_X5_readText_13 (fun (w_6 : Mem) => (f_X5_readText_63 N w_6)) N fx ux (nI (v + 1)) := by
            rw [lp_X5_readText_13]
            simp only [X0, ↓reduceIte, c1, Option.bind_some, z10, x0', s59, z1n, b1, X4]
          have em : Option.bind (f_X9_readLine N wm) (fun z3 => if z3.2 = (0 : Int32) then some (z3.1, (0 : Int32)) else lp_X9_readAll_48 (fun (w_5 : Mem) => (f_X9_readAll_68 N w_5)) N (fm + 1) z3.1) = Option.bind (f_X9_readLine N um) (fun z3 => if z3.2 = (0 : Int32) then some (z3.1, (0 : Int32)) else lp_X9_readAll_48 (fun (w_5 : Mem) => (f_X9_readAll_68 N w_5)) N fm z3.1) := by
            rw [c2]
            simp only [Option.bind_some, z10, ↓reduceIte]
            rw [lp_X9_readAll_48]
            simp only [m59', ↓reduceIte, b2, Option.bind_some, f_X9_readAll_68]
          rw [ex, em]
          exact IH.pre (fun h k => h.tr k) (fun h k => h.tr k) (f1.tr (Fr5.r b5)) (f2.tr b6.n) (fun _ _ z => z)
        · rw [b01_f e59] at s59
          have m59' := m59.trans (eq_false e59)
          refine LO.fail (f1.tr (xF_fr _ _).r) (f2.tr (mE_n _ _)) c3.2.2.2 (e := 1) ?_ ?_
          · rw [lp_X5_readText_13]
            simp only [X0, ↓reduceIte, c1, Option.bind_some, z10, x0', s59, z0n, fail_eq, eq_self, true_or]
          · rw [c2]
            simp only [Option.bind_some, z10, ↓reduceIte]
            rw [lp_X9_readAll_48]
            simp only [m59', m0', ↓reduceIte, errs_eq, Option.bind_some, eq_self]
    · refine ⟨vx, vm, f1, f2, Or.inr ⟨?_, ?_, c3⟩⟩
      · rw [lp_X5_readText_13]
        simp only [X0, ↓reduceIte, c1, Option.bind_some, eq_self]
      · rw [c2]
        simp only [Option.bind_some, ↓reduceIte, eq_self]
    · refine ⟨vx, mE vm 1, f1, f2.tr (mE_n _ _), Or.inr ⟨?_, ?_, ?_, ?_⟩⟩
      · rw [lp_X5_readText_13]
        simp only [X0, ↓reduceIte, c1, Option.bind_some, eq_self]
      · rw [c2]
        simp only [Option.bind_some, z10, ↓reduceIte]
        rw [lp_X9_readAll_48]
        simp only [eq_false c4, eq_false c5, ↓reduceIte, errs_eq, Option.bind_some, eq_self]
      · unfold mE
        rw [c3, gF_sF, if_neg (by omega), gF_sF, if_pos ⟨rfl, rfl, rfl⟩]; rfl
      · unfold mE
        rw [c6, gF_sF, if_pos ⟨rfl, rfl, rfl⟩, gF_sF, if_neg (by omega)]
/-- facts emptied -/
theorem clear_ok {N g : Nat} {w : Mem} (hN : 60 < N) (hg : g < 2) : ∃ v, f_X1_clear N w g = some v ∧ (∀ tk, XK v g tk c0) ∧ gF v 7 9 g = nI 0 ∧ gF v 1 11 g = nI 0 ∧ Fr (fun k j i => ((k = 7 ∨ k = 2 ∨ k = 1) ∧ i = g) ∨ (k = 3 ∧ i = 2 + g)) (fun k i => k = 25 ∧ i = 2 + g) w v := by
  let w1 : Mem := sF (sF (sF w 7 9 g (nI 0)) 7 10 g (nI 0)) 7 11 g (nI 0)
  obtain ⟨w2, a1, a2, a3⟩ := partAll_ok w1 (2 + g) (m := 0) (N := N) (by omega) (by omega)
  let w3 : Mem := sF (sF w2 2 6 g (nI 0)) 2 7 g (nI 0)
  let v : Mem := sF (sF (sF w3 1 9 g (nI 0)) 1 10 g (nI 0)) 1 11 g (nI 0)
  have e71 : ∀ j, j = 9 ∨ j = 10 ∨ j = 11 → gF v 7 j g = nI 0 := fun j hj => by
    show gF (sF (sF (sF (sF (sF w2 2 6 g (nI 0)) 2 7 g (nI 0)) 1 9 g (nI 0)) 1 10 g (nI 0)) 1 11 g (nI 0)) 7 j g = nI 0
    rw [gF_sF, if_neg (by omega), gF_sF, if_neg (by omega), gF_sF, if_neg (by omega), gF_sF, if_neg (by omega), gF_sF, if_neg (by omega), a3.1 _ _ _ (by show ¬ (7 = 3 ∧ g = 2 + g); omega)]
    show gF (sF (sF (sF w 7 9 g (nI 0)) 7 10 g (nI 0)) 7 11 g (nI 0)) 7 j g = nI 0
    rcases hj with e | e | e <;> subst e
    · rw [gF_sF, if_neg (by omega), gF_sF, if_neg (by omega), gF_sF, if_pos ⟨rfl, rfl, rfl⟩]
    · rw [gF_sF, if_neg (by omega), gF_sF, if_pos ⟨rfl, rfl, rfl⟩]
    · rw [gF_sF, if_pos ⟨rfl, rfl, rfl⟩]
  have e2 : ∀ j, j = 6 ∨ j = 7 → gF v 2 j g = nI 0 := fun j hj => by
    show gF (sF (sF (sF (sF (sF w2 2 6 g (nI 0)) 2 7 g (nI 0)) 1 9 g (nI 0)) 1 10 g (nI 0)) 1 11 g (nI 0)) 2 j g = nI 0
    rw [gF_sF, if_neg (by omega), gF_sF, if_neg (by omega), gF_sF, if_neg (by omega)]
    rcases hj with e | e <;> subst e
    · rw [gF_sF, if_neg (by omega), gF_sF, if_pos ⟨rfl, rfl, rfl⟩]
    · rw [gF_sF, if_pos ⟨rfl, rfl, rfl⟩]
  have e1 : ∀ j, j = 9 ∨ j = 10 ∨ j = 11 → gF v 1 j g = nI 0 := fun j hj => by
    show gF (sF (sF (sF w3 1 9 g (nI 0)) 1 10 g (nI 0)) 1 11 g (nI 0)) 1 j g = nI 0
    rcases hj with e | e | e <;> subst e
    · rw [gF_sF, if_neg (by omega), gF_sF, if_neg (by omega), gF_sF, if_pos ⟨rfl, rfl, rfl⟩]
    · rw [gF_sF, if_neg (by omega), gF_sF, if_pos ⟨rfl, rfl, rfl⟩]
    · rw [gF_sF, if_pos ⟨rfl, rfl, rfl⟩]
  have e3 : ∀ j i, gF v 3 j i = gF w2 3 j i := fun j i => by
    show gF (sF (sF (sF (sF (sF w2 2 6 g (nI 0)) 2 7 g (nI 0)) 1 9 g (nI 0)) 1 10 g (nI 0)) 1 11 g (nI 0)) 3 j i = _
    rw [gF_sF, if_neg (by omega), gF_sF, if_neg (by omega), gF_sF, if_neg (by omega), gF_sF, if_neg (by omega), gF_sF, if_neg (by omega)]
  have eA : ∀ k i, gA v k i = gA w2 k i := fun _ _ => rfl
  refine ⟨v, ?_, fun tk => ?_, e71 9 (by omega), e1 11 (by omega), ?_⟩
  · have a1' : f_X3_partAll N (sF (sF (sF w 7 9 g 0) 7 10 g 0) 7 11 g 0) (2 + g) 0 = some w2 := a1
    rw [f_X1_clear]
    simp only [f_X7_clear, Option.bind_some, a1', f_X2_clear]
    rfl
  · have h0 : tN (mkT tk (cL c0)) = 0 := rfl
    refine ⟨⟨⟨by rw [h0]; omega, fun i hi => absurd hi (Nat.not_lt_zero i), e71 10 (by omega), fun t ht => absurd ht (Nat.not_lt_zero t), fun t k ht => absurd ht (Nat.not_lt_zero t), by show 0 ≤ 276; omega, e71 11 (by omega), fun p i j hp => by simp [prs_prp, prp, h0] at hp⟩, (a2.of (e3 _ _) (e3 _ _) (eA _ _) : GS v (2 + g) 0 (fun i => i)), by show 0 ≤ 24; omega, e2 6 (by omega), e2 7 (by omega), fun p a b c r hp => by simp [c0, cJ] at hp, fun t ht => absurd ht (Nat.not_lt_zero t), fun t u c ht => absurd ht (Nat.not_lt_zero t)⟩, ⟨by show 0 ≤ 12; omega, e1 9 (by omega), fun p i j hp => by simp [c0, cS] at hp⟩, ⟨by show 0 ≤ 8; omega, e1 10 (by omega), fun p i j hp => by simp [c0, cQ] at hp⟩, fun i hi => absurd hi (Nat.not_lt_zero i)⟩
  · refine ⟨fun k j i z => ?_, fun k i z => (eA _ _).trans (a3.2.1 k i (fun y => z y)), fun k i => a3.2.2.1 k i, fun k j i => a3.2.2.2 k j i⟩
    show gF (sF (sF (sF (sF (sF w2 2 6 g (nI 0)) 2 7 g (nI 0)) 1 9 g (nI 0)) 1 10 g (nI 0)) 1 11 g (nI 0)) k j i = _
    rw [gF_sF, if_neg (by omega), gF_sF, if_neg (by omega), gF_sF, if_neg (by omega), gF_sF, if_neg (by omega), gF_sF, if_neg (by omega), a3.1 _ _ _ (by show ¬ (k = 3 ∧ i = 2 + g); omega)]
    show gF (sF (sF (sF w 7 9 g (nI 0)) 7 10 g (nI 0)) 7 11 g (nI 0)) k j i = _
    rw [gF_sF, if_neg (by omega), gF_sF, if_neg (by omega), gF_sF, if_neg (by omega)]
/-- all is read, in both -/
theorem read_ok {N g n : Nat} {wx wm : Mem} {tp : List Nat} (hN : 2000 < N) (hg : g < 2) (hb : ∀ b, b ∈ tp → b < 256) (hl : tp.length ≤ 500) (hn : n ≤ tp.length) (hT : TX wx tp) (hTm : TMt wm tp) (h1 : gF wx 5 1 0 = nI n) (h2 : gR wx 5 2 0 = g) (h4 : gF wx 5 4 0 = nI 0) (h8 : gF wx 5 8 0 = nI 0) : LO (FrR g) (fun w v => FrNn (sF w 9 13 0 (nI n)) v) wx wm (f_X5_readText N wx) (f_X9_readAll N wm (nI n)) (NXt g n tp 0) := by
  obtain ⟨vx, a1, a2, a3, a4, a5⟩ := clear_ok (N := N) (w := wx) (by omega) hg
  have a5r : FrR g wx vx := a5.mono (fun _ _ _ z => by omega) (fun _ _ z => by omega)
  obtain ⟨p, q, K, hNT⟩ := NT_ex tp (n := n) (q := 0) (Nat.zero_le _)
  have hko := hNT.ko hn
  have hTv : TX vx tp := ⟨(a5.1 _ _ _ (by omega)).trans hT.1, fun i hi => by rw [a5.2.1 30 0 (by omega)]; exact hT.2 i hi⟩
  have g1 : gF vx 5 1 0 = nI n := (a5.1 _ _ _ (by omega)).trans h1
  have g8 : gF vx 5 8 0 = nI 0 := (a5.1 _ _ _ (by omega)).trans h8
  have g4 : gF vx 5 4 0 = nI 0 := (a5.1 _ _ _ (by omega)).trans h4
  have g2 : gR vx 5 2 0 = g := (a5.2.2.2 _ _ _).trans h2
  obtain ⟨ux, b1, b2, b3, b4, b5⟩ := adv_ok (N := N) (by omega) hTv hb hl hn g1 g8 hNT
  let um0 : Mem := sF (sF (sF (sF (sF (sF (sF wm 9 13 0 (nI n)) 9 15 0 (nI 0)) 9 20 0 (nI 0)) 9 21 0 (nI 0)) 9 22 0 (nI 0)) 9 23 0 (nI 0)) 9 24 0 (nI 0)
  have hT0 : TMt um0 tp := hTm
  have k13 : gF um0 9 13 0 = nI n := rfl
  have k15 : gF um0 9 15 0 = nI 0 := rfl
  have k20 : gF um0 9 20 0 = nI 0 := rfl
  have k21 : gF um0 9 21 0 = nI 0 := rfl
  have k22 : gF um0 9 22 0 = nI 0 := rfl
  have k23 : gF um0 9 23 0 = nI 0 := rfl
  have k24 : gF um0 9 24 0 = nI 0 := rfl
  obtain ⟨um, c1, c2, c3, c4, c5⟩ := goes_ok (N := N) (by omega) hT0 hb hl hn k13 k15 hNT
  have hXv : RXt vx g n tp [] [] [] [] := ⟨⟨hTv, g1, g2, g4⟩, ⟨a3, fun i hi => absurd hi (Nat.not_lt_zero i)⟩, fun t ht => absurd ht (Nat.not_lt_zero t), a4, fun tk _ => a2 tk⟩
  have hMv : RM9 um0 n tp [] [] [] [] := ⟨⟨hT0, k13⟩, ⟨k20, fun i hi => absurd hi (Nat.not_lt_zero i)⟩, ⟨k21, fun t ht => absurd ht (Nat.not_lt_zero t)⟩, ⟨k24, fun p r hp => by simp at hp⟩, fun tk _ => ⟨k22, k23⟩⟩
  have hPr : RPr g n tp [] [] [] [] := ⟨⟨hg, hn, hl, hb⟩, ⟨by show 0 ≤ 8; omega, rfl, fun i => by show 0 ≤ 3; omega⟩, ⟨(fun l hl => by cases hl), (fun l hl => by cases hl), (fun x hx => by cases hx)⟩, fun tk _ => ⟨trivial, rfl⟩⟩
  have TR0 : TR ux um g n tp [] [] [] [] p q K := ⟨hXv.fr b5 (fun _ _ _ z => by omega) (fun _ _ z => z.elim), hMv.pt c5.q (fun x hx => by cases hx), hPr, b2, c2, ⟨b3, c3⟩, fun z => ⟨b4 z, c4 z⟩, hko.1, hko.2.2⟩
  obtain ⟨yx, ym, l1, l2, l3⟩ := text_lp (N := N) (by omega) (n + 1) N N 0 ux um [] [] [] [] p q K (by omega) (by omega) (by omega) (Nat.zero_le _) TR0
  have hg2 : (g < 2) = True := eq_true hg
  have ex : f_X5_readText N wx = lp_X5_readText_13 (fun (w_6 : Mem) => (f_X5_readText_63 N w_6)) N N ux (nI 0) := by
    rw [f_X5_readText]
    simp only [h2, hg2, ↓reduceIte, a1, Option.bind_some, b1]
    rfl
  have em : f_X9_readAll N wm (nI n) = Option.bind (f_X9_readLine N um) (fun z3 => if z3.2 = (0 : Int32) then some (z3.1, (0 : Int32)) else lp_X9_readAll_48 (fun (w_5 : Mem) => (f_X9_readAll_68 N w_5)) N N z3.1) := by
    have c1' : f_X9_goesOn N (sF (sF (sF (sF (sF (sF (sF wm 9 13 0 (nI n)) 9 15 0 0) 9 20 0 0) 9 21 0 0) 9 22 0 0) 9 23 0 0) 9 24 0 0) = some um := c1
    rw [f_X9_readAll, c1', Option.bind_some]
  refine ⟨yx, ym, (a5r.tr (Fr5.r b5)).tr l1, ?_, ?_⟩
  · have : FrNn (sF wm 9 13 0 (nI n)) um0 := (((((FrNn.F (by omega)).tr (FrNn.F (by omega))).tr (FrNn.F (by omega))).tr (FrNn.F (by omega))).tr (FrNn.F (by omega))).tr (FrNn.F (by omega))
    exact (this.tr c5.n).tr l2
  · rw [ex, em]; exact l3
