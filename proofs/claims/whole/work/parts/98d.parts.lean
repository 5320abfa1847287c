/-! text: the parts of a term -/
def FrP (at_ : Nat) (w v : Mem) : Prop := Fr (fun k j i => k = 9 ∧ (14 ≤ j ∧ j ≤ 19) ∧ i = 0) (fun k i => k = 43 ∧ i = 0) w v ∧ ∀ x, x < at_ + 1 → gA v 43 0 x = gA w 43 0 x
theorem FrP.tr {a : Nat} {w v u : Mem} (h : FrP a w v) (k : FrP a v u) : FrP a w u := ⟨h.1.tr k.1, fun x z => (k.2 x z).trans (h.2 x z)⟩
theorem Fr9.p {a : Nat} {w v : Mem} (h : Fr9 w v) : FrP a w v := ⟨h.mono (fun _ _ _ z => by omega) (fun _ _ z => z.elim), fun x _ => by rw [h.2.1 _ _ (fun z => z)]⟩
theorem mE_p {a : Nat} (w : Mem) (e : Int32) : FrP a w (mE w e) := ⟨⟨fun k j i z => by unfold mE; rw [gF_sF, if_neg (by omega), gF_sF, if_neg (by omega)], fun _ _ _ => rfl, fun _ _ => rfl, fun _ _ _ => rfl⟩, fun _ _ => rfl⟩
theorem FrP.A {a x : Nat} {w : Mem} {y : Int32} (h : a + 1 ≤ x) : FrP a w (sA w 43 0 x y) := ⟨⟨fun _ _ _ _ => rfl, fun k i z => by rw [gA_sA_ne (fun e => z e)], fun _ _ => rfl, fun _ _ _ => rfl⟩, fun z hz => by rw [gA_sA, if_neg (by omega)]⟩
theorem FrP.n {a : Nat} {w v : Mem} (h : FrP a w v) (ha : 192 ≤ a) : FrNn w v := ⟨fun k j i z => h.1.1 k j i (by omega), fun k i z => h.1.2.1 k i (by omega), fun x _ => by rw [h.1.2.1 41 0 (by omega)], fun x _ => by rw [h.1.2.1 42 0 (by omega)], fun x hx => h.2 x (by omega), fun x _ => by rw [h.1.2.1 44 0 (by omega)]⟩
theorem LO.pre {Fx Fm : Mem → Mem → Prop} {wx0 wm0 wx wm : Mem} {ox om : Option (Mem × Int32)} {G G' : Mem → Mem → Prop} (h : LO Fx Fm wx wm ox om G') (tx : ∀ {a b c : Mem}, Fx a b → Fx b c → Fx a c) (tm : ∀ {a b c : Mem}, Fm a b → Fm b c → Fm a c) (hx : Fx wx0 wx) (hm : Fm wm0 wm) (hG : ∀ vx vm, G' vx vm → G vx vm) : LO Fx Fm wx0 wm0 ox om G := by
  obtain ⟨vx, vm, a, b, c⟩ := h
  refine ⟨vx, vm, tx hx a, tm hm b, ?_⟩
  rcases c with ⟨c1, c2, c3⟩ | c
  · exact Or.inl ⟨c1, c2, hG _ _ c3⟩
  · exact Or.inr c
def PI (wx wm : Mem) (a : Nat) (ps : List Nat) (m : Nat) : Prop := ∀ j, j < ps.length → ps.getD j 0 < m ∧ gA wx 29 0 j = nI (ps.getD j 0) ∧ gA wm 43 0 (a + 1 + j) = nI (ps.getD j 0)
theorem PI.mem {wx wm vx vm : Mem} {a m : Nat} {ps : List Nat} (h : PI wx wm a ps m) (hx : gA vx 29 0 = gA wx 29 0) (hm : gA vm 43 0 = gA wm 43 0) : PI vx vm a ps m := fun j hj => by rw [hx, hm]; exact h j hj
theorem parts_lp {N g n a T : Nat} {tp : List Nat} {FL : List (List Nat)} {tg : List Nat} {NL : List (List Nat)} {rs : List Row} (hN : 600 < N) (ha : a = 4 * (48 + rs.length)) (hrs : rs.length < 48) (hT : T ≤ 3) : ∀ (r k fx fm : Nat) (wx wm : Mem) (p q : Nat) (K : Kd) (ps : List Nat), k + r = T → 0 < r → r < fx → r < fm → TR wx wm g n tp FL tg NL rs p q K → K ≠ .bad → q ≤ n → ps.length = k → PI wx wm a ps NL.length → LO FrY (FrP a) wx wm (lp_X5_readParts_63 (fun (w_3 : Mem) => (f_X5_readParts_159 N w_3)) N (nI T) fx wx (nI k)) (lp_X9_readParts_59 (fun (w_1 : Mem) => (f_X9_readParts_178 N w_1)) N (nI a) (nI T) fm wm (nI k)) (fun vx vm => ∃ ps' p' q' K', TR vx vm g n tp FL tg NL rs p' q' K' ∧ ps'.length = T ∧ PI vx vm a ps' NL.length ∧ q ≤ p') := by
  intro r
  induction r with
  | zero => intro k fx fm wx wm p q K ps hk h0; omega
  | succ r ih =>
    intro k fx fm wx wm p q K ps hk h0 hfx hfm hTR hK hq hps hPI
    obtain ⟨fx, rfl⟩ : ∃ f, fx = f + 1 := ⟨fx - 1, by omega⟩
    obtain ⟨fm, rfl⟩ : ∃ f, fm = f + 1 := ⟨fm - 1, by omega⟩
    obtain ⟨vx, vm, p1, q1, K1, a1, a2, a3, a4, a5, a6⟩ := step_ok hN hTR hK hq
    have hg : g < 2 := hTR.2.2.1.1.1
    have hg2 : (g < 2) = True := eq_true hg
    have hR : gR vx 5 2 0 = g := a3.1.1.2.2.1
    have X0 : ((nI T : Int32) ≤ nI k) = False := le_tf (by omega) (by omega) (by omega)
    have X1 : ((3 : Int32) ≤ nI k) = False := le_tf (a := 3) (by omega) (by omega) (by omega)
    have X2 : inb (nI k) 3 = true := inb_t (by omega) (by omega)
    have X3 : (nI k).toNatClampNeg = k := cl_t (by omega)
    have X4 : nI k + (1 : Int32) = nI (k + 1) := by rw [li1, q_add]
    have z10 : ((1 : Int32) = 0) = False := eq_false (by decide)
    have E1 : (nI a + (1 : Int32)) + nI k = nI (a + 1 + k) := by rw [li1, q_add, q_add]
    have E2 : inb (nI (a + 1 + k)) 384 = true := inb_t (by omega) (by omega)
    have E3 : (nI (a + 1 + k)).toNatClampNeg = a + 1 + k := cl_t (by omega)
    have gs : ∀ y, gA (sA vm 43 0 (a + 1 + k) y) 43 0 (a + 1 + k) = y := fun y => by rw [gA_sA, if_pos ⟨rfl, rfl, rfl⟩]
    have hQ : ∀ y, FrQ FL.length NL.length rs.length vm (sA vm 43 0 (a + 1 + k) y) := fun y => FrQ.A (by omega)
    rcases told_ok (N := N) (by omega) a3 with ⟨ls, t, rfl, ht, t1, t2, t3, t4⟩ | ⟨t1, t3⟩ | ⟨t1, t3, t4⟩
    · -- a term
      have hx29 : Fr (fun _ _ _ => False) (fun k i => k = 29) vx (sA vx 29 0 k (nI t)) := ⟨fun _ _ _ _ => rfl, fun k' i z => by rw [gA_sA_ne (fun e => z e.1)], fun _ _ => rfl, fun _ _ _ => rfl⟩
      have T1 : TR (sA vx 29 0 k (nI t)) (sA vm 43 0 (a + 1 + k) (nI t)) g n tp FL tg NL rs p1 q1 (.word ls) := a3.mem hx29 (fun _ _ _ z => z.elim) (fun _ _ z => z) (hQ _) (fun _ _ _ => rfl)
      have hko : KO tp n p1 q1 (.word ls) := a3.2.2.2.2.2.2.2.1
      obtain ⟨ux, um, p2, q2, K2, b1, b2, b3, b4, b5, b6⟩ := step_ok hN T1 (fun z => by cases z) hko.2.2.2
      have h24 := hTR.2.2.1.nl
      have fX : FrY wx ux := a5.y.tr ((show FrY vx (sA vx 29 0 k (nI t)) from ⟨fun _ _ _ _ => rfl, fun k' i z => by rw [gA_sA_ne (fun e => z e)], fun _ _ => rfl, fun _ _ _ => rfl⟩).tr b5.y)
      have fM : FrP a wm um := (a6.p.tr (FrP.A (by omega))).tr b6.p
      have k2 : KO tp n p2 q2 K2 := b3.2.2.2.2.2.2.2.1
      have s41 : f_X5_isSign N ux (41 : Int32) = some (nI (b01 (K2 = .sgn 41))) := xSign (c := 41) b3.2.2.2.1 k2 (by omega)
      have s44 : f_X5_isSign N ux (44 : Int32) = some (nI (b01 (K2 = .sgn 44))) := xSign (c := 44) b3.2.2.2.1 k2 (by omega)
      have m41 : (gF um 9 16 0 = (41 : Int32)) = (K2 = .sgn 41) := mSign (c := 41) b3.2.2.2.2.1 k2 (by unfold sig; omega)
      have m44 : (gF um 9 16 0 = (44 : Int32)) = (K2 = .sgn 44) := mSign (c := 44) b3.2.2.2.2.1 k2 (by unfold sig; omega)
      have hn1 : (nI t = (-1 : Int32)) = False := eq_n1 (by omega)
      have z1n : ((nI 1 : Int32) = 0) = False := eq_false (by decide)
      have z0n : ((nI 0 : Int32) = 0) = True := eq_true rfl
      have hps2 : PI ux um a (ps ++ [t]) NL.length := by
        intro j hj
        rw [List.length_append] at hj
        have hj2 : j < ps.length + 1 := hj
        rw [getD_snoc, b5.2.1 29 0 (fun z => z), b6.2.1 43 0 (fun z => z), gA_sA, gA_sA]
        by_cases e : j = ps.length
        · rw [if_pos e, if_pos ⟨rfl, rfl, by omega⟩, if_pos ⟨rfl, rfl, by omega⟩]; exact ⟨ht, rfl, rfl⟩
        · rw [if_neg e, if_neg (by omega), if_neg (by omega), a5.2.1 29 0 (fun z => z), a6.2.1 43 0 (fun z => z)]
          exact hPI j (by omega)
      have hps3 : (ps ++ [t]).length = k + 1 := by rw [List.length_append, hps]; rfl
      have M5 : (nI k = nI T - (1 : Int32)) = (k + 1 = T) := by
        rw [li1, q_sub (by omega)]
        by_cases e : k + 1 = T
        · rw [eq_tt (show k = T - 1 by omega)]; exact (eq_true e).symm
        · rw [eq_tf (by omega) (by omega) (by omega)]; exact (eq_false e).symm
      have X5 : (nI T ≤ nI (k + 1)) = (k + 1 = T) := by
        by_cases e : k + 1 = T
        · rw [le_tt (by omega) (by omega) (by omega)]; exact (eq_true e).symm
        · rw [le_tf (by omega) (by omega) (by omega)]; exact (eq_false e).symm
      have z41 : ((41 : Int32) = 44) = False := eq_false (by decide)
      by_cases c41 : K2 = .sgn 41
      · have c44 : (K2 = .sgn 44) = False := eq_false (fun z => by rw [c41] at z; cases z)
        rw [b01_t c41] at s41
        have m41' : (gF um 9 16 0 = (41 : Int32)) = True := m41.trans (eq_true c41)
        rw [c44] at m44
        have hq2 : q2 ≤ n := by rw [c41] at k2; exact k2.2.2
        by_cases hl : k + 1 = T
        · have hlT := eq_true hl
          obtain ⟨yx, ym, p3, q3, K3, d1, d2, d3, d4, d5, d6⟩ := step_ok hN b3 (fun z => by rw [c41] at z; cases z) hq2
          refine ⟨yx, ym, fX.tr d5.y, fM.tr d6.p, Or.inl ⟨?_, ?_, ps ++ [t], p3, q3, K3, d3, by rw [hps3]; exact hl, hps2.mem (d5.2.1 29 0 (fun z => z)) (d6.2.1 43 0 (fun z => z)), ?_⟩⟩
          · rw [lp_X5_readParts_63]
            simp only [X0, X1, ↓reduceIte, a1, Option.bind_some, t1, z10, hR, hg2, t2, X2, X3, b1, s41, z1n, X4, X5, hlT, d1]
          · obtain ⟨fm, rfl⟩ : ∃ f, fm = f + 1 := ⟨fm - 1, by omega⟩
            rw [lp_X9_readParts_59]
            simp only [X0, ↓reduceIte, a2, Option.bind_some, t3, z10, t4, E1, E2, E3, gs, hn1, b2, M5, hlT, f_X9_readParts_133_59_s1, m41', X4]
            rw [lp_X9_readParts_59]
            simp only [X5, hlT, ↓reduceIte, f_X9_readParts_178, d2, Option.bind_some]
          · have := b3.2.2.2.2.2.2.2.2
            have w1 := k2
            rw [c41] at w1
            have := w1.2.1
            have := hko.2.2.1
            omega
        · have hlF := eq_false hl
          refine LO.fail (fX.tr (xF_fr _ _)) (fM.tr (mE_p _ _)) b3.2.2.2 (e := 5) ?_ ?_
          · rw [lp_X5_readParts_63]
            simp only [X0, X1, ↓reduceIte, a1, Option.bind_some, t1, z10, hR, hg2, t2, X2, X3, b1, s41, z1n, X4, X5, hlF, fail_eq, eq_self, true_or]
          · rw [lp_X9_readParts_59]
            simp only [X0, ↓reduceIte, a2, Option.bind_some, t3, z10, t4, E1, E2, E3, gs, hn1, b2, M5, hlF, f_X9_readParts_133_59_s1, m41', m44, errs_eq, eq_self, true_or]
      · rw [b01_f c41] at s41
        have m41' : (gF um 9 16 0 = (41 : Int32)) = False := m41.trans (eq_false c41)
        by_cases c44 : K2 = .sgn 44
        · rw [b01_t c44] at s44
          have m44' : (gF um 9 16 0 = (44 : Int32)) = True := m44.trans (eq_true c44)
          have hq2 : q2 ≤ n := by rw [c44] at k2; exact k2.2.2
          by_cases hl : k + 1 = T
          · have hlT := eq_true hl
            refine LO.fail (fX.tr (xF_fr _ _)) (fM.tr (mE_p _ _)) b3.2.2.2 (e := 5) ?_ ?_
            · obtain ⟨fx, rfl⟩ : ∃ f, fx = f + 1 := ⟨fx - 1, by omega⟩
              rw [lp_X5_readParts_63]
              simp only [X0, X1, ↓reduceIte, a1, Option.bind_some, t1, z10, hR, hg2, t2, X2, X3, b1, s41, s44, z0n, z1n, X4]
              rw [lp_X5_readParts_63]
              simp only [X5, hlT, ↓reduceIte, f_X5_readParts_159, fail_eq, Option.bind_some, eq_self, true_or]
            · rw [lp_X9_readParts_59]
              simp only [X0, ↓reduceIte, a2, Option.bind_some, t3, z10, t4, E1, E2, E3, gs, hn1, b2, M5, hlT, f_X9_readParts_133_59_s1, m41', m44', errs_eq, eq_self, true_or]
          · have hlF := eq_false hl
            have IH := ih (k + 1) fx fm ux um p2 q2 K2 (ps ++ [t]) (by omega) (by omega) (by omega) (by omega) b3 (fun z => by rw [c44] at z; cases z) hq2 hps3 hps2
            have ex : lp_X5_readParts_63 (fun (w_3 : Mem) => (f_X5_readParts_159 N w_3)) N (nI T) (fx + 1) wx (nI k) = lp_X5_readParts_63 (fun (w_3 : Mem) => (f_X5_readParts_159 N w_3)) N (nI T) fx ux (nI (k + 1)) := by
              rw [lp_X5_readParts_63]
              simp only [X0, X1, ↓reduceIte, a1, Option.bind_some, t1, z10, hR, hg2, t2, X2, X3, b1, s41, s44, z0n, z1n, X4]
            have em : lp_X9_readParts_59 (fun (w_1 : Mem) => (f_X9_readParts_178 N w_1)) N (nI a) (nI T) (fm + 1) wm (nI k) = lp_X9_readParts_59 (fun (w_1 : Mem) => (f_X9_readParts_178 N w_1)) N (nI a) (nI T) fm um (nI (k + 1)) := by
              rw [lp_X9_readParts_59]
              simp only [X0, ↓reduceIte, a2, Option.bind_some, t3, z10, t4, E1, E2, E3, gs, hn1, b2, M5, hlF, f_X9_readParts_133_59_s1, m44', X4]
            rw [ex, em]
            refine IH.pre (fun h k => h.tr k) (fun h k => h.tr k) fX fM (fun yx ym ⟨ps', p', q', K', h1, h2, h3, h4⟩ => ⟨ps', p', q', K', h1, h2, h3, ?_⟩)
            have w1 := k2
            rw [c44] at w1
            have := w1.2.1
            have := hko.2.2.1
            omega
        · rw [b01_f c44] at s44
          have m44' : (gF um 9 16 0 = (44 : Int32)) = False := m44.trans (eq_false c44)
          refine LO.fail (fX.tr (xF_fr _ _)) (fM.tr (mE_p _ _)) b3.2.2.2 (e := 1) ?_ ?_
          · rw [lp_X5_readParts_63]
            simp only [X0, X1, ↓reduceIte, a1, Option.bind_some, t1, z10, hR, hg2, t2, X2, X3, b1, s41, s44, z0n, X4, fail_eq, eq_self, true_or]
          · rw [lp_X9_readParts_59]
            by_cases hl : k + 1 = T
            · have hlT := eq_true hl
              simp only [X0, ↓reduceIte, a2, Option.bind_some, t3, z10, t4, E1, E2, E3, gs, hn1, b2, M5, hlT, f_X9_readParts_133_59_s1, m41', m44', errs_eq, eq_self, true_or]
            · have hlF := eq_false hl
              simp only [X0, ↓reduceIte, a2, Option.bind_some, t3, z10, t4, E1, E2, E3, gs, hn1, b2, M5, hlF, f_X9_readParts_133_59_s1, m41', m44', errs_eq, eq_self, true_or]
    · -- no name
      refine LO.fail (a5.y.tr (xF_fr _ _)) (a6.p.tr (mE_p _ _)) a3.2.2.2 (e := 1) ?_ ?_
      · rw [lp_X5_readParts_63]
        simp only [X0, X1, ↓reduceIte, a1, Option.bind_some, t1, eq_self]
      · rw [lp_X9_readParts_59]
        simp only [X0, ↓reduceIte, a2, Option.bind_some, t3, errs_eq, eq_self, true_or]
    · -- no term
      have T1 : TR vx (sA vm 43 0 (a + 1 + k) (-1)) g n tp FL tg NL rs p1 q1 K1 := a3.mem (P := fun _ _ _ => False) (Q := fun _ _ => False) Fr.rf (fun _ _ _ z => z.elim) (fun _ _ z => z.elim) (hQ _) (fun _ _ _ => rfl)
      refine LO.fail (a5.y.tr (xF_fr _ _)) ((a6.p.tr (FrP.A (by omega))).tr (mE_p _ _)) T1.2.2.2 (e := 3) ?_ ?_
      · rw [lp_X5_readParts_63]
        simp only [X0, X1, ↓reduceIte, a1, Option.bind_some, t1, eq_self]
      · rw [lp_X9_readParts_59]
        simp only [X0, ↓reduceIte, a2, Option.bind_some, t3, z10, t4, E1, E2, E3, gs, errs_eq, eq_self, true_or]
/-- parts, in both -/
theorem parts_ok {N g n a T p q : Nat} {wx wm : Mem} {tp : List Nat} {FL : List (List Nat)} {tg : List Nat} {NL : List (List Nat)} {rs : List Row} {K : Kd} (hN : 600 < N) (ha : a = 4 * (48 + rs.length)) (hrs : rs.length < 48) (hT : T ≤ 3) (h : TR wx wm g n tp FL tg NL rs p q K) (hno : ¬ (T = 0 ∧ K ≠ .sgn 40 ∧ K ≠ .eot ∧ K ≠ .sgn 59)) : LO FrY (FrP a) wx wm (f_X5_readParts N wx (nI T)) (f_X9_readParts N wm (nI a) (nI T)) (fun vx vm => ∃ ps' p' q' K', TR vx vm g n tp FL tg NL rs p' q' K' ∧ ps'.length = T ∧ PI vx vm a ps' NL.length ∧ p ≤ p') := by
  have hk : KO tp n p q K := h.2.2.2.2.2.2.2.1
  have s40 : f_X5_isSign N wx (40 : Int32) = some (nI (b01 (K = .sgn 40))) := xSign (c := 40) h.2.2.2.1 hk (by omega)
  have s59 : f_X5_isSign N wx (59 : Int32) = some (nI (b01 (K = .sgn 59))) := xSign (c := 59) h.2.2.2.1 hk (by omega)
  have m40 : (gF wm 9 16 0 = (40 : Int32)) = (K = .sgn 40) := mSign (c := 40) h.2.2.2.2.1 hk (by unfold sig; omega)
  have m59 : (gF wm 9 16 0 = (59 : Int32)) = (K = .sgn 59) := mSign (c := 59) h.2.2.2.2.1 hk (by unfold sig; omega)
  have m0 : (gF wm 9 16 0 = (0 : Int32)) = (K = .eot) := mEot h.2.2.2.2.1 hk
  have x0 : (gF wx 5 6 0 = (0 : Int32)) = (K = .eot) := xEot h.2.2.2.1
  have z10 : ((1 : Int32) = 0) = False := eq_false (by decide)
  have z1n : ((nI 1 : Int32) = 0) = False := eq_false (by decide)
  have z0n : ((nI 0 : Int32) = 0) = True := eq_true rfl
  have zT : (nI T = (0 : Int32)) = (T = 0) := by
    by_cases e : T = 0
    · rw [e]; exact propext ⟨fun _ => rfl, fun _ => rfl⟩
    · rw [show (nI T = (0 : Int32)) = False from eq_tf (b := 0) (by omega) (by omega) e]; exact (eq_false e).symm
  by_cases c40 : K = .sgn 40
  · rw [b01_t c40] at s40
    have m40' := m40.trans (eq_true c40)
    by_cases hT0 : T = 0
    · have zT' := zT.trans (eq_true hT0)
      refine LO.fail (xF_fr _ _) (mE_p _ _) h.2.2.2 (e := 5) ?_ ?_
      · rw [f_X5_readParts]
        obtain ⟨f', hf'⟩ : ∃ f, N = f + 1 := ⟨N - 1, by omega⟩
        have hl : lp_X5_readParts_63 (fun (w_3 : Mem) => (f_X5_readParts_159 N w_3)) N (nI T) N wx (0 : Int32) = some (xF wx 5, 0) := by
          have hle : (nI T ≤ (0 : Int32)) = True := le_tt (b := 0) (by omega) (by omega) (by omega)
          have : ∀ M, M = f' + 1 → lp_X5_readParts_63 (fun (w_3 : Mem) => (f_X5_readParts_159 N w_3)) N (nI T) M wx (0 : Int32) = some (xF wx 5, 0) := fun M hM => by
            rw [hM, lp_X5_readParts_63]
            simp only [hle, ↓reduceIte, f_X5_readParts_159, fail_eq, Option.bind_some, eq_self, true_or]
          exact this N hf'
        simp only [s40, Option.bind_some, z1n, ↓reduceIte, hl]
      · rw [f_X9_readParts]
        simp only [m40', ↓reduceIte, zT', errs_eq, Option.bind_some, eq_self, true_or]
    · have zT' := zT.trans (eq_false hT0)
      have hq2 : q ≤ n := by rw [c40] at hk; exact hk.2.2
      have L := parts_lp hN ha hrs hT T 0 N N wx wm p q K [] (by omega) (by omega) (by omega) (by omega) h (fun z => by rw [c40] at z; cases z) hq2 rfl (fun j hj => absurd hj (Nat.not_lt_zero j))
      have ex : f_X5_readParts N wx (nI T) = lp_X5_readParts_63 (fun (w_3 : Mem) => (f_X5_readParts_159 N w_3)) N (nI T) N wx (nI 0) := by
        rw [f_X5_readParts]
        simp only [s40, Option.bind_some, z1n, ↓reduceIte]
        rfl
      have em : f_X9_readParts N wm (nI a) (nI T) = lp_X9_readParts_59 (fun (w_1 : Mem) => (f_X9_readParts_178 N w_1)) N (nI a) (nI T) N wm (nI 0) := by
        rw [f_X9_readParts]
        simp only [m40', zT', ↓reduceIte]
        rfl
      rw [ex, em]
      obtain ⟨vx, vm, l1, l2, l3⟩ := L
      refine ⟨vx, vm, l1, l2, ?_⟩
      rcases l3 with ⟨l3, l4, ps', p', q', K', l5, l6, l7, l8⟩ | l3
      · refine Or.inl ⟨l3, l4, ps', p', q', K', l5, l6, l7, ?_⟩
        rw [c40] at hk
        have := hk.2.1
        omega
      · exact Or.inr l3
  · rw [b01_f c40] at s40
    have m40' := m40.trans (eq_false c40)
    by_cases hov : K = .eot ∨ K = .sgn 59
    · by_cases hT0 : T = 0
      · have zT' := zT.trans (eq_true hT0)
        refine ⟨wx, wm, Fr.rf, ⟨Fr.rf, fun _ _ => rfl⟩, Or.inl ⟨?_, ?_, [], p, q, K, h, hT0.symm, fun j hj => absurd hj (Nat.not_lt_zero j), Nat.le_refl _⟩⟩
        · rw [f_X5_readParts]
          rcases hov with e | e
          · have x0' := x0.trans (eq_true e)
            simp only [s40, Option.bind_some, z0n, ↓reduceIte, x0', z10, zT']
          · have x0' := x0.trans (eq_false (fun z => by rw [e] at z; cases z))
            rw [b01_t e] at s59
            simp only [s40, Option.bind_some, z0n, ↓reduceIte, x0', s59, z1n, z10, zT']
        · rw [f_X9_readParts]
          simp only [m40', zT', ↓reduceIte]
      · have zT' := zT.trans (eq_false hT0)
        refine LO.fail (xF_fr _ _) (mE_p _ _) h.2.2.2 (e := 5) ?_ ?_
        · rw [f_X5_readParts]
          rcases hov with e | e
          · have x0' := x0.trans (eq_true e)
            simp only [s40, Option.bind_some, z0n, ↓reduceIte, x0', z10, zT', f_X5_readParts_39, fail_eq, eq_self]
          · have x0' := x0.trans (eq_false (fun z => by rw [e] at z; cases z))
            rw [b01_t e] at s59
            simp only [s40, Option.bind_some, z0n, ↓reduceIte, x0', s59, z1n, z10, zT', f_X5_readParts_39, fail_eq, eq_self]
        · rw [f_X9_readParts]
          rcases hov with e | e
          · have m0' := m0.trans (eq_true e)
            have m59' := m59.trans (eq_false (fun z => by rw [e] at z; cases z))
            simp only [m40', zT', m0', m59', ↓reduceIte, errs_eq, Option.bind_some]
          · have m59' := m59.trans (eq_true e)
            simp only [m40', zT', m59', ↓reduceIte, errs_eq, Option.bind_some]
    · have x0' := x0.trans (eq_false (fun z => hov (Or.inl z)))
      have m0' := m0.trans (eq_false (fun z => hov (Or.inl z)))
      have m59' := m59.trans (eq_false (fun z => hov (Or.inr z)))
      rw [b01_f (fun z => hov (Or.inr z))] at s59
      have zT' := zT.trans (eq_false (fun z => hno ⟨z, c40, fun y => hov (Or.inl y), fun y => hov (Or.inr y)⟩))
      refine LO.fail (xF_fr _ _) (mE_p _ _) h.2.2.2 (e := 1) ?_ ?_
      · rw [f_X5_readParts]
        simp only [s40, Option.bind_some, z0n, ↓reduceIte, x0', s59, f_X5_readParts_39, fail_eq, eq_self]
      · rw [f_X9_readParts]
        simp only [m40', zT', m0', m59', ↓reduceIte, errs_eq, Option.bind_some]
/-- no parts wanted, and no line's end: the class tells it at once, the model behind the line -/
theorem parts_no {N g n p q : Nat} {a : Int32} {wx wm : Mem} {tp : List Nat} {FL : List (List Nat)} {tg : List Nat} {NL : List (List Nat)} {rs : List Row} {K : Kd} (h : TR wx wm g n tp FL tg NL rs p q K) (c40 : K ≠ .sgn 40) (h0 : K ≠ .eot) (h59 : K ≠ .sgn 59) : f_X5_readParts N wx (nI 0) = some (xF wx 1, 0) ∧ f_X9_readParts N wm a (nI 0) = some (wm, 1) ∧ gF wm 9 16 0 ≠ (0 : Int32) ∧ gF wm 9 16 0 ≠ (59 : Int32) := by
  have hk : KO tp n p q K := h.2.2.2.2.2.2.2.1
  have s40 : f_X5_isSign N wx (40 : Int32) = some (nI (b01 (K = .sgn 40))) := xSign (c := 40) h.2.2.2.1 hk (by omega)
  have s59 : f_X5_isSign N wx (59 : Int32) = some (nI (b01 (K = .sgn 59))) := xSign (c := 59) h.2.2.2.1 hk (by omega)
  have m40 : (gF wm 9 16 0 = (40 : Int32)) = (K = .sgn 40) := mSign (c := 40) h.2.2.2.2.1 hk (by unfold sig; omega)
  have m59 : (gF wm 9 16 0 = (59 : Int32)) = (K = .sgn 59) := mSign (c := 59) h.2.2.2.2.1 hk (by unfold sig; omega)
  have m0 : (gF wm 9 16 0 = (0 : Int32)) = (K = .eot) := mEot h.2.2.2.2.1 hk
  have x0 : (gF wx 5 6 0 = (0 : Int32)) = (K = .eot) := xEot h.2.2.2.1
  have z0n : ((nI 0 : Int32) = 0) = True := eq_true rfl
  have m40' := m40.trans (eq_false c40)
  have x0' := x0.trans (eq_false h0)
  rw [b01_f c40] at s40
  rw [b01_f h59] at s59
  refine ⟨?_, ?_, fun z => h0 (m0.mp z), fun z => h59 (m59.mp z)⟩
  · rw [f_X5_readParts]
    simp only [s40, Option.bind_some, z0n, ↓reduceIte, x0', s59, f_X5_readParts_39, fail_eq, eq_self]
  · rw [f_X9_readParts]
    simp only [m40', z0n, ↓reduceIte]
