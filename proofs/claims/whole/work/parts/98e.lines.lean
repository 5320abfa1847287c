/-! text: lines -/
def NXt (g n : Nat) (tp : List Nat) (q : Nat) (vx vm : Mem) : Prop := ∃ FL tg NL rs p' q' K', TR vx vm g n tp FL tg NL rs p' q' K' ∧ q ≤ p'
/-- a line, in both -/
def LL (g n : Nat) (tp : List Nat) (q : Nat) (wx0 wm0 : Mem) (ox om : Option (Mem × Int32)) : Prop := LO (FrR g) FrNn wx0 wm0 ox om (NXt g n tp q) ∨ ∃ wx wm, FrR g wx0 wx ∧ FrNn wm0 wm ∧ ox = some (wx, 0) ∧ om = some (wm, 1) ∧ gF wx 5 4 0 = nI 1 ∧ gF wm 9 16 0 ≠ (0 : Int32) ∧ gF wm 9 16 0 ≠ (59 : Int32) ∧ gF wx 5 5 0 = gF wm 9 14 0
theorem FrR.tr2 {g : Nat} {a b c : Mem} (h : FrR g a b) (k : FrR g b c) : FrR g a c := h.tr k
theorem FrX.r {g : Nat} {w v : Mem} (h : FrX g w v) : FrR g w v := h.mono (fun _ _ _ z => by omega) (fun _ _ z => by omega)
theorem Fr5.r {g : Nat} {w v : Mem} (h : Fr5 w v) : FrR g w v := h.y.r
theorem fun_ok {N g n p q : Nat} {wx wm : Mem} {tp : List Nat} {FL : List (List Nat)} {tg : List Nat} {NL : List (List Nat)} {rs : List Row} {K : Kd} (hN : 600 < N) (h : TR wx wm g n tp FL tg NL rs p q K) (hK : K ≠ .bad) (hq : q ≤ n) : LO (FrR g) FrNn wx wm (f_X5_readFunction N wx) (f_X9_readFun N wm) (NXt g n tp q) := by
  have hg : g < 2 := h.2.2.1.1.1
  have hg2 : (g < 2) = True := eq_true hg
  have hR : gR wx 5 2 0 = g := h.1.1.2.2.1
  have h9 : gF wx 7 9 g = nI FL.length := h.1.2.1.1
  have h20 : gF wm 9 20 0 = nI FL.length := h.2.1.2.1.1
  have hF8 : FL.length ≤ 8 := h.2.2.1.2.1.1
  have z10 : ((1 : Int32) = 0) = False := eq_false (by decide)
  by_cases z8 : FL.length < 8
  · have c8 : (nI FL.length < (8 : Int32)) = True := lt_tt (b := 8) (by omega) (by omega) z8
    have m8 : (nI FL.length = (8 : Int32)) = False := eq_tf (b := 8) (by omega) (by omega) (by omega)
    obtain ⟨vx, vm, p1, q1, K1, a1, a2, a3, a4, a5, a6⟩ := step_ok hN h hK hq
    have h20v : gF vm 9 20 0 = nI FL.length := a3.2.1.2.1.1
    rcases new_ok (N := N) (by omega) a3 with ⟨ls, rfl, hls, t1, t2, t3, t4⟩ | ⟨t1, t2⟩ | ⟨t1, t2, t3⟩
    · have k1 : KO tp n p1 q1 (.word ls) := a3.2.2.2.2.2.2.2.1
      obtain ⟨km, e1, e2, e3, e4⟩ := keeps_ok (N := N) (K := 45) (B := 6 * FL.length) (by omega) a3.2.1.1.1 h.2.2.1.1.2.2.1 (show q1 ≤ tp.length by have := k1.2.2.2; have := h.2.2.1.1.2.1; omega) (by omega) a3.2.2.2.2.2.1.2 (a3.2.2.2.2.2.2.1 (fun z => by cases z)).2 k1.2.2.1 (by rw [al45]; omega) (by rw [al45]; omega)
      have ek : (6 : Int32) * nI FL.length = nI (6 * FL.length) := by rw [li6, q_mul]
      have kQ : FrQ FL.length NL.length rs.length vm km := ⟨fun j _ => e4.1 _ _ _ (fun z => z), e4.2.1 _ _ (by omega), fun x hx => e3 x hx, fun x _ => by rw [e4.2.1 _ _ (by omega)], fun x _ => by rw [e4.2.1 _ _ (by omega)], fun x _ => by rw [e4.2.1 _ _ (by omega)], fun x _ => by rw [e4.2.1 _ _ (by omega)]⟩
      have kN : FrNn vm km := ⟨fun k j i _ => e4.1 _ _ _ (fun z => z), fun k i z => e4.2.1 _ _ (by omega), fun x _ => by rw [e4.2.1 _ _ (by omega)], fun x _ => by rw [e4.2.1 _ _ (by omega)], fun x _ => by rw [e4.2.1 _ _ (by omega)], fun x _ => by rw [e4.2.1 _ _ (by omega)]⟩
      have T1 : TR vx km g n tp FL tg NL rs p1 q1 (.word ls) := a3.mem (P := fun _ _ _ => False) (Q := fun _ _ => False) Fr.rf (fun _ _ _ z => z.elim) (fun _ _ z => z.elim) kQ (fun _ _ _ => e4.1 _ _ _ (fun z => z))
      obtain ⟨ux, um, p2, q2, K2, b1, b2, b3, b4, b5, b6⟩ := step_ok hN T1 (fun z => by cases z) k1.2.2.2
      have hv1 : gF vx 5 7 0 = nI (wn ls) := a3.2.2.2.1.2
      have k2 : KO tp n p2 q2 K2 := b3.2.2.2.2.2.2.2.1
      have hRu : gR ux 5 2 0 = g := b3.1.1.2.2.1
      have h20u : gF um 9 20 0 = nI FL.length := b3.2.1.2.1.1
      have fX : FrR g wx ux := (Fr5.r a5).tr (Fr5.r b5)
      have fM : FrNn wm um := (a6.n.tr kN).tr b6.n
      have x2 : (gF ux 5 6 0 = (2 : Int32)) = _ := xDig b3.2.2.2.1
      have y2 : (gF um 9 16 0 = (3 : Int32)) = _ := mDig b3.2.2.2.2.1 k2
      by_cases hd : ∃ d, K2 = .dig d
      · have x2' := x2.trans (eq_true hd)
        have y2' := y2.trans (eq_true hd)
        obtain ⟨d, rfl⟩ := hd
        have xd : gF ux 5 7 0 = nI d := b3.2.2.2.1.2
        have yd : gF um 9 17 0 = nI d := b3.2.2.2.2.1.2
        have d9 : d ≤ 9 := k2.1
        by_cases d3 : d ≤ 3
        · have xd3 : (nI d ≤ (3 : Int32)) = True := le_tt (b := 3) (by omega) (by omega) d3
          have h45 : ∀ k, k < 6 → gA um 45 0 (6 * FL.length + k) = nI (ls.getD k 0) := fun k hk => by rw [b6.2.1 _ _ (fun z => z), e2 k hk, k1.2.1]
          obtain ⟨sx, s1, s2, s3⟩ := b3.1.fun (N := N) (ls := ls) (d := d) b3.2.2.1 z8
          have s4 := b3.2.1.fun (d := d) b3.2.2.1 h45
          have T2 : TR sx (sF (sA um 41 0 (8 + FL.length) (nI d)) 9 20 0 (nI (FL.length + 1))) g n tp (FL ++ [ls]) (tg ++ [d]) NL rs p2 q2 (.dig d) := ⟨s2, s4, b3.2.2.1.fun hls d3 z8, b3.2.2.2.mem (fun j _ _ => s3.1 _ _ _ (by omega)) (fun j _ _ => by rw [gF_sF, if_neg (by omega)]; rfl)⟩
          obtain ⟨yx, ym, p3, q3, K3, d1, d2, d4, d5, d6, d7⟩ := step_ok hN T2 (fun z => by cases z) k2.2.2
          refine ⟨yx, ym, (fX.tr (s3.mono (fun _ _ _ z => by omega) (fun _ _ z => by omega))).tr (Fr5.r d6), ((fM.tr (FrNn.A (by omega))).tr (FrNn.F (by omega))).tr d7.n, Or.inl ⟨?_, ?_, _, _, _, _, p3, q3, K3, d4, ?_⟩⟩
          · rw [f_X5_readFunction]
            simp only [hR, hg2, ↓reduceIte, h9, c8, a1, Option.bind_some, t1, z10, b1, x2', xd, xd3, hRu, hv1, s1, d1]
          · have E2 : inb (nI (8 + FL.length)) 16 = true := inb_t (by omega) (by omega)
            have E3 : (nI (8 + FL.length)).toNatClampNeg = 8 + FL.length := cl_t (by omega)
            have E4 : (8 : Int32) + nI FL.length = nI (8 + FL.length) := by rw [li8, q_add]
            have E5 : nI FL.length + (1 : Int32) = nI (FL.length + 1) := by rw [li1, q_add]
            rw [f_X9_readFun]
            simp only [h20, m8, ↓reduceIte, a2, Option.bind_some, t2, z10, t3, t4, h20v, ek, e1, b2, y2', yd, xd3, h20u, E4, E2, E3, gF_sA, E5, d2]
          · have := k1.2.2.1
            have := k2.2.1
            omega
        · have xd3 : (nI d ≤ (3 : Int32)) = False := le_tf (b := 3) (by omega) (by omega) (by omega)
          refine LO.fail (fX.tr (xF_fr _ _).r) (fM.tr (mE_n _ _)) b3.2.2.2 (e := 2) ?_ ?_
          · rw [f_X5_readFunction]
            simp only [hR, hg2, ↓reduceIte, h9, c8, a1, Option.bind_some, t1, z10, b1, x2', xd, xd3, fail_eq, eq_self, true_or]
          · rw [f_X9_readFun]
            simp only [h20, m8, ↓reduceIte, a2, Option.bind_some, t2, z10, t3, t4, h20v, ek, e1, b2, y2', yd, xd3, errs_eq, eq_self, true_or]
      · have x2' := x2.trans (eq_false hd)
        have y2' := y2.trans (eq_false hd)
        refine LO.fail (fX.tr (xF_fr _ _).r) (fM.tr (mE_n _ _)) b3.2.2.2 (e := 1) ?_ ?_
        · rw [f_X5_readFunction]
          simp only [hR, hg2, ↓reduceIte, h9, c8, a1, Option.bind_some, t1, z10, b1, x2', fail_eq, eq_self, true_or]
        · rw [f_X9_readFun]
          simp only [h20, m8, ↓reduceIte, a2, Option.bind_some, t2, z10, t3, t4, h20v, ek, e1, b2, y2', errs_eq, eq_self, true_or]
    · refine LO.fail ((Fr5.r a5).tr (xF_fr _ _).r) (a6.n.tr (mE_n _ _)) a3.2.2.2 (e := 1) ?_ ?_
      · rw [f_X5_readFunction]
        simp only [hR, hg2, ↓reduceIte, h9, c8, a1, Option.bind_some, t1, eq_self]
      · rw [f_X9_readFun]
        simp only [h20, m8, ↓reduceIte, a2, Option.bind_some, t2, errs_eq, eq_self, true_or]
    · refine LO.fail ((Fr5.r a5).tr (xF_fr _ _).r) (a6.n.tr (mE_n _ _)) a3.2.2.2 (e := 3) ?_ ?_
      · rw [f_X5_readFunction]
        simp only [hR, hg2, ↓reduceIte, h9, c8, a1, Option.bind_some, t1, eq_self]
      · rw [f_X9_readFun]
        rcases t3 with ⟨t, tl, t3⟩ | ⟨t3, t, tl, t4⟩
        · have hn1 : (nI t = (-1 : Int32)) = False := eq_n1 (by omega)
          simp only [h20, m8, ↓reduceIte, a2, Option.bind_some, t2, z10, t3, hn1, errs_eq, eq_self, true_or]
        · have hn1 : (nI t = (-1 : Int32)) = False := eq_n1 (by omega)
          simp only [h20, m8, ↓reduceIte, a2, Option.bind_some, t2, z10, t3, t4, hn1, errs_eq, eq_self, true_or]
  · have c8 : (nI FL.length < (8 : Int32)) = False := lt_tf (b := 8) (by omega) (by omega) (by omega)
    have m8 : (nI FL.length = (8 : Int32)) = True := eq_tt (b := 8) (by omega)
    refine LO.fail (xF_fr _ _).r (mE_n _ _) h.2.2.2 (e := 4) ?_ ?_
    · rw [f_X5_readFunction]
      simp only [hR, hg2, ↓reduceIte, h9, c8, Option.bind_some, fail_eq, eq_self, true_or]
    · rw [f_X9_readFun]
      simp only [h20, m8, ↓reduceIte, Option.bind_some, errs_eq, eq_self, true_or]
theorem RPr.rl {g n : Nat} {tp : List Nat} {FL : List (List Nat)} {tg : List Nat} {NL : List (List Nat)} {rs : List Row} (h : RPr g n tp FL tg NL rs) : rs.length ≤ 44 := by
  have hC := h.n24 _ (AG.z tg)
  have hl := run_len (tk0 tg) rs c0
  have h1 := hC.1.2.1
  rw [tN_mk] at h1
  have h2 := hC.2.2.1.1
  have h3 := hC.2.2.2.1.1
  have h0 : (cL c0).length + (cS c0).length + (cQ c0).length = 0 := rfl
  omega
/-- a pair: both terms told -/
theorem two_ok {N g n p q : Nat} {x1 : Int32} {b : Bool} {wx wm : Mem} {tp : List Nat} {FL : List (List Nat)} {tg : List Nat} {NL : List (List Nat)} {rs : List Row} {K : Kd} (hN : 600 < N) (h : TR wx wm g n tp FL tg NL rs p q K) (hK : K ≠ .bad) (hq : q ≤ n) (hb : x1 = if b = true then 1 else 0) (hok : ∀ tk t u, AG tk tg → t < NL.length → u < NL.length → okR tk FL.length (run tk c0 rs) (.inr (b, t, u))) : LO (FrR g) FrNn wx wm (f_X5_readTwo N wx x1) (lp_X9_readPair_43 (fun (w_1 : Mem) => (f_X9_readPair_101 N w_1 x1)) N x1 (nI (4 * (48 + rs.length))) N wm (nI 0)) (NXt g n tp q) := by
  have hg : g < 2 := h.2.2.1.1.1
  have hg2 : (g < 2) = True := eq_true hg
  have hrl := h.2.2.1.rl
  have h24 := h.2.2.1.nl
  have z10 : ((1 : Int32) = 0) = False := eq_false (by decide)
  have hlim := h.2.2.1.1
  obtain ⟨N', hN'⟩ : ∃ f, N = f + 3 := ⟨N - 3, by omega⟩
  suffices H : ∀ M, M = N' + 3 → LO (FrR g) FrNn wx wm (f_X5_readTwo N wx x1) (lp_X9_readPair_43 (fun (w_1 : Mem) => (f_X9_readPair_101 N w_1 x1)) N x1 (nI (4 * (48 + rs.length))) M wm (nI 0)) (NXt g n tp q) from H N hN'
  intro M hM
  subst hM
  generalize ha : 4 * (48 + rs.length) = a
  have qq0 : ((2 : Int32) ≤ nI 0) = False := eq_false (by decide)
  have qq1 : ((2 : Int32) ≤ nI 1) = False := eq_false (by decide)
  have qq2 : ((2 : Int32) ≤ nI 2) = True := eq_true (by decide)
  have E0 : nI a + nI 0 = nI a := by rw [q_add]; rfl
  have E0b : inb (nI a) 384 = true := inb_t (by omega) (by omega)
  have E0c : (nI a).toNatClampNeg = a := cl_t (by omega)
  have E1 : nI a + nI 1 = nI (a + 1) := by rw [q_add]
  have E1b : inb (nI (a + 1)) 384 = true := inb_t (by omega) (by omega)
  have E1c : (nI (a + 1)).toNatClampNeg = a + 1 := cl_t (by omega)
  have E2 : nI 0 + (1 : Int32) = nI 1 := by decide
  have E3 : nI 1 + (1 : Int32) = nI 2 := by decide
  have gs : ∀ w x y, gA (sA w 43 0 x y) 43 0 x = y := fun w x y => by rw [gA_sA, if_pos ⟨rfl, rfl, rfl⟩]
  obtain ⟨vx, vm, p1, q1, K1, a1, a2, a3, a4, a5, a6⟩ := step_ok hN h hK hq
  have hQ1 : ∀ y, FrQ FL.length NL.length rs.length vm (sA vm 43 0 a y) := fun y => FrQ.A (by omega)
  have hRv : gR vx 5 2 0 = g := a3.1.1.2.2.1
  rcases told_ok (N := N) (by omega) a3 with ⟨ls, t, rfl, ht, t1, t2, t3, t4⟩ | ⟨t1, t3⟩ | ⟨t1, t3, t4⟩
  · have hn1 : (nI t = (-1 : Int32)) = False := eq_n1 (by omega)
    have T1 : TR vx (sA vm 43 0 a (nI t)) g n tp FL tg NL rs p1 q1 (.word ls) := a3.mem (P := fun _ _ _ => False) (Q := fun _ _ => False) Fr.rf (fun _ _ _ z => z.elim) (fun _ _ z => z.elim) (hQ1 _) (fun _ _ _ => rfl)
    have k1 : KO tp n p1 q1 (.word ls) := a3.2.2.2.2.2.2.2.1
    obtain ⟨ux, um, p2, q2, K2, b1, b2, b3, b4, b5, b6⟩ := step_ok hN T1 (fun z => by cases z) k1.2.2.2
    have hQ2 : ∀ y, FrQ FL.length NL.length rs.length um (sA um 43 0 (a + 1) y) := fun y => FrQ.A (by omega)
    have hRu : gR ux 5 2 0 = g := b3.1.1.2.2.1
    have fX : FrR g wx ux := (Fr5.r a5).tr (Fr5.r b5)
    have fM : FrNn wm um := (a6.n.tr (FrNn.A (by omega))).tr b6.n
    rcases told_ok (N := N) (by omega) b3 with ⟨ls2, u, rfl, hu, u1, u2, u3, u4⟩ | ⟨u1, u3⟩ | ⟨u1, u3, u4⟩
    · have hn2 : (nI u = (-1 : Int32)) = False := eq_n1 (by omega)
      have k2 : KO tp n p2 q2 (.word ls2) := b3.2.2.2.2.2.2.2.1
      have T2 : TR ux (sA um 43 0 (a + 1) (nI u)) g n tp FL tg NL rs p2 q2 (.word ls2) := b3.mem (P := fun _ _ _ => False) (Q := fun _ _ => False) Fr.rf (fun _ _ _ z => z.elim) (fun _ _ z => z.elim) (hQ2 _) (fun _ _ _ => rfl)
      obtain ⟨p3, q3, K3, hNT⟩ := NT_ex tp k2.2.2.2
      have hko := hNT.ko hlim.2.1
      obtain ⟨ym, m1, m2, m3, m4, m5⟩ := goes_ok hN T2.2.1.1.1 hlim.2.2.2 hlim.2.2.1 hlim.2.1 T2.2.1.1.2 (T2.2.2.2.2.2.2.1 (fun z => by cases z)).2 hNT
      have hM3 : RM9 ym n tp FL tg NL rs := T2.2.1.pt m5.q h.2.2.1.2.2.1.2.2
      have s24 : gF ym 9 24 0 = nI rs.length := hM3.2.2.2.1.1
      have r0 : gA ym 43 0 (4 * (48 + rs.length)) = nI t := by
        rw [m5.2.1 _ _ (fun z => z), gA_sA, if_neg (by omega), b6.2.1 _ _ (fun z => z), gA_sA, if_pos ⟨rfl, rfl, ha⟩]
      have r1 : gA ym 43 0 (4 * (48 + rs.length) + 1) = nI u := by
        rw [m5.2.1 _ _ (fun z => z), gA_sA, if_pos ⟨rfl, rfl, by omega⟩]
      have hM4 := hM3.pair (b := b) rfl r0 r1
      have hPr : RPr g n tp FL tg NL (rs ++ [.inr (b, t, u)]) := h.2.2.1.push (fun tk htk => hok tk t u htk ht hu) (fun tk htk => by
        rw [(h.2.2.1.2.2.2 tk htk).2]
        cases b <;> rfl) h.2.2.1.2.2.1.2.1 (fun x z => by cases z)
      have E4 : (48 : Int32) + nI rs.length = nI (48 + rs.length) := by rw [li48, q_add]
      have E5 : inb (nI (48 + rs.length)) 96 = true := inb_t (by omega) (by omega)
      have E6 : (nI (48 + rs.length)).toNatClampNeg = 48 + rs.length := cl_t (by omega)
      have E7 : nI rs.length + (1 : Int32) = nI (rs.length + 1) := by rw [li1, q_add]
      have hcome : ∃ sx, (if b = true then f_X1_comeSame N ux g (nI t) (nI u) else f_X1_comeDiff N ux g (nI t) (nI u)) = some sx ∧ RXt sx g n tp FL tg NL (rs ++ [.inr (b, t, u)]) ∧ FrX g ux sx := by
        cases b with
        | true => exact b3.1.same (by omega) b3.2.2.1 (fun tk htk => hok tk t u htk ht hu)
        | false => exact b3.1.diff (N := N) (fun tk htk => hok tk t u htk ht hu)
      obtain ⟨sx, c1, c2, c3⟩ := hcome
      have s8 : gF sx 5 8 0 = nI q2 := (c3.1 _ _ _ (by omega)).trans (b3.2.2.2.2.2.2.1 (fun z => by cases z)).1
      obtain ⟨yx, x1', x2, x3, x4, x5⟩ := adv_ok hN c2.1.1 hlim.2.2.2 hlim.2.2.1 hlim.2.1 c2.1.2.1 s8 hNT
      have hX4 : RXt yx g n tp FL tg NL (rs ++ [.inr (b, t, u)]) := c2.fr x5 (fun _ _ _ z => by omega) (fun _ _ z => z.elim)
      have hTK : TK yx ym tp n p3 q3 K3 := ⟨x2, m2, ⟨x3, m3⟩, fun z => ⟨x4 z, m4 z⟩, hko.1, hko.2.2⟩
      refine ⟨yx, _, (fX.tr (FrX.r c3)).tr (Fr5.r x5), (((((fM.tr (FrNn.A (by omega))).tr m5.n).tr (FrNn.A (by omega))).tr (FrNn.F (by omega))).tr (FrNn.F (by omega))).tr (FrNn.F (by omega)), Or.inl ⟨?_, ?_, FL, tg, NL, _, p3, q3, K3, ⟨hX4, hM4, hPr, hTK.mem (fun _ _ _ => rfl) (fun j _ _ => by rw [gF_sF, if_neg (by omega), gF_sF, if_neg (by omega), gF_sF, if_neg (by omega)]; rfl)⟩, ?_⟩⟩
      · rw [f_X5_readTwo, hb]
        cases b with
        | true =>
          have c1' : f_X1_comeSame N ux g (nI t) (nI u) = some sx := c1
          simp only [a1, Option.bind_some, t1, z10, ↓reduceIte, hRv, hg2, t2, b1, u1, hRu, u2, c1', x1']
        | false =>
          have c1' : f_X1_comeDiff N ux g (nI t) (nI u) = some sx := c1
          have bf : (false = true) = False := by decide
          simp only [a1, Option.bind_some, t1, z10, ↓reduceIte, hRv, hg2, t2, b1, u1, hRu, u2, bf, c1', x1']
      · rw [lp_X9_readPair_43]
        simp only [qq0, ↓reduceIte, a2, Option.bind_some, t3, z10, t4, E0, E0b, E0c, gs, hn1, E2]
        rw [lp_X9_readPair_43]
        simp only [qq1, ↓reduceIte, b2, Option.bind_some, u3, z10, u4, E1, E1b, E1c, gs, hn2, E3]
        rw [lp_X9_readPair_43]
        have m1' : f_X9_goesOn N (sA um 43 0 (a + 1) (nI u)) = some ym := m1
        rw [hb]
        cases b with
        | true =>
          simp only [qq2, ↓reduceIte, f_X9_readPair_101, m1', Option.bind_some, z10, s24, E4, f_X9_readPair_125_s3, E5, E6, gF_sA, E7, f_X9_readPair_150_s3]
          rfl
        | false =>
          have bf : (false = true) = False := by decide
          simp only [qq2, ↓reduceIte, f_X9_readPair_101, m1', Option.bind_some, bf, s24, E4, f_X9_readPair_125_s3, E5, E6, gF_sA, E7, f_X9_readPair_150_s3]
          rfl
      · have := k1.2.2.1
        have := k2.2.2.1
        have := hko.2.1
        omega
    · refine LO.fail (fX.tr (xF_fr _ _).r) (fM.tr (mE_n _ _)) b3.2.2.2 (e := 1) ?_ ?_
      · rw [f_X5_readTwo]
        simp only [a1, Option.bind_some, t1, z10, ↓reduceIte, hRv, hg2, t2, b1, u1, eq_self]
      · rw [lp_X9_readPair_43]
        simp only [qq0, ↓reduceIte, a2, Option.bind_some, t3, z10, t4, E0, E0b, E0c, gs, hn1, E2]
        rw [lp_X9_readPair_43]
        simp only [qq1, ↓reduceIte, b2, Option.bind_some, u3, errs_eq, eq_self, true_or]
    · have T2 : TR ux (sA um 43 0 (a + 1) (-1)) g n tp FL tg NL rs p2 q2 K2 := b3.mem (P := fun _ _ _ => False) (Q := fun _ _ => False) Fr.rf (fun _ _ _ z => z.elim) (fun _ _ z => z.elim) (hQ2 _) (fun _ _ _ => rfl)
      refine LO.fail (fX.tr (xF_fr _ _).r) ((fM.tr (FrNn.A (by omega))).tr (mE_n _ _)) T2.2.2.2 (e := 3) ?_ ?_
      · rw [f_X5_readTwo]
        simp only [a1, Option.bind_some, t1, z10, ↓reduceIte, hRv, hg2, t2, b1, u1, eq_self]
      · rw [lp_X9_readPair_43]
        simp only [qq0, ↓reduceIte, a2, Option.bind_some, t3, z10, t4, E0, E0b, E0c, gs, hn1, E2]
        rw [lp_X9_readPair_43]
        simp only [qq1, ↓reduceIte, b2, Option.bind_some, u3, z10, u4, E1, E1b, E1c, gs, errs_eq, eq_self, true_or]
  · refine LO.fail ((Fr5.r a5).tr (xF_fr _ _).r) (a6.n.tr (mE_n _ _)) a3.2.2.2 (e := 1) ?_ ?_
    · rw [f_X5_readTwo]
      simp only [a1, Option.bind_some, t1, ↓reduceIte, eq_self]
    · rw [lp_X9_readPair_43]
      simp only [qq0, ↓reduceIte, a2, Option.bind_some, t3, errs_eq, eq_self, true_or]
  · have T1 : TR vx (sA vm 43 0 a (-1)) g n tp FL tg NL rs p1 q1 K1 := a3.mem (P := fun _ _ _ => False) (Q := fun _ _ => False) Fr.rf (fun _ _ _ z => z.elim) (fun _ _ z => z.elim) (hQ1 _) (fun _ _ _ => rfl)
    refine LO.fail ((Fr5.r a5).tr (xF_fr _ _).r) ((a6.n.tr (FrNn.A (by omega))).tr (mE_n _ _)) T1.2.2.2 (e := 3) ?_ ?_
    · rw [f_X5_readTwo]
      simp only [a1, Option.bind_some, t1, ↓reduceIte, eq_self]
    · rw [lp_X9_readPair_43]
      simp only [qq0, ↓reduceIte, a2, Option.bind_some, t3, z10, t4, E0, E0b, E0c, gs, errs_eq, eq_self, true_or]
