/-! text: a term's line; any line -/
theorem term_ok {N g n p q : Nat} {wx wm : Mem} {tp : List Nat} {FL : List (List Nat)} {tg : List Nat} {NL : List (List Nat)} {rs : List Row} {K : Kd} (hN : 600 < N) (h : TR wx wm g n tp FL tg NL rs p q K) (hK : K ≠ .bad) (hq : q ≤ n) : LL g n tp q wx wm (f_X5_readTerm N wx) (f_X9_readTerm N wm) := by
  have hg : g < 2 := h.2.2.1.1.1
  have hg2 : (g < 2) = True := eq_true hg
  have hR : gR wx 5 2 0 = g := h.1.1.2.2.1
  have hrl := h.2.2.1.rl
  have h24 := h.2.2.1.nl
  have hlim := h.2.2.1.1
  have hln := (h.2.2.1.2.2.2 _ (AG.z tg)).2
  have h10 : gF wx 7 10 g = nI NL.length := by rw [hln]; exact (h.1.2.2.2.2 _ (AG.z tg)).1.1.2.2.1
  have h21 : gF wm 9 21 0 = nI NL.length := h.2.1.2.2.1.1
  have z10 : ((1 : Int32) = 0) = False := eq_false (by decide)
  by_cases z24 : NL.length < 24
  · have c24 : (nI NL.length < (24 : Int32)) = True := lt_tt (b := 24) (by omega) (by omega) z24
    have m24 : (nI NL.length = (24 : Int32)) = False := eq_tf (b := 24) (by omega) (by omega) (by omega)
    obtain ⟨vx, vm, p1, q1, K1, a1, a2, a3, a4, a5, a6⟩ := step_ok hN h hK hq
    have h21v : gF vm 9 21 0 = nI NL.length := a3.2.1.2.2.1.1
    rcases new_ok (N := N) (by omega) a3 with ⟨ls, rfl, hls, t1, t2, t3, t4⟩ | ⟨t1, t2⟩ | ⟨t1, t2, t3⟩
    · have k1 : KO tp n p1 q1 (.word ls) := a3.2.2.2.2.2.2.2.1
      obtain ⟨km, e1, e2, e3, e4⟩ := keeps_ok (N := N) (K := 44) (B := 6 * (24 + NL.length)) (by omega) a3.2.1.1.1 hlim.2.2.1 (show q1 ≤ tp.length by have := k1.2.2.2; have := hlim.2.1; omega) (by omega) a3.2.2.2.2.2.1.2 (a3.2.2.2.2.2.2.1 (fun z => by cases z)).2 k1.2.2.1 (by rw [al44]; omega) (by rw [al44]; omega)
      have ek : (6 : Int32) * ((24 : Int32) + nI NL.length) = nI (6 * (24 + NL.length)) := by rw [li6, li24, q_add, q_mul]
      have kQ : FrQ FL.length NL.length rs.length vm km := ⟨fun j _ => e4.1 _ _ _ (fun z => z), e4.2.1 _ _ (by omega), fun x _ => by rw [e4.2.1 _ _ (by omega)], fun x _ => by rw [e4.2.1 _ _ (by omega)], fun x hx => e3 x hx, fun x _ => by rw [e4.2.1 _ _ (by omega)], fun x _ => by rw [e4.2.1 _ _ (by omega)]⟩
      have kN : FrNn vm km := ⟨fun k j i _ => e4.1 _ _ _ (fun z => z), fun k i z => e4.2.1 _ _ (by omega), fun x _ => by rw [e4.2.1 _ _ (by omega)], fun x _ => by rw [e4.2.1 _ _ (by omega)], fun x _ => by rw [e4.2.1 _ _ (by omega)], fun x hx => e3 x (by omega)⟩
      have T1 : TR vx km g n tp FL tg NL rs p1 q1 (.word ls) := a3.mem (P := fun _ _ _ => False) (Q := fun _ _ => False) Fr.rf (fun _ _ _ z => z.elim) (fun _ _ z => z.elim) kQ (fun _ _ _ => e4.1 _ _ _ (fun z => z))
      obtain ⟨ux, um, p2, q2, K2, b1, b2, b3, b4, b5, b6⟩ := step_ok hN T1 (fun z => by cases z) k1.2.2.2
      have hv1 : gF vx 5 7 0 = nI (wn ls) := a3.2.2.2.1.2
      have k2 : KO tp n p2 q2 K2 := b3.2.2.2.2.2.2.2.1
      have fX : FrR g wx ux := (Fr5.r a5).tr (Fr5.r b5)
      have fM : FrNn wm um := (a6.n.tr kN).tr b6.n
      have s61 : f_X5_isSign N ux (61 : Int32) = some (nI (b01 (K2 = .sgn 61))) := xSign (c := 61) b3.2.2.2.1 k2 (by omega)
      have m61 : (gF um 9 16 0 = (61 : Int32)) = (K2 = .sgn 61) := mSign (c := 61) b3.2.2.2.2.1 k2 (by unfold sig; omega)
      have z1n : ((nI 1 : Int32) = 0) = False := eq_false (by decide)
      have z0n : ((nI 0 : Int32) = 0) = True := eq_true rfl
      by_cases c61 : K2 = .sgn 61
      · rw [b01_t c61] at s61
        have m61' := m61.trans (eq_true c61)
        obtain ⟨rx, rm, p3, q3, K3, d1, d2, d3, d4, d5, d6⟩ := step_ok hN b3 (fun z => by rw [c61] at z; cases z) (by rw [c61] at k2; exact k2.2.2)
        have fX3 : FrR g wx rx := fX.tr (Fr5.r d5)
        have fM3 : FrNn wm rm := fM.tr d6.n
        have hRr : gR rx 5 2 0 = g := d3.1.1.2.2.1
        rcases fold_ok (N := N) (by omega) d3 with ⟨ls3, fn, rfl, hfn, u1, u2, u3, u4⟩ | ⟨u1, u3⟩ | ⟨u1, u2, u3, u4⟩
        · have k3 : KO tp n p3 q3 (.word ls3) := d3.2.2.2.2.2.2.2.1
          obtain ⟨ox, om, p4, q4, K4, g1, g2, g3, g4, g5, g6⟩ := step_ok hN d3 (fun z => by cases z) k3.2.2.2
          have fX4 : FrR g wx ox := fX3.tr (Fr5.r g5)
          have fM4 : FrNn wm om := fM3.tr g6.n
          have hF8 : FL.length ≤ 8 := h.2.2.1.2.1.1
          have cf : ((0 : Int32) ≤ nI fn) = True := le_tt (a := 0) (by omega) (by omega) (Nat.zero_le _)
          have nf : (nI fn = (-1 : Int32)) = False := eq_n1 (by omega)
          have hRo : gR ox 5 2 0 = g := g3.1.1.2.2.1
          have F1 : inb (nI fn) 8 = true := inb_t (by omega) (by omega)
          have F2 : (nI fn).toNatClampNeg = fn := cl_t (by omega)
          have F3 : gA ox 31 g fn = nI (tg.getD fn 0) := (g3.1.2.1.2 fn hfn).2
          have hT3 : tg.getD fn 0 ≤ 3 := h.2.2.1.2.1.2.2 fn
          have s24 : gF om 9 24 0 = nI rs.length := g3.2.1.2.2.2.1.1
          have E4 : (4 : Int32) * nI (48 + rs.length) = nI (4 * (48 + rs.length)) := by rw [li4, q_mul]
          have J21 : ∀ x y, gF (sF x 9 24 0 y) 9 21 0 = gF x 9 21 0 := fun x y => by rw [gF_sF, if_neg (by omega)]
          have E5 : inb (nI (4 * (48 + rs.length))) 384 = true := inb_t (by omega) (by omega)
          have E6 : (nI (4 * (48 + rs.length))).toNatClampNeg = 4 * (48 + rs.length) := cl_t (by omega)
          have E7 : (8 : Int32) + nI fn = nI (8 + fn) := by rw [li8, q_add]
          have E8 : inb (nI (8 + fn)) 16 = true := inb_t (by omega) (by omega)
          have E9 : (nI (8 + fn)).toNatClampNeg = 8 + fn := cl_t (by omega)
          have hq4 : FrQ FL.length NL.length rs.length om (sA om 43 0 (4 * (48 + rs.length)) (nI fn)) := FrQ.A (by omega)
          have T4 : TR ox (sA om 43 0 (4 * (48 + rs.length)) (nI fn)) g n tp FL tg NL rs p4 q4 K4 := g3.mem (P := fun _ _ _ => False) (Q := fun _ _ => False) Fr.rf (fun _ _ _ z => z.elim) (fun _ _ z => z.elim) hq4 (fun _ _ _ => rfl)
          have fM5 : FrNn wm (sA om 43 0 (4 * (48 + rs.length)) (nI fn)) := fM4.tr (FrNn.A (by omega))
          have G41 : gA (sA om 43 0 (4 * (48 + rs.length)) (nI fn)) 41 0 (8 + fn) = nI (tg.getD fn 0) := by rw [gA_sA, if_neg (by omega)]; exact (g3.2.1.2.1.2 fn hfn).2
          have k4 : KO tp n p4 q4 K4 := g3.2.2.2.2.2.2.2.1
          have hpq : q ≤ p4 := by
            have := k1.2.2.1
            have := k3.2.2.1
            have w2 := k2
            rw [c61] at w2
            have := w2.2.1
            omega
          have S24 : ∀ v, FrP (4 * (48 + rs.length)) (sA om 43 0 (4 * (48 + rs.length)) (nI fn)) v → gF v 9 24 0 = nI rs.length := fun v hv => (hv.1.1 _ _ _ (by omega)).trans s24
          have S21 : ∀ v, FrP (4 * (48 + rs.length)) (sA om 43 0 (4 * (48 + rs.length)) (nI fn)) v → gF v 9 21 0 = nI NL.length := fun v hv => (hv.1.1 _ _ _ (by omega)).trans g3.2.1.2.2.1.1
          have H4 : (48 : Int32) + nI rs.length = nI (48 + rs.length) := by rw [li48, q_add]
          have H5 : inb (nI (48 + rs.length)) 96 = true := inb_t (by omega) (by omega)
          have H6 : (nI (48 + rs.length)).toNatClampNeg = 48 + rs.length := cl_t (by omega)
          have H7 : nI rs.length + (1 : Int32) = nI (rs.length + 1) := by rw [li1, q_add]
          have H8 : nI NL.length + (1 : Int32) = nI (NL.length + 1) := by rw [li1, q_add]
          have eM : ∀ v r, f_X9_readParts N (sA om 43 0 (4 * (48 + rs.length)) (nI fn)) (nI (4 * (48 + rs.length))) (nI (tg.getD fn 0)) = some (v, r) → FrP (4 * (48 + rs.length)) (sA om 43 0 (4 * (48 + rs.length)) (nI fn)) v → f_X9_readTerm N wm = if r = (0 : Int32) then some (v, 0) else some (sF (sF (sA v 42 0 (48 + rs.length) (nI 0)) 9 24 0 (nI (rs.length + 1))) 9 21 0 (nI (NL.length + 1)), 1) := fun v r hv hfr => by
            rw [f_X9_readTerm]
            simp only [h21, m24, ↓reduceIte, a2, Option.bind_some, t2, z10, t3, t4, h21v, ek, e1, b2, m61', d2, u3, u4, nf, g2, s24, E4, E5, E6, E7, E8, E9, G41, hv, S24 v hfr, H4, H5, H6, gF_sA, H7, J21, S21 v hfr, H8]
            rfl
          have eX : ∀ v r, f_X5_readParts N ox (nI (tg.getD fn 0)) = some (v, r) → gR v 5 2 0 = g → f_X5_readTerm N wx = if r = (0 : Int32) then some (v, 0) else Option.bind (f_X1_comeTerm N v g (nI (wn ls)) (nI fn) (gA v 29 0 0) (gA v 29 0 1) (gA v 29 0 2)) (fun z27 => some (z27, (1 : Int32))) := fun v r hv hgr => by
            have I0 : inb (0 : Int32) 3 = true := by decide
            have I1 : inb (1 : Int32) 3 = true := by decide
            have I2 : inb (2 : Int32) 3 = true := by decide
            have J0 : (0 : Int32).toNatClampNeg = 0 := by decide
            have J1 : (1 : Int32).toNatClampNeg = 1 := by decide
            have J2 : (2 : Int32).toNatClampNeg = 2 := by decide
            rw [f_X5_readTerm]
            simp only [hR, hg2, ↓reduceIte, h10, c24, a1, Option.bind_some, t1, z10, b1, s61, z1n, d1, u1, hRr, u2, cf, g1, hRo, F1, F2, F3, hv, hgr, hv1, I0, I1, I2, J0, J1, J2]
          by_cases hno : tg.getD fn 0 = 0 ∧ K4 ≠ .sgn 40 ∧ K4 ≠ .eot ∧ K4 ≠ .sgn 59
          · obtain ⟨hz, n40, n0, n59⟩ := hno
            obtain ⟨r1, r2, r3, r4⟩ := parts_no (N := N) (a := nI (4 * (48 + rs.length))) T4 n40 n0 n59
            rw [hz] at eM eX
            refine Or.inr ⟨xF ox 1, _, fX4.tr (xF_fr _ _).r, ((fM5.tr (FrNn.A (by omega))).tr (FrNn.F (by omega))).tr (FrNn.F (by omega)), ?_, (eM _ 1 r2 ⟨Fr.rf, fun _ _ => rfl⟩).trans (if_neg (by decide)), ?_, ?_, ?_, ?_⟩
            · rw [eX _ 0 r1 hRo, if_pos rfl]
            · unfold xF; rw [gF_sF, if_pos ⟨rfl, rfl, rfl⟩]; rfl
            · rw [gF_sF, if_neg (by omega), gF_sF, if_neg (by omega), gF_sA]; exact r3
            · rw [gF_sF, if_neg (by omega), gF_sF, if_neg (by omega), gF_sA]; exact r4
            · rw [gF_sF, if_neg (by omega), gF_sF, if_neg (by omega), gF_sA, T4.2.2.2.2.2.1.2]
              unfold xF
              rw [gF_sF, if_neg (by omega)]; exact T4.2.2.2.2.2.1.1
          · obtain ⟨yx, ym, l1, l2, l3⟩ := parts_ok (N := N) (T := tg.getD fn 0) hN rfl (by omega) hT3 T4 hno
            have hRy : gR yx 5 2 0 = g := (l1.2.2.2 _ _ _).trans hRo
            rcases l3 with ⟨l3, l4, ps, p5, q5, K5, l5, l6, l7, l8⟩ | ⟨l3, l4, l5, l6⟩
            · have har : ∀ k, k < ps.length → ar3 (gA yx 29 0 0) (gA yx 29 0 1) (gA yx 29 0 2) k = nI (ps.getD k 0) := fun k hk => by
                have := (l7 k hk).2.1
                have hk3 : k = 0 ∨ k = 1 ∨ k = 2 := by omega
                rcases hk3 with e | e | e <;> rw [e] at this ⊢ <;> exact this
              have hok : ∀ tk, AG tk tg → okR tk FL.length (run tk c0 rs) (.inl (fn, ps)) := fun tk ht => ⟨hfn, by rw [l6]; exact (ht fn (by rw [h.2.2.1.2.1.2.1]; exact hfn)).symm, fun k hk => by rw [← (h.2.2.1.2.2.2 tk ht).2]; exact (l7 k hk).1, by rw [← (h.2.2.1.2.2.2 tk ht).2]; exact z24⟩
              obtain ⟨sx, w1, w2, w3⟩ := l5.1.term (N := N) (ls := ls) (by omega) l5.2.2.1 hok har
              have n44 : ∀ k, k < 6 → gA ym 44 0 (6 * (24 + NL.length) + k) = nI (ls.getD k 0) := fun k hk => by
                rw [l2.1.2.1 44 0 (by omega), gA_sA, if_neg (by omega), g6.2.1 _ _ (fun z => z), d6.2.1 _ _ (fun z => z), b6.2.1 _ _ (fun z => z), e2 k hk, k1.2.1]
              have n43 : gA ym 43 0 (4 * (48 + rs.length)) = nI fn := by rw [l2.2 _ (by omega), gA_sA, if_pos ⟨rfl, rfl, rfl⟩]
              have hM5 := l5.2.1.term (ls := ls) (fn := fn) (ps := ps) rfl n44 n43 (fun k hk => (l7 k hk).2.2)
              have e1' : (NL ++ [ls]).length = NL.length + 1 := by rw [List.length_append]; rfl
              have hPr : RPr g n tp FL tg (NL ++ [ls]) (rs ++ [.inl (fn, ps)]) := h.2.2.1.push hok (fun tk ht => by
                rw [e1', (h.2.2.1.2.2.2 tk ht).2]
                show _ = (cL (run tk c0 rs) ++ [(fn, ps)]).length
                rw [List.length_append]; rfl) (fun l hl => by
                rcases List.mem_append.mp hl with y | y
                · exact h.2.2.1.2.2.1.2.1 l y
                · rw [List.mem_singleton.mp y]; exact hls) (fun x hx => by
                cases hx
                show ps.length ≤ 3
                omega)
              refine Or.inl ⟨sx, _, (fX4.tr l1.r).tr (FrX.r w3), (((fM5.tr (l2.n (by omega))).tr (FrNn.A (by omega))).tr (FrNn.F (by omega))).tr (FrNn.F (by omega)), Or.inl ⟨?_, (eM _ 1 l4 l2).trans (if_neg (by decide)), FL, tg, NL ++ [ls], _, p5, q5, K5, ⟨w2, hM5, hPr, l5.2.2.2.mem (fun j _ _ => w3.1 _ _ _ (by omega)) (fun j _ _ => by rw [gF_sF, if_neg (by omega), gF_sF, if_neg (by omega)]; rfl)⟩, by omega⟩⟩
              rw [eX _ 1 l3 hRy, if_neg (by decide), w1, Option.bind_some]
            · refine Or.inl ⟨yx, ym, fX4.tr l1.r, fM5.tr (l2.n (by omega)), Or.inr ⟨?_, ?_, l5, l6⟩⟩
              · rw [eX _ 0 l3 hRy, if_pos rfl]
              · rw [eM _ 0 l4 l2, if_pos rfl]
        · refine Or.inl (LO.fail (fX3.tr (xF_fr _ _).r) (fM3.tr (mE_n _ _)) d3.2.2.2 (e := 1) ?_ ?_)
          · rw [f_X5_readTerm]
            simp only [hR, hg2, ↓reduceIte, h10, c24, a1, Option.bind_some, t1, z10, b1, s61, z1n, d1, u1, fail_eq, eq_self, true_or]
          · rw [f_X9_readTerm]
            simp only [h21, m24, ↓reduceIte, a2, Option.bind_some, t2, z10, t3, t4, h21v, ek, e1, b2, m61', d2, u3, errs_eq, eq_self, true_or]
        · have cn : ((0 : Int32) ≤ (-1 : Int32)) = False := eq_false (by decide)
          refine Or.inl (LO.fail (fX3.tr (xF_fr _ _).r) (fM3.tr (mE_n _ _)) d3.2.2.2 (e := 3) ?_ ?_)
          · rw [f_X5_readTerm]
            simp only [hR, hg2, ↓reduceIte, h10, c24, a1, Option.bind_some, t1, z10, b1, s61, z1n, d1, u1, hRr, u2, cn, fail_eq, eq_self, true_or]
          · rw [f_X9_readTerm]
            simp only [h21, m24, ↓reduceIte, a2, Option.bind_some, t2, z10, t3, t4, h21v, ek, e1, b2, m61', d2, u3, u4, errs_eq, eq_self, true_or]
      · rw [b01_f c61] at s61
        have m61' := m61.trans (eq_false c61)
        refine Or.inl (LO.fail (fX.tr (xF_fr _ _).r) (fM.tr (mE_n _ _)) b3.2.2.2 (e := 1) ?_ ?_)
        · rw [f_X5_readTerm]
          simp only [hR, hg2, ↓reduceIte, h10, c24, a1, Option.bind_some, t1, z10, b1, s61, z0n, fail_eq, eq_self, true_or]
        · rw [f_X9_readTerm]
          simp only [h21, m24, ↓reduceIte, a2, Option.bind_some, t2, z10, t3, t4, h21v, ek, e1, b2, m61', errs_eq, eq_self, true_or]
    · refine Or.inl (LO.fail ((Fr5.r a5).tr (xF_fr _ _).r) (a6.n.tr (mE_n _ _)) a3.2.2.2 (e := 1) ?_ ?_)
      · rw [f_X5_readTerm]
        simp only [hR, hg2, ↓reduceIte, h10, c24, a1, Option.bind_some, t1, eq_self]
      · rw [f_X9_readTerm]
        simp only [h21, m24, ↓reduceIte, a2, Option.bind_some, t2, errs_eq, eq_self, true_or]
    · refine Or.inl (LO.fail ((Fr5.r a5).tr (xF_fr _ _).r) (a6.n.tr (mE_n _ _)) a3.2.2.2 (e := 3) ?_ ?_)
      · rw [f_X5_readTerm]
        simp only [hR, hg2, ↓reduceIte, h10, c24, a1, Option.bind_some, t1, eq_self]
      · rw [f_X9_readTerm]
        rcases t3 with ⟨t, tl, t3⟩ | ⟨t3, t, tl, t4⟩
        · have hn1 : (nI t = (-1 : Int32)) = False := eq_n1 (by omega)
          simp only [h21, m24, ↓reduceIte, a2, Option.bind_some, t2, z10, t3, hn1, errs_eq, eq_self, true_or]
        · have hn1 : (nI t = (-1 : Int32)) = False := eq_n1 (by omega)
          simp only [h21, m24, ↓reduceIte, a2, Option.bind_some, t2, z10, t3, t4, hn1, errs_eq, eq_self, true_or]
  · have c24 : (nI NL.length < (24 : Int32)) = False := lt_tf (b := 24) (by omega) (by omega) (by omega)
    have m24 : (nI NL.length = (24 : Int32)) = True := eq_tt (b := 24) (by omega)
    refine Or.inl (LO.fail (xF_fr _ _).r (mE_n _ _) h.2.2.2 (e := 4) ?_ ?_)
    · rw [f_X5_readTerm]
      simp only [hR, hg2, ↓reduceIte, h10, c24, Option.bind_some, fail_eq, eq_self, true_or]
    · rw [f_X9_readTerm]
      simp only [h21, m24, ↓reduceIte, Option.bind_some, errs_eq, eq_self, true_or]
/-- any line -/
theorem line_ok {N g n p q : Nat} {wx wm : Mem} {tp : List Nat} {FL : List (List Nat)} {tg : List Nat} {NL : List (List Nat)} {rs : List Row} {K : Kd} (hN : 600 < N) (h : TR wx wm g n tp FL tg NL rs p q K) : LL g n tp (p + 1) wx wm (f_X5_readLine N wx) (f_X9_readLine N wm) := by
  have hg : g < 2 := h.2.2.1.1.1
  have hg2 : (g < 2) = True := eq_true hg
  have hR : gR wx 5 2 0 = g := h.1.1.2.2.1
  have hlim := h.2.2.1.1
  have hrl := h.2.2.1.rl
  have hk : KO tp n p q K := h.2.2.2.2.2.2.2.1
  have hC := h.2.2.1.n24 _ (AG.z tg)
  have z10 : ((1 : Int32) = 0) = False := eq_false (by decide)
  have z1n : ((nI 1 : Int32) = 0) = False := eq_false (by decide)
  have z0n : ((nI 0 : Int32) = 0) = True := eq_true rfl
  have o1 : ((1 : Int32) = 0 ∨ (1 : Int32) = 1) = True := eq_true (Or.inr rfl)
  have w1 := isWord_ok (N := N) kwF [102, 117, 110] rfl kwF_ok (by omega) h.2.1.1.1 hlim.2.2.1 hlim.2.1 hlim.2.2.2 h.2.2.2.2.1 h.2.2.2.2.2.1.2 (fun z => (h.2.2.2.2.2.2.1 z).2) hk
  have w2 := isWord_ok (N := N) kwT [116, 101, 114, 109] rfl kwT_ok (by omega) h.2.1.1.1 hlim.2.2.1 hlim.2.1 hlim.2.2.2 h.2.2.2.2.1 h.2.2.2.2.2.1.2 (fun z => (h.2.2.2.2.2.2.1 z).2) hk
  have w3 := isWord_ok (N := N) kwS [115, 97, 109, 101] rfl kwS_ok (by omega) h.2.1.1.1 hlim.2.2.1 hlim.2.1 hlim.2.2.2 h.2.2.2.2.1 h.2.2.2.2.2.1.2 (fun z => (h.2.2.2.2.2.2.1 z).2) hk
  have w4 := isWord_ok (N := N) kwD [100, 105, 102, 102] rfl kwD_ok (by omega) h.2.1.1.1 hlim.2.2.1 hlim.2.1 hlim.2.2.2 h.2.2.2.2.1 h.2.2.2.2.2.1.2 (fun z => (h.2.2.2.2.2.2.1 z).2) hk
  have x1 : (gF wx 5 6 0 = (1 : Int32)) = _ := xWord h.2.2.2.1
  have lift : ∀ {ox om : Option (Mem × Int32)}, p < q → LL g n tp q wx wm ox om → LL g n tp (p + 1) wx wm ox om := fun {ox om} hpq hL => by
    rcases hL with ⟨vx, vm, a, b, c⟩ | hL
    · refine Or.inl ⟨vx, vm, a, b, ?_⟩
      rcases c with ⟨c1, c2, FL', tg', NL', rs', p', q', K', c3, c4⟩ | c
      · exact Or.inl ⟨c1, c2, FL', tg', NL', rs', p', q', K', c3, by omega⟩
      · exact Or.inr c
    · exact Or.inr hL
  have wrap : ∀ {ox om oX oM : Option (Mem × Int32)}, LL g n tp q wx wm ox om → oX = Option.bind ox (fun z => if z.2 = 0 ∨ z.2 = 1 then some (z.1, z.2) else none) → oM = Option.bind om (fun z => if z.2 = 0 ∨ z.2 = 1 then some (z.1, z.2) else none) → LL g n tp q wx wm oX oM := fun {ox om oX oM} hL h1 h2 => by
    have e0 : ∀ v : Mem, Option.bind (some (v, (0 : Int32))) (fun z => if z.2 = 0 ∨ z.2 = 1 then some (z.1, z.2) else none) = some (v, (0 : Int32)) := fun v => rfl
    have e1 : ∀ v : Mem, Option.bind (some (v, (1 : Int32))) (fun z => if z.2 = 0 ∨ z.2 = 1 then some (z.1, z.2) else none) = some (v, (1 : Int32)) := fun v => rfl
    have hx : ∀ v : Mem, ∀ r : Int32, (r = 0 ∨ r = 1) → ox = some (v, r) → oX = some (v, r) := fun v r hr he => by
      rcases hr with e | e <;> (rw [h1, he, e]; rfl)
    have hm : ∀ v : Mem, ∀ r : Int32, (r = 0 ∨ r = 1) → om = some (v, r) → oM = some (v, r) := fun v r hr he => by
      rcases hr with e | e <;> (rw [h2, he, e]; rfl)
    rcases hL with ⟨vx, vm, a, b, ⟨c1, c2, c3⟩ | ⟨c1, c2, c3⟩⟩ | ⟨vx, vm, a, b, c1, c2, c3⟩
    · exact Or.inl ⟨vx, vm, a, b, Or.inl ⟨hx _ _ (Or.inr rfl) c1, hm _ _ (Or.inr rfl) c2, c3⟩⟩
    · exact Or.inl ⟨vx, vm, a, b, Or.inr ⟨hx _ _ (Or.inl rfl) c1, hm _ _ (Or.inl rfl) c2, c3⟩⟩
    · exact Or.inr ⟨vx, vm, a, b, hx _ _ (Or.inl rfl) c1, hm _ _ (Or.inr rfl) c2, c3⟩
  by_cases hw : ∃ ls, K = .word ls
  · have x1' := x1.trans (eq_true hw)
    obtain ⟨ls, rfl⟩ := hw
    obtain ⟨hls, he, hpq, hqn⟩ := id hk
    have x2 : (gF wx 5 7 0 = (4955 : Int32)) = (ls = kwF) := by rw [kwF_n]; exact xKw h.2.2.2.1 hls kwF_ok
    have x3 : (gF wx 5 7 0 = (397804 : Int32)) = (ls = kwT) := by rw [kwT_n]; exact xKw h.2.2.2.1 hls kwT_ok
    have x4 : (gF wx 5 7 0 = (375062 : Int32)) = (ls = kwS) := by rw [kwS_n]; exact xKw h.2.2.2.1 hls kwS_ok
    have x5 : (gF wx 5 7 0 = (85461 : Int32)) = (ls = kwD) := by rw [kwD_n]; exact xKw h.2.2.2.1 hls kwD_ok
    have wi : ∀ kw, (Kd.word ls = Kd.word kw) ↔ ls = kw := fun kw => ⟨fun z => by cases z; rfl, fun z => by rw [z]⟩
    rw [b01_c (wi _)] at w1 w2 w3 w4
    have hnb : Kd.word ls ≠ .bad := fun z => by cases z
    refine lift hpq ?_
    by_cases e1 : ls = kwF
    · rw [b01_t e1] at w1
      refine wrap (Or.inl (fun_ok hN h hnb hqn)) ?_ ?_
      · rw [f_X5_readLine]
        simp only [x1', x2.trans (eq_true e1), ↓reduceIte]
      · rw [f_X9_readLine]
        simp only [w1, Option.bind_some, z1n, ↓reduceIte]
    · have x2' := x2.trans (eq_false e1)
      rw [b01_f e1] at w1
      by_cases e2 : ls = kwT
      · rw [b01_t e2] at w2
        have d5 : (ls = kwD) = False := eq_false (fun z => by rw [e2] at z; exact absurd z (by decide))
        have d4 : (ls = kwS) = False := eq_false (fun z => by rw [e2] at z; exact absurd z (by decide))
        refine wrap (term_ok hN h hnb hqn) ?_ ?_
        · rw [f_X5_readLine]
          simp only [x1', x2', x5.trans d5, x4.trans d4, x3.trans (eq_true e2), ↓reduceIte]
        · rw [f_X9_readLine]
          simp only [w1, w2, Option.bind_some, z0n, z1n, ↓reduceIte]
      · rw [b01_f e2] at w2
        have x3' := x3.trans (eq_false e2)
        by_cases e3 : ls = kwS
        · rw [b01_t e3] at w3
          have d5 : (ls = kwD) = False := eq_false (fun z => by rw [e3] at z; exact absurd z (by decide))
          have h9 : gF wx 1 9 g = nI (cS (run (tk0 tg) c0 rs)).length := (h.1.2.2.2.2 _ (AG.z tg)).2.1.2.1
          have h22 : gF wm 9 22 0 = nI (cS (run (tk0 tg) c0 rs)).length := (h.2.1.2.2.2.2 _ (AG.z tg)).1
          have h24 : gF wm 9 24 0 = nI rs.length := h.2.1.2.2.2.1.1
          have hS := hC.2.2.1.1
          by_cases z12 : (cS (run (tk0 tg) c0 rs)).length < 12
          · have c12 : (nI (cS (run (tk0 tg) c0 rs)).length < (12 : Int32)) = True := lt_tt (b := 12) (by omega) (by omega) z12
            have m12 : (nI (cS (run (tk0 tg) c0 rs)).length = (12 : Int32)) = False := eq_tf (b := 12) (by omega) (by omega) (by omega)
            have E4 : (4 : Int32) * ((48 : Int32) + nI rs.length) = nI (4 * (48 + rs.length)) := by rw [li48, q_add, li4, q_mul]
            refine wrap (Or.inl (two_ok (x1 := 1) (b := true) hN h hnb hqn rfl (fun tk t u ht h1 h2 => ?_))) ?_ ?_
            · have hl := (h.2.2.1.2.2.2 tk ht).2
              have hx9 : gF wx 1 9 g = nI (cS (run tk c0 rs)).length := (h.1.2.2.2.2 _ ht).2.1.2.1
              have hS' := (h.2.2.1.n24 _ ht).2.2.1.1
              have := (nI_inj_iff (by omega) (by omega)).mp (h9.symm.trans hx9)
              exact ⟨by rw [← hl]; exact h1, by rw [← hl]; exact h2, by omega⟩
            · rw [f_X5_readLine]
              simp only [x1', x2', x5.trans d5, x4.trans (eq_true e3), ↓reduceIte, hR, hg2, h9, c12]
            · rw [f_X9_readLine]
              simp only [w1, w2, w3, Option.bind_some, z0n, z1n, ↓reduceIte, f_X9_readPair, z10, h22, m12, h24, E4]
              rfl
          · have c12 : (nI (cS (run (tk0 tg) c0 rs)).length < (12 : Int32)) = False := lt_tf (b := 12) (by omega) (by omega) (by omega)
            have m12 : (nI (cS (run (tk0 tg) c0 rs)).length = (12 : Int32)) = True := eq_tt (b := 12) (by omega)
            refine Or.inl (LO.fail (xF_fr _ _).r (mE_n _ _) h.2.2.2 (e := 4) ?_ ?_)
            · rw [f_X5_readLine]
              simp only [x1', x2', x5.trans d5, x4.trans (eq_true e3), ↓reduceIte, hR, hg2, h9, c12, fail_eq, Option.bind_some, eq_self, true_or]
            · rw [f_X9_readLine]
              simp only [w1, w2, w3, Option.bind_some, z0n, z1n, ↓reduceIte, f_X9_readPair, z10, h22, m12, errs_eq, eq_self, true_or]
        · rw [b01_f e3] at w3
          have x4' := x4.trans (eq_false e3)
          by_cases e4 : ls = kwD
          · rw [b01_t e4] at w4
            have h9 : gF wx 1 10 g = nI (cQ (run (tk0 tg) c0 rs)).length := (h.1.2.2.2.2 _ (AG.z tg)).2.2.1.2.1
            have h22 : gF wm 9 23 0 = nI (cQ (run (tk0 tg) c0 rs)).length := (h.2.1.2.2.2.2 _ (AG.z tg)).2
            have h24 : gF wm 9 24 0 = nI rs.length := h.2.1.2.2.2.1.1
            have hS := hC.2.2.2.1.1
            by_cases z12 : (cQ (run (tk0 tg) c0 rs)).length < 8
            · have c12 : (nI (cQ (run (tk0 tg) c0 rs)).length < (8 : Int32)) = True := lt_tt (b := 8) (by omega) (by omega) z12
              have m12 : (nI (cQ (run (tk0 tg) c0 rs)).length = (8 : Int32)) = False := eq_tf (b := 8) (by omega) (by omega) (by omega)
              have E4 : (4 : Int32) * ((48 : Int32) + nI rs.length) = nI (4 * (48 + rs.length)) := by rw [li48, q_add, li4, q_mul]
              refine wrap (Or.inl (two_ok (x1 := 0) (b := false) hN h hnb hqn rfl (fun tk t u ht h1 h2 => ?_))) ?_ ?_
              · have hl := (h.2.2.1.2.2.2 tk ht).2
                have hx9 : gF wx 1 10 g = nI (cQ (run tk c0 rs)).length := (h.1.2.2.2.2 _ ht).2.2.1.2.1
                have hS' := (h.2.2.1.n24 _ ht).2.2.2.1.1
                have := (nI_inj_iff (by omega) (by omega)).mp (h9.symm.trans hx9)
                exact ⟨by rw [← hl]; exact h1, by rw [← hl]; exact h2, by omega⟩
              · rw [f_X5_readLine]
                simp only [x1', x2', x5.trans (eq_true e4), ↓reduceIte, hR, hg2, h9, c12]
              · rw [f_X9_readLine]
                simp only [w1, w2, w3, w4, Option.bind_some, z0n, z1n, ↓reduceIte, f_X9_readPair, h22, m12, h24, E4]
                rfl
            · have c12 : (nI (cQ (run (tk0 tg) c0 rs)).length < (8 : Int32)) = False := lt_tf (b := 8) (by omega) (by omega) (by omega)
              have m12 : (nI (cQ (run (tk0 tg) c0 rs)).length = (8 : Int32)) = True := eq_tt (b := 8) (by omega)
              refine Or.inl (LO.fail (xF_fr _ _).r (mE_n _ _) h.2.2.2 (e := 4) ?_ ?_)
              · rw [f_X5_readLine]
                simp only [x1', x2', x5.trans (eq_true e4), ↓reduceIte, hR, hg2, h9, c12, fail_eq, Option.bind_some, eq_self, true_or]
              · rw [f_X9_readLine]
                simp only [w1, w2, w3, w4, Option.bind_some, z0n, z1n, ↓reduceIte, f_X9_readPair, h22, m12, errs_eq, eq_self, true_or]
          · rw [b01_f e4] at w4
            refine Or.inl (LO.fail (xF_fr _ _).r (mE_n _ _) h.2.2.2 (e := 1) ?_ ?_)
            · rw [f_X5_readLine]
              simp only [x1', x2', x5.trans (eq_false e4), x4', x3', ↓reduceIte, fail_eq, Option.bind_some, eq_self, true_or]
            · rw [f_X9_readLine]
              simp only [w1, w2, w3, w4, Option.bind_some, z0n, ↓reduceIte, errs_eq, eq_self, true_or]
  · have x1' := x1.trans (eq_false hw)
    rw [b01_f (fun z => hw ⟨_, z⟩)] at w1 w2 w3 w4
    refine Or.inl (LO.fail (xF_fr _ _).r (mE_n _ _) h.2.2.2 (e := 1) ?_ ?_)
    · rw [f_X5_readLine]
      simp only [x1', ↓reduceIte, fail_eq, Option.bind_some, eq_self, true_or]
    · rw [f_X9_readLine]
      simp only [w1, w2, w3, w4, Option.bind_some, z0n, ↓reduceIte, errs_eq, eq_self, true_or]
