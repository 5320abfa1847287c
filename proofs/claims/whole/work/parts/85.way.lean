/-! way -/
theorem isN_cv {T : Trm} {S : Prs} {ld : Nat → Nat} {X D : Mx} {hd : Prop} {u l s v : Nat} (hT : TOK T) (hL : LDC T S ld) (hX : IC T S ld X) (hfin : ∀ t u, t < tN T → u < tN T → (X t u < 4000000000 ↔ ld t = ld u)) (hD : ∀ t u, t < tN T → u < tN T → D t u = min 1000000000 (X t u)) (hu : u < tN T) (hs : s < tN T) (h : isN (tN T) (tg (wt T S ld D) D hd u) u l s v) : isN (tN T) (tgM T S X hd u) u l s v := by
  have key : ∀ y, y < tN T → (tg (wt T S ld D) D hd u s y ∧ Hp (tN T) (tg (wt T S ld D) D hd u) u l y ↔ tgM T S X hd u s y ∧ Hp (tN T) (tgM T S X hd u) u l y) := by
    intro y hy
    have h1 := hp_iff hT hL hX hfin hD hu (hd := hd) l y hy
    constructor
    · intro h
      exact ⟨(tg_iff hT hL hX hfin hD hu hs hy (hp_ld hL l y hy h.2)).mp h.1, h1.mp h.2⟩
    · intro h
      have h2 := h1.mpr h.2
      exact ⟨(tg_iff hT hL hX hfin hD hu hs hy (hp_ld hL l y hy h2)).mpr h.1, h2⟩
  exact ⟨h.1, (key v h.1).mp h.2.1, fun y hy hq => h.2.2 y hy ((key y (by have := h.1; omega)).mpr hq)⟩
theorem Ch_cv {T : Trm} {S : Prs} {ld : Nat → Nat} {X D : Mx} {hd : Prop} {u : Nat} (hT : TOK T) (hL : LDC T S ld) (hX : IC T S ld X) (hfin : ∀ t u, t < tN T → u < tN T → (X t u < 4000000000 ↔ ld t = ld u)) (hD : ∀ t u, t < tN T → u < tN T → D t u = min 1000000000 (X t u)) (hu : u < tN T) : ∀ i L s e, s < tN T → Ch (tN T) (tg (wt T S ld D) D hd u) u i L s e → Ch (tN T) (tgM T S X hd u) u i L s e
  | 0, _, _, _, _, h => h
  | i + 1, L, s, e, hs, ⟨v, h1, h2⟩ => ⟨v, isN_cv hT hL hX hfin hD hu hs h1, Ch_cv hT hL hX hfin hD hu i (L - 1) v e h1.1 h2⟩
theorem mwalk_ok {N u i0 : Nat} {T : Trm} {S : Prs} {X : Mx} {hd : Prop} {w : Mem} {H : Nat → Nat} (hN : 60 < N) (h : NX w T S X hd) (hu : u < tN T) (hi0 : i0 < 2147483648) (hH : ∀ s, s < tN T → gA w 66 0 s = nI (H s)) (hH2 : ∀ s, s < tN T → H s ≤ 24 ∧ (H s < 24 → Hp (tN T) (tgM T S X hd u) u (H s) s)) (hH3 : ∀ l s, s < tN T → l + 1 ≤ tN T → Hp (tN T) (tgM T S X hd u) u l s → (∀ j, j < l → ¬ Hp (tN T) (tgM T S X hd u) u j s) → H s = l) : ∀ i fu L s e, Ch (tN T) (tgM T S X hd u) u i L s e → i ≤ L → L + 1 ≤ tN T → s < tN T → Hp (tN T) (tgM T S X hd u) u L s → (∀ j, j < L → ¬ Hp (tN T) (tgM T S X hd u) u j s) → i < fu → i ≤ i0 → lp_X9_way_105 (fun (u5_15 : Int32) => (f_X9_way_161 N w u5_15)) N w (nI u) (nI i0) fu (nI s) (nI (i0 - i)) = some (w, nI e) := by
  have hn := h.1
  intro i
  induction i with
  | zero =>
    intro fu L s e hc hiL hL hs hp hnp hf hi
    obtain ⟨f', rfl⟩ : ∃ g, fu = g + 1 := ⟨fu - 1, by omega⟩
    have e1 : e = s := hc
    rw [lp_X9_way_105, Nat.sub_zero, if_pos (of_eq_true (le_tt (by omega) (by omega) (Nat.le_refl _))), f_X9_way_161, e1]
  | succ i ih =>
    intro fu L s e hc hiL hL hs hp hnp hf hi
    obtain ⟨f', rfl⟩ : ∃ g, fu = g + 1 := ⟨fu - 1, by omega⟩
    obtain ⟨l, rfl⟩ : ∃ l, L = l + 1 := ⟨L - 1, by omega⟩
    obtain ⟨v, hv, hc2⟩ := hc
    rw [Nat.add_sub_cancel] at hv hc2
    have hnl := hnp l (by omega)
    have hlev := isN_lev hnl hv
    have hHs := hH3 (l + 1) s hs hL hp hnp
    have hHv := hH3 l v hv.1 (by omega) hv.2.1.2 hlev
    have hvn := hv.1
    have is1 : inb (nI s) 24 = true := inb_t (by omega) (by omega)
    have cs1 : (nI s).toNatClampNeg = s := cl_t (by omega)
    have key := lpe (α := Unit) (tN T) (fun f2 _ q => lp_X9_way_114 (fun (u7_16 : Int32) => (f_X9_way_151_105 (fun (v5 : Int32) (v6 : Int32) => lp_X9_way_105 (fun (u5_15 : Int32) => (f_X9_way_161 N w u5_15)) N w (nI u) (nI i0) f' v5 v6) (fun (u5_15 : Int32) => (f_X9_way_161 N w u5_15)) N w (nI u) (nI i0) (nI (i0 - (i + 1))) u7_16)) N w (nI u) (nI i0) (nI s) (nI (i0 - (i + 1))) f2 q) (fun o => o = some (w, nI e)) (fun q _ => q ≤ v) ?_ ?_ 0 N () (by omega) (by omega) (Nat.zero_le _)
    · rw [lp_X9_way_105, if_neg (of_eq_false (le_tf (by omega) (by omega) (by omega))), li0]
      exact key
    · intro f2 _ hq; omega
    · intro f2 q _ hq hqv
      have is2 : inb (nI q) 24 = true := inb_t (by omega) (by omega)
      have cs2 : (nI q).toNatClampNeg = q := cl_t (by omega)
      have hb := (hH2 q hq).1
      by_cases x : q = v
      · subst x
        refine Or.inl ?_
        show lp_X9_way_114 _ N w (nI u) (nI i0) (nI s) (nI (i0 - (i + 1))) (f2 + 1) (nI q) = some (w, nI e)
        rw [lp_X9_way_114, if_pos is2, if_pos is1, cs1, cs2, hH q hq, hH s hs, hHs, hHv, li1, q_add, if_pos rfl, isNext_ok h hs hq hu, Option.bind_some, b01_t hv.2.1.1, if_neg (by decide), f_X9_way_151_105, li1, q_add, show i0 - (i + 1) + 1 = i0 - i by omega]
        exact ih f' l q e hc2 (by omega) (by omega) hq hv.2.1.2 hlev (by omega) (by omega)
      · refine Or.inr ⟨(), by omega, ?_⟩
        show lp_X9_way_114 _ N w (nI u) (nI i0) (nI s) (nI (i0 - (i + 1))) (f2 + 1) (nI q) = lp_X9_way_114 _ N w (nI u) (nI i0) (nI s) (nI (i0 - (i + 1))) f2 (nI (q + 1))
        rw [lp_X9_way_114, if_pos is2, if_pos is1, cs1, cs2, hH q hq, hH s hs, hHs, li1, q_add, q_add]
        by_cases y : H q = l
        · have hpq := (hH2 q hq).2 (by omega)
          rw [y] at hpq
          have hnt : ¬ tgM T S X hd u s q := fun z => hv.2.2 q (by omega) ⟨z, hpq⟩
          rw [if_pos (by rw [y]), isNext_ok h hs hq hu, Option.bind_some, b01_f hnt, if_pos (show (nI 0 : Int32) = 0 from rfl)]
        · rw [if_neg (of_eq_false (eq_tf (by omega) (by omega) (by omega)))]
theorem way_ref {N q : Nat} {w : Mem} (x1 x2 x3 : Int32) (h : q ≠ 0) (h2 : q < 1000) : f_X9_way_43_s2 N w x1 x2 x3 (nI q) = some (mAns w (nI q), n1) := by
  rw [f_X9_way_43_s2, refused_n N w h (by omega), Option.bind_some, if_neg (show ¬ ((nI 1 : Int32) = 0) by decide)]; rfl
theorem op_way {N f nf : Nat} {tk : Nat → Nat} {R A : List Row} {NL : List (List Nat)} {tp : List Nat} {wx wm : Mem} (hN : 10000000000000 < N) (h : RelC wx wm f nf tk R A NL tp) (x1 x2 x3 : Int32) : Op (f_X8_way N wx x1 x2 x3) (f_X9_way N wm x1 x2 x3) := by
  have hn24 : (cL (run tk c0 (R ++ A))).length ≤ 24 := h.ci.1.2.1
  have m27 : gF wm 9 27 0 = nI (cL (run tk c0 (R ++ A))).length := h.2.1.1.1.1.2.2.1
  have iM := isTermM (N := N) (w := wm) (show (cL (run tk c0 (R ++ A))).length < 1000 by omega) m27
  have href : ∀ q : Nat, q ≠ 0 → q < 1000 → Op (f_X8_way_14_s1 N wx x1 x2 x3 (nI q)) (f_X9_way_43_s2 N wm x1 x2 x3 (nI q)) := by
    intro q hq hq2
    rw [way_ref x1 x2 x3 hq hq2, f_X8_way_14_s1, if_neg (fun z => hq ((nI_inj_iff (by omega) (by omega)).mp (z.trans li0))), refuse_eq, Option.bind_some]
    exact op_ans0 h
  have h10 : ((1 : Int32) = 0) = False := by decide
  by_cases hneg : x3 < 0
  · have hm : f_X9_way N wm x1 x2 x3 = f_X9_way_43_s2 N wm x1 x2 x3 (nI 1) := by
      rw [f_X9_way, iM, iM, Option.bind_some, Option.bind_some]
      by_cases y1 : isT (cL (run tk c0 (R ++ A))).length x1
      · rw [b01_t y1, if_neg (show ¬ ((nI 1 : Int32) = 0) by decide)]
        by_cases y2 : isT (cL (run tk c0 (R ++ A))).length x2
        · rw [b01_t y2, if_neg (show ¬ ((nI 1 : Int32) = 0) by decide), if_pos hneg, if_pos rfl]; rfl
        · rw [b01_f y2, if_pos (show (nI 0 : Int32) = 0 from rfl), if_pos rfl]; rfl
      · rw [b01_f y1, if_pos (show (nI 0 : Int32) = 0 from rfl), if_pos rfl]; rfl
    rw [hm, f_X8_way, if_neg (fun z => i_not_le.mpr hneg z)]
    exact href 1 (by omega) (by omega)
  · obtain ⟨i0, hi0, rfl⟩ : ∃ k : Nat, k < 2147483648 ∧ x3 = nI k := by
      rcases i_cases x3 with y | y
      · exact absurd y hneg
      · exact y
    have hpos : (0 : Int32) ≤ nI i0 := of_eq_true (le_tt (a := 0) (by omega) hi0 (Nat.zero_le _))
    rcases h.why (N := N) x1 x2 with ⟨q, hq, e1, e2⟩ | ⟨t, u, rfl, rfl, ht, hu, hl, e1, e2⟩
    · have hm : f_X9_way N wm x1 x2 (nI i0) = f_X9_way_43_s2 N wm x1 x2 (nI i0) (nI q) := by
        have e3 := e2
        rw [f_X9_whyNotOne, iM, iM, Option.bind_some, Option.bind_some] at e3
        rw [f_X9_way, iM, iM, Option.bind_some, Option.bind_some]
        by_cases y1 : isT (cL (run tk c0 (R ++ A))).length x1
        · rw [b01_t y1, if_neg (show ¬ ((nI 1 : Int32) = 0) by decide)] at e3 ⊢
          by_cases y2 : isT (cL (run tk c0 (R ++ A))).length x2
          · rw [b01_t y2, if_neg (show ¬ ((nI 1 : Int32) = 0) by decide), if_neg hneg, if_neg (show ¬ ((1 : Int32) = 0) by decide), e2, Option.bind_some]
          · rw [b01_f y2, if_pos (show (nI 0 : Int32) = 0 from rfl)] at e3 ⊢
            rw [if_pos rfl, ← Option.some.inj e3]
        · rw [b01_f y1, if_pos (show (nI 0 : Int32) = 0 from rfl)] at e3 ⊢
          rw [if_pos rfl, ← Option.some.inj e3]
      rw [hm, f_X8_way, if_pos hpos, e1, Option.bind_some]
      exact href q (by omega) (by omega)
    · have hM0 := h.2.1.km (mAns_km (cS (run tk c0 (R ++ A))).length wm (nI 0))
      have h5 := h.1.1.2.1
      have hf := h.1.1.1
      have hT : TOK (cT tk R A) := h.ci.1.1
      have hS : PRok (tN (cT tk R A)) (cSs tk R A) := h.ci.2.2.1.2
      have hn : tN (cT tk R A) = (cL (run tk c0 (R ++ A))).length := rfl
      have hL := h.ldc
      obtain ⟨wx', D, a1, a2, a3, a4, a5⟩ := h.settle (N := N) (by omega)
      obtain ⟨wm', X, b1, b2, b3, b4, b5, b6, b7⟩ := laysCosts_ok hN hM0.1.1.1 hM0.1.2.1 hL
      have hDX : ∀ t u, t < tN (cT tk R A) → u < tN (cT tk R A) → D t u = min 1000000000 (X t u) := gsol_uniq a4 b6
      have hfin := (b5 t u ht hu).mpr hl
      have hfr := b4.1 t u ht hu
      have hDt := hDX t u ht hu
      have hle := (sol_tri a4.1).1 t u ht hu
      obtain ⟨hiff, m, m1, m2, m3⟩ := way_few hT hL hS a4 ht hu hl
      generalize hhd : (D t u = 1000000000) = hd at hiff m2 m3
      -- the class
      obtain ⟨wx2, s1, s2, s3⟩ := stepsOnWay_ok (N := N) (m := m) (by omega) hn24 a3 hle a5 (fun _ _ _ _ => wt_leN) ht hu m1 ((hiff m).mpr m2) (fun j hj hq => m3 j hj ((hiff j).mp hq))
      have hkx : KX wx' wx2 := s3.kx (fun _ _ _ z => z.elim) (fun _ _ z => by omega)
      -- the model
      have hflag : f_X9_way_43_s2 N wm (nI t) (nI u) (nI i0) (nI 0) = f_X9_way_78_s2 N wm' (nI t) (nI u) (nI i0) (nI (b01 hd)) := by
        have h64 := b3 t u ht hu
        unfold fr at hfr
        rw [f_X9_way_43_s2, refused_0, Option.bind_some, if_pos (show (nI 0 : Int32) = 0 from rfl), b1, Option.bind_some, f_X9_pair, Option.bind_some, li24, q_mul, q_add, if_pos (inb_t (by omega) (by omega)), cl_t (by omega), h64, lT]
        by_cases z : X t u < 1000000000
        · rw [if_pos (by rw [cmp_lt (by omega) (by omega)]; exact z), b01_f (by rw [← hhd]; omega)]; rfl
        · rw [if_neg (by rw [cmp_lt (by omega) (by omega)]; exact z), b01_t (by rw [← hhd]; omega)]; rfl
      have hNX : NX (sF wm' 9 52 0 (nI (b01 hd))) (cT tk R A) (cSs tk R A) X hd := ⟨hn24, by rw [gF_sF, if_neg (by omega), b2.1]; exact hM0.1.1.1.2.2.1, by rw [gF_sF, if_pos ⟨rfl, rfl, rfl⟩], fun t u ht hu => b3 t u ht hu, b4.1, fun t u ht hu => b7 t u ht hu⟩
      obtain ⟨wh, c1, H, c2, c3, c4, c5⟩ := laysHops_ok (N := N) (by omega) hNX hu
      have hNXh := hNX.eq c2
      have hH3 : ∀ l s, s < tN (cT tk R A) → l + 1 ≤ tN (cT tk R A) → Hp (tN (cT tk R A)) (tgM (cT tk R A) (cSs tk R A) X hd u) u l s → (∀ j, j < l → ¬ Hp (tN (cT tk R A)) (tgM (cT tk R A) (cSs tk R A) X hd u) u j s) → H s = l := by
        intro l s hs hl2 hp hnp
        have d1 := c5 l s hs ⟨by omega, hp⟩
        have d2 := (c4 s hs).2 (by omega)
        by_cases z : H s < l
        · exact absurd d2 (hnp _ z)
        · omega
      have hcv := fun l s hs => hp_iff hT hL b4 b5 hDX hu (hd := hd) l s hs
      have hHt := hH3 m t ht m1 ((hcv m t ht).mp m2) (fun j hj hq => m3 j hj ((hcv j t ht).mpr hq))
      have hkm : KM (cS (run tk c0 (R ++ A))).length (mAns wm (nI 0)) wh := ((b2.km _).tr (⟨fun k j i z => by rw [gF_sF, if_neg (by omega)], fun _ _ _ => rfl, fun _ _ => ⟨rfl, rfl⟩⟩ : KM (cS (run tk c0 (R ++ A))).length wm' (sF wm' 9 52 0 (nI (b01 hd))))).tr (c2.km _)
      have g1 : gF wh 9 1 0 = nI 0 := by rw [c2.1, gF_sF, if_neg (by omega), b2.1]; exact mAns_1 _ _
      have g3 : gF wh 9 3 0 = n1 := by rw [c2.1, gF_sF, if_neg (by omega), b2.1]; exact mAns_3 _ _
      have hm : f_X9_way N wm (nI t) (nI u) (nI i0) = if nI i0 ≤ nI m then lp_X9_way_105 (fun (u5_15 : Int32) => (f_X9_way_161 N wh u5_15)) N wh (nI u) (nI i0) N (nI t) (nI 0) else some (wh, n2) := by
        rw [f_X9_way, iM, iM, Option.bind_some, Option.bind_some, b01_t (isT_nI ht), b01_t (isT_nI hu), if_neg (show ¬ ((nI 1 : Int32) = 0) by decide), if_neg (show ¬ ((nI 1 : Int32) = 0) by decide), if_neg hneg, if_neg (show ¬ ((1 : Int32) = 0) by decide), e2, Option.bind_some, hflag, f_X9_way_78_s2, if_pos (of_eq_true b01_01), c1, Option.bind_some, if_pos (inb_t (by omega) (by omega)), cl_t (by omega), c3 t ht, hHt]; rfl
      have hx : f_X8_way N wx (nI t) (nI u) (nI i0) = (if nI i0 ≤ nI m then lp_X0_termOnWay_29 (fun (u5_3 : Int32) => (f_X0_termOnWay_92 N wx2 u5_3)) N wx2 (nI t) (nI u) (nI i0) (nI m) N (nI t) (nI 0) (lv m) else some (wx2, n2)).bind (fun z6 => some (xAns z6.1 (nI 0), z6.2)) := by
        rw [f_X8_way, if_pos hpos, e1, Option.bind_some, f_X8_way_14_s1, if_pos (show (nI 0 : Int32) = 0 from rfl), if_pos (by rw [h5]; exact hf), h5, a1, Option.bind_some, f_X0_termOnWay, s1, Option.bind_some]
        show ((if nI i0 ≤ nI m then lp_X0_termOnWay_29 (fun (u5_3 : Int32) => (f_X0_termOnWay_92 N wx2 u5_3)) N wx2 (nI t) (nI u) (nI i0) (nI m) N (nI t) (0 : Int32) (nI m - (1 : Int32)) else some (wx2, (-2 : Int32)))).bind _ = _
        rw [li1, lv_sb]
        rfl
      rw [hm, hx]
      by_cases z : i0 ≤ m
      · rw [if_pos (of_eq_true (le_tt (by omega) (by omega) z)), if_pos (of_eq_true (le_tt (by omega) (by omega) z))]
        subst hhd
        obtain ⟨e, w1, w2, w3⟩ := walk_ok (N := N) (T := cT tk R A) (S := cSs tk R A) (ld := ldJ (cJ (run tk c0 (R ++ A)))) (D := D) (by omega) hn24 a4 ht hu (a3.of (s3.1 _ _ _ (fun z => z)) (s3.2.1 _ _ (fun z => by omega))) (a5.of (s3.2.1 _ _ (fun z => by omega))) s2 m1 z i0 N m t 0 z (Nat.le_refl _) rfl (by omega) ht m2 m3 (Nat.zero_le _) (by omega)
        have hmw := mwalk_ok (N := N) (by omega) hNXh hu hi0 c3 c4 hH3 i0 N m t e (Ch_cv hT hL b4 b5 hDX hu i0 m t e ht w2) z m1 ht ((hcv m t ht).mp m2) (fun j hj hq => m3 j hj ((hcv j t ht).mpr hq)) (by omega) (Nat.le_refl _)
        rw [Nat.sub_self] at hmw
        rw [w3, hmw, Option.bind_some]
        exact op_ans (tr := nI 0) a2 hkx hkm g1 g3 rfl
      · rw [if_neg (of_eq_false (le_tf (by omega) (by omega) (by omega))), if_neg (of_eq_false (le_tf (by omega) (by omega) (by omega))), Option.bind_some]
        exact op_ans (tr := nI 0) a2 hkx hkm g1 g3 rfl
