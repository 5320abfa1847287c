/-! the law: the forest -/
theorem ct_inj {p : Nat → Bool} {n : Nat} (f : Nat → Nat) : ∀ (m : Nat) (q : Nat → Bool), (∀ i, i < m → p i = true → f i < n ∧ q (f i) = true) → (∀ i j, i < m → j < m → p i = true → p j = true → f i = f j → i = j) → fb_ct p m ≤ fb_ct q n
  | 0, q, _, _ => Nat.zero_le _
  | m + 1, q, h, hj => by
    by_cases z : p m = true
    · obtain ⟨h1, h2⟩ := h m (by omega) z
      have hu := fb_ct_upd q false h1
      rw [if_pos h2] at hu
      have hi := ct_inj f m (fun k => if k = f m then false else q k) (fun i hi hp => by
        obtain ⟨g1, g2⟩ := h i (by omega) hp
        refine ⟨g1, ?_⟩
        show (if f i = f m then false else q (f i)) = true
        rw [if_neg (fun e => by have := hj i m (by omega) (by omega) hp z e; omega)]
        exact g2) (fun i j hi hj2 => hj i j (by omega) (by omega))
      rw [ct_t (n := m) z]
      have e0 : (if false = true then 1 else 0) = 0 := rfl
      omega
    · rw [ct_f (n := m) z]
      exact ct_inj f m q (fun i hi => h i (by omega)) (fun i j hi hj2 => hj i j (by omega) (by omega))
theorem cnt_ct {d : Nat → Nat} : ∀ n, cntG n d = fb_ct (fun i => decide (d i = i)) n
  | 0 => rfl
  | n + 1 => by
    have := cnt_ct (d := d) n
    by_cases z : d n = n
    · rw [ct_t (p := fun i => decide (d i = i)) (decide_eq_true z), ← this, cntG, if_pos z]
    · rw [ct_f (p := fun i => decide (d i = i)) (fun y => z (of_decide_eq_true y)), ← this, cntG, if_neg z]; rfl
theorem roots_ok {F : Fst} {n nJ : Nat} {d : Nat → Nat} (h : FW F n d nJ) (hn : n ≤ 24) (hC : Can n d) : fb_ct (fun s => (F s).isNone) n = cntG n d := by
  rw [cnt_ct]
  apply Nat.le_antisymm
  · refine ct_inj d n _ (fun i hi hp => ?_) (fun i j hi hj pi pj e => ?_)
    · have := (hC i hi).1
      exact ⟨by omega, decide_eq_true (hC i hi).2⟩
    · exact h.2 i j hi hj e (Option.isNone_iff_eq_none.mp pi) (Option.isNone_iff_eq_none.mp pj)
  · refine ct_inj (fun i => anc F (dp F i) i) n _ (fun i hi hp => ?_) (fun i j hi hj pi pj e => ?_)
    · exact ⟨h.lt hi _, by show (F (anc F (dp F i) i)).isNone = true; rw [(h.dpS hn hi).1]; rfl⟩
    · have e1 := h.ld_anc i (dp F i)
      have e2 := h.ld_anc j (dp F j)
      have e : anc F (dp F i) i = anc F (dp F j) j := e
      rw [e] at e1
      have p1 : d i = i := of_decide_eq_true pi
      have p2 : d j = j := of_decide_eq_true pj
      omega
theorem up9_hg {F : Fst} {n t s : Nat} (hn : n ≤ 24) (ht : t < n) (hF : ∀ s y z, F s = some (y, z) → y < n) : (up9 F s = nI t) ↔ hgB F t s = true := by
  unfold hgB up9
  cases h : F s with
  | none => exact ⟨fun z => absurd z.symm (nI_n2 (by omega)), fun z => by cases z⟩
  | some y =>
    obtain ⟨u, c⟩ := y
    have hu := hF s u c h
    show nI u = nI t ↔ decide (u = t) = true
    rw [decide_eq_true_iff]
    exact nI_inj_iff (by omega) (by omega)
section FORST
variable {N f a x : Nat} {R A : List Row} {NL : List (List Nat)} {tp : List Nat} {sx : Nat × (Nat → Int32)} {v4 v5 v6 : Int32} {w : Mem}
theorem l729 (k : Mem → Int32 → Option (Mem × Int32)) (hN : 276 < N) (h : LW9 w f a R A NL tp) (hCI : CI tk5 5 (run tk5 c0 (R ++ A))) (h9 : (cL (run tk5 c0 (R ++ A))).length ≤ 9) (hx : x < (cL (run tk5 c0 (R ++ A))).length) : ∃ w', lp_L_law_729 k N sx v4 v5 v6 (nI x) N w (nI 0) (nI 0) = k w' (nI (fb_ct (hgB (frJ (cJ (run tk5 c0 (R ++ A)))) x) (cL (run tk5 c0 (R ++ A))).length)) ∧ LW9 w' f a R A NL tp := by
  have hW := hCI.fw
  have hF : ∀ s y z, (frJ (cJ (run tk5 c0 (R ++ A)))) s = some (y, z) → y < (cL (run tk5 c0 (R ++ A))).length := fun s y z e => by
    obtain ⟨⟨rk, hrk⟩, -⟩ := hW
    exact (hrk s y z e).2.1
  let J : Nat → Mem × Int32 → Prop := fun q u => LW9 u.1 f a R A NL tp ∧ u.2 = nI (fb_ct (hgB (frJ (cJ (run tk5 c0 (R ++ A)))) x) q)
  obtain ⟨⟨w', m⟩, ⟨j1, j2⟩, e⟩ := lpc (cL (run tk5 c0 (R ++ A))).length (fun g (u : Mem × Int32) q => lp_L_law_729 k N sx v4 v5 v6 (nI x) g u.1 u.2 q) (fun u => k u.1 u.2) J (fun g u hu => by
    show lp_L_law_729 k N sx v4 v5 v6 (nI x) (g + 1) u.1 u.2 _ = _
    rw [lp_L_law_729, hu.1.2.1.1.1]
    exact oit (nI_le (Nat.le_refl _) (by omega)) rfl) (fun g q u hq ⟨j1, j2⟩ => by
    obtain ⟨w, m⟩ := u
    have j1 : LW9 w f a R A NL tp := j1
    have j2 : m = nI (fb_ct (hgB (frJ (cJ (run tk5 c0 (R ++ A)))) x) q) := j2
    subst j2
    have e5 := xterm5 j1.1 N hq hW
    have hc := fb_ct_le (hgB (frJ (cJ (run tk5 c0 (R ++ A)))) x) q
    by_cases z : hgB (frJ (cJ (run tk5 c0 (R ++ A)))) x q = true
    · have eh := (xhung (s := 0) hN j1.an.1 hx hW (k := fb_ct (hgB (frJ (cJ (run tk5 c0 (R ++ A)))) x) q) (by omega)).1 q hq z rfl
      refine ⟨(xAns (xAns w (nI 0)) (nI 0), nI (fb_ct (hgB (frJ (cJ (run tk5 c0 (R ++ A)))) x) (q + 1))), ⟨j1.an.an, rfl⟩, ?_⟩
      show lp_L_law_729 k N sx v4 v5 v6 (nI x) (g + 1) w _ (nI q) = lp_L_law_729 k N sx v4 v5 v6 (nI x) g _ _ (nI (q + 1))
      rw [lp_L_law_729, j1.2.1.1.1, ct_t z]
      refine oie (nI_ge hq (by omega)) (obind e5 (oit ((up9_hg (by omega) hx hF).mpr z) (obind eh (oit rfl ?_))))
      rw [nI1, nI1]
    · refine ⟨(xAns w (nI 0), nI (fb_ct (hgB (frJ (cJ (run tk5 c0 (R ++ A)))) x) (q + 1))), ⟨j1.an, rfl⟩, ?_⟩
      show lp_L_law_729 k N sx v4 v5 v6 (nI x) (g + 1) w _ (nI q) = lp_L_law_729 k N sx v4 v5 v6 (nI x) g _ _ (nI (q + 1))
      rw [lp_L_law_729, j1.2.1.1.1, ct_f z]
      refine oie (nI_ge hq (by omega)) (obind e5 (oie (fun y => z ((up9_hg (by omega) hx hF).mp y)) ?_))
      rw [nI1]) 0 N (w, nI 0) (by omega) (by omega) ⟨h, rfl⟩
  have j2 : m = _ := j2
  subst j2
  exact ⟨w', e, j1⟩
theorem l777 (rc : Mem → Int32 → Int32 → Option (Mem × Int32)) (k : Mem → Int32 → Option (Mem × Int32)) (hN : 276 < N) (h : LW9 w f a R A NL tp) (hCI : CI tk5 5 (run tk5 c0 (R ++ A))) (h9 : (cL (run tk5 c0 (R ++ A))).length ≤ 9) (hx : x < (cL (run tk5 c0 (R ++ A))).length) : f_L_law_777_645 rc k N w sx v4 v5 v6 (nI x) (nI (fb_ct (hgB (frJ (cJ (run tk5 c0 (R ++ A)))) x) (cL (run tk5 c0 (R ++ A))).length)) = rc (xAns w (nI 0)) v6 (nI (x + 1)) := by
  have hc := fb_ct_le (hgB (frJ (cJ (run tk5 c0 (R ++ A)))) x) (cL (run tk5 c0 (R ++ A))).length
  have eh := (xhung (s := 0) hN h.1 hx hCI.fw (k := fb_ct (hgB (frJ (cJ (run tk5 c0 (R ++ A)))) x) (cL (run tk5 c0 (R ++ A))).length) (by omega)).2 (Nat.le_refl _)
  rw [f_L_law_777_645]
  refine obind eh (oit rfl ?_)
  rw [nI1]
theorem l680 (rc : Mem → Int32 → Int32 → Option (Mem × Int32)) (k : Mem → Int32 → Option (Mem × Int32)) {s0 s1 : Int32} (hN : 276 < N) (h : LW9 w f a R A NL tp) (hCI : CI tk5 5 (run tk5 c0 (R ++ A))) (h9 : (cL (run tk5 c0 (R ++ A))).length ≤ 9) (hx : x < (cL (run tk5 c0 (R ++ A))).length) : ∃ w', f_L_law_680_645_s2 rc k N w sx v4 v5 (nI x) (up9 (frJ (cJ (run tk5 c0 (R ++ A)))) x) (0 : Int32) s0 s1 = rc w' (s1 + s0) (nI (x + 1)) ∧ LW9 w' f a R A NL tp := by
  have hW := hCI.fw
  have h1 := h.an
  have h2 := h1.an
  have h3 := h2.an
  have g0 := xheight (N := N) (by omega) h.1 hW hx
  have g1 := xheight (N := N) (by omega) h1.1 hW hx
  have g2 := xheight (N := N) (by omega) h2.1 hW hx
  have hd := (hW.dpS (by omega) hx).2.1
  have hin : inb (nI x) 12 = true := inb_nI (by omega) (by omega)
  have lt1 : ∀ v, LW9 v f a R A NL tp → nI (dp (frJ (cJ (run tk5 c0 (R ++ A)))) x) < gF v 9 5 0 := fun v hv => by rw [hv.2.1.1.1]; exact nI_lt hd (by omega)
  cases hF : (frJ (cJ (run tk5 c0 (R ++ A)))) x with
  | none =>
    have hu : up9 (frJ (cJ (run tk5 c0 (R ++ A)))) x = n2 := by unfold up9; rw [hF]
    have d0 := hW.dp_none (by omega) hx hF
    obtain ⟨w1, e1, k1⟩ := l729 (N := N) (sx := sx) (v4 := v4) (v5 := v5) (v6 := s1 + s0) (fun (w_130 : Mem) (u9_130 : Int32) => (f_L_law_777_645 rc k N w_130 sx v4 v5 (s1 + s0) (nI x) u9_130)) hN h2 hCI h9 hx
    refine ⟨_, ?_, k1.an⟩
    rw [f_L_law_680_645_s2, hu]
    refine obind g0 (oit rfl (oit (by rw [d0]; rfl) (obind g1 (oit (lt1 _ h2) (e1.trans (l777 rc k hN k1 hCI h9 hx))))))
  | some q =>
    obtain ⟨u, c⟩ := q
    have hu : up9 (frJ (cJ (run tk5 c0 (R ++ A)))) x = nI u := by unfold up9; rw [hF]
    have d1 := hW.dp_some (by omega) hx hF
    have un9 : u < (cL (run tk5 c0 (R ++ A))).length := by
      obtain ⟨⟨rk, hrk⟩, -⟩ := hW
      exact (hrk x u c hF).2.1
    have gu := xheight (N := N) (by omega) h1.1 hW un9
    obtain ⟨w1, e1, k1⟩ := l729 (N := N) (sx := sx) (v4 := v4) (v5 := v5) (v6 := s1 + s0) (fun (w_115 : Mem) (u9_115 : Int32) => (f_L_law_777_645 rc k N w_115 sx v4 v5 (s1 + s0) (nI x) u9_115)) hN h3 hCI h9 hx
    refine ⟨_, ?_, k1.an⟩
    rw [f_L_law_680_645_s2, hu]
    refine obind g0 (oie (nI_n2 (by omega)) (obind gu (oit ?_ (obind g2 (oit (lt1 _ h3) (e1.trans (l777 rc k hN k1 hCI h9 hx)))))))
    rw [nI1, d1]
theorem l645 (k : Mem → Int32 → Option (Mem × Int32)) (hN : 276 < N) (h : LW9 w f a R A NL tp) (hCI : CI tk5 5 (run tk5 c0 (R ++ A))) (h9 : (cL (run tk5 c0 (R ++ A))).length ≤ 9) : ∃ w', lp_L_law_645 k N sx v4 v5 N w (nI 0) (nI 0) = k w' (nI (cntG (cL (run tk5 c0 (R ++ A))).length (ldJ (cJ (run tk5 c0 (R ++ A)))))) ∧ LW9 w' f a R A NL tp := by
  have hW := hCI.fw
  have hC : Can (cL (run tk5 c0 (R ++ A))).length (ldJ (cJ (run tk5 c0 (R ++ A)))) := hCI.1.2.2.2.1
  rw [← roots_ok hW (by omega) hC]
  let J : Nat → Mem × Int32 → Prop := fun q u => LW9 u.1 f a R A NL tp ∧ u.2 = nI (fb_ct (fun s => ((frJ (cJ (run tk5 c0 (R ++ A)))) s).isNone) q)
  obtain ⟨⟨w', m⟩, ⟨j1, j2⟩, e⟩ := lpc (cL (run tk5 c0 (R ++ A))).length (fun g (u : Mem × Int32) q => lp_L_law_645 k N sx v4 v5 g u.1 u.2 q) (fun u => k u.1 u.2) J (fun g u hu => by
    show lp_L_law_645 k N sx v4 v5 (g + 1) u.1 u.2 _ = _
    rw [lp_L_law_645, hu.1.2.1.1.1]
    exact oit (nI_le (Nat.le_refl _) (by omega)) rfl) (fun g q u hq ⟨j1, j2⟩ => by
    obtain ⟨w, m⟩ := u
    have j1 : LW9 w f a R A NL tp := j1
    have j2 : m = nI (fb_ct (fun s => ((frJ (cJ (run tk5 c0 (R ++ A)))) s).isNone) q) := j2
    subst j2
    have e5 := xterm5 j1.1 N hq hW
    have j1' := j1.an
    cases hF : (frJ (cJ (run tk5 c0 (R ++ A)))) q with
    | none =>
      have hu : up9 (frJ (cJ (run tk5 c0 (R ++ A)))) q = n2 := by unfold up9; rw [hF]
      obtain ⟨w1, e1, k1⟩ := l680 (N := N) (sx := sx) (v4 := v4) (v5 := v5) (s0 := (1 : Int32)) (s1 := nI (fb_ct (fun s => ((frJ (cJ (run tk5 c0 (R ++ A)))) s).isNone) q)) (fun (w : Mem) (v6 : Int32) (v7 : Int32) => lp_L_law_645 k N sx v4 v5 g w v6 v7) k hN j1' hCI h9 hq
      refine ⟨(w1, nI (fb_ct (fun s => ((frJ (cJ (run tk5 c0 (R ++ A)))) s).isNone) (q + 1))), ⟨k1, rfl⟩, ?_⟩
      show lp_L_law_645 k N sx v4 v5 (g + 1) w _ (nI q) = lp_L_law_645 k N sx v4 v5 g w1 _ (nI (q + 1))
      rw [lp_L_law_645, j1.2.1.1.1, ct_t (p := fun s => ((frJ (cJ (run tk5 c0 (R ++ A)))) s).isNone) (by show ((frJ (cJ (run tk5 c0 (R ++ A)))) q).isNone = true; rw [hF]; rfl)]
      refine oie (nI_ge hq (by omega)) (obind e5 (oit (by rw [hu]; rfl) (e1.trans ?_)))
      rw [nI1]
    | some y =>
      obtain ⟨u, c⟩ := y
      have hu : up9 (frJ (cJ (run tk5 c0 (R ++ A)))) q = nI u := by unfold up9; rw [hF]
      have un9 : u < (cL (run tk5 c0 (R ++ A))).length := by
        obtain ⟨⟨rk, hrk⟩, -⟩ := hW
        exact (hrk q u c hF).2.1
      obtain ⟨w1, e1, k1⟩ := l680 (N := N) (sx := sx) (v4 := v4) (v5 := v5) (s0 := (0 : Int32)) (s1 := nI (fb_ct (fun s => ((frJ (cJ (run tk5 c0 (R ++ A)))) s).isNone) q)) (fun (w : Mem) (v6 : Int32) (v7 : Int32) => lp_L_law_645 k N sx v4 v5 g w v6 v7) k hN j1' hCI h9 hq
      refine ⟨(w1, nI (fb_ct (fun s => ((frJ (cJ (run tk5 c0 (R ++ A)))) s).isNone) (q + 1))), ⟨k1, rfl⟩, ?_⟩
      show lp_L_law_645 k N sx v4 v5 (g + 1) w _ (nI q) = lp_L_law_645 k N sx v4 v5 g w1 _ (nI (q + 1))
      rw [lp_L_law_645, j1.2.1.1.1, ct_f (p := fun s => ((frJ (cJ (run tk5 c0 (R ++ A)))) s).isNone) (by show ¬ ((frJ (cJ (run tk5 c0 (R ++ A)))) q).isNone = true; rw [hF]; exact Bool.false_ne_true)]
      refine oie (nI_ge hq (by omega)) (obind e5 (oie (by rw [hu]; exact nI_n2 (by omega)) (e1.trans ?_)))
      rw [show ∀ c, nI c + (0 : Int32) = nI c from fun c => n_add c 0]) 0 N (w, nI 0) (by omega) (by omega) ⟨h, rfl⟩
  have j2 : m = _ := j2
  subst j2
  exact ⟨w', e, j1⟩
end FORST
