/-! the law: the second loop -/
section SECND
variable {N f a x g : Nat} {R A : List Row} {NL : List (List Nat)} {tp : List Nat} {sx : Nat × (Nat → Int32)} {v4 v5 : Int32} {w : Mem}
theorem l525 (rc : Mem → Int32 → Int32 → Option (Mem × Int32)) (k2 : Mem → Int32 → Option (Mem × Int32)) (h : LW9 w f a R A NL tp) (hL : LO9 (cL (run tk5 c0 (R ++ A)))) (hx : x < (cL (run tk5 c0 (R ++ A))).length) : ∃ w', f_L_law_525_220 rc k2 N w sx v4 v5 (nI x) = rc w' v5 (nI (x + 1)) ∧ LW9 w' f a R A NL tp := by
  have h9 := hL.1
  have hF5 := (hL.2 x hx).1
  have hpl := (hL.2 x hx).2.1
  have h1 := h.an
  have h2 := h1.an
  have h3 := h2.an
  have e0 : f_X8_partOf N w (nI x) (0 : Int32) = _ := xpartOf (b := 0) h.1 N hx (by omega)
  have e1 : f_X8_partOf N (xAns w (nI 0)) (nI x) (1 : Int32) = _ := xpartOf (b := 1) h1.1 N hx (by omega)
  have e3 : f_X8_partOf N (xAns (xAns w (nI 0)) (nI 0)) (nI x) (3 : Int32) = _ := xpartOf (b := 3) h2.1 N hx (by omega)
  have hin : inb (nI x) 12 = true := inb_nI (by omega) (by omega)
  obtain ⟨a1, a2, a3⟩ := h1.2.1.2.1 x hx
  obtain ⟨c1, c2, c3⟩ := h2.2.1.2.1 x hx
  refine ⟨_, ?_, h3⟩
  rw [f_L_law_525_220]
  refine obind e0 (oit hin ?_)
  rw [nI_clamp (by omega), a1]
  have q3 : ¬ 3 < tk5 (tlF (cL (run tk5 c0 (R ++ A))) x) := by
    rcases ar9 hL hx with ⟨z, e⟩ | ⟨z, e⟩ | ⟨z, e⟩ <;> omega
  rw [if_neg q3] at e3
  rcases ar9 hL hx with ⟨z, e⟩ | ⟨z, e⟩ | ⟨z, e⟩
  · refine oit (nI_le (b := 2) z (by omega)) ?_
    rw [f_L_law_555_220_s2]
    refine oit (if_neg (by omega)) (obind e1 (oit hin ?_))
    rw [nI_clamp (by omega), c1]
    refine oie (fun y => by have := (nI_inj_iff (b := 4) (by omega) (by omega)).mp y; omega) (oit (if_neg (by omega)) (obind e3 (oit rfl ?_)))
    rw [nI1]
  · have a41 : gA (xAns w (nI 0)) 41 0 x = nI ((tlP (cL (run tk5 c0 (R ++ A))) x).getD 0 0) := a3 0 (by omega)
    refine oie (nI_ge (b := tlF (cL (run tk5 c0 (R ++ A))) x) (a := 2) (by omega) (by omega)) ?_
    rw [a41, f_L_law_555_220_s2]
    refine oit (if_pos (by omega)) (obind e1 (oit hin ?_))
    rw [nI_clamp (by omega), c1]
    refine oie (fun y => by have := (nI_inj_iff (b := 4) (by omega) (by omega)).mp y; omega) (oit (if_neg (by omega)) (obind e3 (oit rfl ?_)))
    rw [nI1]
  · have a41 : gA (xAns w (nI 0)) 41 0 x = nI ((tlP (cL (run tk5 c0 (R ++ A))) x).getD 0 0) := a3 0 (by omega)
    have a42 : gA (xAns (xAns w (nI 0)) (nI 0)) 42 0 x = nI ((tlP (cL (run tk5 c0 (R ++ A))) x).getD 1 0) := c3 1 (by omega)
    refine oie (nI_ge (b := tlF (cL (run tk5 c0 (R ++ A))) x) (a := 2) (by omega) (by omega)) ?_
    rw [a41, f_L_law_555_220_s2]
    refine oit (if_pos (by omega)) (obind e1 (oit hin ?_))
    rw [nI_clamp (by omega), c1, a42]
    refine oit (by rw [z]; rfl) (oit (if_pos (by omega)) (obind e3 (oit rfl ?_)))
    rw [nI1]
theorem l422 (rc : Mem → Int32 → Int32 → Option (Mem × Int32)) (k2 : Mem → Int32 → Option (Mem × Int32)) {s0 s1 : Int32} (hN : 276 < N) (h : LW9 w f a R A NL tp) (hCI : CI tk5 5 (run tk5 c0 (R ++ A))) (hL : LO9 (cL (run tk5 c0 (R ++ A)))) (hx : x < (cL (run tk5 c0 (R ++ A))).length) : ∃ w', f_L_law_422_220_s2 rc k2 N w sx v4 (nI x) (nI (fb_ct (fun s => decide ((ldJ (cJ (run tk5 c0 (R ++ A)))) s = (ldJ (cJ (run tk5 c0 (R ++ A)))) x)) (cL (run tk5 c0 (R ++ A))).length)) (nI (fb_ct (usr (cT tk5 R A) (ldJ (cJ (run tk5 c0 (R ++ A)))) x) (cL (run tk5 c0 (R ++ A))).length)) s0 s1 = rc w' (s1 + s0) (nI (x + 1)) ∧ LW9 w' f a R A NL tp := by
  have h9 := hL.1
  have h1 := h.an
  have h2 := h1.an
  have h3 := h2.an
  have h4 := h3.an
  have h5 := h4.an
  have e5 := xterm5 h.1 N hx hCI.fw
  have e0 := (xterm h1.1 hN hx).1
  have e1 := (xterm h2.1 hN hx).2.1
  have e2 := (xterm h3.1 hN hx).2.2.1
  have e3 := (xterm h4.1 hN hx).2.2.2
  have hin : inb (nI x) 12 = true := inb_nI (by omega) (by omega)
  have a1 := (h2.2.1.2.1 x hx).1
  have r3 := h3.2.2 x hx
  have hcl : (nI x).toNatClampNeg = x := nI_clamp (by omega)
  obtain ⟨w', e6, hw⟩ := l525 (N := N) (sx := sx) (v4 := v4) (v5 := s1 + s0) rc k2 h5 hL hx
  refine ⟨w', ?_, hw⟩
  rw [f_L_law_422_220_s2]
  refine obind e5 (obind e0 (oit hin (oit (by rw [hcl]; exact a1.symm) (obind e1 (oit (by rw [hcl]; exact r3.symm) (obind e2 (oit rfl (obind e3 (oit rfl ?_)))))))))
  have hW := hCI.fw
  show (if up9 (frJ (cJ (run tk5 c0 (R ++ A)))) x = (-2 : Int32) then _ else _) = _
  cases hF : (frJ (cJ (run tk5 c0 (R ++ A)))) x with
  | none =>
    have hu : up9 (frJ (cJ (run tk5 c0 (R ++ A)))) x = n2 := by unfold up9; rw [hF]
    rw [hu]
    exact oit rfl e6
  | some q =>
    obtain ⟨u, c⟩ := q
    have hu : up9 (frJ (cJ (run tk5 c0 (R ++ A)))) x = nI u := by unfold up9; rw [hF]
    obtain ⟨⟨rk, hrk⟩, -⟩ := hW
    obtain ⟨-, un9, -, ur, ud⟩ := hrk x u c hF
    rw [hu]
    refine oie (nI_n2 (by omega)) (oit (inb_nI (by omega) (by omega)) (oit ?_ (oie (fun y => ?_) e6)))
    · rw [hcl, nI_clamp (by omega)]
      exact (h5.2.2 u un9).trans ((congrArg nI ud).trans (h5.2.2 x hx).symm)
    · have : u = x := (nI_inj_iff (by omega) (by omega)).mp y
      rw [this] at ur; omega
theorem l403 (rc : Mem → Int32 → Int32 → Option (Mem × Int32)) (k2 : Mem → Int32 → Option (Mem × Int32)) (hN : 276 < N) (h : LW9 w f a R A NL tp) (hCI : CI tk5 5 (run tk5 c0 (R ++ A))) (hL : LO9 (cL (run tk5 c0 (R ++ A)))) (hx : x < (cL (run tk5 c0 (R ++ A))).length) : ∃ w', f_L_law_403_220 rc k2 N w sx v4 (nI (cntG x (ldJ (cJ (run tk5 c0 (R ++ A)))))) (nI x) (nI (fb_ct (fun s => decide ((ldJ (cJ (run tk5 c0 (R ++ A)))) s = (ldJ (cJ (run tk5 c0 (R ++ A)))) x)) (cL (run tk5 c0 (R ++ A))).length)) (nI (fb_ct (usr (cT tk5 R A) (ldJ (cJ (run tk5 c0 (R ++ A)))) x) (cL (run tk5 c0 (R ++ A))).length)) = rc w' (nI (cntG (x + 1) (ldJ (cJ (run tk5 c0 (R ++ A)))))) (nI (x + 1)) ∧ LW9 w' f a R A NL tp := by
  have h9 := hL.1
  have dx := hCI.dl hx
  have hin : inb (nI x) 12 = true := inb_nI (by omega) (by omega)
  by_cases z : (ldJ (cJ (run tk5 c0 (R ++ A)))) x = x
  · obtain ⟨w', e, hw⟩ := l422 (N := N) (sx := sx) (v4 := v4) (s0 := (1 : Int32)) (s1 := nI (cntG x (ldJ (cJ (run tk5 c0 (R ++ A)))))) rc k2 hN h hCI hL hx
    refine ⟨w', ?_, hw⟩
    rw [f_L_law_403_220]
    refine oit hin ?_
    rw [nI_clamp (by omega), h.2.2 x hx]
    refine oit (by rw [z]) (e.trans ?_)
    rw [nI1, show cntG (x + 1) (ldJ (cJ (run tk5 c0 (R ++ A)))) = cntG x (ldJ (cJ (run tk5 c0 (R ++ A)))) + 1 from by rw [cntG, if_pos z]]
  · obtain ⟨w', e, hw⟩ := l422 (N := N) (sx := sx) (v4 := v4) (s0 := (0 : Int32)) (s1 := nI (cntG x (ldJ (cJ (run tk5 c0 (R ++ A)))))) rc k2 hN h hCI hL hx
    refine ⟨w', ?_, hw⟩
    rw [f_L_law_403_220]
    refine oit hin ?_
    rw [nI_clamp (by omega), h.2.2 x hx]
    refine oie (fun y => z ((nI_inj_iff (by omega) (by omega)).mp y)) (e.trans ?_)
    rw [show nI (cntG x (ldJ (cJ (run tk5 c0 (R ++ A))))) + (0 : Int32) = nI (cntG x (ldJ (cJ (run tk5 c0 (R ++ A))))) from n_add _ 0, show cntG (x + 1) (ldJ (cJ (run tk5 c0 (R ++ A)))) = cntG x (ldJ (cJ (run tk5 c0 (R ++ A)))) from by rw [cntG, if_neg z]; rfl]
theorem l220 (k : Mem → Int32 → Option (Mem × Int32)) (hN : 276 < N) (h : LW9 w f a R A NL tp) (hCI : CI tk5 5 (run tk5 c0 (R ++ A))) (hL : LO9 (cL (run tk5 c0 (R ++ A)))) : ∃ w', lp_L_law_220 k N sx v4 N w (nI 0) (nI 0) = k w' (nI (cntG (cL (run tk5 c0 (R ++ A))).length (ldJ (cJ (run tk5 c0 (R ++ A)))))) ∧ LW9 w' f a R A NL tp := by
  have h9 := hL.1
  let J : Nat → Mem × Int32 → Prop := fun q u => LW9 u.1 f a R A NL tp ∧ u.2 = nI (cntG q (ldJ (cJ (run tk5 c0 (R ++ A)))))
  obtain ⟨⟨w', m⟩, ⟨j1, j2⟩, e⟩ := lpc (cL (run tk5 c0 (R ++ A))).length (fun g (u : Mem × Int32) q => lp_L_law_220 k N sx v4 g u.1 u.2 q) (fun u => k u.1 u.2) J (fun g u hu => by
    show lp_L_law_220 k N sx v4 (g + 1) u.1 u.2 _ = _
    rw [lp_L_law_220, hu.1.2.1.1.1]
    exact oit (nI_le (Nat.le_refl _) (by omega)) rfl) (fun g q u hq ⟨j1, j2⟩ => by
    obtain ⟨w, m⟩ := u
    have j1 : LW9 w f a R A NL tp := j1
    have j2 : m = nI (cntG q (ldJ (cJ (run tk5 c0 (R ++ A))))) := j2
    subst j2
    obtain ⟨w1, e1, h1⟩ := l238 (N := N) (sx := sx) (v4 := v4) (v5 := nI (cntG q (ldJ (cJ (run tk5 c0 (R ++ A)))))) (fun (w_138 : Mem) (u7_138 : Int32) (u8_138 : Int32) => (f_L_law_403_220 (fun (w : Mem) (v5 : Int32) (v6 : Int32) => lp_L_law_220 k N sx v4 g w v5 v6) k N w_138 sx v4 (nI (cntG q (ldJ (cJ (run tk5 c0 (R ++ A)))))) (nI q) u7_138 u8_138)) hN j1 hCI hL hq
    obtain ⟨w2, e2, h2⟩ := l403 (N := N) (sx := sx) (v4 := v4) (fun (w : Mem) (v5 : Int32) (v6 : Int32) => lp_L_law_220 k N sx v4 g w v5 v6) k hN h1 hCI hL hq
    refine ⟨(w2, nI (cntG (q + 1) (ldJ (cJ (run tk5 c0 (R ++ A)))))), ⟨h2, rfl⟩, ?_⟩
    show lp_L_law_220 k N sx v4 (g + 1) w _ (nI q) = lp_L_law_220 k N sx v4 g w2 _ (nI (q + 1))
    rw [lp_L_law_220, j1.2.1.1.1]
    exact oie (nI_ge hq (by omega)) (e1.trans e2)) 0 N (w, nI 0) (by omega) (by omega) ⟨h, rfl⟩
  have j2 : m = _ := j2
  subst j2
  exact ⟨w', e, j1⟩
end SECND
