/-! the law: by all sames; the state, the inner loop of the second -/
def LW9 (w : Mem) (f a : Nat) (R A : List Row) (NL : List (List Nat)) (tp : List Nat) : Prop := RelX w f 5 tk5 R A NL tp ∧ TD w a (cL (run tk5 c0 (R ++ A))) (cSs tk5 R A) ∧ ∀ i, i < (cL (run tk5 c0 (R ++ A))).length → gA w 45 0 i = nI ((ldJ (cJ (run tk5 c0 (R ++ A)))) i)
theorem LW9.kx {w v : Mem} {f a : Nat} {R A : List Row} {NL : List (List Nat)} {tp : List Nat} (h : LW9 w f a R A NL tp) (hk : KX w v) : LW9 v f a R A NL tp := ⟨h.1.kx hk, h.2.1.kx hk, fun i hi => by rw [hk.2.1 45 0 (by omega)]; exact h.2.2 i hi⟩
theorem LW9.an {w : Mem} {f a : Nat} {R A : List Row} {NL : List (List Nat)} {tp : List Nat} (h : LW9 w f a R A NL tp) : LW9 (xAns w (nI 0)) f a R A NL tp := h.kx (xAns_kx _ _)
theorem CI.dl {tk : Nat → Nat} {nf i : Nat} {c : Core} (h : CI tk nf c) (hi : i < (cL c).length) : ldJ (cJ c) i ≤ i := (h.1.2.2.2.1 i hi).1
theorem CI.fw {tk : Nat → Nat} {nf : Nat} {c : Core} (h : CI tk nf c) : FW (frJ (cJ c)) (cL c).length (ldJ (cJ c)) (cJ c).length := h.1.2.2.2.2.1
theorem ar9 {L : Tl} {y : Nat} (hL : LO9 L) (hy : y < L.length) : (tlF L y ≤ 2 ∧ tk5 (tlF L y) = 0) ∨ (tlF L y = 3 ∧ tk5 (tlF L y) = 1) ∨ (tlF L y = 4 ∧ tk5 (tlF L y) = 2) := by
  have h5 := (hL.2 y hy).1
  obtain ⟨v0, v1, v2, v3, v4⟩ := tk5_v
  have : tlF L y = 0 ∨ tlF L y = 1 ∨ tlF L y = 2 ∨ tlF L y = 3 ∨ tlF L y = 4 := by omega
  rcases this with e | e | e | e | e
  · exact Or.inl ⟨by omega, by rw [e]; exact v0⟩
  · exact Or.inl ⟨by omega, by rw [e]; exact v1⟩
  · exact Or.inl ⟨by omega, by rw [e]; exact v2⟩
  · exact Or.inr (Or.inl ⟨e, by rw [e]; exact v3⟩)
  · exact Or.inr (Or.inr ⟨e, by rw [e]; exact v4⟩)
theorem usr_iff {L : Tl} {d : Nat → Nat} {x y : Nat} : usr (mkT tk5 L) d x y = true ↔ ∃ k, k < tk5 (tlF L y) ∧ d ((tlP L y).getD k 0) = d x := by
  unfold usr; exact plB_bit _
section TURN
variable {N f a x y c : Nat} {R A : List Row} {NL : List (List Nat)} {tp : List Nat} {sx : Nat × (Nat → Int32)} {v4 v5 v7 s0 s1 : Int32} {w : Mem}
theorem l359 (rc : Mem → Int32 → Int32 → Int32 → Option (Mem × Int32)) (k : Mem → Int32 → Int32 → Option (Mem × Int32)) (h : LW9 w f a R A NL tp) (hCI : CI tk5 5 (run tk5 c0 (R ++ A))) (h9 : (cL (run tk5 c0 (R ++ A))).length ≤ 9) (hx : x < (cL (run tk5 c0 (R ++ A))).length) (hy : y < (cL (run tk5 c0 (R ++ A))).length) : f_L_law_359_238_s2 rc k N w sx v4 v5 (nI x) v7 (nI y) s0 s1 = rc (xAns w (nI 0)) v7 (s1 + s0) (nI (y + 1)) := by
  have e := xequal h.1 N hx hy
  have h' := h.an
  have dx := hCI.dl hx
  have dy := hCI.dl hy
  rw [f_L_law_359_238_s2]
  refine obind e (oit (inb_nI (by omega) (by omega)) (oit (inb_nI (by omega) (by omega)) ?_))
  rw [nI_clamp (by omega), nI_clamp (by omega), h'.2.2 x hx, h'.2.2 y hy, nI1]
  by_cases z : (ldJ (cJ (run tk5 c0 (R ++ A)))) x = (ldJ (cJ (run tk5 c0 (R ++ A)))) y
  · refine oit (by rw [z]) (oit ?_ rfl)
    rw [b01_t z]; rfl
  · refine oie (fun y => z ((nI_inj_iff (by omega) (by omega)).mp y)) (oit ?_ rfl)
    rw [b01_f z]; rfl
theorem l307 (rc : Mem → Int32 → Int32 → Int32 → Option (Mem × Int32)) (k : Mem → Int32 → Int32 → Option (Mem × Int32)) (h : LW9 w f a R A NL tp) (hCI : CI tk5 5 (run tk5 c0 (R ++ A))) (hL : LO9 (cL (run tk5 c0 (R ++ A)))) (hx : x < (cL (run tk5 c0 (R ++ A))).length) (hy : y < (cL (run tk5 c0 (R ++ A))).length) : f_L_law_307_238 rc k N w sx v4 v5 (nI x) v7 (nI c) (nI y) = rc (xAns w (nI 0)) v7 (nI (c + b01 (tlF (cL (run tk5 c0 (R ++ A))) y = 4 ∧ (ldJ (cJ (run tk5 c0 (R ++ A)))) ((tlP (cL (run tk5 c0 (R ++ A))) y).getD 1 0) = (ldJ (cJ (run tk5 c0 (R ++ A)))) x))) (nI (y + 1)) := by
  have h9 := hL.1
  have dx := hCI.dl hx
  have i0 : ∀ s0 s1, f_L_law_359_238_s2 rc k N w sx v4 v5 (nI x) v7 (nI y) s0 s1 = rc (xAns w (nI 0)) v7 (s1 + s0) (nI (y + 1)) := fun s0 s1 => l359 rc k h hCI h9 hx hy
  obtain ⟨a1, a2, a3⟩ := h.2.1.2.1 y hy
  rw [f_L_law_307_238]
  refine oit (inb_nI (by omega) (by omega)) ?_
  rw [nI_clamp (by omega), a1]
  by_cases z4 : tlF (cL (run tk5 c0 (R ++ A))) y = 4
  · refine oit (show nI (tlF (cL (run tk5 c0 (R ++ A))) y) = (4 : Int32) by rw [z4]; rfl) ?_
    have e2 : tk5 (tlF (cL (run tk5 c0 (R ++ A))) y) = 2 := by rw [z4]; exact tk5_v.2.2.2.2
    have hp : (tlP (cL (run tk5 c0 (R ++ A))) y).getD 1 0 < y := (hL.2 y hy).2.2 1 (by omega)
    have hpl := (hL.2 y hy).2.1
    have dp := hCI.dl (show (tlP (cL (run tk5 c0 (R ++ A))) y).getD 1 0 < (cL (run tk5 c0 (R ++ A))).length by omega)
    have a42 : gA w 42 0 y = nI ((tlP (cL (run tk5 c0 (R ++ A))) y).getD 1 0) := a3 1 (by omega)
    rw [a42]
    refine oit (inb_nI (by omega) (by omega)) (oit (inb_nI (by omega) (by omega)) ?_)
    rw [nI_clamp (by omega), nI_clamp (by omega), h.2.2 _ (by omega), h.2.2 x hx]
    by_cases z : (ldJ (cJ (run tk5 c0 (R ++ A)))) ((tlP (cL (run tk5 c0 (R ++ A))) y).getD 1 0) = (ldJ (cJ (run tk5 c0 (R ++ A)))) x
    · refine oit (by rw [z]) (oie (by decide) ((i0 _ _).trans ?_))
      rw [b01_t ⟨z4, z⟩, show nI c + (1 : Int32) = nI (c + 1) from n_add c 1]
    · refine oie (fun y => z ((nI_inj_iff (by omega) (by omega)).mp y)) (oit rfl ((i0 _ _).trans ?_))
      rw [b01_f (fun y => z y.2), show nI c + (0 : Int32) = nI (c + 0) from n_add c 0]
  · have := (hL.2 y hy).1
    refine oie (fun y => z4 ((nI_inj_iff (b := 4) (by omega) (by omega)).mp y)) (oit rfl ((i0 _ _).trans ?_))
    rw [b01_f (fun y => z4 y.1), show nI c + (0 : Int32) = nI (c + 0) from n_add c 0]
theorem l271 (rc : Mem → Int32 → Int32 → Int32 → Option (Mem × Int32)) (k : Mem → Int32 → Int32 → Option (Mem × Int32)) (h : LW9 w f a R A NL tp) (hCI : CI tk5 5 (run tk5 c0 (R ++ A))) (hL : LO9 (cL (run tk5 c0 (R ++ A)))) (hx : x < (cL (run tk5 c0 (R ++ A))).length) (hy : y < (cL (run tk5 c0 (R ++ A))).length) : f_L_law_271_238_s2 rc k N w sx v4 v5 (nI x) (nI c) (nI y) s0 s1 = rc (xAns w (nI 0)) (s1 + s0) (nI (c + (if usr (cT tk5 R A) (ldJ (cJ (run tk5 c0 (R ++ A)))) x y = true then 1 else 0))) (nI (y + 1)) := by
  have h9 := hL.1
  have dx := hCI.dl hx
  have i0 : ∀ v7, f_L_law_307_238 rc k N w sx v4 v5 (nI x) v7 (nI c) (nI y) = rc (xAns w (nI 0)) v7 (nI (c + b01 (tlF (cL (run tk5 c0 (R ++ A))) y = 4 ∧ (ldJ (cJ (run tk5 c0 (R ++ A)))) ((tlP (cL (run tk5 c0 (R ++ A))) y).getD 1 0) = (ldJ (cJ (run tk5 c0 (R ++ A)))) x))) (nI (y + 1)) := fun v7 => l307 rc k h hCI hL hx hy
  obtain ⟨a1, a2, a3⟩ := h.2.1.2.1 y hy
  have hF5 := (hL.2 y hy).1
  rw [f_L_law_271_238_s2]
  refine oit (inb_nI (by omega) (by omega)) ?_
  rw [nI_clamp (by omega), a1]
  have hi : usr (cT tk5 R A) (ldJ (cJ (run tk5 c0 (R ++ A)))) x y = true ↔ ∃ k, k < tk5 (tlF (cL (run tk5 c0 (R ++ A))) y) ∧ (ldJ (cJ (run tk5 c0 (R ++ A)))) ((tlP (cL (run tk5 c0 (R ++ A))) y).getD k 0) = (ldJ (cJ (run tk5 c0 (R ++ A)))) x := usr_iff
  by_cases z2 : tlF (cL (run tk5 c0 (R ++ A))) y ≤ 2
  · have e0 : tk5 (tlF (cL (run tk5 c0 (R ++ A))) y) = 0 := by
      rcases ar9 hL hy with e | e | e <;> omega
    refine oit (nI_le (b := 2) z2 (by omega)) ((i0 _).trans ?_)
    rw [b01_f (fun y => by omega), if_neg (fun y => by obtain ⟨k, hk, -⟩ := hi.mp y; omega)]
  · have e1 : 1 ≤ tk5 (tlF (cL (run tk5 c0 (R ++ A))) y) := by
      rcases ar9 hL hy with e | e | e <;> omega
    have hp : (tlP (cL (run tk5 c0 (R ++ A))) y).getD 0 0 < y := (hL.2 y hy).2.2 0 (by omega)
    have hpl := (hL.2 y hy).2.1
    have dp := hCI.dl (show (tlP (cL (run tk5 c0 (R ++ A))) y).getD 0 0 < (cL (run tk5 c0 (R ++ A))).length by omega)
    have a41 : gA w 41 0 y = nI ((tlP (cL (run tk5 c0 (R ++ A))) y).getD 0 0) := a3 0 (by omega)
    refine oie (nI_ge (b := tlF (cL (run tk5 c0 (R ++ A))) y) (a := 2) (by omega) (by omega)) ?_
    rw [a41]
    refine oit (inb_nI (by omega) (by omega)) (oit (inb_nI (by omega) (by omega)) ?_)
    rw [nI_clamp (by omega), nI_clamp (by omega), h.2.2 _ (by omega), h.2.2 x hx]
    by_cases z : (ldJ (cJ (run tk5 c0 (R ++ A)))) ((tlP (cL (run tk5 c0 (R ++ A))) y).getD 0 0) = (ldJ (cJ (run tk5 c0 (R ++ A)))) x
    · refine oit (by rw [z]) (oie (by decide) ((l359 rc k h hCI h9 hx hy).trans ?_))
      rw [if_pos (hi.mpr ⟨0, by omega, z⟩), show nI c + (1 : Int32) = nI (c + 1) from n_add c 1]
    · refine oie (fun y => z ((nI_inj_iff (by omega) (by omega)).mp y)) ((i0 _).trans ?_)
      by_cases z4 : tlF (cL (run tk5 c0 (R ++ A))) y = 4 ∧ (ldJ (cJ (run tk5 c0 (R ++ A)))) ((tlP (cL (run tk5 c0 (R ++ A))) y).getD 1 0) = (ldJ (cJ (run tk5 c0 (R ++ A)))) x
      · rw [b01_t z4, if_pos (hi.mpr ⟨1, by rcases ar9 hL hy with e | e | e <;> omega, z4.2⟩)]
      · rw [b01_f z4, if_neg (fun y => ?_)]
        obtain ⟨k, hk, hk2⟩ := hi.mp y
        rcases ar9 hL hy with e | e | e
        · omega
        · have : k = 0 := by omega
          subst this; exact z hk2
        · have : k = 0 ∨ k = 1 := by omega
          rcases this with rfl | rfl
          · exact z hk2
          · exact z4 ⟨e.1, hk2⟩
theorem l238 (k : Mem → Int32 → Int32 → Option (Mem × Int32)) (hN : 276 < N) (h : LW9 w f a R A NL tp) (hCI : CI tk5 5 (run tk5 c0 (R ++ A))) (hL : LO9 (cL (run tk5 c0 (R ++ A)))) (hx : x < (cL (run tk5 c0 (R ++ A))).length) : ∃ w', lp_L_law_238 k N sx v4 v5 (nI x) N w (nI 0) (nI 0) (nI 0) = k w' (nI (fb_ct (fun s => decide ((ldJ (cJ (run tk5 c0 (R ++ A)))) s = (ldJ (cJ (run tk5 c0 (R ++ A)))) x)) (cL (run tk5 c0 (R ++ A))).length)) (nI (fb_ct (usr (cT tk5 R A) (ldJ (cJ (run tk5 c0 (R ++ A)))) x) (cL (run tk5 c0 (R ++ A))).length)) ∧ LW9 w' f a R A NL tp := by
  have h9 := hL.1
  have dx := hCI.dl hx
  let J : Nat → Mem × Int32 × Int32 → Prop := fun q u => LW9 u.1 f a R A NL tp ∧ u.2.1 = nI (fb_ct (fun s => decide ((ldJ (cJ (run tk5 c0 (R ++ A)))) s = (ldJ (cJ (run tk5 c0 (R ++ A)))) x)) q) ∧ u.2.2 = nI (fb_ct (usr (cT tk5 R A) (ldJ (cJ (run tk5 c0 (R ++ A)))) x) q)
  obtain ⟨⟨w', m1, m2⟩, ⟨j1, j2, j3⟩, e⟩ := lpc (cL (run tk5 c0 (R ++ A))).length (fun g (u : Mem × Int32 × Int32) q => lp_L_law_238 k N sx v4 v5 (nI x) g u.1 u.2.1 u.2.2 q) (fun u => k u.1 u.2.1 u.2.2) J (fun g u hu => by
    show lp_L_law_238 k N sx v4 v5 (nI x) (g + 1) u.1 u.2.1 u.2.2 _ = _
    rw [lp_L_law_238, hu.1.2.1.1.1]
    exact oit (nI_le (Nat.le_refl _) (by omega)) rfl) (fun g q u hq ⟨j1, j2, j3⟩ => by
    obtain ⟨w, m1, m2⟩ := u
    have j1 : LW9 w f a R A NL tp := j1
    have j2 : m1 = nI (fb_ct (fun s => decide ((ldJ (cJ (run tk5 c0 (R ++ A)))) s = (ldJ (cJ (run tk5 c0 (R ++ A)))) x)) q) := j2
    have j3 : m2 = nI (fb_ct (usr (cT tk5 R A) (ldJ (cJ (run tk5 c0 (R ++ A)))) x) q) := j3
    subst j2
    subst j3
    have dq := hCI.dl hq
    refine ⟨(xAns w (nI 0), nI (fb_ct (fun s => decide ((ldJ (cJ (run tk5 c0 (R ++ A)))) s = (ldJ (cJ (run tk5 c0 (R ++ A)))) x)) (q + 1)), nI (fb_ct (usr (cT tk5 R A) (ldJ (cJ (run tk5 c0 (R ++ A)))) x) (q + 1))), ⟨j1.an, rfl, rfl⟩, ?_⟩
    show lp_L_law_238 k N sx v4 v5 (nI x) (g + 1) w _ _ (nI q) = lp_L_law_238 k N sx v4 v5 (nI x) g (xAns w (nI 0)) _ _ (nI (q + 1))
    rw [lp_L_law_238, j1.2.1.1.1, fb_ct_succ (usr (cT tk5 R A) (ldJ (cJ (run tk5 c0 (R ++ A)))) x)]
    refine oie (nI_ge hq (by omega)) (oit (inb_nI (by omega) (by omega)) (oit (inb_nI (by omega) (by omega)) ?_))
    rw [nI_clamp (by omega), nI_clamp (by omega), j1.2.2 x hx, j1.2.2 q hq]
    by_cases z : (ldJ (cJ (run tk5 c0 (R ++ A)))) q = (ldJ (cJ (run tk5 c0 (R ++ A)))) x
    · refine oit (by rw [z]) ((l271 _ k j1 hCI hL hx hq).trans ?_)
      rw [ct_t (p := fun s => decide ((ldJ (cJ (run tk5 c0 (R ++ A)))) s = (ldJ (cJ (run tk5 c0 (R ++ A)))) x)) (decide_eq_true z), show ∀ c, nI c + (1 : Int32) = nI (c + 1) from fun c => n_add c 1]
    · refine oie (fun y => z ((nI_inj_iff (by omega) (by omega)).mp y).symm) ((l271 _ k j1 hCI hL hx hq).trans ?_)
      rw [ct_f (p := fun s => decide ((ldJ (cJ (run tk5 c0 (R ++ A)))) s = (ldJ (cJ (run tk5 c0 (R ++ A)))) x)) (fun y => z (of_decide_eq_true y)), show ∀ c, nI c + (0 : Int32) = nI c from fun c => n_add c 0]) 0 N (w, nI 0, nI 0) (by omega) (by omega) ⟨h, rfl, rfl⟩
  have j2 : m1 = _ := j2
  have j3 : m2 = _ := j3
  subst j2
  subst j3
  exact ⟨w', e, j1⟩
end TURN
