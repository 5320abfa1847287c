/-! the law: by each set, what becomes one -/
section SETS
variable {N f nf a b t : Nat} {R A : List Row} {NL : List (List Nat)} {tp : List Nat} {sx : Nat × (Nat → Int32)} {v4 v5 : Int32}
theorem set144 {w0 : Mem} (k : Mem → Option (Mem × Int32)) (hN : 276 < N) (hT : TOK (cT tk5 R A)) (h9 : (cL (run tk5 c0 (R ++ A))).length ≤ 9) (hs : (cSs tk5 R A).length ≤ 12) (hb : b ≤ full (cSs tk5 R A).length) (ht : t < (cL (run tk5 c0 (R ++ A))).length)
    (h : RelX w0 f nf tk5 R A NL tp) (hD : TD w0 a (cL (run tk5 c0 (R ++ A))) (cSs tk5 R A)) (hr : ∀ i, i < (cL (run tk5 c0 (R ++ A))).length → gA w0 45 0 i = nI (ldE (cT tk5 R A) (Pk (cSs tk5 R A) b) i)) :
    ∃ w, lp_L_law_144 k N sx v4 v5 (nI b) (nI t) N w0 (nI 0) = k w ∧ RelX w f nf tk5 R A NL tp ∧ TD w a (cL (run tk5 c0 (R ++ A))) (cSs tk5 R A) ∧ ∀ i, i < (cL (run tk5 c0 (R ++ A))).length → gA w 45 0 i = nI (ldE (cT tk5 R A) (Pk (cSs tk5 R A) b) i) := by
  let J : Nat → Mem → Prop := fun _ w => RelX w f nf tk5 R A NL tp ∧ TD w a (cL (run tk5 c0 (R ++ A))) (cSs tk5 R A) ∧ ∀ i, i < (cL (run tk5 c0 (R ++ A))).length → gA w 45 0 i = nI (ldE (cT tk5 R A) (Pk (cSs tk5 R A) b) i)
  obtain ⟨w, hJ, e⟩ := lpc (cL (run tk5 c0 (R ++ A))).length (fun g w q => lp_L_law_144 k N sx v4 v5 (nI b) (nI t) g w q) k J (fun g w ⟨_, j2, _⟩ => by
    show lp_L_law_144 k N sx v4 v5 (nI b) (nI t) (g + 1) w _ = _
    rw [lp_L_law_144, j2.1.1]
    exact oit (nI_le (Nat.le_refl _) (by omega)) rfl) (fun g q w hq ⟨j1, j2, j3⟩ => by
    obtain ⟨w', e, hk, -⟩ := xproves hN j1 ht hq hb hs
    have hr' : ∀ i, i < (cL (run tk5 c0 (R ++ A))).length → gA w' 45 0 i = nI (ldE (cT tk5 R A) (Pk (cSs tk5 R A) b) i) := fun i hi => by rw [hk.2.1 45 0 (by omega)]; exact j3 i hi
    refine ⟨w', ⟨j1.kx hk, j2.kx hk, hr'⟩, ?_⟩
    have dle : ∀ i, i < (cL (run tk5 c0 (R ++ A))).length → ldE (cT tk5 R A) (Pk (cSs tk5 R A) b) i ≤ i := fun i hi => (ldE_can (T := cT tk5 R A) hT i hi).1
    have d1 := dle t ht
    have d2 := dle q hq
    have hiff := ldE_iff (T := cT tk5 R A) (E := Pk (cSs tk5 R A) b) hT t q ht hq
    show lp_L_law_144 k N sx v4 v5 (nI b) (nI t) (g + 1) w (nI q) = _
    rw [lp_L_law_144, j2.1.1]
    refine oie (nI_ge hq (by omega)) (obind e (oit (inb_nI (by omega) (by omega)) (oit (inb_nI (by omega) (by omega)) ?_)))
    rw [nI_clamp (by omega), nI_clamp (by omega), hr' t ht, hr' q hq, nI1]
    by_cases z : ldE (cT tk5 R A) (Pk (cSs tk5 R A) b) t = ldE (cT tk5 R A) (Pk (cSs tk5 R A) b) q
    · have hB : By (cT tk5 R A) (cSs tk5 R A) b t q := hiff.mp z
      refine oit (by rw [z]) (oit ?_ rfl)
      rw [b01_t hB]; rfl
    · have hB : ¬ By (cT tk5 R A) (cSs tk5 R A) b t q := fun y => z (hiff.mpr y)
      refine oie (fun y => z ((nI_inj_iff (by omega) (by omega)).mp y)) (oit ?_ rfl)
      rw [b01_f hB]; rfl) 0 N w0 (by omega) (by omega) ⟨h, hD, hr⟩
  exact ⟨w, e, hJ⟩
theorem set132 {w0 : Mem} (k : Mem → Option (Mem × Int32)) (hN : 276 < N) (hT : TOK (cT tk5 R A)) (h9 : (cL (run tk5 c0 (R ++ A))).length ≤ 9) (hs : (cSs tk5 R A).length ≤ 12) (hb : b ≤ full (cSs tk5 R A).length)
    (h : RelX w0 f nf tk5 R A NL tp) (hD : TD w0 a (cL (run tk5 c0 (R ++ A))) (cSs tk5 R A)) (hr : ∀ i, i < (cL (run tk5 c0 (R ++ A))).length → gA w0 45 0 i = nI (ldE (cT tk5 R A) (Pk (cSs tk5 R A) b) i)) :
    ∃ w, lp_L_law_132 k N sx v4 v5 (nI b) N w0 (nI 0) = k w ∧ RelX w f nf tk5 R A NL tp ∧ TD w a (cL (run tk5 c0 (R ++ A))) (cSs tk5 R A) := by
  let J : Nat → Mem → Prop := fun _ w => RelX w f nf tk5 R A NL tp ∧ TD w a (cL (run tk5 c0 (R ++ A))) (cSs tk5 R A) ∧ ∀ i, i < (cL (run tk5 c0 (R ++ A))).length → gA w 45 0 i = nI (ldE (cT tk5 R A) (Pk (cSs tk5 R A) b) i)
  obtain ⟨w, ⟨h1, h2, -⟩, e⟩ := lpc (cL (run tk5 c0 (R ++ A))).length (fun g w q => lp_L_law_132 k N sx v4 v5 (nI b) g w q) k J (fun g w ⟨_, j2, _⟩ => by
    show lp_L_law_132 k N sx v4 v5 (nI b) (g + 1) w _ = _
    rw [lp_L_law_132, j2.1.1]
    exact oit (nI_le (Nat.le_refl _) (by omega)) rfl) (fun g q w hq ⟨j1, j2, j3⟩ => by
    obtain ⟨w', e, j4⟩ := set144 (sx := sx) (v4 := v4) (v5 := v5) (t := q) (fun (w_208 : Mem) => (f_L_law_196_132 (fun (w : Mem) (v7 : Int32) => lp_L_law_132 k N sx v4 v5 (nI b) g w v7) k N w_208 sx v4 v5 (nI b) (nI q))) hN hT h9 hs hb hq j1 j2 j3
    refine ⟨w', j4, ?_⟩
    show lp_L_law_132 k N sx v4 v5 (nI b) (g + 1) w (nI q) = _
    rw [lp_L_law_132, j2.1.1]
    refine oie (nI_ge hq (by omega)) (e.trans ?_)
    show f_L_law_196_132 _ k N w' sx v4 v5 (nI b) (nI q) = lp_L_law_132 k N sx v4 v5 (nI b) g w' (nI (q + 1))
    rw [f_L_law_196_132, nI1]) 0 N w0 (by omega) (by omega) ⟨h, hD, hr⟩
  exact ⟨w, e, h1, h2⟩
end SETS
