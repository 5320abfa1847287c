/-! the law: the six sets -/
theorem set97 {N f nf a : Nat} {R A : List Row} {NL : List (List Nat)} {tp : List Nat} {sx : Nat × (Nat → Int32)} {w0 : Mem} (k : Mem → Option (Mem × Int32)) (hN : 276 < N) (hx : sx.1 < 2 ^ 31) (hL : LO9 (cL (run tk5 c0 (R ++ A)))) (hs : (cSs tk5 R A).length ≤ 9) (ha : a ≤ 800)
    (h : RelX w0 f nf tk5 R A NL tp) (hD : TD w0 a (cL (run tk5 c0 (R ++ A))) (cSs tk5 R A)) :
    ∃ w a', lp_L_law_97 k N sx (nI (full (cSs tk5 R A).length)) N w0 (nI 0) = k w ∧ RelX w f nf tk5 R A NL tp ∧ TD w a' (cL (run tk5 c0 (R ++ A))) (cSs tk5 R A) ∧ a' ≤ a + 6 := by
  have h9 := hL.1
  have hfs : full (cSs tk5 R A).length < 512 := Nat.lt_of_lt_of_le (full_lt _) (p2le (b := 9) hs)
  let J : Nat → Mem → Prop := fun q w => ∃ a', RelX w f nf tk5 R A NL tp ∧ TD w a' (cL (run tk5 c0 (R ++ A))) (cSs tk5 R A) ∧ a' ≤ a + q
  have one : ∀ (b a' : Nat) (w : Mem) (v5 : Int32) (k2 : Mem → Option (Mem × Int32)), b ≤ full (cSs tk5 R A).length → RelX w f nf tk5 R A NL tp → TD w a' (cL (run tk5 c0 (R ++ A))) (cSs tk5 R A) → ∃ w1 w2, f_X10_closes N w (nI b) = some w1 ∧ lp_L_law_132 k2 N sx (nI (full (cSs tk5 R A).length)) v5 (nI b) N w1 (nI 0) = k2 w2 ∧ RelX w2 f nf tk5 R A NL tp ∧ TD w2 a' (cL (run tk5 c0 (R ++ A))) (cSs tk5 R A) := fun b a' w v5 k2 hb j1 j2 => by
    obtain ⟨w1, e1, f1, r1⟩ := closes_ok (N := N) (b := b) (by omega) hL (fun p i j hp => by
      obtain ⟨q1, q2, -⟩ := j1.2.1.2.1.2.2 p i j hp
      exact ⟨q1, q2⟩) hs (by omega) j2.1.1 j2.1.2.1 j2.2
    obtain ⟨w2, e2, g1, g2⟩ := set132 (sx := sx) (v4 := nI (full (cSs tk5 R A).length)) (v5 := v5) k2 hN hL.tok h9 (by omega) hb (j1.f45 f1) (j2.f45 f1) r1
    exact ⟨w1, w2, e1, e2, g1, g2⟩
  obtain ⟨w, ⟨a', j1, j2, j3⟩, e⟩ := lpc 6 (fun g w q => lp_L_law_97 k N sx (nI (full (cSs tk5 R A).length)) g w q) k J (fun g w _ => by
    show lp_L_law_97 k N sx _ (g + 1) w (nI 6) = _
    rw [lp_L_law_97]
    exact oit (show (6 : Int32) ≤ nI 6 from by decide) rfl) (fun g q w hq ⟨a', j1, j2, j3⟩ => by
    by_cases z : q = 0
    · subst z
      obtain ⟨w1, w2, e1, e2, g1, g2⟩ := one (full (cSs tk5 R A).length) a' w (nI 0) (fun (w_220 : Mem) => (f_L_law_202_97 (fun (w : Mem) (v5 : Int32) => lp_L_law_97 k N sx (nI (full (cSs tk5 R A).length)) g w v5) k N w_220 sx (nI (full (cSs tk5 R A).length)) (nI 0))) (Nat.le_refl _) j1 j2
      refine ⟨w2, ⟨a', g1, g2, by omega⟩, ?_⟩
      show lp_L_law_97 k N sx _ (g + 1) w (nI 0) = _
      rw [lp_L_law_97]
      refine oie (by decide) (oit rfl (obind e1 (e2.trans ?_)))
      rfl
    · obtain ⟨d, v, d1, d2, en, n1', n2', -⟩ := law_next (N := N) (lo := 0) (hi := full (cSs tk5 R A).length) j1 j2 hx (by omega) (by omega) (by omega)
      obtain ⟨w1, w2, e1, e2, g1, g2⟩ := one d (a' + 1) v (nI q) (fun (w_207 : Mem) => (f_L_law_202_97 (fun (w : Mem) (v5 : Int32) => lp_L_law_97 k N sx (nI (full (cSs tk5 R A).length)) g w v5) k N w_207 sx (nI (full (cSs tk5 R A).length)) (nI q))) d2 n1' n2'
      refine ⟨w2, ⟨a' + 1, g1, g2, by omega⟩, ?_⟩
      show lp_L_law_97 k N sx _ (g + 1) w (nI q) = _
      rw [lp_L_law_97]
      refine oie (nI_ge (b := 6) hq (by omega)) (oie (fun y => z ((nI_inj_iff (b := 0) (by omega) (by omega)).mp y)) (obind en (obind e1 (e2.trans ?_))))
      show f_L_law_202_97 _ k N w2 sx _ (nI q) = lp_L_law_97 k N sx _ g w2 (nI (q + 1))
      rw [f_L_law_202_97, nI1]) 0 N w0 (by omega) (by omega) ⟨a, h, hD, Nat.le_refl _⟩
  exact ⟨w, a', e, j1, j2, j3⟩
