/-! the law: its tail -/
section TAIL
theorem t1 (N : Nat) (w : Mem) (y : Int32) : f_X8_trouble N (xAns w y) = some y := congrArg some (xAns_7 w y)
variable {N f a t u k : Nat} {R : List Row} {NL : List (List Nat)} {tp : List Nat} {sx : Nat × (Nat → Int32)} {v4 v5 v7 v8 v9 v10 : Int32} {w : Mem}
theorem l1114 (hN : 276 < N) (h : RelX w f 5 tk5 R [] NL tp) (hD : TD w a (cL (run tk5 c0 (R ++ []))) (cSs tk5 R [])) (hCI : CI tk5 5 (run tk5 c0 (R ++ []))) (h9 : (cL (run tk5 c0 (R ++ []))).length ≤ 9) (h4 : 4 ≤ (cL (run tk5 c0 (R ++ []))).length) (hs : (cSs tk5 R []).length ≤ 9) (ht : t < (cL (run tk5 c0 (R ++ []))).length) (hu : u < (cL (run tk5 c0 (R ++ []))).length) :
    ∃ w', f_L_law_1114 N w sx (nI (full (cSs tk5 R []).length)) (nI (cntG (cL (run tk5 c0 (R ++ []))).length (ldJ (cJ (run tk5 c0 (R ++ [])))))) (nI t) (nI u) (nI (cntG (cL (run tk5 c0 (R ++ []))).length (ldE (cT tk5 R []) (Ew (cSs tk5 R []) t u)))) (nI (cntG (cL (run tk5 c0 (R ++ []))).length (ldJ (cJ (run tk5 c0 (R ++ []))))) - nI (cntG (cL (run tk5 c0 (R ++ []))).length (ldE (cT tk5 R []) (Ew (cSs tk5 R []) t u)))) = some (w', 1) := by
  have k := fun (v : Mem) (y : Int32) => xAns_kx v y
  have e1 := (xabout h N).2.2.2.1
  have h1 := h.kx (k w (nI 0))
  have d1 := hD.kx (k w (nI 0))
  obtain ⟨w2, e2, h2, f2, g2⟩ := xjoin hN h1 hCI ht hu (show (cSs tk5 R []).length < 12 by omega)
  rw [join_would hCI (show okR tk5 5 (run tk5 c0 (R ++ [])) (.inr (true, t, u)) from ⟨ht, hu, by show (cSs tk5 R []).length < 12; omega⟩)] at e2
  have h2 : RelX w2 f 5 tk5 R [.inr (true, t, u)] NL tp := h2
  have d2 := d1.mv f2 g2
  have e3 := (xabout h2 N).2.2.2.2.1
  have h3 := h2.kx (k w2 (nI 0))
  have d3 := d2.kx (k w2 (nI 0))
  obtain ⟨w4, e4, h5, f4, g4⟩ := xundo hN h3 (by rw [List.append_nil] at hCI; exact hCI)
  have d5 := d3.mv f4 g4
  have e5 := (xabout h5 N).2.2.2.1
  have h6 := h5.kx (k w4 (nI 0))
  have d6 := d5.kx (k w4 (nI 0))
  have e6 := xundo_no (N := N) h6
  have e7 := (xabout h6 N).2.2.2.2.2
  have h7 := h6.kx (k _ (nI 0))
  have d7 := d6.kx (k _ (nI 0))
  have e8 : f_X8_term N (xAns (xAns w4 (nI 0)) (nI 0)) (gF (xAns (xAns w4 (nI 0)) (nI 0)) 9 5 0) (0 : Int32) = some (xAns (xAns (xAns w4 (nI 0)) (nI 0)) (nI 1), n1) := by rw [d7.1.1]; exact xterm_no h7 N
  have h8 := h7.kx (k _ (nI 1))
  have e9 : f_X8_proves N (xAns (xAns (xAns w4 (nI 0)) (nI 0)) (nI 1)) (nI (full (cSs tk5 R []).length) + (1 : Int32)) (0 : Int32) (0 : Int32) = some (xAns (xAns (xAns (xAns w4 (nI 0)) (nI 0)) (nI 1)) (nI 2), n1) := xproves_no (t := 0) h8 N (by omega) (by omega)
  have hPC := hCI.1.2.2.2.2.2
  have hPC : cntG (cL (run tk5 c0 (R ++ []))).length (ldJ (cJ (run tk5 c0 (R ++ [])))) + (cJ (run tk5 c0 (R ++ []))).length = (cL (run tk5 c0 (R ++ []))).length := hPC
  refine ⟨xAns (xAns (xAns (xAns w4 (nI 0)) (nI 0)) (nI 1)) (nI 2), ?_⟩
  rw [f_L_law_1114]
  refine obind e1 (oit rfl (obind e2 (oit rfl (oit rfl (obind e3 (oit rfl (obind e4 (oie (show ¬ (1 : Int32) = 0 by decide) (obind e5 (oit rfl (obind e6 (oit rfl (obind e7 (oit ?_ (obind e8 (oit rfl (obind (t1 N (xAns (xAns w4 (nI 0)) (nI 0)) (nI 1)) (oit rfl (obind e9 (oit rfl (obind (t1 N (xAns (xAns (xAns w4 (nI 0)) (nI 0)) (nI 1)) (nI 2)) (oit rfl rfl))))))))))))))))))))))
  show nI (cJ (run tk5 c0 (R ++ []))).length = gF (xAns (xAns w4 (nI 0)) (nI 0)) 9 5 0 - nI (cntG (cL (run tk5 c0 (R ++ []))).length (ldJ (cJ (run tk5 c0 (R ++ [])))))
  rw [d7.1.1, n_sub (cnt_le _ _)]
  congr 1
  omega
theorem l1058 {p q : Nat} (hN : 276 < N) (h : RelX w f 5 tk5 R [] NL tp) (hD : TD w a (cL (run tk5 c0 (R ++ []))) (cSs tk5 R [])) (hL : LO9 (cL (run tk5 c0 (R ++ [])))) (hs : (cSs tk5 R []).length ≤ 9) (hk : (cSs tk5 R [])[k]? = some (p, q)) (hr : ∀ i, i < (cL (run tk5 c0 (R ++ []))).length → gA w 45 0 i = nI (ldE (cT tk5 R []) (Pk (cSs tk5 R []) (clr (full (cSs tk5 R []).length) k)) i)) :
    ∃ w', f_L_law_1058 N w sx v4 v5 v7 v8 v9 v10 (nI k) (nI (cntG (cL (run tk5 c0 (R ++ []))).length (ldE (cT tk5 R []) (Pk (cSs tk5 R []) (clr (full (cSs tk5 R []).length) k))))) = f_L_law_1114 N w' sx v4 v5 v7 v8 v9 v10 ∧ RelX w' f 5 tk5 R [] NL tp ∧ TD w' a (cL (run tk5 c0 (R ++ []))) (cSs tk5 R []) := by
  have h9 := hL.1
  have hT : TOK (cT tk5 R []) := hL.tok
  have hkl : k < (cSs tk5 R []).length := (List.getElem?_eq_some_iff.mp hk).1
  obtain ⟨p9, q9, -⟩ := h.2.1.2.1.2.2 k p q hk
  obtain ⟨w1, e1, k1⟩ := xwithout hN h (by omega) hkl
  have h1 := h.kx k1
  have d1 := hD.kx k1
  obtain ⟨w2, e2, k2⟩ := xsameOf2 hN h1 hk
  have h2 := h1.kx k2
  have d2 := d1.kx k2
  have r2 : ∀ i, i < (cL (run tk5 c0 (R ++ []))).length → gA w2 45 0 i = nI (ldE (cT tk5 R []) (Pk (cSs tk5 R []) (clr (full (cSs tk5 R []).length) k)) i) := fun i hi => by rw [k2.2.1 45 0 (by omega), k1.2.1 45 0 (by omega)]; exact hr i hi
  obtain ⟨g1, g2⟩ := d2.2.2 k p q hk
  have dle : ∀ i, i < (cL (run tk5 c0 (R ++ []))).length → ldE (cT tk5 R []) (Pk (cSs tk5 R []) (clr (full (cSs tk5 R []).length) k)) i ≤ i := fun i hi => (ldE_can (T := (cT tk5 R [])) hT i hi).1
  have dp := dle p p9
  have dq := dle q q9
  have hiff := ldE_iff (T := (cT tk5 R [])) (E := Pk (cSs tk5 R []) (clr (full (cSs tk5 R []).length) k)) hT p q p9 q9
  refine ⟨w2, ?_, h2, d2⟩
  rw [f_L_law_1058]
  refine obind e1 (oit rfl (obind e2 (oit (inb_nI (by omega) (by omega)) ?_)))
  rw [nI_clamp (by omega), g1, g2]
  refine oit (inb_nI (by omega) (by omega)) (oit (inb_nI (by omega) (by omega)) ?_)
  rw [nI_clamp (by omega), nI_clamp (by omega), r2 p p9, r2 q q9]
  by_cases z : ldE (cT tk5 R []) (Pk (cSs tk5 R []) (clr (full (cSs tk5 R []).length) k)) p = ldE (cT tk5 R []) (Pk (cSs tk5 R []) (clr (full (cSs tk5 R []).length) k)) q
  · have hB : By (cT tk5 R []) (cSs tk5 R []) (clr (full (cSs tk5 R []).length) k) p q := hiff.mp z
    refine oit (by rw [z]) (oit ?_ rfl)
    rw [b01_t hB]; rfl
  · have hB : ¬ By (cT tk5 R []) (cSs tk5 R []) (clr (full (cSs tk5 R []).length) k) p q := fun y => z (hiff.mpr y)
    refine oie (fun y => z ((nI_inj_iff (by omega) (by omega)).mp y)) (oit ?_ rfl)
    rw [b01_f hB]; rfl
theorem l934 (hN : 276 < N) (hx : sx.1 < 2 ^ 31) (h : RelX w f 5 tk5 R [] NL tp) (hD : TD w a (cL (run tk5 c0 (R ++ []))) (cSs tk5 R [])) (hCI : CI tk5 5 (run tk5 c0 (R ++ []))) (hL : LO9 (cL (run tk5 c0 (R ++ [])))) (h4 : 4 ≤ (cL (run tk5 c0 (R ++ []))).length) (hs : (cSs tk5 R []).length ≤ 9) (ha : a ≤ 800) :
    ∃ w', f_L_law_934 N w sx (nI (full (cSs tk5 R []).length)) (nI (cntG (cL (run tk5 c0 (R ++ []))).length (ldJ (cJ (run tk5 c0 (R ++ [])))))) = some (w', 1) := by
  have h9 := hL.1
  have hsub : ∀ v b, TD v b (cL (run tk5 c0 (R ++ []))) (cSs tk5 R []) → gF v 9 5 0 - (1 : Int32) = nI ((cL (run tk5 c0 (R ++ []))).length - 1) := fun v b hv => by rw [hv.1.1]; exact n_sub (b := 1) (by omega)
  obtain ⟨x, w1, x1, x2, e1, h1, d1, -⟩ := law_next (N := N) (lo := 0) (hi := (cL (run tk5 c0 (R ++ []))).length - 1) h hD hx (by omega) (by omega) (by omega)
  obtain ⟨y, w2, y1, y2, e2, h2, d2, -⟩ := law_next (N := N) (lo := 0) (hi := (cL (run tk5 c0 (R ++ []))).length - 1) h1 d1 hx (by omega) (by omega) (by omega)
  have xn : x < (cL (run tk5 c0 (R ++ []))).length := by omega
  have yn : y < (cL (run tk5 c0 (R ++ []))).length := by omega
  obtain ⟨w3, e3, k3⟩ := (xwould hN h2 hCI xn yn).1
  have h3 := h2.kx k3
  have d3 := d2.kx k3
  obtain ⟨w4, e4, k4⟩ := (xwould hN h3 hCI xn yn).2
  have h4' := h3.kx k4
  have d4 := d3.kx k4
  have g1 : f_X9_next N w sx (0 : Int32) (gF w 9 5 0 - (1 : Int32)) = some (w1, nI x) := by rw [hsub w a hD]; exact e1
  have g2 : f_X9_next N w1 sx (0 : Int32) (gF w1 9 5 0 - (1 : Int32)) = some (w2, nI y) := by rw [hsub w1 _ d1]; exact e2
  by_cases z : (cSs tk5 R []).length = 0
  · obtain ⟨w', e9⟩ := l1114 (N := N) (sx := sx) (a := a + 1 + 1) hN h4' d4 hCI h9 h4 hs xn yn
    refine ⟨w', ?_⟩
    rw [f_L_law_934]
    refine obind g1 (obind g2 (obind e3 (obind e4 (oit ?_ e9))))
    show gF w4 9 6 0 ≤ (0 : Int32)
    rw [d4.1.2.1, z]
    decide
  · obtain ⟨k, w5, k1, k2, e5, h5, d5, -⟩ := law_next (N := N) (lo := 0) (hi := (cSs tk5 R []).length - 1) h4' d4 hx (by omega) (by omega) (by omega)
    have hkl : k < (cSs tk5 R []).length := by omega
    obtain ⟨⟨p, q⟩, hpq⟩ := get_at (cSs tk5 R []) hkl
    have hcb := clr_lt (k := k) (full_lt (cSs tk5 R []).length)
    have hpp := p2le (b := 9) hs
    obtain ⟨w6, e6, f6, r6⟩ := closes_ok (N := N) (b := clr (full (cSs tk5 R []).length) k) (by omega) hL (fun p i j hp => by
      obtain ⟨q1, q2, -⟩ := h5.2.1.2.1.2.2 p i j hp
      exact ⟨q1, q2⟩) hs (by omega) d5.1.1 d5.1.2.1 d5.2
    have h6 := h5.f45 f6
    have d6 := d5.f45 f6
    have hdle : ∀ i, i < (cL (run tk5 c0 (R ++ []))).length → ldE (cT tk5 R []) (Pk (cSs tk5 R []) (clr (full (cSs tk5 R []).length) k)) i ≤ i := fun i hi => (ldE_can (T := (cT tk5 R [])) hL.tok i hi).1
    have e7 := count1021 (N := N) (n := (cL (run tk5 c0 (R ++ []))).length) (w := w6) (sx := sx) (v4 := nI (full (cSs tk5 R []).length)) (v5 := nI (cntG (cL (run tk5 c0 (R ++ []))).length (ldJ (cJ (run tk5 c0 (R ++ [])))))) (v7 := nI x) (v8 := nI y) (v9 := nI (cntG (cL (run tk5 c0 (R ++ []))).length (ldE (cT tk5 R []) (Ew (cSs tk5 R []) x y)))) (v10 := nI (cntG (cL (run tk5 c0 (R ++ []))).length (ldJ (cJ (run tk5 c0 (R ++ []))))) - nI (cntG (cL (run tk5 c0 (R ++ []))).length (ldE (cT tk5 R []) (Ew (cSs tk5 R []) x y)))) (v11 := nI k) (d := ldE (cT tk5 R []) (Pk (cSs tk5 R []) (clr (full (cSs tk5 R []).length) k))) (fun (u12_65 : Int32) => (f_L_law_1058 N w6 sx (nI (full (cSs tk5 R []).length)) (nI (cntG (cL (run tk5 c0 (R ++ []))).length (ldJ (cJ (run tk5 c0 (R ++ [])))))) (nI x) (nI y) (nI (cntG (cL (run tk5 c0 (R ++ []))).length (ldE (cT tk5 R []) (Ew (cSs tk5 R []) x y)))) (nI (cntG (cL (run tk5 c0 (R ++ []))).length (ldJ (cJ (run tk5 c0 (R ++ []))))) - nI (cntG (cL (run tk5 c0 (R ++ []))).length (ldE (cT tk5 R []) (Ew (cSs tk5 R []) x y)))) (nI k) u12_65)) (by omega) h9 d6.1.1 hdle r6
    obtain ⟨w7, e8, h7, d7⟩ := l1058 (N := N) (sx := sx) (v4 := nI (full (cSs tk5 R []).length)) (v5 := nI (cntG (cL (run tk5 c0 (R ++ []))).length (ldJ (cJ (run tk5 c0 (R ++ [])))))) (v7 := nI x) (v8 := nI y) (v9 := nI (cntG (cL (run tk5 c0 (R ++ []))).length (ldE (cT tk5 R []) (Ew (cSs tk5 R []) x y)))) (v10 := nI (cntG (cL (run tk5 c0 (R ++ []))).length (ldJ (cJ (run tk5 c0 (R ++ []))))) - nI (cntG (cL (run tk5 c0 (R ++ []))).length (ldE (cT tk5 R []) (Ew (cSs tk5 R []) x y)))) hN h6 d6 hL hs hpq r6
    obtain ⟨w', e9⟩ := l1114 (N := N) (sx := sx) hN h7 d7 hCI h9 h4 hs xn yn
    have g5 : f_X9_next N w4 sx (0 : Int32) (gF w4 9 6 0 - (1 : Int32)) = some (w5, nI k) := by rw [d4.1.2.1, show nI (cSs tk5 R []).length - (1 : Int32) = nI ((cSs tk5 R []).length - 1) from n_sub (b := 1) (by omega)]; exact e5
    have g6 : f_X10_closes N w5 (nI (full (cSs tk5 R []).length) &&& (((1 : Int32) <<< (nI k &&& 31)) ^^^ (-1 : Int32))) = some w6 := by rw [clr_w (by omega) hkl]; exact e6
    refine ⟨w', ?_⟩
    rw [f_L_law_934]
    refine obind g1 (obind g2 (obind e3 (obind e4 (oie ?_ (obind g5 (obind g6 (e7.trans (e8.trans e9))))))))
    show ¬ gF w4 9 6 0 ≤ (0 : Int32)
    rw [d4.1.2.1]
    exact nI_ge (a := 0) (by omega) (by omega)
end TAIL
