/-! the law gives true -/
section LAWS
variable {N f a : Nat} {R : List Row} {NL : List (List Nat)} {tp : List Nat} {sx : Nat × (Nat → Int32)} {v4 : Int32} {w : Mem}
theorem l611 (hN : 276 < N) (hx : sx.1 < 2 ^ 31) (h : LW9 w f a R [] NL tp) (hCI : CI tk5 5 (run tk5 c0 (R ++ []))) (hJ : JIc tk5 (run tk5 c0 (R ++ []))) (hL : LO9 (cL (run tk5 c0 (R ++ [])))) (h4 : 4 ≤ (cL (run tk5 c0 (R ++ []))).length) (hs : (cSs tk5 R []).length ≤ 9) (ha : a ≤ 800) :
    ∃ w', f_L_law_611 N w sx (nI (full (cSs tk5 R []).length)) (nI (cntG (cL (run tk5 c0 (R ++ []))).length (ldJ (cJ (run tk5 c0 (R ++ [])))))) = some (w', 1) := by
  have h9 := hL.1
  have h1 := h.an
  have h2 := h1.an
  have e4 := (xabout h.1 N).2.2.2.1
  have e6 := (xabout h1.1 N).2.2.2.2.2
  have hPC : cntG (cL (run tk5 c0 (R ++ []))).length (ldJ (cJ (run tk5 c0 (R ++ [])))) + (cJ (run tk5 c0 (R ++ []))).length = (cL (run tk5 c0 (R ++ []))).length := hCI.1.2.2.2.2.2
  obtain ⟨w3, e7, h3⟩ := l645 (N := N) (sx := sx) (v4 := nI (full (cSs tk5 R []).length)) (v5 := nI (cntG (cL (run tk5 c0 (R ++ []))).length (ldJ (cJ (run tk5 c0 (R ++ [])))))) (fun (w_17 : Mem) (u6_17 : Int32) => (f_L_law_798 N w_17 sx (nI (full (cSs tk5 R []).length)) (nI (cntG (cL (run tk5 c0 (R ++ []))).length (ldJ (cJ (run tk5 c0 (R ++ [])))))) u6_17)) hN h2 hCI h9
  obtain ⟨w4, e8, h4'⟩ := l810 (N := N) (sx := sx) (v4 := nI (full (cSs tk5 R []).length)) (v5 := nI (cntG (cL (run tk5 c0 (R ++ []))).length (ldJ (cJ (run tk5 c0 (R ++ [])))))) (fun (w_18 : Mem) => (f_L_law_934 N w_18 sx (nI (full (cSs tk5 R []).length)) (nI (cntG (cL (run tk5 c0 (R ++ []))).length (ldJ (cJ (run tk5 c0 (R ++ [])))))))) hN h3 hCI hL hJ
  obtain ⟨w', e9⟩ := l934 (N := N) (sx := sx) hN hx h4'.1 h4'.2.1 hCI hL h4 hs ha
  have e10 : f_L_law_798 N w3 sx (nI (full (cSs tk5 R []).length)) (nI (cntG (cL (run tk5 c0 (R ++ []))).length (ldJ (cJ (run tk5 c0 (R ++ [])))))) (nI (cntG (cL (run tk5 c0 (R ++ []))).length (ldJ (cJ (run tk5 c0 (R ++ [])))))) = some (w', 1) := by
    rw [f_L_law_798]
    exact oit rfl (e8.trans e9)
  refine ⟨w', ?_⟩
  rw [f_L_law_611]
  refine obind e4 (oit rfl (obind e6 (oit ?_ (e7.trans e10))))
  show nI (cJ (run tk5 c0 (R ++ []))).length = gF (xAns (xAns w (nI 0)) (nI 0)) 9 5 0 - nI (cntG (cL (run tk5 c0 (R ++ []))).length (ldJ (cJ (run tk5 c0 (R ++ [])))))
  rw [h2.2.1.1.1, n_sub (cnt_le _ _)]
  congr 1
  omega
theorem l208 (hN : 276 < N) (hx : sx.1 < 2 ^ 31) (h : RelX w f 5 tk5 R [] NL tp) (hD : TD w a (cL (run tk5 c0 (R ++ []))) (cSs tk5 R [])) (hCI : CI tk5 5 (run tk5 c0 (R ++ []))) (hJ : JIc tk5 (run tk5 c0 (R ++ []))) (hL : LO9 (cL (run tk5 c0 (R ++ [])))) (h4 : 4 ≤ (cL (run tk5 c0 (R ++ []))).length) (hs : (cSs tk5 R []).length ≤ 9) (ha : a ≤ 800) :
    ∃ w', f_L_law_208 N w sx (nI (full (cSs tk5 R []).length)) = some (w', 1) := by
  have hf9 := full_lt (cSs tk5 R []).length
  have hpp := p2le (b := 9) hs
  obtain ⟨w1, e1, f1, r1⟩ := closes_ok (N := N) (b := full (cSs tk5 R []).length) (by omega) hL (fun p i j hp => by
    obtain ⟨q1, q2, -⟩ := h.2.1.2.1.2.2 p i j hp
    exact ⟨q1, q2⟩) hs (by omega) hD.1.1 hD.1.2.1 hD.2
  have hLS : LW9 w1 f a R [] NL tp := ⟨h.f45 f1, hD.f45 f1, fun i hi => by rw [r1 i hi, ldE_full, ldJ_E hCI i hi]⟩
  obtain ⟨w2, e2, h2⟩ := l220 (N := N) (sx := sx) (v4 := nI (full (cSs tk5 R []).length)) (fun (w_12 : Mem) (u5_12 : Int32) => (f_L_law_611 N w_12 sx (nI (full (cSs tk5 R []).length)) u5_12)) hN hLS hCI hL
  obtain ⟨w', e3⟩ := l611 (N := N) (sx := sx) hN hx h2 hCI hJ hL h4 hs ha
  refine ⟨w', ?_⟩
  rw [f_L_law_208]
  exact obind e1 (e2.trans e3)
end LAWS
theorem law_all {N : Nat} {sx : Nat × (Nat → Int32)} (hN : 2000 < N) (hs : sx.1 < 2 ^ 31) :
    ∃ w1 w2 w3 r, f_X10_text N (txt0 wI) sx = some w1 ∧ lenT w1 < 2 ^ 31 ∧ f_L_tell N (sF w1 61 1 0 0) (bsT w1) = some (w2, r) ∧ f_L_law N w2 sx r = some (w3, 1) := by
  obtain ⟨w1, w2, R, a, e1, e2, e3, hX, hok, -, hD, ha, h4, h9, hS⟩ := told_ok (N := N) hN hs
  have e0 : R ++ [] = R := List.append_nil R
  have hD' : TD w2 a (cL (run tk5 c0 (R ++ []))) (cS (run tk5 c0 (R ++ []))) := by rw [e0]; exact hD
  have hCI : CI tk5 5 (run tk5 c0 (R ++ [])) := by rw [e0]; exact ci5 hok
  have hJ : JIc tk5 (run tk5 c0 (R ++ [])) := by rw [e0]; exact ji5 hok
  have hL : LO9 (cL (run tk5 c0 (R ++ []))) := by rw [e0]; exact lo9 hok h9
  have h4' : 4 ≤ (cL (run tk5 c0 (R ++ []))).length := by rw [e0]; exact h4
  have hS' : (cS (run tk5 c0 (R ++ []))).length ≤ 9 := by rw [e0]; exact hS
  obtain ⟨w3, g1, h3, d3⟩ := law_head (N := N) (sx := sx) hX hD' hS'
  obtain ⟨w4, a', g2, h4'', d4, ha'⟩ := set97 (N := N) (sx := sx) (fun (w_9 : Mem) => (f_L_law_208 N w_9 sx (nI (full (cSs tk5 R []).length)))) (by omega) hs hL hS' (by omega) h3 d3
  obtain ⟨w', g3⟩ := l208 (N := N) (sx := sx) (by omega) hs h4'' d4 hCI hJ hL h4' hS' (by omega)
  refine ⟨w1, w2, w', _, e1, e2, e3, ?_⟩
  have e5 : nI (cL (run tk5 c0 R)).length = nI (cL (run tk5 c0 (R ++ []))).length := by rw [e0]
  rw [e5]
  exact g1.trans (g2.trans g3)
