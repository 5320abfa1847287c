/-! the law: its head -/
theorem law_head {N f a : Nat} {R : List Row} {NL : List (List Nat)} {tp : List Nat} {sx : Nat × (Nat → Int32)} {w : Mem} (h : RelX w f 5 tk5 R [] NL tp) (hD : TD w a (cL (run tk5 c0 (R ++ []))) (cSs tk5 R [])) (hs : (cSs tk5 R []).length ≤ 9) :
    ∃ w', f_L_law N w sx (nI (cL (run tk5 c0 (R ++ []))).length) = lp_L_law_97 (fun (w_9 : Mem) => (f_L_law_208 N w_9 sx (nI (full (cSs tk5 R []).length)))) N sx (nI (full (cSs tk5 R []).length)) N w' (nI 0) ∧ RelX w' f 5 tk5 R [] NL tp ∧ TD w' a (cL (run tk5 c0 (R ++ []))) (cSs tk5 R []) := by
  have k := fun (v : Mem) => xAns_kx v (nI 0)
  have h1 := h.kx (k w)
  have d1 := hD.kx (k w)
  have h2 := h1.kx (k _)
  have d2 := d1.kx (k _)
  have h3 := h2.kx (k _)
  have d3 := d2.kx (k _)
  have h4 := h3.kx (k _)
  have d4 := d3.kx (k _)
  have a0 := (xabout h N).1
  have a1 := (xabout h1 N).2.1
  have a2 := (xabout h2 N).2.2.1
  have a5 := (xabout h3 N).2.2.2.2.1
  refine ⟨_, ?_, h4, d4⟩
  rw [f_L_law]
  refine oit hD.1.1.symm (obind a0 (oit rfl (obind a1 (oit d2.1.1.symm (obind a2 (oit d3.1.2.1.symm (obind a5 (oit rfl ?_))))))))
  rw [d4.1.2.1]
  have e1 : ((1 : Int32) <<< (nI (cSs tk5 R []).length &&& 31)) - (1 : Int32) = nI (full (cSs tk5 R []).length) := by
    rw [show (1 : Int32) <<< (nI (cSs tk5 R []).length &&& 31) = nI (2 ^ (cSs tk5 R []).length) from shl_t (by omega)]
    exact full_t
  rw [e1]
  rfl
