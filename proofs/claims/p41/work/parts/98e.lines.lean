theorem FrR.tr2 {g : Nat} {a b c : Mem} (h : FrR g a b) (k : FrR g b c) : FrR g a c := h.tr k
theorem FrX.r {g : Nat} {w v : Mem} (h : FrX g w v) : FrR g w v := h.mono (fun _ _ _ z => by omega) (fun _ _ z => by omega)
theorem Fr5.r {g : Nat} {w v : Mem} (h : Fr5 w v) : FrR g w v := h.y.r
theorem RPr.rl {g n : Nat} {tp : List Nat} {FL : List (List Nat)} {tg : List Nat} {NL : List (List Nat)} {rs : List Row} (h : RPr g n tp FL tg NL rs) : rs.length ≤ 44 := by
  have hC := h.n24 _ (AG.z tg)
  have hl := run_len (tk0 tg) rs c0
  have h1 := hC.1.2.1
  rw [tN_mk] at h1
  have h2 := hC.2.2.1.1
  have h3 := hC.2.2.2.1.1
  have h0 : (cL c0).length + (cS c0).length + (cQ c0).length = 0 := rfl
  omega
