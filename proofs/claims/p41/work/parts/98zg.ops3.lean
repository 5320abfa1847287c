/-! the class's answers, alone: would, without, what hangs -/
section XOP3
variable {N f nf t u b : Nat} {tk : Nat → Nat} {R A : List Row} {NL : List (List Nat)} {tp : List Nat} {w : Mem}
theorem xwould (hN : 276 < N) (h : RelX w f nf tk R A NL tp) (hCI : CI tk nf (run tk c0 (R ++ A))) (ht : t < (cL (run tk c0 (R ++ A))).length) (hu : u < (cL (run tk c0 (R ++ A))).length) :
    (∃ w', f_X8_would N w (nI t) (nI u) 0 = some (w', nI (cntG (cL (run tk c0 (R ++ A))).length (ldE (cT tk R A) (Ew (cSs tk R A) t u)))) ∧ KX w w') ∧ ∃ w', f_X8_would N w (nI t) (nI u) 2 = some (w', nI (cntG (cL (run tk c0 (R ++ A))).length (ldJ (cJ (run tk c0 (R ++ A))))) - nI (cntG (cL (run tk c0 (R ++ A))).length (ldE (cT tk R A) (Ew (cSs tk R A) t u)))) ∧ KX w w' := by
  have hg := h.g5
  have h1 := h.trm N ht
  have h2 := h.trm N hu
  have h5 := h.1.2.1
  have hf := h.1.1
  obtain ⟨w1, w2, e1, e2, k1, k2, g1, g2⟩ := suppose_ok hN h hCI ht hu
  have r1 : gR w1 8 5 0 = f := (k1.2.2 _ _ _).trans h5
  have r2 : gR w2 8 5 0 = f := (k2.2.2 _ _ _).trans h5
  have hG := (h.kx k2).2.1.1.2.1
  constructor
  · refine ⟨xAns w2 (nI 0), ?_, k2.tr (xAns_kx _ _)⟩
    rw [f_X8_would]
    refine obind h1 (oie nz1 (obind h2 (oie nz1 (oie (by decide) (oit (by decide) (oit hg ?_))))))
    rw [h5]
    refine obind e1 (oit (by rw [r1]; exact hf) ?_)
    rw [r1]
    refine obind e2 (oit rfl ?_)
    rw [g2.2.2.2.1]; exact answer_x N w2 _
  · refine ⟨xAns w2 (nI 0), ?_, k2.tr (xAns_kx _ _)⟩
    rw [f_X8_would]
    refine obind h1 (oie nz1 (obind h2 (oie nz1 (oie (by decide) (oit (by decide) (oit hg ?_))))))
    rw [h5]
    refine obind e1 (oit (by rw [r1]; exact hf) ?_)
    rw [r1]
    refine obind e2 (oie (by decide) (oie (by decide) (oit (by rw [r2]; exact hf) ?_)))
    rw [r2, g2.2.2.2.1, hG.2.2.2.1]; exact answer_x N w2 _
theorem clr_w {s k : Nat} (hs : s ≤ 12) (hk : k < s) : nI (full s) &&& (((1 : Int32) <<< (nI k &&& 31)) ^^^ (-1 : Int32)) = nI (clr (full s) k) := by
  have hfs : full s < 4096 := Nat.lt_of_lt_of_le (full_lt _) (p2le (b := 12) hs)
  rw [show (1 : Int32) <<< (nI k &&& 31) = nI (2 ^ k) from shl_t (by omega)]
  exact clr_t (by omega) (by omega)
theorem xwithout {k : Nat} (hN : 276 < N) (h : RelX w f nf tk R A NL tp) (hs : (cSs tk R A).length ≤ 12) (hk : k < (cSs tk R A).length) : ∃ w', f_X8_without N w (nI k) 0 = some (w', nI (cntG (cL (run tk c0 (R ++ A))).length (ldE (cT tk R A) (Pk (cSs tk R A) (clr (full (cSs tk R A).length) k))))) ∧ KX w w' := by
  have hg := h.g5
  have h5 := h.1.2.1
  have hfs : full (cSs tk R A).length < 4096 := Nat.lt_of_lt_of_le (full_lt _) (p2le (b := 12) hs)
  have hcl := clr_lt (k := k) (full_lt (cSs tk R A).length)
  have hp := p2le (b := 12) hs
  obtain ⟨w', e, g, hk2⟩ := h.closeBy (b := clr (full (cSs tk R A).length) k) (g := 0) hN (by omega) (by omega)
  have h1 := isSameX (N := N) (show (cSs tk R A).length < 1000 by omega) h.1.1 h5 h.2.1.2.1.2.1 (nI k)
  rw [b01_t (isT_nI hk)] at h1
  refine ⟨xAns w' (nI 0), ?_, hk2.tr (xAns_kx _ _)⟩
  rw [f_X8_without]
  refine obind h1 (oie nz1 (oie (by decide) (oit (by decide) (oit hg ?_))))
  rw [h5]
  refine obind (allX hs h.2.1.2.1.2.1) ?_
  rw [clr_w hs hk]
  refine obind e (oit rfl ?_)
  rw [g.2.2.2.1]; exact answer_x N w' _
theorem xsameOf2 {p x y : Nat} (hN : 276 < N) (h : RelX w f nf tk R A NL tp) (hp : (cSs tk R A)[p]? = some (x, y)) : ∃ w', f_X8_sameOf N w (nI p) 2 = some (w', nI (b01 (By (cT tk R A) (cSs tk R A) (clr (full (cSs tk R A).length) p) x y))) ∧ KX w w' := by
  have hg := h.g5
  have h5 := h.1.2.1
  have xS := h.2.1.2.1
  have hs : (cSs tk R A).length ≤ 12 := xS.1
  have hl : p < (cSs tk R A).length := (List.getElem?_eq_some_iff.mp hp).1
  have hin : inb (nI p) 12 = true := inb_nI (by omega) (by omega)
  have hcl : (nI p).toNatClampNeg = p := nI_clamp (by omega)
  have hfs : full (cSs tk R A).length < 4096 := Nat.lt_of_lt_of_le (full_lt _) (p2le (b := 12) hs)
  have hcb := clr_lt (k := p) (full_lt (cSs tk R A).length)
  have hpp := p2le (b := 12) hs
  obtain ⟨j0, j1, j2, j3⟩ := xS.2.2 p x y hp
  have h1 := isSameX (N := N) (show (cSs tk R A).length < 1000 by omega) h.1.1 h5 xS.2.1 (nI p)
  rw [b01_t (isT_nI hl)] at h1
  obtain ⟨w', e, hk⟩ := h.isOneBy (b := clr (full (cSs tk R A).length) p) hN (by omega) j0 j1
  refine ⟨xAns w' (nI 0), ?_, hk.tr (xAns_kx _ _)⟩
  rw [f_X8_sameOf]
  refine obind h1 (oie nz1 (oit hg (oit hin (oie (by decide) (oie (by decide) (oit rfl ?_))))))
  rw [h5]
  refine obind (allX hs xS.2.1) ?_
  rw [hcl, j2, j3, clr_w hs hl]
  exact obind e (obind (bit_p N w' _) (answer_x N w' _))
end XOP3
