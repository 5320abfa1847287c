/-! the class's answers, alone -/
section XOPS
variable {N f nf t u b : Nat} {tk : Nat → Nat} {R A : List Row} {NL : List (List Nat)} {tp : List Nat} {w : Mem}
theorem refuse_x (N : Nat) (w : Mem) (x : Int32) : (Option.bind (f_X8_refuse N w x) (fun z => some (z.1, z.2))) = some (xAns w x, n1) := rfl
theorem answer_x (N : Nat) (w : Mem) (x : Int32) : (Option.bind (f_X8_answer N w x) (fun z => some (z.1, z.2))) = some (xAns w (nI 0), x) := rfl
theorem RelX.g5 (h : RelX w f nf tk R A NL tp) : gR w 8 5 0 < 2 := by rw [h.1.2.1]; exact h.1.1
theorem xabout (h : RelX w f nf tk R A NL tp) (N : Nat) : f_X8_about N w 0 = some (xAns w (nI 0), nI nf) ∧ f_X8_about N w 1 = some (xAns w (nI 0), nI (cL (run tk c0 (R ++ A))).length) ∧ f_X8_about N w 2 = some (xAns w (nI 0), nI (cS (run tk c0 (R ++ A))).length) ∧ f_X8_about N w 4 = some (xAns w (nI 0), nI (cntG (cL (run tk c0 (R ++ A))).length (ldJ (cJ (run tk c0 (R ++ A)))))) ∧ f_X8_about N w 5 = some (xAns w (nI 0), nI A.length) ∧ f_X8_about N w 6 = some (xAns w (nI 0), nI (cJ (run tk c0 (R ++ A))).length) := by
  have hg := h.g5
  obtain ⟨⟨hf, h5, h6⟩, ⟨⟨xT, xG, xF⟩, xS, xQ, xD⟩, xFN, xA, xNm, xTp, xCo⟩ := id h
  refine ⟨?_, ?_, ?_, ?_, ?_, ?_⟩
  · rw [f_X8_about]
    refine oit rfl (oit hg ?_)
    rw [h5, xFN.2.1]; exact answer_x N w _
  · rw [f_X8_about]
    refine oie (by decide) (oit rfl (oit hg ?_))
    rw [h5, xT.2.2.1]; exact answer_x N w _
  · rw [f_X8_about]
    refine oie (by decide) (oie (by decide) (oit rfl (oit hg ?_)))
    rw [h5, xS.2.1]; exact answer_x N w _
  · rw [f_X8_about]
    refine oie (by decide) (oie (by decide) (oie (by decide) (oie (by decide) (oit rfl (oit hg ?_)))))
    rw [h5, xG.2.2.2.1]; exact answer_x N w _
  · rw [f_X8_about]
    refine oie (by decide) (oie (by decide) (oie (by decide) (oie (by decide) (oie (by decide) (oit rfl (oit hg ?_))))))
    rw [h5, xA.2.1]; exact answer_x N w _
  · rw [f_X8_about]
    refine oie (by decide) (oie (by decide) (oie (by decide) (oie (by decide) (oie (by decide) (oie (by decide) (oit rfl (oit hg ?_)))))))
    rw [h5, xF.2.2.1]; exact answer_x N w _
theorem RelX.trm (h : RelX w f nf tk R A NL tp) (N : Nat) (ht : t < (cL (run tk c0 (R ++ A))).length) : f_X8_isTerm N w (nI t) = some (nI 1) := by
  obtain ⟨⟨hf, h5, h6⟩, ⟨⟨xT, xG, xF⟩, xS, xQ, xD⟩, -⟩ := id h
  have x10 : gF w 7 10 f = nI (cL (run tk c0 (R ++ A))).length := xT.2.2.1
  have e : (cL (run tk c0 (R ++ A))).length ≤ 24 := xT.1
  rw [isTermX (N := N) (show (cL (run tk c0 (R ++ A))).length < 1000 by omega) hf h5 x10, b01_t (isT_nI ht)]
theorem nz1 : ¬ nI 1 = (0 : Int32) := by decide
theorem xequal (h : RelX w f nf tk R A NL tp) (N : Nat) (ht : t < (cL (run tk c0 (R ++ A))).length) (hu : u < (cL (run tk c0 (R ++ A))).length) : f_X8_equal N w (nI t) (nI u) = some (xAns w (nI 0), nI (b01 (ldJ (cJ (run tk c0 (R ++ A))) t = ldJ (cJ (run tk c0 (R ++ A))) u))) := by
  have hg := h.g5
  have h1 := h.trm N ht
  have h2 := h.trm N hu
  obtain ⟨⟨hf, h5, h6⟩, ⟨⟨xT, xG, xF⟩, xS, xQ, xD⟩, -⟩ := id h
  have e := one_ok xG N ht hu
  rw [b01_i] at e
  rw [f_X8_equal]
  refine obind h1 (oie nz1 (obind h2 (oie nz1 (oit hg ?_))))
  rw [h5]
  exact obind e (obind (bit_p N w _) (answer_x N w _))
theorem xproves (hN : 276 < N) (h : RelX w f nf tk R A NL tp) (ht : t < (cL (run tk c0 (R ++ A))).length) (hu : u < (cL (run tk c0 (R ++ A))).length) (hb : b ≤ full (cSs tk R A).length) (hs : (cSs tk R A).length ≤ 12) :
    ∃ w', f_X8_proves N w (nI b) (nI t) (nI u) = some (w', nI (b01 (By (cT tk R A) (cSs tk R A) b t u))) ∧ KX w w' ∧ gF w' 8 7 0 = nI 0 := by
  have hg := h.g5
  have h1 := h.trm N ht
  have h2 := h.trm N hu
  have h5 := h.1.2.1
  have hfs : full (cSs tk R A).length < 4096 := Nat.lt_of_lt_of_le (full_lt _) (p2le (b := 12) hs)
  obtain ⟨w', e, hk⟩ := h.isOneBy (b := b) hN (by omega) ht hu
  refine ⟨xAns w' (nI 0), ?_, hk.tr (xAns_kx _ _), xAns_7 _ _⟩
  rw [f_X8_proves]
  refine obind h1 (oie nz1 (obind h2 (oie nz1 (oie (nI_pos (by omega)) (oit hg ?_)))))
  rw [h5]
  exact obind (allX hs h.2.1.2.1.2.1) (oit (nI_le hb (by omega)) (obind e (obind (bit_p N w' _) (answer_x N w' _))))
/-- more sames asked than there are -/
theorem xproves_no (h : RelX w f nf tk R A NL tp) (N : Nat) (ht : t < (cL (run tk c0 (R ++ A))).length) (hs : (cSs tk R A).length ≤ 12) : f_X8_proves N w (nI (full (cSs tk R A).length) + 1) (nI t) (nI t) = some (xAns w (nI 2), n1) := by
  have hg := h.g5
  have h1 := h.trm N ht
  have h5 := h.1.2.1
  have hfs : full (cSs tk R A).length < 4096 := Nat.lt_of_lt_of_le (full_lt _) (p2le (b := 12) hs)
  rw [f_X8_proves, nI1]
  refine obind h1 (oie nz1 (obind h1 (oie nz1 (oie (nI_pos (by omega)) (oit hg ?_)))))
  rw [h5]
  exact obind (allX hs h.2.1.2.1.2.1) (oie (nI_ge (by omega) (by omega)) (refuse_x N w _))
theorem xheight (hN : 25 < N) (h : RelX w f nf tk R A NL tp) (hW : FW (frJ (cJ (run tk c0 (R ++ A)))) (cL (run tk c0 (R ++ A))).length (ldJ (cJ (run tk c0 (R ++ A)))) (cJ (run tk c0 (R ++ A))).length) (ht : t < (cL (run tk c0 (R ++ A))).length) : f_X8_height N w (nI t) = some (xAns w (nI 0), nI (dp (frJ (cJ (run tk c0 (R ++ A)))) t)) := by
  have hg := h.g5
  have h1 := h.trm N ht
  obtain ⟨⟨hf, h5, h6⟩, ⟨⟨xT, xG, xF⟩, xS, xQ, xD⟩, -⟩ := id h
  rw [f_X8_height]
  refine obind h1 (oie nz1 (oit hg ?_))
  rw [h5]
  exact obind (stepsUp_ok hN xF hW ht) (answer_x N w _)
end XOPS
