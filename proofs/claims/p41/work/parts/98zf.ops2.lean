/-! the class's answers, alone: terms, parts, joins, sames -/
def up9 (F : Fst) (t : Nat) : Int32 := match F t with | some (u, _) => nI u | none => n2
section XOP2
variable {N f nf t u b : Nat} {tk : Nat → Nat} {R A : List Row} {NL : List (List Nat)} {tp : List Nat} {w : Mem}
theorem xterm (h : RelX w f nf tk R A NL tp) (hN : 276 < N) (ht : t < (cL (run tk c0 (R ++ A))).length) : f_X8_term N w (nI t) 0 = some (xAns w (nI 0), nI (tlF (cL (run tk c0 (R ++ A))) t)) ∧ f_X8_term N w (nI t) 1 = some (xAns w (nI 0), nI (ldJ (cJ (run tk c0 (R ++ A))) t)) ∧ f_X8_term N w (nI t) 2 = some (xAns w (nI 0), nI (fb_ct (fun s => decide (ldJ (cJ (run tk c0 (R ++ A))) s = ldJ (cJ (run tk c0 (R ++ A))) t)) (cL (run tk c0 (R ++ A))).length)) ∧ f_X8_term N w (nI t) 3 = some (xAns w (nI 0), nI (fb_ct (usr (cT tk R A) (ldJ (cJ (run tk c0 (R ++ A)))) t) (cL (run tk c0 (R ++ A))).length)) := by
  have hg := h.g5
  have h1 := h.trm N ht
  obtain ⟨⟨hf, h5, h6⟩, ⟨⟨xT, xG, xF⟩, xS, xQ, xD⟩, -⟩ := id h
  have hn : (cL (run tk c0 (R ++ A))).length ≤ 24 := xT.1
  have hin : inb (nI t) 24 = true := inb_nI (by omega) (by omega)
  have hcl : (nI t).toNatClampNeg = t := nI_clamp (by omega)
  refine ⟨?_, ?_, ?_, ?_⟩
  · rw [f_X8_term]
    refine obind h1 (oie nz1 (oit rfl (oit hg (oit hin ?_))))
    rw [h5, hcl, (xT.2.2.2.1 t ht).2.2.1]; exact answer_x N w _
  · rw [f_X8_term]
    refine obind h1 (oie nz1 (oie (by decide) (oit rfl (oit hg (oit hin ?_)))))
    rw [h5, hcl, xG.2.2.2.2 t ht]; exact answer_x N w _
  · rw [f_X8_term]
    refine obind h1 (oie nz1 (oie (by decide) (oie (by decide) (oit rfl (oit hg ?_)))))
    rw [h5]
    exact obind (members_ok xG (by omega) ht) (answer_x N w _)
  · rw [f_X8_term]
    refine obind h1 (oie nz1 (oie (by decide) (oie (by decide) (oie (by decide) (oit rfl (oit hg ?_))))))
    rw [h5]
    exact obind (termsAbove_ok xT xG (by omega) ht) (answer_x N w _)
theorem xterm5 (h : RelX w f nf tk R A NL tp) (N : Nat) (ht : t < (cL (run tk c0 (R ++ A))).length) (hW : FW (frJ (cJ (run tk c0 (R ++ A)))) (cL (run tk c0 (R ++ A))).length (ldJ (cJ (run tk c0 (R ++ A)))) (cJ (run tk c0 (R ++ A))).length) : f_X8_term N w (nI t) 5 = some (xAns w (nI 0), up9 (frJ (cJ (run tk c0 (R ++ A)))) t) := by
  have hg := h.g5
  have h1 := h.trm N ht
  obtain ⟨⟨hf, h5, h6⟩, ⟨⟨xT, xG, xF⟩, xS, xQ, xD⟩, -⟩ := id h
  have hn : (cL (run tk c0 (R ++ A))).length ≤ 24 := xT.1
  have hin : inb (nI t) 24 = true := inb_nI (by omega) (by omega)
  have hcl : (nI t).toNatClampNeg = t := nI_clamp (by omega)
  have e19 := xF.2.2.2.2.1 t ht
  rw [f_X8_term]
  refine obind h1 (oie nz1 (oie (by decide) (oie (by decide) (oie (by decide) (oie (by decide) (oie (by decide) (oit rfl (oit hg (oit hin ?_)))))))))
  rw [h5, hcl, e19]
  unfold up9
  cases hF : frJ (cJ (run tk c0 (R ++ A))) t with
  | none => exact oie (by decide) (answer_x N w _)
  | some y =>
    obtain ⟨u, c⟩ := y
    obtain ⟨⟨rk, hrk⟩, -⟩ := hW
    have hu := (hrk t u c hF).2.1
    exact oit (nI_pos' (by omega)) (answer_x N w _)
/-- beyond the terms -/
theorem xterm_no (h : RelX w f nf tk R A NL tp) (N : Nat) : f_X8_term N w (nI (cL (run tk c0 (R ++ A))).length) 0 = some (xAns w (nI 1), n1) := by
  obtain ⟨⟨hf, h5, h6⟩, ⟨⟨xT, xG, xF⟩, xS, xQ, xD⟩, -⟩ := id h
  have x10 : gF w 7 10 f = nI (cL (run tk c0 (R ++ A))).length := xT.2.2.1
  have e : (cL (run tk c0 (R ++ A))).length ≤ 24 := xT.1
  have h1 := isTermX (N := N) (show (cL (run tk c0 (R ++ A))).length < 1000 by omega) hf h5 x10 (nI (cL (run tk c0 (R ++ A))).length)
  rw [b01_f (fun ⟨q, q1, q2⟩ => by have := (nI_inj_iff (by omega) (by omega)).mp q2; omega)] at h1
  rw [f_X8_term]
  exact obind h1 (oit rfl (refuse_x N w _))
theorem xpartOf (h : RelX w f nf tk R A NL tp) (N : Nat) (ht : t < (cL (run tk c0 (R ++ A))).length) (hk : b < 10) : f_X8_partOf N w (nI t) (nI b) = some (xAns w (nI 0), if b < tk (tlF (cL (run tk c0 (R ++ A))) t) then nI ((tlP (cL (run tk c0 (R ++ A))) t).getD b 0) else n2) := by
  have hg := h.g5
  have h1 := h.trm N ht
  obtain ⟨⟨hf, h5, h6⟩, ⟨⟨xT, xG, xF⟩, xS, xQ, xD⟩, -⟩ := id h
  have e1 := partsOf_ok (N := N) xT ht
  have h3 : tk (tlF (cL (run tk c0 (R ++ A))) t) ≤ 3 := (xT.2.2.2.1 t ht).2.1
  rw [f_X8_partOf]
  refine obind h1 (oie nz1 (oit (nI_pos' (by omega)) (oit hg ?_)))
  rw [h5]
  refine obind e1 ?_
  by_cases z : b < tk (tlF (cL (run tk c0 (R ++ A))) t)
  · rw [if_pos z]
    exact oie (nI_ge z (show tk (tlF (cL (run tk c0 (R ++ A))) t) < 2 ^ 31 by omega)) (obind (partAt_ok xT ht z) (answer_x N w _))
  · rw [if_neg z]
    exact oit (nI_le (show tk (tlF (cL (run tk c0 (R ++ A))) t) ≤ b by omega) (by omega)) (answer_x N w _)
theorem xjoinOf {p x y r : Nat} {c : Option Nat} (h : RelX w f nf tk R A NL tp) (N : Nat) (hp : (cJ (run tk c0 (R ++ A)))[p]? = some (x, y, c, r)) (hn : (cJ (run tk c0 (R ++ A))).length ≤ 24) (hc : ∀ k, c = some k → k < 12) : f_X8_joinOf N w (nI p) 0 = some (xAns w (nI 0), nI x) ∧ f_X8_joinOf N w (nI p) 1 = some (xAns w (nI 0), nI y) ∧ f_X8_joinOf N w (nI p) 2 = some (xAns w (nI 0), oI c) := by
  have hg := h.g5
  obtain ⟨⟨hf, h5, h6⟩, ⟨⟨xT, xG, xF⟩, xS, xQ, xD⟩, -⟩ := id h
  have hl := (List.getElem?_eq_some_iff.mp hp).1
  have hin : inb (nI p) 24 = true := inb_nI (by omega) (by omega)
  have hcl : (nI p).toNatClampNeg = p := nI_clamp (by omega)
  obtain ⟨j1, j2, j3, j4⟩ := xF.2.2.2.1 p x y c r hp
  have hlt : nI p < gF w 2 7 (gR w 8 5 0) := by rw [h5, xF.2.2.1]; exact nI_lt hl (by omega)
  refine ⟨?_, ?_, ?_⟩
  · rw [f_X8_joinOf]
    refine oie (nI_pos (by omega)) (oit hg (oit hlt (oit rfl (oit hin ?_))))
    rw [h5, hcl, j1]; exact answer_x N w _
  · rw [f_X8_joinOf]
    refine oie (nI_pos (by omega)) (oit hg (oit hlt (oie (by decide) (oit rfl (oit hin ?_)))))
    rw [h5, hcl, j2]; exact answer_x N w _
  · rw [f_X8_joinOf]
    refine oie (nI_pos (by omega)) (oit hg (oit hlt (oie (by decide) (oie (by decide) (oit rfl (oit hin ?_))))))
    rw [h5, hcl, j3]
    cases c with
    | none => exact oie (by decide) (answer_x N w _)
    | some k => exact oit (nI_pos' (by have := hc k rfl; omega)) (answer_x N w _)
theorem xsameOf {p x y : Nat} (h : RelX w f nf tk R A NL tp) (N : Nat) (hp : (cS (run tk c0 (R ++ A)))[p]? = some (x, y)) : f_X8_sameOf N w (nI p) 0 = some (xAns w (nI 0), nI x) ∧ f_X8_sameOf N w (nI p) 1 = some (xAns w (nI 0), nI y) := by
  have hg := h.g5
  obtain ⟨⟨hf, h5, h6⟩, ⟨⟨xT, xG, xF⟩, xS, xQ, xD⟩, -⟩ := id h
  have hl := (List.getElem?_eq_some_iff.mp hp).1
  have h12 := xS.1
  have hin : inb (nI p) 12 = true := inb_nI (by omega) (by omega)
  have hcl : (nI p).toNatClampNeg = p := nI_clamp (by omega)
  obtain ⟨j0, j1, j2, j3⟩ := xS.2.2 p x y hp
  have h1 := isSameX (N := N) (show (cS (run tk c0 (R ++ A))).length < 1000 by omega) hf h5 xS.2.1 (nI p)
  rw [b01_t (isT_nI hl)] at h1
  refine ⟨?_, ?_⟩
  · rw [f_X8_sameOf]
    refine obind h1 (oie nz1 (oit hg (oit hin (oit rfl ?_))))
    rw [h5, hcl, j2]; exact answer_x N w _
  · rw [f_X8_sameOf]
    refine obind h1 (oie nz1 (oit hg (oit hin (oie (by decide) (oit rfl ?_)))))
    rw [h5, hcl, j3]; exact answer_x N w _
end XOP2
