/-! the class's answers, alone: join -/
theorem xjoin {N f nf t u : Nat} {tk : Nat → Nat} {R A : List Row} {NL : List (List Nat)} {tp : List Nat} {w : Mem} (hN : 276 < N) (h : RelX w f nf tk R A NL tp) (hCI : CI tk nf (run tk c0 (R ++ A))) (ht : t < (cL (run tk c0 (R ++ A))).length) (hu : u < (cL (run tk c0 (R ++ A))).length) (hs : (cS (run tk c0 (R ++ A))).length < 12) :
    ∃ w', f_X8_join N w (nI t) (nI u) = some (w', nI (cntG (cL (stp tk (run tk c0 (R ++ A)) (.inr (true, t, u)))).length (ldJ (cJ (stp tk (run tk c0 (R ++ A)) (.inr (true, t, u))))))) ∧ RelX w' f nf tk R (A ++ [.inr (true, t, u)]) NL tp ∧ (∀ k j i, 9 ≤ k → gF w' k j i = gF w k j i) ∧ ∀ k i, 40 ≤ k → gA w' k i = gA w k i := by
  have hg := h.g5
  have h1 := h.trm N ht
  have h2 := h.trm N hu
  obtain ⟨⟨hf, h5, h6⟩, ⟨⟨xT, xG, xF⟩, xS, xQ, xD⟩, xFN, xA, xNm, xTp, xCo⟩ := id h
  have hr : okR tk nf (run tk c0 (R ++ A)) (.inr (true, t, u)) := ⟨ht, hu, hs⟩
  have hXK : XK w f tk (run tk (run tk c0 R) A) := by rw [← run_app]; exact h.2.1
  obtain ⟨w1, a1, a2, a3, a4⟩ := noteAct_ok (N := N) (.inr (true, t, u)) hXK xA (acts_lt hCI hr)
  rw [← run_app] at a2
  obtain ⟨w2, b1, b2, b3, b4⟩ := comeSame_ok hN a2 hCI hr
  have g5 : gR w1 8 5 0 = f := (a4.2.2.2 _ _ _).trans h5
  have g5' : gR w2 8 5 0 = f := (b4.2.2.2 _ _ _).trans g5
  have hR := RelX.act h (.inr (true, t, u)) a4 a3 b4 (by rw [run_act]; exact b2) (fun s hs => by rw [b3, a4.2.1 34 f (fun z => by omega)]; rw [run_act] at hs; exact xNm s hs) (settled_fr w2) (Or.inl (by rw [gF_sF, if_pos ⟨rfl, rfl, rfl⟩]))
  have e2 : gF w2 3 2 (2 + f) = nI (cntG (cL (stp tk (run tk c0 (R ++ A)) (.inr (true, t, u)))).length (ldJ (cJ (stp tk (run tk c0 (R ++ A)) (.inr (true, t, u)))))) := b2.1.2.1.2.2.2.1
  have a1' : f_X1_noteAct N w f (0 : Int32) = some w1 := a1
  have q3 : gR (sF w2 0 4 0 (0 : Int32)) 8 5 0 = f := g5'
  have q4 : gF (sF w2 0 4 0 (0 : Int32)) 3 2 (2 + f) = gF w2 3 2 (2 + f) := by rw [gF_sF, if_neg (by omega)]
  refine ⟨xAns (sF w2 0 4 0 (0 : Int32)) (nI 0), ?_, hR.kx (xAns_kx _ _), fun k j i hk => ?_, fun k i hk => ?_⟩
  · rw [f_X8_join]
    refine obind h1 (oie nz1 (obind h2 (oie nz1 (oit hg ?_))))
    rw [h5]
    refine oit (by rw [xS.2.1]; exact nI_lt (b := 12) hs (by omega)) (obind a1' (oit (by rw [g5]; exact hf) ?_))
    rw [g5]
    refine obind b1 (oit (by rw [q3]; exact hf) ?_)
    rw [q3, q4, e2]
    exact answer_x N _ _
  · show gF (sF (sF (sF w2 0 4 0 (0 : Int32)) 8 7 0 (nI 0)) 8 9 0 n1) k j i = _
    rw [gF_sF, if_neg (by omega), gF_sF, if_neg (by omega), gF_sF, if_neg (by omega), b4.1 _ _ _ (by omega), a4.1 _ _ _ (by omega)]
  · show gA w2 k i = _
    rw [b4.2.1 _ _ (by omega), a4.2.1 _ _ (by omega)]
