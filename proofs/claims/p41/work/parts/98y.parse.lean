/-! the text is read: each line of it -/
def R9 (w : Mem) (g n : Nat) (tp : List Nat) (K : Kd) (Ks : List Kd) (FL : List (List Nat)) (tg : List Nat) (NL : List (List Nat)) (rs : List Row) : Prop :=
  RXt w g n tp FL tg NL rs ∧ RPr g n tp FL tg NL rs ∧ TkX w K ∧ ∃ p q, gF w 5 8 0 = nI q ∧ KO tp n p q K ∧ TKs tp n q Ks
theorem h10_ : ¬ (1 : Int32) = 0 := by decide
theorem h30_ : ¬ (3 : Int32) ≤ 0 := by decide
theorem h31_ : ¬ (3 : Int32) ≤ (0 : Int32) + 1 := by decide
section RD9
variable {w v : Mem} {N g n d t f : Nat} {tp : List Nat} {K K2 K3 : Kd} {Ks : List Kd} {FL : List (List Nat)} {tg : List Nat} {NL : List (List Nat)} {rs : List Row} {nm : List Nat}
theorem TkX.to (h : TkX w K) (h5 : ∀ j, gF v 5 j 0 = gF w 5 j 0) : TkX v K := by
  rcases K.cs with e | ⟨ls, e⟩ | ⟨d, e⟩ | ⟨c, e⟩ | e
  · subst e; exact (h5 6).trans h
  · subst e; exact ⟨(h5 6).trans h.1, (h5 7).trans h.2⟩
  · subst e; exact ⟨(h5 6).trans h.1, (h5 7).trans h.2⟩
  · subst e; exact ⟨(h5 6).trans h.1, (h5 7).trans h.2⟩
  · subst e; exact (h5 6).trans h
theorem R9.mv {FL' : List (List Nat)} {tg' : List Nat} {NL' : List (List Nat)} {rs' : List Row} (h : R9 w g n tp K Ks FL tg NL rs) (h1 : RXt v g n tp FL' tg' NL' rs') (h2 : RPr g n tp FL' tg' NL' rs') (h5 : ∀ j, gF v 5 j 0 = gF w 5 j 0) : R9 v g n tp K Ks FL' tg' NL' rs' := by
  obtain ⟨-, -, h3, p, q, h4, h6⟩ := h
  exact ⟨h1, h2, h3.to h5, p, q, (h5 8).trans h4, h6⟩
theorem R9.adv (hN : 600 < N) (h : R9 w g n tp K (K2 :: Ks) FL tg NL rs) (hb : K2 ≠ .bad) : ∃ w', f_X5_advance N w = some w' ∧ R9 w' g n tp K2 Ks FL tg NL rs ∧ Fr5 w w' := by
  obtain ⟨h1, h2, h3, p, q, h4, h6, p2, q2, h7, h8⟩ := h
  obtain ⟨w', e, t1, t2, t3, t4⟩ := adv_ok hN h1.1.1 h2.1.2.2.2 h2.1.2.2.1 h2.1.2.1 h1.1.2.1 h4 h7
  exact ⟨w', e, ⟨h1.fr t4 (fun _ _ _ z => by omega) (fun _ _ z => z.elim), h2, t1, p2, q2, t3 hb, (h7.ko h2.1.2.1).1, h8⟩, t4⟩
theorem R9.g2 (h : R9 w g n tp K Ks FL tg NL rs) : gR w 5 2 0 = g ∧ g < 2 := ⟨h.1.1.2.2.1, h.2.1.1.1⟩
theorem R9.isn (h : R9 w g n tp K Ks FL tg NL rs) : f_X5_isName N w = some (nI (b01 (isNm K))) := by
  obtain ⟨-, -, h3, p, q, h4, h6, -⟩ := h
  exact xName h3 h6
theorem R9.sg (h : R9 w g n tp K Ks FL tg NL rs) {c : Nat} (hc : c < 128) : f_X5_isSign N w (nI c) = some (nI (b01 (K = .sgn c))) := by
  obtain ⟨-, -, h3, p, q, h4, h6, -⟩ := h
  exact xSign h3 h6 hc
theorem R9.n24 (h : R9 w g n tp K Ks FL tg NL rs) : NL.length ≤ 24 ∧ gF w 7 10 g = nI NL.length := by
  refine ⟨h.2.1.nl, ?_⟩
  have hX := h.1.2.2.2.2 (tk0 tg) (AG.z tg)
  rw [(h.2.1.2.2.2 (tk0 tg) (AG.z tg)).2]
  exact hX.1.1.2.2.1
theorem R9.fnm (h : R9 w g n tp K Ks FL tg NL rs) (hN : 200 < N) (hw : WOK nm) : (∀ t, lkp FL nm t → f_X7_functionNamed N w g (nI (wn nm)) = some (nI t)) ∧ (lkn FL nm → f_X7_functionNamed N w g (nI (wn nm)) = some n1) :=
  functionNamed_ok hN h.2.1.2.1.1 h.1.2.1.1 (fun i hi => (h.1.2.1.2 i hi).1) h.2.1.2.2.1.1 hw
theorem R9.tnm (h : R9 w g n tp K Ks FL tg NL rs) (hN : 200 < N) (hw : WOK nm) : (∀ t, lkp NL nm t → f_X7_termNamed N w g (nI (wn nm)) = some (nI t)) ∧ (lkn NL nm → f_X7_termNamed N w g (nI (wn nm)) = some n1) :=
  termNamed_ok2 hN h.n24.1 h.n24.2 h.1.2.2.1 h.2.1.2.2.1.2.1 hw
theorem R9.new (hN : 200 < N) (h : R9 w g n tp (.word nm) Ks FL tg NL rs) (hw : WOK nm) (hi : isNm (.word nm)) (hf : lkn FL nm) (ht : lkn NL nm) : f_X5_isNewName N w = some (w, 1) := by
  have e7 : gF w 5 7 0 = nI (wn nm) := h.2.2.1.2
  rw [f_X5_isNewName, h.isn, b01_t hi, Option.bind_some, if_neg (by decide), h.g2.1, if_pos h.g2.2, e7, (h.fnm hN hw).2 hf, Option.bind_some, if_neg (by decide), (h.tnm hN hw).2 ht, Option.bind_some, if_pos (by decide)]
  rfl
theorem R9.told (hN : 200 < N) (h : R9 w g n tp (.word nm) Ks FL tg NL rs) (hw : WOK nm) (hi : isNm (.word nm)) (ht : lkp NL nm t) : f_X5_isToldTerm N w = some (w, 1) ∧ f_X7_termNamed N w g (gF w 5 7 0) = some (nI t) := by
  have e7 : gF w 5 7 0 = nI (wn nm) := h.2.2.1.2
  have et := (h.tnm hN hw).1 t ht
  have t24 : t < 24 := by have := ht.1; have := h.n24.1; omega
  refine ⟨?_, by rw [e7]; exact et⟩
  rw [f_X5_isToldTerm, h.isn, b01_t hi, Option.bind_some, if_neg (by decide), h.g2.1, if_pos h.g2.2, e7, et, Option.bind_some, if_pos (nI_pos' (by omega))]
theorem R9.rfun (hN : 600 < N) (h : R9 w g n tp (.word kwF) (.word nm :: .dig d :: K3 :: Ks) FL tg NL rs) (hb : K3 ≠ .bad) (hl : FL.length < 8) (hw : WOK nm) (hi : isNm (.word nm)) (hf : lkn FL nm) (ht : lkn NL nm) (hd : d ≤ 3) :
    ∃ w', f_X5_readFunction N w = some (w', 1) ∧ R9 w' g n tp K3 Ks (FL ++ [nm]) (tg ++ [d]) NL rs ∧ FrR g w w' := by
  obtain ⟨w1, e1, h1, f1⟩ := h.adv hN (fun z => by cases z)
  have e2 := h1.new (N := N) (by omega) hw hi hf ht
  obtain ⟨w2, e3, h2, f2⟩ := h1.adv hN (fun z => by cases z)
  obtain ⟨w3, e4, h3, f3⟩ := RXt.fun (N := N) (ls := nm) (d := d) h2.1 h2.2.1 hl
  have h3' : R9 w3 g n tp (.dig d) (K3 :: Ks) (FL ++ [nm]) (tg ++ [d]) NL rs := h2.mv h3 (h2.2.1.fun hw hd hl) (fun j => f3.1 _ _ _ (by omega))
  obtain ⟨w4, e5, h4, f4⟩ := h3'.adv hN hb
  refine ⟨w4, ?_, h4, ((f1.r.tr2 f2.r).tr2 (f3.mono (fun _ _ _ z => by omega) (fun _ _ z => by omega))).tr2 f4.r⟩
  have e6 : gF w2 5 6 0 = (2 : Int32) := h2.2.2.1.1
  have e7 : gF w2 5 7 0 = nI d := h2.2.2.1.2
  have e8 : gF w1 5 7 0 = nI (wn nm) := h1.2.2.1.2
  have q0 := h.g2.1
  have q1 := h.g2.2
  have q2 := h2.g2.1
  have q9 := h.1.2.1.1
  rw [f_X5_readFunction]
  refine oit (q0.symm ▸ q1) (oit (show gF w 7 9 (gR w 5 2 0) < (8 : Int32) from by rw [q0, q9]; exact nI_lt (b := 8) hl (by omega)) (obind e1 (obind e2 (oie h10_ (obind e3 (oit e6 (oit (show gF w2 5 7 0 ≤ (3 : Int32) from by rw [e7]; exact nI_le (b := 3) hd (by omega)) (oit (q2.symm ▸ q1) ?_))))))))
  refine obind (show f_X7_addFunction N w2 (gR w2 5 2 0) (gF w1 5 7 0) (gF w2 5 7 0) = some w3 from by rw [q2, e8, e7]; exact e4) ?_
  exact obind e5 rfl
theorem TkX.w29 {j : Nat} {x : Int32} (h : R9 w g n tp K Ks FL tg NL rs) : R9 (sA w 29 0 j x) g n tp K Ks FL tg NL rs :=
  h.mv (h.1.fr (P := fun _ _ _ => False) (Q := fun k _ => k = 29) ⟨fun _ _ _ _ => rfl, fun k i z => by rw [gA_sA_ne (fun z2 => z z2.1)], fun _ _ => rfl, fun _ _ _ => rfl⟩ (fun _ _ _ z => z.elim) (fun _ _ z => z)) h.2.1 (fun _ => rfl)
/-- one part that is read -/
theorem R9.part {j a : Nat} (hN : 600 < N) (h : R9 w g n tp K (.word nm :: K2 :: Ks) FL tg NL rs) (hb : K2 ≠ .bad) (hw : WOK nm) (hi : isNm (.word nm)) (ht : lkp NL nm a) :
    ∃ w1 w2, f_X5_advance N w = some w1 ∧ f_X5_isToldTerm N w1 = some (w1, 1) ∧ gR w1 5 2 0 = g ∧ f_X7_termNamed N w1 g (gF w1 5 7 0) = some (nI a) ∧ f_X5_advance N (sA w1 29 0 j (nI a)) = some w2 ∧ R9 w2 g n tp K2 Ks FL tg NL rs ∧ (∀ i, gA w2 29 0 i = if i = j then nI a else gA w 29 0 i) ∧ FrY w w2 := by
  obtain ⟨w1, e1, h1, f1⟩ := h.adv hN (fun z => by cases z)
  obtain ⟨e2, e3⟩ := h1.told (N := N) (by omega) hw hi ht
  obtain ⟨w2, e4, h2, f2⟩ := (TkX.w29 (j := j) (x := nI a) h1).adv hN hb
  have fm : FrY w1 (sA w1 29 0 j (nI a)) := ⟨fun _ _ _ _ => rfl, fun k i z => by rw [gA_sA_ne (fun z2 => z z2)], fun _ _ => rfl, fun _ _ _ => rfl⟩
  refine ⟨w1, w2, e1, e2, h1.g2.1, e3, e4, h2, fun i => ?_, (f1.y.tr fm).tr f2.y⟩
  rw [f2.2.1 29 0 (fun z => z), gA_sA, f1.2.1 29 0 (fun z => z)]
  by_cases e : i = j
  · rw [if_pos e, if_pos ⟨rfl, rfl, e⟩]
  · rw [if_neg e, if_neg (fun z => e z.2.2)]
theorem nm1 {x : Nat} : isNm (.word [x]) := ⟨[x], rfl, (fun z => by cases z), (fun z => by cases z), (fun z => by cases z), (fun z => by cases z)⟩
/-- the parts of a term -/
theorem R9.parts {ps : List Nat} (hN : 600 < N) (hps : ps.length ≤ 2) (hp : ∀ k, k < ps.length → ps.getD k 0 < 12 ∧ lkp NL [107 + ps.getD k 0] (ps.getD k 0)) (hK : K3 = .eot ∨ K3 = .sgn 59) (h : ∃ K Kr, K :: Kr = tkp ps ++ (K3 :: Ks) ∧ R9 w g n tp K Kr FL tg NL rs) :
    ∃ w', f_X5_readParts N w (nI ps.length) = some (w', 1) ∧ R9 w' g n tp K3 Ks FL tg NL rs ∧ (∀ k, k < ps.length → gA w' 29 0 k = nI (ps.getD k 0)) ∧ FrY w w' := by
  have hb : K3 ≠ .bad := fun z => by rcases hK with e | e <;> rw [e] at z <;> cases z
  obtain ⟨K, Kr, eK, h⟩ := h
  match ps, hps, hp, eK with
  | [], _, _, eK =>
    have eK : K :: Kr = K3 :: Ks := eK
    cases eK
    refine ⟨w, ?_, h, fun k hk => absurd hk (Nat.not_lt_zero k), Fr.rf⟩
    have s40 : f_X5_isSign N w (40 : Int32) = some (nI (b01 (K3 = .sgn 40))) := h.sg (c := 40) (by omega)
    have s59 : f_X5_isSign N w (59 : Int32) = some (nI (b01 (K3 = .sgn 59))) := h.sg (c := 59) (by omega)
    rcases hK with e | e
    · subst e
      have e6 : gF w 5 6 0 = (0 : Int32) := h.2.2.1
      rw [b01_f (fun z => by cases z)] at s40
      rw [f_X5_readParts]
      exact obind s40 (oit rfl (oit e6 (oie h10_ (oit rfl rfl))))
    · subst e
      have e6 : ¬ gF w 5 6 0 = (0 : Int32) := by rw [h.2.2.1.1]; decide
      rw [b01_f (fun z => by cases z)] at s40
      rw [b01_t rfl] at s59
      rw [f_X5_readParts]
      exact obind s40 (oit rfl (oie e6 (obind s59 (oie h10_ (oie h10_ (oit rfl rfl))))))
  | [a], _, hp, eK =>
    have eK : K :: Kr = .sgn 40 :: .word [107 + a] :: .sgn 41 :: K3 :: Ks := eK
    cases eK
    obtain ⟨a1, a2⟩ := hp 0 (by show 0 < 1; omega)
    obtain ⟨w1, w2, e1, e2, e3, e4, e5, h2, g2, f2⟩ := h.part (j := 0) hN (fun z => by cases z) (w1_ok a1) nm1 a2
    obtain ⟨w3, e6, h3, f3⟩ := h2.adv hN hb
    refine ⟨w3, ?_, h3, fun k hk => ?_, f2.tr f3.y⟩
    · have s40 : f_X5_isSign N w (40 : Int32) = some (nI (b01 ((Kd.sgn 40) = .sgn 40))) := h.sg (c := 40) (by omega)
      have s41 : f_X5_isSign N w2 (41 : Int32) = some (nI (b01 ((Kd.sgn 41) = .sgn 41))) := h2.sg (c := 41) (by omega)
      obtain ⟨N', rfl⟩ : ∃ N', N = N' + 1 := ⟨N - 1, by omega⟩
      rw [b01_t rfl] at s40 s41
      rw [f_X5_readParts]
      refine obind s40 (oie h10_ ?_)
      rw [lp_X5_readParts_63]
      refine oie (show ¬ nI 1 ≤ (0 : Int32) from by decide) (oie h30_ (obind e1 (obind e2 (oie h10_ (oit (e3.symm ▸ h.g2.2) ?_)))))
      refine obind (show f_X7_termNamed (N' + 1) w1 (gR w1 5 2 0) (gF w1 5 7 0) = some (nI a) from by rw [e3]; exact e4) (oit rfl (obind e5 (obind s41 (oie h10_ (oit (show nI 1 ≤ (0 : Int32) + 1 from by decide) ?_)))))
      exact obind e6 rfl
    · have : k = 0 := by have : k < 1 := hk; omega
      subst this
      rw [f3.2.1 29 0 (fun z => z), g2 0, if_pos rfl]
  | [a, b], _, hp, eK =>
    have eK : K :: Kr = .sgn 40 :: .word [107 + a] :: .sgn 44 :: .word [107 + b] :: .sgn 41 :: K3 :: Ks := eK
    cases eK
    obtain ⟨a1, a2⟩ := hp 0 (by show 0 < 2; omega)
    obtain ⟨b1, b2⟩ := hp 1 (by show 1 < 2; omega)
    obtain ⟨w1, w2, e1, e2, e3, e4, e5, h2, g2, f2⟩ := h.part (j := 0) hN (fun z => by cases z) (w1_ok a1) nm1 a2
    obtain ⟨w4, w5, e11, e12, e13, e14, e15, h5, g5, f5⟩ := h2.part (j := 1) hN (fun z => by cases z) (w1_ok b1) nm1 b2
    obtain ⟨w3, e6, h3, f3⟩ := h5.adv hN hb
    refine ⟨w3, ?_, h3, fun k hk => ?_, (f2.tr f5).tr f3.y⟩
    · have s40 : f_X5_isSign N w (40 : Int32) = some (nI (b01 ((Kd.sgn 40) = .sgn 40))) := h.sg (c := 40) (by omega)
      have s41 : f_X5_isSign N w2 (41 : Int32) = some (nI (b01 ((Kd.sgn 44) = .sgn 41))) := h2.sg (c := 41) (by omega)
      have s44 : f_X5_isSign N w2 (44 : Int32) = some (nI (b01 ((Kd.sgn 44) = .sgn 44))) := h2.sg (c := 44) (by omega)
      have s41b : f_X5_isSign N w5 (41 : Int32) = some (nI (b01 ((Kd.sgn 41) = .sgn 41))) := h5.sg (c := 41) (by omega)
      obtain ⟨N', rfl⟩ : ∃ N', N = N' + 1 + 1 := ⟨N - 2, by omega⟩
      rw [b01_t rfl] at s40 s44 s41b
      rw [b01_f (fun z => by cases z)] at s41
      rw [f_X5_readParts]
      refine obind s40 (oie h10_ ?_)
      rw [lp_X5_readParts_63]
      refine oie (show ¬ nI 2 ≤ (0 : Int32) from by decide) (oie h30_ (obind e1 (obind e2 (oie h10_ (oit (e3.symm ▸ h.g2.2) ?_)))))
      refine obind (show f_X7_termNamed (N' + 1 + 1) w1 (gR w1 5 2 0) (gF w1 5 7 0) = some (nI a) from by rw [e3]; exact e4) (oit rfl (obind e5 (obind s41 (oit rfl (obind s44 (oie h10_ ?_))))))
      show lp_X5_readParts_63 _ (N' + 1 + 1) (nI 2) (N' + 1) w2 ((0 : Int32) + 1) = _
      rw [lp_X5_readParts_63]
      refine oie (show ¬ nI 2 ≤ (0 : Int32) + 1 from by decide) (oie h31_ (obind e11 (obind e12 (oie h10_ (oit (e13.symm ▸ h.g2.2) ?_)))))
      refine obind (show f_X7_termNamed (N' + 1 + 1) w4 (gR w4 5 2 0) (gF w4 5 7 0) = some (nI b) from by rw [e13]; exact e14) (oit rfl (obind e15 (obind s41b (oie h10_ (oit (show nI 2 ≤ (0 : Int32) + 1 + 1 from by decide) ?_)))))
      exact obind e6 rfl
    · rw [f3.2.1 29 0 (fun z => z), g5, g2]
      have : k = 0 ∨ k = 1 := by have : k < 2 := hk; omega
      rcases this with rfl | rfl
      · rfl
      · rfl
  | _ :: _ :: _ :: _, hps, _, _ => exact absurd hps (by show ¬ _ + 1 + 1 + 1 ≤ 2; omega)
/-- a term's line -/
theorem R9.rterm {fnm ps : List Nat} (hN : 600 < N) (hps : ps.length ≤ 2) (hp : ∀ k, k < ps.length → ps.getD k 0 < 12 ∧ lkp NL [107 + ps.getD k 0] (ps.getD k 0)) (hK : K3 = .eot ∨ K3 = .sgn 59) (h : R9 w g n tp (.word kwT) (.word nm :: .sgn 61 :: .word fnm :: (tkp ps ++ (K3 :: Ks))) FL tg NL rs) (hl : NL.length < 24) (hw : WOK nm) (hi : isNm (.word nm)) (hf : lkn FL nm) (ht : lkn NL nm) (hwf : WOK fnm) (hif : isNm (.word fnm)) (hff : lkp FL fnm f) (htg : tg.getD f 0 = ps.length)
    (hok : ∀ tk, AG tk tg → okR tk FL.length (run tk c0 rs) (.inl (f, ps))) :
    ∃ w', f_X5_readTerm N w = some (w', 1) ∧ R9 w' g n tp K3 Ks FL tg (NL ++ [nm]) (rs ++ [.inl (f, ps)]) ∧ FrR g w w' := by
  obtain ⟨w1, e1, h1, f1⟩ := h.adv hN (fun z => by cases z)
  have e2 := h1.new (N := N) (by omega) hw hi hf ht
  obtain ⟨w2, e3, h2, f2⟩ := h1.adv hN (fun z => by cases z)
  have s61 : f_X5_isSign N w2 (61 : Int32) = some (nI (b01 ((Kd.sgn 61) = .sgn 61))) := h2.sg (c := 61) (by omega)
  obtain ⟨w3, e4, h3, f3⟩ := h2.adv hN (fun z => by cases z)
  have e5 := (h3.fnm (N := N) (by omega) hwf).1 f hff
  have hf8 : f < 8 := by have := hff.1; have := h.2.1.2.1.1; omega
  have hadv : ∃ w4, f_X5_advance N w3 = some w4 ∧ (∃ K Kr, K :: Kr = tkp ps ++ (K3 :: Ks) ∧ R9 w4 g n tp K Kr FL tg NL rs) ∧ Fr5 w3 w4 := by
    have hb : K3 ≠ .bad := fun z => by rcases hK with e | e <;> rw [e] at z <;> cases z
    match ps, h3 with
    | [], h3 => obtain ⟨w4, a1, a2, a3⟩ := R9.adv hN h3 hb; exact ⟨w4, a1, ⟨_, _, rfl, a2⟩, a3⟩
    | [a], h3 => obtain ⟨w4, a1, a2, a3⟩ := R9.adv hN h3 (fun z => by cases z); exact ⟨w4, a1, ⟨_, _, rfl, a2⟩, a3⟩
    | a :: b :: r, h3 => obtain ⟨w4, a1, a2, a3⟩ := R9.adv hN h3 (fun z => by cases z); exact ⟨w4, a1, ⟨_, _, rfl, a2⟩, a3⟩
  obtain ⟨w4, e6, h4, f4⟩ := hadv
  have h4g : gR w4 5 2 0 = g ∧ gA w4 31 g f = nI ps.length := by
    obtain ⟨K, Kr, -, h⟩ := h4
    exact ⟨h.g2.1, by rw [(h.1.2.1.2 f hff.1).2, htg]⟩
  obtain ⟨w5, e7, h5, g5, f5⟩ := R9.parts (Ks := Ks) hN hps hp hK h4
  obtain ⟨w6, e8, h6, f6⟩ := RXt.term (N := N) (ls := nm) (fn := f) (ps := ps) (a := gA w5 29 0 0) (b := gA w5 29 0 1) (d := gA w5 29 0 2) (by omega) h5.1 h5.2.1 hok (fun k hk => by
    rw [← g5 k hk]
    have : k = 0 ∨ k = 1 := by omega
    rcases this with rfl | rfl <;> rfl)
  have e9 : gF w1 5 7 0 = nI (wn nm) := h1.2.2.1.2
  have e10 : gF w3 5 7 0 = nI (wn fnm) := h3.2.2.1.2
  refine ⟨w6, ?_, h5.mv h6 (h5.2.1.push hok (fun tk ha => ?_) ?_ (fun x hx => ?_)) (fun j => f6.1 _ _ _ (by omega)), ((((f1.r.tr2 f2.r).tr2 f3.r).tr2 f4.r).tr2 f5.r).tr2 f6.r⟩
  · rw [b01_t rfl] at s61
    have i3 := h3.isn (N := N)
    rw [b01_t hif] at i3
    have q0 := h.g2.1
    have q1 := h.g2.2
    have q3 := h3.g2.1
    have q5 := h5.g2.1
    have qn := h.n24.2
    rw [f_X5_readTerm]
    refine oit (q0.symm ▸ q1) (oit (show gF w 7 10 (gR w 5 2 0) < (24 : Int32) from by rw [q0, qn]; exact nI_lt (b := 24) hl (by omega)) (obind e1 (obind e2 (oie h10_ (obind e3 (obind s61 (oie h10_ (obind e4 (obind i3 (oie h10_ (oit (q3.symm ▸ q1) ?_)))))))))))
    refine obind (show f_X7_functionNamed N w3 (gR w3 5 2 0) (gF w3 5 7 0) = some (nI f) from by rw [q3, e10]; exact e5) (oit (nI_pos' (by omega)) (obind e6 (oit (h4g.1.symm ▸ q1) (oit (inb_nI hf8 (by omega)) ?_))))
    refine obind (show f_X5_readParts N w4 (gA w4 31 (gR w4 5 2 0) (nI f).toNatClampNeg) = some (w5, 1) from by rw [h4g.1, nI_clamp (by omega), h4g.2]; exact e7) (oie h10_ (oit (q5.symm ▸ q1) (oit rfl (oit rfl (oit rfl ?_)))))
    refine obind (show f_X1_comeTerm N w5 (gR w5 5 2 0) (gF w1 5 7 0) (nI f) (gA w5 29 0 0) (gA w5 29 0 1) (gA w5 29 0 2) = some w6 from by rw [q5, e9]; exact e8) rfl
  · show (NL ++ [nm]).length = (cL (run tk c0 rs) ++ [(f, ps)]).length
    rw [List.length_append, List.length_append, (h5.2.1.2.2.2 tk ha).2]; rfl
  · intro ls hls
    rcases List.mem_append.mp hls with q | q
    · exact h5.2.1.2.2.1.2.1 ls q
    · rw [List.mem_singleton] at q; subst q; exact hw
  · cases hx; show ps.length ≤ 3; omega
/-- a line of two that are the same -/
theorem R9.rsame {a b : Nat} (hN : 600 < N) (hb : K3 ≠ .bad) (h : R9 w g n tp (.word kwS) (.word [107 + a] :: .word [107 + b] :: K3 :: Ks) FL tg NL rs) (ha : a < 12 ∧ lkp NL [107 + a] a) (hb2 : b < 12 ∧ lkp NL [107 + b] b)
    (hok : ∀ tk, AG tk tg → okR tk FL.length (run tk c0 rs) (.inr (true, a, b))) :
    ∃ w', f_X5_readTwo N w 1 = some (w', 1) ∧ R9 w' g n tp K3 Ks FL tg NL (rs ++ [.inr (true, a, b)]) ∧ FrR g w w' := by
  obtain ⟨w1, e1, h1, f1⟩ := h.adv hN (fun z => by cases z)
  obtain ⟨e2, e3⟩ := h1.told (N := N) (by omega) (w1_ok ha.1) nm1 ha.2
  obtain ⟨w2, e4, h2, f2⟩ := h1.adv hN (fun z => by cases z)
  obtain ⟨e5, e6⟩ := h2.told (N := N) (by omega) (w1_ok hb2.1) nm1 hb2.2
  obtain ⟨w3, e7, h3, f3⟩ := RXt.same (N := N) (by omega) h2.1 h2.2.1 hok
  have h3' : R9 w3 g n tp (.word [107 + b]) (K3 :: Ks) FL tg NL (rs ++ [.inr (true, a, b)]) := h2.mv h3 (h2.2.1.push hok (fun tk hg => (h2.2.1.2.2.2 tk hg).2) h2.2.1.2.2.1.2.1 (fun x hx => by cases hx)) (fun j => f3.1 _ _ _ (by omega))
  obtain ⟨w4, e8, h4, f4⟩ := h3'.adv hN hb
  refine ⟨w4, ?_, h4, ((f1.r.tr2 f2.r).tr2 f3.r).tr2 f4.r⟩
  have q0 := h1.g2.1
  have q2 := h2.g2.1
  have q1 := h.g2.2
  rw [f_X5_readTwo]
  refine obind e1 (obind e2 (oie h10_ (oit (q0.symm ▸ q1) (obind (show f_X7_termNamed N w1 (gR w1 5 2 0) (gF w1 5 7 0) = some (nI a) from by rw [q0]; exact e3) (obind e4 (obind e5 (oie h10_ (oit (q2.symm ▸ q1) ?_))))))))
  refine obind (show f_X7_termNamed N w2 (gR w2 5 2 0) (gF w2 5 7 0) = some (nI b) from by rw [q2]; exact e6) (oie h10_ ?_)
  refine obind (show f_X1_comeSame N w2 (gR w2 5 2 0) (nI a) (nI b) = some w3 from by rw [q2]; exact e7) ?_
  exact obind e8 rfl
end RD9
