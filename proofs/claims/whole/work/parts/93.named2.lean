/-! named: both -/
theorem from_ok {N n a : Nat} {w : Mem} {tp : List Nat} (k : Int32 → Option (Mem × Int32)) (hN : 600 < N) (hT : TMm w tp) (hl : tp.length ≤ 500) (hn : n ≤ tp.length) (hb : ∀ b, b ∈ tp → b < 256) (h : SK (bla tp) 0 n a) : lp_X9_named_25 k N w (nI n) N (nI 0) = k (nI a) := by
  obtain ⟨h1, h2, h3, h4⟩ := h
  have key := lpe (α := Unit) n (fun fu _ q => lp_X9_named_25 k N w (nI n) fu q) (fun o => o = k (nI a)) (fun q _ => q ≤ a) ?_ ?_ 0 N () (by omega) (by omega) (Nat.zero_le _)
  · exact key
  · intro fu _ q2
    have e : a = n := by omega
    show lp_X9_named_25 k N w (nI n) (fu + 1) (nI n) = k (nI a)
    rw [lp_X9_named_25, if_pos (of_eq_true (le_tt (by omega) (by omega) (Nat.le_refl _))), e]
  · intro fu q _ hq q2
    have c := hT.2 q (by omega)
    have hbb := getD_b hb q
    have l32 : (32 : Int32) = nI 32 := rfl
    by_cases e : q = a
    · refine Or.inl ?_
      have hp : ¬ tp.getD q 0 = 32 := by rw [e]; exact h4.resolve_left (by omega)
      show lp_X9_named_25 k N w (nI n) (fu + 1) (nI q) = k (nI a)
      rw [lp_X9_named_25, if_neg (of_eq_false (le_tf (by omega) (by omega) hq)), if_pos (inb_t (by omega) (by omega)), cl_t (by omega), c, l32, if_neg (of_eq_false (eq_tf (by omega) (by omega) hp)), e]
    · refine Or.inr ⟨(), by omega, ?_⟩
      have hp : tp.getD q 0 = 32 := h3 q (Nat.zero_le _) (by omega)
      show lp_X9_named_25 k N w (nI n) (fu + 1) (nI q) = lp_X9_named_25 k N w (nI n) fu (nI (q + 1))
      rw [lp_X9_named_25, if_neg (of_eq_false (le_tf (by omega) (by omega) hq)), if_pos (inb_t (by omega) (by omega)), cl_t (by omega), c, l32, if_pos (by rw [hp]), li1, q_add]
theorem until_ok {N a u : Nat} {w : Mem} {tp : List Nat} (k : Int32 → Option (Mem × Int32)) (hT : TMm w tp) (hl : tp.length ≤ 500) (hb : ∀ b, b ∈ tp → b < 256) : ∀ r fu n, u + r = n → r < fu → n ≤ tp.length → TRs tp a n u → lp_X9_named_47 k N w (nI a) fu (nI n) = k (nI u) := by
  intro r
  induction r with
  | zero =>
    intro fu n hr hf hn h
    obtain ⟨f', rfl⟩ : ∃ g, fu = g + 1 := ⟨fu - 1, by omega⟩
    obtain ⟨h1, h2, h3, h4⟩ := h
    have e : n = u := by omega
    subst e
    by_cases z : n = a
    · rw [lp_X9_named_47, if_pos (of_eq_true (le_tt (by omega) (by omega) (by omega)))]
    · have hp : ¬ tp.getD (n - 1) 0 = 32 := h4.resolve_left z
      have c := hT.2 (n - 1) (by omega)
      have hbb := getD_b hb (n - 1)
      rw [lp_X9_named_47, if_neg (of_eq_false (le_tf (by omega) (by omega) (by omega))), li1, q_sub (by omega), if_pos (inb_t (by omega) (by omega)), cl_t (by omega), c, show (32 : Int32) = nI 32 from rfl, if_neg (of_eq_false (eq_tf (by omega) (by omega) hp))]
  | succ r ih =>
    intro fu n hr hf hn h
    obtain ⟨f', rfl⟩ : ∃ g, fu = g + 1 := ⟨fu - 1, by omega⟩
    obtain ⟨h1, h2, h3, h4⟩ := h
    have hp : tp.getD (n - 1) 0 = 32 := h3 (n - 1) (by omega) (by omega)
    have c := hT.2 (n - 1) (by omega)
    have hi := ih f' (n - 1) (by omega) (by omega) (by omega) ⟨h1, by omega, fun k y1 y2 => h3 k y1 (by omega), h4⟩
    have hlv : lv n = nI (n - 1) := by unfold lv; rw [if_neg (by omega)]
    rw [lp_X9_named_47, if_neg (of_eq_false (le_tf (by omega) (by omega) (by omega))), lm1, li1, q_sub (by omega), if_pos (inb_t (by omega) (by omega)), cl_t (by omega), c, show (32 : Int32) = nI 32 from rfl, if_pos (by rw [hp]), lv_dn, hlv]
    exact hi
/-- the model's loop over the names -/
theorem names_ok {N a u : Nat} {w : Mem} {tp : List Nat} {NL : List (List Nat)} (kk : Option (Mem × Int32)) (hN : 60 < N) (hT : TMm w tp) (hl : tp.length ≤ 500) (hu : u ≤ tp.length) (hau : a ≤ u) (hb : ∀ b, b ∈ tp → b < 256) (hL : NL.length ≤ 24) (h26 : gF w 9 26 0 = nI NL.length) (h44 : ∀ t k, t < NL.length → k < 6 → gA w 44 0 (6 * t + k) = nI ((NL.getD t []).getD k 0)) (hW : ∀ ls, ls ∈ NL → WOK ls) (hal : alen 44 = 288) : (∃ t, t < NL.length ∧ (a < u ∧ u - a ≤ 6 ∧ ∀ k, k < 6 → (NL.getD t []).getD k 0 = ltr tp a u k ∧ (a + k < u → ltr tp a u k ≠ 0)) ∧ (∀ s, s < t → ¬ (a < u ∧ u - a ≤ 6 ∧ ∀ k, k < 6 → (NL.getD s []).getD k 0 = ltr tp a u k ∧ (a + k < u → ltr tp a u k ≠ 0))) ∧ lp_X9_named_74 kk N w (nI a) (nI u) N (nI 0) = some (w, nI t)) ∨ ((∀ s, s < NL.length → ¬ (a < u ∧ u - a ≤ 6 ∧ ∀ k, k < 6 → (NL.getD s []).getD k 0 = ltr tp a u k ∧ (a + k < u → ltr tp a u k ≠ 0))) ∧ lp_X9_named_74 kk N w (nI a) (nI u) N (nI 0) = kk) := by
  have key := lpe (α := Unit) NL.length (fun fu _ q => lp_X9_named_74 kk N w (nI a) (nI u) fu q) (fun o => (∃ t, t < NL.length ∧ (a < u ∧ u - a ≤ 6 ∧ ∀ k, k < 6 → (NL.getD t []).getD k 0 = ltr tp a u k ∧ (a + k < u → ltr tp a u k ≠ 0)) ∧ (∀ s, s < t → ¬ (a < u ∧ u - a ≤ 6 ∧ ∀ k, k < 6 → (NL.getD s []).getD k 0 = ltr tp a u k ∧ (a + k < u → ltr tp a u k ≠ 0))) ∧ o = some (w, nI t)) ∨ ((∀ s, s < NL.length → ¬ (a < u ∧ u - a ≤ 6 ∧ ∀ k, k < 6 → (NL.getD s []).getD k 0 = ltr tp a u k ∧ (a + k < u → ltr tp a u k ≠ 0))) ∧ o = kk)) (fun q _ => ∀ s, s < q → ¬ (a < u ∧ u - a ≤ 6 ∧ ∀ k, k < 6 → (NL.getD s []).getD k 0 = ltr tp a u k ∧ (a + k < u → ltr tp a u k ≠ 0))) ?_ ?_ 0 N () (by omega) (by omega) (fun s hs => absurd hs (Nat.not_lt_zero s))
  · exact key
  · intro fu _ hq
    refine Or.inr ⟨hq, ?_⟩
    show lp_X9_named_74 kk N w (nI a) (nI u) (fu + 1) (nI NL.length) = kk
    rw [lp_X9_named_74, h26]
    by_cases z : u ≤ a
    · rw [if_pos (of_eq_true (le_tt (by omega) (by omega) z))]
    · rw [if_neg (of_eq_false (le_tf (by omega) (by omega) (by omega))), if_pos (of_eq_true (le_tt (by omega) (by omega) (Nat.le_refl _)))]
  · intro fu q _ hq hqs
    by_cases z : u ≤ a
    · refine Or.inl (Or.inr ⟨fun s _ y => by have := y.1; omega, ?_⟩)
      show lp_X9_named_74 kk N w (nI a) (nI u) (fu + 1) (nI q) = kk
      rw [lp_X9_named_74, if_pos (of_eq_true (le_tt (by omega) (by omega) z))]
    · have hwq : WOK (NL.getD q []) := by
        rw [List.getD_eq_getElem?_getD, List.getElem?_eq_getElem hq]
        exact hW _ (List.getElem_mem hq)
      have hat := isAt_ok (N := N) (K := 44) (a := a) (b := u) (p := 6 * q) (w := w) (fun k => (NL.getD q []).getD k 0) hN hT.2 hb hl hu hau (by omega) (by omega) (fun k hk => ⟨h44 q k hq hk, getD_b (fun b hb => by have := hwq.2.2 b hb; omega) k⟩)
      by_cases y : u - a ≤ 6 ∧ ∀ k, k < 6 → (NL.getD q []).getD k 0 = ltr tp a u k ∧ (a + k < u → ltr tp a u k ≠ 0)
      · refine Or.inl (Or.inl ⟨q, hq, ⟨by omega, y⟩, hqs, ?_⟩)
        show lp_X9_named_74 kk N w (nI a) (nI u) (fu + 1) (nI q) = some (w, nI q)
        rw [lp_X9_named_74, h26, if_neg (of_eq_false (le_tf (by omega) (by omega) (by omega))), if_neg (of_eq_false (le_tf (by omega) (by omega) hq)), li6, q_mul, hat, Option.bind_some, b01_t y, if_neg (by decide)]
      · refine Or.inr ⟨(), fun s hs => ?_, ?_⟩
        · by_cases e : s = q
          · rw [e]; exact fun h => y h.2
          · exact hqs s (by omega)
        · show lp_X9_named_74 kk N w (nI a) (nI u) (fu + 1) (nI q) = lp_X9_named_74 kk N w (nI a) (nI u) fu (nI (q + 1))
          rw [lp_X9_named_74, h26, if_neg (of_eq_false (le_tf (by omega) (by omega) (by omega))), if_neg (of_eq_false (le_tf (by omega) (by omega) hq)), li6, q_mul, hat, Option.bind_some, b01_f y, if_pos (show (nI 0 : Int32) = 0 from rfl), li1, q_add]
theorem wn_getD {NL : List (List Nat)} (hW : ∀ ls, ls ∈ NL → WOK ls) (t : Nat) : wn (NL.getD t []) < 387420489 ∧ (NL.length ≤ t → wn (NL.getD t []) = 0) ∧ (t < NL.length → WOK (NL.getD t [])) := by
  by_cases z : t < NL.length
  · have h1 : WOK (NL.getD t []) := by
      rw [List.getD_eq_getElem?_getD, List.getElem?_eq_getElem z]
      exact hW _ (List.getElem_mem z)
    exact ⟨wn_b6 h1.2.1 h1.2.2, fun q => by omega, fun _ => h1⟩
  · have h1 : NL.getD t [] = [] := by rw [List.getD_eq_getElem?_getD, List.getElem?_eq_none (by omega)]; rfl
    rw [h1]
    exact ⟨by show 0 < 387420489; omega, fun _ => rfl, fun q => absurd q z⟩
/-- named: what the class finds, what the model answers -/
theorem named_ok {N f nf : Nat} {tk : Nat → Nat} {R A : List Row} {NL : List (List Nat)} {tp : List Nat} {wx wm : Mem} (hN : 5000 < N) (h : RelC wx wm f nf tk R A NL tp) (hNL : NL.length ≤ (cL (run tk c0 (R ++ A))).length) (hal : alen 44 = 288) (x : Int32) : (∃ n z t, x = nI n ∧ n ≤ tp.length ∧ t < 24 ∧ f_X6_onlyWord N wx x = some z ∧ f_X7_termNamed N wx f z = some (nI t) ∧ f_X9_named N wm x = some (sF wm 9 0 0 0, nI t)) ∨ (((x < 0 ∨ ∃ n, x = nI n ∧ n < 2147483648 ∧ tp.length < n) ∨ ∃ n z, x = nI n ∧ n ≤ tp.length ∧ f_X6_onlyWord N wx x = some z ∧ f_X7_termNamed N wx f z = some n1) ∧ f_X9_named N wm x = some (sF (sF wm 9 0 0 0) 9 0 0 1, 0)) := by
  obtain ⟨hX, hM, hP, hf2⟩ := h
  have hl5 : tp.length ≤ 500 := hP.2.2.2.1
  have hb := hP.2.2.2.2
  have hTX : TX wx tp := hX.2.2.2.2.2.1
  have hTM : TMm wm tp := hM.2.2.2.2.2.2
  have hT0 : TMm (sF wm 9 0 0 (0 : Int32)) tp := ⟨by rw [gF_sF, if_neg (by omega)]; exact hTM.1, fun i hi => by rw [gA_sF]; exact hTM.2 i hi⟩
  have hn24 : (cL (run tk c0 (R ++ A))).length ≤ 24 := hX.2.1.1.1.1
  have x10 : gF wx 7 10 f = nI (cL (run tk c0 (R ++ A))).length := hX.2.1.1.1.2.2.1
  have h34 := hX.2.2.2.2.1
  have h26 : gF (sF wm 9 0 0 (0 : Int32)) 9 26 0 = nI NL.length := by rw [gF_sF, if_neg (by omega)]; exact hM.2.2.2.2.2.1.1
  have h44 : ∀ t k, t < NL.length → k < 6 → gA (sF wm 9 0 0 (0 : Int32)) 44 0 (6 * t + k) = nI ((NL.getD t []).getD k 0) := fun t k ht hk => by rw [gA_sF]; exact hM.2.2.2.2.2.1.2 t k ht hk
  have hW := hP.2.1
  have hin : f_X9_in N (sF wm 9 0 0 (0 : Int32)) x (0 : Int32) (nI tp.length) = some (nI (b01 (isT (tp.length + 1) x))) := in_ok2 (N := N) (w := sF wm 9 0 0 (0 : Int32)) (n := tp.length) (by omega) x
  have hout : ¬ isT (tp.length + 1) x → f_X9_named N wm x = some (sF (sF wm 9 0 0 0) 9 0 0 1, 0) := by
    intro hx
    have hSK : SK (bla tp) 0 0 0 := ⟨by omega, by omega, fun k _ _ => by omega, Or.inl rfl⟩
    rw [f_X9_named, hT0.1, hin, Option.bind_some, b01_f hx, if_pos (show (nI 0 : Int32) = 0 from rfl)]
    have e1 := from_ok (N := N) (n := 0) (fun (u2_3 : Int32) => (lp_X9_named_47 (fun (u3_4 : Int32) => (f_X9_named_71 N (sF wm 9 0 0 (0 : Int32)) u2_3 u3_4)) N (sF wm 9 0 0 (0 : Int32)) u2_3 N (nI 0))) (by omega) hT0 hl5 (by omega) hb hSK
    refine e1.trans ?_
    have e2 := until_ok (N := N) (a := 0) (u := 0) (fun (u3_4 : Int32) => (f_X9_named_71 N (sF wm 9 0 0 (0 : Int32)) (nI 0) u3_4)) hT0 hl5 hb 0 N 0 rfl (by omega) (by omega) ⟨by omega, by omega, fun k _ _ => by omega, Or.inl rfl⟩
    refine e2.trans ?_
    rw [f_X9_named_71]
    rcases names_ok (N := N) (a := 0) (u := 0) (f_X9_named_115 N (sF wm 9 0 0 (0 : Int32))) (by omega) hT0 hl5 (by omega) (by omega) hb (by omega) h26 h44 hW hal with ⟨t, _, y, _⟩ | ⟨_, y⟩
    · have := y.1; omega
    · exact y
  by_cases hx : isT (tp.length + 1) x
  · obtain ⟨n, hn, rfl⟩ := hx
    have hx2 : isT (tp.length + 1) (nI n) := ⟨n, hn, rfl⟩
    obtain ⟨a, h1⟩ := SK_ex (bla tp) (n := n) n 0 (by omega)
    obtain ⟨b, h2⟩ := SK_ex (let_ tp) (n := n) (n - a) a (by have := h1.2.1; omega)
    obtain ⟨e, h3⟩ := SK_ex (bla tp) (n := n) (n - b) b (by have := h2.2.1; omega)
    obtain ⟨u, h4⟩ := TRs_ex tp (a := a) (n - a) n (by have := h1.2.1; omega)
    have ho := onlyWord_ok (N := N) (by omega) hTX hb hl5 (by omega) h1 h2 h3
    have hmo : f_X9_named N wm (nI n) = lp_X9_named_74 (f_X9_named_115 N (sF wm 9 0 0 (0 : Int32))) N (sF wm 9 0 0 (0 : Int32)) (nI a) (nI u) N (nI 0) := by
      rw [f_X9_named, hT0.1, hin, Option.bind_some, b01_t hx2, if_neg (show ¬ ((nI 1 : Int32) = 0) by decide)]
      have e1 := from_ok (N := N) (n := n) (fun (u2_17 : Int32) => (lp_X9_named_47 (fun (u3_18 : Int32) => (f_X9_named_71 N (sF wm 9 0 0 (0 : Int32)) u2_17 u3_18)) N (sF wm 9 0 0 (0 : Int32)) u2_17 N (nI n))) (by omega) hT0 hl5 (by omega) hb h1
      refine e1.trans ?_
      exact until_ok (N := N) (a := a) (u := u) (fun (u3_4 : Int32) => (f_X9_named_71 N (sF wm 9 0 0 (0 : Int32)) (nI a) u3_4)) hT0 hl5 hb (n - u) N n (by have := h4.2.1; omega) (by omega) (by omega) h4
    have hu := h4.2.1
    have hau := h4.1
    have hwb : (if e = n ∧ b - a ≤ 6 then wn (cut tp a b) else 0) < 2147483648 ∨ True := Or.inr trivial
    have hiff : ∀ s, s < NL.length → _ := fun s hs => word_iff (n := n) (by omega) ((wn_getD hW s).2.2 hs) h1 h2 h3 h4
    generalize hv : (if e = n ∧ b - a ≤ 6 then wn (cut tp a b) else 0) = v at *
    have hvb : v < 2147483648 := by
      rw [← hv]
      split
      · rename_i z
        have hcl : LET (cut tp a b) := fun c hc => by
          obtain ⟨i, hi, rfl⟩ := List.getElem_of_mem hc
          rw [cut_len (by have := h2.2.1; omega)] at hi
          have g := cut_getD (tp := tp) (a := a) (b := b) (i := i) (by omega)
          rw [List.getD_eq_getElem?_getD, List.getElem?_eq_getElem (by rw [cut_len (by have := h2.2.1; omega)]; exact hi)] at g
          have g2 : (cut tp a b)[i]'(by rw [cut_len (by have := h2.2.1; omega)]; exact hi) = tp.getD (a + i) 0 := g
          rw [g2]
          exact h2.2.2.1 (a + i) (by omega) (by omega)
        have := wn_b6 (by rw [cut_len (by have := h2.2.1; omega)]; exact z.2) hcl
        omega
      · omega
    have hT := termNamed_ok (N := N) (f := f) (v := v) (fun t => wn (NL.getD t [])) (by omega) hn24 x10 h34 (fun t _ => by have := (wn_getD hW t).1; omega) hvb
    rcases names_ok (N := N) (a := a) (u := u) (f_X9_named_115 N (sF wm 9 0 0 (0 : Int32))) (by omega) hT0 hl5 (by omega) hau hb (by omega) h26 h44 hW hal with ⟨t, t1, t2, t3, t4⟩ | ⟨t3, t4⟩
    · have ht := (hiff t t1).mpr t2
      rcases hT with ⟨s, s1, s2, s3, s4, s5⟩ | ⟨s1, s2⟩
      · have est : s = t := by
          rcases Nat.lt_trichotomy s t with y | y | y
          · exact absurd ((hiff s (by omega)).mp ⟨s2, s3⟩) (t3 s y)
          · exact y
          · exact absurd ht.2 (s4 t y)
        refine Or.inl ⟨n, _, t, rfl, by omega, by omega, ho, by rw [← est]; exact s5, hmo.trans t4⟩
      · rcases s1 with s1 | s1
        · have := ht.1; omega
        · exact absurd ht.2 (s1 t (by omega))
    · rcases hT with ⟨s, s1, s2, s3, s4, s5⟩ | ⟨s1, s2⟩
      · by_cases y : s < NL.length
        · exact absurd ((hiff s y).mp ⟨s2, s3⟩) (t3 s y)
        · have := (wn_getD hW s).2.1 (by omega)
          have s3' : wn (NL.getD s []) = v := s3
          omega
      · exact Or.inr ⟨Or.inr ⟨n, _, rfl, by omega, ho, s2⟩, hmo.trans t4⟩
  · refine Or.inr ⟨Or.inl ?_, hout hx⟩
    rcases i_cases x with y | ⟨n, hn, rfl⟩
    · exact Or.inl y
    · exact Or.inr ⟨n, rfl, hn, Nat.lt_of_not_le (fun q => hx ⟨n, by omega, rfl⟩)⟩
