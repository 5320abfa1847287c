/-! text: one row, one function more -/
theorem RPr.push {g n : Nat} {tp : List Nat} {FL : List (List Nat)} {tg : List Nat} {NL NL' : List (List Nat)} {rs : List Row} {r : Row} (h : RPr g n tp FL tg NL rs) (hok : ∀ tk, AG tk tg → okR tk FL.length (run tk c0 rs) r) (hNL : ∀ tk, AG tk tg → NL'.length = (cL (stp tk (run tk c0 rs) r)).length) (hW : ∀ ls, ls ∈ NL' → WOK ls) (hr : ∀ x, r = .inl x → x.2.length ≤ 3) : RPr g n tp FL tg NL' (rs ++ [r]) := by
  obtain ⟨h1, h2, ⟨h3, h4, h5⟩, h6⟩ := h
  refine ⟨h1, h2, ⟨h3, hW, fun x hx => ?_⟩, fun tk ht => ⟨okRs_snoc.mpr ⟨(h6 tk ht).1, hok tk ht⟩, by rw [run_snoc]; exact hNL tk ht⟩⟩
  rcases List.mem_append.mp hx with y | y
  · exact h5 x y
  · exact hr x (List.mem_singleton.mp y).symm
theorem RXt.core {w v : Mem} {g n : Nat} {tp : List Nat} {FL : List (List Nat)} {tg : List Nat} {NL NL' : List (List Nat)} {rs rs' : List Row} (h : RXt w g n tp FL tg NL rs) (hf : FrX g w v) (h34 : ∀ t, t < NL'.length → gA v 34 g t = nI (wn (NL'.getD t []))) (hK : ∀ tk, AG tk tg → XK v g tk (run tk c0 rs')) : RXt v g n tp FL tg NL' rs' := by
  obtain ⟨⟨⟨a1, a2⟩, b, c, d⟩, ⟨e1, e2⟩, k1, k2, k3⟩ := h
  exact ⟨⟨⟨(hf.1 _ _ _ (by omega)).trans a1, fun i hi => by rw [hf.2.1 30 0 (by omega)]; exact a2 i hi⟩, (hf.1 _ _ _ (by omega)).trans b, (hf.2.2.2 _ _ _).trans c, (hf.1 _ _ _ (by omega)).trans d⟩, ⟨(hf.1 _ _ _ (by omega)).trans e1, fun i hi => by rw [hf.2.1 32 g (by omega), hf.2.1 31 g (by omega)]; exact e2 i hi⟩, h34, (hf.1 _ _ _ (by omega)).trans k2, hK⟩
theorem RXt.fn {w : Mem} {g n : Nat} {tp : List Nat} {FL : List (List Nat)} {tg : List Nat} {NL : List (List Nat)} {rs : List Row} (h : RXt w g n tp FL tg NL rs) (hP : RPr g n tp FL tg NL rs) {tk : Nat → Nat} (ht : AG tk tg) : FN w g FL.length tk :=
  ⟨hP.2.1.1, h.2.1.1, fun i hi => ⟨by rw [ht i (by rw [hP.2.1.2.1]; exact hi)]; exact hP.2.1.2.2 i, by rw [ht i (by rw [hP.2.1.2.1]; exact hi)]; exact (h.2.1.2 i hi).2⟩⟩
theorem RXt.same {N g n t u : Nat} {w : Mem} {tp : List Nat} {FL : List (List Nat)} {tg : List Nat} {NL : List (List Nat)} {rs : List Row} (hN : 276 < N) (h : RXt w g n tp FL tg NL rs) (hP : RPr g n tp FL tg NL rs) (hok : ∀ tk, AG tk tg → okR tk FL.length (run tk c0 rs) (.inr (true, t, u))) : ∃ v, f_X1_comeSame N w g (nI t) (nI u) = some v ∧ RXt v g n tp FL tg NL (rs ++ [.inr (true, t, u)]) ∧ FrX g w v := by
  obtain ⟨v, a1, a2, a3, a4⟩ := comeSame_ok hN (h.2.2.2.2 _ (AG.z tg)) (hP.n24 _ (AG.z tg)) (hok _ (AG.z tg))
  refine ⟨v, a1, h.core a4 (fun t ht => by rw [a3]; exact h.2.2.1 t ht) (fun tk ht => ?_), a4⟩
  obtain ⟨v', b1, b2, -, -⟩ := comeSame_ok hN (h.2.2.2.2 _ ht) (hP.n24 _ ht) (hok _ ht)
  rw [run_snoc, Option.some.inj (a1.symm.trans b1)]; exact b2
theorem RXt.diff {N g n t u : Nat} {w : Mem} {tp : List Nat} {FL : List (List Nat)} {tg : List Nat} {NL : List (List Nat)} {rs : List Row} (h : RXt w g n tp FL tg NL rs) (hok : ∀ tk, AG tk tg → okR tk FL.length (run tk c0 rs) (.inr (false, t, u))) : ∃ v, f_X1_comeDiff N w g (nI t) (nI u) = some v ∧ RXt v g n tp FL tg NL (rs ++ [.inr (false, t, u)]) ∧ FrX g w v := by
  obtain ⟨v, a1, a2, a3, a4⟩ := comeDiff_ok (N := N) (h.2.2.2.2 _ (AG.z tg)) (hok _ (AG.z tg))
  refine ⟨v, a1, h.core a4 (fun t ht => by rw [a3]; exact h.2.2.1 t ht) (fun tk ht => ?_), a4⟩
  obtain ⟨v', b1, b2, -, -⟩ := comeDiff_ok (N := N) (h.2.2.2.2 _ ht) (hok _ ht)
  rw [run_snoc, Option.some.inj (a1.symm.trans b1)]; exact b2
theorem getD_snoc {α : Type} (L : List α) (x d : α) (t : Nat) : (L ++ [x]).getD t d = if t = L.length then x else L.getD t d := by
  rw [List.getD_eq_getElem?_getD]
  by_cases e : t = L.length
  · rw [if_pos e, e, List.getElem?_append_right (Nat.le_refl _), Nat.sub_self]; rfl
  · rw [if_neg e]
    by_cases z : t < L.length
    · rw [List.getElem?_append_left z, List.getD_eq_getElem?_getD]
    · rw [List.getElem?_eq_none (by rw [List.length_append]; show L.length + 1 ≤ t; omega), List.getD_eq_getElem?_getD, List.getElem?_eq_none (by omega)]
theorem RXt.term {N g n fn : Nat} {w : Mem} {tp : List Nat} {FL : List (List Nat)} {tg : List Nat} {NL : List (List Nat)} {rs : List Row} {ls ps : List Nat} {a b d : Int32} (hN : 276 < N) (h : RXt w g n tp FL tg NL rs) (hP : RPr g n tp FL tg NL rs) (hok : ∀ tk, AG tk tg → okR tk FL.length (run tk c0 rs) (.inl (fn, ps))) (har : ∀ k, k < ps.length → ar3 a b d k = nI (ps.getD k 0)) : ∃ v, f_X1_comeTerm N w g (nI (wn ls)) (nI fn) a b d = some v ∧ RXt v g n tp FL tg (NL ++ [ls]) (rs ++ [.inl (fn, ps)]) ∧ FrX g w v := by
  have hln := (hP.2.2.2 _ (AG.z tg)).2
  obtain ⟨v, a1, a2, a3, a4, a5⟩ := comeTerm_ok (nm := nI (wn ls)) hN (h.2.2.2.2 _ (AG.z tg)) (h.fn hP (AG.z tg)) (hP.n24 _ (AG.z tg)) (hok _ (AG.z tg)) har
  refine ⟨v, a1, h.core a5 (fun t ht => ?_) (fun tk ht => ?_), a5⟩
  · rw [getD_snoc]
    by_cases e : t = NL.length
    · rw [if_pos e, e, hln]; exact a3
    · rw [if_neg e, a4 t (by rw [← hln]; exact e)]
      exact h.2.2.1 t (by rw [List.length_append] at ht; have : ([ls] : List (List Nat)).length = 1 := rfl; omega)
  · obtain ⟨v', b1, b2, -, -, -⟩ := comeTerm_ok (nm := nI (wn ls)) hN (h.2.2.2.2 _ ht) (h.fn hP ht) (hP.n24 _ ht) (hok _ ht) har
    rw [run_snoc, Option.some.inj (a1.symm.trans b1)]; exact b2
/-! a function -/
theorem XK.fun {w v : Mem} {f : Nat} {tk : Nat → Nat} {c : Core} (h : XK w f tk c) (hF : Fr (fun k j i => k = 7 ∧ j = 9 ∧ i = f) (fun k i => (k = 31 ∨ k = 32) ∧ i = f) w v) (h31 : ∀ t, t < (cL c).length → gA v 31 f (tlF (cL c) t) = gA w 31 f (tlF (cL c) t)) : XK v f tk c := by
  obtain ⟨⟨⟨t1, t2, t3, t4, t5, t6, t7, t8⟩, x2, x3⟩, x4, x5, x6⟩ := h
  refine ⟨⟨⟨t1, t2, (hF.1 _ _ _ (by omega)).trans t3, fun t ht => ?_, fun t k ht hk => by rw [hF.2.1 36 f (by omega)]; exact t5 t k ht hk, t6, (hF.1 _ _ _ (by omega)).trans t7, fun p i j hp => by rw [hF.2.1 38 f (by omega), hF.2.1 39 f (by omega)]; exact t8 p i j hp⟩, x2.of (hF.1 _ _ _ (by omega)) (hF.1 _ _ _ (by omega)) (hF.2.1 _ _ (by omega)), x3.fr hF (fun k j i z => by omega) (fun k i z => by omega)⟩, x4.fr hF (fun k j i z => by omega) (fun k i z => by omega), x5.fr hF (fun k j i z => by omega) (fun k i z => by omega), x6.fr (hF.2.1 _ _ (by omega))⟩
  obtain ⟨s1, s2, s3, s4⟩ := t4 t ht
  exact ⟨s1, s2, by rw [hF.2.1 33 f (by omega)]; exact s3, (h31 t ht).trans s4⟩
theorem okRs_nf {tk : Nat → Nat} {nf : Nat} : ∀ {rs : List Row} {c : Core}, okRs tk nf c rs → okRs tk (nf + 1) c rs
  | [], _, _ => trivial
  | r :: rs, c, ⟨h1, h2⟩ => ⟨by
    cases r with
    | inl x => exact ⟨Nat.lt_succ_of_lt h1.1, h1.2⟩
    | inr y =>
      obtain ⟨bb, a, b⟩ := y
      cases bb <;> exact h1, okRs_nf h2⟩
theorem AG.snoc {tk : Nat → Nat} {tg : List Nat} {d : Nat} (h : AG tk (tg ++ [d])) : AG tk tg ∧ tk tg.length = d := by
  refine ⟨fun i hi => ?_, ?_⟩
  · have := h i (by rw [List.length_append]; omega)
    rw [getD_snoc, if_neg (by omega)] at this; exact this
  · have := h tg.length (by rw [List.length_append]; show _ < _ + 1; omega)
    rw [getD_snoc, if_pos rfl] at this; exact this
theorem RPr.fun {g n d : Nat} {tp : List Nat} {FL : List (List Nat)} {tg : List Nat} {NL : List (List Nat)} {rs : List Row} {ls : List Nat} (h : RPr g n tp FL tg NL rs) (hls : WOK ls) (hd : d ≤ 3) (hl : FL.length < 8) : RPr g n tp (FL ++ [ls]) (tg ++ [d]) NL rs := by
  obtain ⟨h1, ⟨h2, h3, h4⟩, ⟨h5, h6, h7⟩, h8⟩ := h
  have e1 : (FL ++ [ls]).length = FL.length + 1 := by rw [List.length_append]; rfl
  refine ⟨h1, ⟨by rw [e1]; omega, by rw [e1, List.length_append, h3]; rfl, fun i => ?_⟩, ⟨fun l hl => ?_, h6, h7⟩, fun tk ht => ?_⟩
  · rw [getD_snoc]; split
    · exact hd
    · exact h4 i
  · rcases List.mem_append.mp hl with y | y
    · exact h5 l y
    · rw [List.mem_singleton.mp y]; exact hls
  · rw [e1]
    exact ⟨okRs_nf (h8 tk ht.snoc.1).1, (h8 tk ht.snoc.1).2⟩
theorem RXt.fun {N g n d : Nat} {w : Mem} {tp : List Nat} {FL : List (List Nat)} {tg : List Nat} {NL : List (List Nat)} {rs : List Row} {ls : List Nat} (h : RXt w g n tp FL tg NL rs) (hP : RPr g n tp FL tg NL rs) (hl : FL.length < 8) : ∃ v, f_X7_addFunction N w g (nI (wn ls)) (nI d) = some v ∧ RXt v g n tp (FL ++ [ls]) (tg ++ [d]) NL rs ∧ Fr (fun k j i => k = 7 ∧ j = 9 ∧ i = g) (fun k i => (k = 31 ∨ k = 32) ∧ i = g) w v := by
  have h9 := h.2.1.1
  have e1 : (FL ++ [ls]).length = FL.length + 1 := by rw [List.length_append]; rfl
  let v : Mem := sF (sA (sA w 32 g FL.length (nI (wn ls))) 31 g FL.length (nI d)) 7 9 g (nI (FL.length + 1))
  have hF : Fr (fun k j i => k = 7 ∧ j = 9 ∧ i = g) (fun k i => (k = 31 ∨ k = 32) ∧ i = g) w v := ⟨fun k j i z => by show gF (sF _ _ _ _ _) _ _ _ = _; rw [gF_sF, if_neg z]; rfl, fun k i z => by show gA (sF _ _ _ _ _) _ _ = _; rw [gA_sF, gA_sA_ne (fun y => z ⟨Or.inl y.1, y.2⟩), gA_sA_ne (fun y => z ⟨Or.inr y.1, y.2⟩)], fun _ _ => rfl, fun _ _ _ => rfl⟩
  have g31 : ∀ x, gA v 31 g x = if x = FL.length then nI d else gA w 31 g x := fun x => by
    show gA (sF (sA (sA w 32 g FL.length (nI (wn ls))) 31 g FL.length (nI d)) 7 9 g (nI (FL.length + 1))) 31 g x = _
    rw [gA_sF, gA_sA]
    by_cases e : x = FL.length
    · rw [if_pos ⟨rfl, rfl, e⟩, if_pos e]
    · rw [if_neg (fun z => e z.2.2), if_neg e, gA_sA, if_neg (by omega)]
  have g32 : ∀ x, gA v 32 g x = if x = FL.length then nI (wn ls) else gA w 32 g x := fun x => by
    show gA (sF (sA (sA w 32 g FL.length (nI (wn ls))) 31 g FL.length (nI d)) 7 9 g (nI (FL.length + 1))) 32 g x = _
    rw [gA_sF, gA_sA, if_neg (by omega), gA_sA]
    by_cases e : x = FL.length
    · rw [if_pos ⟨rfl, rfl, e⟩, if_pos e]
    · rw [if_neg (fun z => e z.2.2), if_neg e]
  refine ⟨v, ?_, ?_, hF⟩
  · rw [f_X7_addFunction]
    simp (disch := omega) only [↓lm1, ↓lm2, eq_n1, eq_n2, n1_eq, n2_eq, n1_n2, n2_n1, n1_lt, n2_lt, n1_le, lt_n1, lt_n2, inb_t, cl_t, le_tt, le_tf, lt_tt, lt_tf, eq_tt, eq_tf, q_add, q_mul, li0, li1, li2, li3, li4, li5, li6, li7, li8, li12, li16, li24, li48, li500, gF_sA, gA_sF, gF_sF, gR_sA, gR_sF, gL_sA, gL_sF, gA_sA, shl_t, or_t, and_t, sbit_t, ubit_t, b01_0, b01_1, Option.bind_some, ↓reduceIte, eq_self, ne_eq, not_true_eq_false, Bool.false_eq_true, not_false_eq_true, true_and, and_true, false_and, and_false, if_pos, if_neg, h9]
    rfl
  · obtain ⟨⟨⟨a1, a2⟩, b, c, d'⟩, ⟨k1, k2⟩, k3, k4, k5⟩ := h
    refine ⟨⟨⟨(hF.1 _ _ _ (by omega)).trans a1, fun i hi => by rw [hF.2.1 30 0 (by omega)]; exact a2 i hi⟩, (hF.1 _ _ _ (by omega)).trans b, (hF.2.2.2 _ _ _).trans c, (hF.1 _ _ _ (by omega)).trans d'⟩, ⟨?_, fun i hi => ?_⟩, fun t ht => by rw [hF.2.1 34 g (by omega)]; exact k3 t ht, (hF.1 _ _ _ (by omega)).trans k4, fun tk ht => ?_⟩
    · show gF (sF _ _ _ _ _) _ _ _ = _
      rw [gF_sF, if_pos ⟨rfl, rfl, rfl⟩, e1]
    · rw [e1] at hi
      rw [g31, g32, getD_snoc, getD_snoc, hP.2.1.2.1]
      by_cases e : i = FL.length
      · rw [if_pos e, if_pos e, if_pos e, if_pos e]; exact ⟨rfl, rfl⟩
      · rw [if_neg e, if_neg e, if_neg e, if_neg e]; exact k2 i (by omega)
    · refine (k5 tk ht.snoc.1).fun hF (fun t htl => ?_)
      have := ((hP.n24 tk ht.snoc.1).2.2.2.2.1 t htl).1
      rw [g31, if_neg (by omega)]
