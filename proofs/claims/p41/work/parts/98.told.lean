/-! text: what is told so far -/
def AG (tk : Nat → Nat) (tg : List Nat) : Prop := ∀ i, i < tg.length → tk i = tg.getD i 0
def RXt (w : Mem) (g n : Nat) (tp : List Nat) (FL : List (List Nat)) (tg : List Nat) (NL : List (List Nat)) (rs : List Row) : Prop :=
  (TX w tp ∧ gF w 5 1 0 = nI n ∧ gR w 5 2 0 = g ∧ gF w 5 4 0 = nI 0) ∧ (gF w 7 9 g = nI FL.length ∧ ∀ i, i < FL.length → gA w 32 g i = nI (wn (FL.getD i [])) ∧ gA w 31 g i = nI (tg.getD i 0)) ∧ (∀ t, t < NL.length → gA w 34 g t = nI (wn (NL.getD t []))) ∧ gF w 1 11 g = nI 0 ∧ ∀ tk, AG tk tg → XK w g tk (run tk c0 rs)
def RPr (g n : Nat) (tp : List Nat) (FL : List (List Nat)) (tg : List Nat) (NL : List (List Nat)) (rs : List Row) : Prop :=
  (g < 2 ∧ n ≤ tp.length ∧ tp.length ≤ 500 ∧ ∀ b, b ∈ tp → b < 256) ∧ (FL.length ≤ 8 ∧ tg.length = FL.length ∧ ∀ i, tg.getD i 0 ≤ 3) ∧ ((∀ ls, ls ∈ FL → WOK ls) ∧ (∀ ls, ls ∈ NL → WOK ls) ∧ ∀ x, .inl x ∈ rs → x.2.length ≤ 3) ∧ ∀ tk, AG tk tg → okRs tk FL.length c0 rs ∧ NL.length = (cL (run tk c0 rs)).length
/-- both stand at one token -/
def TK (wx wm : Mem) (tp : List Nat) (n p q : Nat) (K : Kd) : Prop := TkX wx K ∧ TkM wm K ∧ (gF wx 5 5 0 = nI p ∧ gF wm 9 14 0 = nI p) ∧ (K ≠ .bad → gF wx 5 8 0 = nI q ∧ gF wm 9 15 0 = nI q) ∧ KO tp n p q K ∧ p ≤ n
theorem RXt.fr {w v : Mem} {g n : Nat} {tp : List Nat} {FL : List (List Nat)} {tg : List Nat} {NL : List (List Nat)} {rs : List Row} {P : Nat → Nat → Nat → Prop} {Q : Nat → Nat → Prop} (h : RXt w g n tp FL tg NL rs) (hf : Fr P Q w v) (hP : ∀ k j i, P k j i → k = 5 ∧ 5 ≤ j) (hQ : ∀ k i, Q k i → k = 29) : RXt v g n tp FL tg NL rs := by
  obtain ⟨⟨⟨a1, a2⟩, b, c, d⟩, ⟨e1, e2⟩, k1, k2, k3⟩ := h
  refine ⟨⟨⟨(hf.1 _ _ _ (fun z => by have := hP _ _ _ z; omega)).trans a1, fun i hi => by rw [hf.2.1 30 0 (fun z => by have := hQ _ _ z; omega)]; exact a2 i hi⟩, (hf.1 _ _ _ (fun z => by have := hP _ _ _ z; omega)).trans b, (hf.2.2.2 _ _ _).trans c, (hf.1 _ _ _ (fun z => by have := hP _ _ _ z; omega)).trans d⟩, ⟨(hf.1 _ _ _ (fun z => by have := hP _ _ _ z; omega)).trans e1, fun i hi => by rw [hf.2.1 32 g (fun z => by have := hQ _ _ z; omega), hf.2.1 31 g (fun z => by have := hQ _ _ z; omega)]; exact e2 i hi⟩, fun t ht => by rw [hf.2.1 34 g (fun z => by have := hQ _ _ z; omega)]; exact k1 t ht, (hf.1 _ _ _ (fun z => by have := hP _ _ _ z; omega)).trans k2, fun tk ht => (k3 tk ht).fr hf (fun k j i z => by have := hP _ _ _ z; omega) (fun k i z => by have := hQ _ _ z; omega)⟩
/-- what the model may change while it reads, with so many functions, terms and rows told -/
def FrQ (nF nT nR : Nat) (w v : Mem) : Prop := (∀ j, j = 13 ∨ (20 ≤ j ∧ j ≤ 24) → gF v 9 j 0 = gF w 9 j 0) ∧ gA v 40 0 = gA w 40 0 ∧ (∀ x, x < 6 * nF → gA v 45 0 x = gA w 45 0 x) ∧ (∀ x, x < 8 + nF → gA v 41 0 x = gA w 41 0 x) ∧ (∀ x, x < 6 * (24 + nT) → gA v 44 0 x = gA w 44 0 x) ∧ (∀ x, x < 48 + nR → gA v 42 0 x = gA w 42 0 x) ∧ ∀ x, x < 4 * (48 + nR) → gA v 43 0 x = gA w 43 0 x
theorem FrQ.rf {a b c : Nat} {w : Mem} : FrQ a b c w w := ⟨fun _ _ => rfl, rfl, fun _ _ => rfl, fun _ _ => rfl, fun _ _ => rfl, fun _ _ => rfl, fun _ _ => rfl⟩
theorem FrQ.tr {a b c : Nat} {w v u : Mem} (h : FrQ a b c w v) (k : FrQ a b c v u) : FrQ a b c w u := ⟨fun j z => (k.1 j z).trans (h.1 j z), k.2.1.trans h.2.1, fun x z => (k.2.2.1 x z).trans (h.2.2.1 x z), fun x z => (k.2.2.2.1 x z).trans (h.2.2.2.1 x z), fun x z => (k.2.2.2.2.1 x z).trans (h.2.2.2.2.1 x z), fun x z => (k.2.2.2.2.2.1 x z).trans (h.2.2.2.2.2.1 x z), fun x z => (k.2.2.2.2.2.2 x z).trans (h.2.2.2.2.2.2 x z)⟩
theorem FrQ.A {a b c : Nat} {w : Mem} {k x : Nat} {y : Int32} (h : (k = 45 ∧ 6 * a ≤ x) ∨ (k = 41 ∧ 8 + a ≤ x) ∨ (k = 44 ∧ 6 * (24 + b) ≤ x) ∨ (k = 42 ∧ 48 + c ≤ x) ∨ (k = 43 ∧ 4 * (48 + c) ≤ x)) : FrQ a b c w (sA w k 0 x y) := by
  refine ⟨fun _ _ => rfl, ?_, fun z hz => ?_, fun z hz => ?_, fun z hz => ?_, fun z hz => ?_, fun z hz => ?_⟩
  · funext z; rw [gA_sA, if_neg (by omega)]
  all_goals rw [gA_sA, if_neg (by omega)]
theorem FrQ.F {a b c : Nat} {w : Mem} {j : Nat} {y : Int32} (h : ¬ (j = 13 ∨ (20 ≤ j ∧ j ≤ 24))) : FrQ a b c w (sF w 9 j 0 y) := ⟨fun i z => by rw [gF_sF, if_neg (by omega)], rfl, fun _ _ => rfl, fun _ _ => rfl, fun _ _ => rfl, fun _ _ => rfl, fun _ _ => rfl⟩
theorem Fr9.q {a b c : Nat} {w v : Mem} (h : Fr9 w v) : FrQ a b c w v := ⟨fun j z => h.1 _ _ _ (by omega), h.2.1 _ _ (fun z => z), fun x _ => by rw [h.2.1 _ _ (fun z => z)], fun x _ => by rw [h.2.1 _ _ (fun z => z)], fun x _ => by rw [h.2.1 _ _ (fun z => z)], fun x _ => by rw [h.2.1 _ _ (fun z => z)], fun x _ => by rw [h.2.1 _ _ (fun z => z)]⟩
theorem TK.mem {wx wm vx vm : Mem} {n p q : Nat} {tp : List Nat} {K : Kd} (h : TK wx wm tp n p q K) (hx : ∀ j, 5 ≤ j → j ≤ 8 → gF vx 5 j 0 = gF wx 5 j 0) (hm : ∀ j, 14 ≤ j → j ≤ 17 → gF vm 9 j 0 = gF wm 9 j 0) : TK vx vm tp n p q K := by
  obtain ⟨h4, h5, h6, h7, h8⟩ := h
  refine ⟨?_, ?_, ⟨(hx _ (by omega) (by omega)).trans h6.1, (hm _ (by omega) (by omega)).trans h6.2⟩, fun z => ⟨(hx _ (by omega) (by omega)).trans (h7 z).1, (hm _ (by omega) (by omega)).trans (h7 z).2⟩, h8⟩
  · have e6 := hx 6 (by omega) (by omega)
    have e7 := hx 7 (by omega) (by omega)
    rcases K.cs with rfl | ⟨ls, rfl⟩ | ⟨d, rfl⟩ | ⟨c, rfl⟩ | rfl
    · exact e6.trans h4
    · exact ⟨e6.trans h4.1, e7.trans h4.2⟩
    · exact ⟨e6.trans h4.1, e7.trans h4.2⟩
    · exact ⟨e6.trans h4.1, e7.trans h4.2⟩
    · exact e6.trans h4
  · have e6 := hm 16 (by omega) (by omega)
    have e7 := hm 17 (by omega) (by omega)
    rcases K.cs with rfl | ⟨ls, rfl⟩ | ⟨d, rfl⟩ | ⟨c, rfl⟩ | rfl
    · exact e6.trans h5
    · exact e6.trans h5
    · exact ⟨e6.trans h5.1, e7.trans h5.2⟩
    · exact e6.trans h5
    · exact e6.trans h5
/-! names told -/
def lkp (L : List (List Nat)) (ls : List Nat) (t : Nat) : Prop := t < L.length ∧ L.getD t [] = ls ∧ ∀ s, s < t → L.getD s [] ≠ ls
def lkn (L : List (List Nat)) (ls : List Nat) : Prop := ∀ s, s < L.length → L.getD s [] ≠ ls
theorem lk_ex (L : List (List Nat)) (ls : List Nat) : (∃ t, lkp L ls t) ∨ lkn L ls := by
  by_cases h : lkn L ls
  · exact Or.inr h
  · refine Or.inl ?_
    obtain ⟨t, ht⟩ := Classical.not_forall.mp h
    obtain ⟨ht1, ht2⟩ := Classical.not_imp.mp ht
    have ht3 := Classical.not_not.mp ht2
    have := lsF_spec (fun s => decide (L.getD s [] = ls)) t 0 ⟨t, by omega, by omega, decide_eq_true ht3⟩
    obtain ⟨s1, s2, s3, s4⟩ := this
    exact ⟨_, by omega, of_decide_eq_true s1, fun s hs => of_decide_eq_false (s4 s (by omega) hs)⟩
theorem getD_WOK {L : List (List Nat)} (h : ∀ ls, ls ∈ L → WOK ls) {t : Nat} (ht : t < L.length) : WOK (L.getD t []) := (wn_getD h t).2.2 ht
theorem wn_iff {a b : List Nat} (ha : WOK a) (hb : WOK b) : wn a = wn b ↔ a = b := ⟨fun h => wn_inj _ a b (Nat.le_refl _) ha.2.2 hb.2.2 h, fun h => by rw [h]⟩
theorem wn_lt6 {a : List Nat} (ha : WOK a) : wn a < 387420489 ∧ 0 < wn a := ⟨wn_b6 ha.2.1 ha.2.2, wn_pos ha.2.2 (fun z => by have := ha.1; rw [z] at this; exact absurd this (by decide))⟩
theorem functionNamed_ok {N g : Nat} {w : Mem} {FL : List (List Nat)} {ls : List Nat} (hN : 200 < N) (hn : FL.length ≤ 8) (h9 : gF w 7 9 g = nI FL.length) (h32 : ∀ i, i < FL.length → gA w 32 g i = nI (wn (FL.getD i []))) (hW : ∀ ls, ls ∈ FL → WOK ls) (hls : WOK ls) : (∀ t, lkp FL ls t → f_X7_functionNamed N w g (nI (wn ls)) = some (nI t)) ∧ (lkn FL ls → f_X7_functionNamed N w g (nI (wn ls)) = some n1) := by
  have key := lpe (α := Unit) FL.length (fun fu _ q => lp_X7_functionNamed_2 (f_X7_functionNamed_28 N w g) N w g (nI (wn ls)) fu q) (fun o => (∃ t, lkp FL ls t ∧ o = some (nI t)) ∨ (lkn FL ls ∧ o = some n1)) (fun q _ => ∀ s, s < q → FL.getD s [] ≠ ls) ?_ ?_ 0 N () (by omega) (by omega) (fun s hs => absurd hs (Nat.not_lt_zero s))
  · have key' : (∃ t, lkp FL ls t ∧ f_X7_functionNamed N w g (nI (wn ls)) = some (nI t)) ∨ (lkn FL ls ∧ f_X7_functionNamed N w g (nI (wn ls)) = some n1) := key
    refine ⟨fun t ht => ?_, fun hn => ?_⟩
    · rcases key' with ⟨s, hs, e⟩ | ⟨hs, e⟩
      · have : s = t := by
          rcases Nat.lt_trichotomy s t with y | y | y
          · exact absurd hs.2.1 (ht.2.2 s y)
          · exact y
          · exact absurd ht.2.1 (hs.2.2 t y)
        rw [← this]; exact e
      · exact absurd ht.2.1 (hs t ht.1)
    · rcases key' with ⟨s, hs, e⟩ | ⟨hs, e⟩
      · exact absurd hs.2.1 (hn s hs.1)
      · exact e
  · intro fu _ hq
    refine Or.inr ⟨hq, ?_⟩
    show lp_X7_functionNamed_2 (f_X7_functionNamed_28 N w g) N w g (nI (wn ls)) (fu + 1) (nI FL.length) = some n1
    rw [lp_X7_functionNamed_2, h9, if_pos (of_eq_true (le_tt (by omega) (by omega) (Nat.le_refl _))), f_X7_functionNamed_28]; rfl
  · intro fu q _ hq hqs
    have c := h32 q hq
    have b1 := (wn_lt6 (getD_WOK hW hq)).1
    have b2 := (wn_lt6 hls).1
    by_cases y : FL.getD q [] = ls
    · refine Or.inl (Or.inl ⟨q, ⟨hq, y, hqs⟩, ?_⟩)
      show lp_X7_functionNamed_2 (f_X7_functionNamed_28 N w g) N w g (nI (wn ls)) (fu + 1) (nI q) = some (nI q)
      rw [lp_X7_functionNamed_2, h9, if_neg (of_eq_false (le_tf (by omega) (by omega) hq)), if_pos (inb_t (by omega) (by omega)), cl_t (by omega), c, if_pos (by rw [y])]
    · refine Or.inr ⟨(), fun s hs => ?_, ?_⟩
      · by_cases e : s = q
        · rw [e]; exact y
        · exact hqs s (by omega)
      · show lp_X7_functionNamed_2 (f_X7_functionNamed_28 N w g) N w g (nI (wn ls)) (fu + 1) (nI q) = lp_X7_functionNamed_2 (f_X7_functionNamed_28 N w g) N w g (nI (wn ls)) fu (nI (q + 1))
        rw [lp_X7_functionNamed_2, h9, if_neg (of_eq_false (le_tf (by omega) (by omega) hq)), if_pos (inb_t (by omega) (by omega)), cl_t (by omega), c, if_neg (of_eq_false (eq_tf (by omega) (by omega) (fun z => y ((wn_iff (getD_WOK hW hq) hls).mp z)))), li1, q_add]
theorem termNamed_ok2 {N g : Nat} {w : Mem} {NL : List (List Nat)} {ls : List Nat} (hN : 200 < N) (hn : NL.length ≤ 24) (h10 : gF w 7 10 g = nI NL.length) (h34 : ∀ i, i < NL.length → gA w 34 g i = nI (wn (NL.getD i []))) (hW : ∀ ls, ls ∈ NL → WOK ls) (hls : WOK ls) : (∀ t, lkp NL ls t → f_X7_termNamed N w g (nI (wn ls)) = some (nI t)) ∧ (lkn NL ls → f_X7_termNamed N w g (nI (wn ls)) = some n1) := by
  have b2 := wn_lt6 hls
  rcases termNamed_ok (N := N) (f := g) (v := wn ls) (fun t => wn (NL.getD t [])) (by omega) hn h10 h34 (fun t _ => by have := (wn_getD hW t).1; omega) (by omega) with ⟨t, t1, t2, t3, t4, t5⟩ | ⟨t1, t2⟩
  · have e1 : NL.getD t [] = ls := (wn_iff (getD_WOK hW t1) hls).mp t3
    refine ⟨fun s hs => ?_, fun hs => absurd e1 (hs t t1)⟩
    have : t = s := by
      rcases Nat.lt_trichotomy t s with y | y | y
      · exact absurd e1 (hs.2.2 t y)
      · exact y
      · exact absurd ((wn_iff (getD_WOK hW hs.1) hls).mpr hs.2.1) (t4 s y)
    rw [← this]; exact t5
  · refine ⟨fun s hs => ?_, fun _ => t2⟩
    rcases t1 with y | y
    · omega
    · exact absurd ((wn_iff (getD_WOK hW hs.1) hls).mpr hs.2.1) (y s hs.1)
theorem eq_getD {a b : List Nat} (ha : WOK a) (hb : WOK b) (h : ∀ k, k < 6 → a.getD k 0 = b.getD k 0) : a = b := by
  have hin : ∀ {l : List Nat}, WOK l → ∀ k, k < l.length → 97 ≤ l.getD k 0 := fun {l} hl k hk => by
    rw [List.getD_eq_getElem?_getD, List.getElem?_eq_getElem hk]
    exact (hl.2.2 _ (List.getElem_mem hk)).1
  have hout : ∀ (l : List Nat) k, l.length ≤ k → l.getD k 0 = 0 := fun l k hk => by
    rw [List.getD_eq_getElem?_getD, List.getElem?_eq_none hk]; rfl
  have hlen : a.length = b.length := by
    rcases Nat.lt_trichotomy a.length b.length with y | y | y
    · have h1 := h a.length (by have := hb.2.1; omega)
      have h2 := hin hb _ y
      have h3 := hout a a.length (Nat.le_refl _)
      omega
    · exact y
    · have h1 := h b.length (by have := ha.2.1; omega)
      have h2 := hin ha _ y
      have h3 := hout b b.length (Nat.le_refl _)
      omega
  apply List.ext_getElem hlen
  intro i i1 i2
  have h1 := h i (by have := ha.2.1; omega)
  rw [List.getD_eq_getElem?_getD, List.getD_eq_getElem?_getD, List.getElem?_eq_getElem i1, List.getElem?_eq_getElem i2] at h1
  exact h1
theorem ltr_cut {tp : List Nat} {p q k : Nat} (hq : q ≤ tp.length) : (cut tp p q).getD k 0 = ltr tp p q k := by
  unfold ltr
  by_cases z : q ≤ p + k
  · rw [if_pos z, List.getD_eq_getElem?_getD, List.getElem?_eq_none (by rw [cut_len hq]; omega)]; rfl
  · rw [if_neg z, cut_getD (by omega)]
theorem ltr_iff {tp a ls : List Nat} {p q : Nat} (ha : WOK a) (hls : WOK ls) (e : ls = cut tp p q) (hpq : p < q) (hq : q ≤ tp.length) : (q - p ≤ 6 ∧ ∀ k, k < 6 → a.getD k 0 = ltr tp p q k ∧ (p + k < q → ltr tp p q k ≠ 0)) ↔ a = ls := by
  have hl : ls.length = q - p := by rw [e, cut_len hq]
  constructor
  · intro h
    exact eq_getD ha hls (fun k hk => by rw [(h.2 k hk).1, e, ltr_cut hq])
  · intro h
    refine ⟨by have := hls.2.1; omega, fun k hk => ⟨by rw [h, e, ltr_cut hq], fun hk2 => ?_⟩⟩
    rw [← ltr_cut hq, ← e, List.getD_eq_getElem?_getD, List.getElem?_eq_getElem (show k < ls.length by omega)]
    have := (hls.2.2 _ (List.getElem_mem (show k < ls.length by omega))).1
    show ls[k] ≠ 0
    omega

