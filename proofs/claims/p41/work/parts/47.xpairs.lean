/-! the class: the list of pairs -/
def TS0 (w : Mem) (f : Nat) (T : Trm) : Prop := tN T ≤ 24 ∧ TOK T ∧ gF w 7 10 f = nI (tN T) ∧ (∀ t, t < tN T → tF T t < 8 ∧ tA T (tF T t) ≤ 3 ∧ gA w 33 f t = nI (tF T t) ∧ gA w 31 f (tF T t) = nI (tA T (tF T t))) ∧ (∀ t k, t < tN T → k < tA T (tF T t) → gA w 36 f (t * 3 + k) = nI (tP T t k))
theorem TS.to0 {w : Mem} {f : Nat} {T : Trm} (h : TS w f T) : TS0 w f T := ⟨h.1, h.2.1, h.2.2.1, h.2.2.2.1, h.2.2.2.2.1⟩
theorem TS0.fr {w v : Mem} {f : Nat} {T : Trm} {P : Nat → Nat → Nat → Prop} {Q : Nat → Nat → Prop} (h : TS0 w f T) (hf : Fr P Q w v) (hP : ∀ k j i, P k j i → ¬ (k = 7 ∧ j = 10)) (hQ : ∀ k i, Q k i → k ≠ 31 ∧ k ≠ 33 ∧ k ≠ 36) : TS0 v f T := by
  obtain ⟨t1, t2, t3, t4, t5⟩ := h
  have a1 : gF v 7 10 f = gF w 7 10 f := hf.1 _ _ _ (fun z => hP _ _ _ z ⟨rfl, rfl⟩)
  have b1 : gA v 31 f = gA w 31 f := hf.2.1 _ _ (fun z => (hQ _ _ z).1 rfl)
  have b2 : gA v 33 f = gA w 33 f := hf.2.1 _ _ (fun z => (hQ _ _ z).2.1 rfl)
  have b3 : gA v 36 f = gA w 36 f := hf.2.1 _ _ (fun z => (hQ _ _ z).2.2 rfl)
  refine ⟨t1, t2, a1.trans t3, fun t ht => ?_, fun t k ht hk => ?_⟩
  · rw [b1, b2]; exact t4 t ht
  · rw [b3]; exact t5 t k ht hk
def rowp (T : Trm) (i m : Nat) : List (Nat × Nat) := ((List.range m).filter (fun j => decide (i < j) && (tF T i == tF T j))).map (fun j => (i, j))
def prp (T : Trm) (i : Nat) : List (Nat × Nat) := (List.range i).flatMap (fun x => rowp T x (tN T))
theorem prs_prp (T : Trm) : prs T = prp T (tN T) := rfl
theorem prp_succ (T : Trm) (i : Nat) : prp T (i + 1) = prp T i ++ rowp T i (tN T) := by
  unfold prp
  rw [List.range_succ, List.flatMap_append]
  simp
theorem rowp_succ (T : Trm) (i j : Nat) : rowp T i (j + 1) = rowp T i j ++ (if i < j ∧ tF T i = tF T j then [(i, j)] else []) := by
  unfold rowp
  rw [List.range_succ, List.filter_append, List.map_append]
  congr 1
  by_cases h : i < j ∧ tF T i = tF T j
  · rw [if_pos h]
    simp [h.1, h.2]
  · rw [if_neg h]
    simp
    intro h1 h2
    exact h ⟨h1, h2⟩
theorem rowp_len (T : Trm) (i : Nat) : ∀ m, (rowp T i m).length ≤ m - 1 - i ∧ (m ≤ i + 1 → rowp T i m = [])
  | 0 => ⟨by show 0 ≤ _; omega, fun _ => rfl⟩
  | m + 1 => by
    obtain ⟨h1, h2⟩ := rowp_len T i m
    rw [rowp_succ]
    by_cases h : i < m ∧ tF T i = tF T m
    · rw [if_pos h, List.length_append]
      exact ⟨by show _ + 1 ≤ _; omega, fun z => by omega⟩
    · rw [if_neg h, List.append_nil]
      exact ⟨by omega, fun z => h2 (by omega)⟩
theorem prp_len {T : Trm} (hn : tN T ≤ 24) : ∀ i, i ≤ tN T → (prp T i).length ≤ fb_sm (fun x => 23 - x) i
  | 0, _ => Nat.le_refl _
  | i + 1, h => by
    have h1 := prp_len hn i (by omega)
    have h2 := (rowp_len T i (tN T)).1
    rw [prp_succ, List.length_append, fb_sm_succ]
    omega
theorem sm276 : ∀ i, i ≤ 24 → fb_sm (fun x => 23 - x) i ≤ 276 := fun i h => by
  have h1 := fb_sm_mono (fun x => 23 - x) i (24 - i)
  rw [show i + (24 - i) = 24 by omega] at h1
  have h2 : fb_sm (fun x => 23 - x) 24 = 276 := by decide
  omega
def PRw (w : Mem) (f : Nat) (L : List (Nat × Nat)) : Prop := gF w 7 11 f = nI L.length ∧ ∀ (p i j : Nat), L[p]? = some (i, j) → gA w 38 f p = nI i ∧ gA w 39 f p = nI j
abbrev FrL (f : Nat) (w w' : Mem) : Prop := Fr (fun k j i => k = 7 ∧ j = 11 ∧ i = f) (fun k i => (k = 38 ∨ k = 39) ∧ i = f) w w'
theorem PRw.push {w : Mem} {f i j : Nat} {L : List (Nat × Nat)} (h : PRw w f L) : PRw (sF (sA (sA w 38 f L.length (nI i)) 39 f L.length (nI j)) 7 11 f (nI (L.length + 1))) f (L ++ [(i, j)]) := by
  refine ⟨by rw [gF_sF, if_pos ⟨rfl, rfl, rfl⟩, List.length_append]; rfl, fun p x y hp => ?_⟩
  rcases get_snoc hp with ⟨g1, g2⟩ | ⟨g1, g2⟩
  · obtain ⟨k1, k2⟩ := h.2 p x y g2
    refine ⟨k1 ▸ ?_, k2 ▸ ?_⟩ <;> simp (disch := omega) only [↓lm1, ↓lm2, eq_n1, eq_n2, n1_eq, n2_eq, n1_n2, n2_n1, n1_lt, n2_lt, n1_le, lt_n1, lt_n2, inb_t, cl_t, le_tt, le_tf, lt_tt, lt_tf, eq_tt, eq_tf, q_add, q_mul, li0, li1, li2, li3, li4, li5, li6, li7, li8, li12, li16, li24, li48, li500, gF_sA, gA_sF, gF_sF, gR_sA, gR_sF, gL_sA, gL_sF, gA_sA, shl_t, or_t, and_t, sbit_t, ubit_t, b01_0, b01_1, Option.bind_some, ↓reduceIte, eq_self, ne_eq, not_true_eq_false, Bool.false_eq_true, not_false_eq_true, true_and, and_true, false_and, and_false, if_pos, if_neg]
  · obtain ⟨rfl, rfl⟩ := Prod.mk.inj g2
    subst g1
    simp (disch := omega) only [↓lm1, ↓lm2, eq_n1, eq_n2, n1_eq, n2_eq, n1_n2, n2_n1, n1_lt, n2_lt, n1_le, lt_n1, lt_n2, inb_t, cl_t, le_tt, le_tf, lt_tt, lt_tf, eq_tt, eq_tf, q_add, q_mul, li0, li1, li2, li3, li4, li5, li6, li7, li8, li12, li16, li24, li48, li500, gF_sA, gA_sF, gF_sF, gR_sA, gR_sF, gL_sA, gL_sF, gA_sA, shl_t, or_t, and_t, sbit_t, ubit_t, b01_0, b01_1, Option.bind_some, ↓reduceIte, eq_self, ne_eq, not_true_eq_false, Bool.false_eq_true, not_false_eq_true, true_and, and_true, false_and, and_false, if_pos, if_neg]
theorem FrL.push {w : Mem} {f x : Nat} {u v z : Int32} : FrL f w (sF (sA (sA w 38 f x u) 39 f x v) 7 11 f z) :=
  ⟨fun k j i h => by rw [gF_sF, if_neg h]; rfl, fun k i h => by rw [gA_sF, gA_sA_ne (fun y => h ⟨Or.inr y.1, y.2⟩), gA_sA_ne (fun y => h ⟨Or.inl y.1, y.2⟩)], fun _ _ => rfl, fun _ _ _ => rfl⟩
theorem TS0.frL {w v : Mem} {f : Nat} {T : Trm} (h : TS0 w f T) (hf : FrL f w v) : TS0 v f T := h.fr hf (fun _ _ _ z => by omega) (fun _ _ z => by omega)
theorem lp_lp19 (k : Mem → Option Mem) {N f i : Nat} {T : Trm} (hi : i < tN T) : ∀ (r fuel j : Nat) (w : Mem), j + r = tN T → r < fuel → i < j → TS0 w f T → PRw w f (prp T i ++ rowp T i j) → ∃ w', lp_X7_listPairs_19 k N f (nI i) fuel w (nI j) = k w' ∧ PRw w' f (prp T i ++ rowp T i (tN T)) ∧ FrL f w w' := by
  intro r
  induction r with
  | zero =>
    intro fuel j w hj hf hij hT hP
    obtain ⟨f', rfl⟩ : ∃ f, fuel = f + 1 := ⟨fuel - 1, by omega⟩
    have t1 := hT.1
    have e : j = tN T := by omega
    subst e
    refine ⟨w, ?_, hP, Fr.rf⟩
    rw [lp_X7_listPairs_19]
    simp (disch := omega) only [↓lm1, ↓lm2, eq_n1, eq_n2, n1_eq, n2_eq, n1_n2, n2_n1, n1_lt, n2_lt, n1_le, lt_n1, lt_n2, inb_t, cl_t, le_tt, le_tf, lt_tt, lt_tf, eq_tt, eq_tf, q_add, q_mul, li0, li1, li2, li3, li4, li5, li6, li7, li8, li12, li16, li24, li48, li500, gF_sA, gA_sF, gF_sF, gR_sA, gR_sF, gL_sA, gL_sF, gA_sA, shl_t, or_t, and_t, sbit_t, ubit_t, b01_0, b01_1, Option.bind_some, ↓reduceIte, eq_self, ne_eq, not_true_eq_false, Bool.false_eq_true, not_false_eq_true, true_and, and_true, false_and, and_false, if_pos, if_neg, hT.2.2.1]
  | succ r ih =>
    intro fuel j w hj hf hij hT hP
    obtain ⟨f', rfl⟩ : ∃ f, fuel = f + 1 := ⟨fuel - 1, by omega⟩
    have t1 := hT.1
    obtain ⟨u1, u2, u3, u4⟩ := hT.2.2.2.1 i hi
    obtain ⟨v1, v2, v3, v4⟩ := hT.2.2.2.1 j (by omega)
    by_cases z : tF T i = tF T j
    · have hl1 := prp_len t1 i (by omega)
      have hl2 := (rowp_len T i j).1
      have hl3 := sm276 (i + 1) (by omega)
      rw [fb_sm_succ] at hl3
      have hll : (prp T i ++ rowp T i j).length < 276 := by rw [List.length_append]; omega
      have hrow : prp T i ++ rowp T i (j + 1) = (prp T i ++ rowp T i j) ++ [(i, j)] := by rw [rowp_succ, if_pos ⟨hij, z⟩, List.append_assoc]
      generalize hL : prp T i ++ rowp T i j = L at hll hrow hP
      obtain ⟨w', e1, e2, e3⟩ := ih f' (j + 1) _ (by omega) (by omega) (by omega) (hT.frL (FrL.push (x := L.length) (u := nI i) (v := nI j) (z := nI (L.length + 1)))) (by rw [hrow]; exact hP.push)
      refine ⟨w', ?_, e2, FrL.push.tr e3⟩
      rw [lp_X7_listPairs_19, ← e1]
      simp (disch := omega) only [↓lm1, ↓lm2, eq_n1, eq_n2, n1_eq, n2_eq, n1_n2, n2_n1, n1_lt, n2_lt, n1_le, lt_n1, lt_n2, inb_t, cl_t, le_tt, le_tf, lt_tt, lt_tf, eq_tt, eq_tf, q_add, q_mul, li0, li1, li2, li3, li4, li5, li6, li7, li8, li12, li16, li24, li48, li500, gF_sA, gA_sF, gF_sF, gR_sA, gR_sF, gL_sA, gL_sF, gA_sA, shl_t, or_t, and_t, sbit_t, ubit_t, b01_0, b01_1, Option.bind_some, ↓reduceIte, eq_self, ne_eq, not_true_eq_false, Bool.false_eq_true, not_false_eq_true, true_and, and_true, false_and, and_false, if_pos, if_neg, hT.2.2.1, u3, v3, hP.1]
    · have hrow : rowp T i (j + 1) = rowp T i j := by rw [rowp_succ, if_neg (fun h => z h.2), List.append_nil]
      obtain ⟨w', e1, e2, e3⟩ := ih f' (j + 1) w (by omega) (by omega) (by omega) hT (by rw [hrow]; exact hP)
      refine ⟨w', ?_, e2, e3⟩
      rw [lp_X7_listPairs_19, ← e1]
      simp (disch := omega) only [↓lm1, ↓lm2, eq_n1, eq_n2, n1_eq, n2_eq, n1_n2, n2_n1, n1_lt, n2_lt, n1_le, lt_n1, lt_n2, inb_t, cl_t, le_tt, le_tf, lt_tt, lt_tf, eq_tt, eq_tf, q_add, q_mul, li0, li1, li2, li3, li4, li5, li6, li7, li8, li12, li16, li24, li48, li500, gF_sA, gA_sF, gF_sF, gR_sA, gR_sF, gL_sA, gL_sF, gA_sA, shl_t, or_t, and_t, sbit_t, ubit_t, b01_0, b01_1, Option.bind_some, ↓reduceIte, eq_self, ne_eq, not_true_eq_false, Bool.false_eq_true, not_false_eq_true, true_and, and_true, false_and, and_false, if_pos, if_neg, hT.2.2.1, u3, v3]
theorem lp_lp7 (k : Mem → Option Mem) {N f : Nat} {T : Trm} (hN : 24 < N) : ∀ (r fuel i : Nat) (w : Mem), i + r = tN T → r < fuel → TS0 w f T → PRw w f (prp T i) → ∃ w', lp_X7_listPairs_7 k N f fuel w (nI i) = k w' ∧ PRw w' f (prs T) ∧ FrL f w w' := by
  intro r
  induction r with
  | zero =>
    intro fuel i w hj hf hT hP
    obtain ⟨f', rfl⟩ : ∃ f, fuel = f + 1 := ⟨fuel - 1, by omega⟩
    have t1 := hT.1
    have e : i = tN T := by omega
    subst e
    refine ⟨w, ?_, hP, Fr.rf⟩
    rw [lp_X7_listPairs_7]
    simp (disch := omega) only [↓lm1, ↓lm2, eq_n1, eq_n2, n1_eq, n2_eq, n1_n2, n2_n1, n1_lt, n2_lt, n1_le, lt_n1, lt_n2, inb_t, cl_t, le_tt, le_tf, lt_tt, lt_tf, eq_tt, eq_tf, q_add, q_mul, li0, li1, li2, li3, li4, li5, li6, li7, li8, li12, li16, li24, li48, li500, gF_sA, gA_sF, gF_sF, gR_sA, gR_sF, gL_sA, gL_sF, gA_sA, shl_t, or_t, and_t, sbit_t, ubit_t, b01_0, b01_1, Option.bind_some, ↓reduceIte, eq_self, ne_eq, not_true_eq_false, Bool.false_eq_true, not_false_eq_true, true_and, and_true, false_and, and_false, if_pos, if_neg, hT.2.2.1]
  | succ r ih =>
    intro fuel i w hj hf hT hP
    obtain ⟨f', rfl⟩ : ∃ f, fuel = f + 1 := ⟨fuel - 1, by omega⟩
    have t1 := hT.1
    obtain ⟨w1, a1, a2, a3⟩ := lp_lp19 (fun (w_2 : Mem) => (f_X7_listPairs_78_7 (fun (w : Mem) (v1 : Int32) => lp_X7_listPairs_7 k N  f  f' w v1) k N w_2 f (nI i) )) (N := N) (f := f) (T := T) (i := i) (by omega) (tN T - (i + 1)) N (i + 1) w (by omega) (by omega) (by omega) hT (by rw [(rowp_len T i (i + 1)).2 (by omega), List.append_nil]; exact hP)
    obtain ⟨w', e1, e2, e3⟩ := ih f' (i + 1) w1 (by omega) (by omega) (hT.frL a3) (by rw [prp_succ]; exact a2)
    refine ⟨w', ?_, e2, a3.tr e3⟩
    rw [lp_X7_listPairs_7, ← e1]
    simp (disch := omega) only [↓lm1, ↓lm2, eq_n1, eq_n2, n1_eq, n2_eq, n1_n2, n2_n1, n1_lt, n2_lt, n1_le, lt_n1, lt_n2, inb_t, cl_t, le_tt, le_tf, lt_tt, lt_tf, eq_tt, eq_tf, q_add, q_mul, li0, li1, li2, li3, li4, li5, li6, li7, li8, li12, li16, li24, li48, li500, gF_sA, gA_sF, gF_sF, gR_sA, gR_sF, gL_sA, gL_sF, gA_sA, shl_t, or_t, and_t, sbit_t, ubit_t, b01_0, b01_1, Option.bind_some, ↓reduceIte, eq_self, ne_eq, not_true_eq_false, Bool.false_eq_true, not_false_eq_true, true_and, and_true, false_and, and_false, if_pos, if_neg, hT.2.2.1]
    refine a1.trans ?_
    simp (disch := omega) only [↓lm1, ↓lm2, eq_n1, eq_n2, n1_eq, n2_eq, n1_n2, n2_n1, n1_lt, n2_lt, n1_le, lt_n1, lt_n2, inb_t, cl_t, le_tt, le_tf, lt_tt, lt_tf, eq_tt, eq_tf, q_add, q_mul, li0, li1, li2, li3, li4, li5, li6, li7, li8, li12, li16, li24, li48, li500, gF_sA, gA_sF, gF_sF, gR_sA, gR_sF, gL_sA, gL_sF, gA_sA, shl_t, or_t, and_t, sbit_t, ubit_t, b01_0, b01_1, Option.bind_some, ↓reduceIte, eq_self, ne_eq, not_true_eq_false, Bool.false_eq_true, not_false_eq_true, true_and, and_true, false_and, and_false, if_pos, if_neg, f_X7_listPairs_78_7]
theorem listPairs_ok {N f : Nat} {w : Mem} {T : Trm} (hN : 24 < N) (hT : TS0 w f T) : ∃ w', f_X7_listPairs N w f = some w' ∧ TS w' f T ∧ FrL f w w' := by
  have t1 := hT.1
  have h0 : FrL f w (sF w 7 11 f (nI 0)) := ⟨fun k j i h => by rw [gF_sF, if_neg h], fun _ _ _ => rfl, fun _ _ => rfl, fun _ _ _ => rfl⟩
  obtain ⟨w1, a1, a2, a3⟩ := lp_lp7 (fun (w_1 : Mem) => (f_X7_listPairs_84 N w_1 f)) (N := N) (f := f) (T := T) hN (tN T) N 0 (sF w 7 11 f (nI 0)) (by omega) (by omega) (hT.frL h0) ⟨by rw [gF_sF, if_pos ⟨rfl, rfl, rfl⟩]; rfl, fun p i j hp => by simp [prp] at hp⟩
  have hl := prp_len t1 (tN T) (Nat.le_refl _)
  have hl2 := sm276 (tN T) t1
  obtain ⟨b1, b2, b3, b4, b5⟩ := (hT.frL h0).frL a3
  refine ⟨w1, ?_, ⟨b1, b2, b3, b4, b5, by rw [prs_prp]; omega, a2.1, a2.2⟩, h0.tr a3⟩
  rw [f_X7_listPairs]
  exact a1

