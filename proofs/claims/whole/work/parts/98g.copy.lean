/-! text: what was told is taken over by the model; what else stays -/
theorem copyF_ok {N m : Nat} {w : Mem} (k : Mem → Option (Mem × Int32)) (hN : 200 < N) (hm : m ≤ 8) (h6 : gF w 9 6 0 = nI m) : ∃ v, lp_X9_text_76 k N N w (nI 0) = k v ∧ (∀ i, i < m → gA v 41 0 i = gA w 41 0 (8 + i)) ∧ Fr (fun _ _ _ => False) (fun k i => k = 41 ∧ i = 0) w v := by
  have key := lpc (α := Mem) m (fun fu a q => lp_X9_text_76 k N fu a q) k (fun q a => (∀ i, i < q → gA a 41 0 i = gA w 41 0 (8 + i)) ∧ (∀ x, 8 ≤ x → gA a 41 0 x = gA w 41 0 x) ∧ Fr (fun _ _ _ => False) (fun k i => k = 41 ∧ i = 0) w a) ?_ ?_ 0 N w (by omega) (by omega) ⟨fun i hi => absurd hi (Nat.not_lt_zero i), fun _ _ => rfl, Fr.rf⟩
  · obtain ⟨v, ⟨a1, a2, a3⟩, a4⟩ := key
    exact ⟨v, a4, a1, a3⟩
  · intro fu a ⟨a1, a2, a3⟩
    show lp_X9_text_76 k N (fu + 1) a (nI m) = k a
    rw [lp_X9_text_76, a3.1 _ _ _ (fun z => z), h6, if_pos (of_eq_true (le_tt (by omega) (by omega) (Nat.le_refl _)))]
  · intro fu q a hq ⟨a1, a2, a3⟩
    refine ⟨sA a 41 0 q (gA a 41 0 (8 + q)), ⟨fun i hi => ?_, fun x hx => by rw [gA_sA, if_neg (by omega)]; exact a2 x hx, a3.tr ⟨fun _ _ _ _ => rfl, fun k i z => by rw [gA_sA_ne z], fun _ _ => rfl, fun _ _ _ => rfl⟩⟩, ?_⟩
    · rw [gA_sA]
      by_cases e : i = q
      · rw [e, if_pos ⟨rfl, rfl, rfl⟩]; exact a2 _ (by omega)
      · rw [if_neg (by omega)]; exact a1 i (by omega)
    · show lp_X9_text_76 k N (fu + 1) a (nI q) = lp_X9_text_76 k N fu (sA a 41 0 q (gA a 41 0 (8 + q))) (nI (q + 1))
      rw [lp_X9_text_76, a3.1 _ _ _ (fun z => z), h6, if_neg (of_eq_false (le_tf (by omega) (by omega) hq)), li8, q_add, if_pos (inb_t (by omega) (by omega)), if_pos (inb_t (by omega) (by omega)), cl_t (by omega), cl_t (by omega), li1, q_add]
theorem copy4_ok {N p : Nat} {w : Mem} (k : Mem → Option (Mem × Int32)) (hN : 200 < N) (hp : p < 48) : ∃ v, lp_X9_text_148 k N (nI p) N w (nI 0) = k v ∧ (∀ i, i < 4 → gA v 43 0 (4 * p + i) = gA w 43 0 (4 * (48 + p) + i)) ∧ (∀ x, ¬ (4 * p ≤ x ∧ x < 4 * p + 4) → gA v 43 0 x = gA w 43 0 x) ∧ Fr (fun _ _ _ => False) (fun k i => k = 43 ∧ i = 0) w v := by
  have key := lpc (α := Mem) 4 (fun fu a q => lp_X9_text_148 k N (nI p) fu a q) k (fun q a => (∀ i, i < q → gA a 43 0 (4 * p + i) = gA w 43 0 (4 * (48 + p) + i)) ∧ (∀ x, ¬ (4 * p ≤ x ∧ x < 4 * p + 4) → gA a 43 0 x = gA w 43 0 x) ∧ Fr (fun _ _ _ => False) (fun k i => k = 43 ∧ i = 0) w a) ?_ ?_ 0 N w (by omega) (by omega) ⟨fun i hi => absurd hi (Nat.not_lt_zero i), fun _ _ => rfl, Fr.rf⟩
  · obtain ⟨v, ⟨a1, a2, a3⟩, a4⟩ := key
    exact ⟨v, a4, a1, a2, a3⟩
  · intro fu a _
    show lp_X9_text_148 k N (nI p) (fu + 1) a (nI 4) = k a
    rw [lp_X9_text_148, if_pos (by decide)]
  · intro fu q a hq ⟨a1, a2, a3⟩
    refine ⟨sA a 43 0 (4 * p + q) (gA a 43 0 (4 * (48 + p) + q)), ⟨fun i hi => ?_, fun x hx => by rw [gA_sA, if_neg (by omega)]; exact a2 x hx, a3.tr ⟨fun _ _ _ _ => rfl, fun k i z => by rw [gA_sA_ne z], fun _ _ => rfl, fun _ _ _ => rfl⟩⟩, ?_⟩
    · rw [gA_sA]
      by_cases e : i = q
      · rw [e, if_pos ⟨rfl, rfl, rfl⟩]; exact a2 _ (by omega)
      · rw [if_neg (by omega)]; exact a1 i (by omega)
    · show lp_X9_text_148 k N (nI p) (fu + 1) a (nI q) = lp_X9_text_148 k N (nI p) fu (sA a 43 0 (4 * p + q) (gA a 43 0 (4 * (48 + p) + q))) (nI (q + 1))
      rw [lp_X9_text_148, li4, li48, if_neg (of_eq_false (le_tf (by omega) (by omega) hq)), q_add, q_mul, q_mul, q_add, q_add, if_pos (inb_t (by omega) (by omega)), if_pos (inb_t (by omega) (by omega)), cl_t (by omega), cl_t (by omega), li1, q_add]
theorem copyR_ok {N m : Nat} {w : Mem} (k : Mem → Option (Mem × Int32)) (hN : 200 < N) (hm : m ≤ 48) (h8 : gF w 9 8 0 = nI m) : ∃ v, lp_X9_text_123 k N N w (nI 0) = k v ∧ (∀ p, p < m → gA v 42 0 p = gA w 42 0 (48 + p) ∧ ∀ i, i < 4 → gA v 43 0 (4 * p + i) = gA w 43 0 (4 * (48 + p) + i)) ∧ Fr (fun _ _ _ => False) (fun k i => (k = 42 ∨ k = 43) ∧ i = 0) w v := by
  have key := lpc (α := Mem) m (fun fu a q => lp_X9_text_123 k N fu a q) k (fun q a => (∀ p, p < q → gA a 42 0 p = gA w 42 0 (48 + p) ∧ ∀ i, i < 4 → gA a 43 0 (4 * p + i) = gA w 43 0 (4 * (48 + p) + i)) ∧ (∀ x, 48 ≤ x → gA a 42 0 x = gA w 42 0 x) ∧ (∀ x, 192 ≤ x → gA a 43 0 x = gA w 43 0 x) ∧ Fr (fun _ _ _ => False) (fun k i => (k = 42 ∨ k = 43) ∧ i = 0) w a) ?_ ?_ 0 N w (by omega) (by omega) ⟨fun i hi => absurd hi (Nat.not_lt_zero i), fun _ _ => rfl, fun _ _ => rfl, Fr.rf⟩
  · obtain ⟨v, ⟨a1, a2, a3, a5⟩, a4⟩ := key
    exact ⟨v, a4, a1, a5⟩
  · intro fu a ⟨a1, a2, a3, a4⟩
    show lp_X9_text_123 k N (fu + 1) a (nI m) = k a
    rw [lp_X9_text_123, a4.1 _ _ _ (fun z => z), h8, if_pos (of_eq_true (le_tt (by omega) (by omega) (Nat.le_refl _)))]
  · intro fu q a hq ⟨a1, a2, a3, a4⟩
    obtain ⟨v, c1, c2, c3, c4⟩ := copy4_ok (N := N) (p := q) (w := sA a 42 0 q (gA a 42 0 (48 + q))) (fun (w_17 : Mem) => (f_X9_text_182_123 (fun (w : Mem) (v2 : Int32) => lp_X9_text_123 k N fu w v2) k N w_17 (nI q))) hN (by omega)
    have f1 : Fr (fun _ _ _ => False) (fun k i => (k = 42 ∨ k = 43) ∧ i = 0) a v := (show Fr (fun _ _ _ => False) (fun k i => (k = 42 ∨ k = 43) ∧ i = 0) a (sA a 42 0 q (gA a 42 0 (48 + q))) from ⟨fun _ _ _ _ => rfl, fun k i z => by rw [gA_sA_ne (fun y => z ⟨Or.inl y.1, y.2⟩)], fun _ _ => rfl, fun _ _ _ => rfl⟩).tr (c4.mono (fun _ _ _ z => z) (fun _ _ z => by omega))
    have e42 : ∀ x, gA v 42 0 x = if x = q then gA a 42 0 (48 + q) else gA a 42 0 x := fun x => by
      rw [c4.2.1 42 0 (by omega), gA_sA]
      by_cases e : x = q
      · rw [if_pos ⟨rfl, rfl, e⟩, if_pos e]
      · rw [if_neg (by omega), if_neg e]
    have e43 : ∀ x, gA (sA a 42 0 q (gA a 42 0 (48 + q))) 43 0 x = gA a 43 0 x := fun x => by rw [gA_sA, if_neg (by omega)]
    refine ⟨v, ⟨fun p hp => ?_, fun x hx => by rw [e42, if_neg (by omega)]; exact a2 x hx, fun x hx => by rw [c3 x (by omega), e43]; exact a3 x hx, a4.tr f1⟩, ?_⟩
    · by_cases e : p = q
      · subst e
        exact ⟨by rw [e42, if_pos rfl]; exact a2 _ (by omega), fun i hi => by rw [c2 i hi, e43]; exact a3 _ (by omega)⟩
      · refine ⟨by rw [e42, if_neg e]; exact (a1 p (by omega)).1, fun i hi => by rw [c3 _ (by omega), e43]; exact (a1 p (by omega)).2 i hi⟩
    · show lp_X9_text_123 k N (fu + 1) a (nI q) = lp_X9_text_123 k N fu v (nI (q + 1))
      rw [lp_X9_text_123, a4.1 _ _ _ (fun z => z), h8, if_neg (of_eq_false (le_tf (by omega) (by omega) hq)), li48, q_add, if_pos (inb_t (by omega) (by omega)), if_pos (inb_t (by omega) (by omega)), cl_t (by omega), cl_t (by omega)]
      refine c1.trans ?_
      show f_X9_text_182_123 _ _ _ _ _ = _
      rw [f_X9_text_182_123, li1, q_add]
theorem copyN_ok {N : Nat} {w : Mem} (k : Mem → Option (Mem × Int32)) (hN : 200 < N) : ∃ v, lp_X9_text_198 k N N w (nI 0) = k v ∧ (∀ i, i < 144 → gA v 44 0 i = gA w 44 0 (144 + i)) ∧ Fr (fun _ _ _ => False) (fun k i => k = 44 ∧ i = 0) w v := by
  have key := lpc (α := Mem) 144 (fun fu a q => lp_X9_text_198 k N fu a q) k (fun q a => (∀ i, i < q → gA a 44 0 i = gA w 44 0 (144 + i)) ∧ (∀ x, 144 ≤ x → gA a 44 0 x = gA w 44 0 x) ∧ Fr (fun _ _ _ => False) (fun k i => k = 44 ∧ i = 0) w a) ?_ ?_ 0 N w (by omega) (by omega) ⟨fun i hi => absurd hi (Nat.not_lt_zero i), fun _ _ => rfl, Fr.rf⟩
  · obtain ⟨v, ⟨a1, a2, a3⟩, a4⟩ := key
    exact ⟨v, a4, a1, a3⟩
  · intro fu a _
    show lp_X9_text_198 k N (fu + 1) a (nI 144) = k a
    rw [lp_X9_text_198, if_pos (by decide)]
  · intro fu q a hq ⟨a1, a2, a3⟩
    have l144 : (144 : Int32) = nI 144 := rfl
    refine ⟨sA a 44 0 q (gA a 44 0 (144 + q)), ⟨fun i hi => ?_, fun x hx => by rw [gA_sA, if_neg (by omega)]; exact a2 x hx, a3.tr ⟨fun _ _ _ _ => rfl, fun k i z => by rw [gA_sA_ne z], fun _ _ => rfl, fun _ _ _ => rfl⟩⟩, ?_⟩
    · rw [gA_sA]
      by_cases e : i = q
      · rw [e, if_pos ⟨rfl, rfl, rfl⟩]; exact a2 _ (by omega)
      · rw [if_neg (by omega)]; exact a1 i (by omega)
    · show lp_X9_text_198 k N (fu + 1) a (nI q) = lp_X9_text_198 k N fu (sA a 44 0 q (gA a 44 0 (144 + q))) (nI (q + 1))
      rw [lp_X9_text_198, l144, if_neg (of_eq_false (le_tf (by omega) (by omega) hq)), q_add, if_pos (inb_t (by omega) (by omega)), if_pos (inb_t (by omega) (by omega)), cl_t (by omega), cl_t (by omega), li1, q_add]
/-- what ties the model to a core, row by row -/
def KN (w v : Mem) : Prop := (∀ j, j = 6 ∨ j = 8 ∨ j = 9 ∨ (26 ≤ j ∧ j < 40) → gF v 9 j 0 = gF w 9 j 0) ∧ (∀ k, 46 ≤ k → k ≤ 58 → gA v k 0 = gA w k 0) ∧ (∀ x, x < 8 → gA v 41 0 x = gA w 41 0 x) ∧ (∀ x, x < 48 → gA v 42 0 x = gA w 42 0 x) ∧ (∀ x, x < 192 → gA v 43 0 x = gA w 43 0 x) ∧ ∀ x, x < 144 → gA v 44 0 x = gA w 44 0 x
theorem KN.MK {w v : Mem} {tk : Nat → Nat} {c : Core} (h : KN w v) (hK : MK w tk c) (h8 : ∀ t, t < (cL c).length → tlF (cL c) t < 8) : MK v tk c := by
  obtain ⟨⟨⟨t1, t2, t3, t4, t5⟩, ⟨r1, r2, r3, r4⟩, m1, m2, m3, m4⟩, ⟨s1, s2, s3⟩, q1, q2, q3⟩ := hK
  obtain ⟨h1, hA, h41, -, -, -⟩ := h
  refine ⟨⟨⟨t1, t2, (h1 _ (by omega)).trans t3, fun t ht => ?_, fun t k ht hk => ?_⟩, ⟨r1, r2, (h1 _ (by omega)).trans r3, fun i hi => ?_⟩, m1, (h1 _ (by omega)).trans m2, fun p x y z r hp => ?_, fun t ht => ?_, fun t u c ht hF => ?_⟩, ⟨s1, (h1 _ (by omega)).trans s2, fun p i j hp => ?_⟩, q1, (h1 _ (by omega)).trans q2, fun p i j hp => ?_⟩
  · rw [hA 46 (by omega) (by omega), h41 (tF (mkT tk (cL c)) t) (h8 t ht)]; exact t4 t ht
  · rw [hA 47 (by omega) (by omega)]; exact t5 t k ht hk
  · rw [hA 52 (by omega) (by omega)]; exact r4 i hi
  · rw [hA 55 (by omega) (by omega), hA 56 (by omega) (by omega), hA 57 (by omega) (by omega), hA 58 (by omega) (by omega)]; exact m3 p x y z r hp
  · rw [hA 53 (by omega) (by omega)]; exact m4.1 t ht
  · rw [hA 54 (by omega) (by omega)]; exact m4.2 t u c ht hF
  · rw [hA 48 (by omega) (by omega), hA 49 (by omega) (by omega)]; exact s3 p i j hp
  · rw [hA 50 (by omega) (by omega), hA 51 (by omega) (by omega)]; exact q3 p i j hp
theorem RelM.cong {w v : Mem} {nf : Nat} {tk : Nat → Nat} {R A : List Row} {NL : List (List Nat)} {tp tp' : List Nat} (h : RelM w nf tk R A NL tp) (hk : KN w v) (ht : TMm v tp') (hl : (R ++ A).length ≤ 48) (h3 : ∀ x, .inl x ∈ R ++ A → x.2.length ≤ 3) (hNL : NL.length ≤ 24) (hF8 : ∀ t, t < (cL (run tk c0 (R ++ A))).length → tlF (cL (run tk c0 (R ++ A))) t < 8) : RelM v nf tk R A NL tp' := by
  obtain ⟨h1, h2, h3', h4, h5, h6, h7, h8⟩ := h
  have h8' := h2.1
  refine ⟨hk.MK h1 hF8, ⟨h2.1, (hk.1 _ (by omega)).trans h2.2.1, fun g hg => by rw [hk.2.2.1 g (by omega)]; exact h2.2.2 g hg⟩, fun p r hp => ?_, (hk.1 _ (by omega)).trans h4, (hk.1 _ (by omega)).trans h5, ⟨(hk.1 _ (by omega)).trans h6.1, fun t k ht hk' => by rw [hk.2.2.2.2.2 _ (by omega)]; exact h6.2 t k ht hk'⟩, ht.1, ht.2⟩
  have hpl := (List.getElem?_eq_some_iff.mp hp).1
  exact (h3' p r hp).pt (hk.2.2.2.1 _ (by omega)) (fun x hx => hk.2.2.2.2.1 x (by omega)) (fun x hx => h3 x (by rw [← hx]; exact List.mem_of_getElem? hp))
/-- what ties the class's facts f to a core, row by row -/
def KQ (f : Nat) (w v : Mem) : Prop := (∀ k j, k = 1 ∨ k = 2 ∨ k = 7 → gF v k j f = gF w k j f) ∧ (∀ j, gF v 3 j (2 + f) = gF w 3 j (2 + f)) ∧ (∀ k, (13 ≤ k ∧ k ≤ 24) ∨ (31 ≤ k ∧ k ≤ 39 ∧ k ≠ 37) → gA v k f = gA w k f) ∧ gA v 25 (2 + f) = gA w 25 (2 + f)
theorem XK.cong {w v : Mem} {f : Nat} {tk : Nat → Nat} {c : Core} (h : XK w f tk c) (hk : KQ f w v) : XK v f tk c := by
  obtain ⟨⟨⟨t1, t2, t3, t4, t5, t6, t7, t8⟩, x2, n1', f2, f3, j1, r1, r2⟩, ⟨s1, s2, s3⟩, ⟨d1, d2, d3⟩, x6⟩ := h
  obtain ⟨k1, k2, k3, k4⟩ := hk
  refine ⟨⟨⟨t1, t2, (k1 _ _ (by omega)).trans t3, fun t ht => by rw [k3 33 (by omega), k3 31 (by omega)]; exact t4 t ht, fun t k ht hk => by rw [k3 36 (by omega)]; exact t5 t k ht hk, t6, (k1 _ _ (by omega)).trans t7, fun p i j hp => by rw [k3 38 (by omega), k3 39 (by omega)]; exact t8 p i j hp⟩, x2.of (k2 _) (k2 _) k4, n1', (k1 _ _ (by omega)).trans f2, (k1 _ _ (by omega)).trans f3, fun p a b c r hp => by rw [k3 21 (by omega), k3 22 (by omega), k3 23 (by omega), k3 24 (by omega)]; exact j1 p a b c r hp, fun t ht => by rw [k3 19 (by omega)]; exact r1 t ht, fun t u c ht hF => by rw [k3 20 (by omega)]; exact r2 t u c ht hF⟩, ⟨s1, (k1 _ _ (by omega)).trans s2, fun p i j hp => by rw [k3 13 (by omega), k3 14 (by omega)]; exact s3 p i j hp⟩, ⟨d1, (k1 _ _ (by omega)).trans d2, fun p i j hp => by rw [k3 15 (by omega), k3 16 (by omega)]; exact d3 p i j hp⟩, fun i hi => by rw [k3 35 (by omega)]; exact x6 i hi⟩
theorem RelX.cong {w v : Mem} {f nf : Nat} {tk : Nat → Nat} {R A : List Row} {NL : List (List Nat)} {tp tp' : List Nat} (h : RelX w f nf tk R A NL tp) (hk : KQ f w v) (h0 : ∀ j, gF v 0 j 0 = gF w 0 j 0) (h10 : gA v 10 0 = gA w 10 0 ∧ gA v 11 0 = gA w 11 0) (h5 : gR v 8 5 0 = gR w 8 5 0 ∧ gR v 8 6 0 = gR w 8 6 0) (ht : TX v tp') : RelX v f nf tk R A NL tp' := by
  obtain ⟨⟨hf, h5', h6'⟩, hK, xFN, xA, xNm, xTp, xCo⟩ := h
  refine ⟨⟨hf, h5.1.trans h5', h5.2.trans h6'⟩, hK.cong hk, ⟨xFN.1, (hk.1 _ _ (by omega)).trans xFN.2.1, fun g hg => by rw [hk.2.2.1 31 (by omega)]; exact xFN.2.2 g hg⟩, ⟨xA.1, (hk.1 _ _ (by omega)).trans xA.2.1, fun p r hp => by rw [hk.2.2.1 17 (by omega), hk.2.2.1 18 (by omega)]; exact xA.2.2 p r hp⟩, fun t ht => by rw [hk.2.2.1 34 (by omega)]; exact xNm t ht, ht, ?_⟩
  rcases xCo with e | ⟨e, e2, D, e3, e4⟩
  · exact Or.inl ((h0 _).trans e)
  · exact Or.inr ⟨(h0 _).trans e, (h0 _).trans e2, D, e3, fun t u ht hu => by rw [h10.1, h10.2]; exact e4 t u ht hu⟩
theorem RXt.rel {w v : Mem} {g n : Nat} {tp : List Nat} {FL : List (List Nat)} {tg : List Nat} {NL : List (List Nat)} {rs : List Row} (h : RXt w g n tp FL tg NL rs) (hP : RPr g n tp FL tg NL rs) (hF : ∀ k j i, k = 1 ∨ k = 2 ∨ k = 3 ∨ k = 7 → gF v k j i = gF w k j i) (hA : ∀ k i, gA v k i = gA w k i) (h5 : gR v 8 5 0 = g) (h6 : gR v 8 6 0 = 1 - g) (h61 : gF v 6 1 0 = nI 0) (h04 : gF v 0 4 0 = nI 0) : RelX v g FL.length (tk0 tg) rs [] NL [] := by
  have hKQ : KQ g w v := ⟨fun k j z => hF k j g (by omega), fun j => hF 3 j _ (by omega), fun k _ => hA k g, hA 25 _⟩
  have hfn := h.fn hP (AG.z tg)
  have hln := (hP.2.2.2 _ (AG.z tg)).2
  refine ⟨⟨hP.1.1, h5, h6⟩, ?_, ⟨hfn.1, (hF _ _ _ (by omega)).trans hfn.2.1, fun i hi => by rw [hA]; exact hfn.2.2 i hi⟩, ⟨Nat.zero_le _, (hF _ _ _ (by omega)).trans h.2.2.2.1, fun p r hp => by cases hp⟩, fun t ht => ?_, ⟨h61, fun i hi => absurd hi (Nat.not_lt_zero i)⟩, Or.inl h04⟩
  · rw [List.append_nil]; exact (h.2.2.2.2 _ (AG.z tg)).cong hKQ
  · rw [List.append_nil, ← hln] at ht
    rw [hA]; exact h.2.2.1 t ht
