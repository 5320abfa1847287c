/-! feed: the op -/
def KT (w v : Mem) : Prop := (∀ k j i, ¬ (k = 9 ∧ (j = 5 ∨ j = 0)) → gF v k j i = gF w k j i) ∧ ∀ k i, k ≠ 40 → gA v k i = gA w k i
theorem KT.MX {w v : Mem} {T : Trm} {J : List Jn} (h : KT w v) (hX : MX w T J) : MX v T J := by
  obtain ⟨⟨t1, t2, t3, t4, t5⟩, ⟨r1, r2, r3, r4⟩, m1, m2, m3, m4⟩ := hX
  have hA : ∀ k, k ≠ 40 → gA v k 0 = gA w k 0 := fun k z => h.2 k 0 z
  refine ⟨⟨t1, t2, (h.1 _ _ _ (by omega)).trans t3, fun t ht => ?_, fun t k ht hk => ?_⟩, ⟨r1, r2, (h.1 _ _ _ (by omega)).trans r3, fun i hi => ?_⟩, m1, (h.1 _ _ _ (by omega)).trans m2, fun p x y z r hp => ?_, fun t ht => ?_, fun t u c ht hF => ?_⟩
  · rw [hA 41 (by omega), hA 46 (by omega)]; exact t4 t ht
  · rw [hA 47 (by omega)]; exact t5 t k ht hk
  · rw [hA 52 (by omega)]; exact r4 i hi
  · rw [hA 55 (by omega), hA 56 (by omega), hA 57 (by omega), hA 58 (by omega)]; exact m3 p x y z r hp
  · rw [hA 53 (by omega)]; exact m4.1 t ht
  · rw [hA 54 (by omega)]; exact m4.2 t u c ht hF
theorem KT.MK {w v : Mem} {tk : Nat → Nat} {c : Core} (h : KT w v) (hK : MK w tk c) : MK v tk c := by
  obtain ⟨k1, ⟨s1, s2, s3⟩, q1, q2, q3⟩ := hK
  refine ⟨h.MX k1, ⟨s1, (h.1 _ _ _ (by omega)).trans s2, fun p i j hp => ?_⟩, q1, (h.1 _ _ _ (by omega)).trans q2, fun p i j hp => ?_⟩
  · rw [h.2 48 0 (by omega), h.2 49 0 (by omega)]; exact s3 p i j hp
  · rw [h.2 50 0 (by omega), h.2 51 0 (by omega)]; exact q3 p i j hp
theorem RelM.tape {w v : Mem} {nf : Nat} {tk : Nat → Nat} {R A : List Row} {NL : List (List Nat)} {tp tp' : List Nat} (h : RelM w nf tk R A NL tp) (hk : KT w v) (ht : TMm v tp') : RelM v nf tk R A NL tp' := by
  obtain ⟨h1, h2, h3, h4, h5, h6, h7, h8⟩ := h
  exact ⟨hk.MK h1, ⟨h2.1, (hk.1 _ _ _ (by omega)).trans h2.2.1, fun g hg => by rw [hk.2 41 0 (by omega)]; exact h2.2.2 g hg⟩, fun p r hp => (h3 p r hp).congr (hk.2 _ _ (by omega)) (hk.2 _ _ (by omega)), (hk.1 _ _ _ (by omega)).trans h4, (hk.1 _ _ _ (by omega)).trans h5, ⟨(hk.1 _ _ _ (by omega)).trans h6.1, fun t k ht hk' => by rw [hk.2 44 0 (by omega)]; exact h6.2 t k ht hk'⟩, ht.1, ht.2⟩
theorem RelX.tape {w v : Mem} {f nf : Nat} {tk : Nat → Nat} {R A : List Row} {NL : List (List Nat)} {tp tp' : List Nat} (h : RelX w f nf tk R A NL tp) (a6 : FrTx w v) (ht : TX v tp') : RelX v f nf tk R A NL tp' := by
  obtain ⟨⟨hf, h5, h6⟩, hK, xFN, xA, xNm, xTp, xCo⟩ := h
  refine ⟨⟨hf, (a6.2.2.2 _ _ _).trans h5, (a6.2.2.2 _ _ _).trans h6⟩, XK.fr hK a6 (fun _ _ _ z => by omega) (fun _ _ z => by omega), ⟨xFN.1, (a6.1 _ _ _ (by omega)).trans xFN.2.1, fun g hg => by rw [a6.2.1 31 f (by omega)]; exact xFN.2.2 g hg⟩, ⟨xA.1, (a6.1 _ _ _ (by omega)).trans xA.2.1, fun p r hp => by rw [a6.2.1 17 f (by omega), a6.2.1 18 f (by omega)]; exact xA.2.2 p r hp⟩, fun t ht => by rw [a6.2.1 34 f (by omega)]; exact xNm t ht, ht, ?_⟩
  rcases xCo with e | ⟨e, e2, D, e3, e4⟩
  · exact Or.inl ((a6.1 _ _ _ (by omega)).trans e)
  · exact Or.inr ⟨(a6.1 _ _ _ (by omega)).trans e, (a6.1 _ _ _ (by omega)).trans e2, D, e3, fun t u ht hu => by rw [a6.2.1 10 0 (by omega), a6.2.1 11 0 (by omega)]; exact e4 t u ht hu⟩
theorem FrTm.kt {w v : Mem} (h : FrTm w v) : KT w v := ⟨fun k j i z => h.1 k j i (fun q => z q), fun k i z => h.2.1 k i (fun q => z q.1)⟩
theorem by4_b (x : Int32) : ∀ b, b ∈ by4 x → b < 256 := by
  intro b hb
  have : b = bq x 24 ∨ b = bq x 16 ∨ b = bq x 8 ∨ b = bq x 0 := by
    unfold by4 at hb
    simpa using hb
  rcases this with e | e | e | e <;> rw [e] <;> exact bq_lt _ _
theorem op_feed {N : Nat} {wx wm : Mem} (hN : 10 < N) (h : Rel wx wm) (x1 x2 x3 x4 x5 : Int32) : Op (f_X8_feed N wx x1 x2 x3 x4 x5) (f_X9_feed N wm x1 x2 x3 x4 x5) := by
  obtain ⟨f, nf, tk, R, A, NL, tp, ⟨hX, hM, hP, hf2⟩, h7, h9⟩ := h
  have hl5 : tp.length ≤ 500 := hP.2.2.2.1
  have hTX : TX wx tp := hX.2.2.2.2.2.1
  have hTM : TMm wm tp := hM.2.2.2.2.2.2
  have hT0 : TMm (sF wm 9 0 0 (0 : Int32)) tp := ⟨by rw [gF_sF, if_neg (by omega)]; exact hTM.1, fun i hi => by rw [gA_sF]; exact hTM.2 i hi⟩
  have hF0 : FrTm wm (sF wm 9 0 0 (0 : Int32)) := ⟨fun k j i z => by rw [gF_sF, if_neg (by omega)], fun _ _ _ => rfl, fun _ _ => rfl, fun _ _ _ => rfl⟩
  have hx1 := hTX.1
  have hm1 := hT0.1
  by_cases z : tp.length + 20 ≤ 500
  · obtain ⟨a1, b1, c1, d1⟩ := append_ok (N := N) x1 hTX (by omega)
    have l1 : (tp ++ by4 x1).length = tp.length + 4 := by rw [List.length_append]; rfl
    obtain ⟨a2, b2, c2, d2⟩ := append_ok (N := N) x2 c1 (by omega)
    have l2 : (tp ++ by4 x1 ++ by4 x2).length = tp.length + 8 := by rw [List.length_append, l1]; rfl
    obtain ⟨a3, b3, c3, d3⟩ := append_ok (N := N) x3 c2 (by omega)
    have l3 : (tp ++ by4 x1 ++ by4 x2 ++ by4 x3).length = tp.length + 12 := by rw [List.length_append, l2]; rfl
    obtain ⟨a4, b4, c4, d4⟩ := append_ok (N := N) x4 c3 (by omega)
    have l4 : (tp ++ by4 x1 ++ by4 x2 ++ by4 x3 ++ by4 x4).length = tp.length + 16 := by rw [List.length_append, l3]; rfl
    obtain ⟨a5, b5, c5, d5⟩ := append_ok (N := N) x5 c4 (by omega)
    have l5 : (tp ++ by4 x1 ++ by4 x2 ++ by4 x3 ++ by4 x4 ++ by4 x5).length = tp.length + 20 := by rw [List.length_append, l4]; rfl
    obtain ⟨p1, q1, r1, s1⟩ := laysWord_ok hN x1 hT0 (by omega)
    obtain ⟨p2, q2, r2, s2⟩ := laysWord_ok hN x2 r1 (by omega)
    obtain ⟨p3, q3, r3, s3⟩ := laysWord_ok hN x3 r2 (by omega)
    obtain ⟨p4, q4, r4, s4⟩ := laysWord_ok hN x4 r3 (by omega)
    obtain ⟨p5, q5, r5, s5⟩ := laysWord_ok hN x5 r4 (by omega)
    have dx : FrTx wx a5 := (((d1.tr d2).tr d3).tr d4).tr d5
    have dm : FrTm wm p5 := ((((hF0.tr s1).tr s2).tr s3).tr s4).tr s5
    refine ⟨a5, p5, nI (tp.length + 20), ?_, ?_, f, nf, tk, R, A, NL, tp ++ by4 x1 ++ by4 x2 ++ by4 x3 ++ by4 x4 ++ by4 x5, ⟨hX.tape dx c5, hM.tape dm.kt r5, ⟨hP.1, hP.2.1, hP.2.2.1, by omega, fun b hb => ?_⟩, ?_⟩, ?_, ?_⟩
    · have e5 := c5.1
      rw [l5] at e5
      rw [f_X8_feed, hx1, show (20 : Int32) = nI 20 from rfl, li500, q_add, if_pos (of_eq_true (le_tt (by omega) (by omega) z)), b1, Option.bind_some, b2, Option.bind_some, b3, Option.bind_some, b4, Option.bind_some, b5, Option.bind_some, e5]
    · have e5 := r5.1
      rw [l5] at e5
      rw [f_X9_feed, hm1, show (480 : Int32) = nI 480 by decide, if_pos (of_eq_true (le_tt (by omega) (by omega) (by omega))), q1, Option.bind_some, q2, Option.bind_some, q3, Option.bind_some, q4, Option.bind_some, q5, Option.bind_some, e5]
    · rcases List.mem_append.mp hb with hb | hb
      · rcases List.mem_append.mp hb with hb | hb
        · rcases List.mem_append.mp hb with hb | hb
          · rcases List.mem_append.mp hb with hb | hb
            · rcases List.mem_append.mp hb with hb | hb
              · exact hP.2.2.2.2 b hb
              · exact by4_b _ b hb
            · exact by4_b _ b hb
          · exact by4_b _ b hb
        · exact by4_b _ b hb
      · exact by4_b _ b hb
    · rw [dx.1 _ _ _ (by omega), dm.1 _ _ _ (by omega)]; exact hf2
    · rw [dx.1 _ _ _ (by omega), dm.1 _ _ _ (by omega)]; exact h7
    · rw [dx.1 _ _ _ (by omega), dm.1 _ _ _ (by omega), dm.1 _ _ _ (by omega)]; exact h9
  · refine ⟨wx, sF wm 9 0 0 (0 : Int32), n1, ?_, ?_, f, nf, tk, R, A, NL, tp, ⟨hX, hM.tape hF0.kt hT0, hP, ?_⟩, ?_, ?_⟩
    · rw [f_X8_feed, hx1, show (20 : Int32) = nI 20 from rfl, li500, q_add, if_neg (of_eq_false (le_tf (by omega) (by omega) (by omega)))]; rfl
    · rw [f_X9_feed, hm1, show (480 : Int32) = nI 480 by decide, if_neg (of_eq_false (le_tf (by omega) (by omega) (by omega)))]; rfl
    · rw [hF0.1 _ _ _ (by omega)]; exact hf2
    · rw [hF0.1 _ _ _ (by omega)]; exact h7
    · rw [hF0.1 _ _ _ (by omega), hF0.1 _ _ _ (by omega)]; exact h9
