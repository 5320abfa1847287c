/-! text: tokens; the model's -/
def TkM (w : Mem) : Kd → Prop
  | none => gF w 9 16 0 = nI 0
  | some (.inl _) => gF w 9 16 0 = nI 2
  | some (.inr (.inl d)) => gF w 9 16 0 = nI 3 ∧ gF w 9 17 0 = nI d
  | some (.inr (.inr (.inl c))) => gF w 9 16 0 = nI c
  | some (.inr (.inr (.inr _))) => gF w 9 16 0 = nI 1
abbrev Fr9 (w v : Mem) : Prop := Fr (fun k j i => k = 9 ∧ (14 ≤ j ∧ j ≤ 17) ∧ i = 0) (fun _ _ => False) w v
theorem Fr15.z {w v : Mem} (h : Fr15 w v) : Fr9 w v := h.mono (fun _ _ _ z => by omega) (fun _ _ z => z)
theorem goes_ok {N n q p q' : Nat} {w : Mem} {tp : List Nat} {K : Kd} (hN : 600 < N) (hT : TMt w tp) (hb : ∀ b, b ∈ tp → b < 256) (hl : tp.length ≤ 500) (hn : n ≤ tp.length) (h13 : gF w 9 13 0 = nI n) (h15 : gF w 9 15 0 = nI q) (h : NT tp n q p q' K) : ∃ w', f_X9_goesOn N w = some w' ∧ TkM w' K ∧ gF w' 9 14 0 = nI p ∧ (K ≠ .bad → gF w' 9 15 0 = nI q') ∧ Fr9 w w' := by
  have hsk : SK (bla tp) q n p := h.sk
  have hp := hsk.2.1
  obtain ⟨w1, a1, a2, a3⟩ := mblanks_ok (N := N) (fun (w_1 : Mem) => (f_X9_goesOn_26 N w_1)) hb hl hn (p - q) N q w (by have := hsk.1; omega) (by omega) hT h13 h15 hsk
  have hbb := getD_b hb p
  have hm1 : ¬ nI (tp.getD p 0) = (-1 : Int32) := nI_n1 (by omega)
  let w2 : Mem := sF w1 9 14 0 (gF w1 9 15 0)
  have hF2 : Fr9 w w2 := (Fr15.z a3).tr ⟨fun k j i z => by show gF (sF _ _ _ _ _) _ _ _ = _; rw [gF_sF, if_neg (by omega)], fun _ _ _ => rfl, fun _ _ => rfl, fun _ _ _ => rfl⟩
  have g14 : gF w2 9 14 0 = nI p := by show gF (sF _ _ _ _ _) _ _ _ = _; rw [gF_sF, if_pos ⟨rfl, rfl, rfl⟩]; exact a2
  have g15 : gF w2 9 15 0 = nI p := by show gF (sF _ _ _ _ _) _ _ _ = _; rw [gF_sF, if_neg (by omega)]; exact a2
  have g13 : gF w2 9 13 0 = nI n := (hF2.1 _ _ _ (by omega)).trans h13
  have hT2 : TMt w2 tp := TMt_fr hT hF2 (fun _ _ z => z.elim)
  have hgo : f_X9_goesOn N w = f_X9_goesOn_26 N w1 := a1
  have hse := see_ok (N := N) hT2 hl hn g13 (show p ≤ 500 by omega)
  have hse' : f_X9_see N w2 (gF w2 9 15 0) = some (if n ≤ p then n1 else nI (tp.getD p 0)) := by rw [g15]; exact hse
  have l97 : (97 : Int32) = nI 97 := rfl
  have l122 : (122 : Int32) = nI 122 := rfl
  have l57 : (57 : Int32) = nI 57 := rfl
  have k16 : ∀ (v : Mem) (x : Int32), Fr9 v (sF v 9 16 0 x) := fun v x => ⟨fun k j i z => by rw [gF_sF, if_neg (by omega)], fun _ _ _ => rfl, fun _ _ => rfl, fun _ _ _ => rfl⟩
  have k15 : ∀ (v : Mem) (x : Int32), Fr9 v (sF v 9 15 0 x) := fun v x => ⟨fun k j i z => by rw [gF_sF, if_neg (by omega)], fun _ _ _ => rfl, fun _ _ => rfl, fun _ _ _ => rfl⟩
  have hse2 : f_X9_see N (sF w1 9 14 0 (gF w1 9 15 0)) (gF (sF w1 9 14 0 (gF w1 9 15 0)) 9 15 0) = some (if n ≤ p then n1 else nI (tp.getD p 0)) := hse'
  rw [hgo, f_X9_goesOn_26, hse2, Option.bind_some]
  rcases h with ⟨h, e1_, e2_, e3_⟩ | ⟨b1, b2, b3, b4, b5, e3_⟩ | ⟨b1, b2, b3, b4, b5, e3_⟩ | ⟨b1, b2, b3, b4, e2_, e3_⟩ | ⟨b1, b2, b3, b4, b5, e3_⟩ | ⟨b1, b2, b3, b4, b5, e2_, e3_⟩ | ⟨b1, b2, b3, b4, b5, e3_⟩
  · subst e1_; subst e2_; subst e3_
    rw [if_pos (Nat.le_refl _)]
    refine ⟨sF w2 9 16 0 0, if_pos rfl, ?_, ?_, fun _ => ?_, hF2.tr (k16 _ _)⟩
    · show gF (sF w2 9 16 0 0) 9 16 0 = nI 0; rw [gF_sF, if_pos ⟨rfl, rfl, rfl⟩]; rfl
    · rw [gF_sF, if_neg (by omega)]; exact g14
    · rw [gF_sF, if_neg (by omega)]; exact g15
  · subst e3_
    obtain ⟨w3, c1, c2, c3⟩ := mletters_ok (N := N) (fun (w_21 : Mem) => (f_X9_goesOn_96 N w_21)) hb hl hn (q' - p) N p w2 (by have := b4.1; omega) (by have := b4.2.1; omega) hT2 g13 g15 b4
    have d14 : gF w3 9 14 0 = nI p := (c3.1 _ _ _ (by omega)).trans g14
    rw [if_neg (show ¬ n ≤ p by omega), if_neg hm1, l97, l122, in_rng (by omega) (by omega) (by omega), Option.bind_some, b01_t b3, if_neg (show ¬ (nI 1 : Int32) = 0 by decide)]
    refine ⟨sF w3 9 16 0 2, ?_, ?_, ?_, fun _ => ?_, (hF2.tr (Fr15.z c3)).tr (k16 _ _)⟩
    · show lp_X9_goesOn_65 (fun (w_21 : Mem) => (f_X9_goesOn_96 N w_21)) N N w2 = _
      rw [c1]
      show f_X9_goesOn_96 N w3 = _
      rw [f_X9_goesOn_96, c2, d14, q_sub b4.1, li6, if_pos (of_eq_true (le_tt (by omega) (by omega) b5))]
    · show gF (sF w3 9 16 0 2) 9 16 0 = nI 2; rw [gF_sF, if_pos ⟨rfl, rfl, rfl⟩]; rfl
    · rw [gF_sF, if_neg (by omega)]; exact d14
    · rw [gF_sF, if_neg (by omega)]; exact c2
  · subst e3_
    obtain ⟨w3, c1, c2, c3⟩ := mletters_ok (N := N) (fun (w_21 : Mem) => (f_X9_goesOn_96 N w_21)) hb hl hn (q' - p) N p w2 (by have := b4.1; omega) (by have := b4.2.1; omega) hT2 g13 g15 b4
    have d14 : gF w3 9 14 0 = nI p := (c3.1 _ _ _ (by omega)).trans g14
    rw [if_neg (show ¬ n ≤ p by omega), if_neg hm1, l97, l122, in_rng (by omega) (by omega) (by omega), Option.bind_some, b01_t b3, if_neg (show ¬ (nI 1 : Int32) = 0 by decide)]
    refine ⟨sF w3 9 16 0 1, ?_, ?_, ?_, fun z => absurd rfl z, (hF2.tr (Fr15.z c3)).tr (k16 _ _)⟩
    · show lp_X9_goesOn_65 (fun (w_21 : Mem) => (f_X9_goesOn_96 N w_21)) N N w2 = _
      rw [c1]
      show f_X9_goesOn_96 N w3 = _
      have := b4.2.1
      rw [f_X9_goesOn_96, c2, d14, q_sub b4.1, li6, if_neg (of_eq_false (le_tf (by omega) (by omega) b5))]
    · show gF (sF w3 9 16 0 1) 9 16 0 = nI 1; rw [gF_sF, if_pos ⟨rfl, rfl, rfl⟩]; rfl
    · rw [gF_sF, if_neg (by omega)]; exact d14
  · subst e2_; subst e3_
    have hnl : ¬ let_ tp p := fun z => by have := z.1; have := b3.2; omega
    let w4 : Mem := sF w2 9 17 0 (nI (tp.getD p 0 - 48))
    have hF4 : Fr9 w2 w4 := ⟨fun k j i z => by show gF (sF _ _ _ _ _) _ _ _ = _; rw [gF_sF, if_neg (by omega)], fun _ _ _ => rfl, fun _ _ => rfl, fun _ _ _ => rfl⟩
    have hsd : SK (dig tp) p n (p + 1) := ⟨by omega, by omega, fun k y1 y2 => by
      have e : k = p := by omega
      rw [e]; exact b3, by
      by_cases z : p + 1 < n
      · exact Or.inr (fun y => b4 ⟨z, y⟩)
      · exact Or.inl (by omega)⟩
    obtain ⟨w3, c1, c2, c3⟩ := mdigits_ok (N := N) (fun (w_13 : Mem) => (f_X9_goesOn_170 N w_13)) hb hl hn 1 N p w4 (by omega) (by omega) (TMt_fr hT2 hF4 (fun _ _ z => z.elim)) ((hF4.1 _ _ _ (by omega)).trans g13) (by show gF (sF _ _ _ _ _) _ _ _ = _; rw [gF_sF, if_neg (by omega)]; exact g15) hsd
    have d14 : gF w3 9 14 0 = nI p := (c3.1 _ _ _ (by omega)).trans (by show gF (sF _ _ _ _ _) _ _ _ = _; rw [gF_sF, if_neg (by omega)]; exact g14)
    have d17 : gF w3 9 17 0 = nI (tp.getD p 0 - 48) := (c3.1 _ _ _ (by omega)).trans (by show gF (sF _ _ _ _ _) _ _ _ = _; rw [gF_sF, if_pos ⟨rfl, rfl, rfl⟩])
    rw [if_neg (show ¬ n ≤ p by omega), if_neg hm1, l97, l122, in_rng (by omega) (by omega) (by omega), Option.bind_some, b01_f hnl, if_pos (show (nI 0 : Int32) = 0 from rfl), li48, l57, in_rng (by omega) (by omega) (by omega), Option.bind_some, b01_t b3, if_neg (show ¬ (nI 1 : Int32) = 0 by decide), q_sub b3.1]
    refine ⟨sF w3 9 16 0 3, ?_, ⟨?_, ?_⟩, ?_, fun _ => ?_, ((hF2.tr hF4).tr (Fr15.z c3)).tr (k16 _ _)⟩
    · show lp_X9_goesOn_139 (fun (w_13 : Mem) => (f_X9_goesOn_170 N w_13)) N N w4 = _
      rw [c1]
      show f_X9_goesOn_170 N w3 = _
      rw [f_X9_goesOn_170, c2, d14, q_sub (by omega), li1, if_pos (of_eq_true (le_tt (by omega) (by omega) (by omega)))]
    · rw [gF_sF, if_pos ⟨rfl, rfl, rfl⟩]; rfl
    · rw [gF_sF, if_neg (by omega)]; exact d17
    · rw [gF_sF, if_neg (by omega)]; exact d14
    · rw [gF_sF, if_neg (by omega)]; exact c2
  · subst e3_
    have hnl : ¬ let_ tp p := fun z => by have := z.1; have := b3.2; omega
    let w4 : Mem := sF w2 9 17 0 (nI (tp.getD p 0 - 48))
    have hF4 : Fr9 w2 w4 := ⟨fun k j i z => by show gF (sF _ _ _ _ _) _ _ _ = _; rw [gF_sF, if_neg (by omega)], fun _ _ _ => rfl, fun _ _ => rfl, fun _ _ _ => rfl⟩
    obtain ⟨e, hsd⟩ := SK_ex (dig tp) (n := n) (n - p) p (by omega)
    have he : p + 2 ≤ e := by
      have y1 := hsd.1
      have y2 := hsd.2.1
      rcases hsd.2.2.2 with y | y
      · omega
      · by_cases z : e = p
        · subst z; exact absurd b3 y
        · by_cases z : e = p + 1
          · subst z; exact absurd b5 y
          · omega
    have he2 := hsd.2.1
    obtain ⟨w3, c1, c2, c3⟩ := mdigits_ok (N := N) (fun (w_13 : Mem) => (f_X9_goesOn_170 N w_13)) hb hl hn (e - p) N p w4 (by omega) (by omega) (TMt_fr hT2 hF4 (fun _ _ z => z.elim)) ((hF4.1 _ _ _ (by omega)).trans g13) (by show gF (sF _ _ _ _ _) _ _ _ = _; rw [gF_sF, if_neg (by omega)]; exact g15) hsd
    have d14 : gF w3 9 14 0 = nI p := (c3.1 _ _ _ (by omega)).trans (by show gF (sF _ _ _ _ _) _ _ _ = _; rw [gF_sF, if_neg (by omega)]; exact g14)
    rw [if_neg (show ¬ n ≤ p by omega), if_neg hm1, l97, l122, in_rng (by omega) (by omega) (by omega), Option.bind_some, b01_f hnl, if_pos (show (nI 0 : Int32) = 0 from rfl), li48, l57, in_rng (by omega) (by omega) (by omega), Option.bind_some, b01_t b3, if_neg (show ¬ (nI 1 : Int32) = 0 by decide), q_sub b3.1]
    refine ⟨sF w3 9 16 0 1, ?_, ?_, ?_, fun z => absurd rfl z, ((hF2.tr hF4).tr (Fr15.z c3)).tr (k16 _ _)⟩
    · show lp_X9_goesOn_139 (fun (w_13 : Mem) => (f_X9_goesOn_170 N w_13)) N N w4 = _
      rw [c1]
      show f_X9_goesOn_170 N w3 = _
      rw [f_X9_goesOn_170, c2, d14, q_sub (by omega)]
      exact if_neg (of_eq_false (le_tf (a := e - p) (b := 1) (by omega) (by omega) (by omega)))
    · show gF (sF w3 9 16 0 1) 9 16 0 = nI 1; rw [gF_sF, if_pos ⟨rfl, rfl, rfl⟩]; rfl
    · rw [gF_sF, if_neg (by omega)]; exact d14
  · subst e2_; subst e3_
    rw [if_neg (show ¬ n ≤ p by omega), if_neg hm1, l97, l122, in_rng (by omega) (by omega) (by omega), Option.bind_some, b01_f b3, if_pos (show (nI 0 : Int32) = 0 from rfl), li48, l57, in_rng (by omega) (by omega) (by omega), Option.bind_some, b01_f b4, if_pos (show (nI 0 : Int32) = 0 from rfl)]
    have hd : (gF w2 9 15 0 + 1) = nI (p + 1) := by rw [g15, li1, q_add]
    refine ⟨sF (sF w2 9 15 0 (nI (p + 1))) 9 16 0 (nI (tp.getD p 0)), ?_, ?_, ?_, fun _ => ?_, (hF2.tr (k15 _ _)).tr (k16 _ _)⟩
    · rw [← hd]
      rcases b5 with y | y | y | y | y <;> rw [y] <;> rfl
    · show gF (sF (sF w2 9 15 0 (nI (p + 1))) 9 16 0 (nI (tp.getD p 0))) 9 16 0 = _; rw [gF_sF, if_pos ⟨rfl, rfl, rfl⟩]
    · rw [gF_sF, if_neg (by omega), gF_sF, if_neg (by omega)]; exact g14
    · rw [gF_sF, if_neg (by omega), gF_sF, if_pos ⟨rfl, rfl, rfl⟩]
  · subst e3_
    have hne : ∀ c : Nat, c < 128 → sig c → ¬ nI (tp.getD p 0) = nI c := fun c hc hs z => b5 (by rw [(nI_inj_iff (by omega) (by omega)).mp z]; exact hs)
    have n59 : ¬ nI (tp.getD p 0) = (59 : Int32) := hne 59 (by omega) (Or.inl rfl)
    have n44 : ¬ nI (tp.getD p 0) = (44 : Int32) := hne 44 (by omega) (Or.inr (Or.inl rfl))
    have n61 : ¬ nI (tp.getD p 0) = (61 : Int32) := hne 61 (by omega) (Or.inr (Or.inr (Or.inl rfl)))
    have n40 : ¬ nI (tp.getD p 0) = (40 : Int32) := hne 40 (by omega) (Or.inr (Or.inr (Or.inr (Or.inl rfl))))
    have n41 : ¬ nI (tp.getD p 0) = (41 : Int32) := hne 41 (by omega) (Or.inr (Or.inr (Or.inr (Or.inr rfl))))
    rw [if_neg (show ¬ n ≤ p by omega), if_neg hm1, l97, l122, in_rng (by omega) (by omega) (by omega), Option.bind_some, b01_f b3, if_pos (show (nI 0 : Int32) = 0 from rfl), li48, l57, in_rng (by omega) (by omega) (by omega), Option.bind_some, b01_f b4, if_pos (show (nI 0 : Int32) = 0 from rfl), if_neg n59, if_neg n44, if_neg n61, if_neg n40, if_neg n41]
    refine ⟨_, rfl, ?_, ?_, fun z => absurd rfl z, (hF2.tr (k15 w2 (gF w2 9 15 0 + 1))).tr (k16 _ 1)⟩
    · show gF (sF (sF w2 9 15 0 (gF w2 9 15 0 + 1)) 9 16 0 1) 9 16 0 = nI 1; rw [gF_sF, if_pos ⟨rfl, rfl, rfl⟩]; rfl
    · show gF (sF (sF w2 9 15 0 (gF w2 9 15 0 + 1)) 9 16 0 1) 9 14 0 = nI p
      rw [gF_sF, if_neg (by omega), gF_sF, if_neg (by omega)]; exact g14
