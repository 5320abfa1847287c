/-! text: the model's tokens -/
abbrev Fr15 (w v : Mem) : Prop := Fr (fun k j i => k = 9 ∧ j = 15 ∧ i = 0) (fun _ _ => False) w v
abbrev TMt (w : Mem) (tp : List Nat) : Prop := ∀ i, i < tp.length → gA w 40 0 i = nI (tp.getD i 0)
theorem TMt_fr {w v : Mem} {tp : List Nat} {P : Nat → Nat → Nat → Prop} {Q : Nat → Nat → Prop} (h : TMt w tp) (hf : Fr P Q w v) (hQ : ∀ k i, Q k i → k ≠ 40) : TMt v tp := fun i hi => by rw [hf.2.1 _ _ (fun z => hQ _ _ z rfl)]; exact h i hi
theorem see_ok {N n q : Nat} {w : Mem} {tp : List Nat} (hT : TMt w tp) (hl : tp.length ≤ 500) (hn : n ≤ tp.length) (h13 : gF w 9 13 0 = nI n) (hq : q ≤ 500) : f_X9_see N w (nI q) = some (if n ≤ q then n1 else nI (tp.getD q 0)) := by
  rw [f_X9_see, h13]
  by_cases z : n ≤ q
  · rw [if_pos (of_eq_true (le_tt (by omega) (by omega) z)), if_pos z]; rfl
  · rw [if_neg (of_eq_false (le_tf (by omega) (by omega) (by omega))), if_neg z, if_pos (inb_t (by omega) (by omega)), cl_t (by omega), hT q (by omega)]
theorem in_rng {N a b c : Nat} {w : Mem} (ha : a < 1000) (hb : b < 1000) (hc : c < 1000) : f_X9_in N w (nI c) (nI a) (nI b) = some (nI (b01 (a ≤ c ∧ c ≤ b))) := by
  rw [f_X9_in]
  by_cases z : c < a
  · rw [if_pos (of_eq_true (lt_tt (by omega) (by omega) z)), b01_f (fun q => by omega)]; rfl
  · rw [if_neg (of_eq_false (lt_tf (by omega) (by omega) (by omega)))]
    by_cases y : b < c
    · rw [if_pos (of_eq_true (lt_tt (by omega) (by omega) y)), b01_f (fun q => by omega)]; rfl
    · rw [if_neg (of_eq_false (lt_tf (by omega) (by omega) (by omega))), b01_t ⟨by omega, by omega⟩]; rfl
theorem in_n1 {N a b : Nat} {w : Mem} (ha : a < 1000) : f_X9_in N w n1 (nI a) (nI b) = some 0 := by
  rw [f_X9_in, if_pos (of_eq_true (n1_lt (by omega)))]
theorem mblanks_ok {N n j : Nat} {tp : List Nat} (k : Mem → Option Mem) (hb : ∀ b, b ∈ tp → b < 256) (hl : tp.length ≤ 500) (hn : n ≤ tp.length) : ∀ r fu i w, i + r = j → r < fu → TMt w tp → gF w 9 13 0 = nI n → gF w 9 15 0 = nI i → SK (bla tp) i n j → ∃ w', lp_X9_goesOn_0 k N fu w = k w' ∧ gF w' 9 15 0 = nI j ∧ Fr15 w w' := by
  intro r
  induction r with
  | zero =>
    intro fu i w hr hf hT h13 h15 ⟨h1, h2, h3, h4⟩
    obtain ⟨f', rfl⟩ : ∃ g, fu = g + 1 := ⟨fu - 1, by omega⟩
    have e : i = j := by omega
    subst e
    refine ⟨w, ?_, h15, Fr.rf⟩
    have hbb := getD_b hb i
    rw [lp_X9_goesOn_0, h15, see_ok hT hl hn h13 (by omega), Option.bind_some, show (32 : Int32) = nI 32 from rfl]
    by_cases z : n ≤ i
    · rw [if_pos z, if_neg (of_eq_false (n1_eq (by omega)))]
    · have hp : ¬ tp.getD i 0 = 32 := h4.resolve_left (by omega)
      rw [if_neg z, if_neg (of_eq_false (eq_tf (by omega) (by omega) hp))]
  | succ r ih =>
    intro fu i w hr hf hT h13 h15 ⟨h1, h2, h3, h4⟩
    obtain ⟨f', rfl⟩ : ∃ g, fu = g + 1 := ⟨fu - 1, by omega⟩
    have hp : tp.getD i 0 = 32 := h3 i (Nat.le_refl _) (by omega)
    have hF : Fr15 w (sF w 9 15 0 (nI (i + 1))) := ⟨fun k j i z => by rw [gF_sF, if_neg (by omega)], fun _ _ _ => rfl, fun _ _ => rfl, fun _ _ _ => rfl⟩
    obtain ⟨w', a1, a2, a3⟩ := ih f' (i + 1) (sF w 9 15 0 (nI (i + 1))) (by omega) (by omega) (TMt_fr hT hF (fun _ _ z => z.elim)) ((hF.1 _ _ _ (by omega)).trans h13) (by rw [gF_sF, if_pos ⟨rfl, rfl, rfl⟩]) ⟨by omega, h2, fun k y1 y2 => h3 k (by omega) y2, h4⟩
    refine ⟨w', ?_, a2, hF.tr a3⟩
    rw [lp_X9_goesOn_0, h15, see_ok hT hl hn h13 (by omega), Option.bind_some, if_neg (show ¬ n ≤ i by omega), show (32 : Int32) = nI 32 from rfl, if_pos (by rw [hp]), li1, q_add]
    exact a1
theorem mletters_ok {N n j : Nat} {tp : List Nat} (k : Mem → Option Mem) (hb : ∀ b, b ∈ tp → b < 256) (hl : tp.length ≤ 500) (hn : n ≤ tp.length) : ∀ r fu i w, i + r = j → r < fu → TMt w tp → gF w 9 13 0 = nI n → gF w 9 15 0 = nI i → SK (let_ tp) i n j → ∃ w', lp_X9_goesOn_65 k N fu w = k w' ∧ gF w' 9 15 0 = nI j ∧ Fr15 w w' := by
  intro r
  induction r with
  | zero =>
    intro fu i w hr hf hT h13 h15 ⟨h1, h2, h3, h4⟩
    obtain ⟨f', rfl⟩ : ∃ g, fu = g + 1 := ⟨fu - 1, by omega⟩
    have e : i = j := by omega
    subst e
    refine ⟨w, ?_, h15, Fr.rf⟩
    have hbb := getD_b hb i
    rw [lp_X9_goesOn_65, h15, see_ok hT hl hn h13 (by omega), Option.bind_some, show (97 : Int32) = nI 97 from rfl, show (122 : Int32) = nI 122 from rfl]
    by_cases z : n ≤ i
    · rw [if_pos z, in_n1 (by omega), Option.bind_some, if_pos rfl]
    · have hp : ¬ let_ tp i := h4.resolve_left (by omega)
      rw [if_neg z, in_rng (by omega) (by omega) (by omega), Option.bind_some, b01_f hp, if_pos (show (nI 0 : Int32) = 0 from rfl)]
  | succ r ih =>
    intro fu i w hr hf hT h13 h15 ⟨h1, h2, h3, h4⟩
    obtain ⟨f', rfl⟩ : ∃ g, fu = g + 1 := ⟨fu - 1, by omega⟩
    have hp : let_ tp i := h3 i (Nat.le_refl _) (by omega)
    have hbb := getD_b hb i
    have hF : Fr15 w (sF w 9 15 0 (nI (i + 1))) := ⟨fun k j i z => by rw [gF_sF, if_neg (by omega)], fun _ _ _ => rfl, fun _ _ => rfl, fun _ _ _ => rfl⟩
    obtain ⟨w', a1, a2, a3⟩ := ih f' (i + 1) (sF w 9 15 0 (nI (i + 1))) (by omega) (by omega) (TMt_fr hT hF (fun _ _ z => z.elim)) ((hF.1 _ _ _ (by omega)).trans h13) (by rw [gF_sF, if_pos ⟨rfl, rfl, rfl⟩]) ⟨by omega, h2, fun k y1 y2 => h3 k (by omega) y2, h4⟩
    refine ⟨w', ?_, a2, hF.tr a3⟩
    rw [lp_X9_goesOn_65, h15, see_ok hT hl hn h13 (by omega), Option.bind_some, if_neg (show ¬ n ≤ i by omega), show (97 : Int32) = nI 97 from rfl, show (122 : Int32) = nI 122 from rfl, in_rng (by omega) (by omega) (by omega), Option.bind_some, b01_t hp, if_neg (by decide), li1, q_add]
    exact a1
abbrev dig (tp : List Nat) (k : Nat) : Prop := 48 ≤ tp.getD k 0 ∧ tp.getD k 0 ≤ 57
theorem mdigits_ok {N n j : Nat} {tp : List Nat} (k : Mem → Option Mem) (hb : ∀ b, b ∈ tp → b < 256) (hl : tp.length ≤ 500) (hn : n ≤ tp.length) : ∀ r fu i w, i + r = j → r < fu → TMt w tp → gF w 9 13 0 = nI n → gF w 9 15 0 = nI i → SK (dig tp) i n j → ∃ w', lp_X9_goesOn_139 k N fu w = k w' ∧ gF w' 9 15 0 = nI j ∧ Fr15 w w' := by
  intro r
  induction r with
  | zero =>
    intro fu i w hr hf hT h13 h15 ⟨h1, h2, h3, h4⟩
    obtain ⟨f', rfl⟩ : ∃ g, fu = g + 1 := ⟨fu - 1, by omega⟩
    have e : i = j := by omega
    subst e
    refine ⟨w, ?_, h15, Fr.rf⟩
    have hbb := getD_b hb i
    rw [lp_X9_goesOn_139, h15, see_ok hT hl hn h13 (by omega), Option.bind_some, show (48 : Int32) = nI 48 from rfl, show (57 : Int32) = nI 57 from rfl]
    by_cases z : n ≤ i
    · rw [if_pos z, in_n1 (by omega), Option.bind_some, if_pos rfl]
    · have hp : ¬ dig tp i := h4.resolve_left (by omega)
      rw [if_neg z, in_rng (by omega) (by omega) (by omega), Option.bind_some, b01_f hp, if_pos (show (nI 0 : Int32) = 0 from rfl)]
  | succ r ih =>
    intro fu i w hr hf hT h13 h15 ⟨h1, h2, h3, h4⟩
    obtain ⟨f', rfl⟩ : ∃ g, fu = g + 1 := ⟨fu - 1, by omega⟩
    have hp : dig tp i := h3 i (Nat.le_refl _) (by omega)
    have hbb := getD_b hb i
    have hF : Fr15 w (sF w 9 15 0 (nI (i + 1))) := ⟨fun k j i z => by rw [gF_sF, if_neg (by omega)], fun _ _ _ => rfl, fun _ _ => rfl, fun _ _ _ => rfl⟩
    obtain ⟨w', a1, a2, a3⟩ := ih f' (i + 1) (sF w 9 15 0 (nI (i + 1))) (by omega) (by omega) (TMt_fr hT hF (fun _ _ z => z.elim)) ((hF.1 _ _ _ (by omega)).trans h13) (by rw [gF_sF, if_pos ⟨rfl, rfl, rfl⟩]) ⟨by omega, h2, fun k y1 y2 => h3 k (by omega) y2, h4⟩
    refine ⟨w', ?_, a2, hF.tr a3⟩
    rw [lp_X9_goesOn_139, h15, see_ok hT hl hn h13 (by omega), Option.bind_some, if_neg (show ¬ n ≤ i by omega), show (48 : Int32) = nI 48 from rfl, show (57 : Int32) = nI 57 from rfl, in_rng (by omega) (by omega) (by omega), Option.bind_some, b01_t hp, if_neg (by decide), li1, q_add]
    exact a1
