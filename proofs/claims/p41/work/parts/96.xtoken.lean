/-! text: tokens; the class's -/
def Kd : Type := Option (List Nat ⊕ (Nat ⊕ (Nat ⊕ Unit)))
abbrev Kd.eot : Kd := none
abbrev Kd.word (ls : List Nat) : Kd := some (.inl ls)
abbrev Kd.dig (d : Nat) : Kd := some (.inr (.inl d))
abbrev Kd.sgn (c : Nat) : Kd := some (.inr (.inr (.inl c)))
abbrev Kd.bad : Kd := some (.inr (.inr (.inr ())))
theorem Kd.cs (K : Kd) : K = .eot ∨ (∃ ls, K = .word ls) ∨ (∃ d, K = .dig d) ∨ (∃ c, K = .sgn c) ∨ K = .bad := by
  rcases K with _ | (ls | d | c | u)
  · exact Or.inl rfl
  · exact Or.inr (Or.inl ⟨ls, rfl⟩)
  · exact Or.inr (Or.inr (Or.inl ⟨d, rfl⟩))
  · exact Or.inr (Or.inr (Or.inr (Or.inl ⟨c, rfl⟩)))
  · exact Or.inr (Or.inr (Or.inr (Or.inr rfl)))
def sig (c : Nat) : Prop := c = 59 ∨ c = 44 ∨ c = 61 ∨ c = 40 ∨ c = 41
/-- the token behind q: where it starts, where it ends, what it is -/
def NT (tp : List Nat) (n q p q' : Nat) (K : Kd) : Prop :=
  (SK (bla tp) q n n ∧ n = p ∧ n = q' ∧ K = .eot) ∨ (SK (bla tp) q n p ∧ p < n ∧ let_ tp p ∧ SK (let_ tp) p n q' ∧ q' - p ≤ 6 ∧ K = .word (cut tp p q')) ∨ (SK (bla tp) q n p ∧ p < n ∧ let_ tp p ∧ SK (let_ tp) p n q' ∧ 6 < q' - p ∧ K = .bad) ∨ (SK (bla tp) q n p ∧ p < n ∧ dig tp p ∧ ¬ (p + 1 < n ∧ dig tp (p + 1)) ∧ q' = p + 1 ∧ K = .dig (tp.getD p 0 - 48)) ∨ (SK (bla tp) q n p ∧ p < n ∧ dig tp p ∧ p + 1 < n ∧ dig tp (p + 1) ∧ K = .bad) ∨ (SK (bla tp) q n p ∧ p < n ∧ ¬ let_ tp p ∧ ¬ dig tp p ∧ sig (tp.getD p 0) ∧ q' = p + 1 ∧ K = .sgn (tp.getD p 0)) ∨ (SK (bla tp) q n p ∧ p < n ∧ ¬ let_ tp p ∧ ¬ dig tp p ∧ ¬ sig (tp.getD p 0) ∧ K = .bad)
theorem NT.sk {tp : List Nat} {n q p q' : Nat} {K : Kd} (h : NT tp n q p q' K) : SK (bla tp) q n p := by
  rcases h with ⟨h, e, _⟩ | h | h | h | h | h | h
  · rw [← e]; exact h
  all_goals exact h.1
theorem NT_ex (tp : List Nat) {n q : Nat} (hq : q ≤ n) : ∃ p q' K, NT tp n q p q' K := by
  obtain ⟨p, hp⟩ := SK_ex (bla tp) (n := n) (n - q) q (by omega)
  by_cases e : p < n
  · by_cases hl : let_ tp p
    · obtain ⟨r, hr⟩ := SK_ex (let_ tp) (n := n) (n - p) p (by omega)
      by_cases z : r - p ≤ 6
      · exact ⟨_, _, _, Or.inr (Or.inl ⟨hp, e, hl, hr, z, rfl⟩)⟩
      · exact ⟨_, _, _, Or.inr (Or.inr (Or.inl ⟨hp, e, hl, hr, by omega, rfl⟩))⟩
    · by_cases hd : dig tp p
      · by_cases z : p + 1 < n ∧ dig tp (p + 1)
        · exact ⟨p, p, _, Or.inr (Or.inr (Or.inr (Or.inr (Or.inl ⟨hp, e, hd, z.1, z.2, rfl⟩))))⟩
        · exact ⟨_, _, _, Or.inr (Or.inr (Or.inr (Or.inl ⟨hp, e, hd, z, rfl, rfl⟩)))⟩
      · by_cases z : sig (tp.getD p 0)
        · exact ⟨_, _, _, Or.inr (Or.inr (Or.inr (Or.inr (Or.inr (Or.inl ⟨hp, e, hl, hd, z, rfl, rfl⟩)))))⟩
        · exact ⟨p, p, _, Or.inr (Or.inr (Or.inr (Or.inr (Or.inr (Or.inr ⟨hp, e, hl, hd, z, rfl⟩)))))⟩
  · have h2 : p = n := by have := hp.2.1; omega
    subst h2
    exact ⟨_, _, _, Or.inl ⟨hp, rfl, rfl, rfl⟩⟩
theorem LET_cut {tp : List Nat} {a b : Nat} (hb : b ≤ tp.length) (h : ∀ k, a ≤ k → k < b → let_ tp k) : LET (cut tp a b) := fun c hc => by
  obtain ⟨i, hi, rfl⟩ := List.getElem_of_mem hc
  rw [cut_len hb] at hi
  have g := cut_getD (tp := tp) (a := a) (b := b) (i := i) (by omega)
  rw [List.getD_eq_getElem?_getD, List.getElem?_eq_getElem (by rw [cut_len hb]; exact hi)] at g
  have g2 : (cut tp a b)[i]'(by rw [cut_len hb]; exact hi) = tp.getD (a + i) 0 := g
  rw [g2]
  exact h (a + i) (by omega) (by omega)
/-- what a token is good for -/
def KO (tp : List Nat) (n p q : Nat) : Kd → Prop
  | none => p = n ∧ q = n
  | some (.inl ls) => WOK ls ∧ ls = cut tp p q ∧ p < q ∧ q ≤ n
  | some (.inr (.inl d)) => d ≤ 9 ∧ q = p + 1 ∧ q ≤ n
  | some (.inr (.inr (.inl c))) => sig c ∧ q = p + 1 ∧ q ≤ n
  | some (.inr (.inr (.inr _))) => True
theorem NT.ko {tp : List Nat} {n q p q' : Nat} {K : Kd} (hn : n ≤ tp.length) (h : NT tp n q p q' K) : KO tp n p q' K ∧ q ≤ p ∧ p ≤ n := by
  rcases h with ⟨h, e1_, e2_, e3_⟩ | ⟨h1, h2, h3, h4, h5, e3_⟩ | ⟨h1, h2, h3, h4, h5, e3_⟩ | ⟨h1, h2, h3, h4, e2_, e3_⟩ | ⟨h1, h2, h3, h4, h5, e3_⟩ | ⟨h1, h2, h3, h4, h5, e2_, e3_⟩ | ⟨h1, h2, h3, h4, h5, e3_⟩
  · subst e1_; subst e2_; subst e3_
    exact ⟨⟨rfl, rfl⟩, h.1, Nat.le_refl _⟩
  · subst e3_
    have hpq : p < q' := by
      have a1 := h4.1
      rcases h4.2.2.2 with y | y
      · omega
      · by_cases e : p = q'
        · subst e; exact absurd h3 y
        · omega
    refine ⟨⟨⟨?_, ?_, LET_cut (by have := h4.2.1; omega) h4.2.2.1⟩, rfl, hpq, h4.2.1⟩, h1.1, h1.2.1⟩
    · rw [cut_len (by have := h4.2.1; omega)]; omega
    · rw [cut_len (by have := h4.2.1; omega)]; omega
  · subst e3_
    exact ⟨trivial, h1.1, h1.2.1⟩
  · subst e2_; subst e3_
    exact ⟨⟨by have := h3.2; omega, rfl, h2⟩, h1.1, h1.2.1⟩
  · subst e3_
    exact ⟨trivial, h1.1, h1.2.1⟩
  · subst e2_; subst e3_
    exact ⟨⟨h5, rfl, h2⟩, h1.1, h1.2.1⟩
  · subst e3_
    exact ⟨trivial, h1.1, h1.2.1⟩
/-- the class's token -/
def TkX (w : Mem) : Kd → Prop
  | none => gF w 5 6 0 = nI 0
  | some (.inl ls) => gF w 5 6 0 = nI 1 ∧ gF w 5 7 0 = nI (wn ls)
  | some (.inr (.inl d)) => gF w 5 6 0 = nI 2 ∧ gF w 5 7 0 = nI d
  | some (.inr (.inr (.inl c))) => gF w 5 6 0 = nI 3 ∧ gF w 5 7 0 = nI c
  | some (.inr (.inr (.inr _))) => gF w 5 6 0 = nI 4
abbrev Fr5 (w v : Mem) : Prop := Fr (fun k j i => k = 5 ∧ (5 ≤ j ∧ j ≤ 8) ∧ i = 0) (fun _ _ => False) w v
theorem isDigit_ok {N q : Nat} {w : Mem} {tp : List Nat} (hT : TX w tp) (hb : ∀ b, b ∈ tp → b < 256) (hl : tp.length ≤ 500) (hq : q < tp.length) : f_X6_isDigit N w (nI q) = some (nI (b01 (dig tp q))) := by
  have c := hT.2 q hq
  have hbb := getD_b hb q
  rw [f_X6_isDigit, if_pos (inb_t (by omega) (by omega)), cl_t (by omega), c, show (48 : Int32) = nI 48 from rfl, show (57 : Int32) = nI 57 from rfl]
  by_cases z1 : sb (tp.getD q 0) < nI 48
  · have := (sb_ge hbb (by omega)).mp z1
    rw [if_pos z1, b01_f (fun y => by have := y.1; have := y.2; omega)]; rfl
  · rw [if_neg z1]
    have z3 : ¬ (tp.getD q 0 < 48 ∨ 128 ≤ tp.getD q 0) := fun y => z1 ((sb_ge hbb (by omega)).mpr y)
    by_cases z2 : nI 57 < sb (tp.getD q 0)
    · have := (sb_gt hbb (by omega)).mp z2
      rw [if_pos z2, b01_f (fun y => by have := y.2; omega)]; rfl
    · have z4 : ¬ (57 < tp.getD q 0 ∧ tp.getD q 0 < 128) := fun y => z2 ((sb_gt hbb (by omega)).mpr y)
      rw [if_neg z2, b01_t ⟨by omega, by omega⟩]; rfl
def w5 (w : Mem) (p : Nat) (k v b : Int32) : Mem := sF (sF (sF (sF w 5 5 0 (nI p)) 5 6 0 k) 5 7 0 v) 5 8 0 b
theorem w5_fr (w : Mem) (p : Nat) (k v b : Int32) : Fr5 w (w5 w p k v b) := ⟨fun k j i z => by
  unfold w5
  rw [gF_sF, if_neg (by omega), gF_sF, if_neg (by omega), gF_sF, if_neg (by omega), gF_sF, if_neg (by omega)], fun _ _ _ => rfl, fun _ _ => rfl, fun _ _ _ => rfl⟩
theorem w5_5 (w : Mem) (p : Nat) (k v b : Int32) : gF (w5 w p k v b) 5 5 0 = nI p := by
  unfold w5
  rw [gF_sF, if_neg (by omega), gF_sF, if_neg (by omega), gF_sF, if_neg (by omega), gF_sF, if_pos ⟨rfl, rfl, rfl⟩]
theorem w5_6 (w : Mem) (p : Nat) (k v b : Int32) : gF (w5 w p k v b) 5 6 0 = k := by
  unfold w5
  rw [gF_sF, if_neg (by omega), gF_sF, if_neg (by omega), gF_sF, if_pos ⟨rfl, rfl, rfl⟩]
theorem w5_7 (w : Mem) (p : Nat) (k v b : Int32) : gF (w5 w p k v b) 5 7 0 = v := by
  unfold w5
  rw [gF_sF, if_neg (by omega), gF_sF, if_pos ⟨rfl, rfl, rfl⟩]
theorem w5_8 (w : Mem) (p : Nat) (k v b : Int32) : gF (w5 w p k v b) 5 8 0 = b := by
  unfold w5
  rw [gF_sF, if_pos ⟨rfl, rfl, rfl⟩]
/-- advance -/
theorem adv_ok {N n q p q' : Nat} {w : Mem} {tp : List Nat} {K : Kd} (hN : 600 < N) (hT : TX w tp) (hb : ∀ b, b ∈ tp → b < 256) (hl : tp.length ≤ 500) (hn : n ≤ tp.length) (h1 : gF w 5 1 0 = nI n) (h8 : gF w 5 8 0 = nI q) (h : NT tp n q p q' K) : ∃ w', f_X5_advance N w = some w' ∧ TkX w' K ∧ gF w' 5 5 0 = nI p ∧ (K ≠ .bad → gF w' 5 8 0 = nI q') ∧ Fr5 w w' := by
  have hsk : SK (bla tp) q n p := h.sk
  have g5 : gF (sF w 5 5 0 (nI p)) 5 5 0 = nI p := by rw [gF_sF, if_pos ⟨rfl, rfl, rfl⟩]
  have g1 : gF (sF w 5 5 0 (nI p)) 5 1 0 = nI n := by rw [gF_sF, if_neg (by omega)]; exact h1
  have hT0 : TX (sF w 5 5 0 (nI p)) tp := ⟨by rw [gF_sF, if_neg (by omega)]; exact hT.1, fun i hi => by rw [gA_sF]; exact hT.2 i hi⟩
  have hp := hsk.2.1
  have e0 : f_X5_advance N w = (fun z1 => f_X5_advance N w) () := rfl
  rw [f_X5_advance, h8, h1, blanks_ok hN hT hb hl hn hsk, Option.bind_some, g5, g1]
  have hbb := getD_b hb p
  have hlet := fun (hq : p < tp.length) => isLetter_ok (N := N) hT0 hb hl hq
  have hdig := fun (hq : p < tp.length) => isDigit_ok (N := N) hT0 hb hl hq
  have hc := fun (hq : p < tp.length) => hT0.2 p hq
  rcases h with ⟨h, e1_, e2_, e3_⟩ | ⟨a1, a2, a3, a4, a5, e3_⟩ | ⟨a1, a2, a3, a4, a5, e3_⟩ | ⟨a1, a2, a3, a4, e2_, e3_⟩ | ⟨a1, a2, a3, a4, a5, e3_⟩ | ⟨a1, a2, a3, a4, a5, e2_, e3_⟩ | ⟨a1, a2, a3, a4, a5, e3_⟩
  · subst e1_; subst e2_; subst e3_
    rw [if_neg (of_eq_false (lt_tf (by omega) (by omega) (Nat.le_refl _)))]
    exact ⟨w5 w n 0 0 (nI n), rfl, w5_6 _ _ _ _ _, w5_5 _ _ _ _ _, fun _ => w5_8 _ _ _ _ _, w5_fr _ _ _ _ _⟩
  · subst e3_
    have hw := wordNumber_ok (N := N) hN hT0 hl a4.1 (by have := a4.2.1; omega) a4.2.2.1
    have hlt : LET (cut tp p q') := LET_cut (by have := a4.2.1; omega) a4.2.2.1
    have hko : KO tp n p q' (.word (cut tp p q')) := (NT.ko (q := q) hn (Or.inr (Or.inl ⟨a1, a2, a3, a4, a5, rfl⟩))).1
    have hwp := wn_pos hlt (fun z => by have := hko.1.1; rw [z] at this; exact absurd this (by decide))
    have hwb := wn_b6 (l := cut tp p q') (by rw [cut_len (by have := a4.2.1; omega)]; exact a5) hlt
    rw [if_pos (of_eq_true (lt_tt (by omega) (by omega) a2)), hlet (by omega), Option.bind_some, b01_t a3, if_neg (by decide), letters_ok hN hT0 hb hl hn a4, Option.bind_some, hw, Option.bind_some, if_pos a5, if_neg (fun z => by have := (nI_inj_iff (b := 0) (by omega) (by omega)).mp z; omega)]
    exact ⟨w5 w p 1 (nI (wn (cut tp p q'))) (nI q'), rfl, ⟨w5_6 _ _ _ _ _, w5_7 _ _ _ _ _⟩, w5_5 _ _ _ _ _, fun _ => w5_8 _ _ _ _ _, w5_fr _ _ _ _ _⟩
  · subst e3_
    have hw := wordNumber_ok (N := N) hN hT0 hl a4.1 (by have := a4.2.1; omega) a4.2.2.1
    rw [if_pos (of_eq_true (lt_tt (by omega) (by omega) a2)), hlet (by omega), Option.bind_some, b01_t a3, if_neg (by decide), letters_ok hN hT0 hb hl hn a4, Option.bind_some, hw, Option.bind_some, if_neg (show ¬ q' - p ≤ 6 by omega), if_pos (show (nI 0 : Int32) = 0 from rfl)]
    exact ⟨w5 w p 4 (nI 0) (nI q'), rfl, w5_6 _ _ _ _ _, w5_5 _ _ _ _ _, fun z => absurd rfl z, w5_fr _ _ _ _ _⟩
  · subst e2_; subst e3_
    have hnl : ¬ let_ tp p := fun z => by have := z.1; have := a3.2; omega
    have e : sb (tp.getD p 0) - 48 = nI (tp.getD p 0 - 48) := by
      unfold sb
      rw [if_pos (by have := a3.2; omega)]
      exact q_sub a3.1
    rw [if_pos (of_eq_true (lt_tt (by omega) (by omega) a2)), hlet (by omega), Option.bind_some, b01_f hnl, if_pos (show (nI 0 : Int32) = 0 from rfl), hdig (by omega), Option.bind_some, b01_t a3, if_neg (show ¬ (nI 1 : Int32) = 0 by decide)]
    have hs2 : f_X5_advance_163_s2 N (sF w 5 5 0 (nI p)) 2 = some (w5 w p 2 (nI (tp.getD p 0 - 48)) (nI (p + 1))) := by
      rw [f_X5_advance_163_s2, g5, if_pos (inb_t (by omega) (by omega)), cl_t (by omega), hc (by omega), e, li1, q_add]
      rfl
    refine ⟨w5 w p 2 (nI (tp.getD p 0 - 48)) (nI (p + 1)), ?_, ⟨w5_6 _ _ _ _ _, w5_7 _ _ _ _ _⟩, w5_5 _ _ _ _ _, fun _ => w5_8 _ _ _ _ _, w5_fr _ _ _ _ _⟩
    by_cases z : n ≤ p + 1
    · rw [li1, q_add, if_pos (of_eq_true (le_tt (by omega) (by omega) z)), if_pos rfl]; exact hs2
    · have z2 : ¬ dig tp (p + 1) := fun y => a4 ⟨by omega, y⟩
      rw [li1, q_add, if_neg (of_eq_false (le_tf (by omega) (by omega) (by omega))), isDigit_ok (N := N) hT0 hb hl (by omega), Option.bind_some, b01_f z2, if_pos (show (nI 0 : Int32) = 0 from rfl), if_pos rfl]; exact hs2
  · subst e3_
    have hnl : ¬ let_ tp p := fun z => by have := z.1; have := a3.2; omega
    rw [if_pos (of_eq_true (lt_tt (by omega) (by omega) a2)), hlet (by omega), Option.bind_some, b01_f hnl, if_pos (show (nI 0 : Int32) = 0 from rfl), hdig (by omega), Option.bind_some, b01_t a3, if_neg (show ¬ (nI 1 : Int32) = 0 by decide), li1, q_add, if_neg (of_eq_false (le_tf (by omega) (by omega) (by omega))), isDigit_ok (N := N) hT0 hb hl (by omega), Option.bind_some, b01_t a5, if_neg (show ¬ (nI 1 : Int32) = 0 by decide), if_neg (show ¬ (nI 1 : Int32) = 0 by decide)]
    refine ⟨w5 w p 4 (sb (tp.getD p 0) - 48) (nI (p + 1)), ?_, w5_6 _ _ _ _ _, w5_5 _ _ _ _ _, fun z => absurd rfl z, w5_fr _ _ _ _ _⟩
    rw [f_X5_advance_163_s2, g5, if_pos (inb_t (by omega) (by omega)), cl_t (by omega), hc (by omega), li1, q_add]
    rfl
  · subst e2_; subst e3_
    have e : sb (tp.getD p 0) = nI (tp.getD p 0) := by
      unfold sb
      rw [if_pos (by unfold sig at a5; omega)]
    rw [if_pos (of_eq_true (lt_tt (by omega) (by omega) a2)), hlet (by omega), Option.bind_some, b01_f a3, if_pos (show (nI 0 : Int32) = 0 from rfl), hdig (by omega), Option.bind_some, b01_f a4, if_pos (show (nI 0 : Int32) = 0 from rfl), if_pos (inb_t (by omega) (by omega)), cl_t (by omega), hc (by omega), e]
    have hs1 : f_X5_advance_238_s1 N (sF w 5 5 0 (nI p)) (nI (tp.getD p 0)) 1 = some (w5 w p 3 (nI (tp.getD p 0)) (nI (p + 1))) := by
      rw [f_X5_advance_238_s1, g5, if_neg (show ¬ (1 : Int32) = 0 by decide), li1, q_add]
      rfl
    refine ⟨w5 w p 3 (nI (tp.getD p 0)) (nI (p + 1)), ?_, ⟨w5_6 _ _ _ _ _, w5_7 _ _ _ _ _⟩, w5_5 _ _ _ _ _, fun _ => w5_8 _ _ _ _ _, w5_fr _ _ _ _ _⟩
    rw [hs1]
    rcases a5 with y | y | y | y | y <;> rw [y] <;> rfl
  · subst e3_
    have hne : ∀ c : Nat, c < 128 → sig c → ¬ sb (tp.getD p 0) = nI c := fun c hc hs z => a5 (by rw [(sb_eq hbb hc).mp z]; exact hs)
    have n59 : ¬ sb (tp.getD p 0) = (59 : Int32) := hne 59 (by omega) (Or.inl rfl)
    have n44 : ¬ sb (tp.getD p 0) = (44 : Int32) := hne 44 (by omega) (Or.inr (Or.inl rfl))
    have n61 : ¬ sb (tp.getD p 0) = (61 : Int32) := hne 61 (by omega) (Or.inr (Or.inr (Or.inl rfl)))
    have n40 : ¬ sb (tp.getD p 0) = (40 : Int32) := hne 40 (by omega) (Or.inr (Or.inr (Or.inr (Or.inl rfl))))
    have n41 : ¬ sb (tp.getD p 0) = (41 : Int32) := hne 41 (by omega) (Or.inr (Or.inr (Or.inr (Or.inr rfl))))
    rw [if_pos (of_eq_true (lt_tt (by omega) (by omega) a2)), hlet (by omega), Option.bind_some, b01_f a3, if_pos (show (nI 0 : Int32) = 0 from rfl), hdig (by omega), Option.bind_some, b01_f a4, if_pos (show (nI 0 : Int32) = 0 from rfl), if_pos (inb_t (by omega) (by omega)), cl_t (by omega), hc (by omega), if_neg n59, if_neg n44, if_neg n61, if_neg n40, if_neg n41]
    refine ⟨w5 w p 4 (sb (tp.getD p 0)) (nI (p + 1)), ?_, w5_6 _ _ _ _ _, w5_5 _ _ _ _ _, fun z => absurd rfl z, w5_fr _ _ _ _ _⟩
    rw [f_X5_advance_238_s1, g5, if_pos rfl, li1, q_add]
    rfl

