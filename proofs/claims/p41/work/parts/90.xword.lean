/-! the class: the only word of the tape's first n bytes -/
def SK (p : Nat → Prop) (i n j : Nat) : Prop := i ≤ j ∧ j ≤ n ∧ (∀ k, i ≤ k → k < j → p k) ∧ (j = n ∨ ¬ p j)
theorem SK_ex (p : Nat → Prop) {n : Nat} : ∀ (r i : Nat), i + r = n → ∃ j, SK p i n j
  | 0, i, h => ⟨i, Nat.le_refl _, by omega, fun k h1 h2 => by omega, Or.inl (by omega)⟩
  | r + 1, i, h => by
    by_cases z : p i
    · obtain ⟨j, j1, j2, j3, j4⟩ := SK_ex p (n := n) r (i + 1) (by omega)
      refine ⟨j, by omega, j2, fun k h1 h2 => ?_, j4⟩
      by_cases e : k = i
      · subst e; exact z
      · exact j3 k (by omega) h2
    · exact ⟨i, Nat.le_refl _, by omega, fun k h1 h2 => by omega, Or.inr z⟩
theorem SK_uniq {p : Nat → Prop} {i n a b : Nat} (h : SK p i n a) (g : SK p i n b) : a = b := by
  obtain ⟨h1, h2, h3, h4⟩ := h
  obtain ⟨g1, g2, g3, g4⟩ := g
  rcases Nat.lt_trichotomy a b with z | z | z
  · rcases h4 with y | y
    · omega
    · exact absurd (g3 a h1 z) y
  · exact z
  · rcases g4 with y | y
    · omega
    · exact absurd (h3 b g1 z) y
abbrev bla (tp : List Nat) (k : Nat) : Prop := tp.getD k 0 = 32
abbrev let_ (tp : List Nat) (k : Nat) : Prop := 97 ≤ tp.getD k 0 ∧ tp.getD k 0 ≤ 122
theorem getD_b {tp : List Nat} (h : ∀ b, b ∈ tp → b < 256) (k : Nat) : tp.getD k 0 < 256 := by
  rw [List.getD_eq_getElem?_getD]
  by_cases z : k < tp.length
  · rw [List.getElem?_eq_getElem z]
    exact h _ (List.getElem_mem z)
  · rw [List.getElem?_eq_none (by omega)]
    show 0 < 256
    omega
theorem blanks_ok {N i n j : Nat} {w : Mem} {tp : List Nat} (hN : 600 < N) (hT : TX w tp) (hb : ∀ b, b ∈ tp → b < 256) (hl : tp.length ≤ 500) (hn : n ≤ tp.length) (h : SK (bla tp) i n j) : f_X6_behindBlanks N w (nI i) (nI n) = some (nI j) := by
  obtain ⟨h1, h2, h3, h4⟩ := h
  have key := lpe (α := Unit) n (fun fu _ q => lp_X6_behindBlanks_2 (fun (u3_1 : Int32) => (f_X6_behindBlanks_27 N w u3_1)) N w (nI n) fu q) (fun o => o = some (nI j)) (fun q _ => i ≤ q ∧ q ≤ j) ?_ ?_ i N () (by omega) (by omega) ⟨Nat.le_refl _, h1⟩
  · exact key
  · intro fu _ ⟨q1, q2⟩
    have e : j = n := by omega
    show lp_X6_behindBlanks_2 (fun (u3_1 : Int32) => (f_X6_behindBlanks_27 N w u3_1)) N w (nI n) (fu + 1) (nI n) = some (nI j)
    rw [lp_X6_behindBlanks_2, if_pos (of_eq_true (le_tt (by omega) (by omega) (Nat.le_refl _))), f_X6_behindBlanks_27, e]
  · intro fu q _ hq ⟨q1, q2⟩
    have c := hT.2 q (by omega)
    have hbb := getD_b hb q
    have l32 : (32 : Int32) = nI 32 := rfl
    by_cases e : q = j
    · refine Or.inl ?_
      have hp : ¬ bla tp q := by rw [e]; exact h4.resolve_left (by omega)
      show lp_X6_behindBlanks_2 (fun (u3_1 : Int32) => (f_X6_behindBlanks_27 N w u3_1)) N w (nI n) (fu + 1) (nI q) = some (nI j)
      rw [lp_X6_behindBlanks_2, if_neg (of_eq_false (le_tf (by omega) (by omega) hq)), if_pos (inb_t (by omega) (by omega)), cl_t (by omega), c, l32, if_neg (fun z => hp ((sb_eq hbb (by omega)).mp z)), f_X6_behindBlanks_27, e]
    · refine Or.inr ⟨(), ⟨by omega, by omega⟩, ?_⟩
      have hp := h3 q q1 (by omega)
      show lp_X6_behindBlanks_2 (fun (u3_1 : Int32) => (f_X6_behindBlanks_27 N w u3_1)) N w (nI n) (fu + 1) (nI q) = lp_X6_behindBlanks_2 (fun (u3_1 : Int32) => (f_X6_behindBlanks_27 N w u3_1)) N w (nI n) fu (nI (q + 1))
      rw [lp_X6_behindBlanks_2, if_neg (of_eq_false (le_tf (by omega) (by omega) hq)), if_pos (inb_t (by omega) (by omega)), cl_t (by omega), c, l32, if_pos ((sb_eq hbb (by omega)).mpr hp), li1, q_add]
theorem isLetter_ok {N q : Nat} {w : Mem} {tp : List Nat} (hT : TX w tp) (hb : ∀ b, b ∈ tp → b < 256) (hl : tp.length ≤ 500) (hq : q < tp.length) : f_X6_isLetter N w (nI q) = some (nI (b01 (let_ tp q))) := by
  have c := hT.2 q hq
  have hbb := getD_b hb q
  rw [f_X6_isLetter, if_pos (inb_t (by omega) (by omega)), cl_t (by omega), c, show (97 : Int32) = nI 97 from rfl, show (122 : Int32) = nI 122 from rfl]
  by_cases z1 : sb (tp.getD q 0) < nI 97
  · have := (sb_ge hbb (by omega)).mp z1
    rw [if_pos z1, b01_f (fun y => by have := y.1; have := y.2; omega)]; rfl
  · rw [if_neg z1]
    have z3 : ¬ (tp.getD q 0 < 97 ∨ 128 ≤ tp.getD q 0) := fun y => z1 ((sb_ge hbb (by omega)).mpr y)
    by_cases z2 : nI 122 < sb (tp.getD q 0)
    · have := (sb_gt hbb (by omega)).mp z2
      rw [if_pos z2, b01_f (fun y => by have := y.2; omega)]; rfl
    · have z4 : ¬ (122 < tp.getD q 0 ∧ tp.getD q 0 < 128) := fun y => z2 ((sb_gt hbb (by omega)).mpr y)
      rw [if_neg z2, b01_t ⟨by omega, by omega⟩]; rfl
theorem letters_ok {N i n j : Nat} {w : Mem} {tp : List Nat} (hN : 600 < N) (hT : TX w tp) (hb : ∀ b, b ∈ tp → b < 256) (hl : tp.length ≤ 500) (hn : n ≤ tp.length) (h : SK (let_ tp) i n j) : f_X6_behindLetters N w (nI i) (nI n) = some (nI j) := by
  obtain ⟨h1, h2, h3, h4⟩ := h
  have key := lpe (α := Unit) n (fun fu _ q => lp_X6_behindLetters_2 (fun (u3_1 : Int32) => (f_X6_behindLetters_24 N w u3_1)) N w (nI n) fu q) (fun o => o = some (nI j)) (fun q _ => i ≤ q ∧ q ≤ j) ?_ ?_ i N () (by omega) (by omega) ⟨Nat.le_refl _, h1⟩
  · exact key
  · intro fu _ ⟨q1, q2⟩
    have e : j = n := by omega
    show lp_X6_behindLetters_2 (fun (u3_1 : Int32) => (f_X6_behindLetters_24 N w u3_1)) N w (nI n) (fu + 1) (nI n) = some (nI j)
    rw [lp_X6_behindLetters_2, if_pos (of_eq_true (le_tt (by omega) (by omega) (Nat.le_refl _))), f_X6_behindLetters_24, e]
  · intro fu q _ hq ⟨q1, q2⟩
    have c := isLetter_ok (N := N) hT hb hl (show q < tp.length by omega)
    by_cases e : q = j
    · refine Or.inl ?_
      have hp : ¬ let_ tp q := by rw [e]; exact h4.resolve_left (by omega)
      show lp_X6_behindLetters_2 (fun (u3_1 : Int32) => (f_X6_behindLetters_24 N w u3_1)) N w (nI n) (fu + 1) (nI q) = some (nI j)
      rw [lp_X6_behindLetters_2, if_neg (of_eq_false (le_tf (by omega) (by omega) hq)), c, Option.bind_some, b01_f hp, if_pos (show (nI 0 : Int32) = 0 from rfl), f_X6_behindLetters_24, e]
    · refine Or.inr ⟨(), ⟨by omega, by omega⟩, ?_⟩
      have hp := h3 q q1 (by omega)
      show lp_X6_behindLetters_2 (fun (u3_1 : Int32) => (f_X6_behindLetters_24 N w u3_1)) N w (nI n) (fu + 1) (nI q) = lp_X6_behindLetters_2 (fun (u3_1 : Int32) => (f_X6_behindLetters_24 N w u3_1)) N w (nI n) fu (nI (q + 1))
      rw [lp_X6_behindLetters_2, if_neg (of_eq_false (le_tf (by omega) (by omega) hq)), c, Option.bind_some, b01_t hp, if_neg (by decide), li1, q_add]
theorem cut_nil (tp : List Nat) (a : Nat) : cut tp a a = [] := by
  unfold cut
  exact List.drop_eq_nil_of_le (by rw [List.length_take]; omega)
theorem wordNumber_ok {N a b : Nat} {w : Mem} {tp : List Nat} (hN : 600 < N) (hT : TX w tp) (hl : tp.length ≤ 500) (hab : a ≤ b) (hbl : b ≤ tp.length) (h : ∀ k, a ≤ k → k < b → let_ tp k) : f_X6_wordNumber N w (nI a) (nI b) = some (nI (if b - a ≤ 6 then wn (cut tp a b) else 0)) := by
  rw [f_X6_wordNumber, q_sub hab, li6]
  by_cases z : b - a ≤ 6
  · rw [if_pos (of_eq_true (le_tt (by omega) (by omega) z)), if_pos z]
    have key := lpe (α := Unit) b (fun fu _ q => lp_X6_wordNumber_15 (fun (u3_1 : Int32) => (f_X6_wordNumber_45 N w u3_1)) N w (nI b) fu (nI (wn (cut tp a q.toNatClampNeg))) q) (fun o => o = some (nI (wn (cut tp a b)))) (fun q _ => a ≤ q) ?_ ?_ a N () hab (by omega) (Nat.le_refl _)
    · have key' : lp_X6_wordNumber_15 (fun (u3_1 : Int32) => (f_X6_wordNumber_45 N w u3_1)) N w (nI b) N (nI (wn (cut tp a (nI a).toNatClampNeg))) (nI a) = some (nI (wn (cut tp a b))) := key
      rw [cl_t (by omega), cut_nil] at key'
      exact key'
    · intro fu _ q1
      show lp_X6_wordNumber_15 (fun (u3_1 : Int32) => (f_X6_wordNumber_45 N w u3_1)) N w (nI b) (fu + 1) (nI (wn (cut tp a (nI b).toNatClampNeg))) (nI b) = some (nI (wn (cut tp a b)))
      rw [cl_t (by omega), lp_X6_wordNumber_15, if_pos (of_eq_true (le_tt (by omega) (by omega) (Nat.le_refl _))), f_X6_wordNumber_45]
    · intro fu q _ hq q1
      refine Or.inr ⟨(), by omega, ?_⟩
      have c := hT.2 q (by omega)
      obtain ⟨p1, p2⟩ := h q q1 hq
      have e : sb (tp.getD q 0) = nI (tp.getD q 0) := by unfold sb; rw [if_pos (by omega)]
      show lp_X6_wordNumber_15 (fun (u3_1 : Int32) => (f_X6_wordNumber_45 N w u3_1)) N w (nI b) (fu + 1) (nI (wn (cut tp a (nI q).toNatClampNeg))) (nI q) = lp_X6_wordNumber_15 (fun (u3_1 : Int32) => (f_X6_wordNumber_45 N w u3_1)) N w (nI b) fu (nI (wn (cut tp a (nI (q + 1)).toNatClampNeg))) (nI (q + 1))
      rw [cl_t (by omega), cl_t (show q + 1 < 2147483648 by omega), lp_X6_wordNumber_15, if_neg (of_eq_false (le_tf (by omega) (by omega) hq)), if_pos (inb_t (by omega) (by omega)), cl_t (by omega), c, e, show (97 : Int32) = nI 97 from rfl, show (27 : Int32) = nI 27 from rfl, li1, q_sub p1, q_add, q_mul, q_add, q_add, cut_snoc q1 (by omega), wn_snoc, show tp.getD q 0 - 97 + 1 = tp.getD q 0 - 96 by omega]
  · rw [if_neg (of_eq_false (le_tf (by omega) (by omega) (by omega))), if_neg z]; rfl
