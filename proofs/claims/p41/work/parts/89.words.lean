/-! words as numbers -/
def LET (ls : List Nat) : Prop := ∀ c, c ∈ ls → 97 ≤ c ∧ c ≤ 122
theorem wn_snoc (l : List Nat) (c : Nat) : wn (l ++ [c]) = wn l * 27 + (c - 96) := by rw [wn, List.foldl_append]; rfl
theorem LET_snoc {l : List Nat} {c : Nat} (h : LET (l ++ [c])) : LET l ∧ 97 ≤ c ∧ c ≤ 122 := ⟨fun d hd => h d (List.mem_append_left _ hd), h c (List.mem_append_right _ (List.mem_singleton.mpr rfl))⟩
theorem snoc_of {α : Type} (l : List α) (h : l ≠ []) : ∃ l' c, l = l' ++ [c] := ⟨l.dropLast, l.getLast h, (List.dropLast_concat_getLast h).symm⟩
theorem wn_inj : ∀ (n : Nat) (l1 l2 : List Nat), l1.length ≤ n → LET l1 → LET l2 → wn l1 = wn l2 → l1 = l2 := by
  intro n
  induction n with
  | zero =>
    intro l1 l2 hl h1 h2 he
    have e : l1 = [] := List.length_eq_zero_iff.mp (by omega)
    subst e
    by_cases z : l2 = []
    · exact z.symm
    · obtain ⟨l', c, rfl⟩ := snoc_of l2 z
      obtain ⟨_, c1, c2⟩ := LET_snoc h2
      rw [wn_snoc, show wn [] = 0 from rfl] at he
      omega
  | succ n ih =>
    intro l1 l2 hl h1 h2 he
    by_cases z1 : l1 = []
    · subst z1
      exact ih [] l2 (Nat.zero_le _) h1 h2 he
    · obtain ⟨a, c, rfl⟩ := snoc_of l1 z1
      obtain ⟨ha, c1, c2⟩ := LET_snoc h1
      by_cases z2 : l2 = []
      · subst z2
        rw [wn_snoc, show wn [] = 0 from rfl] at he
        omega
      · obtain ⟨b, d, rfl⟩ := snoc_of l2 z2
        obtain ⟨hb, d1, d2⟩ := LET_snoc h2
        rw [wn_snoc, wn_snoc] at he
        rw [List.length_append] at hl
        have hl2 : a.length ≤ n := by
          have : ([c] : List Nat).length = 1 := rfl
          omega
        have e1 : c = d := by omega
        have e2 : wn a = wn b := by omega
        rw [ih a b hl2 ha hb e2, e1]
theorem wn_pos {l : List Nat} (h : LET l) (hn : l ≠ []) : 0 < wn l := by
  obtain ⟨a, c, rfl⟩ := snoc_of l hn
  obtain ⟨_, c1, c2⟩ := LET_snoc h
  rw [wn_snoc]; omega
theorem wn_lt : ∀ (n : Nat) (l : List Nat), l.length ≤ n → LET l → wn l + 1 ≤ 27 ^ n
  | 0, l, hl, _ => by
    have e : l = [] := List.length_eq_zero_iff.mp (by omega)
    subst e
    show 0 + 1 ≤ 27 ^ 0
    omega
  | n + 1, l, hl, h => by
    by_cases z : l = []
    · subst z
      have := Nat.pow_pos (n := n + 1) (show 0 < 27 by omega)
      show 0 + 1 ≤ _
      omega
    · obtain ⟨a, c, rfl⟩ := snoc_of l z
      obtain ⟨ha, c1, c2⟩ := LET_snoc h
      rw [List.length_append] at hl
      have hl2 : a.length ≤ n := by
        have : ([c] : List Nat).length = 1 := rfl
        omega
      have ih := wn_lt n a hl2 ha
      rw [wn_snoc, Nat.pow_succ]
      omega
theorem wn_b6 {l : List Nat} (hl : l.length ≤ 6) (h : LET l) : wn l < 387420489 := by
  have := wn_lt 6 l hl h
  have e : 27 ^ 6 = 387420489 := by decide
  omega
/-- the bytes from a to b -/
def cut (tp : List Nat) (a b : Nat) : List Nat := (tp.take b).drop a
theorem cut_len {tp : List Nat} {a b : Nat} (hb : b ≤ tp.length) : (cut tp a b).length = b - a := by
  unfold cut
  rw [List.length_drop, List.length_take, Nat.min_eq_left hb]
theorem cut_snoc {tp : List Nat} {a b : Nat} (hab : a ≤ b) (hb : b < tp.length) : cut tp a (b + 1) = cut tp a b ++ [tp.getD b 0] := by
  unfold cut
  rw [List.take_succ, List.drop_append, List.length_take, Nat.min_eq_left (by omega), show a - b = 0 by omega, List.drop_zero, List.getElem?_eq_getElem hb, List.getD_eq_getElem?_getD, List.getElem?_eq_getElem hb]
  rfl
theorem cut_getD {tp : List Nat} {a b i : Nat} (hi : a + i < b) : (cut tp a b).getD i 0 = tp.getD (a + i) 0 := by
  unfold cut
  rw [List.getD_eq_getElem?_getD, List.getD_eq_getElem?_getD, List.getElem?_drop, List.getElem?_take, if_pos hi]
theorem nI_int {k : Nat} (h : k < 2147483648) : (nI k).toInt = k := Int32.toInt_ofNat_of_lt (by omega)
theorem sb_ge {b : Nat} (hb : b < 256) {k : Nat} (hk : k < 128) : sb b < nI k ↔ b < k ∨ 128 ≤ b := by
  rw [Int32.lt_iff_toInt_lt, sb_int hb, nI_int (by omega)]
  split <;> omega
theorem sb_eq {b : Nat} (hb : b < 256) {k : Nat} (hk : k < 128) : sb b = nI k ↔ b = k := by
  rw [← Int32.toInt_inj, sb_int hb, nI_int (by omega)]
  split <;> omega
theorem sb_gt {b : Nat} (hb : b < 256) {k : Nat} (hk : k < 128) : nI k < sb b ↔ k < b ∧ b < 128 := by
  rw [Int32.lt_iff_toInt_lt, sb_int hb, nI_int (by omega)]
  split <;> omega

