/-! named: the word -/
def TRs (tp : List Nat) (a n u : Nat) : Prop := a ≤ u ∧ u ≤ n ∧ (∀ k, u ≤ k → k < n → bla tp k) ∧ (u = a ∨ ¬ bla tp (u - 1))
theorem TRs_ex (tp : List Nat) {a : Nat} : ∀ (r n : Nat), a + r = n → ∃ u, TRs tp a n u
  | 0, n, h => ⟨n, by omega, Nat.le_refl _, fun k h1 h2 => by omega, Or.inl (by omega)⟩
  | r + 1, n, h => by
    by_cases z : bla tp (n - 1)
    · obtain ⟨u, u1, u2, u3, u4⟩ := TRs_ex tp (a := a) r (n - 1) (by omega)
      refine ⟨u, u1, by omega, fun k h1 h2 => ?_, u4⟩
      by_cases e : k = n - 1
      · rw [e]; exact z
      · exact u3 k h1 (by omega)
    · exact ⟨n, by omega, Nat.le_refl _, fun k h1 h2 => by omega, Or.inr z⟩
/-- the class's word number names just what the model's letters name -/
theorem word_iff {tp ls : List Nat} {n a b e u : Nat} (hn : n ≤ tp.length) (hls : WOK ls) (h1 : SK (bla tp) 0 n a) (h2 : SK (let_ tp) a n b) (h3 : SK (bla tp) b n e) (h4 : TRs tp a n u) : (0 < (if e = n ∧ b - a ≤ 6 then wn (cut tp a b) else 0) ∧ wn ls = (if e = n ∧ b - a ≤ 6 then wn (cut tp a b) else 0)) ↔ a < u ∧ u - a ≤ 6 ∧ ∀ k, k < 6 → ls.getD k 0 = ltr tp a u k ∧ (a + k < u → ltr tp a u k ≠ 0) := by
  obtain ⟨a1, a2, a3, a4⟩ := h1
  obtain ⟨b1, b2, b3, b4⟩ := h2
  obtain ⟨e1, e2, e3, e4⟩ := h3
  obtain ⟨u1, u2, u3, u4⟩ := h4
  have hL : LET ls := hls.2.2
  have hlet : ∀ k, k < ls.length → 97 ≤ ls.getD k 0 ∧ ls.getD k 0 ≤ 122 := fun k hk => by
    rw [List.getD_eq_getElem?_getD, List.getElem?_eq_getElem hk]
    exact hL _ (List.getElem_mem hk)
  have hout : ∀ k, ls.length ≤ k → ls.getD k 0 = 0 := fun k hk => by
    rw [List.getD_eq_getElem?_getD, List.getElem?_eq_none hk]; rfl
  have hcl : LET (cut tp a b) := fun c hc => by
    obtain ⟨i, hi, rfl⟩ := List.getElem_of_mem hc
    rw [cut_len (by omega)] at hi
    have g := cut_getD (tp := tp) (a := a) (b := b) (i := i) (by omega)
    rw [List.getD_eq_getElem?_getD, List.getElem?_eq_getElem (by rw [cut_len (by omega)]; exact hi)] at g
    have g2 : (cut tp a b)[i]'(by rw [cut_len (by omega)]; exact hi) = tp.getD (a + i) 0 := g
    rw [g2]
    exact b3 (a + i) (by omega) (by omega)
  constructor
  · intro h
    by_cases z : e = n ∧ b - a ≤ 6
    · rw [if_pos z] at h
      have hw := wn_inj _ ls (cut tp a b) (Nat.le_refl _) hL hcl h.2
      have hlen : ls.length = b - a := by rw [hw, cut_len (by omega)]
      have hpos := hls.1
      have hub : u = b := by
        rcases Nat.lt_trichotomy u b with y | y | y
        · have q1 := b3 (b - 1) (by omega) (by omega)
          have q2 := u3 (b - 1) (by omega) (by omega)
          have q2' : tp.getD (b - 1) 0 = 32 := q2
          have := q1.1
          omega
        · exact y
        · exact absurd (e3 (u - 1) (by omega) (by omega)) (u4.resolve_left (by omega))
      rw [hub]
      refine ⟨by omega, by omega, fun k hk => ?_⟩
      unfold ltr
      by_cases y : b ≤ a + k
      · rw [if_pos y]
        exact ⟨hout k (by omega), fun q => by omega⟩
      · rw [if_neg y, hw, cut_getD (by omega)]
        have := b3 (a + k) (by omega) (by omega)
        exact ⟨rfl, fun _ => by have := this.1; omega⟩
    · rw [if_neg z] at h
      exact absurd h.1 (Nat.lt_irrefl _)
  · intro ⟨h1, h2, h3⟩
    have hnz : ∀ k, a + k < u → 97 ≤ tp.getD (a + k) 0 ∧ tp.getD (a + k) 0 ≤ 122 := by
      intro k hk
      obtain ⟨g1, g2⟩ := h3 k (by omega)
      have g3 := g2 hk
      have e5 : ltr tp a u k = tp.getD (a + k) 0 := by unfold ltr; rw [if_neg (by omega)]
      rw [e5] at g1 g3
      rw [← g1]
      by_cases y : k < ls.length
      · exact hlet k y
      · exact absurd (by rw [← g1]; exact hout k (by omega)) g3
    have hlen : ls.length = u - a := by
      rcases Nat.lt_trichotomy ls.length (u - a) with y | y | y
      · obtain ⟨g1, g2⟩ := h3 ls.length (by omega)
        exact absurd (g1.symm.trans (hout _ (Nat.le_refl _))) (g2 (by omega))
      · exact y
      · obtain ⟨g1, g2⟩ := h3 (u - a) (by have := hls.2.1; omega)
        have e5 : ltr tp a u (u - a) = 0 := by unfold ltr; rw [if_pos (by omega)]
        have := (hlet (u - a) y).1
        omega
    have hbu : b = u := by
      rcases Nat.lt_trichotomy b u with y | y | y
      · have := hnz (b - a) (by omega)
        rw [show a + (b - a) = b by omega] at this
        exact absurd this (b4.resolve_left (by omega))
      · exact y
      · have q1 := b3 u (by omega) (by omega)
        have q2 : tp.getD u 0 = 32 := u3 u (Nat.le_refl _) (by omega)
        have := q1.1
        omega
    have hen : e = n := by
      rcases e4 with y | y
      · exact y
      · by_cases q : e < n
        · exact absurd (u3 e (by omega) q) y
        · omega
    have hw : ls = cut tp a b := by
      apply List.ext_getElem
      · rw [cut_len (by omega)]; omega
      · intro i i1 i2
        have g1 := (h3 i (by have := hls.2.1; omega)).1
        have e5 : ltr tp a u i = tp.getD (a + i) 0 := by unfold ltr; rw [if_neg (by omega)]
        rw [e5, ← cut_getD (tp := tp) (a := a) (b := b) (i := i) (by omega), List.getD_eq_getElem?_getD, List.getD_eq_getElem?_getD, List.getElem?_eq_getElem i1, List.getElem?_eq_getElem i2] at g1
        exact g1
    rw [if_pos ⟨hen, by omega⟩, ← hw]
    exact ⟨wn_pos hL (fun q => by rw [q] at hlen; have : ([] : List Nat).length = 0 := rfl; omega), rfl⟩

