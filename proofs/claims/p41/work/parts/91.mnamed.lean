/-! named: the class's term, the model's -/
theorem termNamed_ok {N f n v : Nat} {w : Mem} (g : Nat → Nat) (hN : 60 < N) (hn : n ≤ 24) (h10 : gF w 7 10 f = nI n) (h34 : ∀ t, t < n → gA w 34 f t = nI (g t)) (hg : ∀ t, t < n → g t < 2147483648) (hv : v < 2147483648) : (∃ t, t < n ∧ 0 < v ∧ g t = v ∧ (∀ s, s < t → g s ≠ v) ∧ f_X7_termNamed N w f (nI v) = some (nI t)) ∨ ((v = 0 ∨ ∀ t, t < n → g t ≠ v) ∧ f_X7_termNamed N w f (nI v) = some n1) := by
  have key := lpe (α := Unit) n (fun fu _ q => lp_X7_termNamed_2 (f_X7_termNamed_32 N w f) N w f (nI v) fu q) (fun o => (∃ t, t < n ∧ 0 < v ∧ g t = v ∧ (∀ s, s < t → g s ≠ v) ∧ o = some (nI t)) ∨ ((v = 0 ∨ ∀ t, t < n → g t ≠ v) ∧ o = some n1)) (fun q _ => ∀ s, s < q → g s ≠ v) ?_ ?_ 0 N () (by omega) (by omega) (fun s hs => absurd hs (Nat.not_lt_zero s))
  · exact key
  · intro fu _ hq
    refine Or.inr ⟨Or.inr hq, ?_⟩
    show lp_X7_termNamed_2 (f_X7_termNamed_32 N w f) N w f (nI v) (fu + 1) (nI n) = some n1
    rw [lp_X7_termNamed_2, h10, if_pos (of_eq_true (le_tt (by omega) (by omega) (Nat.le_refl _))), f_X7_termNamed_32]; rfl
  · intro fu q _ hq hqs
    have c := h34 q hq
    have hgq := hg q hq
    by_cases z : v = 0
    · refine Or.inl (Or.inr ⟨Or.inl z, ?_⟩)
      show lp_X7_termNamed_2 (f_X7_termNamed_32 N w f) N w f (nI v) (fu + 1) (nI q) = some n1
      rw [lp_X7_termNamed_2, h10, if_neg (of_eq_false (le_tf (by omega) (by omega) hq)), li0, if_pos (of_eq_true (le_tt (by omega) (by omega) (by omega))), f_X7_termNamed_32]; rfl
    · by_cases y : g q = v
      · refine Or.inl (Or.inl ⟨q, hq, by omega, y, hqs, ?_⟩)
        show lp_X7_termNamed_2 (f_X7_termNamed_32 N w f) N w f (nI v) (fu + 1) (nI q) = some (nI q)
        rw [lp_X7_termNamed_2, h10, if_neg (of_eq_false (le_tf (by omega) (by omega) hq)), li0, if_neg (of_eq_false (le_tf (by omega) (by omega) (by omega))), if_pos (inb_t (by omega) (by omega)), cl_t (by omega), c, if_pos (by rw [y])]
      · refine Or.inr ⟨(), fun s hs => ?_, ?_⟩
        · by_cases e : s = q
          · rw [e]; exact y
          · exact hqs s (by omega)
        · show lp_X7_termNamed_2 (f_X7_termNamed_32 N w f) N w f (nI v) (fu + 1) (nI q) = lp_X7_termNamed_2 (f_X7_termNamed_32 N w f) N w f (nI v) fu (nI (q + 1))
          rw [lp_X7_termNamed_2, h10, if_neg (of_eq_false (le_tf (by omega) (by omega) hq)), li0, if_neg (of_eq_false (le_tf (by omega) (by omega) (by omega))), if_pos (inb_t (by omega) (by omega)), cl_t (by omega), c, if_neg (of_eq_false (eq_tf (by omega) (by omega) y)), li1, q_add]
/-- letter k of the bytes from a to b; 0 behind them -/
def ltr (tp : List Nat) (a b k : Nat) : Nat := if b ≤ a + k then 0 else tp.getD (a + k) 0
