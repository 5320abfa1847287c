/-! named: the class's term, the model's -/
theorem termNamed_ok {N f n v : Nat} {w : Mem} (g : Nat → Nat) (hN : 60 < N) (hn : n ≤ 24) (h10 : gF w 7 10 f = nI n) (h34 : ∀ t, t < n → gA w 34 f t = nI (g t)) (hg : ∀ t, t < n → g t < 2147483648) (hv : v < 2147483648) : (∃ t, t < n ∧ 0 < v ∧ g t = v ∧ (∀ s, s < t → g s ≠ v) ∧ f_X7_termNamed N w f (nI v) = some (nI t)) ∨ ((v = 0 ∨ ∀ t, t < n → g t ≠ v) ∧ f_X7_termNamed N w f (nI v) = some n1) := by
  have key := lpe (α := Unit) n (fun fu _ q => lp_X7_termNamed_2 (f_X7_termNamed_32 N w f) N w f (nI v) fu q) (fun o => (∃ t, t < n ∧ 0 < v ∧ g t = v ∧ (∀ s, s < t → g s ≠ v) ∧ o = some (nI t)) ∨ ((v = 0 ∨ ∀ t, t < n → g t ≠ v) ∧ o = some n1)) (fun q _ => ∀ s, s < q → g s ≠ v) ?_ ?_ 0 N () (by omega) (by omega) (fun s hs => absurd hs (Nat.not_lt_zero s))
  · exact key
  · intro fu _ hq
    refine Or.inr ⟨Or.inr hq, ?_⟩
    show lp_X7_termNamed_2 (f_X7_termNamed_32 N w f) N w f (nI v) (fu + 1) (nI n) = some n1
    rw [lp_X7_termNamed_2, h10, if_pos (of_eq_true (le_tt (by omega) (by omega) (Nat.le_refl _))), f_X7_termNamed_32]; rfl
  · intro fu q _ hq hqs
    have c := h34 q hq
    have hgq := hg q hq
    by_cases z : v = 0
    · refine Or.inl (Or.inr ⟨Or.inl z, ?_⟩)
      show lp_X7_termNamed_2 (f_X7_termNamed_32 N w f) N w f (nI v) (fu + 1) (nI q) = some n1
      rw [lp_X7_termNamed_2, h10, if_neg (of_eq_false (le_tf (by omega) (by omega) hq)), li0, if_pos (of_eq_true (le_tt (by omega) (by omega) (by omega))), f_X7_termNamed_32]; rfl
    · by_cases y : g q = v
      · refine Or.inl (Or.inl ⟨q, hq, by omega, y, hqs, ?_⟩)
        show lp_X7_termNamed_2 (f_X7_termNamed_32 N w f) N w f (nI v) (fu + 1) (nI q) = some (nI q)
        rw [lp_X7_termNamed_2, h10, if_neg (of_eq_false (le_tf (by omega) (by omega) hq)), li0, if_neg (of_eq_false (le_tf (by omega) (by omega) (by omega))), if_pos (inb_t (by omega) (by omega)), cl_t (by omega), c, if_pos (by rw [y])]
      · refine Or.inr ⟨(), fun s hs => ?_, ?_⟩
        · by_cases e : s = q
          · rw [e]; exact y
          · exact hqs s (by omega)
        · show lp_X7_termNamed_2 (f_X7_termNamed_32 N w f) N w f (nI v) (fu + 1) (nI q) = lp_X7_termNamed_2 (f_X7_termNamed_32 N w f) N w f (nI v) fu (nI (q + 1))
          rw [lp_X7_termNamed_2, h10, if_neg (of_eq_false (le_tf (by omega) (by omega) hq)), li0, if_neg (of_eq_false (le_tf (by omega) (by omega) (by omega))), if_pos (inb_t (by omega) (by omega)), cl_t (by omega), c, if_neg (of_eq_false (eq_tf (by omega) (by omega) y)), li1, q_add]
/-- letter k of the bytes from a to b; 0 behind them -/
def ltr (tp : List Nat) (a b k : Nat) : Nat := if b ≤ a + k then 0 else tp.getD (a + k) 0
/-- isAt over a row K of 6 letters each -/
theorem isAt_ok {N K a b p : Nat} {w : Mem} {tp : List Nat} (x : Nat → Nat) (hN : 60 < N) (hT : ∀ i, i < tp.length → gA w 40 0 i = nI (tp.getD i 0)) (hb : ∀ b, b ∈ tp → b < 256) (hl : tp.length ≤ 500) (hbl : b ≤ tp.length) (hab : a ≤ b) (hK : p + 6 ≤ alen K) (hK2 : alen K ≤ 1000) (hx : ∀ k, k < 6 → gA w K 0 (p + k) = nI (x k) ∧ x k < 256) : f_X9_isAt N w K (nI p) (nI a) (nI b) = some (nI (b01 (b - a ≤ 6 ∧ ∀ k, k < 6 → x k = ltr tp a b k ∧ (a + k < b → ltr tp a b k ≠ 0)))) := by
  have key := lpe (α := Unit) 6 (fun fu _ q => lp_X9_isAt_6 (fun (u5_1 : Int32) => (f_X9_isAt_83 N w K (nI a) (nI b) u5_1)) N w K (nI p) (nI a) (nI b) fu (nI (b01 (∀ k, k < q.toNatClampNeg → x k = ltr tp a b k ∧ (a + k < b → ltr tp a b k ≠ 0)))) q) (fun o => o = some (nI (b01 (b - a ≤ 6 ∧ ∀ k, k < 6 → x k = ltr tp a b k ∧ (a + k < b → ltr tp a b k ≠ 0))))) (fun _ _ => True) ?_ ?_ 0 N () (by omega) (by omega) trivial
  · have key' : lp_X9_isAt_6 (fun (u5_1 : Int32) => (f_X9_isAt_83 N w K (nI a) (nI b) u5_1)) N w K (nI p) (nI a) (nI b) N (nI (b01 (∀ k, k < (nI 0).toNatClampNeg → x k = ltr tp a b k ∧ (a + k < b → ltr tp a b k ≠ 0)))) (nI 0) = _ := key
    rw [cl_t (by omega), b01_t (fun k hk => absurd hk (Nat.not_lt_zero k))] at key'
    exact key'
  · intro fu _ _
    show lp_X9_isAt_6 (fun (u5_1 : Int32) => (f_X9_isAt_83 N w K (nI a) (nI b) u5_1)) N w K (nI p) (nI a) (nI b) (fu + 1) (nI (b01 (∀ k, k < (nI 6).toNatClampNeg → x k = ltr tp a b k ∧ (a + k < b → ltr tp a b k ≠ 0)))) (nI 6) = _
    rw [cl_t (by omega), lp_X9_isAt_6, li6, if_pos (of_eq_true (le_tt (by omega) (by omega) (Nat.le_refl _))), f_X9_isAt_83, q_sub hab, li6]
    by_cases z : ∀ k, k < 6 → x k = ltr tp a b k ∧ (a + k < b → ltr tp a b k ≠ 0)
    · rw [b01_t z, if_neg (by decide)]
      by_cases y : b - a ≤ 6
      · rw [if_neg (of_eq_false (lt_tf (by omega) (by omega) y)), b01_t ⟨y, z⟩]; rfl
      · rw [if_pos (of_eq_true (lt_tt (by omega) (by omega) (by omega))), b01_f (fun q => y q.1)]; rfl
    · rw [b01_f z, if_pos (show (nI 0 : Int32) = 0 from rfl), b01_f (fun q => z q.2)]; rfl
  · intro fu q _ hq _
    refine Or.inr ⟨(), trivial, ?_⟩
    show lp_X9_isAt_6 (fun (u5_1 : Int32) => (f_X9_isAt_83 N w K (nI a) (nI b) u5_1)) N w K (nI p) (nI a) (nI b) (fu + 1) (nI (b01 (∀ k, k < (nI q).toNatClampNeg → x k = ltr tp a b k ∧ (a + k < b → ltr tp a b k ≠ 0)))) (nI q) = lp_X9_isAt_6 (fun (u5_1 : Int32) => (f_X9_isAt_83 N w K (nI a) (nI b) u5_1)) N w K (nI p) (nI a) (nI b) fu (nI (b01 (∀ k, k < (nI (q + 1)).toNatClampNeg → x k = ltr tp a b k ∧ (a + k < b → ltr tp a b k ≠ 0)))) (nI (q + 1))
    rw [cl_t (by omega), cl_t (show q + 1 < 2147483648 by omega)]
    obtain ⟨hx1, hx2⟩ := hx q hq
    have hi : inb (nI (p + q)) (alen K) = true := inb_t (by omega) (by omega)
    have hci : (nI (p + q)).toNatClampNeg = p + q := cl_t (by omega)
    have hsp : (∀ k, k < q + 1 → x k = ltr tp a b k ∧ (a + k < b → ltr tp a b k ≠ 0)) ↔ (∀ k, k < q → x k = ltr tp a b k ∧ (a + k < b → ltr tp a b k ≠ 0)) ∧ (x q = ltr tp a b q ∧ (a + q < b → ltr tp a b q ≠ 0)) := ⟨fun h => ⟨fun k hk => h k (by omega), h q (by omega)⟩, fun h k hk => by
      by_cases e : k = q
      · rw [e]; exact h.2
      · exact h.1 k (by omega)⟩
    rw [b01_c hsp, lp_X9_isAt_6, li6, if_neg (of_eq_false (le_tf (by omega) (by omega) hq)), li1, li0, q_add, q_add, q_add, if_pos hi, hci, hx1]
    by_cases z : ∀ k, k < q → x k = ltr tp a b k ∧ (a + k < b → ltr tp a b k ≠ 0)
    · rw [b01_t z, if_neg (by decide)]
      by_cases y : b ≤ a + q
      · have e : ltr tp a b q = 0 := by unfold ltr; rw [if_pos y]
        rw [if_pos (of_eq_true (le_tt (by omega) (by omega) y)), f_X9_isAt_46_6_s2, li1, li0, q_add, q_add]
        by_cases v : x q = 0
        · rw [if_pos (by rw [v]), if_pos (of_eq_true (le_tt (by omega) (by omega) y)), b01_t ⟨z, by rw [e]; exact v, fun q => by omega⟩]
        · rw [if_neg (of_eq_false (eq_tf (by omega) (by omega) v)), b01_f (fun h => v (by have := h.2.1; omega))]
      · have e : ltr tp a b q = tp.getD (a + q) 0 := by unfold ltr; rw [if_neg y]
        have c := hT (a + q) (by omega)
        have cb := getD_b hb (a + q)
        rw [if_neg (of_eq_false (le_tf (by omega) (by omega) (by omega))), if_pos (inb_t (by omega) (by omega)), cl_t (by omega), c, f_X9_isAt_46_6_s2, li1, li0, q_add, q_add]
        by_cases v : x q = tp.getD (a + q) 0
        · rw [if_pos (by rw [v]), if_neg (of_eq_false (le_tf (by omega) (by omega) (by omega))), if_pos (inb_t (by omega) (by omega)), cl_t (by omega), c]
          by_cases u : tp.getD (a + q) 0 = 0
          · rw [if_pos (by rw [u]), b01_f (fun h => h.2.2 (by omega) (by rw [e]; exact u))]
          · rw [if_neg (of_eq_false (eq_tf (by omega) (by omega) u)), b01_t ⟨z, by rw [e]; exact v, fun _ => by rw [e]; exact u⟩]
        · rw [if_neg (of_eq_false (eq_tf (by omega) (by omega) v)), b01_f (fun h => v (by have := h.2.1; omega))]
    · rw [b01_f z, if_pos rfl, b01_f (fun h => z h.1)]
