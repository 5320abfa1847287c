/-! the law's text(): it comes to its end; its letters -/
def tk5 : Nat → Nat := tk0 [0, 0, 0, 1, 2]
def fch (f : Nat) : Nat := [97, 98, 99, 102, 103].getD f 0
def prt : List Nat → List Nat
  | [] => []
  | [a] => [32, 40] ++ [107 + a] ++ [41]
  | a :: b :: _ => [32, 40] ++ [107 + a] ++ [44, 32] ++ [107 + b] ++ [41]
def lin (t : Nat) : Row → List Nat
  | .inl x => [59, 116, 101, 114, 109, 32] ++ [107 + t] ++ [32, 61, 32] ++ [fch x.1] ++ prt x.2
  | .inr x => [59, 115, 97, 109, 101, 32] ++ [107 + x.2.1] ++ [32] ++ [107 + x.2.2]
def nxt (t : Nat) : Row → Nat
  | .inl _ => t + 1
  | .inr _ => t
def lns : Nat → List Row → List Nat
  | _, [] => []
  | t, r :: rs => lin t r ++ lns (nxt t r) rs
def cnt9 (t : Nat) (rs : List Row) : Nat := rs.foldl nxt t
theorem lns_snoc : ∀ (rs : List Row) (t : Nat) (r : Row), lns t (rs ++ [r]) = lns t rs ++ lin (cnt9 t rs) r
  | [], t, r => by show lin t r ++ [] = [] ++ lin t r; rw [List.append_nil, List.nil_append]
  | x :: rs, t, r => by
    show lin t x ++ lns (nxt t x) (rs ++ [r]) = lin t x ++ lns (nxt t x) rs ++ lin (cnt9 (nxt t x) rs) r
    rw [lns_snoc rs (nxt t x) r, List.append_assoc]
theorem cnt_run : ∀ (rs : List Row) (c : Core), cnt9 (cL c).length rs = (cL (run tk5 c rs)).length
  | [], c => rfl
  | r :: rs, c => by
    show cnt9 (nxt (cL c).length r) rs = (cL (run tk5 (stp tk5 c r) rs)).length
    rw [← cnt_run rs (stp tk5 c r)]
    congr 1
    rcases r with x | ⟨b, u, v⟩
    · show _ = (cL c ++ [x]).length
      rw [List.length_append]; rfl
    · cases b <;> rfl
theorem fch_lt : ∀ f, f < 5 → fch f < 128 := by decide
/-- the rows told so far; the memory and the letters that go with them -/
def HR (w0 w : Mem) (n T a : Nat) (rs : List Row) (ls : List Nat) : Prop :=
  HG w0 w n a (cL (run tk5 c0 rs)) (cS (run tk5 c0 rs)) [] ls ∧ (cL (run tk5 c0 rs)).length = T ∧ okRs tk5 5 c0 rs ∧ (∀ r ∈ rs, ∀ x, r ≠ .inr (false, x)) ∧ ls = BASE ++ lns 0 rs
theorem HR.lin {w0 w : Mem} {n T a : Nat} {rs : List Row} {ls : List Nat} (h : HR w0 w n T a rs ls) (r : Row) : ls ++ lin T r = BASE ++ lns 0 (rs ++ [r]) := by
  rw [lns_snoc, h.2.2.2.2, List.append_assoc, show cnt9 0 rs = T from (cnt_run rs c0).trans h.2.1]
theorem nI1 (t : Nat) : nI t + (1 : Int32) = nI (t + 1) := n_add t 1
theorem t257 {w0 w : Mem} {t a N : Nat} {rs : List Row} {ls : List Nat} {sx : Nat × (Nat → Int32)} {v3 : Int32} {rc : Mem → Int32 → Option Mem} {k : Mem → Option Mem} (hs : sx.1 < 2 ^ 31) (h : HR w0 w t (t + 1) a rs ls) (ht : t < 9) (ha : a < 900) (hl : ls.length + 9 ≤ 480) (hS : (cS (run tk5 c0 rs)).length ≤ t) :
    ∃ w' a' rs' ls', f_X10_text_257_21 rc k N w sx v3 (nI t) = rc w' (nI (t + 1)) ∧ HR w0 w' (t + 1) (t + 1) a' rs' ls' ∧ a' ≤ a + 3 ∧ ls'.length ≤ ls.length + 9 ∧ ls'.length % 3 = ls.length % 3 ∧ (cS (run tk5 c0 rs')).length ≤ t + 1 := by
  obtain ⟨hG, hT, hok, hnf, hls⟩ := id h
  rw [f_X10_text_257_21, hG.1.1, nI1]
  have hG1 := hG.n5 (t + 1)
  by_cases z : t ≤ 2
  · exact ⟨_, a, rs, ls, by rw [if_pos (nI_le z (by omega) : nI t ≤ nI 2), nI1], ⟨hG1, hT, hok, hnf, hls⟩, by omega, by omega, rfl, by omega⟩
  rw [if_neg (nI_ge (by omega) (by omega) : ¬ nI t ≤ nI 2)]
  obtain ⟨d, v1, d1, d2, e1, hG2⟩ := hG1.next hs (by omega) N (lo := 0) (hi := 1) (by omega) (by omega)
  rw [show f_X9_next N (sF w 9 5 0 (nI (t + 1))) sx (0 : Int32) (1 : Int32) = some (v1, nI d) from e1, Option.bind_some]
  by_cases zd : d = 1
  · subst zd
    rw [if_pos (show (v1, nI 1).2 = (1 : Int32) from rfl)]
    have hs12 : inb (gF v1 9 6 0) 12 = true := by rw [hG2.1.2.1]; exact inb_nI (by omega) (by omega)
    obtain ⟨x, v2, x1, x2, e2, hG3⟩ := hG2.next hs (by omega) N (lo := 0) (hi := t) (by omega) (by omega)
    have e96 : (gF v1 9 6 0).toNatClampNeg = (cS (run tk5 c0 rs)).length := by rw [hG2.1.2.1, nI_clamp (by omega)]
    have hG4 := hG3.st (k := 43) (x := (cS (run tk5 c0 rs)).length) (v := x) ⟨by omega, by omega⟩ (fun z => by omega) (fun _ => Nat.le_refl _) (fun q hq => absurd hq List.not_mem_nil)
    obtain ⟨y, v4, y1, y2, e4, hG5⟩ := hG4.next hs (by omega) N (lo := 0) (hi := t) (by omega) (by omega)
    have hG6 := hG5.st (k := 44) (x := (cS (run tk5 c0 rs)).length) (v := y) ⟨by omega, by omega⟩ (fun z => by omega) (fun _ => Nat.le_refl _) (fun q hq => by
      rw [List.mem_singleton] at hq; subst hq; exact fun z => absurd z.1 (by show ¬ 43 = 44; omega))
    have hG7 := hG6.as (cs := [59, 115, 97, 109, 101, 32]) (by show ls.length + 6 ≤ 480; omega) (by decide)
    have hG8 := hG7.ac (c := 107 + x) (by rw [List.length_append]; show ls.length + 6 + 1 ≤ 480; omega) (by omega)
    have hG9 := hG8.ac (c := 32) (by rw [List.length_append, List.length_append]; show ls.length + 6 + 1 + 1 ≤ 480; omega) (by omega)
    have hG10 := hG9.ac (c := 107 + y) (by rw [List.length_append, List.length_append, List.length_append]; show ls.length + 6 + 1 + 1 + 1 ≤ 480; omega) (by omega)
    have hG11 := hG10.pS (i := x) (j := y) (List.mem_cons_of_mem _ (List.mem_cons_self)) List.mem_cons_self
    have i12 : ∀ {v : Mem} {n a : Nat} {p : List (Nat × Nat × Nat)} {l : List Nat}, HG w0 v n a (cL (run tk5 c0 rs)) (cS (run tk5 c0 rs)) p l → inb (gF v 9 6 0) 12 = true := fun h => by rw [h.1.2.1]; exact inb_nI (by omega) (by omega)
    have hrs : run tk5 c0 (rs ++ [.inr (true, x, y)]) = stp tk5 (run tk5 c0 rs) (.inr (true, x, y)) := run_snoc _ _ _ _
    refine ⟨_, a + 1 + 1 + 1, rs ++ [.inr (true, x, y)], ls ++ lin (t + 1) (.inr (true, x, y)), ?_, ⟨?_, ?_, okRs_snoc.mpr ⟨hok, by rw [hT]; omega, by rw [hT]; omega, by omega⟩, ?_, h.lin _⟩, by omega, ?_, ?_, ?_⟩
    · refine obind e2 ?_
      refine oif hs12 ?_
      rw [e96]
      refine obind e4 ?_
      refine oif (i12 hG4) ?_
      have e5 : gF (sA v2 43 0 (cS (run tk5 c0 rs)).length (nI x)) 9 6 0 = nI (cS (run tk5 c0 rs)).length := hG4.1.2.1
      show (if lenT (sA v4 44 0 (gF (sA v2 43 0 (cS (run tk5 c0 rs)).length (nI x)) 9 6 0).toNatClampNeg (nI y)) + 6 ≤ 480 then _ else none) = _
      rw [e5, nI_clamp (by omega)]
      refine oif (by rw [hG6.len]; omega) ?_
      refine oif (i12 hG7) ?_
      rw [hG7.1.2.1, nI_clamp (by omega), hG7.get (List.mem_cons_of_mem _ List.mem_cons_self)]
      refine obind (name_ok (by omega)) ?_
      refine oif (by rw [hG7.len, List.length_append]; show ls.length + 6 + 1 ≤ 480; omega) ?_
      refine oif (inb_nI (by omega) (by omega)) ?_
      refine oif (by rw [hG8.len, List.length_append, List.length_append]; show ls.length + 6 + 1 + 1 ≤ 480; omega) ?_
      refine oif rfl ?_
      refine oif (i12 hG9) ?_
      show Option.bind (f_X10_name N (apC (apC (apS (sA v4 44 0 (cS (run tk5 c0 rs)).length (nI y)) [59, 115, 97, 109, 101, 32]) (nI (107 + x))) (nI 32)) (gA (apC (apC (apS (sA v4 44 0 (cS (run tk5 c0 rs)).length (nI y)) [59, 115, 97, 109, 101, 32]) (nI (107 + x))) (nI 32)) 44 0 (gF (apC (apC (apS (sA v4 44 0 (cS (run tk5 c0 rs)).length (nI y)) [59, 115, 97, 109, 101, 32]) (nI (107 + x))) (nI 32)) 9 6 0).toNatClampNeg)) _ = _
      rw [hG9.1.2.1, nI_clamp (by omega), hG9.get List.mem_cons_self]
      refine obind (name_ok (by omega)) ?_
      refine oif (by rw [show lenT _ = _ from hG9.len, List.length_append, List.length_append, List.length_append]; show ls.length + 6 + 1 + 1 + 1 ≤ 480; omega) ?_
      refine oif (inb_nI (by omega) (by omega)) ?_
      show rc (sF (apC (apC (apC (apS (sA v4 44 0 (cS (run tk5 c0 rs)).length (nI y)) [59, 115, 97, 109, 101, 32]) (nI (107 + x))) (nI 32)) (nI (107 + y))) 9 6 0 ((gF (apC (apC (apC (apS (sA v4 44 0 (cS (run tk5 c0 rs)).length (nI y)) [59, 115, 97, 109, 101, 32]) (nI (107 + x))) (nI 32)) (nI (107 + y))) 9 6 0) + (1 : Int32))) (nI t + (1 : Int32)) = _
      rw [hG10.1.2.1, nI1, nI1]
    · rw [hrs]
      have hg := hG11.fg
      rw [show ls ++ lin (t + 1) (.inr (true, x, y)) = ls ++ [59, 115, 97, 109, 101, 32] ++ [107 + x] ++ [32] ++ [107 + y] from by
        show ls ++ ([59, 115, 97, 109, 101, 32] ++ [107 + x] ++ [32] ++ [107 + y]) = _
        simp only [List.append_assoc]]
      exact hg
    · rw [hrs]; exact hT
    · intro r hr x9 e
      rcases List.mem_append.mp hr with q | q
      · exact hnf r q x9 e
      · rw [List.mem_singleton] at q; rw [q] at e; cases e
    · rw [List.length_append]; exact Nat.le_refl _
    · rw [List.length_append]; show (ls.length + 9) % 3 = _; omega
    · rw [hrs]; show (cS (run tk5 c0 rs) ++ [(x, y)]).length ≤ _; rw [List.length_append]; show _ + 1 ≤ _; omega
  · have e0 : d = 0 := by omega
    subst e0
    rw [if_neg (show ¬ (v1, nI 0).2 = (1 : Int32) from by decide)]
    exact ⟨_, a + 1, rs, ls, by rw [nI1], ⟨hG2, hT, hok, hnf, hls⟩, by omega, by omega, rfl, by omega⟩
