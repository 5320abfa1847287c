/-! the law's text(): it comes to its end; its letters -/
def tk5 : Nat → Nat := tk0 [0, 0, 0, 1, 2]
def fch (f : Nat) : Nat := [97, 98, 99, 102, 103].getD f 0
def prt : List Nat → List Nat
  | [] => []
  | [a] => [32, 40] ++ [107 + a] ++ [41]
  | a :: b :: _ => [32, 40] ++ [107 + a] ++ [44, 32] ++ [107 + b] ++ [41]
def lin (t : Nat) : Row → List Nat
  | .inl x => [59, 116, 101, 114, 109, 32] ++ [107 + t] ++ [32, 61, 32] ++ [fch x.1] ++ prt x.2
  | .inr x => [59, 115, 97, 109, 101, 32] ++ [107 + x.2.1] ++ [32] ++ [107 + x.2.2]
def nx9 (t : Nat) : Row → Nat
  | .inl _ => t + 1
  | .inr _ => t
def lns : Nat → List Row → List Nat
  | _, [] => []
  | t, r :: rs => lin t r ++ lns (nx9 t r) rs
def cnt9 (t : Nat) (rs : List Row) : Nat := rs.foldl nx9 t
theorem lns_snoc : ∀ (rs : List Row) (t : Nat) (r : Row), lns t (rs ++ [r]) = lns t rs ++ lin (cnt9 t rs) r
  | [], t, r => by show lin t r ++ [] = [] ++ lin t r; rw [List.append_nil, List.nil_append]
  | x :: rs, t, r => by
    show lin t x ++ lns (nx9 t x) (rs ++ [r]) = lin t x ++ lns (nx9 t x) rs ++ lin (cnt9 (nx9 t x) rs) r
    rw [lns_snoc rs (nx9 t x) r, List.append_assoc]
theorem cnt_run : ∀ (rs : List Row) (c : Core), cnt9 (cL c).length rs = (cL (run tk5 c rs)).length
  | [], c => rfl
  | r :: rs, c => by
    show cnt9 (nx9 (cL c).length r) rs = (cL (run tk5 (stp tk5 c r) rs)).length
    rw [← cnt_run rs (stp tk5 c r)]
    congr 1
    rcases r with x | ⟨b, u, v⟩
    · show _ = (cL c ++ [x]).length
      rw [List.length_append]; rfl
    · cases b <;> rfl
theorem fch_lt : ∀ f, f < 5 → fch f < 128 := by decide
/-- the rows told so far; the memory and the letters that go with them -/
def HR (w0 w : Mem) (n T a : Nat) (rs : List Row) (ls : List Nat) : Prop :=
  HG w0 w n a (cL (run tk5 c0 rs)) (cS (run tk5 c0 rs)) [] ls ∧ (cL (run tk5 c0 rs)).length = T ∧ okRs tk5 5 c0 rs ∧ (∀ r ∈ rs, ∀ x, r ≠ .inr (false, x)) ∧ ls = BASE ++ lns 0 rs
theorem HR.lin {w0 w : Mem} {n T a : Nat} {rs : List Row} {ls : List Nat} (h : HR w0 w n T a rs ls) (r : Row) : ls ++ lin T r = BASE ++ lns 0 (rs ++ [r]) := by
  rw [lns_snoc, h.2.2.2.2, List.append_assoc, show cnt9 0 rs = T from (cnt_run rs c0).trans h.2.1]
theorem nI1 (t : Nat) : nI t + (1 : Int32) = nI (t + 1) := n_add t 1
theorem t257 {w0 w : Mem} {t a N : Nat} {rs : List Row} {ls : List Nat} {sx : Nat × (Nat → Int32)} {v3 : Int32} {rc : Mem → Int32 → Option Mem} {k : Mem → Option Mem} (hs : sx.1 < 2 ^ 31) (h : HR w0 w t (t + 1) a rs ls) (ht : t < 9) (ha : a < 900) (hl : ls.length + 9 ≤ 480) (hS : (cS (run tk5 c0 rs)).length ≤ t) :
    ∃ w' a' rs' ls', f_X10_text_257_21 rc k N w sx v3 (nI t) = rc w' (nI (t + 1)) ∧ HR w0 w' (t + 1) (t + 1) a' rs' ls' ∧ a' ≤ a + 3 ∧ ls'.length ≤ ls.length + 9 ∧ ls'.length % 3 = ls.length % 3 ∧ (cS (run tk5 c0 rs')).length ≤ t + 1 := by
  obtain ⟨hG, hT, hok, hnf, hls⟩ := id h
  rw [f_X10_text_257_21, hG.1.1, nI1]
  have hG1 := hG.n5 (t + 1)
  by_cases z : t ≤ 2
  · exact ⟨_, a, rs, ls, by rw [if_pos (show nI t ≤ (2 : Int32) from nI_le (b := 2) z (by omega))], ⟨hG1, hT, hok, hnf, hls⟩, by omega, by omega, rfl, by omega⟩
  rw [if_neg (show ¬ nI t ≤ (2 : Int32) from nI_ge (a := 2) (by omega) (by omega))]
  obtain ⟨d, v1, d1, d2, e1, hG2⟩ := hG1.next hs (by omega) N (lo := 0) (hi := 1) (by omega) (by omega)
  rw [show f_X9_next N (sF w 9 5 0 (nI (t + 1))) sx (0 : Int32) (1 : Int32) = some (v1, nI d) from e1, Option.bind_some]
  by_cases zd : d = 1
  · subst zd
    rw [if_pos (show (v1, nI 1).2 = (1 : Int32) from rfl)]
    have hs12 : inb (gF v1 9 6 0) 12 = true := by rw [hG2.1.2.1]; exact inb_nI (by omega) (by omega)
    obtain ⟨x, v2, x1, x2, e2, hG3⟩ := hG2.next hs (by omega) N (lo := 0) (hi := t) (by omega) (by omega)
    have e96 : (gF v1 9 6 0).toNatClampNeg = (cS (run tk5 c0 rs)).length := by rw [hG2.1.2.1, nI_clamp (by omega)]
    have hG4 := hG3.st (k := 43) (x := (cS (run tk5 c0 rs)).length) (v := x) ⟨by omega, by omega⟩ (fun z => by omega) (fun _ => Nat.le_refl _) (fun q hq => absurd hq List.not_mem_nil)
    obtain ⟨y, v4, y1, y2, e4, hG5⟩ := hG4.next hs (by omega) N (lo := 0) (hi := t) (by omega) (by omega)
    have hG6 := hG5.st (k := 44) (x := (cS (run tk5 c0 rs)).length) (v := y) ⟨by omega, by omega⟩ (fun z => by omega) (fun _ => Nat.le_refl _) (fun q hq => by
      rw [List.mem_singleton] at hq; subst hq; exact fun z => absurd z.1 (by show ¬ 43 = 44; omega))
    have hG7 := hG6.as (cs := [59, 115, 97, 109, 101, 32]) (by show ls.length + 6 ≤ 480; omega) (by decide)
    have hG8 := hG7.ac (c := 107 + x) (by rw [List.length_append]; show ls.length + 6 + 1 ≤ 480; omega) (by omega)
    have hG9 := hG8.ac (c := 32) (by rw [List.length_append, List.length_append]; show ls.length + 6 + 1 + 1 ≤ 480; omega) (by omega)
    have hG10 := hG9.ac (c := 107 + y) (by rw [List.length_append, List.length_append, List.length_append]; show ls.length + 6 + 1 + 1 + 1 ≤ 480; omega) (by omega)
    have hG11 := hG10.pS (i := x) (j := y) (List.mem_cons_of_mem _ (List.mem_cons_self)) List.mem_cons_self
    have i12 : ∀ {v : Mem} {n a : Nat} {p : List (Nat × Nat × Nat)} {l : List Nat}, HG w0 v n a (cL (run tk5 c0 rs)) (cS (run tk5 c0 rs)) p l → inb (gF v 9 6 0) 12 = true := fun h => by rw [h.1.2.1]; exact inb_nI (by omega) (by omega)
    have hrs : run tk5 c0 (rs ++ [.inr (true, x, y)]) = stp tk5 (run tk5 c0 rs) (.inr (true, x, y)) := run_snoc _ _ _ _
    refine ⟨(sF (apC (apC (apC (apS (sA v4 44 0 (cS (run tk5 c0 rs)).length (nI y)) [59, 115, 97, 109, 101, 32]) (nI (107 + x))) (nI 32)) (nI (107 + y))) 9 6 0 (nI ((cS (run tk5 c0 rs)).length + 1))), a + 1 + 1 + 1, rs ++ [.inr (true, x, y)], ls ++ lin (t + 1) (.inr (true, x, y)), ?_, ⟨?_, ?_, (okRs_snoc (r := .inr (true, x, y))).mpr ⟨hok, by rw [hT]; omega, by rw [hT]; omega, by omega⟩, ?_, h.lin _⟩, by omega, ?_, ?_, ?_⟩
    · refine obind e2 ?_
      refine oif hs12 ?_
      rw [e96]
      refine obind e4 ?_
      refine oif (i12 hG4) ?_
      have e5 : gF (sA v2 43 0 (cS (run tk5 c0 rs)).length (nI x)) 9 6 0 = nI (cS (run tk5 c0 rs)).length := hG4.1.2.1
      show (if lenT (sA v4 44 0 (gF (sA v2 43 0 (cS (run tk5 c0 rs)).length (nI x)) 9 6 0).toNatClampNeg (nI y)) + 6 ≤ 480 then _ else none) = _
      rw [e5, nI_clamp (by omega)]
      refine oif (by rw [hG6.len]; omega) ?_
      refine oif (i12 hG7) ?_
      rw [hG7.1.2.1, nI_clamp (by omega), hG7.get (List.mem_cons_of_mem _ List.mem_cons_self)]
      refine obind (name_ok (by omega)) ?_
      refine oif (by rw [hG7.len, List.length_append]; show ls.length + 6 + 1 ≤ 480; omega) ?_
      refine oif (inb_nI (by omega) (by omega)) ?_
      refine oif (by rw [hG8.len, List.length_append, List.length_append]; show ls.length + 6 + 1 + 1 ≤ 480; omega) ?_
      refine oif rfl ?_
      refine oif (i12 hG9) ?_
      show Option.bind (f_X10_name N (apC (apC (apS (sA v4 44 0 (cS (run tk5 c0 rs)).length (nI y)) [59, 115, 97, 109, 101, 32]) (nI (107 + x))) (nI 32)) (gA (apC (apC (apS (sA v4 44 0 (cS (run tk5 c0 rs)).length (nI y)) [59, 115, 97, 109, 101, 32]) (nI (107 + x))) (nI 32)) 44 0 (gF (apC (apC (apS (sA v4 44 0 (cS (run tk5 c0 rs)).length (nI y)) [59, 115, 97, 109, 101, 32]) (nI (107 + x))) (nI 32)) 9 6 0).toNatClampNeg)) _ = _
      rw [hG9.1.2.1, nI_clamp (by omega), hG9.get List.mem_cons_self]
      refine obind (name_ok (by omega)) ?_
      have l9 := hG9.len
      rw [List.length_append, List.length_append, List.length_append] at l9
      have l10 : lenT (apC (apC (apS (sA v4 44 0 (cS (run tk5 c0 rs)).length (nI y)) [59, 115, 97, 109, 101, 32]) (nI (107 + x))) (nI 32)) + 1 ≤ 480 := by
        rw [l9]; show ls.length + 6 + 1 + 1 + 1 ≤ 480; omega
      refine oif l10 ?_
      refine oif (inb_nI (by omega) (by omega)) ?_
      show rc (sF (apC (apC (apC (apS (sA v4 44 0 (cS (run tk5 c0 rs)).length (nI y)) [59, 115, 97, 109, 101, 32]) (nI (107 + x))) (nI 32)) (nI (107 + y))) 9 6 0 ((gF (apC (apC (apC (apS (sA v4 44 0 (cS (run tk5 c0 rs)).length (nI y)) [59, 115, 97, 109, 101, 32]) (nI (107 + x))) (nI 32)) (nI (107 + y))) 9 6 0) + (1 : Int32))) (nI (t + 1)) = _
      rw [hG10.1.2.1, nI1]
    · rw [hrs]
      have hg := hG11.fg
      rw [show ls ++ lin (t + 1) (.inr (true, x, y)) = ls ++ [59, 115, 97, 109, 101, 32] ++ [107 + x] ++ [32] ++ [107 + y] from by
        show ls ++ ([59, 115, 97, 109, 101, 32] ++ [107 + x] ++ [32] ++ [107 + y]) = _
        simp only [List.append_assoc]]
      exact hg
    · rw [hrs]; exact hT
    · intro r hr x9 e
      rcases List.mem_append.mp hr with q | q
      · exact hnf r q x9 e
      · rw [List.mem_singleton] at q; rw [q] at e; cases e
    · rw [List.length_append]; exact Nat.le_refl _
    · rw [List.length_append]; show (ls.length + 9) % 3 = _; omega
    · rw [hrs]; show (cS (run tk5 c0 rs) ++ [(x, y)]).length ≤ _; rw [List.length_append]; show _ + 1 ≤ _; omega
  · have e0 : d = 0 := by omega
    subst e0
    rw [if_neg (show ¬ (v1, nI 0).2 = (1 : Int32) from (by decide : ¬ nI 0 = (1 : Int32)))]
    exact ⟨_, a + 1, rs, ls, rfl, ⟨hG2, hT, hok, hnf, hls⟩, by omega, by omega, rfl, by omega⟩
def hd9 (t f : Nat) : List Nat := [59, 116, 101, 114, 109, 32] ++ [107 + t] ++ [32, 61, 32] ++ [fch f]
def RES (rc : Mem → Int32 → Option Mem) (w0 : Mem) (t : Nat) (r : Option Mem) : Prop :=
  ∃ w' a' rs' ls', r = rc w' (nI (t + 1)) ∧ HR w0 w' (t + 1) (t + 1) a' rs' ls' ∧ a' ≤ 6 * (t + 1) + 1 ∧ ls'.length ≤ 39 + 27 * (t + 1) ∧ ls'.length % 3 = 11 * min (t + 1) 3 % 3 ∧ (cS (run tk5 c0 rs')).length ≤ t + 1
/-- within a row: told before it rs, letters before it ls0 -/
def HI (w0 w : Mem) (t a : Nat) (rs : List Row) (ls0 : List Nat) (p : List (Nat × Nat × Nat)) (ls : List Nat) : Prop :=
  HG w0 w t a (cL (run tk5 c0 rs)) (cS (run tk5 c0 rs)) p ls ∧ ((cL (run tk5 c0 rs)).length = t ∧ okRs tk5 5 c0 rs ∧ (∀ r ∈ rs, ∀ x, r ≠ .inr (false, x)) ∧ ls0 = BASE ++ lns 0 rs) ∧ (cS (run tk5 c0 rs)).length ≤ t ∧ ls0.length ≤ 39 + 27 * t ∧ ls0.length % 3 = 11 * min t 3 % 3
theorem t257P {w0 w : Mem} {t a N f : Nat} {rs : List Row} {ls0 ls ps : List Nat} {p : List (Nat × Nat × Nat)} {sx : Nat × (Nat → Int32)} {v3 : Int32} {rc : Mem → Int32 → Option Mem} {k : Mem → Option Mem} (hs : sx.1 < 2 ^ 31) (h : HI w0 w t a rs ls0 p ls) (ht : t < 9) (ha : a ≤ 6 * t + 4) (h1 : (40, t, f) ∈ p) (h2 : ps.length ≤ 2) (h3 : ∀ k, k < ps.length → (41 + k, t, ps.getD k 0) ∈ p) (h4 : f < 5 ∧ ps.length = tk5 f ∧ ∀ k, k < ps.length → ps.getD k 0 < t) (hl : ls = ls0 ++ (hd9 t f ++ prt ps)) (h5 : (prt ps).length = if t < 3 then 0 else if f = 3 then 4 else 7) :
    RES rc w0 t (f_X10_text_257_21 rc k N w sx v3 (nI t)) := by
  obtain ⟨hG, ⟨hT, hok, hnf, hls⟩, hS, hl0, hm0⟩ := h
  have hrs : run tk5 c0 (rs ++ [.inl (f, ps)]) = stp tk5 (run tk5 c0 rs) (.inl (f, ps)) := run_snoc _ _ _ _
  have hlen : ls.length = ls0.length + 11 + (prt ps).length := by rw [hl, List.length_append, List.length_append]; show ls0.length + (11 + _) = _; omega
  have hR : HR w0 w t (t + 1) a (rs ++ [.inl (f, ps)]) ls := by
    refine ⟨?_, ?_, (okRs_snoc (r := .inl (f, ps))).mpr ⟨hok, h4.1, h4.2.1, fun k hk => by rw [hT]; exact h4.2.2 k hk, by rw [hT]; omega⟩, ?_, ?_⟩
    · rw [hrs]
      exact (hG.pT (f := f) (ps := ps) (by rw [hT]; exact h1) h2 (fun k hk => by rw [hT]; exact h3 k hk)).fg
    · rw [hrs]; show (cL (run tk5 c0 rs) ++ [(f, ps)]).length = _; rw [List.length_append, hT]; rfl
    · intro r hr x9 e
      rcases List.mem_append.mp hr with q | q
      · exact hnf r q x9 e
      · rw [List.mem_singleton] at q; rw [q] at e; cases e
    · rw [lns_snoc, ← List.append_assoc, ← hls, show cnt9 0 rs = t from (cnt_run rs c0).trans hT, hl]; rfl
  have hcS : cS (run tk5 c0 (rs ++ [.inl (f, ps)])) = cS (run tk5 c0 rs) := by rw [hrs]; rfl
  have h6 : (prt ps).length ≤ 7 := by
    rw [h5]; split
    · omega
    · split <;> omega
  obtain ⟨w', a', rs', ls', e1, e2, e3, e4, e5, e6⟩ := t257 (N := N) (v3 := v3) (rc := rc) (k := k) hs hR ht (by omega) (by omega) (by rw [hcS]; exact hS)
  refine ⟨w', a', rs', ls', e1, e2, by omega, by omega, ?_, e6⟩
  rw [e5, hlen, h5]
  by_cases z : t < 3
  · rw [if_pos z]; rw [Nat.min_eq_left (by omega)] at hm0 ⊢; omega
  · rw [if_neg z]; rw [Nat.min_eq_right (by omega)] at hm0 ⊢; split <;> omega
theorem t203 {w0 w : Mem} {t a N f x y : Nat} {rs : List Row} {ls0 ls : List Nat} {p : List (Nat × Nat × Nat)} {sx : Nat × (Nat → Int32)} {v3 : Int32} {rc : Mem → Int32 → Option Mem} {k : Mem → Option Mem} (hs : sx.1 < 2 ^ 31) (h : HI w0 w t a rs ls0 p ls) (ht : t < 9) (ha : a ≤ 6 * t + 4) (h1 : (40, t, f) ∈ p) (h2 : (41, t, x) ∈ p) (h3 : (42, t, y) ∈ p) (h4 : (t < 3 ∧ f < 3) ∨ (3 ≤ t ∧ (f = 3 ∨ f = 4) ∧ x < t ∧ y < t)) (hl : ls = ls0 ++ (hd9 t f ++ if f = 3 then prt [x] else [])) :
    RES rc w0 t (f_X10_text_203_21 rc k N w sx v3 (nI t)) := by
  obtain ⟨hG, hH, hS, hl0, hm0⟩ := id h
  have hcl : (nI t).toNatClampNeg = t := nI_clamp (by omega)
  have e40 : gA w 40 0 t = nI f := hG.get h1
  have hin : inb (nI t) 12 = true := inb_nI (by omega) (by omega)
  have hhd : (hd9 t f).length = 11 := rfl
  rw [f_X10_text_203_21, if_pos hin, hcl, e40]
  by_cases f4 : f = 4
  · subst f4
    rw [if_neg (by omega), List.append_nil] at hl
    have hlen : ls.length = ls0.length + 11 := by rw [hl, List.length_append, hhd]
    have h34 : 3 ≤ t ∧ x < t ∧ y < t := by omega
    rw [if_pos (show nI 4 = (4 : Int32) from rfl)]
    have hG1 := hG.as (cs := [32, 40]) (by show _ + 2 ≤ 480; omega) (by decide)
    have hG2 := hG1.ac (c := 107 + x) (by rw [List.length_append]; show _ + 2 + 1 ≤ 480; omega) (by omega)
    have hG3 := hG2.as (cs := [44, 32]) (by rw [List.length_append, List.length_append]; show _ + 2 + 1 + 2 ≤ 480; omega) (by decide)
    have hG4 := hG3.ac (c := 107 + y) (by rw [List.length_append, List.length_append, List.length_append]; show _ + 2 + 1 + 2 + 1 ≤ 480; omega) (by omega)
    have hG5 := hG4.as (cs := [41]) (by rw [List.length_append, List.length_append, List.length_append, List.length_append]; show _ + 2 + 1 + 2 + 1 + 1 ≤ 480; omega) (by decide)
    have key := t257P (N := N) (v3 := v3) (rc := rc) (k := k) (ps := [x, y]) hs ⟨hG5, hH, hS, hl0, hm0⟩ ht ha h1 (Nat.le_refl _) (fun k hk => by
      have : k = 0 ∨ k = 1 := by have : k < 2 := hk; omega
      rcases this with rfl | rfl
      · exact h2
      · exact h3) ⟨by omega, rfl, fun k hk => by
      have : k = 0 ∨ k = 1 := by have : k < 2 := hk; omega
      rcases this with rfl | rfl
      · exact h34.2.1
      · exact h34.2.2⟩ (by rw [hl]; show _ = ls0 ++ (hd9 t 4 ++ ([32, 40] ++ [107 + x] ++ [44, 32] ++ [107 + y] ++ [41])); simp only [List.append_assoc]) (by rw [if_neg (by omega), if_neg (by omega)]; rfl)
    obtain ⟨w', a', rs', ls', e1, e2⟩ := key
    refine ⟨w', a', rs', ls', ?_, e2⟩
    refine oif (by rw [hG.len]; omega) ?_
    refine oif hin ?_
    rw [hG1.get h2]
    refine obind (name_ok (by omega)) ?_
    refine oif (by rw [hG1.len, List.length_append]; show _ + 2 + 1 ≤ 480; omega) ?_
    refine oif (inb_nI (by omega) (by omega)) ?_
    refine oif (by rw [hG2.len, List.length_append, List.length_append]; show _ + 2 + 1 + 2 ≤ 480; omega) ?_
    refine oif hin ?_
    rw [hG3.get h3]
    refine obind (name_ok (by omega)) ?_
    refine oif (by rw [hG3.len, List.length_append, List.length_append, List.length_append]; show _ + 2 + 1 + 2 + 1 ≤ 480; omega) ?_
    refine oif (inb_nI (by omega) (by omega)) ?_
    refine oif (by rw [hG4.len, List.length_append, List.length_append, List.length_append, List.length_append]; show _ + 2 + 1 + 2 + 1 + 1 ≤ 480; omega) ?_
    exact e1
  · have f9 : f < 5 := by omega
    rw [if_neg (show ¬ nI f = (4 : Int32) from fun z => f4 ((nI_inj_iff (b := 4) (by omega) (by omega)).mp z))]
    by_cases f3 : f = 3
    · subst f3
      rw [if_pos rfl] at hl
      exact t257P (ps := [x]) hs h ht ha h1 (by show 1 ≤ 2; omega) (fun k hk => by
        have : k = 0 := by have : k < 1 := hk; omega
        subst this
        exact h2) ⟨by omega, rfl, fun k hk => by
        have : k = 0 := by have : k < 1 := hk; omega
        subst this
        show x < t; omega⟩ hl (by rw [if_neg (by omega), if_pos rfl]; rfl)
    · rw [if_neg f3] at hl
      refine t257P (ps := []) hs h ht ha h1 (by show 0 ≤ 2; omega) (fun k hk => absurd hk (Nat.not_lt_zero k)) ⟨f9, ?_, fun k hk => absurd hk (Nat.not_lt_zero k)⟩ hl (by rw [if_pos (by omega)]; rfl)
      have : f = 0 ∨ f = 1 ∨ f = 2 := by omega
      rcases this with rfl | rfl | rfl <;> rfl
theorem t166 {w0 w : Mem} {t a N f x y : Nat} {rs : List Row} {ls0 ls : List Nat} {sx : Nat × (Nat → Int32)} {v3 : Int32} {rc : Mem → Int32 → Option Mem} {k : Mem → Option Mem} (hs : sx.1 < 2 ^ 31) (h : HI w0 w t a rs ls0 [(41, t, x), (40, t, f)] ls) (ht : t < 9) (ha : a ≤ 6 * t + 4) (h4 : (t < 3 ∧ f < 3) ∨ (3 ≤ t ∧ (f = 3 ∨ f = 4) ∧ x < t ∧ y < t)) (hl : ls = ls0 ++ hd9 t f) :
    RES rc w0 t (f_X10_text_166_21_s3 rc k N w sx v3 (nI t) (nI y) (nI t)) := by
  obtain ⟨hG, hH, hS, hl0, hm0⟩ := id h
  have hcl : (nI t).toNatClampNeg = t := nI_clamp (by omega)
  have hin : inb (nI t) 12 = true := inb_nI (by omega) (by omega)
  have hlen : ls.length = ls0.length + 11 := by rw [hl, List.length_append]; rfl
  have hG1 := hG.st (k := 42) (x := t) (v := y) ⟨by omega, by omega⟩ (fun _ => by rw [hH.1]; exact Nat.le_refl _) (fun z => by omega) (fun q hq => by
    simp only [List.mem_cons, List.not_mem_nil, or_false] at hq
    rcases hq with rfl | rfl
    · exact fun z => absurd z.1 (show ¬ 41 = 42 by omega)
    · exact fun z => absurd z.1 (show ¬ 40 = 42 by omega))
  have m40 : (40, t, f) ∈ [(42, t, y), (41, t, x), (40, t, f)] := by simp
  have m41 : (41, t, x) ∈ [(42, t, y), (41, t, x), (40, t, f)] := by simp
  have m42 : (42, t, y) ∈ [(42, t, y), (41, t, x), (40, t, f)] := by simp
  rw [f_X10_text_166_21_s3, if_pos hin, if_pos hin, hcl, hG1.get m40]
  by_cases f3 : f = 3
  · subst f3
    have h34 : 3 ≤ t ∧ x < t := by omega
    rw [if_pos (show nI 3 = (3 : Int32) from rfl)]
    have hG2 := hG1.as (cs := [32, 40]) (by show _ + 2 ≤ 480; omega) (by decide)
    have hG3 := hG2.ac (c := 107 + x) (by rw [List.length_append]; show _ + 2 + 1 ≤ 480; omega) (by omega)
    have hG4 := hG3.as (cs := [41]) (by rw [List.length_append, List.length_append]; show _ + 2 + 1 + 1 ≤ 480; omega) (by decide)
    have key := t203 (N := N) (v3 := v3) (rc := rc) (k := k) hs ⟨hG4, hH, hS, hl0, hm0⟩ ht ha m40 m41 m42 h4 (by rw [if_pos rfl, hl]; show _ = ls0 ++ (hd9 t 3 ++ ([32, 40] ++ [107 + x] ++ [41])); simp only [List.append_assoc])
    obtain ⟨w', a', rs', ls', e1, e2⟩ := key
    refine ⟨w', a', rs', ls', ?_, e2⟩
    refine oif (by rw [hG1.len]; omega) ?_
    refine oif hin ?_
    rw [hG2.get m41]
    refine obind (name_ok (by omega)) ?_
    refine oif (by rw [hG2.len, List.length_append]; show _ + 2 + 1 ≤ 480; omega) ?_
    refine oif (inb_nI (by omega) (by omega)) ?_
    refine oif (by rw [hG3.len, List.length_append, List.length_append]; show _ + 2 + 1 + 1 ≤ 480; omega) ?_
    exact e1
  · rw [if_neg (show ¬ nI f = (3 : Int32) from fun z => f3 ((nI_inj_iff (b := 3) (by omega) (by omega)).mp z))]
    exact t203 hs ⟨hG1, hH, hS, hl0, hm0⟩ ht ha m40 m41 m42 h4 (by rw [if_neg f3, List.append_nil]; exact hl)
theorem t141 {w0 w : Mem} {t a N f x : Nat} {rs : List Row} {ls0 ls : List Nat} {sx : Nat × (Nat → Int32)} {v3 : Int32} {rc : Mem → Int32 → Option Mem} {k : Mem → Option Mem} (hs : sx.1 < 2 ^ 31) (h : HI w0 w t a rs ls0 [(40, t, f)] ls) (ht : t < 9) (ha : a ≤ 6 * t + 3) (h4 : (t < 3 ∧ f < 3) ∨ (3 ≤ t ∧ (f = 3 ∨ f = 4) ∧ x < t)) (hl : ls = ls0 ++ hd9 t f) :
    RES rc w0 t (f_X10_text_141_21_s3 rc k N w sx v3 (nI t) (nI x) (nI t)) := by
  obtain ⟨hG, hH, hS, hl0, hm0⟩ := id h
  have hcl : (nI t).toNatClampNeg = t := nI_clamp (by omega)
  have hin : inb (nI t) 12 = true := inb_nI (by omega) (by omega)
  have hG1 := hG.st (k := 41) (x := t) (v := x) ⟨by omega, by omega⟩ (fun _ => by rw [hH.1]; exact Nat.le_refl _) (fun z => by omega) (fun q hq => by
    rw [List.mem_singleton] at hq; subst hq; exact fun z => absurd z.1 (show ¬ 40 = 41 by omega))
  rw [f_X10_text_141_21_s3, if_pos hin, hcl]
  by_cases t0 : t = 0
  · subst t0
    rw [if_pos (show nI 0 ≤ (0 : Int32) from by decide)]
    exact t166 (y := 0) hs ⟨hG1, hH, hS, hl0, hm0⟩ ht (by omega) (by omega) hl
  · rw [if_neg (show ¬ nI t ≤ (0 : Int32) from nI_ge (a := 0) (by omega) (by omega)), show nI t - (1 : Int32) = nI (t - 1) from n_sub (a := t) (b := 1) (by omega)]
    obtain ⟨y, v, y1, y2, e, hG2⟩ := hG1.next hs (by omega) N (lo := 0) (hi := t - 1) (by omega) (by omega)
    rw [show f_X9_next N (sA w 41 0 t (nI x)) sx (0 : Int32) (nI (t - 1)) = some (v, nI y) from e, Option.bind_some]
    exact t166 hs ⟨hG2, hH, hS, hl0, hm0⟩ ht (by omega) (by omega) hl
theorem t112 {w0 w : Mem} {t a N f : Nat} {rs : List Row} {ls0 ls : List Nat} {sx : Nat × (Nat → Int32)} {v3 c : Int32} {rc : Mem → Int32 → Option Mem} {k : Mem → Option Mem} (hs : sx.1 < 2 ^ 31) (h : HI w0 w t a rs ls0 [(40, t, f)] ls) (ht : t < 9) (ha : a ≤ 6 * t + 2) (h4 : (t < 3 ∧ f < 3) ∨ (3 ≤ t ∧ (f = 3 ∨ f = 4))) (hc : c = nI (fch f)) (hl : ls = ls0 ++ ([59, 116, 101, 114, 109, 32] ++ [107 + t] ++ [32, 61, 32])) :
    RES rc w0 t (f_X10_text_112_21_s2 rc k N w sx v3 (nI t) c) := by
  obtain ⟨hG, hH, hS, hl0, hm0⟩ := id h
  have hlen : ls.length = ls0.length + 10 := by rw [hl, List.length_append]; rfl
  have hf9 : fch f < 128 := fch_lt f (by omega)
  subst hc
  rw [f_X10_text_112_21_s2, i2c_k _ hf9, if_pos (by rw [hG.len]; omega), if_pos (inb_nI hf9 (by omega))]
  have hG1 := hG.ac (c := fch f) (by omega) (by omega)
  have hl1 : ls ++ [fch f] = ls0 ++ hd9 t f := by rw [hl, List.append_assoc]; rfl
  by_cases t0 : t = 0
  · subst t0
    rw [if_pos (show nI 0 ≤ (0 : Int32) from by decide)]
    exact t141 (x := 0) hs ⟨hG1, hH, hS, hl0, hm0⟩ ht (by omega) (by omega) hl1
  · rw [if_neg (show ¬ nI t ≤ (0 : Int32) from nI_ge (a := 0) (by omega) (by omega)), show nI t - (1 : Int32) = nI (t - 1) from n_sub (a := t) (b := 1) (by omega)]
    obtain ⟨y, v, y1, y2, e, hG2⟩ := hG1.next hs (by omega) N (lo := 0) (hi := t - 1) (by omega) (by omega)
    rw [show f_X9_next N (apC w (nI (fch f))) sx (0 : Int32) (nI (t - 1)) = some (v, nI y) from e, Option.bind_some]
    exact t141 hs ⟨hG2, hH, hS, hl0, hm0⟩ ht (by omega) (by omega) hl1
theorem t50 {w0 w : Mem} {t a N f : Nat} {rs : List Row} {ls : List Nat} {sx : Nat × (Nat → Int32)} {v3 : Int32} {rc : Mem → Int32 → Option Mem} {k : Mem → Option Mem} (hs : sx.1 < 2 ^ 31) (h : HI w0 w t a rs ls [] ls) (ht : t < 9) (ha : a ≤ 6 * t + 2) (h4 : (t < 3 ∧ f < 3) ∨ (3 ≤ t ∧ (f = 3 ∨ f = 4))) :
    RES rc w0 t (f_X10_text_50_21_s3 rc k N w sx v3 (nI t) (nI f) (nI t)) := by
  obtain ⟨hG, hH, hS, hl0, hm0⟩ := id h
  have hcl : (nI t).toNatClampNeg = t := nI_clamp (by omega)
  have hin : inb (nI t) 12 = true := inb_nI (by omega) (by omega)
  have hG1 := hG.st (k := 40) (x := t) (v := f) ⟨by omega, by omega⟩ (fun _ => by rw [hH.1]; exact Nat.le_refl _) (fun z => by omega) (fun q hq => absurd hq List.not_mem_nil)
  have hG2 := hG1.as (cs := [59, 116, 101, 114, 109, 32]) (by show _ + 6 ≤ 480; omega) (by decide)
  have hG3 := hG2.ac (c := 107 + t) (by rw [List.length_append]; show _ + 6 + 1 ≤ 480; omega) (by omega)
  have hG4 := hG3.as (cs := [32, 61, 32]) (by rw [List.length_append, List.length_append]; show _ + 6 + 1 + 3 ≤ 480; omega) (by decide)
  have hl4 : ls ++ [59, 116, 101, 114, 109, 32] ++ [107 + t] ++ [32, 61, 32] = ls ++ ([59, 116, 101, 114, 109, 32] ++ [107 + t] ++ [32, 61, 32]) := by simp only [List.append_assoc]
  rw [f_X10_text_50_21_s3, hcl, if_pos hin, if_pos (by rw [hG1.len]; omega), name_ok (by omega), Option.bind_some, if_pos (by rw [hG2.len, List.length_append]; show _ + 6 + 1 ≤ 480; omega), if_pos (inb_nI (by omega) (by omega)), if_pos (by rw [hG3.len, List.length_append, List.length_append]; show _ + 6 + 1 + 3 ≤ 480; omega), if_pos hin, hG4.get (by simp : (40, t, f) ∈ [(40, t, f)])]
  by_cases f3 : 3 ≤ f
  · rw [if_pos (show (3 : Int32) ≤ nI f from nI_le (a := 3) f3 (by omega)), if_pos hin]
    by_cases f4 : f = 3
    · subst f4
      rw [if_pos (show nI 3 = (3 : Int32) from rfl)]
      exact t112 hs ⟨hG4, hH, hS, hl0, hm0⟩ ht ha h4 rfl hl4
    · have : f = 4 := by omega
      subst this
      rw [if_neg (show ¬ nI 4 = (3 : Int32) from by decide)]
      exact t112 hs ⟨hG4, hH, hS, hl0, hm0⟩ ht ha h4 rfl hl4
  · rw [if_neg (show ¬ (3 : Int32) ≤ nI f from nI_ge (b := 3) (by omega) (by omega)), if_pos hin]
    refine t112 hs ⟨hG4, hH, hS, hl0, hm0⟩ ht ha h4 ?_ hl4
    have : f = 0 ∨ f = 1 ∨ f = 2 := by omega
    rcases this with rfl | rfl | rfl <;> rfl
/-- text() comes to its end: rows, memory, letters -/
theorem text_ok {w0 : Mem} {N : Nat} {sx : Nat × (Nat → Int32)} (hN : 20 < N) (hs : sx.1 < 2 ^ 31) (h0 : gF w0 9 5 0 = nI 0 ∧ gF w0 9 6 0 = nI 0 ∧ gF w0 46 1 0 = nI 0) :
    ∃ w' n a rs ls, f_X10_text N (txt0 w0) sx = some w' ∧ HR w0 w' n n a rs ls ∧ 4 ≤ n ∧ n ≤ 9 ∧ a ≤ 60 ∧ ls.length ≤ 282 ∧ (cS (run tk5 c0 rs)).length ≤ 9 := by
  have hLT : LT (txt0 w0) BASE := ⟨txt0_len w0, fun j hj => ⟨txt0_lt w0 hj, by
    have key : ∀ j, j < 39 → BASE.getD j 0 < 256 := by decide
    exact key j hj⟩⟩
  have hfr : Fr FTp FTq w0 (txt0 w0) := by
    have f1 : Fr FTp FTq w0 (sF w0 60 0 0 (nI 0)) := ⟨fun k j i z => by rw [gF_sF, if_neg (by omega)], fun _ _ _ => rfl, fun _ _ => rfl, fun _ _ _ => rfl⟩
    exact f1.tr ((FT_S BASE _).mono (fun _ _ _ z => by omega) (fun _ _ z => by omega))
  have g9 : ∀ j, gF (txt0 w0) 9 j 0 = gF w0 9 j 0 := fun j => by
    have := (FT_S BASE (sF w0 60 0 0 (nI 0))).1 9 j 0 (by omega)
    refine this.trans ?_
    rw [gF_sF, if_neg (by omega)]
  have g46 : gF (txt0 w0) 46 1 0 = gF w0 46 1 0 := by
    have := (FT_S BASE (sF w0 60 0 0 (nI 0))).1 46 1 0 (by omega)
    refine this.trans ?_
    rw [gF_sF, if_neg (by omega)]
  have hG0 : HG w0 (txt0 w0) 0 0 [] [] [] BASE := ⟨⟨(g9 5).trans h0.1, (g9 6).trans h0.2.1, g46.trans h0.2.2⟩, ⟨fun i hi => absurd hi (Nat.not_lt_zero i), fun k i j e => by simp at e⟩, (fun q hq => absurd hq List.not_mem_nil), hLT, hfr⟩
  obtain ⟨m, v, m1, m2, e, hG1⟩ := hG0.next hs (by omega) N (lo := 4) (hi := 9) (by omega) (by omega)
  rw [f_X10_text, show f_X9_next N (txt0 w0) sx (4 : Int32) (9 : Int32) = some (v, nI m) from e, Option.bind_some]
  let J : Nat → Mem → Prop := fun t w => ∃ a rs ls, HR w0 w t t a rs ls ∧ a ≤ 6 * t + 1 ∧ ls.length ≤ 39 + 27 * t ∧ ls.length % 3 = 11 * min t 3 % 3 ∧ (cS (run tk5 c0 rs)).length ≤ t
  obtain ⟨w9, hJ, e9⟩ := lpc m (fun f w t => lp_X10_text_21 (fun (w_3 : Mem) => (f_X10_text_373 N w_3 sx)) N sx (nI m) f w t) (fun w => f_X10_text_373 N w sx) J (fun f w _ => by
    show lp_X10_text_21 _ N sx (nI m) (f + 1) w (nI m) = _
    rw [lp_X10_text_21, if_pos (nI_le (Nat.le_refl m) (by omega))]) (fun f t w ht ⟨a, rs, ls, hR, b1, b2, b3, b4⟩ => by
    have hI : HI w0 w t a rs ls [] ls := ⟨hR.1, ⟨hR.2.1, hR.2.2.1, hR.2.2.2.1, hR.2.2.2.2⟩, b4, b2, b3⟩
    have fin : ∀ r, RES (fun w t => lp_X10_text_21 (fun (w_3 : Mem) => (f_X10_text_373 N w_3 sx)) N sx (nI m) f w t) w0 t r → lp_X10_text_21 (fun (w_3 : Mem) => (f_X10_text_373 N w_3 sx)) N sx (nI m) (f + 1) w (nI t) = r → ∃ a', J (t + 1) a' ∧ lp_X10_text_21 (fun (w_3 : Mem) => (f_X10_text_373 N w_3 sx)) N sx (nI m) (f + 1) w (nI t) = lp_X10_text_21 (fun (w_3 : Mem) => (f_X10_text_373 N w_3 sx)) N sx (nI m) f a' (nI (t + 1)) := fun r ⟨w', a', rs', ls', q1, q2⟩ q3 => ⟨w', ⟨a', rs', ls', q2⟩, q3.trans q1⟩
    by_cases t3 : 3 ≤ t
    · obtain ⟨fn, v2, d1, d2, e2, hG2⟩ := hR.1.next hs (by omega) N (lo := 3) (hi := 4) (by omega) (by omega)
      refine fin _ (t50 (f := fn) (k := fun (w_3 : Mem) => (f_X10_text_373 N w_3 sx)) (v3 := nI m) (N := N) hs ⟨hG2, hI.2⟩ (by omega) (by omega) (by omega)) ?_
      rw [lp_X10_text_21, if_neg (nI_ge ht (by omega)), if_pos (show (3 : Int32) ≤ nI t from nI_le (a := 3) t3 (by omega)), show f_X9_next N w sx (3 : Int32) (4 : Int32) = some (v2, nI fn) from e2, Option.bind_some]
    · refine fin _ (t50 (f := t) (k := fun (w_3 : Mem) => (f_X10_text_373 N w_3 sx)) (v3 := nI m) (N := N) hs hI (by omega) (by omega) (by omega)) ?_
      rw [lp_X10_text_21, if_neg (nI_ge ht (by omega)), if_neg (show ¬ (3 : Int32) ≤ nI t from nI_ge (b := 3) (by omega) (by omega))]) 0 N v (by omega) (by omega) ⟨1, [], BASE, ⟨hG1, rfl, trivial, (fun r hr => absurd hr List.not_mem_nil), rfl⟩, by omega, Nat.le_refl _, rfl, Nat.le_refl _⟩
  obtain ⟨a, rs, ls, hR, b1, b2, b3, b4⟩ := hJ
  refine ⟨w9, m, a, rs, ls, ?_, hR, m1, m2, by omega, by omega, by omega⟩
  refine e9.trans ?_
  show f_X10_text_373 N w9 sx = _
  rw [f_X10_text_373, hR.1.len, if_pos (by rw [b3, Nat.min_eq_right (by omega)])]
