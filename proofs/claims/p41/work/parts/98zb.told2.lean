/-! the law's start: what is told, and how the class stands then -/
def bsT (w : Mem) : List Int32 := (List.range (lenT w)).map (fun j => sb_b (ltT w j))
theorem bsT_len (w : Mem) : (bsT w).length = lenT w := by unfold bsT; rw [List.length_map, List.length_range]
theorem bsT_get (w : Mem) : ∀ j, j < lenT w → (bsT w).getD j 0 = sb_b (ltT w j) := fun j hj => by
  unfold bsT
  rw [List.getD_eq_getElem?_getD, List.getElem?_map, List.getElem?_range hj]; rfl
/-- how Told stands -/
def TD (w : Mem) (a : Nat) (L : Tl) (S : Prs) : Prop := (gF w 9 5 0 = nI L.length ∧ gF w 9 6 0 = nI S.length ∧ gF w 46 1 0 = nI a) ∧ TDm w L S
theorem told_ok {N : Nat} {sx : Nat × (Nat → Int32)} (hN : 2000 < N) (hs : sx.1 < 2 ^ 31) :
    ∃ w1 w2 rs a, f_X10_text N (txt0 wI) sx = some w1 ∧ lenT w1 < 2 ^ 31 ∧ f_L_tell N (sF w1 61 1 0 0) (bsT w1) = some (w2, nI (cL (run tk5 c0 rs)).length) ∧ RelX w2 1 5 tk5 rs [] (NLs (cL (run tk5 c0 rs)).length) [] ∧ okRs tk5 5 c0 rs ∧ (∀ r ∈ rs, ∀ x, r ≠ .inr (false, x)) ∧ TD w2 a (cL (run tk5 c0 rs)) (cS (run tk5 c0 rs)) ∧ a ≤ 60 ∧ 4 ≤ (cL (run tk5 c0 rs)).length ∧ (cL (run tk5 c0 rs)).length ≤ 9 ∧ (cS (run tk5 c0 rs)).length ≤ 9 := by
  obtain ⟨w1, n, a, rs, ls, e1, ⟨hG, hT, hok, hnf, hls⟩, h4, h9, ha, hl, hS⟩ := text_ok (w0 := wI) (N := N) (sx := sx) (by omega) hs ⟨rfl, rfl, rfl⟩
  obtain ⟨hA, hTD, -, hLT, hF⟩ := hG
  have hlen : lenT w1 = ls.length := hLT.1
  have hTX : TX w1 [] := ⟨(hF.1 _ _ _ (by omega)).trans rfl, fun i hi => absurd hi (Nat.not_lt_zero i)⟩
  have hbs : ∀ j, j < ls.length → (bsT w1).getD j 0 = sb_b (ls.getD j 0) ∧ ls.getD j 0 < 256 := fun j hj => ⟨by rw [bsT_get w1 j (by omega), (hLT.2 j hj).1], (hLT.2 j hj).2⟩
  have hR : ls.length ≤ 20 * ((ls.length + 19) / 20) ∧ 20 * ((ls.length + 19) / 20) < ls.length + 20 := by omega
  obtain ⟨wt, e2, hTt, hFt⟩ := tell_ok (N := N) (w := w1) (ls := ls) (bs := bsT w1) (by omega) (by rw [bsT_len, hlen]) hbs (by omega) hR hTX
  have hgr := okRs_GRs rs c0 hok (fun m hm => by omega)
  have htl : ((List.range (20 * ((ls.length + 19) / 20))).map (chr9 ls)).length = 20 * ((ls.length + 19) / 20) := by rw [List.length_map, List.length_range]
  have hch : ∀ b, b ∈ (List.range (20 * ((ls.length + 19) / 20))).map (chr9 ls) → b < 256 := fun b hb => by
    obtain ⟨i, -, rfl⟩ := List.mem_map.mp hb
    unfold chr9
    by_cases z : i < ls.length
    · rw [if_pos z]; exact (hbs i z).2
    · rw [if_neg z]; omega
  have hsplit : (List.range (20 * ((ls.length + 19) / 20))).map (chr9 ls) = [] ++ (ls ++ List.replicate (20 * ((ls.length + 19) / 20) - ls.length) 32) := by
    apply List.ext_getElem?
    intro i
    rw [List.nil_append]
    by_cases z : i < ls.length
    · rw [List.getElem?_append_left z, List.getElem?_map, List.getElem?_range (by omega)]
      show some (chr9 ls i) = _
      unfold chr9
      rw [if_pos z, List.getD_eq_getElem?_getD, List.getElem?_eq_getElem z]; rfl
    · rw [List.getElem?_append_right (by omega), List.getElem?_map]
      by_cases z2 : i < 20 * ((ls.length + 19) / 20)
      · rw [List.getElem?_range z2, List.getElem?_replicate, if_pos (by omega)]
        show some (chr9 ls i) = _
        unfold chr9
        rw [if_neg z]
      · rw [List.getElem?_eq_none (by rw [List.length_range]; omega), List.getElem?_replicate, if_neg (by omega)]; rfl
  have hlx := lex_all hgr.1 hgr.2
  rw [← hls] at hlx
  have hTK := hlx [] (List.replicate (20 * ((ls.length + 19) / 20) - ls.length) 32) _ 0 ls.length hsplit rfl (Nat.zero_add _).symm
  have hrl : rs.length ≤ 40 := by
    have h := run_len tk5 rs c0
    have hQ : (cQ (run tk5 c0 rs)).length ≤ 8 := by
      have := (CI.rn (nf := 5) (CI.zero (by omega) (fun g hg => by
        have : g = 0 ∨ g = 1 ∨ g = 2 ∨ g = 3 ∨ g = 4 := by omega
        rcases this with rfl | rfl | rfl | rfl | rfl <;> decide)) hok)
      exact this.2.2.2.1.1
    have e0 : (cL c0).length + (cS c0).length + (cQ c0).length = 0 := rfl
    omega
  obtain ⟨w2, e3, hX, f1, f2⟩ := xtext_ok (N := N) (n := ls.length) (w := wt) hN hch (by rw [htl]; omega) (by rw [htl]; omega) hTt ((hFt.2.2.2 _ _ _).trans ((hF.2.2.2 _ _ _).trans rfl)) ((hFt.2.2.2 _ _ _).trans ((hF.2.2.2 _ _ _).trans rfl)) hTK hgr.1 hok hnf hgr.2 hrl
  have g9 : ∀ j, gF w2 9 j 0 = gF w1 9 j 0 := fun j => (f1 9 j 0 (Or.inl rfl)).trans (hFt.1 _ _ _ (by omega))
  have g46 : gF w2 46 1 0 = gF w1 46 1 0 := (f1 46 1 0 (Or.inr rfl)).trans (hFt.1 _ _ _ (by omega))
  have gA9 : ∀ k, 40 ≤ k → k ≤ 44 → gA w2 k 0 = gA w1 k 0 := fun k k1 k2 => (f2 k 0 k1).trans (hFt.2.1 _ _ (by omega))
  refine ⟨w1, w2, rs, a, e1, by omega, e2.trans e3, ?_, hok, hnf, ⟨⟨(g9 5).trans (by rw [hT]; exact hA.1), (g9 6).trans hA.2.1, g46.trans hA.2.2⟩, hTD.to (fun k x k1 k2 _ => by rw [gA9 k (by omega) (by omega)]) (fun k x k1 k2 _ => by rw [gA9 k (by omega) (by omega)])⟩, ha, by omega, by omega, hS⟩
  rw [show (cL (run tk5 c0 rs)).length = cnt9 0 rs from (cnt_run rs c0).symm]
  exact hX
