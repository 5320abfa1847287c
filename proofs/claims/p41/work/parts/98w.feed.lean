/-! the law's tell(): what is fed -/
def u9 (x : Int32) : Nat := x.toBitVec.toNat
theorem u9_nI {c : Nat} (h : c < 2 ^ 32) : u9 (nI c) = c := by
  show (BitVec.ofNat 32 c).toNat = c
  rw [BitVec.toNat_ofNat, Nat.mod_eq_of_lt h]
theorem u9_step {x : Int32} {c : Nat} (hx : u9 x < 16777216) (hc : c < 256) : u9 ((x <<< ((8 : Int32) &&& 31)) ||| nI c) = u9 x * 256 + c := by
  have h1 : u9 (x <<< ((8 : Int32) &&& 31)) = u9 x * 256 := by
    have := pk_shl x ((8 : Int32) &&& 31) 8 (by decide)
    refine this.trans ?_
    show u9 x * 2 ^ 8 % 2 ^ 32 = _
    rw [Nat.mod_eq_of_lt (by omega)]
  show (((x <<< ((8 : Int32) &&& 31)) ||| nI c).toBitVec).toNat = _
  rw [Int32.toBitVec_or, BitVec.toNat_or]
  show u9 (x <<< ((8 : Int32) &&& 31)) ||| u9 (nI c) = _
  rw [h1, u9_nI (by omega), Nat.mul_comm]
  exact (Nat.two_pow_add_eq_or_of_lt (i := 8) hc (u9 x)).symm
def W4 (c : Nat → Nat) (p : Nat) : Nat → Nat
  | 0 => 0
  | m + 1 => W4 c p m * 256 + c (p + m)
theorem W4_lt {c : Nat → Nat} (hc : ∀ i, c i < 256) (p : Nat) : W4 c p 0 < 1 ∧ W4 c p 1 < 256 ∧ W4 c p 2 < 65536 ∧ W4 c p 3 < 16777216 ∧ W4 c p 4 < 4294967296 := by
  have h0 := hc (p + 0)
  have h1 := hc (p + 1)
  have h2 := hc (p + 2)
  have h3 := hc (p + 3)
  simp only [W4]
  omega
theorem by4_W {c : Nat → Nat} (hc : ∀ i, c i < 256) {p : Nat} {x : Int32} (h : u9 x = W4 c p 4) : by4 x = [c p, c (p + 1), c (p + 2), c (p + 3)] := by
  have h0 := hc p
  have h1 := hc (p + 1)
  have h2 := hc (p + 2)
  have h3 := hc (p + 3)
  have e : u9 x = ((c p * 256 + c (p + 1)) * 256 + c (p + 2)) * 256 + c (p + 3) := by
    rw [h]
    show (((0 * 256 + c (p + 0)) * 256 + c (p + 1)) * 256 + c (p + 2)) * 256 + c (p + 3) = _
    rw [Nat.zero_mul, Nat.zero_add, Nat.add_zero]
  have b24 : bq x 24 = c p := by
    show (u9 x >>> 24) % 256 = _
    rw [Nat.shiftRight_eq_div_pow, e]; omega
  have b16 : bq x 16 = c (p + 1) := by
    show (u9 x >>> 16) % 256 = _
    rw [Nat.shiftRight_eq_div_pow, e]; omega
  have b8 : bq x 8 = c (p + 2) := by
    show (u9 x >>> 8) % 256 = _
    rw [Nat.shiftRight_eq_div_pow, e]; omega
  have b0 : bq x 0 = c (p + 3) := by
    show (u9 x >>> 0) % 256 = _
    rw [Nat.shiftRight_eq_div_pow, e]; omega
  unfold by4
  rw [b24, b16, b8, b0]
theorem rng4 (c : Nat → Nat) (m : Nat) : (List.range (m + 4)).map c = (List.range m).map c ++ [c m, c (m + 1), c (m + 2), c (m + 3)] := by
  rw [show m + 4 = m + 1 + 1 + 1 + 1 from rfl, List.range_succ, List.range_succ, List.range_succ, List.range_succ]
  simp only [List.map_append, List.map_cons, List.map_nil, List.append_assoc, List.cons_append, List.nil_append]
theorem feed_ok {N : Nat} {w : Mem} {c : Nat → Nat} {m : Nat} {x1 x2 x3 x4 x5 : Int32} (hc : ∀ i, c i < 256) (h : TX w ((List.range m).map c)) (hm : m + 20 ≤ 500) (h1 : u9 x1 = W4 c m 4) (h2 : u9 x2 = W4 c (m + 4) 4) (h3 : u9 x3 = W4 c (m + 8) 4) (h4 : u9 x4 = W4 c (m + 12) 4) (h5 : u9 x5 = W4 c (m + 16) 4) :
    ∃ w', f_X8_feed N w x1 x2 x3 x4 x5 = some (w', nI (m + 20)) ∧ TX w' ((List.range (m + 20)).map c) ∧ FrTx w w' := by
  have step : ∀ (q : Nat) (v : Mem) (x : Int32), q + 4 ≤ 500 → TX v ((List.range q).map c) → u9 x = W4 c q 4 → ∃ v', f_X6_append N v x = some v' ∧ TX v' ((List.range (q + 4)).map c) ∧ FrTx v v' := fun q v x hq hT hx => by
    obtain ⟨v', e, hT', hf⟩ := append_ok (N := N) x hT (by rw [List.length_map, List.length_range]; exact hq)
    rw [by4_W hc hx, ← rng4] at hT'
    exact ⟨v', e, hT', hf⟩
  obtain ⟨v1, e1, t1, f1⟩ := step m w x1 (by omega) h h1
  obtain ⟨v2, e2, t2, f2⟩ := step (m + 4) v1 x2 (by omega) t1 h2
  obtain ⟨v3, e3, t3, f3⟩ := step (m + 8) v2 x3 (by omega) t2 h3
  obtain ⟨v4, e4, t4, f4⟩ := step (m + 12) v3 x4 (by omega) t3 h4
  obtain ⟨v5, e5, t5, f5⟩ := step (m + 16) v4 x5 (by omega) t4 h5
  refine ⟨v5, ?_, t5, (((f1.tr f2).tr f3).tr f4).tr f5⟩
  have hl : gF w 6 1 0 = nI m := by rw [h.1, List.length_map, List.length_range]
  have hl5 : gF v5 6 1 0 = nI (m + 20) := by rw [t5.1, List.length_map, List.length_range]
  rw [f_X8_feed, hl, if_pos (show nI m + (20 : Int32) ≤ (500 : Int32) from by
    rw [show nI m + (20 : Int32) = nI (m + 20) from n_add m 20]
    exact nI_le (b := 500) hm (by omega)), e1, Option.bind_some, e2, Option.bind_some, e3, Option.bind_some, e4, Option.bind_some, e5, Option.bind_some, hl5]
/-- the letter at a place; spaces behind the end -/
def chr9 (ls : List Nat) (i : Nat) : Nat := if i < ls.length then ls.getD i 0 else 32
abbrev Fr61 (w v : Mem) : Prop := Fr (fun k _ _ => k = 61) (fun k _ => k = 61) w v
theorem TX.fr {w v : Mem} {tp : List Nat} {P : Nat → Nat → Nat → Prop} {Q : Nat → Nat → Prop} (h : TX w tp) (hf : Fr P Q w v) (hP : ∀ k j i, P k j i → ¬ (k = 6 ∧ j = 1 ∧ i = 0)) (hQ : ∀ k i, Q k i → ¬ (k = 30 ∧ i = 0)) : TX v tp := by
  refine ⟨(hf.1 _ _ _ (fun z => hP _ _ _ z ⟨rfl, rfl, rfl⟩)).trans h.1, fun i hi => ?_⟩
  rw [hf.2.1 30 0 (fun z => hQ _ _ z ⟨rfl, rfl⟩)]
  exact h.2 i hi
theorem row20 {ls : List Nat} {bs : List Int32} {N i : Nat} {w0 : Mem} (k : Mem → Option (Mem × Int32)) (hN : 20 < N) (hb : bs.length = ls.length) (hbs : ∀ j, j < ls.length → bs.getD j 0 = sb_b (ls.getD j 0) ∧ ls.getD j 0 < 256) (hi : i < 10000) (hl : ls.length < 10000) (h0 : ∀ j, j < 5 → gA w0 61 0 j = 0) :
    ∃ w', lp_L_tell_17 k N bs (nI i) N w0 (nI 0) = k w' ∧ Fr61 w0 w' ∧ gF w' 61 1 0 = gF w0 61 1 0 ∧ ∀ j, j < 5 → u9 (gA w' 61 0 j) = W4 (chr9 ls) (i + 4 * j) 4 := by
  have hch : ∀ i, chr9 ls i < 256 := fun i => by
    unfold chr9
    by_cases z : i < ls.length
    · rw [if_pos z]; exact (hbs i z).2
    · rw [if_neg z]; omega
  let J : Nat → Mem → Prop := fun q w => (Fr61 w0 w ∧ gF w 61 1 0 = gF w0 61 1 0) ∧ ∀ j, j < 5 → u9 (gA w 61 0 j) = W4 (chr9 ls) (i + 4 * j) (min 4 (q - 4 * j))
  obtain ⟨w', hJ, e⟩ := lpc 20 (fun f w q => lp_L_tell_17 k N bs (nI i) f w q) k J (fun f w _ => by
    show lp_L_tell_17 k N bs (nI i) (f + 1) w (nI 20) = _
    rw [lp_L_tell_17, if_pos (show (20 : Int32) ≤ nI 20 from nI_le (a := 20) (Nat.le_refl _) (by omega))]) (fun f q w hq ⟨⟨hF, hF1⟩, hR⟩ => by
    have hdiv : nI q / (4 : Int32) = nI (q / 4) := pk_div (a := q) (d := 4) (by omega) (by omega) (by omega)
    have hj5 : q / 4 < 5 := by omega
    have hin : inb (nI (q / 4)) 5 = true := inb_nI hj5 (by omega)
    have hcl : (nI (q / 4)).toNatClampNeg = q / 4 := nI_clamp (by omega)
    have h4 : ¬ (4 : Int32) = 0 := by decide
    have hold := hR (q / 4) hj5
    rw [Nat.min_eq_right (by omega)] at hold
    have hsm : u9 (gA w 61 0 (q / 4)) < 16777216 := by
      rw [hold]
      have := W4_lt hch (i + 4 * (q / 4))
      have h3 : q - 4 * (q / 4) = 0 ∨ q - 4 * (q / 4) = 1 ∨ q - 4 * (q / 4) = 2 ∨ q - 4 * (q / 4) = 3 := by omega
      rcases h3 with z | z | z | z <;> rw [z] <;> omega
    have fin : ∀ y, u9 y = u9 (gA w 61 0 (q / 4)) * 256 + chr9 ls (i + q) → J (q + 1) (sA w 61 0 (q / 4) y) := fun y hy => by
      refine ⟨⟨hF.tr ⟨fun _ _ _ _ => rfl, fun k2 i2 z => by rw [gA_sA_ne (fun z2 => z z2.1)], fun _ _ => rfl, fun _ _ _ => rfl⟩, hF1⟩, fun j hj => ?_⟩
      rw [gA_sA]
      by_cases e : j = q / 4
      · subst e
        rw [if_pos ⟨rfl, rfl, rfl⟩, hy, hold, Nat.min_eq_right (by omega), show q + 1 - 4 * (q / 4) = q - 4 * (q / 4) + 1 by omega]
        show _ = W4 (chr9 ls) (i + 4 * (q / 4)) (q - 4 * (q / 4)) * 256 + chr9 ls (i + 4 * (q / 4) + (q - 4 * (q / 4)))
        rw [show i + 4 * (q / 4) + (q - 4 * (q / 4)) = i + q by omega]
      · rw [if_neg (fun z => e z.2.2), hR j hj]
        congr 1
        omega
    have e20 : ¬ (20 : Int32) ≤ nI q := nI_ge (b := 20) (by omega) (by omega)
    have eq1 : nI q + (1 : Int32) = nI (q + 1) := n_add q 1
    have eiq : nI i + nI q = nI (i + q) := n_add i q
    by_cases z : i + q < ls.length
    · obtain ⟨hb1, hb2⟩ := hbs (i + q) z
      refine ⟨_, fin (((gA w 61 0 (q / 4)) <<< ((8 : Int32) &&& 31)) ||| nI (chr9 ls (i + q))) (u9_step hsm (hch _)), ?_⟩
      show lp_L_tell_17 k N bs (nI i) (f + 1) w (nI q) = _
      rw [lp_L_tell_17, if_neg e20, if_neg h4, if_neg h4, hdiv, if_pos hin, eiq, if_neg (nI_ge (by rw [hb]; exact z) (by rw [hb]; omega)), if_pos (inb_nI (by rw [hb]; exact z) (by rw [hb]; omega)), if_pos hin, hcl, nI_clamp (by omega), hb1, (sb_byte _ hb2).1, show i2c (nI (ls.getD (i + q) 0)) = nI (ls.getD (i + q) 0) from (sb_byte _ hb2).2.1, eq1, show chr9 ls (i + q) = ls.getD (i + q) 0 from if_pos z]
    · refine ⟨_, fin (((gA w 61 0 (q / 4)) <<< ((8 : Int32) &&& 31)) ||| nI (chr9 ls (i + q))) (u9_step hsm (hch _)), ?_⟩
      show lp_L_tell_17 k N bs (nI i) (f + 1) w (nI q) = _
      rw [lp_L_tell_17, if_neg e20, if_neg h4, if_neg h4, hdiv, if_pos hin, eiq, if_pos (nI_le (by rw [hb]; omega) (by omega)), if_pos hin, hcl, eq1, show chr9 ls (i + q) = 32 from if_neg z]
      rfl) 0 N w0 (by omega) (by omega) ⟨⟨Fr.rf, rfl⟩, fun j hj => by rw [h0 j hj, Nat.zero_sub, Nat.min_eq_right (by omega)]; rfl⟩
  refine ⟨w', e, hJ.1.1, hJ.1.2, fun j hj => ?_⟩
  rw [hJ.2 j hj, Nat.min_eq_left (by omega)]
abbrev FrTl (w v : Mem) : Prop := Fr (fun k j _ => (k = 6 ∧ j = 1) ∨ k = 61) (fun k i => (k = 30 ∧ i = 0) ∨ k = 61) w v
/-- tell() feeds the letters, spaces behind them, and has them read -/
theorem tell_ok {ls : List Nat} {bs : List Int32} {N R : Nat} {w : Mem} (hN : 40 < N) (hb : bs.length = ls.length) (hbs : ∀ j, j < ls.length → bs.getD j 0 = sb_b (ls.getD j 0) ∧ ls.getD j 0 < 256) (hl : ls.length ≤ 480) (hR : ls.length ≤ 20 * R ∧ 20 * R < ls.length + 20) (hT : TX w []) :
    ∃ w', f_L_tell N (sF w 61 1 0 0) bs = f_X8_text N w' (nI ls.length) ∧ TX w' ((List.range (20 * R)).map (chr9 ls)) ∧ FrTl w w' := by
  have hch : ∀ i, chr9 ls i < 256 := fun i => by
    unfold chr9
    by_cases z : i < ls.length
    · rw [if_pos z]; exact (hbs i z).2
    · rw [if_neg z]; omega
  have main : ∀ (d r f : Nat) (v : Mem), r + d = R → d < f → TX v ((List.range (20 * r)).map (chr9 ls)) → gF v 61 1 0 = nI r → FrTl w v → ∃ w', lp_L_tell_2 (fun (w_1 : Mem) => (f_L_tell_105 N w_1 bs)) N bs f v (nI (20 * r)) = f_L_tell_105 N w' bs ∧ TX w' ((List.range (20 * R)).map (chr9 ls)) ∧ FrTl w w' := by
    intro d
    induction d with
    | zero =>
      intro r f v h1 h2 hT hr hF
      obtain ⟨f, rfl⟩ : ∃ f', f = f' + 1 := ⟨f - 1, by omega⟩
      have : r = R := by omega
      subst this
      exact ⟨v, by rw [lp_L_tell_2, if_pos (nI_le (by rw [hb]; exact hR.1) (by omega))], hT, hF⟩
    | succ d ih =>
      intro r f v h1 h2 hT hr hF
      obtain ⟨f, rfl⟩ : ∃ f', f = f' + 1 := ⟨f - 1, by omega⟩
      have hcw : cntW v = r := by unfold cntW; rw [hr, nI_clamp (by omega)]
      have hF0 : Fr61 v (sF (sAf v 61 0 (fun _ => 0)) 61 1 0 (nI (r + 1))) := ⟨fun k j i z => by rw [gF_sF, if_neg (by omega)]; rfl, fun k i z => by rw [gA_sF, gA_sAf, if_neg (by omega)], fun _ _ => rfl, fun _ _ _ => rfl⟩
      obtain ⟨v1, e1, f1, c1, r1⟩ := row20 (N := N) (i := 20 * r) (w0 := sF (sAf v 61 0 (fun _ => 0)) 61 1 0 (nI (r + 1))) (fun (w_3 : Mem) => (f_L_tell_70_2 (fun (w : Mem) (v2 : Int32) => lp_L_tell_2 (fun (w_1 : Mem) => (f_L_tell_105 N w_1 bs)) N bs f w v2) (fun (w_1 : Mem) => (f_L_tell_105 N w_1 bs)) N w_3 bs (nI (20 * r)))) (by omega) hb hbs (by omega) (by omega) (fun j _ => by rw [gA_sF, gA_sAf, if_pos ⟨rfl, rfl⟩])
      have hF1 : Fr61 v v1 := hF0.tr f1
      have c1 : gF v1 61 1 0 = nI (r + 1) := by rw [c1, gF_sF, if_pos ⟨rfl, rfl, rfl⟩]
      obtain ⟨v2, e2, t2, f2⟩ := feed_ok (N := N) (w := v1) (m := 20 * r) (x1 := gA v1 61 0 0) (x2 := gA v1 61 0 1) (x3 := gA v1 61 0 2) (x4 := gA v1 61 0 3) (x5 := gA v1 61 0 4) hch (hT.fr hF1 (fun _ _ _ z => by omega) (fun _ _ z => by omega)) (by omega) (r1 0 (by omega)) (r1 1 (by omega)) (r1 2 (by omega)) (r1 3 (by omega)) (r1 4 (by omega))
      have hF2 : FrTl w (sF v2 61 1 0 (nI (r + 1))) := by
        refine ((hF.tr (hF1.mono (fun _ _ _ z => by omega) (fun _ _ z => by omega))).tr (f2.mono (fun _ _ _ z => by omega) (fun _ _ z => by omega))).tr ⟨fun k j i z => by rw [gF_sF, if_neg (by omega)], fun _ _ _ => rfl, fun _ _ => rfl, fun _ _ _ => rfl⟩
      obtain ⟨w', q1, q2, q3⟩ := ih (r + 1) f (sF v2 61 1 0 (nI (r + 1))) (by omega) (by omega) (t2.fr (P := fun k _ _ => k = 61) (Q := fun _ _ => False) ⟨fun k j i z => by rw [gF_sF, if_neg (by omega)], fun _ _ _ => rfl, fun _ _ => rfl, fun _ _ _ => rfl⟩ (fun _ _ _ z => by omega) (fun _ _ z => z.elim)) (by rw [gF_sF, if_pos ⟨rfl, rfl, rfl⟩]) hF2
      refine ⟨w', ?_, q2, q3⟩
      rw [lp_L_tell_2, if_neg (nI_ge (by rw [hb]; omega) (by rw [hb]; omega)), hcw, if_pos (by omega)]
      refine Eq.trans e1 ?_
      rw [f_L_tell_70_2]
      have i5 : ∀ j, j < 5 → inb (nI j) 5 = true := fun j hj => inb_nI hj (by omega)
      refine oif (i5 0 (by omega)) ?_
      refine oif (i5 1 (by omega)) ?_
      refine oif (i5 2 (by omega)) ?_
      refine oif (i5 3 (by omega)) ?_
      refine oif (i5 4 (by omega)) ?_
      refine obind e2 ?_
      have e20 : nI (20 * r) + (20 : Int32) = nI (20 * r + 20) := n_add (20 * r) 20
      show (if nI (20 * r + 20) = nI (20 * r) + (20 : Int32) then lp_L_tell_2 (fun (w_1 : Mem) => (f_L_tell_105 N w_1 bs)) N bs f (sF v2 61 1 0 (gF v1 61 1 0)) (nI (20 * r) + (20 : Int32)) else _) = _
      rw [e20, if_pos rfl, c1]
      exact q1
  obtain ⟨w', e, h1, h2⟩ := main R 0 N (sF w 61 1 0 0) (by omega) (by omega) (hT.fr (P := fun k _ _ => k = 61) (Q := fun _ _ => False) ⟨fun k j i z => by rw [gF_sF, if_neg (by omega)], fun _ _ _ => rfl, fun _ _ => rfl, fun _ _ _ => rfl⟩ (fun _ _ _ z => by omega) (fun _ _ z => z.elim)) (by rw [gF_sF, if_pos ⟨rfl, rfl, rfl⟩]; rfl) ⟨fun k j i z => by rw [gF_sF, if_neg (by omega)], fun _ _ _ => rfl, fun _ _ => rfl, fun _ _ _ => rfl⟩
  refine ⟨w', ?_, h1, h2⟩
  rw [f_L_tell]
  refine Eq.trans e ?_
  rw [f_L_tell_105, hb]
