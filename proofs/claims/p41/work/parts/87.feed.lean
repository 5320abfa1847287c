/-! feed -/
theorem byteM (x : Int32) {v : Nat} (hv : v < 4) : (x >>> (((24 : Int32) - ((8 : Int32) * nI v)) &&& 31)) &&& (255 : Int32) = nI (bq x (24 - 8 * v)) := by
  have hb := bq_lt x (24 - 8 * v)
  have hs : ∀ v : Fin 4, ((((24 : Int32) - ((8 : Int32) * nI v.val)) &&& 31).toBitVec.smod 32).toNat = 24 - 8 * v.val := by decide +kernel
  apply Int32.toBitVec_inj.mp
  rw [Int32.toBitVec_and, Int32.toBitVec_shiftRight]
  show (x.toBitVec.sshiftRight ((((24 : Int32) - ((8 : Int32) * nI v)) &&& 31).toBitVec.smod 32).toNat) &&& _ = _
  rw [hs ⟨v, hv⟩]
  apply BitVec.eq_of_getLsbD_eq
  intro i hi
  have e2 : (nI (bq x (24 - 8 * v))).toBitVec.getLsbD i = (bq x (24 - 8 * v)).testBit i := bt_nI (by omega) hi
  have e3 : (255 : Int32).toBitVec.getLsbD i = decide (i < 8) := by
    have : ∀ i : Fin 32, (255 : Int32).toBitVec.getLsbD i.val = decide (i.val < 8) := by decide +kernel
    exact this ⟨i, hi⟩
  rw [BitVec.getLsbD_and, e2, e3, BitVec.getLsbD_sshiftRight]
  unfold bq
  rw [show (256 : Nat) = 2 ^ 8 from rfl, Nat.testBit_mod_two_pow, Nat.testBit_shiftRight]
  by_cases h8 : i < 8
  · rw [decide_eq_true h8, Bool.and_true, Bool.true_and, decide_eq_false (show ¬ 32 ≤ i by omega), if_pos (show (24 - 8 * v) + i < 32 by omega)]
    rfl
  · rw [decide_eq_false h8, Bool.and_false, Bool.false_and]
def by4 (x : Int32) : List Nat := [bq x 24, bq x 16, bq x 8, bq x 0]
def TX (w : Mem) (tp : List Nat) : Prop := gF w 6 1 0 = nI tp.length ∧ ∀ i, i < tp.length → gA w 30 0 i = sb (tp.getD i 0)
def TMm (w : Mem) (tp : List Nat) : Prop := gF w 9 5 0 = nI tp.length ∧ ∀ i, i < tp.length → gA w 40 0 i = nI (tp.getD i 0)
theorem by4_getD (tp : List Nat) (x : Int32) (i : Nat) (hi : i < tp.length + 4) : (tp ++ by4 x).getD i 0 = if i < tp.length then tp.getD i 0 else bq x (24 - 8 * (i - tp.length)) := by
  by_cases h : i < tp.length
  · rw [if_pos h, List.getD_eq_getElem?_getD, List.getD_eq_getElem?_getD, List.getElem?_append_left h]
  · rw [if_neg h, List.getD_eq_getElem?_getD, List.getElem?_append_right (by omega)]
    have h4 : i - tp.length = 0 ∨ i - tp.length = 1 ∨ i - tp.length = 2 ∨ i - tp.length = 3 := by omega
    rcases h4 with e | e | e | e <;> rw [e] <;> rfl
abbrev FrTx (w v : Mem) : Prop := Fr (fun k j _ => k = 6 ∧ j = 1) (fun k i => k = 30 ∧ i = 0) w v
abbrev FrTm (w v : Mem) : Prop := Fr (fun k j _ => k = 9 ∧ (j = 5 ∨ j = 0)) (fun k i => k = 40 ∧ i = 0) w v
theorem append_ok {N : Nat} {w : Mem} {tp : List Nat} (x : Int32) (h : TX w tp) (hl : tp.length + 4 ≤ 500) : ∃ w', f_X6_append N w x = some w' ∧ TX w' (tp ++ by4 x) ∧ FrTx w w' := by
  obtain ⟨h1, h2⟩ := h
  have b24 := byteX x (k := 24) (by omega)
  have b16 := byteX x (k := 16) (by omega)
  have b8 := byteX x (k := 8) (by omega)
  have b0 := byteX0 x
  refine ⟨sF (sA (sA (sA (sA w 30 0 tp.length (sb (bq x 24))) 30 0 (tp.length + 1) (sb (bq x 16))) 30 0 (tp.length + 2) (sb (bq x 8))) 30 0 (tp.length + 3) (sb (bq x 0))) 6 1 0 (nI (tp.length + 4)), ?_, ⟨?_, fun i hi => ?_⟩, ?_⟩
  · rw [f_X6_append]
    simp (disch := omega) only [↓lm1, ↓lm2, eq_n1, eq_n2, n1_eq, n2_eq, n1_n2, n2_n1, n1_lt, n2_lt, n1_le, lt_n1, lt_n2, inb_t, cl_t, le_tt, le_tf, lt_tt, lt_tf, eq_tt, eq_tf, q_add, q_mul, li0, li1, li2, li3, li4, li5, li6, li7, li8, li12, li16, li24, li48, li500, gF_sA, gA_sF, gF_sF, gR_sA, gR_sF, gL_sA, gL_sF, gA_sA, shl_t, or_t, and_t, sbit_t, ubit_t, b01_0, b01_1, Option.bind_some, ↓reduceIte, eq_self, ne_eq, not_true_eq_false, Bool.false_eq_true, not_false_eq_true, true_and, and_true, false_and, and_false, if_pos, if_neg, h1, b24, b16, b8, b0]
  · rw [gF_sF, if_pos ⟨rfl, rfl, rfl⟩, List.length_append]; rfl
  · have hi4 : i < tp.length + 4 := by rw [List.length_append] at hi; exact hi
    rw [by4_getD tp x i hi4, gA_sF, gA_sA, gA_sA, gA_sA, gA_sA]
    by_cases e : i < tp.length
    · rw [if_pos e, if_neg (by omega), if_neg (by omega), if_neg (by omega), if_neg (by omega)]; exact h2 i e
    · rw [if_neg e]
      have h4 : i = tp.length ∨ i = tp.length + 1 ∨ i = tp.length + 2 ∨ i = tp.length + 3 := by omega
      rcases h4 with e | e | e | e
      · rw [if_neg (by omega), if_neg (by omega), if_neg (by omega), if_pos (by omega), show 24 - 8 * (i - tp.length) = 24 by omega]
      · rw [if_neg (by omega), if_neg (by omega), if_pos (by omega), show 24 - 8 * (i - tp.length) = 16 by omega]
      · rw [if_neg (by omega), if_pos (by omega), show 24 - 8 * (i - tp.length) = 8 by omega]
      · rw [if_pos (by omega), show 24 - 8 * (i - tp.length) = 0 by omega]
  · refine ⟨fun k j i z => by rw [gF_sF, if_neg (by omega)]; rfl, fun k i z => ?_, fun _ _ => rfl, fun _ _ _ => rfl⟩
    funext y
    rw [gA_sF, gA_sA, if_neg (by omega), gA_sA, if_neg (by omega), gA_sA, if_neg (by omega), gA_sA, if_neg (by omega)]
