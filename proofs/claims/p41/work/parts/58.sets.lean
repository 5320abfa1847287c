/-! sets of sames, why two are one, BY a set: both -/
theorem p2le {a b : Nat} (h : a ≤ b) : 2 ^ a ≤ 2 ^ b := Nat.pow_le_pow_right (by decide) h
theorem p2lt {a b : Nat} (h : a < b) : 2 ^ a < 2 ^ b := Nat.pow_lt_pow_right (by decide) h
/-- a set without k -/
def clr (b k : Nat) : Nat := b ^^^ (b &&& 2 ^ k)
theorem clr_bit (b k i : Nat) : (clr b k).testBit i = (b.testBit i && !decide (i = k)) := by
  unfold clr
  rw [Nat.testBit_xor, Nat.testBit_and, Nat.testBit_two_pow]
  by_cases e : k = i
  · subst e; cases b.testBit k <;> simp
  · rw [decide_eq_false e, decide_eq_false (Ne.symm e)]; cases b.testBit i <;> rfl
theorem clr_lt {b k n : Nat} (h : b < 2 ^ n) : clr b k < 2 ^ n := by
  apply Nat.lt_pow_two_of_testBit
  intro i hi
  rw [clr_bit, Nat.testBit_lt_two_pow (Nat.lt_of_lt_of_le h (Nat.pow_le_pow_right (by decide) hi))]
  rfl
theorem clr_t {b k : Nat} (hb : b < 2147483648) (hk : k < 31) : nI b &&& (nI (2 ^ k) ^^^ n1) = nI (clr b k) := by
  have hc : clr b k < 2147483648 := clr_lt (n := 31) hb
  have hk2 : 2 ^ k < 2147483648 := p2lt (b := 31) hk
  apply b_ext
  intro i hi
  rw [b_and, b_xor, bt_nI hb hi, bt_nI hk2 hi, bt_nI hc hi, clr_bit, show n1 = (-1 : Int32) from rfl, b_m1 i hi, Nat.testBit_two_pow]
  by_cases e : k = i
  · subst e; cases b.testBit k <;> simp
  · rw [decide_eq_false e, decide_eq_false (Ne.symm e)]; cases b.testBit i <;> rfl
def full (s : Nat) : Nat := 2 ^ s - 1
theorem full_bit (s i : Nat) : (full s).testBit i = decide (i < s) := Nat.testBit_two_pow_sub_one s i
theorem full_lt (s : Nat) : full s < 2 ^ s := by have := Nat.two_pow_pos s; unfold full; omega
theorem full_t {s : Nat} : nI (2 ^ s) - nI 1 = nI (full s) := n_sub (Nat.one_le_two_pow)
theorem pow_small {s : Nat} (h : s ≤ 13) : 2 ^ s ≤ 8192 := p2le (b := 13) h
theorem pk_full {S : Prs} : ∀ i j, Pk S (full S.length) i j ↔ inS S i j := by
  intro i j
  constructor
  · rintro ⟨p, h1, h2⟩; exact List.mem_of_getElem? h2
  · intro h
    obtain ⟨p, hp⟩ := List.getElem?_of_mem h
    exact ⟨p, by rw [full_bit]; exact decide_eq_true (List.getElem?_eq_some_iff.mp hp).1, hp⟩
theorem by_full {T : Trm} {S : Prs} (t u : Nat) : By T S (full S.length) t u ↔ Cg T (inS S) t u := by
  unfold By
  rw [show Pk S (full S.length) = inS S from funext (fun i => funext (fun j => propext (pk_full i j)))]
theorem dec_t (k : Nat) : nI (k + 1) + n1 = nI k := by
  rw [← q_add]
  show nI k + (1 : Int32) + (-1 : Int32) = nI k
  rw [Int32.add_assoc]
  show nI k + 0 = nI k
  exact Int32.add_zero _
def ixv : Nat → Int32
  | 0 => n1
  | k + 1 => nI k
theorem ixv_dec (k : Nat) : nI k + n1 = ixv k := by
  cases k with
  | zero => decide
  | succ k => exact dec_t k
theorem ixv_sub (k : Nat) : nI k - nI 1 = ixv k := by
  cases k with
  | zero => decide
  | succ k => rw [q_sub (by omega), Nat.add_sub_cancel]; rfl
theorem ixv_0 : (ixv 0 < nI 0) = True := eq_true (by decide)
abbrev cT (tk : Nat → Nat) (R A : List Row) : Trm := mkT tk (cL (run tk c0 (R ++ A)))
abbrev cSs (tk : Nat → Nat) (R A : List Row) : Prs := cS (run tk c0 (R ++ A))
theorem RelX.closeBy {N f nf b g : Nat} {tk : Nat → Nat} {R A : List Row} {NL : List (List Nat)} {tp : List Nat} {w : Mem} (h : RelX w f nf tk R A NL tp) (hN : 276 < N) (hb : b < 2147483648) (hg : g ≠ 2 ∧ g ≠ 3) : ∃ w', f_X1_closeBy N w f (nI b) g = some w' ∧ GS w' g (cL (run tk c0 (R ++ A))).length (ldE (cT tk R A) (Pk (cSs tk R A) b)) ∧ KX w w' := by
  obtain ⟨⟨hf, h5, h6⟩, ⟨⟨xT, xG, xF⟩, xS, xQ, xD⟩, -⟩ := h
  obtain ⟨w', ld', a1, a2, a3, a4⟩ := closeBy_ok (g := g) hN (show b < 2 ^ 31 from hb) xT xS
  exact ⟨w', a1, a2.toE xT.2.1 a3, a4.kx (fun k j i z => by omega) (fun k i z => by omega)⟩
theorem RelX.isOneBy {N f nf b t u : Nat} {tk : Nat → Nat} {R A : List Row} {NL : List (List Nat)} {tp : List Nat} {w : Mem} (h : RelX w f nf tk R A NL tp) (hN : 276 < N) (hb : b < 2147483648) (ht : t < (cL (run tk c0 (R ++ A))).length) (hu : u < (cL (run tk c0 (R ++ A))).length) : ∃ w', f_X8_isOneBy N w (nI b) (nI t) (nI u) = some (w', nI (b01 (By (cT tk R A) (cSs tk R A) b t u))) ∧ KX w w' := by
  obtain ⟨w', a1, a2, a3⟩ := h.closeBy (g := 0) hN hb (by omega)
  have ho := one_ok a2 N ht hu
  rw [b01_i] at ho
  obtain ⟨⟨hf, h5, h6⟩, ⟨⟨xT, xG, xF⟩, xS, xQ, xD⟩, -⟩ := h
  refine ⟨w', ?_, a3⟩
  rw [f_X8_isOneBy, h5, if_pos hf, a1, Option.bind_some, ho, Option.bind_some, if_pos (of_eq_true b01_01)]
  rw [b01_c (ldE_iff (E := Pk (cSs tk R A) b) xT.2.1 t u ht hu)]
  rfl
theorem FrK.km {k : Nat} {w w' : Mem} (h : FrK k w w') (hk : 59 ≤ k) (s : Nat) : KM s w w' := Fr.km h s (fun _ _ _ z => z.elim) (fun x i z => by omega)
theorem FrK.ans {k : Nat} {w v : Mem} {tr : Int32} (h : FrK k (mAns w tr) v) : gF v 9 1 0 = tr ∧ gF v 9 3 0 = n1 := ⟨(h.F _ _ _).trans (mAns_1 _ _), (h.F _ _ _).trans (mAns_3 _ _)⟩
/-- one left out after another, from the last -/
noncomputable def prn (P : Nat → Nat → Prop) : Nat → Nat → Nat
  | 0, s => s
  | k + 1, s => prn P k (@ite _ (P k (clr s k)) (Classical.propDecidable _) (clr s k) s)
theorem prn_t {P : Nat → Nat → Prop} {k s : Nat} (h : P k (clr s k)) : prn P (k + 1) s = prn P k (clr s k) := by rw [prn, if_pos h]
theorem prn_f {P : Nat → Nat → Prop} {k s : Nat} (h : ¬ P k (clr s k)) : prn P (k + 1) s = prn P k s := by rw [prn, if_neg h]
theorem allX {N f s : Nat} {w : Mem} (hs : s ≤ 12) (h : gF w 1 9 f = nI s) : f_X1_allSames N w f = some (nI (full s)) := by
  rw [f_X1_allSames, h]
  simp (disch := omega) only [↓lm1, ↓lm2, eq_n1, eq_n2, n1_eq, n2_eq, n1_n2, n2_n1, n1_lt, n2_lt, n1_le, lt_n1, lt_n2, inb_t, cl_t, le_tt, le_tf, lt_tt, lt_tf, eq_tt, eq_tf, q_add, q_mul, li0, li1, li2, li3, li4, li5, li6, li7, li8, li12, li16, li24, li48, li500, gF_sA, gA_sF, gF_sF, gR_sA, gR_sF, gL_sA, gL_sF, gA_sA, shl_t, or_t, and_t, sbit_t, ubit_t, b01_0, b01_1, Option.bind_some, ↓reduceIte, eq_self, ne_eq, not_true_eq_false, Bool.false_eq_true, not_false_eq_true, true_and, and_true, false_and, and_false, if_pos, if_neg, full_t]
/-- the sames each of which is needed -/
noncomputable def ndd (P : Nat → Prop) : Nat → Nat
  | 0 => 0
  | k + 1 => @ite _ (P k) (Classical.propDecidable _) (ndd P k) (ndd P k ||| 2 ^ k)
theorem ndd_lt (P : Nat → Prop) : ∀ k, k ≤ 12 → ndd P k < 4096
  | 0, _ => by rw [ndd]; omega
  | k + 1, h => by
    have ih := ndd_lt P k (by omega)
    rw [ndd]
    split
    · exact ih
    · exact Nat.or_lt_two_pow (n := 12) ih (Nat.pow_lt_pow_right (by decide) (by omega))
theorem ndd_t {P : Nat → Prop} {k : Nat} (h : P k) : ndd P (k + 1) = ndd P k := by rw [ndd, if_pos h]
theorem ndd_f {P : Nat → Prop} {k : Nat} (h : ¬ P k) : ndd P (k + 1) = ndd P k ||| 2 ^ k := by rw [ndd, if_neg h]
