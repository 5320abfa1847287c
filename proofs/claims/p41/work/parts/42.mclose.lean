/-! the model: closesBy, groupsIn, clashIn -/
theorem one_shl {k : Nat} (hk : k < 31) : (1 : Int32) <<< (nI k &&& 31) = nI (2 ^ k) := by
  apply Int32.toBitVec_inj.mp
  rw [nf_sh k (by omega)]
  apply BitVec.eq_of_toNat_eq
  rw [BitVec.toNat_twoPow, show (nI (2 ^ k)).toBitVec = BitVec.ofNat 32 (2 ^ k) from rfl, BitVec.toNat_ofNat]
theorem bt_nI {b k : Nat} (hb : b < 2147483648) (hk : k < 32) : bt (nI b) k = b.testBit k := by
  unfold bt
  rw [show (nI b).toBitVec = BitVec.ofNat 32 b from rfl, ← BitVec.testBit_toNat, BitVec.toNat_ofNat, Nat.mod_eq_of_lt (by omega)]
theorem sbit_ok {b k : Nat} (hb : b < 2147483648) (hk : k < 31) : (nI b >>> (nI k &&& 31)) &&& (1 : Int32) = nI (b01 (b.testBit k = true)) := by
  apply b_ext
  intro i hi
  rw [b_and, b_sshr k (by omega) _ hi]
  have e31 : (if k + i < 32 then bt (nI b) (k + i) else bt (nI b) 31) = b.testBit (k + i) := by
    by_cases h : k + i < 32
    · rw [if_pos h, bt_nI hb h]
    · rw [if_neg h, bt_nI hb (by omega), Nat.testBit_lt_two_pow (show b < 2 ^ 31 by omega), Nat.testBit_lt_two_pow (Nat.lt_of_lt_of_le (show b < 2 ^ 31 by omega) (Nat.pow_le_pow_right (by decide) (by omega)))]
  rw [e31]
  have h1 : bt (1 : Int32) i = decide (i = 0) := by
    rw [show (1 : Int32) = nI 1 from rfl, bt_nI (by omega) hi]
    rcases Nat.eq_zero_or_pos i with h | h
    · subst h; rfl
    · rw [decide_eq_false (by omega)]
      exact Nat.testBit_lt_two_pow (Nat.one_lt_two_pow (by omega))
  rw [h1]
  by_cases hb1 : b.testBit k = true
  · rw [b01_t hb1, show nI 1 = (1 : Int32) from rfl, h1]
    by_cases e : i = 0
    · subst e
      rw [Nat.add_zero, hb1]; rfl
    · rw [decide_eq_false e, Bool.and_false]
  · rw [b01_f hb1, bt_nI (by omega) hi]
    by_cases e : i = 0
    · subst e
      rw [Nat.add_zero, show b.testBit k = false by simpa using hb1]; rfl
    · rw [decide_eq_false e, Bool.and_false, Nat.zero_testBit]
theorem ubit_ok {b k : Nat} (hb : b < 2147483648) (hk : k < 32) : (ushr (nI b) (nI k)) &&& (1 : Int32) = nI (b01 (b.testBit k = true)) := by
  rw [bit_ok (by omega) hk]
  by_cases h : b.testBit k = true
  · rw [if_pos h, b01_t h]; rfl
  · rw [if_neg h, b01_f h]; rfl
theorem b01_1 {P : Prop} : (nI (b01 P) = nI 1) = P := by
  by_cases h : P
  · rw [b01_t h]; exact propext ⟨fun _ => h, fun _ => rfl⟩
  · rw [b01_f h]; exact propext ⟨fun z => absurd z (by decide), fun z => absurd z h⟩
theorem shl_t {k : Nat} (hk : k < 31) : nI 1 <<< (nI k &&& 31) = nI (2 ^ k) := one_shl hk
theorem or_t (a b : Nat) : nI a ||| nI b = nI (a ||| b) := fa_or a b
theorem and_t (a b : Nat) : nI a &&& nI b = nI (a &&& b) := fa_and a b
theorem sbit_t {b k : Nat} (hb : b < 2147483648) (hk : k < 31) : (nI b >>> (nI k &&& 31)) &&& nI 1 = nI (b01 (b.testBit k = true)) := sbit_ok hb hk
theorem ubit_t {b k : Nat} (hb : b < 2147483648) (hk : k < 32) : (ushr (nI b) (nI k)) &&& nI 1 = nI (b01 (b.testBit k = true)) := ubit_ok hb hk
/-- only row k of the model differs -/
abbrev FrK (k : Nat) (w w' : Mem) : Prop := Fr (fun _ _ _ => False) (fun x i => x = k ∧ i = 0) w w'
theorem FrK.F {k : Nat} {w w' : Mem} (h : FrK k w w') (a b c : Nat) : gF w' a b c = gF w a b c := h.1 a b c (fun z => z)
theorem FrK.A {k : Nat} {w w' : Mem} (h : FrK k w w') {a : Nat} (ha : a ≠ k) (i : Nat) : gA w' a i = gA w a i := h.2.1 a i (fun z => ha z.1)
theorem FrK.set {k : Nat} {w : Mem} {x : Nat} {v : Int32} : FrK k w (sA w k 0 x v) := ⟨fun _ _ _ _ => rfl, fun x i hki => gA_sA_ne hki, fun _ _ => rfl, fun _ _ _ => rfl⟩
/-- the sames that lie in the model's rows -/
def RP (w : Mem) (n : Nat) (S : List (Nat × Nat)) : Prop := S.length ≤ 13 ∧ ∀ (p i j : Nat), S[p]? = some (i, j) → i < n ∧ j < n ∧ gA w 48 0 p = nI i ∧ gA w 49 0 p = nI j
theorem FrK.RP {k : Nat} {w w' : Mem} (h : FrK k w w') {n : Nat} {S : List (Nat × Nat)} (hS : RP w n S) (h1 : k ≠ 48) (h2 : k ≠ 49) : RP w' n S := by
  refine ⟨hS.1, fun p i j hp => ?_⟩
  rw [h.A (Ne.symm h1), h.A (Ne.symm h2)]
  exact hS.2 p i j hp
/-- pairs of the same function with like parts that aren't one: whether there is one with i and a later one from j on -/
def toJ (T : Trm) (ld : Nat → Nat) (i x : Nat) : Prop := ld i ≠ ld x ∧ tF T i = tF T x ∧ eqParts T ld i x = true
theorem clo_toJ {T : Trm} {ld : Nat → Nat} (h : ∀ y x, y < x → x < tN T → ¬ toJ T ld y x) : Clo T ld := by
  apply clo_of
  rintro ⟨i, j⟩ hp he
  obtain ⟨h1, h2, h3⟩ := prs_mem.mp hp
  apply Classical.byContradiction
  intro z
  exact h i j h1 h2 ⟨z, h3, he⟩
/-- two are one by a set -/
def By (T : Trm) (S : List (Nat × Nat)) (b t u : Nat) : Prop := Cg T (Pk S b) t u
/-- the diffs of the model -/
def MD (w : Mem) (n : Nat) (Q : List (Nat × Nat)) : Prop := Q.length ≤ 8 ∧ gF w 9 33 0 = nI Q.length ∧ ∀ (p i j : Nat), Q[p]? = some (i, j) → i < n ∧ j < n ∧ gA w 50 0 p = nI i ∧ gA w 51 0 p = nI j
theorem drop_at {α : Type} {Q : List α} {q : Nat} {x : α} (hp : Q[q]? = some x) : Q.drop q = x :: Q.drop (q + 1) := by
  have hl := (List.getElem?_eq_some_iff.mp hp).1
  rw [List.drop_eq_getElem_cons hl]
  congr 1
  exact (List.getElem?_eq_some_iff.mp hp).2
theorem get_at {α : Type} (Q : List α) {q : Nat} (h : q < Q.length) : ∃ x, Q[q]? = some x := ⟨_, List.getElem?_eq_getElem h⟩
theorem fcl_t {ld : Nat → Nat} {i j : Nat} {D : List (Nat × Nat)} (h : ld i = ld j) : fcl ld ((i, j) :: D) = some 0 := by
  unfold fcl
  rw [List.findIdx?_cons]
  simp [h]
theorem fcl_f {ld : Nat → Nat} {i j : Nat} {D : List (Nat × Nat)} (h : ld i ≠ ld j) : fcl ld ((i, j) :: D) = (fcl ld D).map (fun z => z + 1) := by
  unfold fcl
  rw [List.findIdx?_cons]
  simp [h]
def oI (o : Option Nat) : Int32 := match o with | some z => nI z | none => n2
