/-! Proofs: sets that hold, by a visit of those that can do -/
def hb (w : Mem) (s : Nat) : Bool := (gL w 28 0 (s / 64)).toBitVec.getLsbD (s % 64)
theorem and63 (s : Nat) : nI s &&& (63 : Int32) = nI (s % 64) := fa_mask s 6
theorem shl64 : ∀ k, k < 64 → (lshl (1 : Int64) (nI k)).toBitVec = BitVec.twoPow 64 k := by decide +kernel
theorem u64n {k : Nat} (hk : k < 64) : ((nI k).toInt64.toUInt64 &&& Int64.toUInt64 63).toNat = k := by
  rw [wb_cu k hk]
  exact Nat.mod_eq_of_lt (by omega)
theorem holds_ok {N s : Nat} {w : Mem} (hs : s < 4096) : f_X4_holds N w (nI s) = some (nI (b01 (hb w s = true))) := by
  have hm : s % 64 < 64 := Nat.mod_lt _ (by decide)
  rw [f_X4_holds, show (6 : Int32) = nI 6 from rfl, ushr_t (by omega) (by omega), and63, show (2 : Nat) ^ 6 = 64 from rfl, if_pos (inb_t (by omega) (by omega)), cl_t (by omega)]
  have hb2 := ts_bit (w := gL w 28 0 (s / 64)) hm (u64n hm)
  by_cases z : hb w s = true
  · rw [b01_t z, if_neg (fun y => by
      have := hb2.mp ((lg_cmp_eq _ _).mp y)
      have z' : (gL w 28 0 (s / 64)).toBitVec.getLsbD (s % 64) = true := z
      rw [this] at z'; cases z')]
    rfl
  · have hcond : lg_cmp (lushr (gL w 28 0 (s / 64)) (nI (s % 64)) &&& 1) 0 = 0 := (lg_cmp_eq _ _).mpr (hb2.mpr (by
      have z' : ¬ (gL w 28 0 (s / 64)).toBitVec.getLsbD (s % 64) = true := z
      simpa using z'))
    rw [b01_f z, if_pos hcond]
    rfl
theorem hb_set {w : Mem} {s x : Nat} : hb (sL w 28 0 (s / 64) (gL w 28 0 (s / 64) ||| lshl 1 (nI (s % 64)))) x = (hb w x || decide (x = s)) := by
  have hm : s % 64 < 64 := Nat.mod_lt _ (by decide)
  unfold hb
  have e : gL (sL w 28 0 (s / 64) (gL w 28 0 (s / 64) ||| lshl 1 (nI (s % 64)))) 28 0 (x / 64) = if x / 64 = s / 64 then gL w 28 0 (s / 64) ||| lshl 1 (nI (s % 64)) else gL w 28 0 (x / 64) := by
    unfold sL
    rw [gL_sLf, if_pos ⟨rfl, rfl⟩]
    rfl
  rw [e]
  by_cases q : x / 64 = s / 64
  · rw [if_pos q, Int64.toBitVec_or, BitVec.getLsbD_or, shl64 _ hm, q]
    congr 1
    rw [BitVec.getLsbD_twoPow]
    by_cases y : x = s
    · subst y; simp; omega
    · rw [decide_eq_false y]
      have : ¬ s % 64 = x % 64 := by omega
      rw [decide_eq_false this, Bool.and_false]
  · rw [if_neg q, decide_eq_false (fun y => q (by rw [y])), Bool.or_false]
/-- what a visit of o open ones may change -/
def KV (o : Nat) (w w' : Mem) : Prop := KX w w' ∧ (∀ i, 4 + o ≤ i → (∀ j, gF w' 3 j i = gF w 3 j i) ∧ gA w' 25 i = gA w 25 i) ∧ (∀ j i, gF w' 4 j i = gF w 4 j i) ∧ gA w' 27 0 = gA w 27 0 ∧ ∀ j, gF w' 8 j 0 = gF w 8 j 0
theorem KV.rf {o : Nat} {w : Mem} : KV o w w := ⟨KX.rf, fun _ _ => ⟨fun _ => rfl, rfl⟩, fun _ _ => rfl, rfl, fun _ => rfl⟩
theorem KV.tr {o o' : Nat} (ho : o' ≤ o) {w v u : Mem} (h1 : KV o w v) (h2 : KV o' v u) : KV o w u := ⟨h1.1.tr h2.1, fun i hi => ⟨fun j => ((h2.2.1 i (by omega)).1 j).trans ((h1.2.1 i hi).1 j), (h2.2.1 i (by omega)).2.trans (h1.2.1 i hi).2⟩, fun j i => (h2.2.2.1 j i).trans (h1.2.2.1 j i), h2.2.2.2.1.trans h1.2.2.2.1, fun j => (h2.2.2.2.2 j).trans (h1.2.2.2.2 j)⟩
theorem KV.up {o o' : Nat} (ho : o' ≤ o) {w v : Mem} (h : KV o' w v) : KV o w v := KV.tr (o := o) ho KV.rf h
theorem KV.fr {o c : Nat} {w v : Mem} {Q : Nat → Nat → Prop} (h : Fr (fun k _ i => k = 3 ∧ i = 4 + c) Q w v) (hc : c < o) (hQ : ∀ k i, Q k i → (k = 25 ∧ i = 4 + c) ∨ k = 37) : KV o w v :=
  ⟨h.kx (fun k j i z => by omega) (fun k i z => by have := hQ k i z; omega), fun i hi => ⟨fun j => h.1 _ _ _ (fun z => by omega), h.2.1 _ _ (fun z => by have := hQ _ _ z; omega)⟩, fun j i => h.1 _ _ _ (fun z => by omega), h.2.1 _ _ (fun z => by have := hQ _ _ z; omega), fun j => h.1 _ _ _ (fun z => by omega)⟩
theorem KV.gs {o i n : Nat} {w v : Mem} {ld : Nat → Nat} (h : KV o w v) (hi : 4 + o ≤ i) (hG : GS w i n ld) : GS v i n ld := hG.of ((h.2.1 i hi).1 1) ((h.2.1 i hi).1 2) (h.2.1 i hi).2
theorem KV.hb {o : Nat} {w v : Mem} {Q : Nat → Nat → Prop} {P : Nat → Nat → Nat → Prop} (h : Fr P Q w v) (s : Nat) : hb v s = hb w s := by
  show (gL v 28 0 (s / 64)).toBitVec.getLsbD (s % 64) = (gL w 28 0 (s / 64)).toBitVec.getLsbD (s % 64)
  rw [h.2.2.1 28 0]
/-- as KV, but what is kept in mind of the fewest may change -/
def KW (o : Nat) (w w' : Mem) : Prop := KX w w' ∧ (∀ i, 4 + o ≤ i → (∀ j, gF w' 3 j i = gF w 3 j i) ∧ gA w' 25 i = gA w 25 i) ∧ (∀ j i, j < 7 → gF w' 4 j i = gF w 4 j i) ∧ gA w' 27 0 = gA w 27 0 ∧ ∀ j, gF w' 8 j 0 = gF w 8 j 0
theorem KV.kw {o : Nat} {w v : Mem} (h : KV o w v) : KW o w v := ⟨h.1, h.2.1, fun j i _ => h.2.2.1 j i, h.2.2.2.1, h.2.2.2.2⟩
theorem KW.tr {o o' : Nat} (ho : o' ≤ o) {w v u : Mem} (h1 : KW o w v) (h2 : KW o' v u) : KW o w u := ⟨h1.1.tr h2.1, fun i hi => ⟨fun j => ((h2.2.1 i (by omega)).1 j).trans ((h1.2.1 i hi).1 j), (h2.2.1 i (by omega)).2.trans (h1.2.1 i hi).2⟩, fun j i hj => (h2.2.2.1 j i hj).trans (h1.2.2.1 j i hj), h2.2.2.2.1.trans h1.2.2.2.1, fun j => (h2.2.2.2.2 j).trans (h1.2.2.2.2 j)⟩
theorem KW.up {o o' : Nat} (ho : o' ≤ o) {w v : Mem} (h : KW o' w v) : KW o w v := KW.tr (o := o) ho KV.rf.kw h
theorem KW.gs {o i n : Nat} {w v : Mem} {ld : Nat → Nat} (h : KW o w v) (hi : 4 + o ≤ i) (hG : GS w i n ld) : GS v i n ld := hG.of ((h.2.1 i hi).1 1) ((h.2.1 i hi).1 2) (h.2.1 i hi).2
def oN1 (o : Option Nat) : Int32 := match o with | some b => nI b | none => n1
/-- what a visit keeps in mind: fewer than that many, the best, the sets that are noted -/
abbrev Vs : Type := Nat × Option Nat × (Nat → Bool)
def VS (fa : Bool) (w : Mem) (st : Vs) : Prop := gF w 4 7 0 = nI st.1 ∧ (fa = true → gF w 4 8 0 = oN1 st.2.1) ∧ ∀ s, hb w s = st.2.2 s
theorem VS.kv {fa : Bool} {o : Nat} {w v : Mem} {st : Vs} (h : VS fa w st) (hk : KV o w v) (hh : ∀ s, hb v s = hb w s) : VS fa v st := ⟨(hk.2.2.1 _ _).trans h.1, fun q => (hk.2.2.1 _ _).trans (h.2.1 q), fun s => (hh s).trans (h.2.2 s)⟩
def ntV (fa : Bool) (set m : Nat) (st : Vs) : Vs := if fa = true then (pop set, some set, st.2.2) else (st.1, st.2.1, fun s => st.2.2 s || decide (set ≤ s ∧ s < set + m))
theorem noteL_ok {N set m : Nat} {w : Mem} (hN : 5000 < N) (h6 : gF w 4 6 0 = nI 0) (hm : set + m ≤ 4096) : ∃ w', f_X4_note N w (nI set) (nI m) = some w' ∧ KV 0 w w' ∧ ∀ s, hb w' s = (hb w s || decide (set ≤ s ∧ s < set + m)) := by
  have key : ∀ r fuel q v, q + r = set + m → set ≤ q → r < fuel → KV 0 w v → (∀ s, hb v s = (hb w s || decide (set ≤ s ∧ s < q))) → ∃ w', lp_X4_note_23 (fun (w_1 : Mem) => (f_X4_note_54 N w_1)) N (nI set) (nI m) fuel v (nI q) = some w' ∧ KV 0 w w' ∧ ∀ s, hb w' s = (hb w s || decide (set ≤ s ∧ s < set + m)) := by
    intro r
    induction r with
    | zero =>
      intro fuel q v hq hsq hf hv hbv
      obtain ⟨f', rfl⟩ : ∃ f, fuel = f + 1 := ⟨fuel - 1, by omega⟩
      have e : q = set + m := by omega
      subst e
      refine ⟨v, ?_, hv, hbv⟩
      rw [lp_X4_note_23]
      simp (disch := omega) only [↓lm1, ↓lm2, eq_n1, eq_n2, n1_eq, n2_eq, n1_n2, n2_n1, n1_lt, n2_lt, n1_le, lt_n1, lt_n2, inb_t, cl_t, le_tt, le_tf, lt_tt, lt_tf, eq_tt, eq_tf, q_add, q_mul, li0, li1, li2, li3, li4, li5, li6, li7, li8, li12, li16, li24, li48, li500, gF_sA, gA_sF, gF_sF, gR_sA, gR_sF, gL_sA, gL_sF, gA_sA, shl_t, or_t, and_t, sbit_t, ubit_t, b01_0, b01_1, Option.bind_some, ↓reduceIte, eq_self, ne_eq, not_true_eq_false, Bool.false_eq_true, not_false_eq_true, true_and, and_true, false_and, and_false, if_pos, if_neg]
      rfl
    | succ r ih =>
      intro fuel q v hq hsq hf hv hbv
      obtain ⟨f', rfl⟩ : ∃ f, fuel = f + 1 := ⟨fuel - 1, by omega⟩
      have hk1 : KV 0 v (sL v 28 0 (q / 64) (gL v 28 0 (q / 64) ||| lshl 1 (nI (q % 64)))) := ⟨⟨fun _ _ _ _ => rfl, fun _ _ _ => rfl, fun _ _ _ => rfl⟩, fun _ _ => ⟨fun _ => rfl, rfl⟩, fun _ _ => rfl, rfl, fun _ => rfl⟩
      obtain ⟨w', e1, e2, e3⟩ := ih f' (q + 1) (sL v 28 0 (q / 64) (gL v 28 0 (q / 64) ||| lshl 1 (nI (q % 64)))) (by omega) (by omega) (by omega) (hv.tr (Nat.le_refl _) hk1) (fun s => by
        rw [hb_set, hbv s, Bool.or_assoc]
        congr 1
        by_cases y : s = q
        · subst y
          rw [decide_eq_true (show s = s from rfl), Bool.or_true, decide_eq_true (by omega)]
        · rw [decide_eq_false y, Bool.or_false]
          by_cases x : set ≤ s ∧ s < q
          · rw [decide_eq_true x, decide_eq_true (by omega)]
          · rw [decide_eq_false x, decide_eq_false (by omega)])
      refine ⟨w', ?_, e2, e3⟩
      have e64 : q / 2 ^ 6 = q / 64 := rfl
      have h6 := ushr_t (a := q) (k := 6) (by omega) (by omega)
      rw [lp_X4_note_23, ← e1, show (6 : Int32) = nI 6 from rfl, h6, and63]
      simp (disch := omega) only [↓lm1, ↓lm2, eq_n1, eq_n2, n1_eq, n2_eq, n1_n2, n2_n1, n1_lt, n2_lt, n1_le, lt_n1, lt_n2, inb_t, cl_t, le_tt, le_tf, lt_tt, lt_tf, eq_tt, eq_tf, q_add, q_mul, li0, li1, li2, li3, li4, li5, li6, li7, li8, li12, li16, li24, li48, li500, gF_sA, gA_sF, gF_sF, gR_sA, gR_sF, gL_sA, gL_sF, gA_sA, shl_t, or_t, and_t, sbit_t, ubit_t, b01_0, b01_1, Option.bind_some, ↓reduceIte, eq_self, ne_eq, not_true_eq_false, Bool.false_eq_true, not_false_eq_true, true_and, and_true, false_and, and_false, if_pos, if_neg, e64]
  rw [f_X4_note, if_pos (show gF w 4 6 0 = (0 : Int32) from h6)]
  exact key m N set w (by omega) (Nat.le_refl _) (by omega) KV.rf (fun s => by
    have : ¬ (set ≤ s ∧ s < set) := by omega
    rw [decide_eq_false this, Bool.or_false])
theorem note_ok {fa : Bool} {N set m : Nat} {w : Mem} {st : Vs} (hN : 5000 < N) (h6 : gF w 4 6 0 = nI (b01 (fa = true))) (hm : set + m ≤ 4096) (hst : VS fa w st) : ∃ w', f_X4_note N w (nI set) (nI m) = some w' ∧ KW 0 w w' ∧ VS fa w' (ntV fa set m st) := by
  cases fa with
  | true =>
    rw [b01_t rfl] at h6
    have hk : KW 0 w (sF (sF w 4 8 0 (nI set)) 4 7 0 (nI (pop set))) := by
      have hF : ∀ k j i, ¬ (k = 4 ∧ 7 ≤ j) → gF (sF (sF w 4 8 0 (nI set)) 4 7 0 (nI (pop set))) k j i = gF w k j i := fun k j i z => by
        rw [gF_sF, if_neg (by omega), gF_sF, if_neg (by omega)]
      exact ⟨⟨fun k j i z => hF k j i (by omega), fun _ _ _ => rfl, fun _ _ _ => rfl⟩, fun i hi => ⟨fun j => hF 3 j i (by omega), rfl⟩, fun j i hj => hF 4 j i (by omega), rfl, fun j => hF 8 j 0 (by omega)⟩
    refine ⟨_, ?_, hk, ?_, fun _ => ?_, hst.2.2⟩
    · have hbc := bitCount_ok (N := N) (w := sF w 4 8 0 (nI set)) (b := set) (by omega)
      rw [f_X4_note, h6, if_neg (by decide), hbc]
      rfl
    · show gF (sF (sF w 4 8 0 (nI set)) 4 7 0 (nI (pop set))) 4 7 0 = _
      rw [gF_sF, if_pos ⟨rfl, rfl, rfl⟩]
      rfl
    · show gF (sF (sF w 4 8 0 (nI set)) 4 7 0 (nI (pop set))) 4 8 0 = _
      rw [gF_sF, if_neg (by omega), gF_sF, if_pos ⟨rfl, rfl, rfl⟩]
      rfl
  | false =>
    rw [b01_f (by decide)] at h6
    obtain ⟨w', a1, a2, a3⟩ := noteL_ok hN h6 hm
    exact ⟨w', a1, a2.kw, (a2.2.2.1 _ _).trans hst.1, fun q => Bool.noConfusion q, fun s => by rw [a3 s, hst.2.2 s]; rfl⟩
/-- a set of picked ones as a set of sames -/
def ex (pk : List Nat) (s : Nat) : Nat → Nat
  | 0 => 0
  | q + 1 => match pk[q]? with
    | some p => if s.testBit q = true then ex pk s q ||| 2 ^ p else ex pk s q
    | none => ex pk s q
def exS (pk : List Nat) (s : Nat) : Nat := ex pk s pk.length
theorem ex_bit {pk : List Nat} {s x : Nat} : ∀ q, (ex pk s q).testBit x = true ↔ ∃ k, k < q ∧ s.testBit k = true ∧ pk[k]? = some x
  | 0 => by
    rw [ex, Nat.zero_testBit]
    exact ⟨fun h => Bool.noConfusion h, fun ⟨k, hk, _⟩ => absurd hk (Nat.not_lt_zero k)⟩
  | q + 1 => by
    have ih := ex_bit (pk := pk) (s := s) (x := x) q
    rw [ex]
    cases hp : pk[q]? with
    | none =>
      show (ex pk s q).testBit x = true ↔ _
      rw [ih]
      constructor
      · rintro ⟨k, h1, h2, h3⟩; exact ⟨k, by omega, h2, h3⟩
      · rintro ⟨k, h1, h2, h3⟩
        by_cases e : k = q
        · subst e; rw [hp] at h3; cases h3
        · exact ⟨k, by omega, h2, h3⟩
    | some p =>
      show (if s.testBit q = true then ex pk s q ||| 2 ^ p else ex pk s q).testBit x = true ↔ _
      by_cases z : s.testBit q = true
      · rw [if_pos z, or_bit, Bool.or_eq_true, ih, decide_eq_true_iff]
        constructor
        · rintro (⟨k, h1, h2, h3⟩ | h)
          · exact ⟨k, by omega, h2, h3⟩
          · exact ⟨q, by omega, z, by rw [hp, h]⟩
        · rintro ⟨k, h1, h2, h3⟩
          by_cases e : k = q
          · subst e; rw [hp] at h3; exact Or.inr (Option.some.inj h3).symm
          · exact Or.inl ⟨k, by omega, h2, h3⟩
      · rw [if_neg z, ih]
        constructor
        · rintro ⟨k, h1, h2, h3⟩; exact ⟨k, by omega, h2, h3⟩
        · rintro ⟨k, h1, h2, h3⟩
          by_cases e : k = q
          · subst e; exact absurd h2 z
          · exact ⟨k, by omega, h2, h3⟩
theorem exS_bit {pk : List Nat} {s x : Nat} : (exS pk s).testBit x = true ↔ ∃ k, s.testBit k = true ∧ pk[k]? = some x := by
  unfold exS
  rw [ex_bit]
  constructor
  · rintro ⟨k, _, h2, h3⟩; exact ⟨k, h2, h3⟩
  · rintro ⟨k, h2, h3⟩; exact ⟨k, (List.getElem?_eq_some_iff.mp h3).1, h2, h3⟩
theorem pk_ex {S : Prs} {pk : List Nat} {s i j : Nat} : Pk S (exS pk s) i j ↔ ∃ k p, s.testBit k = true ∧ pk[k]? = some p ∧ S[p]? = some (i, j) := by
  constructor
  · rintro ⟨p, h1, h2⟩
    obtain ⟨k, h3, h4⟩ := exS_bit.mp h1
    exact ⟨k, p, h3, h4, h2⟩
  · rintro ⟨k, p, h1, h2, h3⟩; exact ⟨p, exS_bit.mpr ⟨k, h1, h2⟩, h3⟩
theorem By.mono {T : Trm} {S : Prs} {a b t u : Nat} (h : ∀ k, a.testBit k = true → b.testBit k = true) (hc : By T S a t u) : By T S b t u := cg_mono (fun i j ⟨p, h1, h2⟩ => ⟨p, h p h1, h2⟩) hc
theorem exS_mono {pk : List Nat} {a b : Nat} (h : ∀ k, a.testBit k = true → b.testBit k = true) : ∀ k, (exS pk a).testBit k = true → (exS pk b).testBit k = true := fun x hx => by
  obtain ⟨k, h1, h2⟩ := exS_bit.mp hx
  exact exS_bit.mpr ⟨k, h k h1, h2⟩
/-- set is a multiple of 2 ^ o: adding below is or -/
theorem add_or {set o r : Nat} (h : set % 2 ^ o = 0) (hr : r < 2 ^ o) : set + r = set ||| r := by
  have e : set = 2 ^ o * (set / 2 ^ o) := by have := Nat.div_add_mod set (2 ^ o); omega
  rw [e, Nat.two_pow_add_eq_or_of_lt hr]
theorem low_bit {o r k : Nat} (hr : r < 2 ^ o) (h : r.testBit k = true) : k < o := by
  apply Nat.lt_of_not_le
  intro z
  rw [Nat.testBit_lt_two_pow (Nat.lt_of_lt_of_le hr (p2le z))] at h
  cases h
/-- the picks, and the two that are asked for, lie there -/
def PKw (w : Mem) (pk : List Nat) (t u : Nat) : Prop := gF w 4 4 0 = nI t ∧ gF w 4 5 0 = nI u ∧ ∀ k p, pk[k]? = some p → gA w 27 0 k = nI p
theorem PKw.kv {o : Nat} {w v : Mem} {pk : List Nat} {t u : Nat} (h : PKw w pk t u) (hk : KV o w v) : PKw v pk t u := ⟨(hk.2.2.1 _ _).trans h.1, (hk.2.2.1 _ _).trans h.2.1, fun k p hp => by rw [hk.2.2.2.1]; exact h.2.2 k p hp⟩
theorem PKw.kw {o : Nat} {w v : Mem} {pk : List Nat} {t u : Nat} (h : PKw w pk t u) (hk : KW o w v) : PKw v pk t u := ⟨(hk.2.2.1 _ _ (by omega)).trans h.1, (hk.2.2.1 _ _ (by omega)).trans h.2.1, fun k p hp => by rw [hk.2.2.2.1]; exact h.2.2 k p hp⟩
theorem canDo_ok {N f nf t u c set : Nat} {tk : Nat → Nat} {R A : List Row} {NL : List (List Nat)} {tp : List Nat} {wx w : Mem} {pk : List Nat} (hN : 5000 < N) (h : RelX wx f nf tk R A NL tp) (hpk : ∀ k p : Nat, pk[k]? = some p → p < (cSs tk R A).length) (hpl : pk.length ≤ 12) (ht : t < tN (cT tk R A)) (hu : u < tN (cT tk R A)) (hc : c < pk.length) (hw : KX wx w) (hG : GS w (4 + (c + 1)) (tN (cT tk R A)) (ldE (cT tk R A) (Pk (cSs tk R A) (exS pk set)))) (hP : PKw w pk t u) : ∃ w', f_X4_canDoWithout N w f (nI c) = some (w', nI (b01 (By (cT tk R A) (cSs tk R A) (exS pk (set ||| full c)) t u))) ∧ KV (c + 1) w w' ∧ ∀ s, hb w' s = hb w s := by
  have hTO : TOK (cT tk R A) := h.2.1.1.1.2.1
  have hn : tN (cT tk R A) ≤ 24 := h.2.1.1.1.1
  have hs12 : (cSs tk R A).length ≤ 12 := h.2.1.2.1.1
  obtain ⟨w1, a1, a2, a3⟩ := copyFrom_ok hG N (g := 4 + c) (by omega)
  have k1 : KV (c + 1) w w1 := KV.fr a3 (by omega) (fun k i z => Or.inl z)
  have key : ∀ r fuel q v d, q + r = c → r < fuel → KV (c + 1) w v → (∀ s, hb v s = hb w s) → GS v (4 + c) (tN (cT tk R A)) d → (∀ i j, ldE (cT tk R A) (Pk (cSs tk R A) (exS pk set)) i = ldE (cT tk R A) (Pk (cSs tk R A) (exS pk set)) j → d i = d j) → (∀ k p i j, k < q → pk[k]? = some p → (cSs tk R A)[p]? = some (i, j) → d i = d j) → (∀ Rr, Congr (cT tk R A) Rr → (∀ i j, Pk (cSs tk R A) (exS pk (set ||| full c)) i j → Rr i j) → Jst (tN (cT tk R A)) d Rr) → ∃ w' d', lp_X4_canDoWithout_19 (fun (w_5 : Mem) => (f_X4_canDoWithout_61 N w_5 f (nI c))) N f (nI c) fuel v (nI q) = f_X4_canDoWithout_61 N w' f (nI c) ∧ KV (c + 1) w w' ∧ (∀ s, hb w' s = hb w s) ∧ GS w' (4 + c) (tN (cT tk R A)) d' ∧ (∀ i j, ldE (cT tk R A) (Pk (cSs tk R A) (exS pk set)) i = ldE (cT tk R A) (Pk (cSs tk R A) (exS pk set)) j → d' i = d' j) ∧ (∀ k p i j, k < c → pk[k]? = some p → (cSs tk R A)[p]? = some (i, j) → d' i = d' j) ∧ (∀ Rr, Congr (cT tk R A) Rr → (∀ i j, Pk (cSs tk R A) (exS pk (set ||| full c)) i j → Rr i j) → Jst (tN (cT tk R A)) d' Rr) := by
    intro r
    induction r with
    | zero =>
      intro fuel q v d hq hf hv hbv hGv h1 h2 h3
      obtain ⟨f', rfl⟩ : ∃ f, fuel = f + 1 := ⟨fuel - 1, by omega⟩
      have e : q = c := by omega
      subst e
      refine ⟨v, d, ?_, hv, hbv, hGv, h1, h2, h3⟩
      rw [lp_X4_canDoWithout_19]
      simp (disch := omega) only [↓lm1, ↓lm2, eq_n1, eq_n2, n1_eq, n2_eq, n1_n2, n2_n1, n1_lt, n2_lt, n1_le, lt_n1, lt_n2, inb_t, cl_t, le_tt, le_tf, lt_tt, lt_tf, eq_tt, eq_tf, q_add, q_mul, li0, li1, li2, li3, li4, li5, li6, li7, li8, li12, li16, li24, li48, li500, gF_sA, gA_sF, gF_sF, gR_sA, gR_sF, gL_sA, gL_sF, gA_sA, shl_t, or_t, and_t, sbit_t, ubit_t, b01_0, b01_1, Option.bind_some, ↓reduceIte, eq_self, ne_eq, not_true_eq_false, Bool.false_eq_true, not_false_eq_true, true_and, and_true, false_and, and_false, if_pos, if_neg]
    | succ r ih =>
      intro fuel q v d hq hf hv hbv hGv h1 h2 h3
      obtain ⟨f', rfl⟩ : ∃ f, fuel = f + 1 := ⟨fuel - 1, by omega⟩
      obtain ⟨p, hp⟩ := get_at pk (q := q) (by omega)
      have hpS := hpk q p hp
      obtain ⟨⟨i, j⟩, hS⟩ := get_at (cSs tk R A) hpS
      have hXv := h.kx (hw.tr hv.1)
      obtain ⟨ki, kj, y3, y4⟩ := hXv.2.1.2.1.2.2 p i j hS
      have e27 := (hP.kv hv).2.2 q p hp
      obtain ⟨v1, b1, b2, b3⟩ := unite_ok hGv (N := N) (by omega) ki kj
      have k2 : KV (c + 1) v v1 := KV.fr b3 (by omega) (fun k i z => Or.inl z)
      obtain ⟨w', d', e1, e2⟩ := ih f' (q + 1) v1 (un d i j) (by omega) (by omega) (hv.tr (Nat.le_refl _) k2) (fun s => (KV.hb (o := 0) b3 s).trans (hbv s)) b2 (fun x y hxy => un_mono (h1 x y hxy)) (fun k p' x y hk hp' hS' => by
        by_cases e : k = q
        · subst e
          rw [hp] at hp'
          obtain rfl := Option.some.inj hp'
          rw [hS] at hS'
          obtain ⟨rfl, rfl⟩ := Prod.mk.inj (Option.some.inj hS')
          exact un_a
        · exact un_mono (h2 k p' x y (by omega) hp' hS')) (fun Rr hR hE => jst_un hR (h3 Rr hR hE) ki kj (hE i j (pk_ex.mpr ⟨q, p, by rw [Nat.testBit_or, full_bit, decide_eq_true (show q < c by omega), Bool.or_true], hp, hS⟩)))
      refine ⟨w', d', ?_, e2⟩
      have hbi : (4 + c : Nat) = 4 + c := rfl
      rw [lp_X4_canDoWithout_19, ← e1]
      simp (disch := omega) only [↓lm1, ↓lm2, eq_n1, eq_n2, n1_eq, n2_eq, n1_n2, n2_n1, n1_lt, n2_lt, n1_le, lt_n1, lt_n2, inb_t, cl_t, le_tt, le_tf, lt_tt, lt_tf, eq_tt, eq_tf, q_add, q_mul, li0, li1, li2, li3, li4, li5, li6, li7, li8, li12, li16, li24, li48, li500, gF_sA, gA_sF, gF_sF, gR_sA, gR_sF, gL_sA, gL_sF, gA_sA, shl_t, or_t, and_t, sbit_t, ubit_t, b01_0, b01_1, Option.bind_some, ↓reduceIte, eq_self, ne_eq, not_true_eq_false, Bool.false_eq_true, not_false_eq_true, true_and, and_true, false_and, and_false, if_pos, if_neg, e27, y3, y4, b1]
  obtain ⟨w2, d', b1, b2, b3, b4, b5, b6, b7⟩ := key c N 0 w1 (ldE (cT tk R A) (Pk (cSs tk R A) (exS pk set))) (by omega) (by omega) k1 (fun s => KV.hb (o := 0) a3 s) a2 (fun i j hij => hij) (fun k p i j hk => absurd hk (Nat.not_lt_zero k)) (fun Rr hR hE i j hi hj hij => ((ldE_iff hTO i j hi hj).mp hij) Rr hR (fun x y hxy => hE x y (by
    obtain ⟨k, p, q1, q2, q3⟩ := pk_ex.mp hxy
    exact pk_ex.mpr ⟨k, p, by rw [Nat.testBit_or, q1, Bool.true_or], q2, q3⟩)))
  have hX2 := h.kx (hw.tr b2.1)
  obtain ⟨w3, ld3, c1, c2, c3, c4⟩ := close_ok (N := N) (by omega) hX2.2.1.1.1 b4
  have k3 : KV (c + 1) w2 w3 := KV.fr c4 (by omega) (fun k i z => by omega)
  have hiff := clo_iff (E := Pk (cSs tk R A) (exS pk (set ||| full c))) c3.1 (fun x y hxy => c3.2.1 x y (by
    obtain ⟨k, p, q1, q2, q3⟩ := pk_ex.mp hxy
    rw [Nat.testBit_or, Bool.or_eq_true] at q1
    rcases q1 with q1 | q1
    · have hS := h.2.1.2.1.2.2 p x y q3
      exact b5 x y ((ldE_iff hTO x y hS.1 hS.2.1).mpr (cg_in (pk_ex.mpr ⟨k, p, q1, q2, q3⟩)))
    · rw [full_bit] at q1
      exact b6 k p x y (of_decide_eq_true q1) q2 q3)) (c3.2.2 _ (cg_congr _ hTO _) (b7 _ (cg_congr _ hTO _) (fun i j hij => cg_in hij)))
  have ho := one_ok c2 N ht hu
  rw [b01_i, b01_c (hiff t u ht hu)] at ho
  have hP3 := (hP.kv b2).kv k3
  refine ⟨w3, ?_, b2.tr (Nat.le_refl _) k3, fun s => (KV.hb (o := 0) c4 s).trans (b3 s)⟩
  rw [f_X4_canDoWithout, show nI c + (1 : Int32) = nI (c + 1) from n_add c 1]
  rw [if_pos (inb_t (by omega) (by omega)), if_pos (inb_t (by omega) (by omega)), cl_t (by omega), cl_t (by omega), a1, Option.bind_some, show (0 : Int32) = nI 0 from rfl, b1, f_X4_canDoWithout_61]
  rw [if_pos (inb_t (by omega) (by omega)), cl_t (by omega), c1, Option.bind_some, hP3.1, hP3.2.1, ho, Option.bind_some, if_pos (of_eq_true b01_01)]
  rfl
