/-! the memory: numbers by class, slot, object; rows by kind, object; the picture of the heap; rows of the machine over it -/
abbrev Mem : Type := (Nat → Nat → Nat → Int32) × (Nat → Nat → Nat → Int32) × (Nat → Nat → Nat → Int64) × (Nat → Nat → Nat → Nat)
def gF (w : Mem) (k j i : Nat) : Int32 := w.1 k j i
def gA (w : Mem) (k i : Nat) : Nat → Int32 := w.2.1 k i
def gL (w : Mem) (k i : Nat) : Nat → Int64 := w.2.2.1 k i
def gR (w : Mem) (k j i : Nat) : Nat := w.2.2.2 k j i
def sF (w : Mem) (k j i : Nat) (v : Int32) : Mem := (fun k' j' i' => if k' = k ∧ j' = j ∧ i' = i then v else w.1 k' j' i', w.2)
def sAf (w : Mem) (k i : Nat) (f : Nat → Int32) : Mem := (w.1, fun k' i' => if k' = k ∧ i' = i then f else w.2.1 k' i', w.2.2)
def sLf (w : Mem) (k i : Nat) (f : Nat → Int64) : Mem := (w.1, w.2.1, fun k' i' => if k' = k ∧ i' = i then f else w.2.2.1 k' i', w.2.2.2)
def sR (w : Mem) (k j i : Nat) (v : Nat) : Mem := (w.1, w.2.1, w.2.2.1, fun k' j' i' => if k' = k ∧ j' = j ∧ i' = i then v else w.2.2.2 k' j' i')
def sA (w : Mem) (k i x : Nat) (v : Int32) : Mem := sAf w k i (upd (gA w k i) x v)
def sL (w : Mem) (k i x : Nat) (v : Int64) : Mem := sLf w k i (vp_updL (gL w k i) x v)
theorem gF_sF (w : Mem) (k j i k' j' i' : Nat) (v : Int32) : gF (sF w k j i v) k' j' i' = if k' = k ∧ j' = j ∧ i' = i then v else gF w k' j' i' := rfl
theorem gA_sAf (w : Mem) (k i k' i' : Nat) (f : Nat → Int32) : gA (sAf w k i f) k' i' = if k' = k ∧ i' = i then f else gA w k' i' := rfl
theorem gL_sLf (w : Mem) (k i k' i' : Nat) (f : Nat → Int64) : gL (sLf w k i f) k' i' = if k' = k ∧ i' = i then f else gL w k' i' := rfl
theorem gR_sR (w : Mem) (k j i k' j' i' : Nat) (v : Nat) : gR (sR w k j i v) k' j' i' = if k' = k ∧ j' = j ∧ i' = i then v else gR w k' j' i' := rfl
theorem gA_sF (w : Mem) (k j i k' i' : Nat) (v : Int32) : gA (sF w k j i v) k' i' = gA w k' i' := rfl
theorem gL_sF (w : Mem) (k j i k' i' : Nat) (v : Int32) : gL (sF w k j i v) k' i' = gL w k' i' := rfl
theorem gR_sF (w : Mem) (k j i k' j' i' : Nat) (v : Int32) : gR (sF w k j i v) k' j' i' = gR w k' j' i' := rfl
theorem gF_sAf (w : Mem) (k i k' j' i' : Nat) (f : Nat → Int32) : gF (sAf w k i f) k' j' i' = gF w k' j' i' := rfl
theorem gL_sAf (w : Mem) (k i k' i' : Nat) (f : Nat → Int32) : gL (sAf w k i f) k' i' = gL w k' i' := rfl
theorem gR_sAf (w : Mem) (k i k' j' i' : Nat) (f : Nat → Int32) : gR (sAf w k i f) k' j' i' = gR w k' j' i' := rfl
theorem gF_sLf (w : Mem) (k i k' j' i' : Nat) (f : Nat → Int64) : gF (sLf w k i f) k' j' i' = gF w k' j' i' := rfl
theorem gA_sLf (w : Mem) (k i k' i' : Nat) (f : Nat → Int64) : gA (sLf w k i f) k' i' = gA w k' i' := rfl
theorem gR_sLf (w : Mem) (k i k' j' i' : Nat) (f : Nat → Int64) : gR (sLf w k i f) k' j' i' = gR w k' j' i' := rfl
theorem gF_sR (w : Mem) (k j i k' j' i' v : Nat) : gF (sR w k j i v) k' j' i' = gF w k' j' i' := rfl
theorem gA_sR (w : Mem) (k j i k' i' v : Nat) : gA (sR w k j i v) k' i' = gA w k' i' := rfl
theorem gL_sR (w : Mem) (k j i k' i' v : Nat) : gL (sR w k j i v) k' i' = gL w k' i' := rfl
def inb (i : Int32) (n : Nat) : Bool := decide (¬ (i < 0 ∨ n ≤ i.toNatClampNeg))
theorem inb_in {i : Int32} {n : Nat} (h : inb i n = true) : vp_in i n := by
  have h1 : decide (¬ (i < 0 ∨ n ≤ i.toNatClampNeg)) = true := h
  show ¬ (i < 0 ∨ n ≤ i.toNatClampNeg)
  exact of_decide_eq_true h1
theorem gsp {α : Type} {c : Prop} [Decidable c] {x : Option α} {r : α} (h : (if c then x else none) = some r) : c ∧ x = some r := by
  by_cases hc : c
  · rw [if_pos hc] at h; exact ⟨hc, h⟩
  · rw [if_neg hc] at h; cases h
theorem bsp {α β : Type} {x : Option α} {f : α → Option β} {r : β} (h : x.bind f = some r) : ∃ a, x = some a ∧ f a = some r := by
  cases x with
  | none => cases h
  | some a => exact ⟨a, rfl, h⟩
/-- the kinds of rows: what they hold, how long they are -/
def ety (k : Nat) : Nat := match k with
  | 26 => 3
  | 28 => 2
  | 30 => 1
  | _ => 0
def alen (k : Nat) : Nat := match k with
  | 10 => 576
  | 11 => 576
  | 12 => 576
  | 13 => 12
  | 14 => 12
  | 15 => 8
  | 16 => 8
  | 17 => 44
  | 18 => 44
  | 26 => 13
  | 27 => 12
  | 28 => 64
  | 29 => 3
  | 30 => 500
  | 31 => 8
  | 32 => 8
  | 36 => 72
  | 38 => 276
  | 39 => 276
  | 40 => 12
  | 41 => 12
  | 42 => 12
  | 43 => 12
  | 44 => 12
  | 45 => 12
  | _ => 24
def ea (ca : Nat → ClassId) (ad : Nat → Nat → Nat) (w : Mem) (k i : Nat) : va_E := match ety k with
  | 2 => .inl (ca 2, alen k, .inr (.inl (gL w k i)))
  | 3 => .inl (ca 3, alen k, .inr (.inr (.inr (.inr (fun j => some (ad 3 (4 + j)))))))
  | q => .inl (ca q, alen k, .inl (gA w k i))
def ent (ca : Nat → ClassId) (ad : Nat → Nat → Nat) (w : Mem) (k i : Nat) : va_E := match k with
  | 0 => .inr (0, [.ref (ad 10 i), .ref (ad 11 i), .ref (ad 12 i), .int (gF w 0 3 i), .int (gF w 0 4 i)])
  | 1 => .inr (1, [.ref (ad 7 i), .ref (ad 3 (2 + i)), .ref (ad 2 i), .ref (ad 13 i), .ref (ad 14 i), .ref (ad 15 i), .ref (ad 16 i), .ref (ad 17 i), .ref (ad 18 i), .int (gF w 1 9 i), .int (gF w 1 10 i), .int (gF w 1 11 i)])
  | 2 => .inr (2, [.ref (ad 19 i), .ref (ad 20 i), .ref (ad 21 i), .ref (ad 22 i), .ref (ad 23 i), .ref (ad 24 i), .int (gF w 2 6 i), .int (gF w 2 7 i)])
  | 3 => .inr (3, [.ref (ad 25 i), .int (gF w 3 1 i), .int (gF w 3 2 i)])
  | 4 => .inr (4, [.ref (ad 26 i), .ref (ad 27 i), .ref (ad 28 i), .int (gF w 4 3 i), .int (gF w 4 4 i), .int (gF w 4 5 i), .int (gF w 4 6 i), .int (gF w 4 7 i), .int (gF w 4 8 i)])
  | 5 => .inr (5, [.ref (ad 6 0), .int (gF w 5 1 i), .ref (ad 1 (gR w 5 2 i)), .ref (ad 29 i), .int (gF w 5 4 i), .int (gF w 5 5 i), .int (gF w 5 6 i), .int (gF w 5 7 i), .int (gF w 5 8 i)])
  | 6 => .inr (6, [.ref (ad 30 i), .int (gF w 6 1 i)])
  | 7 => .inr (7, [.ref (ad 31 i), .ref (ad 32 i), .ref (ad 33 i), .ref (ad 34 i), .ref (ad 35 i), .ref (ad 36 i), .ref (ad 37 i), .ref (ad 38 i), .ref (ad 39 i), .int (gF w 7 9 i), .int (gF w 7 10 i), .int (gF w 7 11 i)])
  | 8 => .inr (8, [.ref (ad 6 0), .ref (ad 0 0), .ref (ad 4 0), .ref (ad 3 0), .ref (ad 3 1), .ref (ad 1 (gR w 8 5 i)), .ref (ad 1 (gR w 8 6 i)), .int (gF w 8 7 i), .int (gF w 8 8 i), .int (gF w 8 9 i)])
  | 9 => .inr (9, [.ref (ad 40 i), .ref (ad 41 i), .ref (ad 42 i), .ref (ad 43 i), .ref (ad 44 i), .int (gF w 9 5 i), .int (gF w 9 6 i), .ref (ad 45 i)])
  | 46 => .inr (10, [.ref (ad 47 0), .int (gF w 46 1 i)])
  | k => ea ca ad w k i
theorem ent_congr (ca : Nat → ClassId) (ad : Nat → Nat → Nat) {w v : Mem} {k i : Nat} (h1 : ∀ j, gF w k j i = gF v k j i) (h2 : gA w k i = gA v k i) (h3 : gL w k i = gL v k i) (h4 : ∀ j, gR w k j i = gR v k j i) : ent ca ad w k i = ent ca ad v k i := by
  unfold ent
  split <;> first | simp only [h1, h4] | (unfold ea; rw [h2, h3])
theorem ent_ea (ca : Nat → ClassId) (ad : Nat → Nat → Nat) (w : Mem) {k : Nat} (i : Nat) (h : 10 ≤ k) (h2 : k ≠ 46) : ent ca ad w k i = ea ca ad w k i := by
  unfold ent
  split <;> first | omega | rfl
theorem ent_i (ca : Nat → ClassId) (ad : Nat → Nat → Nat) (w : Mem) {k : Nat} (i : Nat) (h : 10 ≤ k) (h2 : k ≠ 46) (he : ety k = 0) : ent ca ad w k i = .inl (ca 0, alen k, .inl (gA w k i)) := by
  rw [ent_ea ca ad w i h h2]; unfold ea; rw [he]; rfl
def tysA (ca : Nat → ClassId) : List (ClassId × FieldType) := [(ca 0, .int), (ca 1, .byte), (ca 2, .long), (ca 3, .object RX3)]
def wl (ad : Nat → Nat → Nat) (PL : List (Nat × Nat)) (e : Nat → Nat → va_E) : va_W := PL.map fun p => (ad p.1 p.2, e p.1 p.2)
def RD (A : Nat → Prop) (ad : Nat → Nat → Nat) (PL : List (Nat × Nat)) : Prop := PL.Nodup ∧ (∀ p ∈ PL, ∀ q ∈ PL, ad p.1 p.2 = ad q.1 q.2 → p = q) ∧ ∀ p ∈ PL, A (ad p.1 p.2)
theorem wl_at {ad : Nat → Nat → Nat} {PL : List (Nat × Nat)} (e : Nat → Nat → va_E) {k i : Nat} (h : (k, i) ∈ PL) : ∃ q : Nat, PL[q]? = some (k, i) ∧ (wl ad PL e)[q]? = some (ad k i, e k i) := by
  obtain ⟨q, hq⟩ := List.getElem?_of_mem h
  exact ⟨q, hq, by rw [wl, List.getElem?_map, hq]; rfl⟩
theorem wl_inv {ad : Nat → Nat → Nat} {PL : List (Nat × Nat)} {e : Nat → Nat → va_E} {j : Nat} {x : Nat × va_E} (h : (wl ad PL e)[j]? = some x) : ∃ p, PL[j]? = some p ∧ x = (ad p.1 p.2, e p.1 p.2) := by
  rw [wl, List.getElem?_map] at h
  cases hp : PL[j]? with
  | none => rw [hp] at h; cases h
  | some p => rw [hp] at h; exact ⟨p, rfl, (Option.some.inj h).symm⟩
theorem wl_D {A : Nat → Prop} {ad : Nat → Nat → Nat} {PL : List (Nat × Nat)} (e : Nat → Nat → va_E) (h : RD A ad PL) : va_D A (wl ad PL e) := by
  refine ⟨fun i j p q hp hq hpq => ?_, fun k q hq => ?_⟩
  · obtain ⟨p1, h1, rfl⟩ := wl_inv hp
    obtain ⟨q1, h2, rfl⟩ := wl_inv hq
    have h3 := h.2.1 p1 (List.mem_of_getElem? h1) q1 (List.mem_of_getElem? h2) hpq
    subst h3
    have li : i < PL.length := (List.getElem?_eq_some_iff.mp h1).1
    exact (List.getElem?_inj li h.1).mp (h1.trans h2.symm)
  · obtain ⟨q1, h2, rfl⟩ := wl_inv hq
    exact h.2.2 q1 (List.mem_of_getElem? h2)
theorem wl_set {ad : Nat → Nat → Nat} {PL : List (Nat × Nat)} {e e' : Nat → Nat → va_E} {q k i : Nat} {v : va_E} (hn : PL.Nodup) (hq : PL[q]? = some (k, i)) (h1 : e' k i = v) (h2 : ∀ k' i', ¬ (k' = k ∧ i' = i) → e' k' i' = e k' i') : (wl ad PL e).set q (ad k i, v) = wl ad PL e' := by
  have hl : q < PL.length := (List.getElem?_eq_some_iff.mp hq).1
  apply List.ext_getElem?
  intro j
  by_cases hj : j = q
  · subst hj
    rw [List.getElem?_set_self (by rw [wl, List.length_map]; exact hl), wl, List.getElem?_map, hq]
    simp [h1]
  · rw [List.getElem?_set_ne (Ne.symm hj), wl, wl, List.getElem?_map, List.getElem?_map]
    cases hp : PL[j]? with
    | none => rfl
    | some p =>
      have hne : ¬ (p.1 = k ∧ p.2 = i) := fun hc => hj ((List.getElem?_inj (List.getElem?_eq_some_iff.mp hp).1 hn).mp (by rw [hp, hq]; congr 1; exact Prod.ext hc.1 hc.2))
      simp [h2 p.1 p.2 hne]
def CX (p : Program) (s : State) (m : MethodId) (args : Array Value) (c : Code) (cc : ByteArray) (own : String) (nL : Nat) (D : va_G) (ca : Nat → ClassId) (Z : State → Prop) : Prop :=
  p.tables.exec = Jvm.exec ∧ c.code = cc ∧ c.maxLocals = nL ∧ s.vm.findClass own = some m.cls ∧ (∀ w ∈ ALL, w.before args s = true) ∧ va_K D vwCl (tysA ca) s ∧ Z s
/-- what is known of the cells that lie outside: kept by all that leaves them as they are -/
def stb (A : Nat → Prop) (Z : State → Prop) : Prop := (∀ (U : State) (g : JFrame) (mk : MethodId) (a : Array Value), Z U → Z (U.calling g mk a)) ∧ ∀ s U : State, Z s → s.WarmedH U.vm → (∀ q : Nat, q < s.heap.size → ¬ A q → U.heap[q]? = s.heap[q]?) → s.heap.size ≤ U.heap.size → Z U
def wsy (y : MethodName) (bytes : ByteArray) (maxL : Nat) (ret : Option FieldType) : List Cond := Cond.code y bytes maxL ret :: ALL
def rmk (d : Nat) : Room := { frames := d, cells := 0, slots := 0, locals := 40 * d }
def RX (D : va_G) (ca : Nat → ClassId) (ad : Nat → Nat → Nat) (PL : List (Nat × Nat)) (Z : State → Prop) (w : Mem) (U : State) : Prop := va_P D vwCl (wl ad PL (ent ca ad w)) U.heap ∧ va_K D vwCl (tysA ca) U ∧ Z U
def qcR (D : va_G) (ca : Nat → ClassId) (ad : Nat → Nat → Nat) (PL : List (Nat × Nat)) (Z : State → Prop) (A : Nat → Prop) (w : Mem) (rv : Option Value) : Array Value → State → Outcome → State → Prop := fun _ st o t => (o = .returned rv ∧ RX D ca ad PL Z w t) ∧ va_F A st t
def CT (l : Launch) (y : MethodName) (ws : List Cond) (rm : Room) (D : va_G) (ca : Nat → ClassId) (ad : Nat → Nat → Nat) (PL : List (Nat × Nat)) (Z : State → Prop) (A : Nat → Prop) (av : List Value) (w w' : Mem) (rv : Option Value) : Prop :=
  Met l y ws rm (va_Pc av (RX D ca ad PL Z w)) (qcR D ca ad PL Z A w' rv) 0 0 A
/-- the law's own script: how long, what it holds -/
def SCZ (A : Nat → Prop) (Z : State → Prop) (q : Nat) (sx : Nat × (Nat → Int32)) : Prop := sx.1 < 2 ^ 31 ∧ ∀ U, Z U → va_T .int q sx.1 (fun j => .int (sx.2 j)) A U U.heap
/-- constants that are Strings: what is known of them -/
def STR (A : Nat → Prop) (q v : Nat) (b : List Int32) (U : State) : Prop := va_O "java/lang/String" q A U U.heap ∧ va_OF "java/lang/String" "coder" "B" (.int 0) q A U U.heap ∧ va_OF "java/lang/String" "value" "[B" (.ref v) q A U U.heap ∧ va_T .byte v b.length (fun j => .int (b.getD j 0)) A U U.heap
def CSZ (A : Nat → Prop) (U : State) : Prop := va_Z "java/lang/String" "COMPACT_STRINGS" "Z" (.int 1) A U U.heap ∧ va_Zq "jdk/internal/util/Preconditions" "SIOOBE_FORMATTER" "Ljava/util/function/BiFunction;" A U U.heap
def STRZ (A : Nat → Prop) (Z : State → Prop) (q : Nat) (b : List Int32) : Prop := b.length < 2 ^ 31 ∧ ∃ v, ∀ U, Z U → STR A q v b U ∧ CSZ A U
def okc (b : Nat → Nat) (Z : State → Prop) (A : Nat → Prop) (ad : Nat → Nat → Nat) (PL : List (Nat × Nat)) : Prop := RD A ad PL ∧ (∀ k i, i < b k → (k, i) ∈ PL) ∧ stb A Z ∧ True
def CW (C : String) (y : MethodName) (bytes : ByteArray) (maxL : Nat) (ret : Option FieldType) (n : Nat) : Prop :=
  Cond.instanceMethod y ∈ ALL ∧ Cond.selects C y y ∈ ALL ∧ Cond.initialized C ∈ ALL ∧ Cond.code y bytes maxL ret ∈ ALL ∧ (y.cls = C ∧ y.cls ≠ "java/lang/invoke/MethodHandle" ∧ y.cls ≠ "java/lang/invoke/VarHandle" ∧ (parseMethodDescriptor y.desc).map (fun d => d.parameters.length) = some n)
def CS (y : MethodName) (bytes : ByteArray) (maxL : Nat) (ret : Option FieldType) (n : Nat) : Prop :=
  Cond.static y ∈ ALL ∧ Cond.initialized y.cls ∈ ALL ∧ Cond.code y bytes maxL ret ∈ ALL ∧ (y.cls ≠ "java/lang/invoke/MethodHandle" ∧ y.cls ≠ "java/lang/invoke/VarHandle" ∧ (parseMethodDescriptor y.desc).map (fun d => d.parameters.length) = some n)
theorem gdV {own : String} {idx : Nat} {C : String} {y : MethodName} {bytes : ByteArray} {maxL n : Nat} {ret : Option FieldType} (cw : CW C y bytes maxL ret n) (hlk : Cond.methodLink own idx y ∈ ALL) : GoodIn ALL (wsV own idx C y (wsy y bytes maxL ret)) := by
  intro w h
  have hm : w ∈ ALL := by
    simp only [wsV, wsy, List.cons_append, List.nil_append, List.mem_cons] at h
    rcases h with rfl | rfl | rfl | rfl | rfl | h
    · exact hlk
    · exact cw.1
    · exact cw.2.1
    · exact cw.2.2.1
    · exact cw.2.2.2.1
    · exact h
  exact ⟨hm, ALL_gd w hm⟩
theorem gdS {own : String} {idx : Nat} {y : MethodName} {bytes : ByteArray} {maxL n : Nat} {ret : Option FieldType} (cw : CS y bytes maxL ret n) (hlk : Cond.methodLink own idx y ∈ ALL) : GoodIn ALL (va_wsS own idx y (wsy y bytes maxL ret)) := by
  intro w h
  have hm : w ∈ ALL := by
    simp only [va_wsS, wsy, List.cons_append, List.nil_append, List.mem_cons] at h
    rcases h with rfl | rfl | rfl | rfl | h
    · exact hlk
    · exact cw.1
    · exact cw.2.1
    · exact cw.2.2.1
    · exact h
  exact ⟨hm, ALL_gd w hm⟩
theorem gdY {C : String} {y : MethodName} {bytes : ByteArray} {maxL n : Nat} {ret : Option FieldType} (cw : CW C y bytes maxL ret n) : GoodIn ALL (wsy y bytes maxL ret) := by
  intro w h
  have hm : w ∈ ALL := by
    simp only [wsy, List.mem_cons] at h
    rcases h with rfl | h
    · exact cw.2.2.2.1
    · exact h
  exact ⟨hm, ALL_gd w hm⟩
section FR
variable {p : Program} {l : Launch} {e : Env} {R : Room} {s : State} {m : MethodId} {args : Array Value} {below : List Frame} {meth : Method} {c : Code} {H : Heap} {locs : List Loc} {cells slots : Nat} {Q : State → Prop}
variable {cc : ByteArray} {pc : Nat} {ls : Array Slot} {rest : List Value} {own : String} {nL : Nat} {D : va_G} {ca : Nat → ClassId} {ad : Nat → Nat → Nat} {PL : List (Nat × Nat)} {A : Nat → Prop} {Z : State → Prop} {H0 : Heap} {w : Mem}
theorem rx_blind {av : List Value} (hz : stb A Z) : FrameBlind (va_Pc av (RX D ca ad PL Z w)) := fun a U g mk q => ⟨q.1, q.2.1, va_K.moved (u := U) (U := U.calling g mk a) (Vm.Alike.refl U.vm) q.2.2.1, hz.1 U g mk a q.2.2.2⟩
theorem kc_go {rv : Option Value} {w' : Mem} {st0 : List Value} {a : Array Value} (hr : va_Run p l e R s m args below meth c H locs cells slots 0 0 (F0 m pc ls st0) rest (qcR D ca ad PL Z A w' rv a) A) (hS : va_S A H0 H locs)
    (kk : ∀ (H1 : Heap) (locs1 : List Loc), va_P D vwCl (wl ad PL (ent ca ad w')) H1 → va_S A H0 H1 locs1 → W p l e R s m args below meth c H1 locs1 cells slots Q (F0 m (pc + 3) ls (rv.toList ++ rest))) : W p l e R s m args below meth c H locs cells slots Q (F0 m pc ls st0) := by
  intro T hT X
  obtain ⟨v, st₀, t, T', L, h0, X', hL, e1, e2, ⟨⟨hv, hP1, -⟩, hz, hk⟩, st⟩ := hr T hT X
  cases hv
  rw [h0] at hz hk
  obtain ⟨t2, a1, b1⟩ := kk T'.heap (locs ++ L) (by rw [e1]; exact hP1)
    ⟨Nat.le_trans hS.1 (by rw [e1]; exact hz), fun q h1 h2 => by rw [e1, hk q (Nat.lt_of_lt_of_le h1 hS.1) h2]; exact hS.2.1 q h1 h2, fun q hq => by
      rcases List.mem_append.mp hq with h | h
      · exact hS.2.2 q h
      · exact hL q h⟩ T' rfl X'
  exact ⟨t2, st t2 a1, b1⟩
theorem kc_V {y : MethodName} {bytes : ByteArray} {maxL n idx ci cx i : Nat} {ret : Option FieldType} {rm : Room} {fs : List Value} {q : vw_C} {As st0 : List Value} {w' : Mem} {rv : Option Value}
    (hz : stb A Z) (C : CX p s m args c cc own nL D ca Z) (hP : va_P D vwCl (wl ad PL (ent ca ad w)) H) (hS : va_S A s.heap H locs) (hsz : ls.size = nL) (hp : (ci, i) ∈ PL) (hent : ent ca ad w ci i = .inr (cx, fs)) (hcl : vwCl[cx]? = some q)
    (cw : CW q.1 y bytes maxL ret n) (hlk : Cond.methodLink own idx y ∈ ALL) (hM : CT l y (wsy y bytes maxL ret) rm D ca ad PL Z A (.ref (ad ci i) :: As) w w' rv) (hn : As.length = n)
    (hrc : rm.cells = 0 ∧ rm.slots = 0) (hrm : rm.frames + 1 ≤ R.frames ∧ 8 + (maxL + 11) + rm.locals ≤ R.locals) (hcs : cells ≤ R.cells ∧ slots ≤ R.slots) (hW : (rest.map fun v => v.category).sum ≤ 8)
    (hst : st0 = As.reverse ++ .ref (ad ci i) :: rest) (hdg : decode cc pc = .ok (.invokevirtual idx, 3))
    (kk : ∀ (H1 : Heap) (locs1 : List Loc), va_P D vwCl (wl ad PL (ent ca ad w')) H1 → va_S A s.heap H1 locs1 → W p l e R s m args below meth c H1 locs1 cells slots Q (F0 m (pc + 3) ls (rv.toList ++ rest))) : W p l e R s m args below meth c H locs cells slots Q (F0 m pc ls st0) := by
  obtain ⟨hx, hb, hml, hown, hts, hK, hZ⟩ := C
  obtain ⟨q0, -, hq⟩ := wl_at (ad := ad) (ent ca ad w) hp
  rw [hent] at hq
  refine kc_go (va_runV (C := q.1) (b := ad ci i) (As := As) (g := F0 m pc ls st0) ⟨hx, hb, hml, hown, hts⟩ hM (cwV n hts (gdV cw hlk) rfl hrc.1 hrc.2 cw.2.2.2.2 hrm) ⟨rx_blind hz, va_recv hK hP hcl hq, fun U hU hWm => ⟨rfl, by rw [hU]; exact hP, va_K.moved hWm.alike hK, hz.2 s U hZ hWm (fun q9 h1 h2 => by rw [hU]; exact hS.2.1 q9 h1 h2) (by rw [hU]; exact hS.1)⟩⟩ rfl hn hsz hst ?_ hdg hcs) hS kk
  simpa [JFrame.monitorRoom] using hW
theorem kc_VN {y : MethodName} {bytes : ByteArray} {maxL n idx ci cx i : Nat} {ret : Option FieldType} {rm : Room} {fs : List Value} {q : vw_C} {As st0 : List Value} {w' : Mem} {rv : Option Value}
    (hz : stb A Z) (C : CX p s m args c cc own nL D ca Z) (hP : va_P D vwCl (wl ad PL (ent ca ad w)) H) (hS : va_S A s.heap H locs) (hsz : ls.size = nL) (hp : (ci, i) ∈ PL) (hent : ent ca ad w ci i = .inr (cx, fs)) (hcl : vwCl[cx]? = some q)
    (cw : CW q.1 y bytes maxL ret n) {host : String} (hlk : va_Nw (.methodLinkNest own idx y host) s) (hM : CT l y (wsy y bytes maxL ret) rm D ca ad PL Z A (.ref (ad ci i) :: As) w w' rv) (hn : As.length = n)
    (hrc : rm.cells = 0 ∧ rm.slots = 0) (hrm : rm.frames + 1 ≤ R.frames ∧ 8 + (maxL + 11) + rm.locals ≤ R.locals) (hcs : cells ≤ R.cells ∧ slots ≤ R.slots) (hW : (rest.map fun v => v.category).sum ≤ 8)
    (hst : st0 = As.reverse ++ .ref (ad ci i) :: rest) (hdg : decode cc pc = .ok (.invokevirtual idx, 3))
    (kk : ∀ (H1 : Heap) (locs1 : List Loc), va_P D vwCl (wl ad PL (ent ca ad w')) H1 → va_S A s.heap H1 locs1 → W p l e R s m args below meth c H1 locs1 cells slots Q (F0 m (pc + 3) ls (rv.toList ++ rest))) : W p l e R s m args below meth c H locs cells slots Q (F0 m pc ls st0) := by
  obtain ⟨hx, hb, hml, hown, hts, hK, hZ⟩ := C
  obtain ⟨q0, -, hq⟩ := wl_at (ad := ad) (ent ca ad w) hp
  rw [hent] at hq
  refine kc_go (va_runVN (C := q.1) (b := ad ci i) (As := As) (g := F0 m pc ls st0) ⟨hx, hb, hml, hown, hts⟩ hM ⟨va_cnB n hts (gdY cw) rfl hrc.1 hrc.2 hlk (hts _ (by rw [cw.2.2.2.2.1]; exact cw.2.2.1)) cw.2.2.2.2.2 hrm, hts _ cw.1, hts _ cw.2.1⟩ ⟨rx_blind hz, va_recv hK hP hcl hq, fun U hU hWm => ⟨rfl, by rw [hU]; exact hP, va_K.moved hWm.alike hK, hz.2 s U hZ hWm (fun q9 h1 h2 => by rw [hU]; exact hS.2.1 q9 h1 h2) (by rw [hU]; exact hS.1)⟩⟩ rfl hn hsz hst ?_ hdg hcs) hS kk
  simpa [JFrame.monitorRoom] using hW
theorem kc_S {y : MethodName} {bytes : ByteArray} {maxL n idx : Nat} {ret : Option FieldType} {rm : Room} {As st0 : List Value} {w' : Mem} {rv : Option Value}
    (hz : stb A Z) (C : CX p s m args c cc own nL D ca Z) (hP : va_P D vwCl (wl ad PL (ent ca ad w)) H) (hS : va_S A s.heap H locs) (hsz : ls.size = nL)
    (cw : CS y bytes maxL ret n) (hlk : Cond.methodLink own idx y ∈ ALL) (hM : CT l y (wsy y bytes maxL ret) rm D ca ad PL Z A As w w' rv) (hn : As.length = n)
    (hrc : rm.cells = 0 ∧ rm.slots = 0) (hrm : rm.frames + 1 ≤ R.frames ∧ 8 + (maxL + 11) + rm.locals ≤ R.locals) (hcs : cells ≤ R.cells ∧ slots ≤ R.slots) (hW : (rest.map fun v => v.category).sum ≤ 8)
    (hst : st0 = As.reverse ++ rest) (hdg : decode cc pc = .ok (.invokestatic idx, 3))
    (kk : ∀ (H1 : Heap) (locs1 : List Loc), va_P D vwCl (wl ad PL (ent ca ad w')) H1 → va_S A s.heap H1 locs1 → W p l e R s m args below meth c H1 locs1 cells slots Q (F0 m (pc + 3) ls (rv.toList ++ rest))) : W p l e R s m args below meth c H locs cells slots Q (F0 m pc ls st0) := by
  obtain ⟨hx, hb, hml, hown, hts, hK, hZ⟩ := C
  refine kc_go (va_runS (As := As) (g := F0 m pc ls st0) ⟨hx, hb, hml, hown, hts⟩ hM (va_cwS n hts (gdS cw hlk) rfl hrc.1 hrc.2 cw.2.2.2 hrm) ⟨rx_blind hz, fun U hU hWm => ⟨rfl, by rw [hU]; exact hP, va_K.moved hWm.alike hK, hz.2 s U hZ hWm (fun q9 h1 h2 => by rw [hU]; exact hS.2.1 q9 h1 h2) (by rw [hU]; exact hS.1)⟩⟩ rfl hn hsz hst ?_ hdg hcs) hS kk
  simpa [JFrame.monitorRoom] using hW
theorem kr_v {w' : Mem} (hz : stb A Z) (C : CX p s m args c cc own nL D ca Z) (hlocks : meth.locks = false) (hr : meth.sig.returnType = none) (hP : va_P D vwCl (wl ad PL (ent ca ad w)) H) (hS : va_S A s.heap H locs) (hw : w = w') (hdg : decode cc pc = .ok (.return_, 1)) :
    W p l e R s m args below meth c H locs 0 0 (MQ below (qcR D ca ad PL Z A w' none) args s 0 0 A) (F0 m pc ls []) := by
  subst hw
  exact W.vret C.1 C.2.1 hr (fun t ht hW => ⟨⟨rfl, by rw [ht]; exact hP, va_K.moved hW.alike C.2.2.2.2.2.1, hz.2 s t C.2.2.2.2.2.2 hW (fun q9 h1 h2 => by rw [ht]; exact hS.2.1 q9 h1 h2) (by rw [ht]; exact hS.1)⟩, hS.F ht⟩) hS.2.2 hdg (hlocks := hlocks)
theorem kr_i {w' : Mem} {v r : Int32} {ty : FieldType} (hz : stb A Z) (C : CX p s m args c cc own nL D ca Z) (hlocks : meth.locks = false) (hr : meth.sig.returnType = some ty) (hn : narrow ty (.int v) = .int v) (hP : va_P D vwCl (wl ad PL (ent ca ad w)) H) (hS : va_S A s.heap H locs) (hw : w = w') (hv : v = r) (hdg : decode cc pc = .ok (.ireturn, 1)) :
    W p l e R s m args below meth c H locs 0 0 (MQ below (qcR D ca ad PL Z A w' (some (.int r))) args s 0 0 A) (F0 m pc ls [.int v]) := by
  subst hw; subst hv
  exact W.zret C.1 C.2.1 hr hn (fun t ht hW => ⟨⟨rfl, by rw [ht]; exact hP, va_K.moved hW.alike C.2.2.2.2.2.1, hz.2 s t C.2.2.2.2.2.2 hW (fun q9 h1 h2 => by rw [ht]; exact hS.2.1 q9 h1 h2) (by rw [ht]; exact hS.1)⟩, hS.F ht⟩) hS.2.2 hdg (hlocks := hlocks)
theorem kr_l {w' : Mem} {v r : Int64} (hz : stb A Z) (C : CX p s m args c cc own nL D ca Z) (hlocks : meth.locks = false) (hr : meth.sig.returnType = some .long) (hP : va_P D vwCl (wl ad PL (ent ca ad w)) H) (hS : va_S A s.heap H locs) (hw : w = w') (hv : v = r) (hdg : decode cc pc = .ok (.lreturn, 1)) :
    W p l e R s m args below meth c H locs 0 0 (MQ below (qcR D ca ad PL Z A w' (some (.long r))) args s 0 0 A) (F0 m pc ls [.long v]) := by
  subst hw; subst hv
  exact W.lret C.1 C.2.1 hr (fun t ht hW => ⟨⟨rfl, by rw [ht]; exact hP, va_K.moved hW.alike C.2.2.2.2.2.1, hz.2 s t C.2.2.2.2.2.2 hW (fun q9 h1 h2 => by rw [ht]; exact hS.2.1 q9 h1 h2) (by rw [ht]; exact hS.1)⟩, hS.F ht⟩) hS.2.2 hdg (hlocks := hlocks)
theorem nar_z {v : Int32} (h : v = 0 ∨ v = 1) : narrow .boolean (.int v) = .int v := by rcases h with rfl | rfl <;> rfl
theorem rp_get {ci cx i j idx : Nat} {Cn : String} {T : u_T} {Nf : Nat} {fs : List Value} {v : Value} (C : CX p s m args c cc own nL D ca Z) (hin : ∀ w ∈ u_ws Cn T Nf, w ∈ ALL) (hP : va_P D vwCl (wl ad PL (ent ca ad w)) H) (hp : (ci, i) ∈ PL) (hent : ent ca ad w ci i = .inr (cx, fs)) (hcl : vwCl[cx]? = some (Cn, T, Nf)) (hj : j < Nf) (hv : fs[j]? = some v)
    (hlk : Cond.fieldLink own idx (T j).1 (T j).2.1 (T j).2.2.1 ∈ ALL) (hdg : decode cc pc = .ok (.getfield idx, 3)) (kk : W p l e R s m args below meth c H locs cells slots Q (F0 m (pc + 3) ls (v :: rest))) : W p l e R s m args below meth c H locs cells slots Q (F0 m pc ls (.ref (ad ci i) :: rest)) := by
  obtain ⟨hx, hb, hml, hown, hts, hK, -⟩ := C
  obtain ⟨q0, -, hq⟩ := wl_at (ad := ad) (ent ca ad w) hp
  rw [hent] at hq
  exact va_get (D := D) (ci := cx) (v := v) (C := Cn) (T := T) (N := Nf) hx hb hts hin hown hK hP q0 hq hcl j hj (hts _ hlk) (fun _ h9 => h9) hv hdg kk
theorem rp_getN {ci cx i j idx : Nat} {Cn host : String} {T : u_T} {Nf : Nat} {fs : List Value} {v : Value} (C : CX p s m args c cc own nL D ca Z) (hin : ∀ w ∈ u_ws Cn T Nf, w ∈ ALL) (hP : va_P D vwCl (wl ad PL (ent ca ad w)) H) (hp : (ci, i) ∈ PL) (hent : ent ca ad w ci i = .inr (cx, fs)) (hcl : vwCl[cx]? = some (Cn, T, Nf)) (hj : j < Nf) (hv : fs[j]? = some v)
    (hlk : (Cond.fieldLinkNest own idx (T j).1 (T j).2.1 (T j).2.2.1 host).before args s = true) (hdg : decode cc pc = .ok (.getfield idx, 3)) (kk : W p l e R s m args below meth c H locs cells slots Q (F0 m (pc + 3) ls (v :: rest))) : W p l e R s m args below meth c H locs cells slots Q (F0 m pc ls (.ref (ad ci i) :: rest)) := by
  obtain ⟨hx, hb, hml, hown, hts, hK, -⟩ := C
  obtain ⟨q0, -, hq⟩ := wl_at (ad := ad) (ent ca ad w) hp
  rw [hent] at hq
  exact va_getN (D := D) (ci := cx) (v := v) (C := Cn) (T := T) (N := Nf) hx hb hts hin hown hK hP q0 hq hcl j hj hlk (fun _ h9 => h9) hv hdg kk
theorem rp_put {ci cx i j idx : Nat} {Cn : String} {T : u_T} {Nf : Nat} {fs : List Value} {v : Value} {ty0 : Nat → FieldType} {w' : Mem} (C : CX p s m args c cc own nL D ca Z) (hin : ∀ w ∈ u_ws Cn T Nf, w ∈ ALL) (hty : ∀ k, k < Nf → parseFieldDescriptor (T k).2.2.1 = some (ty0 k)) (hnm : ∀ a, a < Nf → ∀ b, b < Nf → a ≠ b → (T a).2.1 ≠ (T b).2.1) (hRD : RD A ad PL) (hP : va_P D vwCl (wl ad PL (ent ca ad w)) H) (hS : va_S A H0 H locs) (hp : (ci, i) ∈ PL) (hent : ent ca ad w ci i = .inr (cx, fs)) (hcl : vwCl[cx]? = some (Cn, T, Nf)) (hj : j < Nf) (hjl : j < fs.length) (hfin : (T j).2.2.2 = false) (hn : narrow (ty0 j) v = v) (hfit : fits (ty0 j) v = true)
    (h1 : ent ca ad w' ci i = .inr (cx, fs.set j v)) (h2 : ∀ k' i', ¬ (k' = ci ∧ i' = i) → ent ca ad w' k' i' = ent ca ad w k' i')
    (hlk : Cond.fieldLink own idx (T j).1 (T j).2.1 (T j).2.2.1 ∈ ALL) (hdg : decode cc pc = .ok (.putfield idx, 3)) (kk : ∀ (H1 : Heap) (locs1 : List Loc), va_P D vwCl (wl ad PL (ent ca ad w')) H1 → va_S A H0 H1 locs1 → W p l e R s m args below meth c H1 locs1 cells slots Q (F0 m (pc + 3) ls rest)) : W p l e R s m args below meth c H locs cells slots Q (F0 m pc ls (v :: .ref (ad ci i) :: rest)) := by
  obtain ⟨hx, hb, hml, hown, hts, hK, -⟩ := C
  obtain ⟨q0, hq9, hq⟩ := wl_at (ad := ad) (ent ca ad w) hp
  rw [hent] at hq
  refine va_put (D := D) (ci := cx) (v := v) (ty := ty0 j) (C := Cn) (T := T) (N := Nf) hx hb hts hin ty0 hty hnm hown hK hP (wl_D _ hRD) hS q0 hq hcl j hj (hts _ hlk) (fun _ h9 => h9) hfin (hty j hj) hn hfit hjl hdg (fun H1 locs1 hP1 hD1 hS1 => ?_)
  rw [wl_set (e' := ent ca ad w') hRD.1 hq9 h1 h2] at hP1
  exact kk H1 locs1 hP1 hS1
theorem ent_off_F {ca : Nat → ClassId} {ad : Nat → Nat → Nat} {w : Mem} {k j i : Nat} {v : Int32} (k' i' : Nat) (h : ¬ (k' = k ∧ i' = i)) : ent ca ad (sF w k j i v) k' i' = ent ca ad w k' i' :=
  ent_congr ca ad (fun j' => by rw [gF_sF, if_neg (fun q => h ⟨q.1, q.2.2⟩)]) rfl rfl (fun _ => rfl)
theorem ent_off_A {ca : Nat → ClassId} {ad : Nat → Nat → Nat} {w : Mem} {k i : Nat} {f : Nat → Int32} (k' i' : Nat) (h : ¬ (k' = k ∧ i' = i)) : ent ca ad (sAf w k i f) k' i' = ent ca ad w k' i' :=
  ent_congr ca ad (fun _ => rfl) (by rw [gA_sAf, if_neg h]) rfl (fun _ => rfl)
theorem ent_off_L {ca : Nat → ClassId} {ad : Nat → Nat → Nat} {w : Mem} {k i : Nat} {f : Nat → Int64} (k' i' : Nat) (h : ¬ (k' = k ∧ i' = i)) : ent ca ad (sLf w k i f) k' i' = ent ca ad w k' i' :=
  ent_congr ca ad (fun _ => rfl) rfl (by rw [gL_sLf, if_neg h]) (fun _ => rfl)
theorem ent_off_R {ca : Nat → ClassId} {ad : Nat → Nat → Nat} {w : Mem} {k j i : Nat} {v : Nat} (k' i' : Nat) (h : ¬ (k' = k ∧ i' = i)) : ent ca ad (sR w k j i v) k' i' = ent ca ad w k' i' :=
  ent_congr ca ad (fun _ => rfl) rfl rfl (fun j' => by rw [gR_sR, if_neg (fun q => h ⟨q.1, q.2.2⟩)])
theorem ra_ild {k i n : Nat} {f : Nat → Int32} {x : Int32} (C : CX p s m args c cc own nL D ca Z) (hP : va_P D vwCl (wl ad PL (ent ca ad w)) H) (hp : (k, i) ∈ PL) (he : ent ca ad w k i = .inl (ca 0, n, .inl f)) (hin : inb x n = true) (hdg : decode cc pc = .ok (.iaload, 1))
    (kk : W p l e R s m args below meth c H locs cells slots Q (F0 m (pc + 1) ls (.int (f x.toNatClampNeg) :: rest))) : W p l e R s m args below meth c H locs cells slots Q (F0 m pc ls (.int x :: .ref (ad k i) :: rest)) := by
  obtain ⟨hx, hb, hml, hown, hts, hK, -⟩ := C
  obtain ⟨q0, -, hq⟩ := wl_at (ad := ad) (ent ca ad w) hp
  rw [he] at hq
  exact va_iald hx hb hK hP q0 0 hq rfl (inb_in hin) hdg kk
theorem ra_bld {k i n : Nat} {f : Nat → Int32} {x : Int32} (C : CX p s m args c cc own nL D ca Z) (hP : va_P D vwCl (wl ad PL (ent ca ad w)) H) (hp : (k, i) ∈ PL) (he : ent ca ad w k i = .inl (ca 1, n, .inl f)) (hin : inb x n = true) (hdg : decode cc pc = .ok (.baload, 1))
    (kk : W p l e R s m args below meth c H locs cells slots Q (F0 m (pc + 1) ls (.int (f x.toNatClampNeg) :: rest))) : W p l e R s m args below meth c H locs cells slots Q (F0 m pc ls (.int x :: .ref (ad k i) :: rest)) := by
  obtain ⟨hx, hb, hml, hown, hts, hK, -⟩ := C
  obtain ⟨q0, -, hq⟩ := wl_at (ad := ad) (ent ca ad w) hp
  rw [he] at hq
  exact va_bald hx hb hK hP q0 1 hq rfl (inb_in hin) hdg kk
theorem ra_lld {k i n : Nat} {f : Nat → Int64} {x : Int32} (C : CX p s m args c cc own nL D ca Z) (hP : va_P D vwCl (wl ad PL (ent ca ad w)) H) (hp : (k, i) ∈ PL) (he : ent ca ad w k i = .inl (ca 2, n, .inr (.inl f))) (hin : inb x n = true) (hdg : decode cc pc = .ok (.laload, 1))
    (kk : W p l e R s m args below meth c H locs cells slots Q (F0 m (pc + 1) ls (.long (f x.toNatClampNeg) :: rest))) : W p l e R s m args below meth c H locs cells slots Q (F0 m pc ls (.int x :: .ref (ad k i) :: rest)) := by
  obtain ⟨hx, hb, hml, hown, hts, hK, -⟩ := C
  obtain ⟨q0, -, hq⟩ := wl_at (ad := ad) (ent ca ad w) hp
  rw [he] at hq
  exact va_lald hx hb hK hP q0 2 hq rfl (inb_in hin) hdg kk
theorem ra_qld {k i n : Nat} {f : Nat → Nat} {x : Int32} (C : CX p s m args c cc own nL D ca Z) (hP : va_P D vwCl (wl ad PL (ent ca ad w)) H) (hp : (k, i) ∈ PL) (he : ent ca ad w k i = .inl (ca 3, n, .inr (.inr (.inr (.inr (fun j => some (f j))))))) (hin : inb x n = true) (hdg : decode cc pc = .ok (.aaload, 1))
    (kk : W p l e R s m args below meth c H locs cells slots Q (F0 m (pc + 1) ls (.ref (f x.toNatClampNeg) :: rest))) : W p l e R s m args below meth c H locs cells slots Q (F0 m pc ls (.int x :: .ref (ad k i) :: rest)) := by
  obtain ⟨hx, hb, hml, hown, hts, hK, -⟩ := C
  obtain ⟨q0, -, hq⟩ := wl_at (ad := ad) (ent ca ad w) hp
  rw [he] at hq
  exact va_aldq hx hb hK hP q0 3 hq rfl (inb_in hin) hdg kk
theorem ra_len {k i n : Nat} {q : ClassId} {x : (Nat → Int32) ⊕ (Nat → Int64) ⊕ (Nat → UInt32) ⊕ (Nat → UInt64) ⊕ (Nat → Option Nat)} {v : Int32} {ty : FieldType} {t0 : Nat} (C : CX p s m args c cc own nL D ca Z) (hP : va_P D vwCl (wl ad PL (ent ca ad w)) H) (hp : (k, i) ∈ PL) (he : ent ca ad w k i = .inl (q, n, x)) (ht : (tysA ca)[t0]? = some (q, ty)) (hv : Int32.ofNat n = v) (hdg : decode cc pc = .ok (.arraylength, 1))
    (kk : W p l e R s m args below meth c H locs cells slots Q (F0 m (pc + 1) ls (.int v :: rest))) : W p l e R s m args below meth c H locs cells slots Q (F0 m pc ls (.ref (ad k i) :: rest)) := by
  obtain ⟨hx, hb, hml, hown, hts, hK, -⟩ := C
  obtain ⟨q0, -, hq⟩ := wl_at (ad := ad) (ent ca ad w) hp
  rw [he] at hq
  exact va_alen hx hb hK hP q0 t0 hq ht hv hdg kk
theorem ra_ist {k i n : Nat} {x z : Int32} (C : CX p s m args c cc own nL D ca Z) (hRD : RD A ad PL) (hP : va_P D vwCl (wl ad PL (ent ca ad w)) H) (hS : va_S A H0 H locs) (hp : (k, i) ∈ PL) (he : ∀ u : Mem, ent ca ad u k i = .inl (ca 0, n, .inl (gA u k i))) (hin : inb x n = true) (hdg : decode cc pc = .ok (.iastore, 1))
    (kk : ∀ (H1 : Heap) (locs1 : List Loc), va_P D vwCl (wl ad PL (ent ca ad (sA w k i x.toNatClampNeg z))) H1 → va_S A H0 H1 locs1 → W p l e R s m args below meth c H1 locs1 cells slots Q (F0 m (pc + 1) ls rest)) : W p l e R s m args below meth c H locs cells slots Q (F0 m pc ls (.int z :: .int x :: .ref (ad k i) :: rest)) := by
  obtain ⟨hx, hb, hml, hown, hts, hK, -⟩ := C
  obtain ⟨q0, hq9, hq⟩ := wl_at (ad := ad) (ent ca ad w) hp
  rw [he w] at hq
  refine va_iast hx hb hK hP (wl_D _ hRD) hS q0 0 hq rfl (inb_in hin) hdg (fun H1 locs1 hP1 hD1 hS1 => ?_)
  rw [wl_set (e' := ent ca ad (sA w k i x.toNatClampNeg z)) hRD.1 hq9 (by rw [he]; unfold sA; rw [gA_sAf, if_pos ⟨rfl, rfl⟩]) (fun k' i' h => ent_off_A k' i' h)] at hP1
  exact kk H1 locs1 hP1 hS1
theorem ra_bst {k i n : Nat} {x z : Int32} (C : CX p s m args c cc own nL D ca Z) (hRD : RD A ad PL) (hP : va_P D vwCl (wl ad PL (ent ca ad w)) H) (hS : va_S A H0 H locs) (hp : (k, i) ∈ PL) (he : ∀ u : Mem, ent ca ad u k i = .inl (ca 1, n, .inl (gA u k i))) (hin : inb x n = true) (hdg : decode cc pc = .ok (.bastore, 1))
    (kk : ∀ (H1 : Heap) (locs1 : List Loc), va_P D vwCl (wl ad PL (ent ca ad (sA w k i x.toNatClampNeg (vp_nar .byte z)))) H1 → va_S A H0 H1 locs1 → W p l e R s m args below meth c H1 locs1 cells slots Q (F0 m (pc + 1) ls rest)) : W p l e R s m args below meth c H locs cells slots Q (F0 m pc ls (.int z :: .int x :: .ref (ad k i) :: rest)) := by
  obtain ⟨hx, hb, hml, hown, hts, hK, -⟩ := C
  obtain ⟨q0, hq9, hq⟩ := wl_at (ad := ad) (ent ca ad w) hp
  rw [he w] at hq
  refine va_bast hx hb hK hP (wl_D _ hRD) hS q0 1 hq rfl (inb_in hin) hdg (fun H1 locs1 hP1 hD1 hS1 => ?_)
  rw [wl_set (e' := ent ca ad (sA w k i x.toNatClampNeg (vp_nar .byte z))) hRD.1 hq9 (by rw [he]; unfold sA; rw [gA_sAf, if_pos ⟨rfl, rfl⟩]) (fun k' i' h => ent_off_A k' i' h)] at hP1
  exact kk H1 locs1 hP1 hS1
theorem ra_lst {k i n : Nat} {x : Int32} {z : Int64} (C : CX p s m args c cc own nL D ca Z) (hRD : RD A ad PL) (hP : va_P D vwCl (wl ad PL (ent ca ad w)) H) (hS : va_S A H0 H locs) (hp : (k, i) ∈ PL) (he : ∀ u : Mem, ent ca ad u k i = .inl (ca 2, n, .inr (.inl (gL u k i)))) (hin : inb x n = true) (hdg : decode cc pc = .ok (.lastore, 1))
    (kk : ∀ (H1 : Heap) (locs1 : List Loc), va_P D vwCl (wl ad PL (ent ca ad (sL w k i x.toNatClampNeg z))) H1 → va_S A H0 H1 locs1 → W p l e R s m args below meth c H1 locs1 cells slots Q (F0 m (pc + 1) ls rest)) : W p l e R s m args below meth c H locs cells slots Q (F0 m pc ls (.long z :: .int x :: .ref (ad k i) :: rest)) := by
  obtain ⟨hx, hb, hml, hown, hts, hK, -⟩ := C
  obtain ⟨q0, hq9, hq⟩ := wl_at (ad := ad) (ent ca ad w) hp
  rw [he w] at hq
  refine va_last hx hb hK hP (wl_D _ hRD) hS q0 2 hq rfl (inb_in hin) hdg (fun H1 locs1 hP1 hD1 hS1 => ?_)
  rw [wl_set (e' := ent ca ad (sL w k i x.toNatClampNeg z)) hRD.1 hq9 (by rw [he]; unfold sL; rw [gL_sLf, if_pos ⟨rfl, rfl⟩]) (fun k' i' h => ent_off_L k' i' h)] at hP1
  exact kk H1 locs1 hP1 hS1
theorem km_min {idx : Nat} {x y : Int32} (C : CX p s m args c cc own nL D ca Z) (hsz : ls.size = nL) (hlk : Cond.methodLink own idx Lib.Math.min.name ∈ ALL) (hrm : 1 ≤ R.frames ∧ (rest.map fun v => v.category).sum + 13 ≤ R.locals) (hcs : cells ≤ R.cells ∧ slots ≤ R.slots) (hdg : decode cc pc = .ok (.invokestatic idx, 3))
    (kk : W p l e R s m args below meth c H locs cells slots Q (F0 m (pc + 3) ls (.int (if y < x then y else x) :: rest))) : W p l e R s m args below meth c H locs cells slots Q (F0 m pc ls (.int y :: .int x :: rest)) := by
  obtain ⟨hx, hb, hml, hown, hts, hK, -⟩ := C
  exact va_mmin hx hb (hml.trans hsz.symm) hown (hts _ hlk) (hts _ st_Lib_Math_min_name) (hts _ ini_java_lang_Math) (hts _ cd_Lib_Math_min_name) hrm.1 hrm.2 hcs.1 hcs.2 hdg kk
theorem km_max {idx : Nat} {x y : Int32} (C : CX p s m args c cc own nL D ca Z) (hsz : ls.size = nL) (hlk : Cond.methodLink own idx Lib.Math.max.name ∈ ALL) (hrm : 1 ≤ R.frames ∧ (rest.map fun v => v.category).sum + 13 ≤ R.locals) (hcs : cells ≤ R.cells ∧ slots ≤ R.slots) (hdg : decode cc pc = .ok (.invokestatic idx, 3))
    (kk : W p l e R s m args below meth c H locs cells slots Q (F0 m (pc + 3) ls (.int (if x < y then y else x) :: rest))) : W p l e R s m args below meth c H locs cells slots Q (F0 m pc ls (.int y :: .int x :: rest)) := by
  obtain ⟨hx, hb, hml, hown, hts, hK, -⟩ := C
  exact va_mmax hx hb (hml.trans hsz.symm) hown (hts _ hlk) (hts _ st_Lib_Math_max_name) (hts _ ini_java_lang_Math) (hts _ cd_Lib_Math_max_name) hrm.1 hrm.2 hcs.1 hcs.2 hdg kk
theorem km_copy {idx k i k0 i0 n0 n1 : Nat} {sp dp n : Int32} (C : CX p s m args c cc own nL D ca Z) (hsz : ls.size = nL) (hRD : RD A ad PL) (hP : va_P D vwCl (wl ad PL (ent ca ad w)) H) (hS : va_S A H0 H locs) (hp0 : (k0, i0) ∈ PL) (hp : (k, i) ∈ PL) (he0 : ent ca ad w k0 i0 = .inl (ca 0, n0, .inl (gA w k0 i0))) (he : ∀ u : Mem, ent ca ad u k i = .inl (ca 0, n1, .inl (gA u k i))) (hlk : Cond.methodLink own idx arraycopyName ∈ ALL)
    (h1 : ¬ sp < 0) (h2 : ¬ dp < 0) (h3 : ¬ n < 0) (h4 : sp.toNatClampNeg + n.toNatClampNeg ≤ n0) (h5 : dp.toNatClampNeg + n.toNatClampNeg ≤ n1)
    (hrm : 1 ≤ R.frames ∧ (rest.map fun v => v.category).sum + (nativeFrameWords "java/lang/System" "arraycopy" 5 + 11) ≤ R.locals) (hdg : decode cc pc = .ok (.invokestatic idx, 3))
    (kk : ∀ (H1 : Heap) (locs1 : List Loc), va_P D vwCl (wl ad PL (ent ca ad (sAf w k i (va_cpy (gA w k0 i0) (gA w k i) sp.toNatClampNeg dp.toNatClampNeg n.toNatClampNeg)))) H1 → va_S A H0 H1 locs1 → W p l e R s m args below meth c H1 locs1 cells slots Q (F0 m (pc + 3) ls rest)) : W p l e R s m args below meth c H locs cells slots Q (F0 m pc ls (.int n :: .int dp :: .ref (ad k i) :: .int sp :: .ref (ad k0 i0) :: rest)) := by
  obtain ⟨hx, hb, hml, hown, hts, hK, -⟩ := C
  obtain ⟨q0, -, hq0⟩ := wl_at (ad := ad) (ent ca ad w) hp0
  obtain ⟨q1, hq9, hq1⟩ := wl_at (ad := ad) (ent ca ad w) hp
  rw [he0] at hq0
  rw [he w] at hq1
  refine va_copyi hx hb (hml.trans hsz.symm) hown (hts _ hlk) (hts _ na_arraycopyName) (hts _ st_arraycopyName) (hts _ ini_java_lang_System) hK hP (wl_D _ hRD) hS q0 q1 0 0 hq0 hq1 rfl rfl rfl h1 h2 h3 h4 h5 (fun _ _ => rfl) hrm.1 hrm.2 hdg (fun H1 locs1 hP1 hD1 hS1 => ?_)
  rw [wl_set (e' := ent ca ad (sAf w k i (va_cpy (gA w k0 i0) (gA w k i) sp.toNatClampNeg dp.toNatClampNeg n.toNatClampNeg))) hRD.1 hq9 (by rw [he, gA_sAf, if_pos ⟨rfl, rfl⟩]) (fun k' i' h => ent_off_A k' i' h)] at hP1
  exact kk H1 locs1 hP1 hS1
end FR
/-! the law's own end -/
def A0s (s : State) : Nat → Prop := fun q => s.heap.size ≤ q
def LZ (below : List Frame) (a : Array Value) (s : State) : State → Prop := fun t => ∃ o, t.status = .running ∧ Ended t below o ∧ (o = .returned (some (.int 1)) ∧ Framed s o t [] 600000 7302250)
theorem law_end {p : Program} {l : Launch} {e : Env} {s : State} {m : MethodId} {below : List Frame} {meth : Method} {c : Code} {b : Nat} (hx : p.tables.exec = Jvm.exec) (hb : c.code = code) (hr : meth.sig.returnType = ret) (hlocks : meth.locks = false) {pc : Nat} {H : Heap} {ls : Array Slot} (hdg : decode code pc = .ok (.ireturn, 1)) : W p l e room_1 s m #[Value.ref b] below meth c H [] 600000 7302250 (LZ below #[Value.ref b] s) (F0 m pc ls [.int 1]) := by
  intro T hT X
  obtain ⟨fs, hret, hrun, hended, hW, hframe⟩ := X.leave (v := some (.int 1)) (hlocks := hlocks) (fun h => by rw [hr] at h; cases h)
  have hmeth' : T.vm.method? m = some meth := X.method'
  refine ⟨T.setFrames fs, ?_, .returned (some (.int 1)), hrun, hended, rfl, ⟨_, rfl⟩, hW, hframe⟩
  jvm_step X.here [X.here.top, hx, hb, hdg, hmeth', hr, ret, narrow_b1]
  (try refine ⟨rfl, ?_⟩); (try refine ⟨rfl, ?_⟩)
  first | (intro acts; rw [hret _ acts rfl rfl rfl]) | rw [hret _ _ rfl rfl rfl]
  exact Steps.refl _
theorem law_fin {p : Program} {l : Launch} {e : Env} {s : State} {m : MethodId} {below : List Frame} {meth : Method} {c : Code} {b : Nat} (hx : p.tables.exec = Jvm.exec) (hb : c.code = code) (hr : meth.sig.returnType = ret) (hlocks : meth.locks = false) {pc : Nat} {H : Heap} {locs : List Loc} {ls : Array Slot} {v : Int32} (hS : va_S (A0s s) s.heap H locs) (hv : v = 1) (hdg : decode code pc = .ok (.ireturn, 1)) : W p l e room_1 s m #[Value.ref b] below meth c H locs 600000 7302250 (LZ below #[Value.ref b] s) (F0 m pc ls [.int v]) := by
  subst hv
  exact va_forget (fun q hq => hS.2.2 q hq) (law_end hx hb hr hlocks hdg)
def WPL (p : Program) (l : Launch) (e : Env) (s : State) (m : MethodId) (b : Nat) (below : List Frame) (meth : Method) (c : Code) (D : va_G) (ca : Nat → ClassId) (ad : Nat → Nat → Nat) (PL : List (Nat × Nat)) (pc : Nat) (st : List Value) (lv : List (Nat × Value)) (w : Mem) : Prop :=
  ∀ (H : Heap) (locs : List Loc) (ls : Array Slot), va_P D vwCl (wl ad PL (ent ca ad w)) H → va_S (A0s s) s.heap H locs → lv_has ls 14 lv → W p l e room_1 s m #[.ref b] below meth c H locs 600000 7302250 (LZ below #[.ref b] s) (F0 m pc ls st)
def bX (k : Nat) : Nat := match k with
  | 0 => 1
  | 1 => 2
  | 2 => 2
  | 3 => 17
  | 4 => 1
  | 6 => 1
  | 7 => 2
  | 8 => 1
  | 10 => 1
  | 11 => 1
  | 12 => 1
  | 13 => 2
  | 14 => 2
  | 15 => 2
  | 16 => 2
  | 17 => 2
  | 18 => 2
  | 19 => 2
  | 20 => 2
  | 21 => 2
  | 22 => 2
  | 23 => 2
  | 24 => 2
  | 25 => 17
  | 26 => 1
  | 27 => 1
  | 28 => 1
  | 30 => 1
  | 31 => 2
  | 32 => 2
  | 33 => 2
  | 34 => 2
  | 35 => 2
  | 36 => 2
  | 37 => 2
  | 38 => 2
  | 39 => 2
  | _ => 0
def bR (k : Nat) : Nat := match k with
  | 0 => 1
  | 1 => 2
  | 2 => 2
  | 3 => 17
  | 4 => 1
  | 5 => 1
  | 6 => 1
  | 7 => 2
  | 8 => 1
  | 10 => 1
  | 11 => 1
  | 12 => 1
  | 13 => 2
  | 14 => 2
  | 15 => 2
  | 16 => 2
  | 17 => 2
  | 18 => 2
  | 19 => 2
  | 20 => 2
  | 21 => 2
  | 22 => 2
  | 23 => 2
  | 24 => 2
  | 25 => 17
  | 26 => 1
  | 27 => 1
  | 28 => 1
  | 29 => 1
  | 30 => 1
  | 31 => 2
  | 32 => 2
  | 33 => 2
  | 34 => 2
  | 35 => 2
  | 36 => 2
  | 37 => 2
  | 38 => 2
  | 39 => 2
  | _ => 0
def bM (k : Nat) : Nat := match k with
  | 0 => 1
  | 1 => 2
  | 2 => 2
  | 3 => 17
  | 4 => 1
  | 6 => 1
  | 7 => 2
  | 8 => 1
  | 9 => 1
  | 10 => 1
  | 11 => 1
  | 12 => 1
  | 13 => 2
  | 14 => 2
  | 15 => 2
  | 16 => 2
  | 17 => 2
  | 18 => 2
  | 19 => 2
  | 20 => 2
  | 21 => 2
  | 22 => 2
  | 23 => 2
  | 24 => 2
  | 25 => 17
  | 26 => 1
  | 27 => 1
  | 28 => 1
  | 30 => 1
  | 31 => 2
  | 32 => 2
  | 33 => 2
  | 34 => 2
  | 35 => 2
  | 36 => 2
  | 37 => 2
  | 38 => 2
  | 39 => 2
  | 40 => 1
  | 41 => 1
  | 42 => 1
  | 43 => 1
  | 44 => 1
  | 45 => 1
  | 46 => 1
  | _ => 0
