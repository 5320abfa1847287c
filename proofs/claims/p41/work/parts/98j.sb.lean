/-! StringBuilder: a small world of its own; the JDK's methods by contract over it -/
section SBX
variable {p : Program} {l : Launch} {e : Env} {R : Room} {s : State} {m : MethodId} {args : Array Value} {below : List Frame} {meth : Method} {c : Code} {H : Heap} {locs : List Loc} {cells slots : Nat} {Q : State → Prop}
variable {cc : ByteArray} {pc : Nat} {ls : Array Slot} {rest : List Value} {own : String} {nL : Nat} {D : va_G} {ca : Nat → ClassId} {A : Nat → Prop} {Z : State → Prop} {H0 : Heap} {Wd : va_W} {post : Option Value → va_W → Prop}
def RB (D : va_G) (ca : Nat → ClassId) (Z : State → Prop) (A : Nat → Prop) (Wd : va_W) (U : State) : Prop := va_P D vwCl Wd U.heap ∧ va_K D vwCl (tysA ca) U ∧ Z U ∧ ∀ q : Nat, U.heap.size ≤ q → A q
def qcB (D : va_G) (A : Nat → Prop) (post : Option Value → va_W → Prop) : Array Value → State → Outcome → State → Prop := fun _ st o t => (∃ (rv : Option Value) (Wd' : va_W), o = .returned rv ∧ post rv Wd' ∧ va_D A Wd' ∧ va_P D vwCl Wd' t.heap) ∧ va_F A st t
def CB (l : Launch) (y : MethodName) (ws : List Cond) (rm : Room) (D : va_G) (ca : Nat → ClassId) (Z : State → Prop) (A : Nat → Prop) (av : List Value) (Wd : va_W) (post : Option Value → va_W → Prop) (mc ms : Nat) : Prop :=
  va_D A Wd → Met l y ws rm (va_Pc av (RB D ca Z A Wd)) (qcB D A post) mc ms A
theorem rb_blind {av : List Value} (hz : stb A Z) : FrameBlind (va_Pc av (RB D ca Z A Wd)) := fun a U g mk q => ⟨q.1, q.2.1, va_K.moved (u := U) (U := U.calling g mk a) (Vm.Alike.refl U.vm) q.2.2.1, hz.1 U g mk a q.2.2.2.1, q.2.2.2.2⟩
theorem rb_pre (hz : stb A Z) (hP : va_P D vwCl Wd H) (hK : va_K D vwCl (tysA ca) s) (hZ : Z s) (hS : va_S A s.heap H locs) (hA : ∀ q : Nat, s.heap.size ≤ q → A q) {av : List Value} : ∀ U : State, U.heap = H → s.WarmedH U.vm → va_Pc av (RB D ca Z A Wd) av.toArray U := fun U hU hWm => ⟨rfl, by rw [hU]; exact hP, va_K.moved hWm.alike hK, hz.2 s U hZ hWm (fun q9 h1 h2 => by rw [hU]; exact hS.2.1 q9 h1 h2) (by rw [hU]; exact hS.1), fun q hq => hA q (Nat.le_trans hS.1 (by rw [← hU]; exact hq))⟩
theorem kb_go {mc ms : Nat} {st0 : List Value} {a : Array Value} (hr : va_Run p l e R s m args below meth c H locs cells slots mc ms (F0 m pc ls st0) rest (qcB D A post a) A) (hS : va_S A H0 H locs)
    (kk : ∀ (rv : Option Value) (Wd' : va_W) (H1 : Heap) (locs1 : List Loc), post rv Wd' → va_D A Wd' → va_P D vwCl Wd' H1 → va_S A H0 H1 locs1 → W p l e R s m args below meth c H1 locs1 (cells + mc) (slots + ms) Q (F0 m (pc + 3) ls (rv.toList ++ rest))) : W p l e R s m args below meth c H locs cells slots Q (F0 m pc ls st0) := by
  intro T hT X
  obtain ⟨v, st₀, t, T', L, h0, X', hL, e1, e2, ⟨⟨rv, Wd', hv, hp, hD1, hP1⟩, hz, hk⟩, st⟩ := hr T hT X
  cases hv
  rw [h0] at hz hk
  obtain ⟨t2, a1, b1⟩ := kk _ Wd' T'.heap (locs ++ L) hp hD1 (by rw [e1]; exact hP1)
    ⟨Nat.le_trans hS.1 (by rw [e1]; exact hz), fun q h1 h2 => by rw [e1, hk q (Nat.lt_of_lt_of_le h1 hS.1) h2]; exact hS.2.1 q h1 h2, fun q hq => by
      rcases List.mem_append.mp hq with h | h
      · exact hS.2.2 q h
      · exact hL q h⟩ T' rfl X'
  exact ⟨t2, st t2 a1, b1⟩
/-- a method of the object's own class -/
theorem kb_V {y : MethodName} {bytes : ByteArray} {maxL n idx mc ms j : Nat} {ret : Option FieldType} {rm : Room} {a0 cx : Nat} {fs : List Value} {q : vw_C} {As st0 : List Value}
    (hz : stb A Z) (hA : ∀ q : Nat, s.heap.size ≤ q → A q) (C : CX p s m args c cc own nL D ca Z) (hP : va_P D vwCl Wd H) (hD : va_D A Wd) (hS : va_S A s.heap H locs) (hsz : ls.size = nL) (hj : Wd[j]? = some (a0, .inr (cx, fs))) (hcl : vwCl[cx]? = some q)
    (cw : CW q.1 y bytes maxL ret n) (hlk : Cond.methodLink own idx y ∈ ALL) (hM : CB l y (wsy y bytes maxL ret) rm D ca Z A (.ref a0 :: As) Wd post mc ms) (hn : As.length = n)
    (hrc : rm.cells = mc ∧ rm.slots = ms) (hrm : rm.frames + 1 ≤ R.frames ∧ 8 + (maxL + 11) + rm.locals ≤ R.locals) (hcs : cells + mc ≤ R.cells ∧ slots + ms ≤ R.slots) (hW : (rest.map fun v => v.category).sum ≤ 8)
    (hst : st0 = As.reverse ++ .ref a0 :: rest) (hdg : decode cc pc = .ok (.invokevirtual idx, 3))
    (kk : ∀ (rv : Option Value) (Wd' : va_W) (H1 : Heap) (locs1 : List Loc), post rv Wd' → va_D A Wd' → va_P D vwCl Wd' H1 → va_S A s.heap H1 locs1 → W p l e R s m args below meth c H1 locs1 (cells + mc) (slots + ms) Q (F0 m (pc + 3) ls (rv.toList ++ rest))) : W p l e R s m args below meth c H locs cells slots Q (F0 m pc ls st0) := by
  obtain ⟨hx, hb, hml, hown, hts, hK, hZ⟩ := C
  exact kb_go (va_runV (C := q.1) (b := a0) (As := As) (g := F0 m pc ls st0) ⟨hx, hb, hml, hown, hts⟩ (hM hD) (cwV n hts (gdV cw hlk) rfl hrc.1 hrc.2 cw.2.2.2.2 hrm) ⟨rb_blind hz, va_recv hK hP hcl hj, rb_pre hz hP hK hZ hS hA⟩ rfl hn hsz hst (by simpa [JFrame.monitorRoom] using hW) hdg hcs) hS kk
/-- the receiver may lie outside -/
theorem kb_VR {y : MethodName} {bytes : ByteArray} {maxL n idx mc ms : Nat} {ret : Option FieldType} {rm : Room} {a0 : Nat} {Cn : String} {As st0 : List Value}
    (hz : stb A Z) (hA : ∀ q : Nat, s.heap.size ≤ q → A q) (C : CX p s m args c cc own nL D ca Z) (hP : va_P D vwCl Wd H) (hD : va_D A Wd) (hS : va_S A s.heap H locs) (hsz : ls.size = nL) (hrecv : ∃ cell : Cell, H[a0]? = some cell ∧ cell.vm.isStatics = false ∧ s.vm.findClass Cn = some cell.cls)
    (cw : CW Cn y bytes maxL ret n) (hlk : Cond.methodLink own idx y ∈ ALL) (hM : CB l y (wsy y bytes maxL ret) rm D ca Z A (.ref a0 :: As) Wd post mc ms) (hn : As.length = n)
    (hrc : rm.cells = mc ∧ rm.slots = ms) (hrm : rm.frames + 1 ≤ R.frames ∧ 8 + (maxL + 11) + rm.locals ≤ R.locals) (hcs : cells + mc ≤ R.cells ∧ slots + ms ≤ R.slots) (hW : (rest.map fun v => v.category).sum ≤ 8)
    (hst : st0 = As.reverse ++ .ref a0 :: rest) (hdg : decode cc pc = .ok (.invokevirtual idx, 3))
    (kk : ∀ (rv : Option Value) (Wd' : va_W) (H1 : Heap) (locs1 : List Loc), post rv Wd' → va_D A Wd' → va_P D vwCl Wd' H1 → va_S A s.heap H1 locs1 → W p l e R s m args below meth c H1 locs1 (cells + mc) (slots + ms) Q (F0 m (pc + 3) ls (rv.toList ++ rest))) : W p l e R s m args below meth c H locs cells slots Q (F0 m pc ls st0) := by
  obtain ⟨hx, hb, hml, hown, hts, hK, hZ⟩ := C
  exact kb_go (va_runV (C := Cn) (b := a0) (As := As) (g := F0 m pc ls st0) ⟨hx, hb, hml, hown, hts⟩ (hM hD) (cwV n hts (gdV cw hlk) rfl hrc.1 hrc.2 cw.2.2.2.2 hrm) ⟨rb_blind hz, hrecv, rb_pre hz hP hK hZ hS hA⟩ rfl hn hsz hst (by simpa [JFrame.monitorRoom] using hW) hdg hcs) hS kk
/-- what the words of an inherited method's call must be -/
def CU (C owner : String) (x y : MethodName) (bytes : ByteArray) (maxL : Nat) (ret : Option FieldType) (n : Nat) : Prop :=
  Cond.sameMethod x.cls owner x.name x.desc ∈ ALL ∧ Cond.selects C x y ∈ ALL ∧ Cond.instanceMethod y ∈ ALL ∧ Cond.initialized y.cls ∈ ALL ∧ Cond.code y bytes maxL ret ∈ ALL ∧ (owner ≠ "java/lang/invoke/MethodHandle" ∧ owner ≠ "java/lang/invoke/VarHandle" ∧ (parseMethodDescriptor x.desc).map (fun d => d.parameters.length) = some n)
theorem gdU {own C owner : String} {idx : Nat} {x y : MethodName} {bytes : ByteArray} {maxL n : Nat} {ret : Option FieldType} (cw : CU C owner x y bytes maxL ret n) (hlk : Cond.methodLink own idx x ∈ ALL) : GoodIn ALL (va_wsU own idx C owner x y (wsy y bytes maxL ret)) := by
  intro w h
  have hm : w ∈ ALL := by
    simp only [va_wsU, wsy, List.cons_append, List.nil_append, List.mem_cons] at h
    rcases h with rfl | rfl | rfl | rfl | rfl | rfl | h
    · exact hlk
    · exact cw.1
    · exact cw.2.1
    · exact cw.2.2.1
    · exact cw.2.2.2.1
    · exact cw.2.2.2.2.1
    · exact h
  exact ⟨hm, ALL_gd w hm⟩
theorem gdO {own C owner : String} {idx : Nat} {x y : MethodName} {bytes : ByteArray} {maxL n : Nat} {ret : Option FieldType} (cw : CU C owner x y bytes maxL ret n) (hlk : Cond.methodLink own idx x ∈ ALL) (hi : Cond.instanceMethod ⟨owner, x.name, x.desc⟩ ∈ ALL) : GoodIn ALL (va_wsO own idx C owner x y (wsy y bytes maxL ret)) := by
  intro w h
  have hm : w ∈ ALL := by
    simp only [va_wsO, wsy, List.cons_append, List.nil_append, List.mem_cons] at h
    rcases h with rfl | rfl | rfl | rfl | rfl | rfl | rfl | h
    · exact hlk
    · exact cw.1
    · exact hi
    · exact cw.2.1
    · exact cw.2.2.1
    · exact cw.2.2.2.1
    · exact cw.2.2.2.2.1
    · exact h
  exact ⟨hm, ALL_gd w hm⟩
/-- an inherited method -/
theorem kb_U {x y : MethodName} {owner : String} {bytes : ByteArray} {maxL n idx mc ms j : Nat} {ret : Option FieldType} {rm : Room} {a0 cx : Nat} {fs : List Value} {q : vw_C} {As st0 : List Value}
    (hz : stb A Z) (hA : ∀ q : Nat, s.heap.size ≤ q → A q) (C : CX p s m args c cc own nL D ca Z) (hP : va_P D vwCl Wd H) (hD : va_D A Wd) (hS : va_S A s.heap H locs) (hsz : ls.size = nL) (hj : Wd[j]? = some (a0, .inr (cx, fs))) (hcl : vwCl[cx]? = some q)
    (cw : CU q.1 owner x y bytes maxL ret n) (hyx : y = ⟨owner, x.name, x.desc⟩) (hlk : Cond.methodLink own idx x ∈ ALL) (hM : CB l y (wsy y bytes maxL ret) rm D ca Z A (.ref a0 :: As) Wd post mc ms) (hn : As.length = n)
    (hrc : rm.cells = mc ∧ rm.slots = ms) (hrm : rm.frames + 1 ≤ R.frames ∧ 8 + (maxL + 11) + rm.locals ≤ R.locals) (hcs : cells + mc ≤ R.cells ∧ slots + ms ≤ R.slots) (hW : (rest.map fun v => v.category).sum ≤ 8)
    (hst : st0 = As.reverse ++ .ref a0 :: rest) (hdg : decode cc pc = .ok (.invokevirtual idx, 3))
    (kk : ∀ (rv : Option Value) (Wd' : va_W) (H1 : Heap) (locs1 : List Loc), post rv Wd' → va_D A Wd' → va_P D vwCl Wd' H1 → va_S A s.heap H1 locs1 → W p l e R s m args below meth c H1 locs1 (cells + mc) (slots + ms) Q (F0 m (pc + 3) ls (rv.toList ++ rest))) : W p l e R s m args below meth c H locs cells slots Q (F0 m pc ls st0) := by
  obtain ⟨hx, hb, hml, hown, hts, hK, hZ⟩ := C
  exact kb_go (va_runU (C := q.1) (owner := owner) (x := x) (b := a0) (As := As) (g := F0 m pc ls st0) ⟨hx, hb, hml, hown, hts⟩ (hM hD) (va_cwU n hts (gdU cw hlk) rfl hrc.1 hrc.2 hyx cw.2.2.2.2.2 hrm) ⟨rb_blind hz, va_recv hK hP hcl hj, rb_pre hz hP hK hZ hS hA⟩ rfl hn hsz hst (by simpa [JFrame.monitorRoom] using hW) hdg hcs) hS kk
/-- a method that overrides the one that is named -/
theorem kb_O {x y : MethodName} {owner : String} {bytes : ByteArray} {maxL n idx mc ms j : Nat} {ret : Option FieldType} {rm : Room} {a0 cx : Nat} {fs : List Value} {q : vw_C} {As st0 : List Value} {b1 : ByteArray} {m1 : Nat} {r1 : Option FieldType}
    (hz : stb A Z) (hA : ∀ q : Nat, s.heap.size ≤ q → A q) (C : CX p s m args c cc own nL D ca Z) (hP : va_P D vwCl Wd H) (hD : va_D A Wd) (hS : va_S A s.heap H locs) (hsz : ls.size = nL) (hj : Wd[j]? = some (a0, .inr (cx, fs))) (hcl : vwCl[cx]? = some q)
    (cw : CU q.1 owner x y bytes maxL ret n) (hi : Cond.instanceMethod ⟨owner, x.name, x.desc⟩ ∈ ALL) (h0 : Cond.code ⟨owner, x.name, x.desc⟩ b1 m1 r1 ∈ ALL) (hlk : Cond.methodLink own idx x ∈ ALL) (hM : CB l y (wsy y bytes maxL ret) rm D ca Z A (.ref a0 :: As) Wd post mc ms) (hn : As.length = n)
    (hrc : rm.cells = mc ∧ rm.slots = ms) (hrm : rm.frames + 1 ≤ R.frames ∧ 8 + (maxL + 11) + rm.locals ≤ R.locals) (hcs : cells + mc ≤ R.cells ∧ slots + ms ≤ R.slots) (hW : (rest.map fun v => v.category).sum ≤ 8)
    (hst : st0 = As.reverse ++ .ref a0 :: rest) (hdg : decode cc pc = .ok (.invokevirtual idx, 3))
    (kk : ∀ (rv : Option Value) (Wd' : va_W) (H1 : Heap) (locs1 : List Loc), post rv Wd' → va_D A Wd' → va_P D vwCl Wd' H1 → va_S A s.heap H1 locs1 → W p l e R s m args below meth c H1 locs1 (cells + mc) (slots + ms) Q (F0 m (pc + 3) ls (rv.toList ++ rest))) : W p l e R s m args below meth c H locs cells slots Q (F0 m pc ls st0) := by
  obtain ⟨hx, hb, hml, hown, hts, hK, hZ⟩ := C
  exact kb_go (va_runU (C := q.1) (owner := owner) (x := x) (b := a0) (As := As) (g := F0 m pc ls st0) ⟨hx, hb, hml, hown, hts⟩ (hM hD) (va_cwO n hts (gdO cw hlk hi) rfl hrc.1 hrc.2 h0 cw.2.2.2.2.2 hrm) ⟨rb_blind hz, va_recv hK hP hcl hj, rb_pre hz hP hK hZ hS hA⟩ rfl hn hsz hst (by simpa [JFrame.monitorRoom] using hW) hdg hcs) hS kk
def CSU (own : String) (y : MethodName) (bytes : ByteArray) (maxL : Nat) (ret : Option FieldType) (n : Nat) : Prop :=
  Cond.sameMethod y.cls y.cls y.name y.desc ∈ ALL ∧ Cond.superclass own y.cls ∈ ALL ∧ Cond.instanceMethod y ∈ ALL ∧ Cond.initialized y.cls ∈ ALL ∧ Cond.code y bytes maxL ret ∈ ALL ∧ (y.name ≠ "<init>" ∧ (parseMethodDescriptor y.desc).map (fun d => d.parameters.length) = some n)
theorem gdSU {own : String} {idx : Nat} {y : MethodName} {bytes : ByteArray} {maxL n : Nat} {ret : Option FieldType} (cw : CSU own y bytes maxL ret n) (hlk : Cond.methodLink own idx y ∈ ALL) : GoodIn ALL (va_wsSU own idx y (wsy y bytes maxL ret)) := by
  intro w h
  have hm : w ∈ ALL := by
    simp only [va_wsSU, wsy, List.cons_append, List.nil_append, List.mem_cons] at h
    rcases h with rfl | rfl | rfl | rfl | rfl | rfl | h
    · exact hlk
    · exact cw.1
    · exact cw.2.1
    · exact cw.2.2.1
    · exact cw.2.2.2.1
    · exact cw.2.2.2.2.1
    · exact h
  exact ⟨hm, ALL_gd w hm⟩
/-- the superclass's own method -/
theorem kb_SU {y : MethodName} {bytes : ByteArray} {maxL n idx mc ms j : Nat} {ret : Option FieldType} {rm : Room} {a0 cx : Nat} {fs : List Value} {q : vw_C} {As st0 : List Value}
    (hz : stb A Z) (hA : ∀ q : Nat, s.heap.size ≤ q → A q) (C : CX p s m args c cc own nL D ca Z) (hP : va_P D vwCl Wd H) (hD : va_D A Wd) (hS : va_S A s.heap H locs) (hsz : ls.size = nL) (hj : Wd[j]? = some (a0, .inr (cx, fs))) (hcl : vwCl[cx]? = some q)
    (cw : CSU own y bytes maxL ret n) (hlk : Cond.methodLink own idx y ∈ ALL) (hM : CB l y (wsy y bytes maxL ret) rm D ca Z A (.ref a0 :: As) Wd post mc ms) (hn : As.length = n)
    (hrc : rm.cells = mc ∧ rm.slots = ms) (hrm : rm.frames + 1 ≤ R.frames ∧ 8 + (maxL + 11) + rm.locals ≤ R.locals) (hcs : cells + mc ≤ R.cells ∧ slots + ms ≤ R.slots) (hW : (rest.map fun v => v.category).sum ≤ 8)
    (hst : st0 = As.reverse ++ .ref a0 :: rest) (hdg : decode cc pc = .ok (.invokespecial idx, 3))
    (kk : ∀ (rv : Option Value) (Wd' : va_W) (H1 : Heap) (locs1 : List Loc), post rv Wd' → va_D A Wd' → va_P D vwCl Wd' H1 → va_S A s.heap H1 locs1 → W p l e R s m args below meth c H1 locs1 (cells + mc) (slots + ms) Q (F0 m (pc + 3) ls (rv.toList ++ rest))) : W p l e R s m args below meth c H locs cells slots Q (F0 m pc ls st0) := by
  obtain ⟨hx, hb, hml, hown, hts, hK, hZ⟩ := C
  exact kb_go (va_runSU (C := q.1) (b := a0) (As := As) (g := F0 m pc ls st0) ((hK.1 cx q hcl).2) ⟨hx, hb, hml, hown, hts⟩ (hM hD) (va_cwSU n hts (gdSU cw hlk) rfl hrc.1 hrc.2 cw.2.2.2.2.2 hrm) ⟨rb_blind hz, va_recv hK hP hcl hj, rb_pre hz hP hK hZ hS hA⟩ rfl hn hsz hst (by simpa [JFrame.monitorRoom] using hW) hdg hcs) hS kk
theorem kb_S {y : MethodName} {bytes : ByteArray} {maxL n idx mc ms : Nat} {ret : Option FieldType} {rm : Room} {As st0 : List Value}
    (hz : stb A Z) (hA : ∀ q : Nat, s.heap.size ≤ q → A q) (C : CX p s m args c cc own nL D ca Z) (hP : va_P D vwCl Wd H) (hD : va_D A Wd) (hS : va_S A s.heap H locs) (hsz : ls.size = nL)
    (cw : CS y bytes maxL ret n) (hlk : Cond.methodLink own idx y ∈ ALL) (hM : CB l y (wsy y bytes maxL ret) rm D ca Z A As Wd post mc ms) (hn : As.length = n)
    (hrc : rm.cells = mc ∧ rm.slots = ms) (hrm : rm.frames + 1 ≤ R.frames ∧ 8 + (maxL + 11) + rm.locals ≤ R.locals) (hcs : cells + mc ≤ R.cells ∧ slots + ms ≤ R.slots) (hW : (rest.map fun v => v.category).sum ≤ 8)
    (hst : st0 = As.reverse ++ rest) (hdg : decode cc pc = .ok (.invokestatic idx, 3))
    (kk : ∀ (rv : Option Value) (Wd' : va_W) (H1 : Heap) (locs1 : List Loc), post rv Wd' → va_D A Wd' → va_P D vwCl Wd' H1 → va_S A s.heap H1 locs1 → W p l e R s m args below meth c H1 locs1 (cells + mc) (slots + ms) Q (F0 m (pc + 3) ls (rv.toList ++ rest))) : W p l e R s m args below meth c H locs cells slots Q (F0 m pc ls st0) := by
  obtain ⟨hx, hb, hml, hown, hts, hK, hZ⟩ := C
  exact kb_go (va_runS (As := As) (g := F0 m pc ls st0) ⟨hx, hb, hml, hown, hts⟩ (hM hD) (va_cwS n hts (gdS cw hlk) rfl hrc.1 hrc.2 cw.2.2.2 hrm) ⟨rb_blind hz, rb_pre hz hP hK hZ hS hA⟩ rfl hn hsz hst (by simpa [JFrame.monitorRoom] using hW) hdg hcs) hS kk
/-- a constructor, on an object that is there -/
theorem kb_I {y : MethodName} {bytes : ByteArray} {maxL n idx mc ms : Nat} {rm : Room} {a0 : Nat} {As st0 : List Value}
    (hz : stb A Z) (hA : ∀ q : Nat, s.heap.size ≤ q → A q) (C : CX p s m args c cc own nL D ca Z) (hP : va_P D vwCl Wd H) (hD : va_D A Wd) (hS : va_S A s.heap H locs) (hsz : ls.size = nL)
    (w3 : Cond.initialized y.cls ∈ ALL) (w4 : Cond.instanceMethod y ∈ ALL) (w5 : Cond.code y bytes maxL none ∈ ALL) (hyn : y.name = "<init>") (hd : y.cls ≠ "java/lang/invoke/MethodHandle" ∧ y.cls ≠ "java/lang/invoke/VarHandle" ∧ (parseMethodDescriptor y.desc).map (fun d => d.parameters.length) = some n) (hlk : Cond.methodLink own idx y ∈ ALL) (hM : CB l y (wsy y bytes maxL none) rm D ca Z A (.ref a0 :: As) Wd post mc ms) (hn : As.length = n)
    (hrc : rm.cells = mc ∧ rm.slots = ms) (hrm : rm.frames + 1 ≤ R.frames ∧ 8 + (maxL + 11) + rm.locals ≤ R.locals) (hcs : cells + mc ≤ R.cells ∧ slots + ms ≤ R.slots) (hW : (rest.map fun v => v.category).sum ≤ 8)
    (hst : st0 = As.reverse ++ .ref a0 :: rest) (hdg : decode cc pc = .ok (.invokespecial idx, 3))
    (kk : ∀ (rv : Option Value) (Wd' : va_W) (H1 : Heap) (locs1 : List Loc), post rv Wd' → va_D A Wd' → va_P D vwCl Wd' H1 → va_S A s.heap H1 locs1 → W p l e R s m args below meth c H1 locs1 (cells + mc) (slots + ms) Q (F0 m (pc + 3) ls (rv.toList ++ rest))) : W p l e R s m args below meth c H locs cells slots Q (F0 m pc ls st0) := by
  obtain ⟨hx, hb, hml, hown, hts, hK, hZ⟩ := C
  have hGd : GoodIn ALL (wsy y bytes maxL none) := by
    intro w h
    have hm : w ∈ ALL := by
      rcases List.mem_cons.mp h with rfl | h
      · exact w5
      · exact h
    exact ⟨hm, ALL_gd w hm⟩
  exact kb_go (va_runI (b := a0) (As := As) (g := F0 m pc ls st0) ⟨hx, hb, hml, hown, hts⟩ (hM hD) (cwI n hts hGd rfl hrc.1 hrc.2 (hts _ w3) (hts _ hlk) (hts _ w4) hyn hd hrm) ⟨rb_blind hz, rb_pre hz hP hK hZ hS hA⟩ rfl hn hsz hst (by simpa [JFrame.monitorRoom] using hW) hdg hcs) hS kk
theorem stb_no (hz : stb A Z) : stb (fun _ => False) Z := ⟨hz.1, fun s U hZ hW hq hs => hz.2 s U hZ hW (fun q h1 _ => hq q h1 (fun z => z)) hs⟩
theorem STRZ.no {q : Nat} {b : List Int32} (h : STRZ A Z q b) : STRZ (fun _ => False) Z q b := by
  obtain ⟨h0, v, hv⟩ := h
  refine ⟨h0, v, fun U hU => ?_⟩
  obtain ⟨⟨h1, h2, h3, h4⟩, h5, h6⟩ := hv U hU
  have hn : ∀ q : Nat, False → A q := fun q z => z.elim
  exact ⟨⟨h1.narrow hn, h2.narrow hn, h3.narrow hn, h4.narrow hn⟩, h5.narrow hn, h6.narrow hn⟩
theorem okJ_no (hz : stb A Z) : okc bJ Z (fun _ => False) (fun _ _ => 0) [] := ⟨⟨List.nodup_nil, fun p h => absurd h List.not_mem_nil, fun p h => absurd h List.not_mem_nil⟩, fun k i hi => absurd hi (Nat.not_lt_zero _), stb_no hz, trivial⟩
/-- a method of a String that lies outside: nothing changes -/
theorem kb_K {y : MethodName} {bytes : ByteArray} {maxL n idx q : Nat} {ret : Option FieldType} {rm : Room} {b : List Int32} {As st0 : List Value} {rv : Option Value} {w : Mem}
    (hz : stb A Z) (C : CX p s m args c cc own nL D ca Z) (hP : va_P D vwCl Wd H) (hS : va_S A s.heap H locs) (hsz : ls.size = nL) (hq : STRZ A Z q b)
    (cw : CW RJ0 y bytes maxL ret n) (hlk : Cond.methodLink own idx y ∈ ALL) (hM : CT l y (wsy y bytes maxL ret) rm D ca (fun _ _ => 0) [] Z (fun _ => False) (.ref q :: As) w w rv) (hn : As.length = n)
    (hrc : rm.cells = 0 ∧ rm.slots = 0) (hrm : rm.frames + 1 ≤ R.frames ∧ 8 + (maxL + 11) + rm.locals ≤ R.locals) (hcs : cells ≤ R.cells ∧ slots ≤ R.slots) (hW : (rest.map fun v => v.category).sum ≤ 8)
    (hst : st0 = As.reverse ++ .ref q :: rest) (hdg : decode cc pc = .ok (.invokevirtual idx, 3))
    (kk : ∀ (H1 : Heap) (locs1 : List Loc), va_P D vwCl Wd H1 → va_S A s.heap H1 locs1 → W p l e R s m args below meth c H1 locs1 cells slots Q (F0 m (pc + 3) ls (rv.toList ++ rest))) : W p l e R s m args below meth c H locs cells slots Q (F0 m pc ls st0) := by
  obtain ⟨hx, hb, hml, hown, hts, hK, hZ⟩ := C
  have hr := va_runV (p := p) (e := e) (m := m) (below := below) (meth := meth) (R := R) (locs := locs) (cells := cells) (slots := slots) (H := H) (C := RJ0) (b := q) (As := As) (rest := rest) (g := F0 m pc ls st0) ⟨hx, hb, hml, hown, hts⟩ hM (cwV n hts (gdV cw hlk) rfl hrc.1 hrc.2 cw.2.2.2.2 hrm) ⟨rx_blind (stb_no hz), str_recv hq hZ hS, fun U hU hWm => ⟨rfl, (fun k q9 h9 => by cases h9), va_K.moved hWm.alike hK, hz.2 s U hZ hWm (fun q9 h1 h2 => by rw [hU]; exact hS.2.1 q9 h1 h2) (by rw [hU]; exact hS.1)⟩⟩ rfl hn hsz hst (by simpa [JFrame.monitorRoom] using hW) hdg hcs
  intro T hT X
  obtain ⟨v, st₀, t, T', L, h0, X', hL, e1, e2, ⟨⟨hv, -, -⟩, hz1, hk⟩, st⟩ := hr T hT X
  cases hv
  rw [h0] at hz1 hk
  obtain ⟨t2, a1, b1⟩ := kk T'.heap (locs ++ L) (by rw [e1]; exact hP.kept (fun k q9 hk9 => hk _ (hP k q9 hk9).lt (fun z => z)))
    ⟨Nat.le_trans hS.1 (by rw [e1]; exact hz1), fun q9 h1 h2 => by rw [e1, hk q9 (Nat.lt_of_lt_of_le h1 hS.1) (fun z => z)]; exact hS.2.1 q9 h1 h2, fun q9 hq9 => by
      rcases List.mem_append.mp hq9 with h | h
      · exact hS.2.2 q9 h
      · exact (hL q9 h).elim⟩ T' rfl X'
  exact ⟨t2, st t2 a1, b1⟩
/-- the end of a method over the small world -/
theorem kb_a {a0 : Nat} {rt : FieldType} {Wd' : va_W} {mc ms : Nat} (hx : p.tables.exec = Jvm.exec) (hb : c.code = cc) (hr : meth.sig.returnType = some rt) (hrt : (∃ n, rt = .object n) ∨ ∃ t, rt = .array t) (hlocks : meth.locks = false) (hP : va_P D vwCl Wd' H) (hD : va_D A Wd') (hS : va_S A s.heap H locs) (hc : cells ≤ mc) (hsl : slots ≤ ms) (hpost : post (some (.ref a0)) Wd') (hdg : decode cc pc = .ok (.areturn, 1)) : W p l e R s m args below meth c H locs cells slots (MQ below (qcB D A post) args s mc ms A) (F0 m pc ls [.ref a0]) := by
  refine W.widen (k := mc) (n := ms) hc hsl ?_
  exact W.aret hx hb hr hrt (Or.inr ⟨a0, rfl⟩) (fun t ht hW => ⟨⟨_, Wd', rfl, hpost, hD, by rw [ht]; exact hP⟩, hS.F ht⟩) hS.2.2 hdg (hlocks := hlocks)
theorem kb_i {v : Int32} {ty : FieldType} {Wd' : va_W} {mc ms : Nat} (hx : p.tables.exec = Jvm.exec) (hb : c.code = cc) (hr : meth.sig.returnType = some ty) (hn : narrow ty (.int v) = .int v) (hlocks : meth.locks = false) (hP : va_P D vwCl Wd' H) (hD : va_D A Wd') (hS : va_S A s.heap H locs) (hc : cells ≤ mc) (hsl : slots ≤ ms) (hpost : post (some (.int v)) Wd') (hdg : decode cc pc = .ok (.ireturn, 1)) : W p l e R s m args below meth c H locs cells slots (MQ below (qcB D A post) args s mc ms A) (F0 m pc ls [.int v]) := by
  refine W.widen (k := mc) (n := ms) hc hsl ?_
  exact W.zret hx hb hr hn (fun t ht hW => ⟨⟨_, Wd', rfl, hpost, hD, by rw [ht]; exact hP⟩, hS.F ht⟩) hS.2.2 hdg (hlocks := hlocks)
theorem kb_v {Wd' : va_W} {mc ms : Nat} (hx : p.tables.exec = Jvm.exec) (hb : c.code = cc) (hr : meth.sig.returnType = none) (hlocks : meth.locks = false) (hP : va_P D vwCl Wd' H) (hD : va_D A Wd') (hS : va_S A s.heap H locs) (hc : cells ≤ mc) (hsl : slots ≤ ms) (hpost : post none Wd') (hdg : decode cc pc = .ok (.return_, 1)) : W p l e R s m args below meth c H locs cells slots (MQ below (qcB D A post) args s mc ms A) (F0 m pc ls []) := by
  refine W.widen (k := mc) (n := ms) hc hsl ?_
  exact W.vret hx hb hr (fun t ht hW => ⟨⟨_, Wd', rfl, hpost, hD, by rw [ht]; exact hP⟩, hS.F ht⟩) hS.2.2 hdg (hlocks := hlocks)
end SBX
theorem va_P_mem {D : va_G} {cl : List vw_C} {X Y : va_W} {H : Heap} (h : va_P D cl X H) (hm : ∀ x ∈ Y, x ∈ X) : va_P D cl Y H := fun k q hk => by
  obtain ⟨j, hj⟩ := List.getElem?_of_mem (hm q (List.mem_of_getElem? hk))
  exact h j q hj
theorem va_D_3 {A : Nat → Prop} {x y z : Nat × va_E} (h : va_D A [x, y, z]) : va_D A [x, z] := by
  have hm : ∀ i w, [x, z][i]? = some w → ∃ j, [x, y, z][j]? = some w ∧ (i = 0 ↔ j = 0) := fun i w hw => by
    match i, hw with
    | 0, hw => exact ⟨0, hw, Iff.rfl⟩
    | 1, hw => exact ⟨2, hw, ⟨fun q => by omega, fun q => by omega⟩⟩
    | i + 2, hw => simp at hw
  refine ⟨fun i j v w hv hw e => ?_, fun i w hw => ?_⟩
  · obtain ⟨i', h1, h2⟩ := hm i v hv
    obtain ⟨j', h3, h4⟩ := hm j w hw
    have := h.1 i' j' v w h1 h3 e
    have hi : i < 2 := (List.getElem?_eq_some_iff.mp hv).1
    have hj : j < 2 := (List.getElem?_eq_some_iff.mp hw).1
    omega
  · obtain ⟨j, h1, -⟩ := hm i w hw
    exact h.2 j w h1

/-! decode rows, as the claim prints them -/
theorem dJ5_init_a7421_0 : decode cJ5_init_a7421 0 = .ok (.aload_n 0, 1) := by decide +kernel
theorem dJ5_init_a7421_1 : decode cJ5_init_a7421 1 = .ok (.invokespecial 3, 3) := by decide +kernel
theorem dJ5_init_a7421_4 : decode cJ5_init_a7421 4 = .ok (.aload_n 1, 1) := by decide +kernel
theorem dJ5_init_a7421_5 : decode cJ5_init_a7421 5 = .ok (.invokevirtual 32, 3) := by decide +kernel
theorem dJ5_init_a7421_8 : decode cJ5_init_a7421 8 = .ok (.istore_n 2, 1) := by decide +kernel
theorem dJ5_init_a7421_9 : decode cJ5_init_a7421 9 = .ok (.iload_n 2, 1) := by decide +kernel
theorem dJ5_init_a7421_10 : decode cJ5_init_a7421 10 = .ok (.ldc 38, 2) := by decide +kernel
theorem dJ5_init_a7421_12 : decode cJ5_init_a7421 12 = .ok (.if_icmp .ge 10, 3) := by decide +kernel
theorem dJ5_init_a7421_15 : decode cJ5_init_a7421 15 = .ok (.iload_n 2, 1) := by decide +kernel
theorem dJ5_init_a7421_16 : decode cJ5_init_a7421 16 = .ok (.bipush 16, 2) := by decide +kernel
theorem dJ5_init_a7421_18 : decode cJ5_init_a7421 18 = .ok (.iadd, 1) := by decide +kernel
theorem dJ5_init_a7421_19 : decode cJ5_init_a7421 19 = .ok (.goto 5, 3) := by decide +kernel
theorem dJ5_init_a7421_22 : decode cJ5_init_a7421 22 = .ok (.ldc 39, 2) := by decide +kernel
theorem dJ5_init_a7421_24 : decode cJ5_init_a7421 24 = .ok (.istore_n 3, 1) := by decide +kernel
theorem dJ5_init_a7421_25 : decode cJ5_init_a7421 25 = .ok (.aload_n 1, 1) := by decide +kernel
theorem dJ5_init_a7421_26 : decode cJ5_init_a7421 26 = .ok (.invokevirtual 40, 3) := by decide +kernel
theorem dJ5_init_a7421_29 : decode cJ5_init_a7421 29 = .ok (.istore 4, 2) := by decide +kernel
theorem dJ5_init_a7421_31 : decode cJ5_init_a7421 31 = .ok (.aload_n 0, 1) := by decide +kernel
theorem dJ5_init_a7421_32 : decode cJ5_init_a7421 32 = .ok (.iload 4, 2) := by decide +kernel
theorem dJ5_init_a7421_34 : decode cJ5_init_a7421 34 = .ok (.putfield 22, 3) := by decide +kernel
theorem dJ5_init_a7421_37 : decode cJ5_init_a7421 37 = .ok (.aload_n 0, 1) := by decide +kernel
theorem dJ5_init_a7421_38 : decode cJ5_init_a7421 38 = .ok (.iload 4, 2) := by decide +kernel
theorem dJ5_init_a7421_40 : decode cJ5_init_a7421 40 = .ok (.ifCond .ne 9, 3) := by decide +kernel
theorem dJ5_init_a7421_43 : decode cJ5_init_a7421 43 = .ok (.iload_n 3, 1) := by decide +kernel
theorem dJ5_init_a7421_44 : decode cJ5_init_a7421 44 = .ok (.newarray .byte, 2) := by decide +kernel
theorem dJ5_init_a7421_46 : decode cJ5_init_a7421 46 = .ok (.goto 7, 3) := by decide +kernel
theorem dJ5_init_a7421_49 : decode cJ5_init_a7421 49 = .ok (.iload_n 3, 1) := by decide +kernel
theorem dJ5_init_a7421_50 : decode cJ5_init_a7421 50 = .ok (.invokestatic 26, 3) := by decide +kernel
theorem dJ5_init_a7421_53 : decode cJ5_init_a7421 53 = .ok (.putfield 15, 3) := by decide +kernel
theorem dJ5_init_a7421_56 : decode cJ5_init_a7421 56 = .ok (.aload_n 0, 1) := by decide +kernel
theorem dJ5_init_a7421_57 : decode cJ5_init_a7421 57 = .ok (.aload_n 1, 1) := by decide +kernel
theorem dJ5_init_a7421_58 : decode cJ5_init_a7421 58 = .ok (.invokevirtual 43, 3) := by decide +kernel
theorem dJ5_init_a7421_61 : decode cJ5_init_a7421 61 = .ok (.pop, 1) := by decide +kernel
theorem dJ5_init_a7421_62 : decode cJ5_init_a7421 62 = .ok (.return_, 1) := by decide +kernel
theorem dJ5_length_8abf5_0 : decode cJ5_length_8abf5 0 = .ok (.aload_n 0, 1) := by decide +kernel
theorem dJ5_length_8abf5_1 : decode cJ5_length_8abf5 1 = .ok (.getfield 79, 3) := by decide +kernel
theorem dJ5_length_8abf5_4 : decode cJ5_length_8abf5 4 = .ok (.ireturn, 1) := by decide +kernel
theorem dJ5_ensureCapacityInternal_d00df_0 : decode cJ5_ensureCapacityInternal_d00df 0 = .ok (.aload_n 0, 1) := by decide +kernel
theorem dJ5_ensureCapacityInternal_d00df_1 : decode cJ5_ensureCapacityInternal_d00df 1 = .ok (.getfield 15, 3) := by decide +kernel
theorem dJ5_ensureCapacityInternal_d00df_4 : decode cJ5_ensureCapacityInternal_d00df 4 = .ok (.arraylength, 1) := by decide +kernel
theorem dJ5_ensureCapacityInternal_d00df_5 : decode cJ5_ensureCapacityInternal_d00df 5 = .ok (.aload_n 0, 1) := by decide +kernel
theorem dJ5_ensureCapacityInternal_d00df_6 : decode cJ5_ensureCapacityInternal_d00df 6 = .ok (.getfield 22, 3) := by decide +kernel
theorem dJ5_ensureCapacityInternal_d00df_9 : decode cJ5_ensureCapacityInternal_d00df 9 = .ok (.ishr, 1) := by decide +kernel
theorem dJ5_ensureCapacityInternal_d00df_10 : decode cJ5_ensureCapacityInternal_d00df 10 = .ok (.istore_n 2, 1) := by decide +kernel
theorem dJ5_ensureCapacityInternal_d00df_11 : decode cJ5_ensureCapacityInternal_d00df 11 = .ok (.iload_n 1, 1) := by decide +kernel
theorem dJ5_ensureCapacityInternal_d00df_12 : decode cJ5_ensureCapacityInternal_d00df 12 = .ok (.iload_n 2, 1) := by decide +kernel
theorem dJ5_ensureCapacityInternal_d00df_13 : decode cJ5_ensureCapacityInternal_d00df 13 = .ok (.isub, 1) := by decide +kernel
theorem dJ5_ensureCapacityInternal_d00df_14 : decode cJ5_ensureCapacityInternal_d00df 14 = .ok (.ifCond .le 24, 3) := by decide +kernel
theorem dJ5_ensureCapacityInternal_d00df_17 : decode cJ5_ensureCapacityInternal_d00df 17 = .ok (.aload_n 0, 1) := by decide +kernel
theorem dJ5_ensureCapacityInternal_d00df_18 : decode cJ5_ensureCapacityInternal_d00df 18 = .ok (.aload_n 0, 1) := by decide +kernel
theorem dJ5_ensureCapacityInternal_d00df_19 : decode cJ5_ensureCapacityInternal_d00df 19 = .ok (.getfield 15, 3) := by decide +kernel
theorem dJ5_ensureCapacityInternal_d00df_22 : decode cJ5_ensureCapacityInternal_d00df 22 = .ok (.aload_n 0, 1) := by decide +kernel
theorem dJ5_ensureCapacityInternal_d00df_23 : decode cJ5_ensureCapacityInternal_d00df 23 = .ok (.iload_n 1, 1) := by decide +kernel
theorem dJ5_ensureCapacityInternal_d00df_24 : decode cJ5_ensureCapacityInternal_d00df 24 = .ok (.invokevirtual 104, 3) := by decide +kernel
theorem dJ5_ensureCapacityInternal_d00df_27 : decode cJ5_ensureCapacityInternal_d00df 27 = .ok (.aload_n 0, 1) := by decide +kernel
theorem dJ5_ensureCapacityInternal_d00df_28 : decode cJ5_ensureCapacityInternal_d00df 28 = .ok (.getfield 22, 3) := by decide +kernel
theorem dJ5_ensureCapacityInternal_d00df_31 : decode cJ5_ensureCapacityInternal_d00df 31 = .ok (.ishl, 1) := by decide +kernel
theorem dJ5_ensureCapacityInternal_d00df_32 : decode cJ5_ensureCapacityInternal_d00df 32 = .ok (.invokestatic 108, 3) := by decide +kernel
theorem dJ5_ensureCapacityInternal_d00df_35 : decode cJ5_ensureCapacityInternal_d00df 35 = .ok (.putfield 15, 3) := by decide +kernel
theorem dJ5_ensureCapacityInternal_d00df_38 : decode cJ5_ensureCapacityInternal_d00df 38 = .ok (.return_, 1) := by decide +kernel
theorem dJ5_newCapacity_0f7a4_0 : decode cJ5_newCapacity_0f7a4 0 = .ok (.aload_n 0, 1) := by decide +kernel
theorem dJ5_newCapacity_0f7a4_1 : decode cJ5_newCapacity_0f7a4 1 = .ok (.getfield 15, 3) := by decide +kernel
theorem dJ5_newCapacity_0f7a4_4 : decode cJ5_newCapacity_0f7a4 4 = .ok (.arraylength, 1) := by decide +kernel
theorem dJ5_newCapacity_0f7a4_5 : decode cJ5_newCapacity_0f7a4 5 = .ok (.istore_n 2, 1) := by decide +kernel
theorem dJ5_newCapacity_0f7a4_6 : decode cJ5_newCapacity_0f7a4 6 = .ok (.iload_n 1, 1) := by decide +kernel
theorem dJ5_newCapacity_0f7a4_7 : decode cJ5_newCapacity_0f7a4 7 = .ok (.aload_n 0, 1) := by decide +kernel
theorem dJ5_newCapacity_0f7a4_8 : decode cJ5_newCapacity_0f7a4 8 = .ok (.getfield 22, 3) := by decide +kernel
theorem dJ5_newCapacity_0f7a4_11 : decode cJ5_newCapacity_0f7a4 11 = .ok (.ishl, 1) := by decide +kernel
theorem dJ5_newCapacity_0f7a4_12 : decode cJ5_newCapacity_0f7a4 12 = .ok (.istore_n 3, 1) := by decide +kernel
theorem dJ5_newCapacity_0f7a4_13 : decode cJ5_newCapacity_0f7a4 13 = .ok (.iload_n 3, 1) := by decide +kernel
theorem dJ5_newCapacity_0f7a4_14 : decode cJ5_newCapacity_0f7a4 14 = .ok (.iload_n 2, 1) := by decide +kernel
theorem dJ5_newCapacity_0f7a4_15 : decode cJ5_newCapacity_0f7a4 15 = .ok (.isub, 1) := by decide +kernel
theorem dJ5_newCapacity_0f7a4_16 : decode cJ5_newCapacity_0f7a4 16 = .ok (.istore 4, 2) := by decide +kernel
theorem dJ5_newCapacity_0f7a4_18 : decode cJ5_newCapacity_0f7a4 18 = .ok (.iload_n 2, 1) := by decide +kernel
theorem dJ5_newCapacity_0f7a4_19 : decode cJ5_newCapacity_0f7a4 19 = .ok (.iload 4, 2) := by decide +kernel
theorem dJ5_newCapacity_0f7a4_21 : decode cJ5_newCapacity_0f7a4 21 = .ok (.iload_n 2, 1) := by decide +kernel
theorem dJ5_newCapacity_0f7a4_22 : decode cJ5_newCapacity_0f7a4 22 = .ok (.iconst 2, 1) := by decide +kernel
theorem dJ5_newCapacity_0f7a4_23 : decode cJ5_newCapacity_0f7a4 23 = .ok (.aload_n 0, 1) := by decide +kernel
theorem dJ5_newCapacity_0f7a4_24 : decode cJ5_newCapacity_0f7a4 24 = .ok (.getfield 22, 3) := by decide +kernel
theorem dJ5_newCapacity_0f7a4_27 : decode cJ5_newCapacity_0f7a4 27 = .ok (.ishl, 1) := by decide +kernel
theorem dJ5_newCapacity_0f7a4_28 : decode cJ5_newCapacity_0f7a4 28 = .ok (.iadd, 1) := by decide +kernel
theorem dJ5_newCapacity_0f7a4_29 : decode cJ5_newCapacity_0f7a4 29 = .ok (.invokestatic 114, 3) := by decide +kernel
theorem dJ5_newCapacity_0f7a4_32 : decode cJ5_newCapacity_0f7a4 32 = .ok (.istore 5, 2) := by decide +kernel
theorem dJ5_newCapacity_0f7a4_34 : decode cJ5_newCapacity_0f7a4 34 = .ok (.iload 5, 2) := by decide +kernel
theorem dJ5_newCapacity_0f7a4_36 : decode cJ5_newCapacity_0f7a4 36 = .ok (.ldc 39, 2) := by decide +kernel
theorem dJ5_newCapacity_0f7a4_38 : decode cJ5_newCapacity_0f7a4 38 = .ok (.if_icmp .ne 13, 3) := by decide +kernel
theorem dJ5_newCapacity_0f7a4_41 : decode cJ5_newCapacity_0f7a4 41 = .ok (.new 120, 3) := by decide +kernel
theorem dJ5_newCapacity_0f7a4_44 : decode cJ5_newCapacity_0f7a4 44 = .ok (.dup, 1) := by decide +kernel
theorem dJ5_newCapacity_0f7a4_45 : decode cJ5_newCapacity_0f7a4 45 = .ok (.ldc 122, 2) := by decide +kernel
theorem dJ5_newCapacity_0f7a4_47 : decode cJ5_newCapacity_0f7a4 47 = .ok (.invokespecial 124, 3) := by decide +kernel
theorem dJ5_newCapacity_0f7a4_50 : decode cJ5_newCapacity_0f7a4 50 = .ok (.athrow, 1) := by decide +kernel
theorem dJ5_newCapacity_0f7a4_51 : decode cJ5_newCapacity_0f7a4 51 = .ok (.iload 5, 2) := by decide +kernel
theorem dJ5_newCapacity_0f7a4_53 : decode cJ5_newCapacity_0f7a4 53 = .ok (.aload_n 0, 1) := by decide +kernel
theorem dJ5_newCapacity_0f7a4_54 : decode cJ5_newCapacity_0f7a4 54 = .ok (.getfield 22, 3) := by decide +kernel
theorem dJ5_newCapacity_0f7a4_57 : decode cJ5_newCapacity_0f7a4 57 = .ok (.ishr, 1) := by decide +kernel
theorem dJ5_newCapacity_0f7a4_58 : decode cJ5_newCapacity_0f7a4 58 = .ok (.ireturn, 1) := by decide +kernel
theorem dJ5_append_cf1ce_0 : decode cJ5_append_cf1ce 0 = .ok (.aload_n 1, 1) := by decide +kernel
theorem dJ5_append_cf1ce_1 : decode cJ5_append_cf1ce 1 = .ok (.ifnonnull 8, 3) := by decide +kernel
theorem dJ5_append_cf1ce_4 : decode cJ5_append_cf1ce 4 = .ok (.aload_n 0, 1) := by decide +kernel
theorem dJ5_append_cf1ce_5 : decode cJ5_append_cf1ce 5 = .ok (.invokevirtual 204, 3) := by decide +kernel
theorem dJ5_append_cf1ce_8 : decode cJ5_append_cf1ce 8 = .ok (.areturn, 1) := by decide +kernel
theorem dJ5_append_cf1ce_9 : decode cJ5_append_cf1ce 9 = .ok (.aload_n 1, 1) := by decide +kernel
theorem dJ5_append_cf1ce_10 : decode cJ5_append_cf1ce 10 = .ok (.invokevirtual 32, 3) := by decide +kernel
theorem dJ5_append_cf1ce_13 : decode cJ5_append_cf1ce 13 = .ok (.istore_n 2, 1) := by decide +kernel
theorem dJ5_append_cf1ce_14 : decode cJ5_append_cf1ce 14 = .ok (.aload_n 0, 1) := by decide +kernel
theorem dJ5_append_cf1ce_15 : decode cJ5_append_cf1ce 15 = .ok (.aload_n 0, 1) := by decide +kernel
theorem dJ5_append_cf1ce_16 : decode cJ5_append_cf1ce 16 = .ok (.getfield 79, 3) := by decide +kernel
theorem dJ5_append_cf1ce_19 : decode cJ5_append_cf1ce 19 = .ok (.iload_n 2, 1) := by decide +kernel
theorem dJ5_append_cf1ce_20 : decode cJ5_append_cf1ce 20 = .ok (.iadd, 1) := by decide +kernel
theorem dJ5_append_cf1ce_21 : decode cJ5_append_cf1ce 21 = .ok (.invokevirtual 100, 3) := by decide +kernel
theorem dJ5_append_cf1ce_24 : decode cJ5_append_cf1ce 24 = .ok (.aload_n 0, 1) := by decide +kernel
theorem dJ5_append_cf1ce_25 : decode cJ5_append_cf1ce 25 = .ok (.aload_n 0, 1) := by decide +kernel
theorem dJ5_append_cf1ce_26 : decode cJ5_append_cf1ce 26 = .ok (.getfield 79, 3) := by decide +kernel
theorem dJ5_append_cf1ce_29 : decode cJ5_append_cf1ce 29 = .ok (.aload_n 1, 1) := by decide +kernel
theorem dJ5_append_cf1ce_30 : decode cJ5_append_cf1ce 30 = .ok (.invokevirtual 208, 3) := by decide +kernel
theorem dJ5_append_cf1ce_33 : decode cJ5_append_cf1ce 33 = .ok (.aload_n 0, 1) := by decide +kernel
theorem dJ5_append_cf1ce_34 : decode cJ5_append_cf1ce 34 = .ok (.dup, 1) := by decide +kernel
theorem dJ5_append_cf1ce_35 : decode cJ5_append_cf1ce 35 = .ok (.getfield 79, 3) := by decide +kernel
theorem dJ5_append_cf1ce_38 : decode cJ5_append_cf1ce 38 = .ok (.iload_n 2, 1) := by decide +kernel
theorem dJ5_append_cf1ce_39 : decode cJ5_append_cf1ce 39 = .ok (.iadd, 1) := by decide +kernel
theorem dJ5_append_cf1ce_40 : decode cJ5_append_cf1ce 40 = .ok (.putfield 79, 3) := by decide +kernel
theorem dJ5_append_cf1ce_43 : decode cJ5_append_cf1ce 43 = .ok (.aload_n 0, 1) := by decide +kernel
theorem dJ5_append_cf1ce_44 : decode cJ5_append_cf1ce 44 = .ok (.areturn, 1) := by decide +kernel
theorem dJ5_appendNull_278bc_0 : decode cJ5_appendNull_278bc 0 = .ok (.aload_n 0, 1) := by decide +kernel
theorem dJ5_appendNull_278bc_1 : decode cJ5_appendNull_278bc 1 = .ok (.aload_n 0, 1) := by decide +kernel
theorem dJ5_appendNull_278bc_2 : decode cJ5_appendNull_278bc 2 = .ok (.getfield 79, 3) := by decide +kernel
theorem dJ5_appendNull_278bc_5 : decode cJ5_appendNull_278bc 5 = .ok (.iconst 4, 1) := by decide +kernel
theorem dJ5_appendNull_278bc_6 : decode cJ5_appendNull_278bc 6 = .ok (.iadd, 1) := by decide +kernel
theorem dJ5_appendNull_278bc_7 : decode cJ5_appendNull_278bc 7 = .ok (.invokevirtual 100, 3) := by decide +kernel
theorem dJ5_appendNull_278bc_10 : decode cJ5_appendNull_278bc 10 = .ok (.aload_n 0, 1) := by decide +kernel
theorem dJ5_appendNull_278bc_11 : decode cJ5_appendNull_278bc 11 = .ok (.getfield 79, 3) := by decide +kernel
theorem dJ5_appendNull_278bc_14 : decode cJ5_appendNull_278bc 14 = .ok (.istore_n 1, 1) := by decide +kernel
theorem dJ5_appendNull_278bc_15 : decode cJ5_appendNull_278bc 15 = .ok (.aload_n 0, 1) := by decide +kernel
theorem dJ5_appendNull_278bc_16 : decode cJ5_appendNull_278bc 16 = .ok (.getfield 15, 3) := by decide +kernel
theorem dJ5_appendNull_278bc_19 : decode cJ5_appendNull_278bc 19 = .ok (.astore_n 2, 1) := by decide +kernel
theorem dJ5_appendNull_278bc_20 : decode cJ5_appendNull_278bc 20 = .ok (.aload_n 0, 1) := by decide +kernel
theorem dJ5_appendNull_278bc_21 : decode cJ5_appendNull_278bc 21 = .ok (.invokevirtual 83, 3) := by decide +kernel
theorem dJ5_appendNull_278bc_24 : decode cJ5_appendNull_278bc 24 = .ok (.ifCond .eq 38, 3) := by decide +kernel
theorem dJ5_appendNull_278bc_27 : decode cJ5_appendNull_278bc 27 = .ok (.aload_n 2, 1) := by decide +kernel
theorem dJ5_appendNull_278bc_28 : decode cJ5_appendNull_278bc 28 = .ok (.iload_n 1, 1) := by decide +kernel
theorem dJ5_appendNull_278bc_29 : decode cJ5_appendNull_278bc 29 = .ok (.iinc 1 1, 3) := by decide +kernel
theorem dJ5_appendNull_278bc_32 : decode cJ5_appendNull_278bc 32 = .ok (.bipush 110, 2) := by decide +kernel
theorem dJ5_appendNull_278bc_34 : decode cJ5_appendNull_278bc 34 = .ok (.bastore, 1) := by decide +kernel
theorem dJ5_appendNull_278bc_35 : decode cJ5_appendNull_278bc 35 = .ok (.aload_n 2, 1) := by decide +kernel
theorem dJ5_appendNull_278bc_36 : decode cJ5_appendNull_278bc 36 = .ok (.iload_n 1, 1) := by decide +kernel
theorem dJ5_appendNull_278bc_37 : decode cJ5_appendNull_278bc 37 = .ok (.iinc 1 1, 3) := by decide +kernel
theorem dJ5_appendNull_278bc_40 : decode cJ5_appendNull_278bc 40 = .ok (.bipush 117, 2) := by decide +kernel
theorem dJ5_appendNull_278bc_42 : decode cJ5_appendNull_278bc 42 = .ok (.bastore, 1) := by decide +kernel
theorem dJ5_appendNull_278bc_43 : decode cJ5_appendNull_278bc 43 = .ok (.aload_n 2, 1) := by decide +kernel
theorem dJ5_appendNull_278bc_44 : decode cJ5_appendNull_278bc 44 = .ok (.iload_n 1, 1) := by decide +kernel
theorem dJ5_appendNull_278bc_45 : decode cJ5_appendNull_278bc 45 = .ok (.iinc 1 1, 3) := by decide +kernel
theorem dJ5_appendNull_278bc_48 : decode cJ5_appendNull_278bc 48 = .ok (.bipush 108, 2) := by decide +kernel
theorem dJ5_appendNull_278bc_50 : decode cJ5_appendNull_278bc 50 = .ok (.bastore, 1) := by decide +kernel
theorem dJ5_appendNull_278bc_51 : decode cJ5_appendNull_278bc 51 = .ok (.aload_n 2, 1) := by decide +kernel
theorem dJ5_appendNull_278bc_52 : decode cJ5_appendNull_278bc 52 = .ok (.iload_n 1, 1) := by decide +kernel
theorem dJ5_appendNull_278bc_53 : decode cJ5_appendNull_278bc 53 = .ok (.iinc 1 1, 3) := by decide +kernel
theorem dJ5_appendNull_278bc_56 : decode cJ5_appendNull_278bc 56 = .ok (.bipush 108, 2) := by decide +kernel
theorem dJ5_appendNull_278bc_58 : decode cJ5_appendNull_278bc 58 = .ok (.bastore, 1) := by decide +kernel
theorem dJ5_appendNull_278bc_59 : decode cJ5_appendNull_278bc 59 = .ok (.goto 17, 3) := by decide +kernel
theorem dJ5_appendNull_278bc_62 : decode cJ5_appendNull_278bc 62 = .ok (.aload_n 2, 1) := by decide +kernel
theorem dJ5_appendNull_278bc_63 : decode cJ5_appendNull_278bc 63 = .ok (.iload_n 1, 1) := by decide +kernel
theorem dJ5_appendNull_278bc_64 : decode cJ5_appendNull_278bc 64 = .ok (.bipush 110, 2) := by decide +kernel
theorem dJ5_appendNull_278bc_66 : decode cJ5_appendNull_278bc 66 = .ok (.bipush 117, 2) := by decide +kernel
theorem dJ5_appendNull_278bc_68 : decode cJ5_appendNull_278bc 68 = .ok (.bipush 108, 2) := by decide +kernel
theorem dJ5_appendNull_278bc_70 : decode cJ5_appendNull_278bc 70 = .ok (.bipush 108, 2) := by decide +kernel
theorem dJ5_appendNull_278bc_72 : decode cJ5_appendNull_278bc 72 = .ok (.invokestatic 226, 3) := by decide +kernel
theorem dJ5_appendNull_278bc_75 : decode cJ5_appendNull_278bc 75 = .ok (.istore_n 1, 1) := by decide +kernel
theorem dJ5_appendNull_278bc_76 : decode cJ5_appendNull_278bc 76 = .ok (.aload_n 0, 1) := by decide +kernel
theorem dJ5_appendNull_278bc_77 : decode cJ5_appendNull_278bc 77 = .ok (.iload_n 1, 1) := by decide +kernel
theorem dJ5_appendNull_278bc_78 : decode cJ5_appendNull_278bc 78 = .ok (.putfield 79, 3) := by decide +kernel
theorem dJ5_appendNull_278bc_81 : decode cJ5_appendNull_278bc 81 = .ok (.aload_n 0, 1) := by decide +kernel
theorem dJ5_appendNull_278bc_82 : decode cJ5_appendNull_278bc 82 = .ok (.areturn, 1) := by decide +kernel
theorem dJ5_append_3fe6f_0 : decode cJ5_append_3fe6f 0 = .ok (.aload_n 0, 1) := by decide +kernel
theorem dJ5_append_3fe6f_1 : decode cJ5_append_3fe6f 1 = .ok (.aload_n 0, 1) := by decide +kernel
theorem dJ5_append_3fe6f_2 : decode cJ5_append_3fe6f 2 = .ok (.getfield 79, 3) := by decide +kernel
theorem dJ5_append_3fe6f_5 : decode cJ5_append_3fe6f 5 = .ok (.iconst 1, 1) := by decide +kernel
theorem dJ5_append_3fe6f_6 : decode cJ5_append_3fe6f 6 = .ok (.iadd, 1) := by decide +kernel
theorem dJ5_append_3fe6f_7 : decode cJ5_append_3fe6f 7 = .ok (.invokevirtual 100, 3) := by decide +kernel
theorem dJ5_append_3fe6f_10 : decode cJ5_append_3fe6f 10 = .ok (.aload_n 0, 1) := by decide +kernel
theorem dJ5_append_3fe6f_11 : decode cJ5_append_3fe6f 11 = .ok (.invokevirtual 83, 3) := by decide +kernel
theorem dJ5_append_3fe6f_14 : decode cJ5_append_3fe6f 14 = .ok (.ifCond .eq 31, 3) := by decide +kernel
theorem dJ5_append_3fe6f_17 : decode cJ5_append_3fe6f 17 = .ok (.iload_n 1, 1) := by decide +kernel
theorem dJ5_append_3fe6f_18 : decode cJ5_append_3fe6f 18 = .ok (.invokestatic 191, 3) := by decide +kernel
theorem dJ5_append_3fe6f_21 : decode cJ5_append_3fe6f 21 = .ok (.ifCond .eq 24, 3) := by decide +kernel
theorem dJ5_append_3fe6f_24 : decode cJ5_append_3fe6f 24 = .ok (.aload_n 0, 1) := by decide +kernel
theorem dJ5_append_3fe6f_25 : decode cJ5_append_3fe6f 25 = .ok (.getfield 15, 3) := by decide +kernel
theorem dJ5_append_3fe6f_28 : decode cJ5_append_3fe6f 28 = .ok (.aload_n 0, 1) := by decide +kernel
theorem dJ5_append_3fe6f_29 : decode cJ5_append_3fe6f 29 = .ok (.dup, 1) := by decide +kernel
theorem dJ5_append_3fe6f_30 : decode cJ5_append_3fe6f 30 = .ok (.getfield 79, 3) := by decide +kernel
theorem dJ5_append_3fe6f_33 : decode cJ5_append_3fe6f 33 = .ok (.dup_x1, 1) := by decide +kernel
theorem dJ5_append_3fe6f_34 : decode cJ5_append_3fe6f 34 = .ok (.iconst 1, 1) := by decide +kernel
theorem dJ5_append_3fe6f_35 : decode cJ5_append_3fe6f 35 = .ok (.iadd, 1) := by decide +kernel
theorem dJ5_append_3fe6f_36 : decode cJ5_append_3fe6f 36 = .ok (.putfield 79, 3) := by decide +kernel
theorem dJ5_append_3fe6f_39 : decode cJ5_append_3fe6f 39 = .ok (.iload_n 1, 1) := by decide +kernel
theorem dJ5_append_3fe6f_40 : decode cJ5_append_3fe6f 40 = .ok (.i2b, 1) := by decide +kernel
theorem dJ5_append_3fe6f_41 : decode cJ5_append_3fe6f 41 = .ok (.bastore, 1) := by decide +kernel
theorem dJ5_append_3fe6f_42 : decode cJ5_append_3fe6f 42 = .ok (.goto 33, 3) := by decide +kernel
theorem dJ5_append_3fe6f_45 : decode cJ5_append_3fe6f 45 = .ok (.aload_n 0, 1) := by decide +kernel
theorem dJ5_append_3fe6f_46 : decode cJ5_append_3fe6f 46 = .ok (.invokevirtual 83, 3) := by decide +kernel
theorem dJ5_append_3fe6f_49 : decode cJ5_append_3fe6f 49 = .ok (.ifCond .eq 7, 3) := by decide +kernel
theorem dJ5_append_3fe6f_52 : decode cJ5_append_3fe6f 52 = .ok (.aload_n 0, 1) := by decide +kernel
theorem dJ5_append_3fe6f_53 : decode cJ5_append_3fe6f 53 = .ok (.invokevirtual 195, 3) := by decide +kernel
theorem dJ5_append_3fe6f_56 : decode cJ5_append_3fe6f 56 = .ok (.aload_n 0, 1) := by decide +kernel
theorem dJ5_append_3fe6f_57 : decode cJ5_append_3fe6f 57 = .ok (.getfield 15, 3) := by decide +kernel
theorem dJ5_append_3fe6f_60 : decode cJ5_append_3fe6f 60 = .ok (.aload_n 0, 1) := by decide +kernel
theorem dJ5_append_3fe6f_61 : decode cJ5_append_3fe6f 61 = .ok (.dup, 1) := by decide +kernel
theorem dJ5_append_3fe6f_62 : decode cJ5_append_3fe6f 62 = .ok (.getfield 79, 3) := by decide +kernel
theorem dJ5_append_3fe6f_65 : decode cJ5_append_3fe6f 65 = .ok (.dup_x1, 1) := by decide +kernel
theorem dJ5_append_3fe6f_66 : decode cJ5_append_3fe6f 66 = .ok (.iconst 1, 1) := by decide +kernel
theorem dJ5_append_3fe6f_67 : decode cJ5_append_3fe6f 67 = .ok (.iadd, 1) := by decide +kernel
theorem dJ5_append_3fe6f_68 : decode cJ5_append_3fe6f 68 = .ok (.putfield 79, 3) := by decide +kernel
theorem dJ5_append_3fe6f_71 : decode cJ5_append_3fe6f 71 = .ok (.iload_n 1, 1) := by decide +kernel
theorem dJ5_append_3fe6f_72 : decode cJ5_append_3fe6f 72 = .ok (.invokestatic 197, 3) := by decide +kernel
theorem dJ5_append_3fe6f_75 : decode cJ5_append_3fe6f 75 = .ok (.aload_n 0, 1) := by decide +kernel
theorem dJ5_append_3fe6f_76 : decode cJ5_append_3fe6f 76 = .ok (.areturn, 1) := by decide +kernel
theorem dJ5_getValue_6d5f1_0 : decode cJ5_getValue_6d5f1 0 = .ok (.aload_n 0, 1) := by decide +kernel
theorem dJ5_getValue_6d5f1_1 : decode cJ5_getValue_6d5f1 1 = .ok (.getfield 15, 3) := by decide +kernel
theorem dJ5_getValue_6d5f1_4 : decode cJ5_getValue_6d5f1 4 = .ok (.areturn, 1) := by decide +kernel
theorem dJ5_isLatin1_aae02_0 : decode cJ5_isLatin1_aae02 0 = .ok (.getstatic 18, 3) := by decide +kernel
theorem dJ5_isLatin1_aae02_3 : decode cJ5_isLatin1_aae02 3 = .ok (.ifCond .eq 14, 3) := by decide +kernel
theorem dJ5_isLatin1_aae02_6 : decode cJ5_isLatin1_aae02 6 = .ok (.aload_n 0, 1) := by decide +kernel
theorem dJ5_isLatin1_aae02_7 : decode cJ5_isLatin1_aae02 7 = .ok (.getfield 22, 3) := by decide +kernel
theorem dJ5_isLatin1_aae02_10 : decode cJ5_isLatin1_aae02 10 = .ok (.ifCond .ne 7, 3) := by decide +kernel
theorem dJ5_isLatin1_aae02_13 : decode cJ5_isLatin1_aae02 13 = .ok (.iconst 1, 1) := by decide +kernel
theorem dJ5_isLatin1_aae02_14 : decode cJ5_isLatin1_aae02 14 = .ok (.goto 4, 3) := by decide +kernel
theorem dJ5_isLatin1_aae02_17 : decode cJ5_isLatin1_aae02 17 = .ok (.iconst 0, 1) := by decide +kernel
theorem dJ5_isLatin1_aae02_18 : decode cJ5_isLatin1_aae02 18 = .ok (.ireturn, 1) := by decide +kernel
theorem dJ5_inflateIfNeededFor_a7421_0 : decode cJ5_inflateIfNeededFor_a7421 0 = .ok (.getstatic 18, 3) := by decide +kernel
theorem dJ5_inflateIfNeededFor_a7421_3 : decode cJ5_inflateIfNeededFor_a7421 3 = .ok (.ifCond .eq 18, 3) := by decide +kernel
theorem dJ5_inflateIfNeededFor_a7421_6 : decode cJ5_inflateIfNeededFor_a7421 6 = .ok (.aload_n 0, 1) := by decide +kernel
theorem dJ5_inflateIfNeededFor_a7421_7 : decode cJ5_inflateIfNeededFor_a7421 7 = .ok (.getfield 22, 3) := by decide +kernel
theorem dJ5_inflateIfNeededFor_a7421_10 : decode cJ5_inflateIfNeededFor_a7421 10 = .ok (.aload_n 1, 1) := by decide +kernel
theorem dJ5_inflateIfNeededFor_a7421_11 : decode cJ5_inflateIfNeededFor_a7421 11 = .ok (.invokevirtual 40, 3) := by decide +kernel
theorem dJ5_inflateIfNeededFor_a7421_14 : decode cJ5_inflateIfNeededFor_a7421 14 = .ok (.if_icmp .eq 7, 3) := by decide +kernel
theorem dJ5_inflateIfNeededFor_a7421_17 : decode cJ5_inflateIfNeededFor_a7421 17 = .ok (.aload_n 0, 1) := by decide +kernel
theorem dJ5_inflateIfNeededFor_a7421_18 : decode cJ5_inflateIfNeededFor_a7421 18 = .ok (.invokevirtual 195, 3) := by decide +kernel
theorem dJ5_inflateIfNeededFor_a7421_21 : decode cJ5_inflateIfNeededFor_a7421 21 = .ok (.return_, 1) := by decide +kernel
theorem dJ5_putStringAt_47b60_0 : decode cJ5_putStringAt_47b60 0 = .ok (.aload_n 0, 1) := by decide +kernel
theorem dJ5_putStringAt_47b60_1 : decode cJ5_putStringAt_47b60 1 = .ok (.aload_n 2, 1) := by decide +kernel
theorem dJ5_putStringAt_47b60_2 : decode cJ5_putStringAt_47b60 2 = .ok (.invokevirtual 397, 3) := by decide +kernel
theorem dJ5_putStringAt_47b60_5 : decode cJ5_putStringAt_47b60 5 = .ok (.aload_n 2, 1) := by decide +kernel
theorem dJ5_putStringAt_47b60_6 : decode cJ5_putStringAt_47b60 6 = .ok (.aload_n 0, 1) := by decide +kernel
theorem dJ5_putStringAt_47b60_7 : decode cJ5_putStringAt_47b60 7 = .ok (.getfield 15, 3) := by decide +kernel
theorem dJ5_putStringAt_47b60_10 : decode cJ5_putStringAt_47b60 10 = .ok (.iload_n 1, 1) := by decide +kernel
theorem dJ5_putStringAt_47b60_11 : decode cJ5_putStringAt_47b60 11 = .ok (.aload_n 0, 1) := by decide +kernel
theorem dJ5_putStringAt_47b60_12 : decode cJ5_putStringAt_47b60 12 = .ok (.getfield 22, 3) := by decide +kernel
theorem dJ5_putStringAt_47b60_15 : decode cJ5_putStringAt_47b60 15 = .ok (.invokevirtual 399, 3) := by decide +kernel
theorem dJ5_putStringAt_47b60_18 : decode cJ5_putStringAt_47b60 18 = .ok (.return_, 1) := by decide +kernel
theorem dJ0_init_81219_0 : decode cJ0_init_81219 0 = .ok (.aload_n 0, 1) := by decide +kernel
theorem dJ0_init_81219_1 : decode cJ0_init_81219 1 = .ok (.aload_n 1, 1) := by decide +kernel
theorem dJ0_init_81219_2 : decode cJ0_init_81219 2 = .ok (.aconst_null, 1) := by decide +kernel
theorem dJ0_init_81219_3 : decode cJ0_init_81219 3 = .ok (.invokespecial 489, 3) := by decide +kernel
theorem dJ0_init_81219_6 : decode cJ0_init_81219 6 = .ok (.return_, 1) := by decide +kernel
theorem dJ0_getBytes_840e7_0 : decode cJ0_getBytes_840e7 0 = .ok (.aload_n 0, 1) := by decide +kernel
theorem dJ0_getBytes_840e7_1 : decode cJ0_getBytes_840e7 1 = .ok (.invokevirtual 335, 3) := by decide +kernel
theorem dJ0_getBytes_840e7_4 : decode cJ0_getBytes_840e7 4 = .ok (.iload_n 3, 1) := by decide +kernel
theorem dJ0_getBytes_840e7_5 : decode cJ0_getBytes_840e7 5 = .ok (.if_icmp .ne 23, 3) := by decide +kernel
theorem dJ0_getBytes_840e7_8 : decode cJ0_getBytes_840e7 8 = .ok (.aload_n 0, 1) := by decide +kernel
theorem dJ0_getBytes_840e7_9 : decode cJ0_getBytes_840e7 9 = .ok (.getfield 9, 3) := by decide +kernel
theorem dJ0_getBytes_840e7_12 : decode cJ0_getBytes_840e7 12 = .ok (.iconst 0, 1) := by decide +kernel
theorem dJ0_getBytes_840e7_13 : decode cJ0_getBytes_840e7 13 = .ok (.aload_n 1, 1) := by decide +kernel
theorem dJ0_getBytes_840e7_14 : decode cJ0_getBytes_840e7 14 = .ok (.iload_n 2, 1) := by decide +kernel
theorem dJ0_getBytes_840e7_15 : decode cJ0_getBytes_840e7 15 = .ok (.iload_n 3, 1) := by decide +kernel
theorem dJ0_getBytes_840e7_16 : decode cJ0_getBytes_840e7 16 = .ok (.ishl, 1) := by decide +kernel
theorem dJ0_getBytes_840e7_17 : decode cJ0_getBytes_840e7 17 = .ok (.aload_n 0, 1) := by decide +kernel
theorem dJ0_getBytes_840e7_18 : decode cJ0_getBytes_840e7 18 = .ok (.getfield 9, 3) := by decide +kernel
theorem dJ0_getBytes_840e7_21 : decode cJ0_getBytes_840e7 21 = .ok (.arraylength, 1) := by decide +kernel
theorem dJ0_getBytes_840e7_22 : decode cJ0_getBytes_840e7 22 = .ok (.invokestatic 212, 3) := by decide +kernel
theorem dJ0_getBytes_840e7_25 : decode cJ0_getBytes_840e7 25 = .ok (.goto 18, 3) := by decide +kernel
theorem dJ0_getBytes_840e7_28 : decode cJ0_getBytes_840e7 28 = .ok (.aload_n 0, 1) := by decide +kernel
theorem dJ0_getBytes_840e7_29 : decode cJ0_getBytes_840e7 29 = .ok (.getfield 9, 3) := by decide +kernel
theorem dJ0_getBytes_840e7_32 : decode cJ0_getBytes_840e7 32 = .ok (.iconst 0, 1) := by decide +kernel
theorem dJ0_getBytes_840e7_33 : decode cJ0_getBytes_840e7 33 = .ok (.aload_n 1, 1) := by decide +kernel
theorem dJ0_getBytes_840e7_34 : decode cJ0_getBytes_840e7 34 = .ok (.iload_n 2, 1) := by decide +kernel
theorem dJ0_getBytes_840e7_35 : decode cJ0_getBytes_840e7 35 = .ok (.aload_n 0, 1) := by decide +kernel
theorem dJ0_getBytes_840e7_36 : decode cJ0_getBytes_840e7 36 = .ok (.getfield 9, 3) := by decide +kernel
theorem dJ0_getBytes_840e7_39 : decode cJ0_getBytes_840e7 39 = .ok (.arraylength, 1) := by decide +kernel
theorem dJ0_getBytes_840e7_40 : decode cJ0_getBytes_840e7 40 = .ok (.invokestatic 106, 3) := by decide +kernel
theorem dJ0_getBytes_840e7_43 : decode cJ0_getBytes_840e7 43 = .ok (.return_, 1) := by decide +kernel
theorem dJ0_init_db425_0 : decode cJ0_init_db425 0 = .ok (.aload_n 0, 1) := by decide +kernel
theorem dJ0_init_db425_1 : decode cJ0_init_db425 1 = .ok (.invokespecial 1, 3) := by decide +kernel
theorem dJ0_init_db425_4 : decode cJ0_init_db425 4 = .ok (.aload_n 1, 1) := by decide +kernel
theorem dJ0_init_db425_5 : decode cJ0_init_db425 5 = .ok (.invokevirtual 552, 3) := by decide +kernel
theorem dJ0_init_db425_8 : decode cJ0_init_db425 8 = .ok (.astore_n 3, 1) := by decide +kernel
theorem dJ0_init_db425_9 : decode cJ0_init_db425 9 = .ok (.aload_n 1, 1) := by decide +kernel
theorem dJ0_init_db425_10 : decode cJ0_init_db425 10 = .ok (.invokevirtual 549, 3) := by decide +kernel
theorem dJ0_init_db425_13 : decode cJ0_init_db425 13 = .ok (.istore 4, 2) := by decide +kernel
theorem dJ0_init_db425_15 : decode cJ0_init_db425 15 = .ok (.aload_n 1, 1) := by decide +kernel
theorem dJ0_init_db425_16 : decode cJ0_init_db425 16 = .ok (.invokevirtual 1047, 3) := by decide +kernel
theorem dJ0_init_db425_19 : decode cJ0_init_db425 19 = .ok (.ifCond .eq 22, 3) := by decide +kernel
theorem dJ0_init_db425_22 : decode cJ0_init_db425 22 = .ok (.aload_n 0, 1) := by decide +kernel
theorem dJ0_init_db425_23 : decode cJ0_init_db425 23 = .ok (.iconst 0, 1) := by decide +kernel
theorem dJ0_init_db425_24 : decode cJ0_init_db425 24 = .ok (.putfield 15, 3) := by decide +kernel
theorem dJ0_init_db425_27 : decode cJ0_init_db425 27 = .ok (.aload_n 0, 1) := by decide +kernel
theorem dJ0_init_db425_28 : decode cJ0_init_db425 28 = .ok (.aload_n 3, 1) := by decide +kernel
theorem dJ0_init_db425_29 : decode cJ0_init_db425 29 = .ok (.iconst 0, 1) := by decide +kernel
theorem dJ0_init_db425_30 : decode cJ0_init_db425 30 = .ok (.iload 4, 2) := by decide +kernel
theorem dJ0_init_db425_32 : decode cJ0_init_db425 32 = .ok (.invokestatic 54, 3) := by decide +kernel
theorem dJ0_init_db425_35 : decode cJ0_init_db425 35 = .ok (.putfield 9, 3) := by decide +kernel
theorem dJ0_init_db425_38 : decode cJ0_init_db425 38 = .ok (.goto 59, 3) := by decide +kernel
theorem dJ0_init_db425_41 : decode cJ0_init_db425 41 = .ok (.getstatic 38, 3) := by decide +kernel
theorem dJ0_init_db425_44 : decode cJ0_init_db425 44 = .ok (.ifCond .eq 35, 3) := by decide +kernel
theorem dJ0_init_db425_47 : decode cJ0_init_db425 47 = .ok (.aload_n 1, 1) := by decide +kernel
theorem dJ0_init_db425_48 : decode cJ0_init_db425 48 = .ok (.getfield 1048, 3) := by decide +kernel
theorem dJ0_init_db425_51 : decode cJ0_init_db425 51 = .ok (.ifCond .eq 28, 3) := by decide +kernel
theorem dJ0_init_db425_54 : decode cJ0_init_db425 54 = .ok (.aload_n 0, 1) := by decide +kernel
theorem dJ0_init_db425_55 : decode cJ0_init_db425 55 = .ok (.aload_n 3, 1) := by decide +kernel
theorem dJ0_init_db425_56 : decode cJ0_init_db425 56 = .ok (.iconst 0, 1) := by decide +kernel
theorem dJ0_init_db425_57 : decode cJ0_init_db425 57 = .ok (.iload 4, 2) := by decide +kernel
theorem dJ0_init_db425_59 : decode cJ0_init_db425 59 = .ok (.invokestatic 1051, 3) := by decide +kernel
theorem dJ0_init_db425_62 : decode cJ0_init_db425 62 = .ok (.putfield 9, 3) := by decide +kernel
theorem dJ0_init_db425_65 : decode cJ0_init_db425 65 = .ok (.aload_n 0, 1) := by decide +kernel
theorem dJ0_init_db425_66 : decode cJ0_init_db425 66 = .ok (.aload_n 0, 1) := by decide +kernel
theorem dJ0_init_db425_67 : decode cJ0_init_db425 67 = .ok (.getfield 9, 3) := by decide +kernel
theorem dJ0_init_db425_70 : decode cJ0_init_db425 70 = .ok (.iload 4, 2) := by decide +kernel
theorem dJ0_init_db425_72 : decode cJ0_init_db425 72 = .ok (.invokestatic 47, 3) := by decide +kernel
theorem dJ0_init_db425_75 : decode cJ0_init_db425 75 = .ok (.putfield 15, 3) := by decide +kernel
theorem dJ0_init_db425_78 : decode cJ0_init_db425 78 = .ok (.return_, 1) := by decide +kernel
theorem dJ0_init_db425_79 : decode cJ0_init_db425 79 = .ok (.aload_n 0, 1) := by decide +kernel
theorem dJ0_init_db425_80 : decode cJ0_init_db425 80 = .ok (.iconst 1, 1) := by decide +kernel
theorem dJ0_init_db425_81 : decode cJ0_init_db425 81 = .ok (.putfield 15, 3) := by decide +kernel
theorem dJ0_init_db425_84 : decode cJ0_init_db425 84 = .ok (.aload_n 0, 1) := by decide +kernel
theorem dJ0_init_db425_85 : decode cJ0_init_db425 85 = .ok (.aload_n 3, 1) := by decide +kernel
theorem dJ0_init_db425_86 : decode cJ0_init_db425 86 = .ok (.iconst 0, 1) := by decide +kernel
theorem dJ0_init_db425_87 : decode cJ0_init_db425 87 = .ok (.iload 4, 2) := by decide +kernel
theorem dJ0_init_db425_89 : decode cJ0_init_db425 89 = .ok (.iconst 1, 1) := by decide +kernel
theorem dJ0_init_db425_90 : decode cJ0_init_db425 90 = .ok (.ishl, 1) := by decide +kernel
theorem dJ0_init_db425_91 : decode cJ0_init_db425 91 = .ok (.invokestatic 54, 3) := by decide +kernel
theorem dJ0_init_db425_94 : decode cJ0_init_db425 94 = .ok (.putfield 9, 3) := by decide +kernel
theorem dJ0_init_db425_97 : decode cJ0_init_db425 97 = .ok (.return_, 1) := by decide +kernel
theorem dJ4_init_a7421_0 : decode cJ4_init_a7421 0 = .ok (.aload_n 0, 1) := by decide +kernel
theorem dJ4_init_a7421_1 : decode cJ4_init_a7421 1 = .ok (.aload_n 1, 1) := by decide +kernel
theorem dJ4_init_a7421_2 : decode cJ4_init_a7421 2 = .ok (.invokespecial 7, 3) := by decide +kernel
theorem dJ4_init_a7421_5 : decode cJ4_init_a7421 5 = .ok (.return_, 1) := by decide +kernel
theorem dJ4_append_15ec4_0 : decode cJ4_append_15ec4 0 = .ok (.aload_n 0, 1) := by decide +kernel
theorem dJ4_append_15ec4_1 : decode cJ4_append_15ec4 1 = .ok (.aload_n 1, 1) := by decide +kernel
theorem dJ4_append_15ec4_2 : decode cJ4_append_15ec4 2 = .ok (.invokespecial 29, 3) := by decide +kernel
theorem dJ4_append_15ec4_5 : decode cJ4_append_15ec4 5 = .ok (.pop, 1) := by decide +kernel
theorem dJ4_append_15ec4_6 : decode cJ4_append_15ec4 6 = .ok (.aload_n 0, 1) := by decide +kernel
theorem dJ4_append_15ec4_7 : decode cJ4_append_15ec4 7 = .ok (.areturn, 1) := by decide +kernel
theorem dJ4_append_cf468_0 : decode cJ4_append_cf468 0 = .ok (.aload_n 0, 1) := by decide +kernel
theorem dJ4_append_cf468_1 : decode cJ4_append_cf468 1 = .ok (.iload_n 1, 1) := by decide +kernel
theorem dJ4_append_cf468_2 : decode cJ4_append_cf468 2 = .ok (.invokespecial 50, 3) := by decide +kernel
theorem dJ4_append_cf468_5 : decode cJ4_append_cf468 5 = .ok (.pop, 1) := by decide +kernel
theorem dJ4_append_cf468_6 : decode cJ4_append_cf468 6 = .ok (.aload_n 0, 1) := by decide +kernel
theorem dJ4_append_cf468_7 : decode cJ4_append_cf468 7 = .ok (.areturn, 1) := by decide +kernel
theorem dJ4_toString_0e30d_0 : decode cJ4_toString_0e30d 0 = .ok (.new 18, 3) := by decide +kernel
theorem dJ4_toString_0e30d_3 : decode cJ4_toString_0e30d 3 = .ok (.dup, 1) := by decide +kernel
theorem dJ4_toString_0e30d_4 : decode cJ4_toString_0e30d 4 = .ok (.aload_n 0, 1) := by decide +kernel
theorem dJ4_toString_0e30d_5 : decode cJ4_toString_0e30d 5 = .ok (.invokespecial 137, 3) := by decide +kernel
theorem dJ4_toString_0e30d_8 : decode cJ4_toString_0e30d 8 = .ok (.areturn, 1) := by decide +kernel
theorem dJ4_append_cf1ce_0 : decode cJ4_append_cf1ce 0 = .ok (.aload_n 0, 1) := by decide +kernel
theorem dJ4_append_cf1ce_1 : decode cJ4_append_cf1ce 1 = .ok (.aload_n 1, 1) := by decide +kernel
theorem dJ4_append_cf1ce_2 : decode cJ4_append_cf1ce 2 = .ok (.invokevirtual 23, 3) := by decide +kernel
theorem dJ4_append_cf1ce_5 : decode cJ4_append_cf1ce 5 = .ok (.areturn, 1) := by decide +kernel
theorem dJ4_length_8abf5_0 : decode cJ4_length_8abf5 0 = .ok (.aload_n 0, 1) := by decide +kernel
theorem dJ4_length_8abf5_1 : decode cJ4_length_8abf5 1 = .ok (.invokespecial 343, 3) := by decide +kernel
theorem dJ4_length_8abf5_4 : decode cJ4_length_8abf5 4 = .ok (.ireturn, 1) := by decide +kernel
theorem dJ1_canEncode_fc78d_0 : decode cJ1_canEncode_fc78d 0 = .ok (.iload_n 0, 1) := by decide +kernel
theorem dJ1_canEncode_fc78d_1 : decode cJ1_canEncode_fc78d 1 = .ok (.sipush 255, 3) := by decide +kernel
theorem dJ1_canEncode_fc78d_4 : decode cJ1_canEncode_fc78d 4 = .ok (.if_icmp .gt 7, 3) := by decide +kernel
theorem dJ1_canEncode_fc78d_7 : decode cJ1_canEncode_fc78d 7 = .ok (.iconst 1, 1) := by decide +kernel
theorem dJ1_canEncode_fc78d_8 : decode cJ1_canEncode_fc78d 8 = .ok (.goto 4, 3) := by decide +kernel
theorem dJ1_canEncode_fc78d_11 : decode cJ1_canEncode_fc78d 11 = .ok (.iconst 0, 1) := by decide +kernel
theorem dJ1_canEncode_fc78d_12 : decode cJ1_canEncode_fc78d 12 = .ok (.ireturn, 1) := by decide +kernel
theorem dJ7_copyOf_9075b_0 : decode cJ7_copyOf_9075b 0 = .ok (.iload_n 1, 1) := by decide +kernel
theorem dJ7_copyOf_9075b_1 : decode cJ7_copyOf_9075b 1 = .ok (.aload_n 0, 1) := by decide +kernel
theorem dJ7_copyOf_9075b_2 : decode cJ7_copyOf_9075b 2 = .ok (.arraylength, 1) := by decide +kernel
theorem dJ7_copyOf_9075b_3 : decode cJ7_copyOf_9075b 3 = .ok (.if_icmp .ne 11, 3) := by decide +kernel
theorem dJ7_copyOf_9075b_6 : decode cJ7_copyOf_9075b 6 = .ok (.aload_n 0, 1) := by decide +kernel
theorem dJ7_copyOf_9075b_7 : decode cJ7_copyOf_9075b 7 = .ok (.invokevirtual 310, 3) := by decide +kernel
theorem dJ7_copyOf_9075b_10 : decode cJ7_copyOf_9075b 10 = .ok (.checkcast 311, 3) := by decide +kernel
theorem dJ7_copyOf_9075b_13 : decode cJ7_copyOf_9075b 13 = .ok (.areturn, 1) := by decide +kernel
theorem dJ7_copyOf_9075b_14 : decode cJ7_copyOf_9075b 14 = .ok (.iload_n 1, 1) := by decide +kernel
theorem dJ7_copyOf_9075b_15 : decode cJ7_copyOf_9075b 15 = .ok (.newarray .byte, 2) := by decide +kernel
theorem dJ7_copyOf_9075b_17 : decode cJ7_copyOf_9075b 17 = .ok (.astore_n 2, 1) := by decide +kernel
theorem dJ7_copyOf_9075b_18 : decode cJ7_copyOf_9075b 18 = .ok (.aload_n 0, 1) := by decide +kernel
theorem dJ7_copyOf_9075b_19 : decode cJ7_copyOf_9075b 19 = .ok (.iconst 0, 1) := by decide +kernel
theorem dJ7_copyOf_9075b_20 : decode cJ7_copyOf_9075b 20 = .ok (.aload_n 2, 1) := by decide +kernel
theorem dJ7_copyOf_9075b_21 : decode cJ7_copyOf_9075b 21 = .ok (.iconst 0, 1) := by decide +kernel
theorem dJ7_copyOf_9075b_22 : decode cJ7_copyOf_9075b 22 = .ok (.aload_n 0, 1) := by decide +kernel
theorem dJ7_copyOf_9075b_23 : decode cJ7_copyOf_9075b 23 = .ok (.arraylength, 1) := by decide +kernel
theorem dJ7_copyOf_9075b_24 : decode cJ7_copyOf_9075b 24 = .ok (.iload_n 1, 1) := by decide +kernel
theorem dJ7_copyOf_9075b_25 : decode cJ7_copyOf_9075b 25 = .ok (.invokestatic 304, 3) := by decide +kernel
theorem dJ7_copyOf_9075b_28 : decode cJ7_copyOf_9075b 28 = .ok (.invokestatic 150, 3) := by decide +kernel
theorem dJ7_copyOf_9075b_31 : decode cJ7_copyOf_9075b 31 = .ok (.aload_n 2, 1) := by decide +kernel
theorem dJ7_copyOf_9075b_32 : decode cJ7_copyOf_9075b 32 = .ok (.areturn, 1) := by decide +kernel
theorem dJ7_checkLength_df160_0 : decode cJ7_checkLength_df160 0 = .ok (.iload_n 1, 1) := by decide +kernel
theorem dJ7_checkLength_df160_1 : decode cJ7_checkLength_df160 1 = .ok (.iload_n 0, 1) := by decide +kernel
theorem dJ7_checkLength_df160_2 : decode cJ7_checkLength_df160 2 = .ok (.if_icmp .ge 35, 3) := by decide +kernel
theorem dJ7_checkLength_df160_5 : decode cJ7_checkLength_df160 5 = .ok (.new 43, 3) := by decide +kernel
theorem dJ7_checkLength_df160_8 : decode cJ7_checkLength_df160 8 = .ok (.dup, 1) := by decide +kernel
theorem dJ7_checkLength_df160_9 : decode cJ7_checkLength_df160 9 = .ok (.new 45, 3) := by decide +kernel
theorem dJ7_checkLength_df160_12 : decode cJ7_checkLength_df160 12 = .ok (.dup, 1) := by decide +kernel
theorem dJ7_checkLength_df160_13 : decode cJ7_checkLength_df160 13 = .ok (.invokespecial 47, 3) := by decide +kernel
theorem dJ7_checkLength_df160_16 : decode cJ7_checkLength_df160 16 = .ok (.iload_n 0, 1) := by decide +kernel
theorem dJ7_checkLength_df160_17 : decode cJ7_checkLength_df160 17 = .ok (.invokevirtual 54, 3) := by decide +kernel
theorem dJ7_checkLength_df160_20 : decode cJ7_checkLength_df160 20 = .ok (.ldc_w 337, 3) := by decide +kernel
theorem dJ7_checkLength_df160_23 : decode cJ7_checkLength_df160 23 = .ok (.invokevirtual 50, 3) := by decide +kernel
theorem dJ7_checkLength_df160_26 : decode cJ7_checkLength_df160 26 = .ok (.iload_n 1, 1) := by decide +kernel
theorem dJ7_checkLength_df160_27 : decode cJ7_checkLength_df160 27 = .ok (.invokevirtual 54, 3) := by decide +kernel
theorem dJ7_checkLength_df160_30 : decode cJ7_checkLength_df160 30 = .ok (.invokevirtual 61, 3) := by decide +kernel
theorem dJ7_checkLength_df160_33 : decode cJ7_checkLength_df160 33 = .ok (.invokespecial 65, 3) := by decide +kernel
theorem dJ7_checkLength_df160_36 : decode cJ7_checkLength_df160 36 = .ok (.athrow, 1) := by decide +kernel
theorem dJ7_checkLength_df160_37 : decode cJ7_checkLength_df160 37 = .ok (.return_, 1) := by decide +kernel
theorem dJ7_copyOfRange_39247_0 : decode cJ7_copyOfRange_39247 0 = .ok (.iload_n 1, 1) := by decide +kernel
theorem dJ7_copyOfRange_39247_1 : decode cJ7_copyOfRange_39247 1 = .ok (.ifCond .ne 9, 3) := by decide +kernel
theorem dJ7_copyOfRange_39247_4 : decode cJ7_copyOfRange_39247 4 = .ok (.iload_n 2, 1) := by decide +kernel
theorem dJ7_copyOfRange_39247_5 : decode cJ7_copyOfRange_39247 5 = .ok (.aload_n 0, 1) := by decide +kernel
theorem dJ7_copyOfRange_39247_6 : decode cJ7_copyOfRange_39247 6 = .ok (.arraylength, 1) := by decide +kernel
theorem dJ7_copyOfRange_39247_7 : decode cJ7_copyOfRange_39247 7 = .ok (.if_icmp .eq 10, 3) := by decide +kernel
theorem dJ7_copyOfRange_39247_10 : decode cJ7_copyOfRange_39247 10 = .ok (.aload_n 0, 1) := by decide +kernel
theorem dJ7_copyOfRange_39247_11 : decode cJ7_copyOfRange_39247 11 = .ok (.iload_n 1, 1) := by decide +kernel
theorem dJ7_copyOfRange_39247_12 : decode cJ7_copyOfRange_39247 12 = .ok (.iload_n 2, 1) := by decide +kernel
theorem dJ7_copyOfRange_39247_13 : decode cJ7_copyOfRange_39247 13 = .ok (.invokestatic 339, 3) := by decide +kernel
theorem dJ7_copyOfRange_39247_16 : decode cJ7_copyOfRange_39247 16 = .ok (.areturn, 1) := by decide +kernel
theorem dJ7_copyOfRange_39247_17 : decode cJ7_copyOfRange_39247 17 = .ok (.aload_n 0, 1) := by decide +kernel
theorem dJ7_copyOfRange_39247_18 : decode cJ7_copyOfRange_39247 18 = .ok (.invokevirtual 310, 3) := by decide +kernel
theorem dJ7_copyOfRange_39247_21 : decode cJ7_copyOfRange_39247 21 = .ok (.checkcast 311, 3) := by decide +kernel
theorem dJ7_copyOfRange_39247_24 : decode cJ7_copyOfRange_39247 24 = .ok (.areturn, 1) := by decide +kernel
theorem dJ7_copyOfRangeByte_39247_0 : decode cJ7_copyOfRangeByte_39247 0 = .ok (.iload_n 1, 1) := by decide +kernel
theorem dJ7_copyOfRangeByte_39247_1 : decode cJ7_copyOfRangeByte_39247 1 = .ok (.iload_n 2, 1) := by decide +kernel
theorem dJ7_copyOfRangeByte_39247_2 : decode cJ7_copyOfRangeByte_39247 2 = .ok (.invokestatic 343, 3) := by decide +kernel
theorem dJ7_copyOfRangeByte_39247_5 : decode cJ7_copyOfRangeByte_39247 5 = .ok (.iload_n 2, 1) := by decide +kernel
theorem dJ7_copyOfRangeByte_39247_6 : decode cJ7_copyOfRangeByte_39247 6 = .ok (.iload_n 1, 1) := by decide +kernel
theorem dJ7_copyOfRangeByte_39247_7 : decode cJ7_copyOfRangeByte_39247 7 = .ok (.isub, 1) := by decide +kernel
theorem dJ7_copyOfRangeByte_39247_8 : decode cJ7_copyOfRangeByte_39247 8 = .ok (.istore_n 3, 1) := by decide +kernel
theorem dJ7_copyOfRangeByte_39247_9 : decode cJ7_copyOfRangeByte_39247 9 = .ok (.iload_n 3, 1) := by decide +kernel
theorem dJ7_copyOfRangeByte_39247_10 : decode cJ7_copyOfRangeByte_39247 10 = .ok (.newarray .byte, 2) := by decide +kernel
theorem dJ7_copyOfRangeByte_39247_12 : decode cJ7_copyOfRangeByte_39247 12 = .ok (.astore 4, 2) := by decide +kernel
theorem dJ7_copyOfRangeByte_39247_14 : decode cJ7_copyOfRangeByte_39247 14 = .ok (.aload_n 0, 1) := by decide +kernel
theorem dJ7_copyOfRangeByte_39247_15 : decode cJ7_copyOfRangeByte_39247 15 = .ok (.iload_n 1, 1) := by decide +kernel
theorem dJ7_copyOfRangeByte_39247_16 : decode cJ7_copyOfRangeByte_39247 16 = .ok (.aload 4, 2) := by decide +kernel
theorem dJ7_copyOfRangeByte_39247_18 : decode cJ7_copyOfRangeByte_39247 18 = .ok (.iconst 0, 1) := by decide +kernel
theorem dJ7_copyOfRangeByte_39247_19 : decode cJ7_copyOfRangeByte_39247 19 = .ok (.aload_n 0, 1) := by decide +kernel
theorem dJ7_copyOfRangeByte_39247_20 : decode cJ7_copyOfRangeByte_39247 20 = .ok (.arraylength, 1) := by decide +kernel
theorem dJ7_copyOfRangeByte_39247_21 : decode cJ7_copyOfRangeByte_39247 21 = .ok (.iload_n 1, 1) := by decide +kernel
theorem dJ7_copyOfRangeByte_39247_22 : decode cJ7_copyOfRangeByte_39247 22 = .ok (.isub, 1) := by decide +kernel
theorem dJ7_copyOfRangeByte_39247_23 : decode cJ7_copyOfRangeByte_39247 23 = .ok (.iload_n 3, 1) := by decide +kernel
theorem dJ7_copyOfRangeByte_39247_24 : decode cJ7_copyOfRangeByte_39247 24 = .ok (.invokestatic 304, 3) := by decide +kernel
theorem dJ7_copyOfRangeByte_39247_27 : decode cJ7_copyOfRangeByte_39247 27 = .ok (.invokestatic 150, 3) := by decide +kernel
theorem dJ7_copyOfRangeByte_39247_30 : decode cJ7_copyOfRangeByte_39247 30 = .ok (.aload 4, 2) := by decide +kernel
theorem dJ7_copyOfRangeByte_39247_32 : decode cJ7_copyOfRangeByte_39247 32 = .ok (.areturn, 1) := by decide +kernel
theorem dJ8_newLength_cabcc_0 : decode cJ8_newLength_cabcc 0 = .ok (.iload_n 0, 1) := by decide +kernel
theorem dJ8_newLength_cabcc_1 : decode cJ8_newLength_cabcc 1 = .ok (.iload_n 1, 1) := by decide +kernel
theorem dJ8_newLength_cabcc_2 : decode cJ8_newLength_cabcc 2 = .ok (.iload_n 2, 1) := by decide +kernel
theorem dJ8_newLength_cabcc_3 : decode cJ8_newLength_cabcc 3 = .ok (.invokestatic 194, 3) := by decide +kernel
theorem dJ8_newLength_cabcc_6 : decode cJ8_newLength_cabcc 6 = .ok (.iadd, 1) := by decide +kernel
theorem dJ8_newLength_cabcc_7 : decode cJ8_newLength_cabcc 7 = .ok (.istore_n 3, 1) := by decide +kernel
theorem dJ8_newLength_cabcc_8 : decode cJ8_newLength_cabcc 8 = .ok (.iconst 0, 1) := by decide +kernel
theorem dJ8_newLength_cabcc_9 : decode cJ8_newLength_cabcc 9 = .ok (.iload_n 3, 1) := by decide +kernel
theorem dJ8_newLength_cabcc_10 : decode cJ8_newLength_cabcc 10 = .ok (.if_icmp .ge 11, 3) := by decide +kernel
theorem dJ8_newLength_cabcc_13 : decode cJ8_newLength_cabcc 13 = .ok (.iload_n 3, 1) := by decide +kernel
theorem dJ8_newLength_cabcc_14 : decode cJ8_newLength_cabcc 14 = .ok (.ldc 200, 2) := by decide +kernel
theorem dJ8_newLength_cabcc_16 : decode cJ8_newLength_cabcc 16 = .ok (.if_icmp .gt 5, 3) := by decide +kernel
theorem dJ8_newLength_cabcc_19 : decode cJ8_newLength_cabcc 19 = .ok (.iload_n 3, 1) := by decide +kernel
theorem dJ8_newLength_cabcc_20 : decode cJ8_newLength_cabcc 20 = .ok (.ireturn, 1) := by decide +kernel
theorem dJ8_newLength_cabcc_21 : decode cJ8_newLength_cabcc 21 = .ok (.iload_n 0, 1) := by decide +kernel
theorem dJ8_newLength_cabcc_22 : decode cJ8_newLength_cabcc 22 = .ok (.iload_n 1, 1) := by decide +kernel
theorem dJ8_newLength_cabcc_23 : decode cJ8_newLength_cabcc 23 = .ok (.invokestatic 201, 3) := by decide +kernel
theorem dJ8_newLength_cabcc_26 : decode cJ8_newLength_cabcc 26 = .ok (.ireturn, 1) := by decide +kernel
def SBW (n q m : Nat) (sb : Nat) (a : Nat → Int32) (ca : Nat → ClassId) : va_W := [(sb, .inr (12, [.ref q, .int 0, .int 0, .int (nI n)])), (q, .inl (ca 1, m, .inl a))]
/-- the builder at sb holds the n letters of t; its room -/
def SBO (ca : Nat → ClassId) (sb : Nat) (t : Nat → Nat) (n : Nat) (W : va_W) : Prop := ∃ (q m : Nat) (a : Nat → Int32), W = [(sb, .inr (12, [.ref q, .int 0, .int 0, .int (nI n)])), (q, .inl (ca 1, m, .inl a))] ∧ n ≤ m ∧ 55 ≤ m ∧ m % 3 = 1 ∧ m ≤ 1024 ∧ sb_Lat t n a ∧ sb_Fit a
theorem sbI_add (a b : Nat) : nI a + nI b = nI (a + b) := by rw [nI_add]
theorem sbI_sub {a b : Nat} (h : b ≤ a) : nI a - nI b = nI (a - b) := pk_sub h
theorem sbI_le {a b : Nat} (ha : a < 2 ^ 31) (hb : b < 2 ^ 31) : nI a ≤ nI b ↔ a ≤ b := nI_leI ha hb
theorem cw_J1_canEncode_fc78d : CS yJ1_canEncode_fc78d cJ1_canEncode_fc78d 1 (some .boolean) 1 := ⟨st_J1_canEncode_fc78d, ini_J1, cd_J1_canEncode_fc78d, by decide +kernel⟩
set_option maxRecDepth 100000 in
set_option maxHeartbeats 4000000 in
theorem c_J1_canEncode_fc78d (l : Launch) (D : va_G) (ca : Nat → ClassId) (Z : State → Prop) (A : Nat → Prop) (hz : stb A Z) {Wd : va_W} {x0 : Int32} (h0 : x0 ≤ 255) : CB l yJ1_canEncode_fc78d (wsy yJ1_canEncode_fc78d cJ1_canEncode_fc78d 1 (some .boolean)) ({ frames := 0, cells := 0, slots := 0, locals := 12 } : Room) D ca Z A [.int x0] Wd (fun rv W1 => rv = some (.int 1) ∧ W1 = Wd) 0 0 := by
  intro hD
  refine Met.ofW (cc := cJ1_canEncode_fc78d) (maxL := 1) (ret := (some .boolean)) (by decide +kernel) rfl ?_
  intro p e s m args below meth c s₁ B hml hv
  obtain ⟨rfl, hP, hK, hZ, hA⟩ := hv
  have hx := B.exec
  have hb := B.bytes
  have hr := B.returns
  have hlocks := B.notSynchronized
  have hts : ∀ w ∈ ALL, w.before _ s = true := fun w hw => atoms_spec (ws := wsy yJ1_canEncode_fc78d cJ1_canEncode_fc78d 1 (some .boolean)) B.pre w (List.mem_cons_of_mem _ hw)
  have hown : s.vm.findClass RJ1 = some m.cls := findClass_of_methodNamed B.named
  have C : CX p s m _ c cJ1_canEncode_fc78d RJ1 1 D ca Z := ⟨hx, hb, hml, hown, hts, hK, hZ⟩
  have hS : va_S A s.heap s.heap [] := va_S.rf
  have hl := lv_entry ([.int x0]) (n := 1) (Nat.le_of_ble_eq_true rfl)
  rw [lg_entry_eq]
  generalize (lg_sl ([.int x0]) ++ List.replicate (1 - (lg_sl ([.int x0])).length) Slot.unset).toArray = ls at hl ⊢
  have hl : lv_has ls 1 [(0, .int x0)] := hl
  show W p l e ({ frames := 0, cells := 0, slots := 0, locals := 12 } : Room) s m _ below meth c s.heap [] 0 0 _ _
  refine lv_iload_n hx hb dJ1_canEncode_fc78d_0 rfl (lv_at hl 0 rfl) ?_
  refine lv_sipush (v := (255 : Int32)) hx hb dJ1_canEncode_fc78d_1 (by decide) ?_
  refine lv_icmp_gt (tgt := 11) hx hb dJ1_canEncode_fc78d_4 (by decide) (fun hc => absurd hc (Int32.not_lt.mpr h0)) (fun _ => ?_)
  refine lv_iconst (v := (1 : Int32)) hx hb dJ1_canEncode_fc78d_7 (by decide) ?_
  refine lv_goto (tgt := 12) hx hb dJ1_canEncode_fc78d_8 (by decide) ?_
  exact kb_i hx hb hr rfl hlocks hP hD hS (Nat.le_refl _) (Nat.le_refl _) ⟨rfl, rfl⟩ dJ1_canEncode_fc78d_12

theorem km_maxB {p : Program} {l : Launch} {e : Env} {R : Room} {s : State} {m : MethodId} {args : Array Value} {below : List Frame} {meth : Method} {c : Code} {H : Heap} {locs : List Loc} {cells slots : Nat} {Q : State → Prop} {cc : ByteArray} {pc : Nat} {ls : Array Slot} {rest : List Value} {own : String} {nL : Nat} {D : va_G} {ca : Nat → ClassId} {Z : State → Prop} {idx : Nat} {x y : Int32} (C : CX p s m args c cc own nL D ca Z) (hsz : ls.size = nL) (hlk : Cond.methodLink own idx Lib.Math.max.name ∈ ALL) (hrm : 1 ≤ R.frames ∧ (rest.map fun v => v.category).sum + 13 ≤ R.locals) (hcs : cells ≤ R.cells ∧ slots ≤ R.slots) (hdg : decode cc pc = .ok (.invokestatic idx, 3))
    (kk : W p l e R s m args below meth c H locs cells slots Q (F0 m (pc + 3) ls (.int (if x < y then y else x) :: rest))) : W p l e R s m args below meth c H locs cells slots Q (F0 m pc ls (.int y :: .int x :: rest)) := km_max C hsz hlk hrm hcs hdg kk
theorem cw_J8_newLength_cabcc : CS yJ8_newLength_cabcc cJ8_newLength_cabcc 4 (some .int) 3 := ⟨st_J8_newLength_cabcc, ini_J8, cd_J8_newLength_cabcc, by decide +kernel⟩
set_option maxRecDepth 100000 in
set_option maxHeartbeats 4000000 in
theorem c_J8_newLength_cabcc (l : Launch) (D : va_G) (ca : Nat → ClassId) (Z : State → Prop) (A : Nat → Prop) (hz : stb A Z) {Wd : va_W} {a0 a1 a2 : Nat} (h0 : a0 ≤ 100000) (h1 : a1 ≤ 100000) (h2 : a2 ≤ 100000) (hp : 0 < a0) : CB l yJ8_newLength_cabcc (wsy yJ8_newLength_cabcc cJ8_newLength_cabcc 4 (some .int)) ({ frames := 1, cells := 0, slots := 0, locals := 52 } : Room) D ca Z A [.int (nI a0), .int (nI a1), .int (nI a2)] Wd (fun rv W1 => rv = some (.int (nI (a0 + max a1 a2))) ∧ W1 = Wd) 0 0 := by
  intro hD
  refine Met.ofW (cc := cJ8_newLength_cabcc) (maxL := 4) (ret := (some .int)) (by decide +kernel) rfl ?_
  intro p e s m args below meth c s₁ B hml hv
  obtain ⟨rfl, hP, hK, hZ, hA⟩ := hv
  have hx := B.exec
  have hb := B.bytes
  have hr := B.returns
  have hlocks := B.notSynchronized
  have hts : ∀ w ∈ ALL, w.before _ s = true := fun w hw => atoms_spec (ws := wsy yJ8_newLength_cabcc cJ8_newLength_cabcc 4 (some .int)) B.pre w (List.mem_cons_of_mem _ hw)
  have hown : s.vm.findClass RJ8 = some m.cls := findClass_of_methodNamed B.named
  have C : CX p s m _ c cJ8_newLength_cabcc RJ8 4 D ca Z := ⟨hx, hb, hml, hown, hts, hK, hZ⟩
  have hS : va_S A s.heap s.heap [] := va_S.rf
  have hl := lv_entry ([.int (nI a0), .int (nI a1), .int (nI a2)]) (n := 4) (Nat.le_of_ble_eq_true rfl)
  rw [lg_entry_eq]
  generalize (lg_sl ([.int (nI a0), .int (nI a1), .int (nI a2)]) ++ List.replicate (4 - (lg_sl ([.int (nI a0), .int (nI a1), .int (nI a2)])).length) Slot.unset).toArray = ls at hl ⊢
  have hl : lv_has ls 4 [(0, .int (nI a0)), (1, .int (nI a1)), (2, .int (nI a2))] := hl
  show W p l e ({ frames := 1, cells := 0, slots := 0, locals := 52 } : Room) s m _ below meth c s.heap [] 0 0 _ _
  have hm : max a1 a2 ≤ 100000 := Nat.max_le.mpr ⟨h1, h2⟩
  refine lv_iload_n hx hb dJ8_newLength_cabcc_0 rfl (lv_at hl 0 rfl) ?_
  refine lv_iload_n hx hb dJ8_newLength_cabcc_1 rfl (lv_at hl 1 rfl) ?_
  refine lv_iload_n hx hb dJ8_newLength_cabcc_2 rfl (lv_at hl 2 rfl) ?_
  refine km_maxB C hl.1 ml_J8_194 ⟨Nat.le_of_ble_eq_true rfl, Nat.le_of_ble_eq_true rfl⟩ ⟨Nat.zero_le _, Nat.zero_le _⟩ dJ8_newLength_cabcc_3 ?_
  rw [show (if nI a1 < nI a2 then nI a2 else nI a1) = nI (max a1 a2) from by
      by_cases h : a1 < a2
      · rw [if_pos (nI_lt h (by omega)), Nat.max_eq_right (by omega)]
      · rw [if_neg (nI_nlt (by omega) (by omega)), Nat.max_eq_left (by omega)]]
  refine lv_iadd hx hb dJ8_newLength_cabcc_6 ?_
  rw [show (nI a0 + nI (max a1 a2)) = nI (a0 + max a1 a2) from sbI_add _ _]
  refine lv_istore_n (lv' := [(3, .int (nI (a0 + max a1 a2))), (0, .int (nI a0)), (1, .int (nI a1)), (2, .int (nI a2))]) hx hb dJ8_newLength_cabcc_7 rfl hl (by decide) rfl (fun ls hl => ?_)
  refine lv_iconst (v := (0 : Int32)) hx hb dJ8_newLength_cabcc_8 (by decide) ?_
  refine lv_iload_n hx hb dJ8_newLength_cabcc_9 rfl (lv_at hl 0 rfl) ?_
  refine lv_icmp_ge (tgt := 21) hx hb dJ8_newLength_cabcc_10 (by decide) (fun hc => absurd hc (fun h => absurd ((sbI_le (a := a0 + max a1 a2) (b := 0) (by omega) (by omega)).mp h) (by omega))) (fun _ => ?_)
  refine lv_iload_n hx hb dJ8_newLength_cabcc_13 rfl (lv_at hl 0 rfl) ?_
  refine lv_ldc (v := (2147483639 : Int32)) hx hb hown (hts _ kc_J8_200) dJ8_newLength_cabcc_14 ?_
  refine lv_icmp_gt (tgt := 21) hx hb dJ8_newLength_cabcc_16 (by decide) (fun hc => absurd hc (nI_nlt (a := 2147483639) (b := a0 + max a1 a2) (by omega) (by omega))) (fun _ => ?_)
  refine lv_iload_n hx hb dJ8_newLength_cabcc_19 rfl (lv_at hl 0 rfl) ?_
  exact kb_i hx hb hr rfl hlocks hP hD hS (Nat.le_refl _) (Nat.le_refl _) ⟨rfl, rfl⟩ dJ8_newLength_cabcc_20

theorem cw_J7_copyOf_9075b : CS yJ7_copyOf_9075b cJ7_copyOf_9075b 3 (some (.array .byte)) 2 := ⟨st_J7_copyOf_9075b, ini_J7, cd_J7_copyOf_9075b, by decide +kernel⟩
set_option maxRecDepth 100000 in
set_option maxHeartbeats 4000000 in
theorem c_J7_copyOf_9075b (l : Launch) (D : va_G) (ca : Nat → ClassId) (Z : State → Prop) (A : Nat → Prop) (hz : stb A Z) {x : Nat × va_E} {q mq k : Nat} {a : Nat → Int32} (hf : sb_Fit a) (hmk : mq < k) (hk : k ≤ 1024) : CB l yJ7_copyOf_9075b (wsy yJ7_copyOf_9075b cJ7_copyOf_9075b 3 (some (.array .byte))) ({ frames := 1, cells := 1, slots := 1024, locals := 52 } : Room) D ca Z A [.ref q, .int (nI k)] [x, (q, .inl (ca 1, mq, .inl a))] (fun rv W1 => ∃ q1, rv = some (.ref q1) ∧ W1 = [x, (q, .inl (ca 1, mq, .inl a)), (q1, .inl (ca 1, k, .inl (va_cpy a (fun _ => 0) 0 0 mq)))]) 1 1024 := by
  intro hD
  refine Met.ofW (cc := cJ7_copyOf_9075b) (maxL := 3) (ret := (some (.array .byte))) (by decide +kernel) rfl ?_
  intro p e s m args below meth c s₁ B hml hv
  obtain ⟨rfl, hP, hK, hZ, hA⟩ := hv
  have hx := B.exec
  have hb := B.bytes
  have hr := B.returns
  have hlocks := B.notSynchronized
  have hts : ∀ w ∈ ALL, w.before _ s = true := fun w hw => atoms_spec (ws := wsy yJ7_copyOf_9075b cJ7_copyOf_9075b 3 (some (.array .byte))) B.pre w (List.mem_cons_of_mem _ hw)
  have hown : s.vm.findClass RJ7 = some m.cls := findClass_of_methodNamed B.named
  have C : CX p s m _ c cJ7_copyOf_9075b RJ7 3 D ca Z := ⟨hx, hb, hml, hown, hts, hK, hZ⟩
  have hS : va_S A s.heap s.heap [] := va_S.rf
  have hl := lv_entry ([.ref q, .int (nI k)]) (n := 3) (Nat.le_of_ble_eq_true rfl)
  rw [lg_entry_eq]
  generalize (lg_sl ([.ref q, .int (nI k)]) ++ List.replicate (3 - (lg_sl ([.ref q, .int (nI k)])).length) Slot.unset).toArray = ls at hl ⊢
  have hl : lv_has ls 3 [(0, .ref q), (1, .int (nI k))] := hl
  show W p l e ({ frames := 1, cells := 1, slots := 1024, locals := 52 } : Room) s m _ below meth c s.heap [] 0 0 _ _
  refine lv_iload_n hx hb dJ7_copyOf_9075b_0 rfl (lv_at hl 1 rfl) ?_
  refine lv_aload_n hx hb dJ7_copyOf_9075b_1 rfl (lv_at hl 0 rfl) ?_
  refine va_alen hx hb hK hP 1 1 rfl rfl (v := nI mq) rfl dJ7_copyOf_9075b_2 ?_
  refine lv_icmp_ne (tgt := 14) hx hb dJ7_copyOf_9075b_3 (by decide) (fun _ => ?_) (fun hc => absurd ((nI_eq (a := k) (b := mq) (by omega) (by omega)).mp hc) (by omega))
  refine lv_iload_n hx hb dJ7_copyOf_9075b_14 rfl (lv_at hl 1 rfl) ?_
  refine rn_arr (X := []) (L := [x, (q, .inl (ca 1, mq, .inl a))]) (ty := .byte) (t0 := 1) (q0 := 1) (N' := k) (a0 := (k, .inl (fun _ => 0))) C rfl rfl (fun cA h1 h2 => Option.some.inj (h1.symm.trans h2)) ac__byte hP hD hS hA (fun _ => rfl) (nI_pos (by omega)) (nI_clamp (by omega)) (by show k * 1 ≤ 536870912; omega) (by show _ ≤ 1; omega) (by show _ ≤ 1024; omega) dJ7_copyOf_9075b_15 (fun q1 H hP hD hS => ?_)
  have hP : va_P D vwCl ([x, (q, .inl (ca 1, mq, .inl a)), (q1, .inl (ca 1, k, .inl (fun _ => 0)))]) H := hP
  have hD : va_D A ([x, (q, .inl (ca 1, mq, .inl a)), (q1, .inl (ca 1, k, .inl (fun _ => 0)))]) := hD
  refine lv_astore_n (lv' := [(2, .ref q1), (0, .ref q), (1, .int (nI k))]) hx hb dJ7_copyOf_9075b_17 rfl hl (by decide) rfl (fun ls hl => ?_)
  refine lv_aload_n hx hb dJ7_copyOf_9075b_18 rfl (lv_at hl 1 rfl) ?_
  refine lv_iconst (v := (0 : Int32)) hx hb dJ7_copyOf_9075b_19 (by decide) ?_
  refine lv_aload_n hx hb dJ7_copyOf_9075b_20 rfl (lv_at hl 0 rfl) ?_
  refine lv_iconst (v := (0 : Int32)) hx hb dJ7_copyOf_9075b_21 (by decide) ?_
  refine lv_aload_n hx hb dJ7_copyOf_9075b_22 rfl (lv_at hl 1 rfl) ?_
  refine va_alen hx hb hK hP 1 1 rfl rfl (v := nI mq) rfl dJ7_copyOf_9075b_23 ?_
  refine lv_iload_n hx hb dJ7_copyOf_9075b_24 rfl (lv_at hl 2 rfl) ?_
  refine km_min C hl.1 ml_J7_304 ⟨Nat.le_of_ble_eq_true rfl, Nat.le_of_ble_eq_true rfl⟩ ⟨Nat.le_of_ble_eq_true rfl, by show _ ≤ 1024; omega⟩ dJ7_copyOf_9075b_25 ?_
  rw [show (if (nI k) < (nI mq) then (nI k) else (nI mq)) = nI mq from if_neg (nI_nlt (by omega) (by omega))]
  refine va_copyi hx hb (hml.trans hl.1.symm) hown (hts _ ml_J7_150) (hts _ na_arraycopyName) (hts _ st_arraycopyName) (hts _ ini_java_lang_System) hK hP hD hS 1 2 1 1 rfl rfl rfl rfl rfl (by decide) (by decide) (nI_pos (by omega)) (by rw [nI_clamp (by omega), sb_cl0]; omega) (by rw [nI_clamp (by omega), sb_cl0]; omega) (fun i _ => hf _) (Nat.le_of_ble_eq_true rfl) (by decide) dJ7_copyOf_9075b_28 (fun H locs hP hD hS => ?_)
  rw [nI_clamp (show mq < 2 ^ 31 by omega), sb_cl0] at hP hD
  have hP : va_P D vwCl ([x, (q, .inl (ca 1, mq, .inl a)), (q1, .inl (ca 1, k, .inl (va_cpy a (fun _ => 0) 0 0 mq)))]) H := hP
  have hD : va_D A ([x, (q, .inl (ca 1, mq, .inl a)), (q1, .inl (ca 1, k, .inl (va_cpy a (fun _ => 0) 0 0 mq)))]) := hD
  refine lv_aload_n hx hb dJ7_copyOf_9075b_31 rfl (lv_at hl 0 rfl) ?_
  exact kb_a hx hb hr (Or.inr ⟨_, rfl⟩) hlocks hP hD hS (Nat.le_refl _) (by show _ ≤ 1024; omega) ⟨q1, rfl, rfl⟩ dJ7_copyOf_9075b_32

theorem cu_J5_newCapacity_0f7a4 : CU RJ4 RJ5 yJ5_newCapacity_0f7a4 yJ5_newCapacity_0f7a4 cJ5_newCapacity_0f7a4 6 (some .int) 1 := ⟨sm_AbstractStringBuilder_AbstractStringBuilder_newCapacity_6, se_J5_newCapacity_0f7a4, im_J5_newCapacity_0f7a4, ini_J5, cd_J5_newCapacity_0f7a4, by decide +kernel⟩
set_option maxRecDepth 100000 in
set_option maxHeartbeats 4000000 in
theorem c_J5_newCapacity_0f7a4 (l : Launch) (D : va_G) (ca : Nat → ClassId) (Z : State → Prop) (A : Nat → Prop) (hz : stb A Z) {sb q mq n k : Nat} {a : Nat → Int32} (h1 : mq < k) (h2 : k ≤ mq + mq + 2) (h3 : 55 ≤ mq) (h4 : mq ≤ 1024) : CB l yJ5_newCapacity_0f7a4 (wsy yJ5_newCapacity_0f7a4 cJ5_newCapacity_0f7a4 6 (some .int)) ({ frames := 2, cells := 0, slots := 0, locals := 92 } : Room) D ca Z A [.ref sb, .int (nI k)] [(sb, .inr (12, [.ref q, .int 0, .int 0, .int (nI n)])), (q, .inl (ca 1, mq, .inl a))] (fun rv W1 => rv = some (.int (nI (mq + mq + 2))) ∧ W1 = [(sb, .inr (12, [.ref q, .int 0, .int 0, .int (nI n)])), (q, .inl (ca 1, mq, .inl a))]) 0 0 := by
  intro hD
  refine Met.ofW (cc := cJ5_newCapacity_0f7a4) (maxL := 6) (ret := (some .int)) (by decide +kernel) rfl ?_
  intro p e s m args below meth c s₁ B hml hv
  obtain ⟨rfl, hP, hK, hZ, hA⟩ := hv
  have hx := B.exec
  have hb := B.bytes
  have hr := B.returns
  have hlocks := B.notSynchronized
  have hts : ∀ w ∈ ALL, w.before _ s = true := fun w hw => atoms_spec (ws := wsy yJ5_newCapacity_0f7a4 cJ5_newCapacity_0f7a4 6 (some .int)) B.pre w (List.mem_cons_of_mem _ hw)
  have hown : s.vm.findClass RJ5 = some m.cls := findClass_of_methodNamed B.named
  have C : CX p s m _ c cJ5_newCapacity_0f7a4 RJ5 6 D ca Z := ⟨hx, hb, hml, hown, hts, hK, hZ⟩
  have hS : va_S A s.heap s.heap [] := va_S.rf
  have hl := lv_entry ([.ref sb, .int (nI k)]) (n := 6) (Nat.le_of_ble_eq_true rfl)
  rw [lg_entry_eq]
  generalize (lg_sl ([.ref sb, .int (nI k)]) ++ List.replicate (6 - (lg_sl ([.ref sb, .int (nI k)])).length) Slot.unset).toArray = ls at hl ⊢
  have hl : lv_has ls 6 [(0, .ref sb), (1, .int (nI k))] := hl
  show W p l e ({ frames := 2, cells := 0, slots := 0, locals := 92 } : Room) s m _ below meth c s.heap [] 0 0 _ _
  refine lv_aload_n hx hb dJ5_newCapacity_0f7a4_0 rfl (lv_at hl 0 rfl) ?_
  refine va_get (D := D) (ci := 12) (v := .ref q) (C := RJ4) (T := TJ4) (N := 4) hx hb hts in_wsJ40 hown hK hP 0 rfl rfl 0 (by decide) (hts _ lk_J5_15) (fun _ h9 => h9) rfl dJ5_newCapacity_0f7a4_1 ?_
  refine va_alen hx hb hK hP 1 1 rfl rfl (v := nI mq) rfl dJ5_newCapacity_0f7a4_4 ?_
  refine lv_istore_n (lv' := [(2, .int (nI mq)), (0, .ref sb), (1, .int (nI k))]) hx hb dJ5_newCapacity_0f7a4_5 rfl hl (by decide) rfl (fun ls hl => ?_)
  refine lv_iload_n hx hb dJ5_newCapacity_0f7a4_6 rfl (lv_at hl 2 rfl) ?_
  refine lv_aload_n hx hb dJ5_newCapacity_0f7a4_7 rfl (lv_at hl 1 rfl) ?_
  refine va_get (D := D) (ci := 12) (v := .int 0) (C := RJ4) (T := TJ4) (N := 4) hx hb hts in_wsJ40 hown hK hP 0 rfl rfl 1 (by decide) (hts _ lk_J5_22) (fun _ h9 => h9) rfl dJ5_newCapacity_0f7a4_8 ?_
  refine lv_ishl hx hb dJ5_newCapacity_0f7a4_11 ?_
  rw [show (nI k <<< (0 &&& 31)) = nI k from sb_shl0 _]
  refine lv_istore_n (lv' := [(3, .int (nI k)), (2, .int (nI mq)), (0, .ref sb), (1, .int (nI k))]) hx hb dJ5_newCapacity_0f7a4_12 rfl hl (by decide) rfl (fun ls hl => ?_)
  refine lv_iload_n hx hb dJ5_newCapacity_0f7a4_13 rfl (lv_at hl 0 rfl) ?_
  refine lv_iload_n hx hb dJ5_newCapacity_0f7a4_14 rfl (lv_at hl 1 rfl) ?_
  refine lv_isub hx hb dJ5_newCapacity_0f7a4_15 ?_
  rw [show (nI k - nI mq) = nI (k - mq) from sbI_sub (by omega)]
  refine lv_istore (lv' := [(4, .int (nI (k - mq))), (3, .int (nI k)), (2, .int (nI mq)), (0, .ref sb), (1, .int (nI k))]) hx hb dJ5_newCapacity_0f7a4_16 hl (by decide) rfl (fun ls hl => ?_)
  refine lv_iload_n hx hb dJ5_newCapacity_0f7a4_18 rfl (lv_at hl 2 rfl) ?_
  refine lv_iload hx hb dJ5_newCapacity_0f7a4_19 (lv_at hl 0 rfl) ?_
  refine lv_iload_n hx hb dJ5_newCapacity_0f7a4_21 rfl (lv_at hl 2 rfl) ?_
  refine lv_iconst (v := (2 : Int32)) hx hb dJ5_newCapacity_0f7a4_22 (by decide) ?_
  refine lv_aload_n hx hb dJ5_newCapacity_0f7a4_23 rfl (lv_at hl 3 rfl) ?_
  refine va_get (D := D) (ci := 12) (v := .int 0) (C := RJ4) (T := TJ4) (N := 4) hx hb hts in_wsJ40 hown hK hP 0 rfl rfl 1 (by decide) (hts _ lk_J5_22) (fun _ h9 => h9) rfl dJ5_newCapacity_0f7a4_24 ?_
  refine lv_ishl hx hb dJ5_newCapacity_0f7a4_27 ?_
  rw [show ((2 : Int32) <<< (0 &&& 31)) = nI 2 from sb_shl0 _]
  refine lv_iadd hx hb dJ5_newCapacity_0f7a4_28 ?_
  rw [show (nI mq + nI 2) = nI (mq + 2) from sbI_add _ _]
  refine kb_S (As := [.int (nI mq), .int (nI (k - mq)), .int (nI (mq + 2))]) (rest := []) hz hA C hP hD hS hl.1 cw_J8_newLength_cabcc ml_J5_114 (c_J8_newLength_cabcc l D ca Z A hz (a0 := mq) (a1 := k - mq) (a2 := mq + 2) (by omega) (by omega) (by omega) (by omega)) rfl ⟨rfl, rfl⟩ ⟨Nat.le_of_ble_eq_true rfl, Nat.le_of_ble_eq_true rfl⟩ ⟨Nat.zero_le _, Nat.zero_le _⟩ (Nat.le_of_ble_eq_true rfl) rfl dJ5_newCapacity_0f7a4_29 (fun rv W1 H locs hpost hD hP hS => ?_)
  obtain ⟨rfl, rfl⟩ := hpost
  rw [show mq + max (k - mq) (mq + 2) = mq + mq + 2 from by rw [Nat.max_eq_right (by omega)]; omega]
  show W p l e _ s m _ below meth c H locs _ _ _ (F0 m 32 ls (.int (nI (mq + mq + 2)) :: []))
  refine lv_istore (lv' := [(5, .int (nI (mq + mq + 2))), (4, .int (nI (k - mq))), (3, .int (nI k)), (2, .int (nI mq)), (0, .ref sb), (1, .int (nI k))]) hx hb dJ5_newCapacity_0f7a4_32 hl (by decide) rfl (fun ls hl => ?_)
  refine lv_iload hx hb dJ5_newCapacity_0f7a4_34 (lv_at hl 0 rfl) ?_
  refine lv_ldc (v := (2147483647 : Int32)) hx hb hown (hts _ kc_J5_39) dJ5_newCapacity_0f7a4_36 ?_
  refine lv_icmp_ne (tgt := 51) hx hb dJ5_newCapacity_0f7a4_38 (by decide) (fun _ => ?_) (fun hc => absurd ((nI_eq (a := mq + mq + 2) (b := 2147483647) (by omega) (by omega)).mp hc) (by omega))
  refine lv_iload hx hb dJ5_newCapacity_0f7a4_51 (lv_at hl 0 rfl) ?_
  refine lv_aload_n hx hb dJ5_newCapacity_0f7a4_53 rfl (lv_at hl 4 rfl) ?_
  refine va_get (D := D) (ci := 12) (v := .int 0) (C := RJ4) (T := TJ4) (N := 4) hx hb hts in_wsJ40 hown hK hP 0 rfl rfl 1 (by decide) (hts _ lk_J5_22) (fun _ h9 => h9) rfl dJ5_newCapacity_0f7a4_54 ?_
  refine lv_ishr hx hb dJ5_newCapacity_0f7a4_57 ?_
  rw [show (nI (mq + mq + 2) >>> (0 &&& 31)) = nI (mq + mq + 2) from sb_shr0 _]
  exact kb_i hx hb hr rfl hlocks hP hD hS (Nat.le_refl _) (Nat.le_refl _) ⟨rfl, rfl⟩ dJ5_newCapacity_0f7a4_58

theorem sb_subn {k m : Nat} (h : k ≤ m) (hm : m < 100000) : nI k - nI m ≤ 0 := by
  rw [Int32.le_iff_toInt_le, pk_sub_toInt (by omega) (by omega), Int32.toInt_zero]; omega
theorem sb_subp {k m : Nat} (h : m < k) (hk : k < 100000) : ¬ nI k - nI m ≤ 0 := by
  rw [Int32.le_iff_toInt_le, pk_sub_toInt (by omega) (by omega), Int32.toInt_zero]; omega
theorem cu_J5_ensureCapacityInternal_d00df : CU RJ4 RJ5 yJ5_ensureCapacityInternal_d00df yJ5_ensureCapacityInternal_d00df cJ5_ensureCapacityInternal_d00df 3 none 1 := ⟨sm_AbstractStringBuilder_AbstractStringBuilder_ensureCapacityInternal_6, se_J5_ensureCapacityInternal_d00df, im_J5_ensureCapacityInternal_d00df, ini_J5, cd_J5_ensureCapacityInternal_d00df, by decide +kernel⟩
set_option maxRecDepth 100000 in
set_option maxHeartbeats 4000000 in
theorem c_J5_ensureCapacityInternal_d00df (l : Launch) (D : va_G) (ca : Nat → ClassId) (Z : State → Prop) (A : Nat → Prop) (hz : stb A Z) {sb q mq n k : Nat} {a : Nat → Int32} (h2 : k ≤ mq + mq + 2) (h3 : 55 ≤ mq) (h4 : mq ≤ 1024) (h5 : k ≤ 480) (h6 : mq % 3 = 1) (hf : sb_Fit a) : CB l yJ5_ensureCapacityInternal_d00df (wsy yJ5_ensureCapacityInternal_d00df cJ5_ensureCapacityInternal_d00df 3 none) ({ frames := 4, cells := 1, slots := 1024, locals := 172 } : Room) D ca Z A [.ref sb, .int (nI k)] [(sb, .inr (12, [.ref q, .int 0, .int 0, .int (nI n)])), (q, .inl (ca 1, mq, .inl a))] (fun rv W1 => rv = none ∧ ∃ (q1 m1 : Nat) (a1 : Nat → Int32), W1 = [(sb, .inr (12, [.ref q1, .int 0, .int 0, .int (nI n)])), (q1, .inl (ca 1, m1, .inl a1))] ∧ k ≤ m1 ∧ 55 ≤ m1 ∧ m1 % 3 = 1 ∧ m1 ≤ 1024 ∧ sb_Fit a1 ∧ ∀ j, j < mq → a1 j = a j) 1 1024 := by
  intro hD
  refine Met.ofW (cc := cJ5_ensureCapacityInternal_d00df) (maxL := 3) (ret := none) (by decide +kernel) rfl ?_
  intro p e s m args below meth c s₁ B hml hv
  obtain ⟨rfl, hP, hK, hZ, hA⟩ := hv
  have hx := B.exec
  have hb := B.bytes
  have hr := B.returns
  have hlocks := B.notSynchronized
  have hts : ∀ w ∈ ALL, w.before _ s = true := fun w hw => atoms_spec (ws := wsy yJ5_ensureCapacityInternal_d00df cJ5_ensureCapacityInternal_d00df 3 none) B.pre w (List.mem_cons_of_mem _ hw)
  have hown : s.vm.findClass RJ5 = some m.cls := findClass_of_methodNamed B.named
  have C : CX p s m _ c cJ5_ensureCapacityInternal_d00df RJ5 3 D ca Z := ⟨hx, hb, hml, hown, hts, hK, hZ⟩
  have hS : va_S A s.heap s.heap [] := va_S.rf
  have hl := lv_entry ([.ref sb, .int (nI k)]) (n := 3) (Nat.le_of_ble_eq_true rfl)
  rw [lg_entry_eq]
  generalize (lg_sl ([.ref sb, .int (nI k)]) ++ List.replicate (3 - (lg_sl ([.ref sb, .int (nI k)])).length) Slot.unset).toArray = ls at hl ⊢
  have hl : lv_has ls 3 [(0, .ref sb), (1, .int (nI k))] := hl
  show W p l e ({ frames := 4, cells := 1, slots := 1024, locals := 172 } : Room) s m _ below meth c s.heap [] 0 0 _ _
  refine lv_aload_n hx hb dJ5_ensureCapacityInternal_d00df_0 rfl (lv_at hl 0 rfl) ?_
  refine va_get (D := D) (ci := 12) (v := .ref q) (C := RJ4) (T := TJ4) (N := 4) hx hb hts in_wsJ40 hown hK hP 0 rfl rfl 0 (by decide) (hts _ lk_J5_15) (fun _ h9 => h9) rfl dJ5_ensureCapacityInternal_d00df_1 ?_
  refine va_alen hx hb hK hP 1 1 rfl rfl (v := nI mq) rfl dJ5_ensureCapacityInternal_d00df_4 ?_
  refine lv_aload_n hx hb dJ5_ensureCapacityInternal_d00df_5 rfl (lv_at hl 0 rfl) ?_
  refine va_get (D := D) (ci := 12) (v := .int 0) (C := RJ4) (T := TJ4) (N := 4) hx hb hts in_wsJ40 hown hK hP 0 rfl rfl 1 (by decide) (hts _ lk_J5_22) (fun _ h9 => h9) rfl dJ5_ensureCapacityInternal_d00df_6 ?_
  refine lv_ishr hx hb dJ5_ensureCapacityInternal_d00df_9 ?_
  rw [show (nI mq >>> (0 &&& 31)) = nI mq from sb_shr0 _]
  refine lv_istore_n (lv' := [(2, .int (nI mq)), (0, .ref sb), (1, .int (nI k))]) hx hb dJ5_ensureCapacityInternal_d00df_10 rfl hl (by decide) rfl (fun ls hl => ?_)
  refine lv_iload_n hx hb dJ5_ensureCapacityInternal_d00df_11 rfl (lv_at hl 2 rfl) ?_
  refine lv_iload_n hx hb dJ5_ensureCapacityInternal_d00df_12 rfl (lv_at hl 0 rfl) ?_
  refine lv_isub hx hb dJ5_ensureCapacityInternal_d00df_13 ?_
  by_cases hk : k ≤ mq
  · refine lv_if_le (tgt := 38) hx hb dJ5_ensureCapacityInternal_d00df_14 (by decide) (fun _ => ?_) (fun hc => absurd (sb_subn hk (by omega)) hc)
    exact kb_v hx hb hr hlocks hP hD hS (Nat.zero_le _) (Nat.zero_le _) ⟨rfl, q, mq, a, rfl, hk, h3, h6, h4, hf, fun _ _ => rfl⟩ dJ5_ensureCapacityInternal_d00df_38
  refine lv_if_le (tgt := 38) hx hb dJ5_ensureCapacityInternal_d00df_14 (by decide) (fun hc => absurd hc (sb_subp (by omega) (by omega))) (fun _ => ?_)
  refine lv_aload_n hx hb dJ5_ensureCapacityInternal_d00df_17 rfl (lv_at hl 1 rfl) ?_
  refine lv_aload_n hx hb dJ5_ensureCapacityInternal_d00df_18 rfl (lv_at hl 1 rfl) ?_
  refine va_get (D := D) (ci := 12) (v := .ref q) (C := RJ4) (T := TJ4) (N := 4) hx hb hts in_wsJ40 hown hK hP 0 rfl rfl 0 (by decide) (hts _ lk_J5_15) (fun _ h9 => h9) rfl dJ5_ensureCapacityInternal_d00df_19 ?_
  refine lv_aload_n hx hb dJ5_ensureCapacityInternal_d00df_22 rfl (lv_at hl 1 rfl) ?_
  refine lv_iload_n hx hb dJ5_ensureCapacityInternal_d00df_23 rfl (lv_at hl 2 rfl) ?_
  refine kb_U (j := 0) (As := [.int (nI k)]) (rest := [.ref q, .ref sb]) hz hA C hP hD hS hl.1 rfl rfl cu_J5_newCapacity_0f7a4 rfl ml_J5_104 (c_J5_newCapacity_0f7a4 l D ca Z A hz (by omega) h2 h3 h4) rfl ⟨rfl, rfl⟩ ⟨Nat.le_of_ble_eq_true rfl, Nat.le_of_ble_eq_true rfl⟩ ⟨Nat.zero_le _, Nat.zero_le _⟩ (Nat.le_of_ble_eq_true rfl) rfl dJ5_ensureCapacityInternal_d00df_24 (fun rv W1 H locs hpost hD hP hS => ?_)
  obtain ⟨rfl, rfl⟩ := hpost
  show W p l e _ s m _ below meth c H locs _ _ _ (F0 m 27 ls (.int (nI (mq + mq + 2)) :: [.ref q, .ref sb]))
  refine lv_aload_n hx hb dJ5_ensureCapacityInternal_d00df_27 rfl (lv_at hl 1 rfl) ?_
  refine va_get (D := D) (ci := 12) (v := .int 0) (C := RJ4) (T := TJ4) (N := 4) hx hb hts in_wsJ40 hown hK hP 0 rfl rfl 1 (by decide) (hts _ lk_J5_22) (fun _ h9 => h9) rfl dJ5_ensureCapacityInternal_d00df_28 ?_
  refine lv_ishl hx hb dJ5_ensureCapacityInternal_d00df_31 ?_
  rw [show (nI (mq + mq + 2) <<< (0 &&& 31)) = nI (mq + mq + 2) from sb_shl0 _]
  refine kb_S (As := [.ref q, .int (nI (mq + mq + 2))]) (rest := [.ref sb]) hz hA C hP hD hS hl.1 cw_J7_copyOf_9075b ml_J5_108 (c_J7_copyOf_9075b l D ca Z A hz (k := mq + mq + 2) hf (by omega) (by omega)) rfl ⟨rfl, rfl⟩ ⟨Nat.le_of_ble_eq_true rfl, Nat.le_of_ble_eq_true rfl⟩ ⟨Nat.le_of_ble_eq_true rfl, Nat.le_of_ble_eq_true rfl⟩ (Nat.le_of_ble_eq_true rfl) rfl dJ5_ensureCapacityInternal_d00df_32 (fun rv W1 H locs hpost hD hP hS => ?_)
  obtain ⟨q1, rfl, rfl⟩ := hpost
  show W p l e _ s m _ below meth c H locs _ _ _ (F0 m 35 ls (.ref q1 :: [.ref sb]))
  refine va_put (D := D) (ci := 12) (v := .ref q1) (ty := tyJ4 0) (C := RJ4) (T := TJ4) (N := 4) hx hb hts in_wsJ40 tyJ4 tyJ4_ok nmJ4 hown hK hP hD hS 0 rfl rfl 0 (by decide) (hts _ lk_J5_15) (fun _ h9 => h9) rfl rfl rfl rfl (Nat.le_of_ble_eq_true rfl) dJ5_ensureCapacityInternal_d00df_35 (fun H locs hP hD hS => ?_)
  have hP : va_P D vwCl ([(sb, .inr (12, [.ref q1, .int 0, .int 0, .int (nI n)])), (q, .inl (ca 1, mq, .inl a)), (q1, .inl (ca 1, mq + mq + 2, .inl (va_cpy a (fun _ => 0) 0 0 mq)))]) H := hP
  have hD : va_D A ([(sb, .inr (12, [.ref q1, .int 0, .int 0, .int (nI n)])), (q, .inl (ca 1, mq, .inl a)), (q1, .inl (ca 1, mq + mq + 2, .inl (va_cpy a (fun _ => 0) 0 0 mq)))]) := hD
  have hP := va_P_mem hP (Y := [(sb, .inr (12, [.ref q1, .int 0, .int 0, .int (nI n)])), (q1, .inl (ca 1, mq + mq + 2, .inl (va_cpy a (fun _ => 0) 0 0 mq)))]) (fun x hx => by simp only [List.mem_cons, List.not_mem_nil, or_false] at hx ⊢; rcases hx with h | h <;> simp [h])
  have hD := va_D_3 hD
  exact kb_v hx hb hr hlocks hP hD hS (Nat.le_refl _) (Nat.le_refl _) ⟨rfl, q1, mq + mq + 2, _, rfl, by omega, by omega, by omega, by omega, sb_fitC hf sb_fit0, fun j hj => sb_cpy0 hj⟩ dJ5_ensureCapacityInternal_d00df_38

theorem cu_J5_isLatin1_aae02 : CU RJ4 RJ5 yJ5_isLatin1_aae02 yJ5_isLatin1_aae02 cJ5_isLatin1_aae02 1 (some .boolean) 0 := ⟨sm_AbstractStringBuilder_AbstractStringBuilder_isLatin1_5, se_J5_isLatin1_aae02, im_J5_isLatin1_aae02, ini_J5, cd_J5_isLatin1_aae02, by decide +kernel⟩
set_option maxRecDepth 100000 in
set_option maxHeartbeats 4000000 in
theorem c_J5_isLatin1_aae02 (l : Launch) (D : va_G) (ca : Nat → ClassId) (Z : State → Prop) (A : Nat → Prop) (hz : stb A Z) {sb q n : Nat} {Wd : va_W} (j : Nat) (hcs : ∀ U, Z U → CSZ A U) (hj : Wd[j]? = some (sb, .inr (12, [.ref q, .int 0, .int 0, .int (nI n)]))) : CB l yJ5_isLatin1_aae02 (wsy yJ5_isLatin1_aae02 cJ5_isLatin1_aae02 1 (some .boolean)) ({ frames := 0, cells := 0, slots := 0, locals := 12 } : Room) D ca Z A [.ref sb] Wd (fun rv W1 => rv = some (.int 1) ∧ W1 = Wd) 0 0 := by
  intro hD
  refine Met.ofW (cc := cJ5_isLatin1_aae02) (maxL := 1) (ret := (some .boolean)) (by decide +kernel) rfl ?_
  intro p e s m args below meth c s₁ B hml hv
  obtain ⟨rfl, hP, hK, hZ, hA⟩ := hv
  have hx := B.exec
  have hb := B.bytes
  have hr := B.returns
  have hlocks := B.notSynchronized
  have hts : ∀ w ∈ ALL, w.before _ s = true := fun w hw => atoms_spec (ws := wsy yJ5_isLatin1_aae02 cJ5_isLatin1_aae02 1 (some .boolean)) B.pre w (List.mem_cons_of_mem _ hw)
  have hown : s.vm.findClass RJ5 = some m.cls := findClass_of_methodNamed B.named
  have C : CX p s m _ c cJ5_isLatin1_aae02 RJ5 1 D ca Z := ⟨hx, hb, hml, hown, hts, hK, hZ⟩
  have hS : va_S A s.heap s.heap [] := va_S.rf
  have hl := lv_entry ([.ref sb]) (n := 1) (Nat.le_of_ble_eq_true rfl)
  rw [lg_entry_eq]
  generalize (lg_sl ([.ref sb]) ++ List.replicate (1 - (lg_sl ([.ref sb])).length) Slot.unset).toArray = ls at hl ⊢
  have hl : lv_has ls 1 [(0, .ref sb)] := hl
  show W p l e ({ frames := 0, cells := 0, slots := 0, locals := 12 } : Room) s m _ below meth c s.heap [] 0 0 _ _
  refine va_gets hx hb (hcs s hZ).1 hS hown (hts _ lk_J5_18) (fun _ h9 => h9) dJ5_isLatin1_aae02_0 ?_
  refine lv_if_eq (tgt := 17) hx hb dJ5_isLatin1_aae02_3 (by decide) (fun hc => absurd hc (by decide)) (fun _ => ?_)
  refine lv_aload_n hx hb dJ5_isLatin1_aae02_6 rfl (lv_at hl 0 rfl) ?_
  refine va_get (D := D) (ci := 12) (v := .int 0) (C := RJ4) (T := TJ4) (N := 4) hx hb hts in_wsJ40 hown hK hP j hj rfl 1 (by decide) (hts _ lk_J5_22) (fun _ h9 => h9) rfl dJ5_isLatin1_aae02_7 ?_
  refine lv_if_ne (tgt := 17) hx hb dJ5_isLatin1_aae02_10 (by decide) (fun hc => absurd rfl hc) (fun _ => ?_)
  refine lv_iconst (v := (1 : Int32)) hx hb dJ5_isLatin1_aae02_13 (by decide) ?_
  refine lv_goto (tgt := 18) hx hb dJ5_isLatin1_aae02_14 (by decide) ?_
  exact kb_i hx hb hr rfl hlocks hP hD hS (Nat.le_refl _) (Nat.le_refl _) ⟨rfl, rfl⟩ dJ5_isLatin1_aae02_18

theorem sb_nar (c : Nat) : vp_nar .byte (nI c).toInt8.toInt32 = sb_b c := by
  rw [pk_vb]; rfl
theorem cv_J5_append_3fe6f : CSU RJ4 yJ5_append_3fe6f cJ5_append_3fe6f 2 (some (.object "java/lang/AbstractStringBuilder")) 1 := ⟨sm_AbstractStringBuilder_AbstractStringBuilder_append_38, su_J4_J5, im_J5_append_3fe6f, ini_J5, cd_J5_append_3fe6f, by decide +kernel⟩
set_option maxRecDepth 100000 in
set_option maxHeartbeats 4000000 in
theorem c_J5_append_3fe6f (l : Launch) (D : va_G) (ca : Nat → ClassId) (Z : State → Prop) (A : Nat → Prop) (hz : stb A Z) {sb n ch : Nat} {t : Nat → Nat} {q mq : Nat} {a : Nat → Int32} (hcs : ∀ U, Z U → CSZ A U) (hc : ch < 128) (hn : n + 1 ≤ 480) (g1 : n ≤ mq) (g2 : 55 ≤ mq) (g3 : mq % 3 = 1) (g4 : mq ≤ 1024) (g5 : sb_Lat t n a) (g6 : sb_Fit a) : CB l yJ5_append_3fe6f (wsy yJ5_append_3fe6f cJ5_append_3fe6f 2 (some (.object "java/lang/AbstractStringBuilder"))) ({ frames := 5, cells := 1, slots := 1024, locals := 212 } : Room) D ca Z A [.ref sb, .int (nI ch)] [(sb, .inr (12, [.ref q, .int 0, .int 0, .int (nI n)])), (q, .inl (ca 1, mq, .inl a))] (fun rv W1 => rv = some (.ref sb) ∧ SBO ca sb (sb_cat t n (fun _ => ch)) (n + 1) W1) 1 1024 := by
  intro hD
  refine Met.ofW (cc := cJ5_append_3fe6f) (maxL := 2) (ret := (some (.object "java/lang/AbstractStringBuilder"))) (by decide +kernel) rfl ?_
  intro p e s m args below meth c s₁ B hml hv
  obtain ⟨rfl, hP, hK, hZ, hA⟩ := hv
  have hx := B.exec
  have hb := B.bytes
  have hr := B.returns
  have hlocks := B.notSynchronized
  have hts : ∀ w ∈ ALL, w.before _ s = true := fun w hw => atoms_spec (ws := wsy yJ5_append_3fe6f cJ5_append_3fe6f 2 (some (.object "java/lang/AbstractStringBuilder"))) B.pre w (List.mem_cons_of_mem _ hw)
  have hown : s.vm.findClass RJ5 = some m.cls := findClass_of_methodNamed B.named
  have C : CX p s m _ c cJ5_append_3fe6f RJ5 2 D ca Z := ⟨hx, hb, hml, hown, hts, hK, hZ⟩
  have hS : va_S A s.heap s.heap [] := va_S.rf
  have hl := lv_entry ([.ref sb, .int (nI ch)]) (n := 2) (Nat.le_of_ble_eq_true rfl)
  rw [lg_entry_eq]
  generalize (lg_sl ([.ref sb, .int (nI ch)]) ++ List.replicate (2 - (lg_sl ([.ref sb, .int (nI ch)])).length) Slot.unset).toArray = ls at hl ⊢
  have hl : lv_has ls 2 [(0, .ref sb), (1, .int (nI ch))] := hl
  show W p l e ({ frames := 5, cells := 1, slots := 1024, locals := 212 } : Room) s m _ below meth c s.heap [] 0 0 _ _
  refine lv_aload_n hx hb dJ5_append_3fe6f_0 rfl (lv_at hl 0 rfl) ?_
  refine lv_aload_n hx hb dJ5_append_3fe6f_1 rfl (lv_at hl 0 rfl) ?_
  refine va_get (D := D) (ci := 12) (v := .int (nI n)) (C := RJ4) (T := TJ4) (N := 4) hx hb hts in_wsJ40 hown hK hP 0 rfl rfl 3 (by decide) (hts _ lk_J5_79) (fun _ h9 => h9) rfl dJ5_append_3fe6f_2 ?_
  refine lv_iconst (v := (1 : Int32)) hx hb dJ5_append_3fe6f_5 (by decide) ?_
  refine lv_iadd hx hb dJ5_append_3fe6f_6 ?_
  rw [show nI n + (1 : Int32) = nI (n + 1) from sbI_add n 1]
  refine kb_U (j := 0) (As := [.int (nI (n + 1))]) (rest := []) hz hA C hP hD hS hl.1 rfl rfl cu_J5_ensureCapacityInternal_d00df rfl ml_J5_100 (c_J5_ensureCapacityInternal_d00df l D ca Z A hz (by omega) g2 g4 (by omega) g3 g6) rfl ⟨rfl, rfl⟩ ⟨Nat.le_of_ble_eq_true rfl, Nat.le_of_ble_eq_true rfl⟩ ⟨Nat.le_of_ble_eq_true rfl, Nat.le_of_ble_eq_true rfl⟩ (Nat.le_of_ble_eq_true rfl) rfl dJ5_append_3fe6f_7 (fun rv W1 H locs hpost hD hP hS => ?_)
  obtain ⟨rfl, q1, m1, a1, rfl, k1, k2, k3, k4, k5, k6⟩ := hpost
  show W p l e _ s m _ below meth c H locs _ _ _ (F0 m 10 ls [])
  refine lv_aload_n hx hb dJ5_append_3fe6f_10 rfl (lv_at hl 0 rfl) ?_
  refine kb_U (j := 0) (As := []) (rest := []) hz hA C hP hD hS hl.1 rfl rfl cu_J5_isLatin1_aae02 rfl ml_J5_83 (c_J5_isLatin1_aae02 l D ca Z A hz 0 hcs rfl) rfl ⟨rfl, rfl⟩ ⟨Nat.le_of_ble_eq_true rfl, Nat.le_of_ble_eq_true rfl⟩ ⟨Nat.le_of_ble_eq_true rfl, Nat.le_of_ble_eq_true rfl⟩ (Nat.le_of_ble_eq_true rfl) rfl dJ5_append_3fe6f_11 (fun rv W1 H locs hpost hD hP hS => ?_)
  obtain ⟨rfl, rfl⟩ := hpost
  show W p l e _ s m _ below meth c H locs _ _ _ (F0 m 14 ls (.int 1 :: []))
  refine lv_if_eq (tgt := 45) hx hb dJ5_append_3fe6f_14 (by decide) (fun hc => absurd hc (by decide)) (fun _ => ?_)
  refine lv_iload_n hx hb dJ5_append_3fe6f_17 rfl (lv_at hl 1 rfl) ?_
  refine kb_S (As := [.int (nI ch)]) (rest := []) hz hA C hP hD hS hl.1 cw_J1_canEncode_fc78d ml_J5_191 (c_J1_canEncode_fc78d l D ca Z A hz ((sbI_le (b := 255) (by omega) (by omega)).mpr (by omega))) rfl ⟨rfl, rfl⟩ ⟨Nat.le_of_ble_eq_true rfl, Nat.le_of_ble_eq_true rfl⟩ ⟨Nat.le_of_ble_eq_true rfl, Nat.le_of_ble_eq_true rfl⟩ (Nat.le_of_ble_eq_true rfl) rfl dJ5_append_3fe6f_18 (fun rv W1 H locs hpost hD hP hS => ?_)
  obtain ⟨rfl, rfl⟩ := hpost
  show W p l e _ s m _ below meth c H locs _ _ _ (F0 m 21 ls (.int 1 :: []))
  refine lv_if_eq (tgt := 45) hx hb dJ5_append_3fe6f_21 (by decide) (fun hc => absurd hc (by decide)) (fun _ => ?_)
  refine lv_aload_n hx hb dJ5_append_3fe6f_24 rfl (lv_at hl 0 rfl) ?_
  refine va_get (D := D) (ci := 12) (v := .ref q1) (C := RJ4) (T := TJ4) (N := 4) hx hb hts in_wsJ40 hown hK hP 0 rfl rfl 0 (by decide) (hts _ lk_J5_15) (fun _ h9 => h9) rfl dJ5_append_3fe6f_25 ?_
  refine lv_aload_n hx hb dJ5_append_3fe6f_28 rfl (lv_at hl 0 rfl) ?_
  refine lv_dup hx hb dJ5_append_3fe6f_29 rfl ?_
  refine va_get (D := D) (ci := 12) (v := .int (nI n)) (C := RJ4) (T := TJ4) (N := 4) hx hb hts in_wsJ40 hown hK hP 0 rfl rfl 3 (by decide) (hts _ lk_J5_79) (fun _ h9 => h9) rfl dJ5_append_3fe6f_30 ?_
  refine lv_dup_x1 hx hb dJ5_append_3fe6f_33 rfl rfl ?_
  refine lv_iconst (v := (1 : Int32)) hx hb dJ5_append_3fe6f_34 (by decide) ?_
  refine lv_iadd hx hb dJ5_append_3fe6f_35 ?_
  rw [show nI n + (1 : Int32) = nI (n + 1) from sbI_add n 1]
  refine va_put (D := D) (ci := 12) (v := .int (nI (n + 1))) (ty := tyJ4 3) (C := RJ4) (T := TJ4) (N := 4) hx hb hts in_wsJ40 tyJ4 tyJ4_ok nmJ4 hown hK hP hD hS 0 rfl rfl 3 (by decide) (hts _ lk_J5_79) (fun _ h9 => h9) rfl rfl rfl rfl (Nat.le_of_ble_eq_true rfl) dJ5_append_3fe6f_36 (fun H locs hP hD hS => ?_)
  have hP : va_P D vwCl ([(sb, .inr (12, [.ref q1, .int 0, .int 0, .int (nI (n + 1))])), (q1, .inl (ca 1, m1, .inl a1))]) H := hP
  have hD : va_D A ([(sb, .inr (12, [.ref q1, .int 0, .int 0, .int (nI (n + 1))])), (q1, .inl (ca 1, m1, .inl a1))]) := hD
  refine lv_iload_n hx hb dJ5_append_3fe6f_39 rfl (lv_at hl 1 rfl) ?_
  refine lv_i2b hx hb dJ5_append_3fe6f_40 rfl ?_
  refine va_bast hx hb hK hP hD hS 1 1 rfl rfl (vp_in_nI (by omega) (by omega)) dJ5_append_3fe6f_41 (fun H locs hP hD hS => ?_)
  rw [nI_clamp (show n < 2 ^ 31 by omega)] at hP hD
  have hP : va_P D vwCl ([(sb, .inr (12, [.ref q1, .int 0, .int 0, .int (nI (n + 1))])), (q1, .inl (ca 1, m1, .inl (upd a1 n (vp_nar .byte (nI ch).toInt8.toInt32))))]) H := hP
  have hD : va_D A ([(sb, .inr (12, [.ref q1, .int 0, .int 0, .int (nI (n + 1))])), (q1, .inl (ca 1, m1, .inl (upd a1 n (vp_nar .byte (nI ch).toInt8.toInt32))))]) := hD
  refine lv_goto (tgt := 75) hx hb dJ5_append_3fe6f_42 (by decide) ?_
  refine lv_aload_n hx hb dJ5_append_3fe6f_75 rfl (lv_at hl 0 rfl) ?_
  have e9 : vp_nar .byte (nI ch).toInt8.toInt32 = sb_b ch := sb_nar ch
  rw [e9] at hP hD
  refine kb_a hx hb hr (Or.inl ⟨_, rfl⟩) hlocks hP hD hS (Nat.le_refl _) (Nat.le_refl _) ⟨rfl, q1, m1, _, rfl, k1, k2, k3, k4, sb_latPut g5 (fun j hj => ?_) (fun i hi => ?_), sb_fitU k5 (sb_fitB _)⟩ dJ5_append_3fe6f_76
  · rw [pk_un (by omega)]; exact k6 j (by omega)
  · obtain rfl : i = 0 := by omega
    exact ⟨by omega, pk_us⟩

theorem cw_J4_append_cf468 : CW RJ4 yJ4_append_cf468 cJ4_append_cf468 2 (some (.object "java/lang/StringBuilder")) 1 := ⟨im_J4_append_cf468, se_J4_append_cf468, ini_J4, cd_J4_append_cf468, by decide +kernel⟩
set_option maxRecDepth 100000 in
set_option maxHeartbeats 4000000 in
theorem c_J4_append_cf468 (l : Launch) (D : va_G) (ca : Nat → ClassId) (Z : State → Prop) (A : Nat → Prop) (hz : stb A Z) {sb n ch : Nat} {t : Nat → Nat} {q mq : Nat} {a : Nat → Int32} (hcs : ∀ U, Z U → CSZ A U) (hc : ch < 128) (hn : n + 1 ≤ 480) (g1 : n ≤ mq) (g2 : 55 ≤ mq) (g3 : mq % 3 = 1) (g4 : mq ≤ 1024) (g5 : sb_Lat t n a) (g6 : sb_Fit a) : CB l yJ4_append_cf468 (wsy yJ4_append_cf468 cJ4_append_cf468 2 (some (.object "java/lang/StringBuilder"))) ({ frames := 6, cells := 1, slots := 1024, locals := 252 } : Room) D ca Z A [.ref sb, .int (nI ch)] [(sb, .inr (12, [.ref q, .int 0, .int 0, .int (nI n)])), (q, .inl (ca 1, mq, .inl a))] (fun rv W1 => rv = some (.ref sb) ∧ SBO ca sb (sb_cat t n (fun _ => ch)) (n + 1) W1) 1 1024 := by
  intro hD
  refine Met.ofW (cc := cJ4_append_cf468) (maxL := 2) (ret := (some (.object "java/lang/StringBuilder"))) (by decide +kernel) rfl ?_
  intro p e s m args below meth c s₁ B hml hv
  obtain ⟨rfl, hP, hK, hZ, hA⟩ := hv
  have hx := B.exec
  have hb := B.bytes
  have hr := B.returns
  have hlocks := B.notSynchronized
  have hts : ∀ w ∈ ALL, w.before _ s = true := fun w hw => atoms_spec (ws := wsy yJ4_append_cf468 cJ4_append_cf468 2 (some (.object "java/lang/StringBuilder"))) B.pre w (List.mem_cons_of_mem _ hw)
  have hown : s.vm.findClass RJ4 = some m.cls := findClass_of_methodNamed B.named
  have C : CX p s m _ c cJ4_append_cf468 RJ4 2 D ca Z := ⟨hx, hb, hml, hown, hts, hK, hZ⟩
  have hS : va_S A s.heap s.heap [] := va_S.rf
  have hl := lv_entry ([.ref sb, .int (nI ch)]) (n := 2) (Nat.le_of_ble_eq_true rfl)
  rw [lg_entry_eq]
  generalize (lg_sl ([.ref sb, .int (nI ch)]) ++ List.replicate (2 - (lg_sl ([.ref sb, .int (nI ch)])).length) Slot.unset).toArray = ls at hl ⊢
  have hl : lv_has ls 2 [(0, .ref sb), (1, .int (nI ch))] := hl
  show W p l e ({ frames := 6, cells := 1, slots := 1024, locals := 252 } : Room) s m _ below meth c s.heap [] 0 0 _ _
  refine lv_aload_n hx hb dJ4_append_cf468_0 rfl (lv_at hl 0 rfl) ?_
  refine lv_iload_n hx hb dJ4_append_cf468_1 rfl (lv_at hl 1 rfl) ?_
  refine kb_SU (j := 0) (As := [.int (nI ch)]) (rest := []) hz hA C hP hD hS hl.1 rfl rfl cv_J5_append_3fe6f ml_J4_50 (c_J5_append_3fe6f l D ca Z A hz hcs hc hn g1 g2 g3 g4 g5 g6) rfl ⟨rfl, rfl⟩ ⟨Nat.le_of_ble_eq_true rfl, Nat.le_of_ble_eq_true rfl⟩ ⟨Nat.le_of_ble_eq_true rfl, Nat.le_of_ble_eq_true rfl⟩ (Nat.le_of_ble_eq_true rfl) rfl dJ4_append_cf468_2 (fun rv W1 H locs hpost hD hP hS => ?_)
  obtain ⟨rfl, hpost⟩ := hpost
  show W p l e _ s m _ below meth c H locs _ _ _ (F0 m 5 ls (.ref sb :: []))
  refine lv_pop hx hb dJ4_append_cf468_5 rfl ?_
  refine lv_aload_n hx hb dJ4_append_cf468_6 rfl (lv_at hl 0 rfl) ?_
  exact kb_a hx hb hr (Or.inl ⟨_, rfl⟩) hlocks hP hD hS (Nat.le_refl _) (Nat.le_refl _) ⟨rfl, hpost⟩ dJ4_append_cf468_7

def w0 : Mem := (fun _ _ _ => 0, fun _ _ _ => 0, fun _ _ _ => 0, fun _ _ _ => 0)
theorem cu_J5_inflateIfNeededFor_a7421 : CU RJ4 RJ5 yJ5_inflateIfNeededFor_a7421 yJ5_inflateIfNeededFor_a7421 cJ5_inflateIfNeededFor_a7421 2 none 1 := ⟨sm_AbstractStringBuilder_AbstractStringBuilder_inflateIfNeededFor_23, se_J5_inflateIfNeededFor_a7421, im_J5_inflateIfNeededFor_a7421, ini_J5, cd_J5_inflateIfNeededFor_a7421, by decide +kernel⟩
set_option maxRecDepth 100000 in
set_option maxHeartbeats 4000000 in
theorem c_J5_inflateIfNeededFor_a7421 (l : Launch) (D : va_G) (ca : Nat → ClassId) (Z : State → Prop) (A : Nat → Prop) (hz : stb A Z) {sb q n qs : Nat} {b : List Int32} {Wd : va_W} (hq : STRZ A Z qs b) (hj : Wd[0]? = some (sb, .inr (12, [.ref q, .int 0, .int 0, .int (nI n)]))) : CB l yJ5_inflateIfNeededFor_a7421 (wsy yJ5_inflateIfNeededFor_a7421 cJ5_inflateIfNeededFor_a7421 2 none) ({ frames := 2, cells := 0, slots := 0, locals := 92 } : Room) D ca Z A [.ref sb, .ref qs] Wd (fun rv W1 => rv = none ∧ W1 = Wd) 0 0 := by
  intro hD
  refine Met.ofW (cc := cJ5_inflateIfNeededFor_a7421) (maxL := 2) (ret := none) (by decide +kernel) rfl ?_
  intro p e s m args below meth c s₁ B hml hv
  obtain ⟨rfl, hP, hK, hZ, hA⟩ := hv
  have hx := B.exec
  have hb := B.bytes
  have hr := B.returns
  have hlocks := B.notSynchronized
  have hts : ∀ w ∈ ALL, w.before _ s = true := fun w hw => atoms_spec (ws := wsy yJ5_inflateIfNeededFor_a7421 cJ5_inflateIfNeededFor_a7421 2 none) B.pre w (List.mem_cons_of_mem _ hw)
  have hown : s.vm.findClass RJ5 = some m.cls := findClass_of_methodNamed B.named
  have C : CX p s m _ c cJ5_inflateIfNeededFor_a7421 RJ5 2 D ca Z := ⟨hx, hb, hml, hown, hts, hK, hZ⟩
  have hS : va_S A s.heap s.heap [] := va_S.rf
  have hl := lv_entry ([.ref sb, .ref qs]) (n := 2) (Nat.le_of_ble_eq_true rfl)
  rw [lg_entry_eq]
  generalize (lg_sl ([.ref sb, .ref qs]) ++ List.replicate (2 - (lg_sl ([.ref sb, .ref qs])).length) Slot.unset).toArray = ls at hl ⊢
  have hl : lv_has ls 2 [(0, .ref sb), (1, .ref qs)] := hl
  show W p l e ({ frames := 2, cells := 0, slots := 0, locals := 92 } : Room) s m _ below meth c s.heap [] 0 0 _ _
  obtain ⟨v9, hv9⟩ := hq.2
  refine va_gets hx hb (hv9 s hZ).2.1 hS hown (hts _ lk_J5_18) (fun _ h9 => h9) dJ5_inflateIfNeededFor_a7421_0 ?_
  refine lv_if_eq (tgt := 21) hx hb dJ5_inflateIfNeededFor_a7421_3 (by decide) (fun hc => absurd hc (by decide)) (fun _ => ?_)
  refine lv_aload_n hx hb dJ5_inflateIfNeededFor_a7421_6 rfl (lv_at hl 0 rfl) ?_
  refine va_get (D := D) (ci := 12) (v := .int 0) (C := RJ4) (T := TJ4) (N := 4) hx hb hts in_wsJ40 hown hK hP 0 hj rfl 1 (by decide) (hts _ lk_J5_22) (fun _ h9 => h9) rfl dJ5_inflateIfNeededFor_a7421_7 ?_
  refine lv_aload_n hx hb dJ5_inflateIfNeededFor_a7421_10 rfl (lv_at hl 1 rfl) ?_
  refine kb_K (w := w0) (As := []) (rest := [.int 0]) hz C hP hS hl.1 hq cw_J0_coder_7d493 ml_J5_40 (c_J0_coder_7d493 l D ca (fun _ _ => 0) [] Z (fun _ => False) (okJ_no hz) w0 hq.no) rfl ⟨rfl, rfl⟩ ⟨Nat.le_of_ble_eq_true rfl, Nat.le_of_ble_eq_true rfl⟩ ⟨Nat.le_of_ble_eq_true rfl, Nat.le_of_ble_eq_true rfl⟩ (Nat.le_of_ble_eq_true rfl) rfl dJ5_inflateIfNeededFor_a7421_11 (fun H locs hP hS => ?_)
  show W p l e _ s m _ below meth c H locs _ _ _ (F0 m 14 ls [.int 0, .int 0])
  refine lv_icmp_eq (tgt := 21) hx hb dJ5_inflateIfNeededFor_a7421_14 (by decide) (fun _ => ?_) (fun hc => absurd rfl hc)
  exact kb_v hx hb hr hlocks hP hD hS (Nat.le_refl _) (Nat.le_refl _) ⟨rfl, rfl⟩ dJ5_inflateIfNeededFor_a7421_21

theorem cw_J0_getBytes_840e7 : CW RJ0 yJ0_getBytes_840e7 cJ0_getBytes_840e7 4 none 3 := ⟨im_J0_getBytes_840e7, se_J0_getBytes_840e7, ini_J0, cd_J0_getBytes_840e7, by decide +kernel⟩
set_option maxRecDepth 100000 in
set_option maxHeartbeats 4000000 in
theorem c_J0_getBytes_840e7 (l : Launch) (D : va_G) (ca : Nat → ClassId) (Z : State → Prop) (A : Nat → Prop) (hz : stb A Z) {x : Nat × va_E} {q mq n qs : Nat} {a : Nat → Int32} {b : List Int32} (hq : STRZ A Z qs b) (hfb : ∀ i, i < b.length → fits .byte (.int (b.getD i 0)) = true) (h1 : n + b.length ≤ mq) (h2 : mq ≤ 1024) : CB l yJ0_getBytes_840e7 (wsy yJ0_getBytes_840e7 cJ0_getBytes_840e7 4 none) ({ frames := 2, cells := 0, slots := 0, locals := 92 } : Room) D ca Z A [.ref qs, .ref q, .int (nI n), .int 0] [x, (q, .inl (ca 1, mq, .inl a))] (fun rv W1 => rv = none ∧ W1 = [x, (q, .inl (ca 1, mq, .inl (va_cpy (fun j => b.getD j 0) a 0 n b.length)))]) 0 0 := by
  intro hD
  refine Met.ofW (cc := cJ0_getBytes_840e7) (maxL := 4) (ret := none) (by decide +kernel) rfl ?_
  intro p e s m args below meth c s₁ B hml hv
  obtain ⟨rfl, hP, hK, hZ, hA⟩ := hv
  have hx := B.exec
  have hb := B.bytes
  have hr := B.returns
  have hlocks := B.notSynchronized
  have hts : ∀ w ∈ ALL, w.before _ s = true := fun w hw => atoms_spec (ws := wsy yJ0_getBytes_840e7 cJ0_getBytes_840e7 4 none) B.pre w (List.mem_cons_of_mem _ hw)
  have hown : s.vm.findClass RJ0 = some m.cls := findClass_of_methodNamed B.named
  have C : CX p s m _ c cJ0_getBytes_840e7 RJ0 4 D ca Z := ⟨hx, hb, hml, hown, hts, hK, hZ⟩
  have hS : va_S A s.heap s.heap [] := va_S.rf
  have hl := lv_entry ([.ref qs, .ref q, .int (nI n), .int 0]) (n := 4) (Nat.le_of_ble_eq_true rfl)
  rw [lg_entry_eq]
  generalize (lg_sl ([.ref qs, .ref q, .int (nI n), .int 0]) ++ List.replicate (4 - (lg_sl ([.ref qs, .ref q, .int (nI n), .int 0])).length) Slot.unset).toArray = ls at hl ⊢
  have hl : lv_has ls 4 [(0, .ref qs), (1, .ref q), (2, .int (nI n)), (3, .int 0)] := hl
  show W p l e ({ frames := 2, cells := 0, slots := 0, locals := 92 } : Room) s m _ below meth c s.heap [] 0 0 _ _
  refine lv_aload_n hx hb dJ0_getBytes_840e7_0 rfl (lv_at hl 0 rfl) ?_
  refine kb_K (w := w0) (As := []) (rest := []) hz C hP hS hl.1 hq cw_J0_coder_7d493 ml_J0_335 (c_J0_coder_7d493 l D ca (fun _ _ => 0) [] Z (fun _ => False) (okJ_no hz) w0 hq.no) rfl ⟨rfl, rfl⟩ ⟨Nat.le_of_ble_eq_true rfl, Nat.le_of_ble_eq_true rfl⟩ ⟨Nat.le_of_ble_eq_true rfl, Nat.le_of_ble_eq_true rfl⟩ (Nat.le_of_ble_eq_true rfl) rfl dJ0_getBytes_840e7_1 (fun H locs hP hS => ?_)
  show W p l e _ s m _ below meth c H locs _ _ _ (F0 m 4 ls [.int 0])
  refine lv_iload_n hx hb dJ0_getBytes_840e7_4 rfl (lv_at hl 3 rfl) ?_
  obtain ⟨v9, hv9⟩ := hq.2
  refine lv_icmp_ne (tgt := 28) hx hb dJ0_getBytes_840e7_5 (by decide) (fun hc => absurd rfl hc) (fun _ => ?_)
  refine lv_aload_n hx hb dJ0_getBytes_840e7_8 rfl (lv_at hl 0 rfl) ?_
  refine vk_getf hx hb (hv9 s hZ).1.2.2.1 hS hown (hts _ lk_J0_9) (fun _ h9 => h9) dJ0_getBytes_840e7_9 ?_
  refine lv_iconst (v := (0 : Int32)) hx hb dJ0_getBytes_840e7_12 (by decide) ?_
  refine lv_aload_n hx hb dJ0_getBytes_840e7_13 rfl (lv_at hl 1 rfl) ?_
  refine lv_iload_n hx hb dJ0_getBytes_840e7_14 rfl (lv_at hl 2 rfl) ?_
  refine lv_iload_n hx hb dJ0_getBytes_840e7_15 rfl (lv_at hl 3 rfl) ?_
  refine lv_ishl hx hb dJ0_getBytes_840e7_16 ?_
  rw [show (nI n <<< (0 &&& 31)) = nI n from sb_shl0 _]
  refine lv_aload_n hx hb dJ0_getBytes_840e7_17 rfl (lv_at hl 0 rfl) ?_
  refine vk_getf hx hb (hv9 s hZ).1.2.2.1 hS hown (hts _ lk_J0_9) (fun _ h9 => h9) dJ0_getBytes_840e7_18 ?_
  refine va_tlen (v := nI b.length) hx hb (hv9 s hZ).1.2.2.2 hS rfl dJ0_getBytes_840e7_21 ?_
  refine vk_copyt hx hb (hml.trans hl.1.symm) hown (hts _ ml_J0_212) (hts _ na_arraycopyName) (hts _ st_arraycopyName) (hts _ ini_java_lang_System) hK hP hD hS (hv9 s hZ).1.2.2.2 1 1 rfl rfl (by decide) (nI_pos (by omega)) (nI_pos (by omega)) (by rw [nI_clamp (by omega), sb_cl0]; omega) (by rw [nI_clamp (by omega), nI_clamp (by omega)]; omega) (fun i hi => by rw [sb_cl0, Nat.zero_add]; exact hfb i (by rw [nI_clamp (by omega)] at hi; exact hi)) (Nat.le_of_ble_eq_true rfl) (by decide) dJ0_getBytes_840e7_22 (fun H locs hP hD hS => ?_)
  rw [nI_clamp (show n < 2 ^ 31 by omega), nI_clamp (show b.length < 2 ^ 31 by omega), sb_cl0] at hP hD
  have hP : va_P D vwCl ([x, (q, .inl (ca 1, mq, .inl (va_cpy (fun j => b.getD j 0) a 0 n b.length)))]) H := hP
  have hD : va_D A ([x, (q, .inl (ca 1, mq, .inl (va_cpy (fun j => b.getD j 0) a 0 n b.length)))]) := hD
  refine lv_goto (tgt := 43) hx hb dJ0_getBytes_840e7_25 (by decide) ?_
  exact kb_v hx hb hr hlocks hP hD hS (Nat.le_refl _) (Nat.le_refl _) ⟨rfl, rfl⟩ dJ0_getBytes_840e7_43

theorem cu_J5_putStringAt_47b60 : CU RJ4 RJ5 yJ5_putStringAt_47b60 yJ5_putStringAt_47b60 cJ5_putStringAt_47b60 3 none 2 := ⟨sm_AbstractStringBuilder_AbstractStringBuilder_putStringAt_24, se_J5_putStringAt_47b60, im_J5_putStringAt_47b60, ini_J5, cd_J5_putStringAt_47b60, by decide +kernel⟩
set_option maxRecDepth 100000 in
set_option maxHeartbeats 4000000 in
theorem c_J5_putStringAt_47b60 (l : Launch) (D : va_G) (ca : Nat → ClassId) (Z : State → Prop) (A : Nat → Prop) (hz : stb A Z) {sb q mq n qs : Nat} {a : Nat → Int32} {b : List Int32} (hq : STRZ A Z qs b) (hfb : ∀ i, i < b.length → fits .byte (.int (b.getD i 0)) = true) (h1 : n + b.length ≤ mq) (h2 : mq ≤ 1024) : CB l yJ5_putStringAt_47b60 (wsy yJ5_putStringAt_47b60 cJ5_putStringAt_47b60 3 none) ({ frames := 3, cells := 0, slots := 0, locals := 132 } : Room) D ca Z A [.ref sb, .int (nI n), .ref qs] [(sb, .inr (12, [.ref q, .int 0, .int 0, .int (nI n)])), (q, .inl (ca 1, mq, .inl a))] (fun rv W1 => rv = none ∧ W1 = [(sb, .inr (12, [.ref q, .int 0, .int 0, .int (nI n)])), (q, .inl (ca 1, mq, .inl (va_cpy (fun j => b.getD j 0) a 0 n b.length)))]) 0 0 := by
  intro hD
  refine Met.ofW (cc := cJ5_putStringAt_47b60) (maxL := 3) (ret := none) (by decide +kernel) rfl ?_
  intro p e s m args below meth c s₁ B hml hv
  obtain ⟨rfl, hP, hK, hZ, hA⟩ := hv
  have hx := B.exec
  have hb := B.bytes
  have hr := B.returns
  have hlocks := B.notSynchronized
  have hts : ∀ w ∈ ALL, w.before _ s = true := fun w hw => atoms_spec (ws := wsy yJ5_putStringAt_47b60 cJ5_putStringAt_47b60 3 none) B.pre w (List.mem_cons_of_mem _ hw)
  have hown : s.vm.findClass RJ5 = some m.cls := findClass_of_methodNamed B.named
  have C : CX p s m _ c cJ5_putStringAt_47b60 RJ5 3 D ca Z := ⟨hx, hb, hml, hown, hts, hK, hZ⟩
  have hS : va_S A s.heap s.heap [] := va_S.rf
  have hl := lv_entry ([.ref sb, .int (nI n), .ref qs]) (n := 3) (Nat.le_of_ble_eq_true rfl)
  rw [lg_entry_eq]
  generalize (lg_sl ([.ref sb, .int (nI n), .ref qs]) ++ List.replicate (3 - (lg_sl ([.ref sb, .int (nI n), .ref qs])).length) Slot.unset).toArray = ls at hl ⊢
  have hl : lv_has ls 3 [(0, .ref sb), (1, .int (nI n)), (2, .ref qs)] := hl
  show W p l e ({ frames := 3, cells := 0, slots := 0, locals := 132 } : Room) s m _ below meth c s.heap [] 0 0 _ _
  refine lv_aload_n hx hb dJ5_putStringAt_47b60_0 rfl (lv_at hl 0 rfl) ?_
  refine lv_aload_n hx hb dJ5_putStringAt_47b60_1 rfl (lv_at hl 2 rfl) ?_
  refine kb_U (j := 0) (As := [.ref qs]) (rest := []) hz hA C hP hD hS hl.1 rfl rfl cu_J5_inflateIfNeededFor_a7421 rfl ml_J5_397 (c_J5_inflateIfNeededFor_a7421 l D ca Z A hz hq rfl) rfl ⟨rfl, rfl⟩ ⟨Nat.le_of_ble_eq_true rfl, Nat.le_of_ble_eq_true rfl⟩ ⟨Nat.le_of_ble_eq_true rfl, Nat.le_of_ble_eq_true rfl⟩ (Nat.le_of_ble_eq_true rfl) rfl dJ5_putStringAt_47b60_2 (fun rv W1 H locs hpost hD hP hS => ?_)
  obtain ⟨rfl, rfl⟩ := hpost
  show W p l e _ s m _ below meth c H locs _ _ _ (F0 m 5 ls [])
  refine lv_aload_n hx hb dJ5_putStringAt_47b60_5 rfl (lv_at hl 2 rfl) ?_
  refine lv_aload_n hx hb dJ5_putStringAt_47b60_6 rfl (lv_at hl 0 rfl) ?_
  refine va_get (D := D) (ci := 12) (v := .ref q) (C := RJ4) (T := TJ4) (N := 4) hx hb hts in_wsJ40 hown hK hP 0 rfl rfl 0 (by decide) (hts _ lk_J5_15) (fun _ h9 => h9) rfl dJ5_putStringAt_47b60_7 ?_
  refine lv_iload_n hx hb dJ5_putStringAt_47b60_10 rfl (lv_at hl 1 rfl) ?_
  refine lv_aload_n hx hb dJ5_putStringAt_47b60_11 rfl (lv_at hl 0 rfl) ?_
  refine va_get (D := D) (ci := 12) (v := .int 0) (C := RJ4) (T := TJ4) (N := 4) hx hb hts in_wsJ40 hown hK hP 0 rfl rfl 1 (by decide) (hts _ lk_J5_22) (fun _ h9 => h9) rfl dJ5_putStringAt_47b60_12 ?_
  refine kb_VR (As := [.ref q, .int (nI n), .int 0]) (rest := []) hz hA C hP hD hS hl.1 (str_recv hq hZ hS) cw_J0_getBytes_840e7 ml_J5_399 (c_J0_getBytes_840e7 l D ca Z A hz (x := (sb, .inr (12, [.ref q, .int 0, .int 0, .int (nI n)]))) hq hfb h1 h2) rfl ⟨rfl, rfl⟩ ⟨Nat.le_of_ble_eq_true rfl, Nat.le_of_ble_eq_true rfl⟩ ⟨Nat.le_of_ble_eq_true rfl, Nat.le_of_ble_eq_true rfl⟩ (Nat.le_of_ble_eq_true rfl) rfl dJ5_putStringAt_47b60_15 (fun rv W1 H locs hpost hD hP hS => ?_)
  obtain ⟨rfl, rfl⟩ := hpost
  show W p l e _ s m _ below meth c H locs _ _ _ (F0 m 18 ls [])
  exact kb_v hx hb hr hlocks hP hD hS (Nat.le_refl _) (Nat.le_refl _) ⟨rfl, rfl⟩ dJ5_putStringAt_47b60_18

theorem sb_cpyFit {f g : Nat → Int32} {dp n : Nat} (hf : ∀ i, i < n → fits .byte (.int (f i)) = true) (hg : sb_Fit g) : sb_Fit (va_cpy f g 0 dp n) := by
  intro j
  by_cases h : dp ≤ j ∧ j < dp + n
  · rw [pk_cpy_in h.1 h.2]; exact hf _ (by omega)
  · rw [pk_cpy_out (by omega)]; exact hg j
theorem cv_J5_append_cf1ce : CSU RJ4 yJ5_append_cf1ce cJ5_append_cf1ce 3 (some (.object "java/lang/AbstractStringBuilder")) 1 := ⟨sm_AbstractStringBuilder_AbstractStringBuilder_append_55, su_J4_J5, im_J5_append_cf1ce, ini_J5, cd_J5_append_cf1ce, by decide +kernel⟩
set_option maxRecDepth 100000 in
set_option maxHeartbeats 4000000 in
theorem c_J5_append_cf1ce (l : Launch) (D : va_G) (ca : Nat → ClassId) (Z : State → Prop) (A : Nat → Prop) (hz : stb A Z) {sb n qs : Nat} {t tt : Nat → Nat} {q mq : Nat} {a : Nat → Int32} {b : List Int32} (hq : STRZ A Z qs b) (hbt : ∀ i, i < b.length → tt i < 256 ∧ b.getD i 0 = sb_b (tt i)) (hn : n + b.length ≤ 480) (hw : b.length ≤ 57) (g1 : n ≤ mq) (g2 : 55 ≤ mq) (g3 : mq % 3 = 1) (g4 : mq ≤ 1024) (g5 : sb_Lat t n a) (g6 : sb_Fit a) : CB l yJ5_append_cf1ce (wsy yJ5_append_cf1ce cJ5_append_cf1ce 3 (some (.object "java/lang/AbstractStringBuilder"))) ({ frames := 5, cells := 1, slots := 1024, locals := 212 } : Room) D ca Z A [.ref sb, .ref qs] [(sb, .inr (12, [.ref q, .int 0, .int 0, .int (nI n)])), (q, .inl (ca 1, mq, .inl a))] (fun rv W1 => rv = some (.ref sb) ∧ SBO ca sb (sb_cat t n tt) (n + b.length) W1) 1 1024 := by
  intro hD
  refine Met.ofW (cc := cJ5_append_cf1ce) (maxL := 3) (ret := (some (.object "java/lang/AbstractStringBuilder"))) (by decide +kernel) rfl ?_
  intro p e s m args below meth c s₁ B hml hv
  obtain ⟨rfl, hP, hK, hZ, hA⟩ := hv
  have hx := B.exec
  have hb := B.bytes
  have hr := B.returns
  have hlocks := B.notSynchronized
  have hts : ∀ w ∈ ALL, w.before _ s = true := fun w hw => atoms_spec (ws := wsy yJ5_append_cf1ce cJ5_append_cf1ce 3 (some (.object "java/lang/AbstractStringBuilder"))) B.pre w (List.mem_cons_of_mem _ hw)
  have hown : s.vm.findClass RJ5 = some m.cls := findClass_of_methodNamed B.named
  have C : CX p s m _ c cJ5_append_cf1ce RJ5 3 D ca Z := ⟨hx, hb, hml, hown, hts, hK, hZ⟩
  have hS : va_S A s.heap s.heap [] := va_S.rf
  have hl := lv_entry ([.ref sb, .ref qs]) (n := 3) (Nat.le_of_ble_eq_true rfl)
  rw [lg_entry_eq]
  generalize (lg_sl ([.ref sb, .ref qs]) ++ List.replicate (3 - (lg_sl ([.ref sb, .ref qs])).length) Slot.unset).toArray = ls at hl ⊢
  have hl : lv_has ls 3 [(0, .ref sb), (1, .ref qs)] := hl
  show W p l e ({ frames := 5, cells := 1, slots := 1024, locals := 212 } : Room) s m _ below meth c s.heap [] 0 0 _ _
  have hfb : ∀ i, i < b.length → fits .byte (.int (b.getD i 0)) = true := fun i hi => by rw [(hbt i hi).2]; exact sb_fitB _
  refine lv_aload_n hx hb dJ5_append_cf1ce_0 rfl (lv_at hl 1 rfl) ?_
  refine lv_ifnonnull (tgt := 9) hx hb dJ5_append_cf1ce_1 (by decide) ?_
  refine lv_aload_n hx hb dJ5_append_cf1ce_9 rfl (lv_at hl 1 rfl) ?_
  refine kb_K (w := w0) (As := []) (rest := []) hz C hP hS hl.1 hq cw_J0_length_8abf5 ml_J5_32 (c_J0_length_8abf5 l D ca (fun _ _ => 0) [] Z (fun _ => False) (okJ_no hz) w0 hq.no) rfl ⟨rfl, rfl⟩ ⟨Nat.le_of_ble_eq_true rfl, Nat.le_of_ble_eq_true rfl⟩ ⟨Nat.le_of_ble_eq_true rfl, Nat.le_of_ble_eq_true rfl⟩ (Nat.le_of_ble_eq_true rfl) rfl dJ5_append_cf1ce_10 (fun H locs hP hS => ?_)
  show W p l e _ s m _ below meth c H locs _ _ _ (F0 m 13 ls [.int (nI b.length)])
  refine lv_istore_n (lv' := [(2, .int (nI b.length)), (0, .ref sb), (1, .ref qs)]) hx hb dJ5_append_cf1ce_13 rfl hl (by decide) rfl (fun ls hl => ?_)
  refine lv_aload_n hx hb dJ5_append_cf1ce_14 rfl (lv_at hl 1 rfl) ?_
  refine lv_aload_n hx hb dJ5_append_cf1ce_15 rfl (lv_at hl 1 rfl) ?_
  refine va_get (D := D) (ci := 12) (v := .int (nI n)) (C := RJ4) (T := TJ4) (N := 4) hx hb hts in_wsJ40 hown hK hP 0 rfl rfl 3 (by decide) (hts _ lk_J5_79) (fun _ h9 => h9) rfl dJ5_append_cf1ce_16 ?_
  refine lv_iload_n hx hb dJ5_append_cf1ce_19 rfl (lv_at hl 0 rfl) ?_
  refine lv_iadd hx hb dJ5_append_cf1ce_20 ?_
  rw [show nI n + nI b.length = nI (n + b.length) from sbI_add n _]
  refine kb_U (j := 0) (As := [.int (nI (n + b.length))]) (rest := []) hz hA C hP hD hS hl.1 rfl rfl cu_J5_ensureCapacityInternal_d00df rfl ml_J5_100 (c_J5_ensureCapacityInternal_d00df l D ca Z A hz (by omega) g2 g4 (by omega) g3 g6) rfl ⟨rfl, rfl⟩ ⟨Nat.le_of_ble_eq_true rfl, Nat.le_of_ble_eq_true rfl⟩ ⟨Nat.le_of_ble_eq_true rfl, Nat.le_of_ble_eq_true rfl⟩ (Nat.le_of_ble_eq_true rfl) rfl dJ5_append_cf1ce_21 (fun rv W1 H locs hpost hD hP hS => ?_)
  obtain ⟨rfl, q1, m1, a1, rfl, k1, k2, k3, k4, k5, k6⟩ := hpost
  show W p l e _ s m _ below meth c H locs _ _ _ (F0 m 24 ls [])
  refine lv_aload_n hx hb dJ5_append_cf1ce_24 rfl (lv_at hl 1 rfl) ?_
  refine lv_aload_n hx hb dJ5_append_cf1ce_25 rfl (lv_at hl 1 rfl) ?_
  refine va_get (D := D) (ci := 12) (v := .int (nI n)) (C := RJ4) (T := TJ4) (N := 4) hx hb hts in_wsJ40 hown hK hP 0 rfl rfl 3 (by decide) (hts _ lk_J5_79) (fun _ h9 => h9) rfl dJ5_append_cf1ce_26 ?_
  refine lv_aload_n hx hb dJ5_append_cf1ce_29 rfl (lv_at hl 2 rfl) ?_
  refine kb_U (j := 0) (As := [.int (nI n), .ref qs]) (rest := []) hz hA C hP hD hS hl.1 rfl rfl cu_J5_putStringAt_47b60 rfl ml_J5_208 (c_J5_putStringAt_47b60 l D ca Z A hz hq hfb k1 k4) rfl ⟨rfl, rfl⟩ ⟨Nat.le_of_ble_eq_true rfl, Nat.le_of_ble_eq_true rfl⟩ ⟨Nat.le_of_ble_eq_true rfl, Nat.le_of_ble_eq_true rfl⟩ (Nat.le_of_ble_eq_true rfl) rfl dJ5_append_cf1ce_30 (fun rv W1 H locs hpost hD hP hS => ?_)
  obtain ⟨rfl, rfl⟩ := hpost
  show W p l e _ s m _ below meth c H locs _ _ _ (F0 m 33 ls [])
  refine lv_aload_n hx hb dJ5_append_cf1ce_33 rfl (lv_at hl 1 rfl) ?_
  refine lv_dup hx hb dJ5_append_cf1ce_34 rfl ?_
  refine va_get (D := D) (ci := 12) (v := .int (nI n)) (C := RJ4) (T := TJ4) (N := 4) hx hb hts in_wsJ40 hown hK hP 0 rfl rfl 3 (by decide) (hts _ lk_J5_79) (fun _ h9 => h9) rfl dJ5_append_cf1ce_35 ?_
  refine lv_iload_n hx hb dJ5_append_cf1ce_38 rfl (lv_at hl 0 rfl) ?_
  refine lv_iadd hx hb dJ5_append_cf1ce_39 ?_
  rw [show nI n + nI b.length = nI (n + b.length) from sbI_add n _]
  refine va_put (D := D) (ci := 12) (v := .int (nI (n + b.length))) (ty := tyJ4 3) (C := RJ4) (T := TJ4) (N := 4) hx hb hts in_wsJ40 tyJ4 tyJ4_ok nmJ4 hown hK hP hD hS 0 rfl rfl 3 (by decide) (hts _ lk_J5_79) (fun _ h9 => h9) rfl rfl rfl rfl (Nat.le_of_ble_eq_true rfl) dJ5_append_cf1ce_40 (fun H locs hP hD hS => ?_)
  have hP : va_P D vwCl ([(sb, .inr (12, [.ref q1, .int 0, .int 0, .int (nI (n + b.length))])), (q1, .inl (ca 1, m1, .inl (va_cpy (fun j => b.getD j 0) a1 0 n b.length)))]) H := hP
  have hD : va_D A ([(sb, .inr (12, [.ref q1, .int 0, .int 0, .int (nI (n + b.length))])), (q1, .inl (ca 1, m1, .inl (va_cpy (fun j => b.getD j 0) a1 0 n b.length)))]) := hD
  refine lv_aload_n hx hb dJ5_append_cf1ce_43 rfl (lv_at hl 1 rfl) ?_
  refine kb_a hx hb hr (Or.inl ⟨_, rfl⟩) hlocks hP hD hS (Nat.le_refl _) (Nat.le_refl _) ⟨rfl, q1, m1, _, rfl, k1, k2, k3, k4, sb_latPut g5 (fun j hj => ?_) (fun i hi => ?_), sb_cpyFit hfb k5⟩ dJ5_append_cf1ce_44
  · rw [pk_cpy_out (by omega)]; exact k6 j (by omega)
  · rw [pk_cpy_in (by omega) (by omega), show 0 + (n + i - n) = i by omega]
    exact hbt i hi

theorem cw_J4_append_15ec4 : CW RJ4 yJ4_append_15ec4 cJ4_append_15ec4 2 (some (.object "java/lang/StringBuilder")) 1 := ⟨im_J4_append_15ec4, se_J4_append_15ec4, ini_J4, cd_J4_append_15ec4, by decide +kernel⟩
set_option maxRecDepth 100000 in
set_option maxHeartbeats 4000000 in
theorem c_J4_append_15ec4 (l : Launch) (D : va_G) (ca : Nat → ClassId) (Z : State → Prop) (A : Nat → Prop) (hz : stb A Z) {sb n qs : Nat} {t tt : Nat → Nat} {q mq : Nat} {a : Nat → Int32} {b : List Int32} (hq : STRZ A Z qs b) (hbt : ∀ i, i < b.length → tt i < 256 ∧ b.getD i 0 = sb_b (tt i)) (hn : n + b.length ≤ 480) (hw : b.length ≤ 57) (g1 : n ≤ mq) (g2 : 55 ≤ mq) (g3 : mq % 3 = 1) (g4 : mq ≤ 1024) (g5 : sb_Lat t n a) (g6 : sb_Fit a) : CB l yJ4_append_15ec4 (wsy yJ4_append_15ec4 cJ4_append_15ec4 2 (some (.object "java/lang/StringBuilder"))) ({ frames := 6, cells := 1, slots := 1024, locals := 252 } : Room) D ca Z A [.ref sb, .ref qs] [(sb, .inr (12, [.ref q, .int 0, .int 0, .int (nI n)])), (q, .inl (ca 1, mq, .inl a))] (fun rv W1 => rv = some (.ref sb) ∧ SBO ca sb (sb_cat t n tt) (n + b.length) W1) 1 1024 := by
  intro hD
  refine Met.ofW (cc := cJ4_append_15ec4) (maxL := 2) (ret := (some (.object "java/lang/StringBuilder"))) (by decide +kernel) rfl ?_
  intro p e s m args below meth c s₁ B hml hv
  obtain ⟨rfl, hP, hK, hZ, hA⟩ := hv
  have hx := B.exec
  have hb := B.bytes
  have hr := B.returns
  have hlocks := B.notSynchronized
  have hts : ∀ w ∈ ALL, w.before _ s = true := fun w hw => atoms_spec (ws := wsy yJ4_append_15ec4 cJ4_append_15ec4 2 (some (.object "java/lang/StringBuilder"))) B.pre w (List.mem_cons_of_mem _ hw)
  have hown : s.vm.findClass RJ4 = some m.cls := findClass_of_methodNamed B.named
  have C : CX p s m _ c cJ4_append_15ec4 RJ4 2 D ca Z := ⟨hx, hb, hml, hown, hts, hK, hZ⟩
  have hS : va_S A s.heap s.heap [] := va_S.rf
  have hl := lv_entry ([.ref sb, .ref qs]) (n := 2) (Nat.le_of_ble_eq_true rfl)
  rw [lg_entry_eq]
  generalize (lg_sl ([.ref sb, .ref qs]) ++ List.replicate (2 - (lg_sl ([.ref sb, .ref qs])).length) Slot.unset).toArray = ls at hl ⊢
  have hl : lv_has ls 2 [(0, .ref sb), (1, .ref qs)] := hl
  show W p l e ({ frames := 6, cells := 1, slots := 1024, locals := 252 } : Room) s m _ below meth c s.heap [] 0 0 _ _
  refine lv_aload_n hx hb dJ4_append_15ec4_0 rfl (lv_at hl 0 rfl) ?_
  refine lv_aload_n hx hb dJ4_append_15ec4_1 rfl (lv_at hl 1 rfl) ?_
  refine kb_SU (j := 0) (As := [.ref qs]) (rest := []) hz hA C hP hD hS hl.1 rfl rfl cv_J5_append_cf1ce ml_J4_29 (c_J5_append_cf1ce l D ca Z A hz hq hbt hn hw g1 g2 g3 g4 g5 g6) rfl ⟨rfl, rfl⟩ ⟨Nat.le_of_ble_eq_true rfl, Nat.le_of_ble_eq_true rfl⟩ ⟨Nat.le_of_ble_eq_true rfl, Nat.le_of_ble_eq_true rfl⟩ (Nat.le_of_ble_eq_true rfl) rfl dJ4_append_15ec4_2 (fun rv W1 H locs hpost hD hP hS => ?_)
  obtain ⟨rfl, hpost⟩ := hpost
  show W p l e _ s m _ below meth c H locs _ _ _ (F0 m 5 ls (.ref sb :: []))
  refine lv_pop hx hb dJ4_append_15ec4_5 rfl ?_
  refine lv_aload_n hx hb dJ4_append_15ec4_6 rfl (lv_at hl 0 rfl) ?_
  exact kb_a hx hb hr (Or.inl ⟨_, rfl⟩) hlocks hP hD hS (Nat.le_refl _) (Nat.le_refl _) ⟨rfl, hpost⟩ dJ4_append_15ec4_7

theorem co_J4_append_cf1ce : CU RJ4 RJ5 yJ5_append_cf1ce yJ4_append_cf1ce cJ4_append_cf1ce 2 (some (.object "java/lang/AbstractStringBuilder")) 1 := ⟨sm_AbstractStringBuilder_AbstractStringBuilder_append_55, se_J5_append_cf1ce, im_J4_append_cf1ce, ini_J4, cd_J4_append_cf1ce, by decide +kernel⟩
set_option maxRecDepth 100000 in
set_option maxHeartbeats 4000000 in
theorem c_J4_append_cf1ce (l : Launch) (D : va_G) (ca : Nat → ClassId) (Z : State → Prop) (A : Nat → Prop) (hz : stb A Z) {sb n qs : Nat} {t tt : Nat → Nat} {q mq : Nat} {a : Nat → Int32} {b : List Int32} (hq : STRZ A Z qs b) (hbt : ∀ i, i < b.length → tt i < 256 ∧ b.getD i 0 = sb_b (tt i)) (hn : n + b.length ≤ 480) (hw : b.length ≤ 57) (g1 : n ≤ mq) (g2 : 55 ≤ mq) (g3 : mq % 3 = 1) (g4 : mq ≤ 1024) (g5 : sb_Lat t n a) (g6 : sb_Fit a) : CB l yJ4_append_cf1ce (wsy yJ4_append_cf1ce cJ4_append_cf1ce 2 (some (.object "java/lang/AbstractStringBuilder"))) ({ frames := 7, cells := 1, slots := 1024, locals := 292 } : Room) D ca Z A [.ref sb, .ref qs] [(sb, .inr (12, [.ref q, .int 0, .int 0, .int (nI n)])), (q, .inl (ca 1, mq, .inl a))] (fun rv W1 => rv = some (.ref sb) ∧ SBO ca sb (sb_cat t n tt) (n + b.length) W1) 1 1024 := by
  intro hD
  refine Met.ofW (cc := cJ4_append_cf1ce) (maxL := 2) (ret := (some (.object "java/lang/AbstractStringBuilder"))) (by decide +kernel) rfl ?_
  intro p e s m args below meth c s₁ B hml hv
  obtain ⟨rfl, hP, hK, hZ, hA⟩ := hv
  have hx := B.exec
  have hb := B.bytes
  have hr := B.returns
  have hlocks := B.notSynchronized
  have hts : ∀ w ∈ ALL, w.before _ s = true := fun w hw => atoms_spec (ws := wsy yJ4_append_cf1ce cJ4_append_cf1ce 2 (some (.object "java/lang/AbstractStringBuilder"))) B.pre w (List.mem_cons_of_mem _ hw)
  have hown : s.vm.findClass RJ4 = some m.cls := findClass_of_methodNamed B.named
  have C : CX p s m _ c cJ4_append_cf1ce RJ4 2 D ca Z := ⟨hx, hb, hml, hown, hts, hK, hZ⟩
  have hS : va_S A s.heap s.heap [] := va_S.rf
  have hl := lv_entry ([.ref sb, .ref qs]) (n := 2) (Nat.le_of_ble_eq_true rfl)
  rw [lg_entry_eq]
  generalize (lg_sl ([.ref sb, .ref qs]) ++ List.replicate (2 - (lg_sl ([.ref sb, .ref qs])).length) Slot.unset).toArray = ls at hl ⊢
  have hl : lv_has ls 2 [(0, .ref sb), (1, .ref qs)] := hl
  show W p l e ({ frames := 7, cells := 1, slots := 1024, locals := 292 } : Room) s m _ below meth c s.heap [] 0 0 _ _
  refine lv_aload_n hx hb dJ4_append_cf1ce_0 rfl (lv_at hl 0 rfl) ?_
  refine lv_aload_n hx hb dJ4_append_cf1ce_1 rfl (lv_at hl 1 rfl) ?_
  refine kb_V (j := 0) (As := [.ref qs]) (rest := []) hz hA C hP hD hS hl.1 rfl rfl cw_J4_append_15ec4 ml_J4_23 (c_J4_append_15ec4 l D ca Z A hz hq hbt hn hw g1 g2 g3 g4 g5 g6) rfl ⟨rfl, rfl⟩ ⟨Nat.le_of_ble_eq_true rfl, Nat.le_of_ble_eq_true rfl⟩ ⟨Nat.le_of_ble_eq_true rfl, Nat.le_of_ble_eq_true rfl⟩ (Nat.le_of_ble_eq_true rfl) rfl dJ4_append_cf1ce_2 (fun rv W1 H locs hpost hD hP hS => ?_)
  obtain ⟨rfl, hpost⟩ := hpost
  show W p l e _ s m _ below meth c H locs _ _ _ (F0 m 5 ls [.ref sb])
  exact kb_a hx hb hr (Or.inl ⟨_, rfl⟩) hlocks hP hD hS (Nat.le_refl _) (Nat.le_refl _) ⟨rfl, hpost⟩ dJ4_append_cf1ce_5

set_option maxRecDepth 100000 in
set_option maxHeartbeats 4000000 in
theorem c_J5_init_a7421 (l : Launch) (D : va_G) (ca : Nat → ClassId) (Z : State → Prop) (A : Nat → Prop) (hz : stb A Z) {sb qs : Nat} {tt : Nat → Nat} {b : List Int32} (hq : STRZ A Z qs b) (hbt : ∀ i, i < b.length → tt i < 256 ∧ b.getD i 0 = sb_b (tt i)) (hb39 : b.length = 39) : CB l yJ5_init_a7421 (wsy yJ5_init_a7421 cJ5_init_a7421 5 none) ({ frames := 8, cells := 2, slots := 2048, locals := 332 } : Room) D ca Z A [.ref sb, .ref qs] [(sb, .inr (12, [.null, .int 0, .int 0, .int 0]))] (fun rv W1 => rv = none ∧ SBO ca sb (sb_cat (fun _ => 0) 0 tt) 39 W1) 2 2048 := by
  intro hD
  refine Met.ofW (cc := cJ5_init_a7421) (maxL := 5) (ret := none) (by decide +kernel) rfl ?_
  intro p e s m args below meth c s₁ B hml hv
  obtain ⟨rfl, hP, hK, hZ, hA⟩ := hv
  have hx := B.exec
  have hb := B.bytes
  have hr := B.returns
  have hlocks := B.notSynchronized
  have hts : ∀ w ∈ ALL, w.before _ s = true := fun w hw => atoms_spec (ws := wsy yJ5_init_a7421 cJ5_init_a7421 5 none) B.pre w (List.mem_cons_of_mem _ hw)
  have hown : s.vm.findClass RJ5 = some m.cls := findClass_of_methodNamed B.named
  have C : CX p s m _ c cJ5_init_a7421 RJ5 5 D ca Z := ⟨hx, hb, hml, hown, hts, hK, hZ⟩
  have hS : va_S A s.heap s.heap [] := va_S.rf
  have hl := lv_entry ([.ref sb, .ref qs]) (n := 5) (Nat.le_of_ble_eq_true rfl)
  rw [lg_entry_eq]
  generalize (lg_sl ([.ref sb, .ref qs]) ++ List.replicate (5 - (lg_sl ([.ref sb, .ref qs])).length) Slot.unset).toArray = ls at hl ⊢
  have hl : lv_has ls 5 [(0, .ref sb), (1, .ref qs)] := hl
  show W p l e ({ frames := 8, cells := 2, slots := 2048, locals := 332 } : Room) s m _ below meth c s.heap [] 0 0 _ _
  refine lv_aload_n hx hb dJ5_init_a7421_0 rfl (lv_at hl 0 rfl) ?_
  refine W.objInit hx hb hown (hts _ ml_J5_3) (hts _ im_objectInit) (hts _ cd_objectInit) rfl (by rw [hml]; exact hl.1) rfl dJ5_init_a7421_1 (Nat.le_of_ble_eq_true rfl) (Nat.le_of_ble_eq_true rfl) ?_
  refine W.eq (g2 := F0 m 4 ls []) rfl ?_
  refine lv_aload_n hx hb dJ5_init_a7421_4 rfl (lv_at hl 1 rfl) ?_
  refine kb_K (w := w0) (As := []) (rest := []) hz C hP hS hl.1 hq cw_J0_length_8abf5 ml_J5_32 (c_J0_length_8abf5 l D ca (fun _ _ => 0) [] Z (fun _ => False) (okJ_no hz) w0 hq.no) rfl ⟨rfl, rfl⟩ ⟨Nat.le_of_ble_eq_true rfl, Nat.le_of_ble_eq_true rfl⟩ ⟨Nat.le_of_ble_eq_true rfl, Nat.le_of_ble_eq_true rfl⟩ (Nat.le_of_ble_eq_true rfl) rfl dJ5_init_a7421_5 (fun H locs hP hS => ?_)
  show W p l e _ s m _ below meth c H locs _ _ _ (F0 m 8 ls [.int (nI b.length)])
  rw [hb39]
  refine lv_istore_n (lv' := [(2, .int (nI 39)), (0, .ref sb), (1, .ref qs)]) hx hb dJ5_init_a7421_8 rfl hl (by decide) rfl (fun ls hl => ?_)
  refine lv_iload_n hx hb dJ5_init_a7421_9 rfl (lv_at hl 0 rfl) ?_
  refine lv_ldc (v := (2147483631 : Int32)) hx hb hown (hts _ kc_J5_38) dJ5_init_a7421_10 ?_
  refine lv_icmp_ge (tgt := 22) hx hb dJ5_init_a7421_12 (by decide) (fun hc => absurd ((sbI_le (a := 2147483631) (b := 39) (by omega) (by omega)).mp hc) (by omega)) (fun _ => ?_)
  refine lv_iload_n hx hb dJ5_init_a7421_15 rfl (lv_at hl 0 rfl) ?_
  refine lv_bipush (v := (16 : Int32)) hx hb dJ5_init_a7421_16 (by decide) ?_
  refine lv_iadd hx hb dJ5_init_a7421_18 ?_
  rw [show nI 39 + (16 : Int32) = nI 55 from by decide]
  refine lv_goto (tgt := 24) hx hb dJ5_init_a7421_19 (by decide) ?_
  refine lv_istore_n (lv' := [(3, .int (nI 55)), (2, .int (nI 39)), (0, .ref sb), (1, .ref qs)]) hx hb dJ5_init_a7421_24 rfl hl (by decide) rfl (fun ls hl => ?_)
  refine lv_aload_n hx hb dJ5_init_a7421_25 rfl (lv_at hl 3 rfl) ?_
  refine kb_K (w := w0) (As := []) (rest := []) hz C hP hS hl.1 hq cw_J0_coder_7d493 ml_J5_40 (c_J0_coder_7d493 l D ca (fun _ _ => 0) [] Z (fun _ => False) (okJ_no hz) w0 hq.no) rfl ⟨rfl, rfl⟩ ⟨Nat.le_of_ble_eq_true rfl, Nat.le_of_ble_eq_true rfl⟩ ⟨Nat.le_of_ble_eq_true rfl, Nat.le_of_ble_eq_true rfl⟩ (Nat.le_of_ble_eq_true rfl) rfl dJ5_init_a7421_26 (fun H locs hP hS => ?_)
  show W p l e _ s m _ below meth c H locs _ _ _ (F0 m 29 ls [.int 0])
  refine lv_istore (lv' := [(4, .int 0), (3, .int (nI 55)), (2, .int (nI 39)), (0, .ref sb), (1, .ref qs)]) hx hb dJ5_init_a7421_29 hl (by decide) rfl (fun ls hl => ?_)
  refine lv_aload_n hx hb dJ5_init_a7421_31 rfl (lv_at hl 3 rfl) ?_
  refine lv_iload hx hb dJ5_init_a7421_32 (lv_at hl 0 rfl) ?_
  refine va_put (D := D) (ci := 12) (v := .int 0) (ty := tyJ4 1) (C := RJ4) (T := TJ4) (N := 4) hx hb hts in_wsJ40 tyJ4 tyJ4_ok nmJ4 hown hK hP hD hS 0 rfl rfl 1 (by decide) (hts _ lk_J5_22) (fun _ h9 => h9) rfl rfl rfl rfl (Nat.le_of_ble_eq_true rfl) dJ5_init_a7421_34 (fun H locs hP hD hS => ?_)
  have hP : va_P D vwCl ([(sb, .inr (12, [.null, .int 0, .int 0, .int 0]))]) H := hP
  have hD : va_D A ([(sb, .inr (12, [.null, .int 0, .int 0, .int 0]))]) := hD
  refine lv_aload_n hx hb dJ5_init_a7421_37 rfl (lv_at hl 3 rfl) ?_
  refine lv_iload hx hb dJ5_init_a7421_38 (lv_at hl 0 rfl) ?_
  refine lv_if_ne (tgt := 49) hx hb dJ5_init_a7421_40 (by decide) (fun hc => absurd rfl hc) (fun _ => ?_)
  refine lv_iload_n hx hb dJ5_init_a7421_43 rfl (lv_at hl 1 rfl) ?_
  refine rn_arr (X := []) (L := [(sb, .inr (12, [.null, .int 0, .int 0, .int 0]))]) (ty := .byte) (t0 := 1) (q0 := 1) (N' := 55) (a0 := (55, .inl (fun _ => 0))) C rfl rfl (fun cA h1 h2 => Option.some.inj (h1.symm.trans h2)) ac__byte hP hD hS hA (fun _ => rfl) (by decide) (by decide) (by decide) (Nat.le_of_ble_eq_true rfl) (Nat.le_of_ble_eq_true rfl) dJ5_init_a7421_44 (fun q1 H hP hD hS => ?_)
  have hP : va_P D vwCl ([(sb, .inr (12, [.null, .int 0, .int 0, .int 0])), (q1, .inl (ca 1, 55, .inl (fun _ => 0)))]) H := hP
  have hD : va_D A ([(sb, .inr (12, [.null, .int 0, .int 0, .int 0])), (q1, .inl (ca 1, 55, .inl (fun _ => 0)))]) := hD
  refine lv_goto (tgt := 53) hx hb dJ5_init_a7421_46 (by decide) ?_
  refine va_put (D := D) (ci := 12) (v := .ref q1) (ty := tyJ4 0) (C := RJ4) (T := TJ4) (N := 4) hx hb hts in_wsJ40 tyJ4 tyJ4_ok nmJ4 hown hK hP hD hS 0 rfl rfl 0 (by decide) (hts _ lk_J5_15) (fun _ h9 => h9) rfl rfl rfl rfl (Nat.le_of_ble_eq_true rfl) dJ5_init_a7421_53 (fun H locs hP hD hS => ?_)
  have hP : va_P D vwCl ([(sb, .inr (12, [.ref q1, .int 0, .int 0, .int 0])), (q1, .inl (ca 1, 55, .inl (fun _ => 0)))]) H := hP
  have hD : va_D A ([(sb, .inr (12, [.ref q1, .int 0, .int 0, .int 0])), (q1, .inl (ca 1, 55, .inl (fun _ => 0)))]) := hD
  refine lv_aload_n hx hb dJ5_init_a7421_56 rfl (lv_at hl 3 rfl) ?_
  refine lv_aload_n hx hb dJ5_init_a7421_57 rfl (lv_at hl 4 rfl) ?_
  refine kb_O (j := 0) (As := [.ref qs]) (rest := []) hz hA C hP hD hS hl.1 rfl rfl co_J4_append_cf1ce im_J5_append_cf1ce cd_J5_append_cf1ce ml_J5_43 (c_J4_append_cf1ce l D ca Z A hz (n := 0) (t := fun _ => 0) hq hbt (by omega) (by omega) (by omega) (by omega) (by decide) (by omega) (fun j hj => absurd hj (Nat.not_lt_zero j)) sb_fit0) rfl ⟨rfl, rfl⟩ ⟨Nat.le_of_ble_eq_true rfl, Nat.le_of_ble_eq_true rfl⟩ ⟨Nat.le_of_ble_eq_true rfl, Nat.le_of_ble_eq_true rfl⟩ (Nat.le_of_ble_eq_true rfl) rfl dJ5_init_a7421_58 (fun rv W1 H locs hpost hD hP hS => ?_)
  obtain ⟨rfl, hpost⟩ := hpost
  show W p l e _ s m _ below meth c H locs _ _ _ (F0 m 61 ls [.ref sb])
  refine lv_pop hx hb dJ5_init_a7421_61 rfl ?_
  rw [hb39] at hpost
  exact kb_v hx hb hr hlocks hP hD hS (Nat.le_refl _) (by show _ ≤ 2048; omega) ⟨rfl, hpost⟩ dJ5_init_a7421_62

set_option maxRecDepth 100000 in
set_option maxHeartbeats 4000000 in
theorem c_J4_init_a7421 (l : Launch) (D : va_G) (ca : Nat → ClassId) (Z : State → Prop) (A : Nat → Prop) (hz : stb A Z) {sb qs : Nat} {tt : Nat → Nat} {b : List Int32} (hq : STRZ A Z qs b) (hbt : ∀ i, i < b.length → tt i < 256 ∧ b.getD i 0 = sb_b (tt i)) (hb39 : b.length = 39) : CB l yJ4_init_a7421 (wsy yJ4_init_a7421 cJ4_init_a7421 2 none) ({ frames := 9, cells := 2, slots := 2048, locals := 372 } : Room) D ca Z A [.ref sb, .ref qs] [(sb, .inr (12, [.null, .int 0, .int 0, .int 0]))] (fun rv W1 => rv = none ∧ SBO ca sb (sb_cat (fun _ => 0) 0 tt) 39 W1) 2 2048 := by
  intro hD
  refine Met.ofW (cc := cJ4_init_a7421) (maxL := 2) (ret := none) (by decide +kernel) rfl ?_
  intro p e s m args below meth c s₁ B hml hv
  obtain ⟨rfl, hP, hK, hZ, hA⟩ := hv
  have hx := B.exec
  have hb := B.bytes
  have hr := B.returns
  have hlocks := B.notSynchronized
  have hts : ∀ w ∈ ALL, w.before _ s = true := fun w hw => atoms_spec (ws := wsy yJ4_init_a7421 cJ4_init_a7421 2 none) B.pre w (List.mem_cons_of_mem _ hw)
  have hown : s.vm.findClass RJ4 = some m.cls := findClass_of_methodNamed B.named
  have C : CX p s m _ c cJ4_init_a7421 RJ4 2 D ca Z := ⟨hx, hb, hml, hown, hts, hK, hZ⟩
  have hS : va_S A s.heap s.heap [] := va_S.rf
  have hl := lv_entry ([.ref sb, .ref qs]) (n := 2) (Nat.le_of_ble_eq_true rfl)
  rw [lg_entry_eq]
  generalize (lg_sl ([.ref sb, .ref qs]) ++ List.replicate (2 - (lg_sl ([.ref sb, .ref qs])).length) Slot.unset).toArray = ls at hl ⊢
  have hl : lv_has ls 2 [(0, .ref sb), (1, .ref qs)] := hl
  show W p l e ({ frames := 9, cells := 2, slots := 2048, locals := 372 } : Room) s m _ below meth c s.heap [] 0 0 _ _
  refine lv_aload_n hx hb dJ4_init_a7421_0 rfl (lv_at hl 0 rfl) ?_
  refine lv_aload_n hx hb dJ4_init_a7421_1 rfl (lv_at hl 1 rfl) ?_
  refine kb_I (n := 1) (As := [.ref qs]) (rest := []) hz hA C hP hD hS hl.1 ini_J5 im_J5_init_a7421 cd_J5_init_a7421 rfl (by decide +kernel) ml_J4_7 (c_J5_init_a7421 l D ca Z A hz hq hbt hb39) rfl ⟨rfl, rfl⟩ ⟨Nat.le_of_ble_eq_true rfl, Nat.le_of_ble_eq_true rfl⟩ ⟨Nat.le_of_ble_eq_true rfl, Nat.le_of_ble_eq_true rfl⟩ (Nat.le_of_ble_eq_true rfl) rfl dJ4_init_a7421_2 (fun rv W1 H locs hpost hD hP hS => ?_)
  obtain ⟨rfl, hpost⟩ := hpost
  show W p l e _ s m _ below meth c H locs _ _ _ (F0 m 5 ls [])
  exact kb_v hx hb hr hlocks hP hD hS (Nat.le_refl _) (by show _ ≤ 2048; omega) ⟨rfl, hpost⟩ dJ4_init_a7421_5

theorem cw_J7_checkLength_df160 : CS yJ7_checkLength_df160 cJ7_checkLength_df160 2 none 2 := ⟨st_J7_checkLength_df160, ini_J7, cd_J7_checkLength_df160, by decide +kernel⟩
set_option maxRecDepth 100000 in
set_option maxHeartbeats 4000000 in
theorem c_J7_checkLength_df160 (l : Launch) (D : va_G) (ca : Nat → ClassId) (Z : State → Prop) (A : Nat → Prop) (hz : stb A Z) {Wd : va_W} {n : Nat} (hn : n ≤ 1024) : CB l yJ7_checkLength_df160 (wsy yJ7_checkLength_df160 cJ7_checkLength_df160 2 none) ({ frames := 0, cells := 0, slots := 0, locals := 12 } : Room) D ca Z A [.int 0, .int (nI n)] Wd (fun rv W1 => rv = none ∧ W1 = Wd) 0 0 := by
  intro hD
  refine Met.ofW (cc := cJ7_checkLength_df160) (maxL := 2) (ret := none) (by decide +kernel) rfl ?_
  intro p e s m args below meth c s₁ B hml hv
  obtain ⟨rfl, hP, hK, hZ, hA⟩ := hv
  have hx := B.exec
  have hb := B.bytes
  have hr := B.returns
  have hlocks := B.notSynchronized
  have hts : ∀ w ∈ ALL, w.before _ s = true := fun w hw => atoms_spec (ws := wsy yJ7_checkLength_df160 cJ7_checkLength_df160 2 none) B.pre w (List.mem_cons_of_mem _ hw)
  have hown : s.vm.findClass RJ7 = some m.cls := findClass_of_methodNamed B.named
  have C : CX p s m _ c cJ7_checkLength_df160 RJ7 2 D ca Z := ⟨hx, hb, hml, hown, hts, hK, hZ⟩
  have hS : va_S A s.heap s.heap [] := va_S.rf
  have hl := lv_entry ([.int 0, .int (nI n)]) (n := 2) (Nat.le_of_ble_eq_true rfl)
  rw [lg_entry_eq]
  generalize (lg_sl ([.int 0, .int (nI n)]) ++ List.replicate (2 - (lg_sl ([.int 0, .int (nI n)])).length) Slot.unset).toArray = ls at hl ⊢
  have hl : lv_has ls 2 [(0, .int 0), (1, .int (nI n))] := hl
  show W p l e ({ frames := 0, cells := 0, slots := 0, locals := 12 } : Room) s m _ below meth c s.heap [] 0 0 _ _
  refine lv_iload_n hx hb dJ7_checkLength_df160_0 rfl (lv_at hl 1 rfl) ?_
  refine lv_iload_n hx hb dJ7_checkLength_df160_1 rfl (lv_at hl 0 rfl) ?_
  refine lv_icmp_ge (tgt := 37) hx hb dJ7_checkLength_df160_2 (by decide) (fun _ => ?_) (fun hc => absurd (nI_pos' (by omega)) hc)
  exact kb_v hx hb hr hlocks hP hD hS (Nat.le_refl _) (Nat.le_refl _) ⟨rfl, rfl⟩ dJ7_checkLength_df160_37

theorem sb_min {a b : Nat} (h : a ≤ b) (hb : b < 2 ^ 31) : (if nI a < nI b then nI a else nI b) = nI a := by
  by_cases z : a < b
  · rw [if_pos (nI_lt z hb)]
  · rw [if_neg (nI_nlt (by omega) (by omega)), show b = a by omega]
theorem cw_J7_copyOfRangeByte_39247 : CS yJ7_copyOfRangeByte_39247 cJ7_copyOfRangeByte_39247 5 (some (.array .byte)) 3 := ⟨st_J7_copyOfRangeByte_39247, ini_J7, cd_J7_copyOfRangeByte_39247, by decide +kernel⟩
set_option maxRecDepth 100000 in
set_option maxHeartbeats 4000000 in
theorem c_J7_copyOfRangeByte_39247 (l : Launch) (D : va_G) (ca : Nat → ClassId) (Z : State → Prop) (A : Nat → Prop) (hz : stb A Z) {x y : Nat × va_E} {q mq n : Nat} {a : Nat → Int32} (hf : sb_Fit a) (h1 : n ≤ mq) (h2 : mq ≤ 1024) : CB l yJ7_copyOfRangeByte_39247 (wsy yJ7_copyOfRangeByte_39247 cJ7_copyOfRangeByte_39247 5 (some (.array .byte))) ({ frames := 1, cells := 1, slots := 1024, locals := 52 } : Room) D ca Z A [.ref q, .int 0, .int (nI n)] [x, y, (q, .inl (ca 1, mq, .inl a))] (fun rv W1 => ∃ q1, rv = some (.ref q1) ∧ W1 = [x, y, (q, .inl (ca 1, mq, .inl a)), (q1, .inl (ca 1, n, .inl (va_cpy a (fun _ => 0) 0 0 n)))]) 1 1024 := by
  intro hD
  refine Met.ofW (cc := cJ7_copyOfRangeByte_39247) (maxL := 5) (ret := (some (.array .byte))) (by decide +kernel) rfl ?_
  intro p e s m args below meth c s₁ B hml hv
  obtain ⟨rfl, hP, hK, hZ, hA⟩ := hv
  have hx := B.exec
  have hb := B.bytes
  have hr := B.returns
  have hlocks := B.notSynchronized
  have hts : ∀ w ∈ ALL, w.before _ s = true := fun w hw => atoms_spec (ws := wsy yJ7_copyOfRangeByte_39247 cJ7_copyOfRangeByte_39247 5 (some (.array .byte))) B.pre w (List.mem_cons_of_mem _ hw)
  have hown : s.vm.findClass RJ7 = some m.cls := findClass_of_methodNamed B.named
  have C : CX p s m _ c cJ7_copyOfRangeByte_39247 RJ7 5 D ca Z := ⟨hx, hb, hml, hown, hts, hK, hZ⟩
  have hS : va_S A s.heap s.heap [] := va_S.rf
  have hl := lv_entry ([.ref q, .int 0, .int (nI n)]) (n := 5) (Nat.le_of_ble_eq_true rfl)
  rw [lg_entry_eq]
  generalize (lg_sl ([.ref q, .int 0, .int (nI n)]) ++ List.replicate (5 - (lg_sl ([.ref q, .int 0, .int (nI n)])).length) Slot.unset).toArray = ls at hl ⊢
  have hl : lv_has ls 5 [(0, .ref q), (1, .int 0), (2, .int (nI n))] := hl
  show W p l e ({ frames := 1, cells := 1, slots := 1024, locals := 52 } : Room) s m _ below meth c s.heap [] 0 0 _ _
  refine lv_iload_n hx hb dJ7_copyOfRangeByte_39247_0 rfl (lv_at hl 1 rfl) ?_
  refine lv_iload_n hx hb dJ7_copyOfRangeByte_39247_1 rfl (lv_at hl 2 rfl) ?_
  refine kb_S (As := [.int 0, .int (nI n)]) (rest := []) hz hA C hP hD hS hl.1 cw_J7_checkLength_df160 ml_J7_343 (c_J7_checkLength_df160 l D ca Z A hz (by omega)) rfl ⟨rfl, rfl⟩ ⟨Nat.le_of_ble_eq_true rfl, Nat.le_of_ble_eq_true rfl⟩ ⟨Nat.le_of_ble_eq_true rfl, Nat.le_of_ble_eq_true rfl⟩ (Nat.le_of_ble_eq_true rfl) rfl dJ7_copyOfRangeByte_39247_2 (fun rv W1 H locs hpost hD hP hS => ?_)
  obtain ⟨rfl, rfl⟩ := hpost
  show W p l e _ s m _ below meth c H locs _ _ _ (F0 m 5 ls [])
  refine lv_iload_n hx hb dJ7_copyOfRangeByte_39247_5 rfl (lv_at hl 2 rfl) ?_
  refine lv_iload_n hx hb dJ7_copyOfRangeByte_39247_6 rfl (lv_at hl 1 rfl) ?_
  refine lv_isub hx hb dJ7_copyOfRangeByte_39247_7 ?_
  rw [show (nI n - 0) = nI n from (sbI_sub (a := n) (b := 0) (by omega))]
  refine lv_istore_n (lv' := [(3, .int (nI n)), (0, .ref q), (1, .int 0), (2, .int (nI n))]) hx hb dJ7_copyOfRangeByte_39247_8 rfl hl (by decide) rfl (fun ls hl => ?_)
  refine lv_iload_n hx hb dJ7_copyOfRangeByte_39247_9 rfl (lv_at hl 0 rfl) ?_
  refine rn_arr (X := []) (L := [x, y, (q, .inl (ca 1, mq, .inl a))]) (ty := .byte) (t0 := 1) (q0 := 1) (N' := n) (a0 := (n, .inl (fun _ => 0))) C rfl rfl (fun cA h1 h2 => Option.some.inj (h1.symm.trans h2)) ac__byte hP hD hS hA (fun _ => rfl) (nI_pos (by omega)) (nI_clamp (by omega)) (by show n * 1 ≤ 536870912; omega) (by show _ ≤ 1; omega) (by show _ ≤ 1024; omega) dJ7_copyOfRangeByte_39247_10 (fun q1 H hP hD hS => ?_)
  have hP : va_P D vwCl ([x, y, (q, .inl (ca 1, mq, .inl a)), (q1, .inl (ca 1, n, .inl (fun _ => 0)))]) H := hP
  have hD : va_D A ([x, y, (q, .inl (ca 1, mq, .inl a)), (q1, .inl (ca 1, n, .inl (fun _ => 0)))]) := hD
  refine lv_astore (lv' := [(4, .ref q1), (3, .int (nI n)), (0, .ref q), (1, .int 0), (2, .int (nI n))]) hx hb dJ7_copyOfRangeByte_39247_12 hl (by decide) rfl (fun ls hl => ?_)
  refine lv_aload_n hx hb dJ7_copyOfRangeByte_39247_14 rfl (lv_at hl 2 rfl) ?_
  refine lv_iload_n hx hb dJ7_copyOfRangeByte_39247_15 rfl (lv_at hl 3 rfl) ?_
  refine lv_aload hx hb dJ7_copyOfRangeByte_39247_16 (lv_at hl 0 rfl) ?_
  refine lv_iconst (v := (0 : Int32)) hx hb dJ7_copyOfRangeByte_39247_18 (by decide) ?_
  refine lv_aload_n hx hb dJ7_copyOfRangeByte_39247_19 rfl (lv_at hl 2 rfl) ?_
  refine va_alen hx hb hK hP 2 1 rfl rfl (v := nI mq) rfl dJ7_copyOfRangeByte_39247_20 ?_
  refine lv_iload_n hx hb dJ7_copyOfRangeByte_39247_21 rfl (lv_at hl 3 rfl) ?_
  refine lv_isub hx hb dJ7_copyOfRangeByte_39247_22 ?_
  rw [show (nI mq - 0) = nI mq from (sbI_sub (a := mq) (b := 0) (by omega))]
  refine lv_iload_n hx hb dJ7_copyOfRangeByte_39247_23 rfl (lv_at hl 1 rfl) ?_
  refine km_min C hl.1 ml_J7_304 ⟨Nat.le_of_ble_eq_true rfl, Nat.le_of_ble_eq_true rfl⟩ ⟨Nat.le_of_ble_eq_true rfl, by show _ ≤ 1024; omega⟩ dJ7_copyOfRangeByte_39247_24 ?_
  rw [show (if (nI n) < (nI mq) then (nI n) else (nI mq)) = nI n from sb_min h1 (by omega)]
  refine va_copyi hx hb (hml.trans hl.1.symm) hown (hts _ ml_J7_150) (hts _ na_arraycopyName) (hts _ st_arraycopyName) (hts _ ini_java_lang_System) hK hP hD hS 2 3 1 1 rfl rfl rfl rfl rfl (by decide) (by decide) (nI_pos (by omega)) (by rw [nI_clamp (by omega), sb_cl0]; omega) (by rw [nI_clamp (by omega), sb_cl0]; omega) (fun i _ => hf _) (Nat.le_of_ble_eq_true rfl) (by decide) dJ7_copyOfRangeByte_39247_27 (fun H locs hP hD hS => ?_)
  rw [nI_clamp (show n < 2 ^ 31 by omega), sb_cl0] at hP hD
  have hP : va_P D vwCl ([x, y, (q, .inl (ca 1, mq, .inl a)), (q1, .inl (ca 1, n, .inl (va_cpy a (fun _ => 0) 0 0 n)))]) H := hP
  have hD : va_D A ([x, y, (q, .inl (ca 1, mq, .inl a)), (q1, .inl (ca 1, n, .inl (va_cpy a (fun _ => 0) 0 0 n)))]) := hD
  refine lv_aload hx hb dJ7_copyOfRangeByte_39247_30 (lv_at hl 0 rfl) ?_
  exact kb_a hx hb hr (Or.inr ⟨_, rfl⟩) hlocks hP hD hS (Nat.le_refl _) (by show _ ≤ 1024; omega) ⟨q1, rfl, rfl⟩ dJ7_copyOfRangeByte_39247_32

theorem cw_J7_copyOfRange_39247 : CS yJ7_copyOfRange_39247 cJ7_copyOfRange_39247 3 (some (.array .byte)) 3 := ⟨st_J7_copyOfRange_39247, ini_J7, cd_J7_copyOfRange_39247, by decide +kernel⟩
set_option maxRecDepth 100000 in
set_option maxHeartbeats 4000000 in
theorem c_J7_copyOfRange_39247 (l : Launch) (D : va_G) (ca : Nat → ClassId) (Z : State → Prop) (A : Nat → Prop) (hz : stb A Z) {x y : Nat × va_E} {q mq n : Nat} {a : Nat → Int32} (hf : sb_Fit a) (h1 : n < mq) (h2 : mq ≤ 1024) : CB l yJ7_copyOfRange_39247 (wsy yJ7_copyOfRange_39247 cJ7_copyOfRange_39247 3 (some (.array .byte))) ({ frames := 2, cells := 1, slots := 1024, locals := 92 } : Room) D ca Z A [.ref q, .int 0, .int (nI n)] [x, y, (q, .inl (ca 1, mq, .inl a))] (fun rv W1 => ∃ q1, rv = some (.ref q1) ∧ W1 = [x, y, (q, .inl (ca 1, mq, .inl a)), (q1, .inl (ca 1, n, .inl (va_cpy a (fun _ => 0) 0 0 n)))]) 1 1024 := by
  intro hD
  refine Met.ofW (cc := cJ7_copyOfRange_39247) (maxL := 3) (ret := (some (.array .byte))) (by decide +kernel) rfl ?_
  intro p e s m args below meth c s₁ B hml hv
  obtain ⟨rfl, hP, hK, hZ, hA⟩ := hv
  have hx := B.exec
  have hb := B.bytes
  have hr := B.returns
  have hlocks := B.notSynchronized
  have hts : ∀ w ∈ ALL, w.before _ s = true := fun w hw => atoms_spec (ws := wsy yJ7_copyOfRange_39247 cJ7_copyOfRange_39247 3 (some (.array .byte))) B.pre w (List.mem_cons_of_mem _ hw)
  have hown : s.vm.findClass RJ7 = some m.cls := findClass_of_methodNamed B.named
  have C : CX p s m _ c cJ7_copyOfRange_39247 RJ7 3 D ca Z := ⟨hx, hb, hml, hown, hts, hK, hZ⟩
  have hS : va_S A s.heap s.heap [] := va_S.rf
  have hl := lv_entry ([.ref q, .int 0, .int (nI n)]) (n := 3) (Nat.le_of_ble_eq_true rfl)
  rw [lg_entry_eq]
  generalize (lg_sl ([.ref q, .int 0, .int (nI n)]) ++ List.replicate (3 - (lg_sl ([.ref q, .int 0, .int (nI n)])).length) Slot.unset).toArray = ls at hl ⊢
  have hl : lv_has ls 3 [(0, .ref q), (1, .int 0), (2, .int (nI n))] := hl
  show W p l e ({ frames := 2, cells := 1, slots := 1024, locals := 92 } : Room) s m _ below meth c s.heap [] 0 0 _ _
  refine lv_iload_n hx hb dJ7_copyOfRange_39247_0 rfl (lv_at hl 1 rfl) ?_
  refine lv_if_ne (tgt := 10) hx hb dJ7_copyOfRange_39247_1 (by decide) (fun hc => absurd rfl hc) (fun _ => ?_)
  refine lv_iload_n hx hb dJ7_copyOfRange_39247_4 rfl (lv_at hl 2 rfl) ?_
  refine lv_aload_n hx hb dJ7_copyOfRange_39247_5 rfl (lv_at hl 0 rfl) ?_
  refine va_alen hx hb hK hP 2 1 rfl rfl (v := nI mq) rfl dJ7_copyOfRange_39247_6 ?_
  refine lv_icmp_eq (tgt := 17) hx hb dJ7_copyOfRange_39247_7 (by decide) (fun hc => absurd ((nI_eq (a := n) (b := mq) (by omega) (by omega)).mp hc) (by omega)) (fun _ => ?_)
  refine lv_aload_n hx hb dJ7_copyOfRange_39247_10 rfl (lv_at hl 0 rfl) ?_
  refine lv_iload_n hx hb dJ7_copyOfRange_39247_11 rfl (lv_at hl 1 rfl) ?_
  refine lv_iload_n hx hb dJ7_copyOfRange_39247_12 rfl (lv_at hl 2 rfl) ?_
  refine kb_S (As := [.ref q, .int 0, .int (nI n)]) (rest := []) hz hA C hP hD hS hl.1 cw_J7_copyOfRangeByte_39247 ml_J7_339 (c_J7_copyOfRangeByte_39247 l D ca Z A hz (x := x) (y := y) hf (by omega) h2) rfl ⟨rfl, rfl⟩ ⟨Nat.le_of_ble_eq_true rfl, Nat.le_of_ble_eq_true rfl⟩ ⟨Nat.le_of_ble_eq_true rfl, Nat.le_of_ble_eq_true rfl⟩ (Nat.le_of_ble_eq_true rfl) rfl dJ7_copyOfRange_39247_13 (fun rv W1 H locs hpost hD hP hS => ?_)
  obtain ⟨q1, rfl, rfl⟩ := hpost
  show W p l e _ s m _ below meth c H locs _ _ _ (F0 m 16 ls [.ref q1])
  exact kb_a hx hb hr (Or.inr ⟨_, rfl⟩) hlocks hP hD hS (Nat.le_refl _) (Nat.le_refl _) ⟨q1, rfl, rfl⟩ dJ7_copyOfRange_39247_16

theorem cu_J5_getValue_6d5f1 : CU RJ4 RJ5 yJ5_getValue_6d5f1 yJ5_getValue_6d5f1 cJ5_getValue_6d5f1 1 (some (.array .byte)) 0 := ⟨sm_AbstractStringBuilder_AbstractStringBuilder_getValue_6, se_J5_getValue_6d5f1, im_J5_getValue_6d5f1, ini_J5, cd_J5_getValue_6d5f1, by decide +kernel⟩
set_option maxRecDepth 100000 in
set_option maxHeartbeats 4000000 in
theorem c_J5_getValue_6d5f1 (l : Launch) (D : va_G) (ca : Nat → ClassId) (Z : State → Prop) (A : Nat → Prop) (hz : stb A Z) {sb q n : Nat} {Wd : va_W} (j : Nat) (hj : Wd[j]? = some (sb, .inr (12, [.ref q, .int 0, .int 0, .int (nI n)]))) : CB l yJ5_getValue_6d5f1 (wsy yJ5_getValue_6d5f1 cJ5_getValue_6d5f1 1 (some (.array .byte))) ({ frames := 0, cells := 0, slots := 0, locals := 12 } : Room) D ca Z A [.ref sb] Wd (fun rv W1 => rv = some (.ref q) ∧ W1 = Wd) 0 0 := by
  intro hD
  refine Met.ofW (cc := cJ5_getValue_6d5f1) (maxL := 1) (ret := (some (.array .byte))) (by decide +kernel) rfl ?_
  intro p e s m args below meth c s₁ B hml hv
  obtain ⟨rfl, hP, hK, hZ, hA⟩ := hv
  have hx := B.exec
  have hb := B.bytes
  have hr := B.returns
  have hlocks := B.notSynchronized
  have hts : ∀ w ∈ ALL, w.before _ s = true := fun w hw => atoms_spec (ws := wsy yJ5_getValue_6d5f1 cJ5_getValue_6d5f1 1 (some (.array .byte))) B.pre w (List.mem_cons_of_mem _ hw)
  have hown : s.vm.findClass RJ5 = some m.cls := findClass_of_methodNamed B.named
  have C : CX p s m _ c cJ5_getValue_6d5f1 RJ5 1 D ca Z := ⟨hx, hb, hml, hown, hts, hK, hZ⟩
  have hS : va_S A s.heap s.heap [] := va_S.rf
  have hl := lv_entry ([.ref sb]) (n := 1) (Nat.le_of_ble_eq_true rfl)
  rw [lg_entry_eq]
  generalize (lg_sl ([.ref sb]) ++ List.replicate (1 - (lg_sl ([.ref sb])).length) Slot.unset).toArray = ls at hl ⊢
  have hl : lv_has ls 1 [(0, .ref sb)] := hl
  show W p l e ({ frames := 0, cells := 0, slots := 0, locals := 12 } : Room) s m _ below meth c s.heap [] 0 0 _ _
  refine lv_aload_n hx hb dJ5_getValue_6d5f1_0 rfl (lv_at hl 0 rfl) ?_
  refine va_get (D := D) (ci := 12) (v := .ref q) (C := RJ4) (T := TJ4) (N := 4) hx hb hts in_wsJ40 hown hK hP j hj rfl 0 (by decide) (hts _ lk_J5_15) (fun _ h9 => h9) rfl dJ5_getValue_6d5f1_1 ?_
  exact kb_a hx hb hr (Or.inr ⟨_, rfl⟩) hlocks hP hD hS (Nat.le_refl _) (Nat.le_refl _) ⟨rfl, rfl⟩ dJ5_getValue_6d5f1_4

theorem cv_J5_length_8abf5 : CSU RJ4 yJ5_length_8abf5 cJ5_length_8abf5 1 (some .int) 0 := ⟨sm_AbstractStringBuilder_AbstractStringBuilder_length_5, su_J4_J5, im_J5_length_8abf5, ini_J5, cd_J5_length_8abf5, by decide +kernel⟩
set_option maxRecDepth 100000 in
set_option maxHeartbeats 4000000 in
theorem c_J5_length_8abf5 (l : Launch) (D : va_G) (ca : Nat → ClassId) (Z : State → Prop) (A : Nat → Prop) (hz : stb A Z) {sb q n : Nat} {Wd : va_W} (j : Nat) (hj : Wd[j]? = some (sb, .inr (12, [.ref q, .int 0, .int 0, .int (nI n)]))) : CB l yJ5_length_8abf5 (wsy yJ5_length_8abf5 cJ5_length_8abf5 1 (some .int)) ({ frames := 0, cells := 0, slots := 0, locals := 12 } : Room) D ca Z A [.ref sb] Wd (fun rv W1 => rv = some (.int (nI n)) ∧ W1 = Wd) 0 0 := by
  intro hD
  refine Met.ofW (cc := cJ5_length_8abf5) (maxL := 1) (ret := (some .int)) (by decide +kernel) rfl ?_
  intro p e s m args below meth c s₁ B hml hv
  obtain ⟨rfl, hP, hK, hZ, hA⟩ := hv
  have hx := B.exec
  have hb := B.bytes
  have hr := B.returns
  have hlocks := B.notSynchronized
  have hts : ∀ w ∈ ALL, w.before _ s = true := fun w hw => atoms_spec (ws := wsy yJ5_length_8abf5 cJ5_length_8abf5 1 (some .int)) B.pre w (List.mem_cons_of_mem _ hw)
  have hown : s.vm.findClass RJ5 = some m.cls := findClass_of_methodNamed B.named
  have C : CX p s m _ c cJ5_length_8abf5 RJ5 1 D ca Z := ⟨hx, hb, hml, hown, hts, hK, hZ⟩
  have hS : va_S A s.heap s.heap [] := va_S.rf
  have hl := lv_entry ([.ref sb]) (n := 1) (Nat.le_of_ble_eq_true rfl)
  rw [lg_entry_eq]
  generalize (lg_sl ([.ref sb]) ++ List.replicate (1 - (lg_sl ([.ref sb])).length) Slot.unset).toArray = ls at hl ⊢
  have hl : lv_has ls 1 [(0, .ref sb)] := hl
  show W p l e ({ frames := 0, cells := 0, slots := 0, locals := 12 } : Room) s m _ below meth c s.heap [] 0 0 _ _
  refine lv_aload_n hx hb dJ5_length_8abf5_0 rfl (lv_at hl 0 rfl) ?_
  refine va_get (D := D) (ci := 12) (v := .int (nI n)) (C := RJ4) (T := TJ4) (N := 4) hx hb hts in_wsJ40 hown hK hP j hj rfl 3 (by decide) (hts _ lk_J5_79) (fun _ h9 => h9) rfl dJ5_length_8abf5_1 ?_
  exact kb_i hx hb hr rfl hlocks hP hD hS (Nat.le_refl _) (Nat.le_refl _) ⟨rfl, rfl⟩ dJ5_length_8abf5_4

theorem co_J4_length_8abf5 : CU RJ4 RJ5 yJ5_length_8abf5 yJ4_length_8abf5 cJ4_length_8abf5 1 (some .int) 0 := ⟨sm_AbstractStringBuilder_AbstractStringBuilder_length_5, se_J5_length_8abf5, im_J4_length_8abf5, ini_J4, cd_J4_length_8abf5, by decide +kernel⟩
set_option maxRecDepth 100000 in
set_option maxHeartbeats 4000000 in
theorem c_J4_length_8abf5 (l : Launch) (D : va_G) (ca : Nat → ClassId) (Z : State → Prop) (A : Nat → Prop) (hz : stb A Z) {sb q n : Nat} {Wd : va_W} (j : Nat) (hj : Wd[j]? = some (sb, .inr (12, [.ref q, .int 0, .int 0, .int (nI n)]))) : CB l yJ4_length_8abf5 (wsy yJ4_length_8abf5 cJ4_length_8abf5 1 (some .int)) ({ frames := 1, cells := 0, slots := 0, locals := 52 } : Room) D ca Z A [.ref sb] Wd (fun rv W1 => rv = some (.int (nI n)) ∧ W1 = Wd) 0 0 := by
  intro hD
  refine Met.ofW (cc := cJ4_length_8abf5) (maxL := 1) (ret := (some .int)) (by decide +kernel) rfl ?_
  intro p e s m args below meth c s₁ B hml hv
  obtain ⟨rfl, hP, hK, hZ, hA⟩ := hv
  have hx := B.exec
  have hb := B.bytes
  have hr := B.returns
  have hlocks := B.notSynchronized
  have hts : ∀ w ∈ ALL, w.before _ s = true := fun w hw => atoms_spec (ws := wsy yJ4_length_8abf5 cJ4_length_8abf5 1 (some .int)) B.pre w (List.mem_cons_of_mem _ hw)
  have hown : s.vm.findClass RJ4 = some m.cls := findClass_of_methodNamed B.named
  have C : CX p s m _ c cJ4_length_8abf5 RJ4 1 D ca Z := ⟨hx, hb, hml, hown, hts, hK, hZ⟩
  have hS : va_S A s.heap s.heap [] := va_S.rf
  have hl := lv_entry ([.ref sb]) (n := 1) (Nat.le_of_ble_eq_true rfl)
  rw [lg_entry_eq]
  generalize (lg_sl ([.ref sb]) ++ List.replicate (1 - (lg_sl ([.ref sb])).length) Slot.unset).toArray = ls at hl ⊢
  have hl : lv_has ls 1 [(0, .ref sb)] := hl
  show W p l e ({ frames := 1, cells := 0, slots := 0, locals := 52 } : Room) s m _ below meth c s.heap [] 0 0 _ _
  refine lv_aload_n hx hb dJ4_length_8abf5_0 rfl (lv_at hl 0 rfl) ?_
  refine kb_SU (j := j) (As := []) (rest := []) hz hA C hP hD hS hl.1 hj rfl cv_J5_length_8abf5 ml_J4_343 (c_J5_length_8abf5 l D ca Z A hz j hj) rfl ⟨rfl, rfl⟩ ⟨Nat.le_of_ble_eq_true rfl, Nat.le_of_ble_eq_true rfl⟩ ⟨Nat.le_of_ble_eq_true rfl, Nat.le_of_ble_eq_true rfl⟩ (Nat.le_of_ble_eq_true rfl) rfl dJ4_length_8abf5_1 (fun rv W1 H locs hpost hD hP hS => ?_)
  obtain ⟨rfl, e9⟩ := hpost
  rw [e9] at hP hD
  show W p l e _ s m _ below meth c H locs _ _ _ (F0 m 4 ls [.int (nI n)])
  exact kb_i hx hb hr rfl hlocks hP hD hS (Nat.le_refl _) (Nat.le_refl _) ⟨rfl, rfl⟩ dJ4_length_8abf5_4

set_option maxRecDepth 100000 in
set_option maxHeartbeats 4000000 in
theorem c_J0_init_db425 (l : Launch) (D : va_G) (ca : Nat → ClassId) (Z : State → Prop) (A : Nat → Prop) (hz : stb A Z) {st sb q mq n : Nat} {a : Nat → Int32} (hcs : ∀ U, Z U → CSZ A U) (hf : sb_Fit a) (h1 : n < mq) (h2 : mq ≤ 1024) : CB l yJ0_init_db425 (wsy yJ0_init_db425 cJ0_init_db425 5 none) ({ frames := 3, cells := 1, slots := 1024, locals := 132 } : Room) D ca Z A [.ref st, .ref sb, .null] [(st, .inr (11, [.null, .int 0, .int 0, .int 0])), (sb, .inr (12, [.ref q, .int 0, .int 0, .int (nI n)])), (q, .inl (ca 1, mq, .inl a))] (fun rv W1 => rv = none ∧ ∃ q1, W1 = [(st, .inr (11, [.ref q1, .int 0, .int 0, .int 0])), (sb, .inr (12, [.ref q, .int 0, .int 0, .int (nI n)])), (q, .inl (ca 1, mq, .inl a)), (q1, .inl (ca 1, n, .inl (va_cpy a (fun _ => 0) 0 0 n)))]) 1 1024 := by
  intro hD
  refine Met.ofW (cc := cJ0_init_db425) (maxL := 5) (ret := none) (by decide +kernel) rfl ?_
  intro p e s m args below meth c s₁ B hml hv
  obtain ⟨rfl, hP, hK, hZ, hA⟩ := hv
  have hx := B.exec
  have hb := B.bytes
  have hr := B.returns
  have hlocks := B.notSynchronized
  have hts : ∀ w ∈ ALL, w.before _ s = true := fun w hw => atoms_spec (ws := wsy yJ0_init_db425 cJ0_init_db425 5 none) B.pre w (List.mem_cons_of_mem _ hw)
  have hown : s.vm.findClass RJ0 = some m.cls := findClass_of_methodNamed B.named
  have C : CX p s m _ c cJ0_init_db425 RJ0 5 D ca Z := ⟨hx, hb, hml, hown, hts, hK, hZ⟩
  have hS : va_S A s.heap s.heap [] := va_S.rf
  have hl := lv_entry ([.ref st, .ref sb, .null]) (n := 5) (Nat.le_of_ble_eq_true rfl)
  rw [lg_entry_eq]
  generalize (lg_sl ([.ref st, .ref sb, .null]) ++ List.replicate (5 - (lg_sl ([.ref st, .ref sb, .null])).length) Slot.unset).toArray = ls at hl ⊢
  have hl : lv_has ls 5 [(0, .ref st), (1, .ref sb), (2, .null)] := hl
  show W p l e ({ frames := 3, cells := 1, slots := 1024, locals := 132 } : Room) s m _ below meth c s.heap [] 0 0 _ _
  have hin2 : meth.name = "<init>" := (name_of_methodNamed B.named B.method).1
  refine lv_aload_n hx hb dJ0_init_db425_0 rfl (lv_at hl 0 rfl) ?_
  refine W.objInit hx hb hown (hts _ ml_J0_1) (hts _ im_objectInit) (hts _ cd_objectInit) rfl (by rw [hml]; exact hl.1) rfl dJ0_init_db425_1 (Nat.le_of_ble_eq_true rfl) (Nat.le_of_ble_eq_true rfl) ?_
  refine W.eq (g2 := F0 m 4 ls []) rfl ?_
  refine lv_aload_n hx hb dJ0_init_db425_4 rfl (lv_at hl 1 rfl) ?_
  refine kb_U (j := 1) (As := []) (rest := []) hz hA C hP hD hS hl.1 rfl rfl cu_J5_getValue_6d5f1 rfl ml_J0_552 (c_J5_getValue_6d5f1 l D ca Z A hz 1 rfl) rfl ⟨rfl, rfl⟩ ⟨Nat.le_of_ble_eq_true rfl, Nat.le_of_ble_eq_true rfl⟩ ⟨Nat.le_of_ble_eq_true rfl, Nat.le_of_ble_eq_true rfl⟩ (Nat.le_of_ble_eq_true rfl) rfl dJ0_init_db425_5 (fun rv W1 H locs hpost hD hP hS => ?_)
  obtain ⟨rfl, rfl⟩ := hpost
  show W p l e _ s m _ below meth c H locs _ _ _ (F0 m 8 ls [.ref q])
  refine lv_astore_n (lv' := [(3, .ref q), (0, .ref st), (1, .ref sb), (2, .null)]) hx hb dJ0_init_db425_8 rfl hl (by decide) rfl (fun ls hl => ?_)
  refine lv_aload_n hx hb dJ0_init_db425_9 rfl (lv_at hl 2 rfl) ?_
  refine kb_O (j := 1) (As := []) (rest := []) hz hA C hP hD hS hl.1 rfl rfl co_J4_length_8abf5 im_J5_length_8abf5 cd_J5_length_8abf5 ml_J0_549 (c_J4_length_8abf5 l D ca Z A hz 1 rfl) rfl ⟨rfl, rfl⟩ ⟨Nat.le_of_ble_eq_true rfl, Nat.le_of_ble_eq_true rfl⟩ ⟨Nat.le_of_ble_eq_true rfl, Nat.le_of_ble_eq_true rfl⟩ (Nat.le_of_ble_eq_true rfl) rfl dJ0_init_db425_10 (fun rv W1 H locs hpost hD hP hS => ?_)
  obtain ⟨rfl, rfl⟩ := hpost
  show W p l e _ s m _ below meth c H locs _ _ _ (F0 m 13 ls [.int (nI n)])
  refine lv_istore (lv' := [(4, .int (nI n)), (3, .ref q), (0, .ref st), (1, .ref sb), (2, .null)]) hx hb dJ0_init_db425_13 hl (by decide) rfl (fun ls hl => ?_)
  refine lv_aload_n hx hb dJ0_init_db425_15 rfl (lv_at hl 3 rfl) ?_
  refine kb_U (j := 1) (As := []) (rest := []) hz hA C hP hD hS hl.1 rfl rfl cu_J5_isLatin1_aae02 rfl ml_J0_1047 (c_J5_isLatin1_aae02 l D ca Z A hz 1 hcs rfl) rfl ⟨rfl, rfl⟩ ⟨Nat.le_of_ble_eq_true rfl, Nat.le_of_ble_eq_true rfl⟩ ⟨Nat.le_of_ble_eq_true rfl, Nat.le_of_ble_eq_true rfl⟩ (Nat.le_of_ble_eq_true rfl) rfl dJ0_init_db425_16 (fun rv W1 H locs hpost hD hP hS => ?_)
  obtain ⟨rfl, rfl⟩ := hpost
  show W p l e _ s m _ below meth c H locs _ _ _ (F0 m 19 ls [.int 1])
  refine lv_if_eq (tgt := 41) hx hb dJ0_init_db425_19 (by decide) (fun hc => absurd hc (by decide)) (fun _ => ?_)
  refine lv_aload_n hx hb dJ0_init_db425_22 rfl (lv_at hl 2 rfl) ?_
  refine lv_iconst (v := (0 : Int32)) hx hb dJ0_init_db425_23 (by decide) ?_
  refine va_putF (D := D) (ci := 11) (v := .int (0 : Int32)) (ty := tyJ0 1) (C := RJ0) (T := TJ0) (N := 4) hx hb hts in_wsJ00 tyJ0 tyJ0_ok nmJ0 hown hK hP hD hS 0 rfl rfl 1 (by decide) (hts _ lk_J0_15) (fun _ h9 => h9) rfl hin2 rfl rfl rfl rfl (Nat.le_of_ble_eq_true rfl) dJ0_init_db425_24 (fun H locs hP hD hS => ?_)
  have hP : va_P D vwCl ([(st, .inr (11, [.null, .int (0 : Int32), .int 0, .int 0])), (sb, .inr (12, [.ref q, .int 0, .int 0, .int (nI n)])), (q, .inl (ca 1, mq, .inl a))]) H := hP
  have hD : va_D A ([(st, .inr (11, [.null, .int (0 : Int32), .int 0, .int 0])), (sb, .inr (12, [.ref q, .int 0, .int 0, .int (nI n)])), (q, .inl (ca 1, mq, .inl a))]) := hD
  refine lv_aload_n hx hb dJ0_init_db425_27 rfl (lv_at hl 2 rfl) ?_
  refine lv_aload_n hx hb dJ0_init_db425_28 rfl (lv_at hl 1 rfl) ?_
  refine lv_iconst (v := (0 : Int32)) hx hb dJ0_init_db425_29 (by decide) ?_
  refine lv_iload hx hb dJ0_init_db425_30 (lv_at hl 0 rfl) ?_
  refine kb_S (As := [.ref q, .int 0, .int (nI n)]) (rest := [.ref st]) hz hA C hP hD hS hl.1 cw_J7_copyOfRange_39247 ml_J0_54 (c_J7_copyOfRange_39247 l D ca Z A hz (x := (st, .inr (11, [.null, .int 0, .int 0, .int 0]))) (y := (sb, .inr (12, [.ref q, .int 0, .int 0, .int (nI n)]))) hf h1 h2) rfl ⟨rfl, rfl⟩ ⟨Nat.le_of_ble_eq_true rfl, Nat.le_of_ble_eq_true rfl⟩ ⟨Nat.le_of_ble_eq_true rfl, Nat.le_of_ble_eq_true rfl⟩ (Nat.le_of_ble_eq_true rfl) rfl dJ0_init_db425_32 (fun rv W1 H locs hpost hD hP hS => ?_)
  obtain ⟨q1, rfl, rfl⟩ := hpost
  show W p l e _ s m _ below meth c H locs _ _ _ (F0 m 35 ls [.ref q1, .ref st])
  refine va_putF (D := D) (ci := 11) (v := .ref q1) (ty := tyJ0 0) (C := RJ0) (T := TJ0) (N := 4) hx hb hts in_wsJ00 tyJ0 tyJ0_ok nmJ0 hown hK hP hD hS 0 rfl rfl 0 (by decide) (hts _ lk_J0_9) (fun _ h9 => h9) rfl hin2 rfl rfl rfl rfl (Nat.le_of_ble_eq_true rfl) dJ0_init_db425_35 (fun H locs hP hD hS => ?_)
  have hP : va_P D vwCl ([(st, .inr (11, [.ref q1, .int (0 : Int32), .int 0, .int 0])), (sb, .inr (12, [.ref q, .int 0, .int 0, .int (nI n)])), (q, .inl (ca 1, mq, .inl a)), (q1, .inl (ca 1, n, .inl (va_cpy a (fun _ => 0) 0 0 n)))]) H := hP
  have hD : va_D A ([(st, .inr (11, [.ref q1, .int (0 : Int32), .int 0, .int 0])), (sb, .inr (12, [.ref q, .int 0, .int 0, .int (nI n)])), (q, .inl (ca 1, mq, .inl a)), (q1, .inl (ca 1, n, .inl (va_cpy a (fun _ => 0) 0 0 n)))]) := hD
  refine lv_goto (tgt := 97) hx hb dJ0_init_db425_38 (by decide) ?_
  exact kb_v hx hb hr hlocks hP hD hS (Nat.le_refl _) (by show _ ≤ 1024; omega) ⟨rfl, q1, rfl⟩ dJ0_init_db425_97

set_option maxRecDepth 100000 in
set_option maxHeartbeats 4000000 in
theorem c_J0_init_81219 (l : Launch) (D : va_G) (ca : Nat → ClassId) (Z : State → Prop) (A : Nat → Prop) (hz : stb A Z) {st sb q mq n : Nat} {a : Nat → Int32} (hcs : ∀ U, Z U → CSZ A U) (hf : sb_Fit a) (h1 : n < mq) (h2 : mq ≤ 1024) : CB l yJ0_init_81219 (wsy yJ0_init_81219 cJ0_init_81219 2 none) ({ frames := 4, cells := 1, slots := 1024, locals := 172 } : Room) D ca Z A [.ref st, .ref sb] [(st, .inr (11, [.null, .int 0, .int 0, .int 0])), (sb, .inr (12, [.ref q, .int 0, .int 0, .int (nI n)])), (q, .inl (ca 1, mq, .inl a))] (fun rv W1 => rv = none ∧ ∃ q1, W1 = [(st, .inr (11, [.ref q1, .int 0, .int 0, .int 0])), (sb, .inr (12, [.ref q, .int 0, .int 0, .int (nI n)])), (q, .inl (ca 1, mq, .inl a)), (q1, .inl (ca 1, n, .inl (va_cpy a (fun _ => 0) 0 0 n)))]) 1 1024 := by
  intro hD
  refine Met.ofW (cc := cJ0_init_81219) (maxL := 2) (ret := none) (by decide +kernel) rfl ?_
  intro p e s m args below meth c s₁ B hml hv
  obtain ⟨rfl, hP, hK, hZ, hA⟩ := hv
  have hx := B.exec
  have hb := B.bytes
  have hr := B.returns
  have hlocks := B.notSynchronized
  have hts : ∀ w ∈ ALL, w.before _ s = true := fun w hw => atoms_spec (ws := wsy yJ0_init_81219 cJ0_init_81219 2 none) B.pre w (List.mem_cons_of_mem _ hw)
  have hown : s.vm.findClass RJ0 = some m.cls := findClass_of_methodNamed B.named
  have C : CX p s m _ c cJ0_init_81219 RJ0 2 D ca Z := ⟨hx, hb, hml, hown, hts, hK, hZ⟩
  have hS : va_S A s.heap s.heap [] := va_S.rf
  have hl := lv_entry ([.ref st, .ref sb]) (n := 2) (Nat.le_of_ble_eq_true rfl)
  rw [lg_entry_eq]
  generalize (lg_sl ([.ref st, .ref sb]) ++ List.replicate (2 - (lg_sl ([.ref st, .ref sb])).length) Slot.unset).toArray = ls at hl ⊢
  have hl : lv_has ls 2 [(0, .ref st), (1, .ref sb)] := hl
  show W p l e ({ frames := 4, cells := 1, slots := 1024, locals := 172 } : Room) s m _ below meth c s.heap [] 0 0 _ _
  refine lv_aload_n hx hb dJ0_init_81219_0 rfl (lv_at hl 0 rfl) ?_
  refine lv_aload_n hx hb dJ0_init_81219_1 rfl (lv_at hl 1 rfl) ?_
  refine lv_null hx hb dJ0_init_81219_2 ?_
  refine kb_I (n := 2) (As := [.ref sb, .null]) (rest := []) hz hA C hP hD hS hl.1 ini_J0 im_J0_init_db425 cd_J0_init_db425 rfl (by decide +kernel) ml_J0_489 (c_J0_init_db425 l D ca Z A hz hcs hf h1 h2) rfl ⟨rfl, rfl⟩ ⟨Nat.le_of_ble_eq_true rfl, Nat.le_of_ble_eq_true rfl⟩ ⟨Nat.le_of_ble_eq_true rfl, Nat.le_of_ble_eq_true rfl⟩ (Nat.le_of_ble_eq_true rfl) rfl dJ0_init_81219_3 (fun rv W1 H locs hpost hD hP hS => ?_)
  obtain ⟨rfl, hpost⟩ := hpost
  show W p l e _ s m _ below meth c H locs _ _ _ (F0 m 6 ls [])
  exact kb_v hx hb hr hlocks hP hD hS (Nat.le_refl _) (Nat.le_refl _) ⟨rfl, hpost⟩ dJ0_init_81219_6

theorem va_D_rot {A : Nat → Prop} {x y z : Nat × va_E} (h : va_D A ([x, y] ++ [z])) : va_D A [z, x, y] := by
  have hm : ∀ i w, [z, x, y][i]? = some w → ∃ j, ([x, y] ++ [z])[j]? = some w ∧ i < 3 ∧ (i = 0 ∧ j = 2 ∨ i = j + 1) := fun i w hw => by
    match i, hw with
    | 0, hw => exact ⟨2, hw, by omega, by omega⟩
    | 1, hw => exact ⟨0, hw, by omega, by omega⟩
    | 2, hw => exact ⟨1, hw, by omega, by omega⟩
    | i + 3, hw => simp at hw
  refine ⟨fun i j v w hv hw e => ?_, fun i w hw => ?_⟩
  · obtain ⟨i', h1, h2, h3⟩ := hm i v hv
    obtain ⟨j', h4, h5, h6⟩ := hm j w hw
    have := h.1 i' j' v w h1 h4 e
    omega
  · obtain ⟨j, h1, -⟩ := hm i w hw
    exact h.2 j w h1
theorem cw_J4_toString_0e30d : CW RJ4 yJ4_toString_0e30d cJ4_toString_0e30d 1 (some (.object "java/lang/String")) 0 := ⟨im_J4_toString_0e30d, se_J4_toString_0e30d, ini_J4, cd_J4_toString_0e30d, by decide +kernel⟩
set_option maxRecDepth 100000 in
set_option maxHeartbeats 4000000 in
theorem c_J4_toString_0e30d (l : Launch) (D : va_G) (ca : Nat → ClassId) (Z : State → Prop) (A : Nat → Prop) (hz : stb A Z) {sb q mq n : Nat} {a : Nat → Int32} (hcs : ∀ U, Z U → CSZ A U) (hf : sb_Fit a) (h1 : n < mq) (h2 : mq ≤ 1024) : CB l yJ4_toString_0e30d (wsy yJ4_toString_0e30d cJ4_toString_0e30d 1 (some (.object "java/lang/String"))) ({ frames := 5, cells := 2, slots := 1028, locals := 212 } : Room) D ca Z A [.ref sb] [(sb, .inr (12, [.ref q, .int 0, .int 0, .int (nI n)])), (q, .inl (ca 1, mq, .inl a))] (fun rv W1 => ∃ st q1, rv = some (.ref st) ∧ W1 = [(st, .inr (11, [.ref q1, .int 0, .int 0, .int 0])), (sb, .inr (12, [.ref q, .int 0, .int 0, .int (nI n)])), (q, .inl (ca 1, mq, .inl a)), (q1, .inl (ca 1, n, .inl (va_cpy a (fun _ => 0) 0 0 n)))]) 2 1028 := by
  intro hD
  refine Met.ofW (cc := cJ4_toString_0e30d) (maxL := 1) (ret := (some (.object "java/lang/String"))) (by decide +kernel) rfl ?_
  intro p e s m args below meth c s₁ B hml hv
  obtain ⟨rfl, hP, hK, hZ, hA⟩ := hv
  have hx := B.exec
  have hb := B.bytes
  have hr := B.returns
  have hlocks := B.notSynchronized
  have hts : ∀ w ∈ ALL, w.before _ s = true := fun w hw => atoms_spec (ws := wsy yJ4_toString_0e30d cJ4_toString_0e30d 1 (some (.object "java/lang/String"))) B.pre w (List.mem_cons_of_mem _ hw)
  have hown : s.vm.findClass RJ4 = some m.cls := findClass_of_methodNamed B.named
  have C : CX p s m _ c cJ4_toString_0e30d RJ4 1 D ca Z := ⟨hx, hb, hml, hown, hts, hK, hZ⟩
  have hS : va_S A s.heap s.heap [] := va_S.rf
  have hl := lv_entry ([.ref sb]) (n := 1) (Nat.le_of_ble_eq_true rfl)
  rw [lg_entry_eq]
  generalize (lg_sl ([.ref sb]) ++ List.replicate (1 - (lg_sl ([.ref sb])).length) Slot.unset).toArray = ls at hl ⊢
  have hl : lv_has ls 1 [(0, .ref sb)] := hl
  show W p l e ({ frames := 5, cells := 2, slots := 1028, locals := 212 } : Room) s m _ below meth c s.heap [] 0 0 _ _
  refine va_new (C := RJ0) (T := TJ0) (N := 4) (ci := 11) (fs := [.null, .int 0, .int 0, .int 0]) hx hb hts in_wsJ00 tyJ0 tyJ0_ok hown (hts _ cl_J4_18) (hts _ it_J0) (hts _ ini_J0) hK hP hD hS hA rfl (fun j hj => by rcases (show j = 0 ∨ j = 1 ∨ j = 2 ∨ j = 3 by omega) with rfl | rfl | rfl | rfl <;> rfl) (Nat.le_of_ble_eq_true rfl) (Nat.le_of_ble_eq_true rfl) dJ4_toString_0e30d_0 (fun st H hP hD hS => ?_)
  have hP := va_P_mem hP (Y := [(st, .inr (11, [.null, .int 0, .int 0, .int 0])), (sb, .inr (12, [.ref q, .int 0, .int 0, .int (nI n)])), (q, .inl (ca 1, mq, .inl a))]) (fun x hx => by simp only [List.cons_append, List.nil_append, List.mem_cons, List.not_mem_nil, or_false] at hx ⊢; rcases hx with h | h | h <;> simp [h])
  have hD := va_D_rot hD
  refine lv_dup hx hb dJ4_toString_0e30d_3 rfl ?_
  refine lv_aload_n hx hb dJ4_toString_0e30d_4 rfl (lv_at hl 0 rfl) ?_
  refine kb_I (n := 1) (As := [.ref sb]) (rest := [.ref st]) hz hA C hP hD hS hl.1 ini_J0 im_J0_init_81219 cd_J0_init_81219 rfl (by decide +kernel) ml_J4_137 (c_J0_init_81219 l D ca Z A hz hcs hf h1 h2) rfl ⟨rfl, rfl⟩ ⟨Nat.le_of_ble_eq_true rfl, Nat.le_of_ble_eq_true rfl⟩ ⟨Nat.le_of_ble_eq_true rfl, Nat.le_of_ble_eq_true rfl⟩ (Nat.le_of_ble_eq_true rfl) rfl dJ4_toString_0e30d_5 (fun rv W1 H locs hpost hD hP hS => ?_)
  obtain ⟨rfl, q1, rfl⟩ := hpost
  show W p l e _ s m _ below meth c H locs _ _ _ (F0 m 8 ls [.ref st])
  exact kb_a hx hb hr (Or.inl ⟨_, rfl⟩) hlocks hP hD hS (Nat.le_refl _) (Nat.le_refl _) ⟨st, q1, rfl, rfl⟩ dJ4_toString_0e30d_8

