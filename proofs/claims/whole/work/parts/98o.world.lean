/-! the law: what is known outside; calls between two worlds -/
def sBy : List (List Int32) := [[102, 117, 110], [116, 101, 114, 109], [115, 97, 109, 101], [100, 105, 102, 102]]
def ZZ (A0 : Nat → Prop) (K V : Nat → Nat) (U : State) : Prop := Zn A0 U ∧ CSZ A0 U ∧ vk_S 4 [3, 4, 4, 4] sBy K V A0 U U.heap ∧ vk_R RX9 155 "fun" (K 0) U ∧ vk_R RX9 160 "term" (K 1) U ∧ vk_R RX9 162 "same" (K 2) U ∧ vk_R RX9 164 "diff" (K 3) U
theorem ZZ.call {A0 : Nat → Prop} {K V : Nat → Nat} {U : State} (g : JFrame) (mk : MethodId) (a : Array Value) (h : ZZ A0 K V U) : ZZ A0 K V (U.calling g mk a) := by
  obtain ⟨h1, ⟨h2, h3⟩, h4, h5, h6, h7, h8⟩ := h
  have hW : U.WarmedH (U.calling g mk a).vm := State.WarmedH.refl U
  exact ⟨h1.call g mk a, ⟨va_Z.moved (u := U) (U := U.calling g mk a) (Vm.Alike.refl U.vm) h2, va_Zq.moved (u := U) (U := U.calling g mk a) (Vm.Alike.refl U.vm) h3⟩, vk_S.moved (u := U) (U := U.calling g mk a) (Vm.Alike.refl U.vm) h4, h5.warm hW, h6.warm hW, h7.warm hW, h8.warm hW⟩
theorem ZZ.kept {A0 : Nat → Prop} {K V : Nat → Nat} {s U : State} (h : ZZ A0 K V s) (hW : s.WarmedH U.vm) (hq : ∀ q : Nat, q < s.heap.size → ¬ A0 q → U.heap[q]? = s.heap[q]?) : ZZ A0 K V U := by
  obtain ⟨h1, ⟨h2, h3⟩, h4, h5, h6, h7, h8⟩ := h
  exact ⟨h1.kept hW hq, ⟨va_Z.moved hW.alike (h2.kept hq), va_Zq.moved hW.alike (h3.kept hq)⟩, vk_S.moved hW.alike (h4.kept hq), h5.warm hW, h6.warm hW, h7.warm hW, h8.warm hW⟩
theorem ZZ_stb {A A0 : Nat → Prop} {K V : Nat → Nat} (h : ∀ x, A x → A0 x) : stb A (ZZ A0 K V) := ⟨fun U g mk a hz => hz.call g mk a, fun s U hz hW hq _ => hz.kept hW (fun q h1 h2 => hq q h1 (fun z => h2 (h q z)))⟩
theorem ZZ_okS {A A0 : Nat → Prop} {K V : Nat → Nat} (h : ∀ x, A x → A0 x) : okS (ZZ A0 K V) A := by
  have hc : ∀ U, ZZ A0 K V U → CSZ A U := fun U hz => ⟨hz.2.1.1.narrow h, hz.2.1.2.narrow h⟩
  refine ⟨⟨K 0, ⟨by decide, V 0, fun U hz => ⟨?_, hc U hz⟩⟩, fun U hz => hz.2.2.2.1⟩, ⟨K 1, ⟨by decide, V 1, fun U hz => ⟨?_, hc U hz⟩⟩, fun U hz => hz.2.2.2.2.1⟩, ⟨K 2, ⟨by decide, V 2, fun U hz => ⟨?_, hc U hz⟩⟩, fun U hz => hz.2.2.2.2.2.1⟩, ⟨K 3, ⟨by decide, V 3, fun U hz => ⟨?_, hc U hz⟩⟩, fun U hz => hz.2.2.2.2.2.2⟩⟩
  · obtain ⟨q1, q2, q3, q4⟩ := hz.2.2.1.1 0 (by omega); exact ⟨q1.narrow h, q2.narrow h, q3.narrow h, q4.narrow h⟩
  · obtain ⟨q1, q2, q3, q4⟩ := hz.2.2.1.1 1 (by omega); exact ⟨q1.narrow h, q2.narrow h, q3.narrow h, q4.narrow h⟩
  · obtain ⟨q1, q2, q3, q4⟩ := hz.2.2.1.1 2 (by omega); exact ⟨q1.narrow h, q2.narrow h, q3.narrow h, q4.narrow h⟩
  · obtain ⟨q1, q2, q3, q4⟩ := hz.2.2.1.1 3 (by omega); exact ⟨q1.narrow h, q2.narrow h, q3.narrow h, q4.narrow h⟩
theorem vaP_right {D : va_G} {cl : List vw_C} {X L : va_W} {H : Heap} (h : va_P D cl (X ++ L) H) : va_P D cl L H := fun k q hk => h (X.length + k) q (by
  rw [List.getElem?_append_right (Nat.le_add_right _ _), Nat.add_sub_cancel_left]; exact hk)
section LAWC
variable {p : Program} {l : Launch} {e : Env} {R : Room} {s : State} {m : MethodId} {args : Array Value} {below : List Frame} {meth : Method} {c : Code} {H : Heap} {locs : List Loc} {cells slots : Nat} {Q : State → Prop}
variable {cc : ByteArray} {pc : Nat} {ls : Array Slot} {rest : List Value} {own : String} {nL : Nat} {D : va_G} {ca : Nat → ClassId} {ad : Nat → Nat → Nat} {PL : List (Nat × Nat)} {A A0 : Nat → Prop} {Z : State → Prop} {w : Mem} {ws2 : va_W}
theorem kcL {y : MethodName} {bytes : ByteArray} {maxL n idx ci i : Nat} {ret : Option FieldType} {rm : Room} {fs : List Value} {q : vw_C} {As st0 : List Value} {w' : Mem} {rv : Option Value}
    (hA : ∀ x, A x → A0 x) (hz : stb A Z) (hz0 : stb A0 Z) (C : CX p s m args c cc own nL D ca Z) (hP : va_P D vwCl (wl ad PL (ent ca ad w)) H) (hP2 : va_P D vwCl ws2 H) (hd : ∀ (k : Nat) (q : Nat × va_E), ws2[k]? = some q → ¬ A q.1) (hS : va_S A0 s.heap H locs) (hsz : ls.size = nL) (hp : (ci, i) ∈ PL) (hent : ent ca ad w ci i = .inr (ci, fs)) (hcl : vwCl[ci]? = some q)
    (cw : CW q.1 y bytes maxL ret n) (hlk : Cond.methodLink own idx y ∈ ALL) (hM : CT l y (wsy y bytes maxL ret) rm D ca ad PL Z A (.ref (ad ci i) :: As) w w' rv) (hn : As.length = n)
    (hrc : rm.cells = 0 ∧ rm.slots = 0) (hrm : rm.frames + 1 ≤ R.frames ∧ 8 + (maxL + 11) + rm.locals ≤ R.locals) (hcs : cells ≤ R.cells ∧ slots ≤ R.slots) (hW : (rest.map fun v => v.category).sum ≤ 8)
    (hst : st0 = As.reverse ++ .ref (ad ci i) :: rest) (hdg : decode cc pc = .ok (.invokevirtual idx, 3))
    (kk : ∀ (H1 : Heap) (locs1 : List Loc), va_P D vwCl (wl ad PL (ent ca ad w')) H1 → va_P D vwCl ws2 H1 → va_S A0 s.heap H1 locs1 → W p l e R s m args below meth c H1 locs1 cells slots Q (F0 m (pc + 3) ls (rv.toList ++ rest))) : W p l e R s m args below meth c H locs cells slots Q (F0 m pc ls st0) := by
  obtain ⟨hx, hb, hml, hown, hts, hK, hZ⟩ := C
  obtain ⟨q0, -, hq⟩ := wl_at (ad := ad) (ent ca ad w) hp
  rw [hent] at hq
  have hr := va_runV (p := p) (e := e) (m := m) (below := below) (meth := meth) (R := R) (locs := locs) (cells := cells) (slots := slots) (C := q.1) (b := ad ci i) (As := As) (rest := rest) (g := F0 m pc ls st0) ⟨hx, hb, hml, hown, hts⟩ hM (cwV n hts (gdV cw hlk) rfl hrc.1 hrc.2 cw.2.2.2.2 hrm) ⟨rx_blind hz, va_recv hK hP hcl hq, fun U hU hWm => ⟨rfl, by rw [hU]; exact hP, va_K.moved hWm.alike hK, hz0.2 s U hZ hWm (fun q9 h1 h2 => by rw [hU]; exact hS.2.1 q9 h1 h2) (by rw [hU]; exact hS.1)⟩⟩ rfl hn hsz hst (by simpa [JFrame.monitorRoom] using hW) hdg hcs
  intro T hT X
  obtain ⟨v, st₀, t, T', L, h0, X', hL, e1, e2, ⟨⟨hv, hP1, -⟩, hz1, hk⟩, st⟩ := hr T hT X
  cases hv
  rw [h0] at hz1 hk
  obtain ⟨t2, a1, b1⟩ := kk T'.heap (locs ++ L) (by rw [e1]; exact hP1) (by rw [e1]; exact hP2.kept (fun k q hk9 => hk _ (hP2 k q hk9).lt (hd k q hk9)))
    ⟨Nat.le_trans hS.1 (by rw [e1]; exact hz1), fun q h1 h2 => by rw [e1, hk q (Nat.lt_of_lt_of_le h1 hS.1) (fun z => h2 (hA q z))]; exact hS.2.1 q h1 h2, fun q hq => by
      rcases List.mem_append.mp hq with h | h
      · exact hS.2.2 q h
      · exact hA _ (hL q h)⟩ T' rfl X'
  exact ⟨t2, st t2 a1, b1⟩
/-- a call that makes cells: text -/
theorem kcT {y : MethodName} {bytes : ByteArray} {maxL n idx ci i mc ms : Nat} {ret : Option FieldType} {rm : Room} {fs : List Value} {q : vw_C} {As st0 : List Value} {w' : Mem} {rv : Option Value}
    (hA : ∀ x, A x → A0 x) (hA2 : ∀ x, s.heap.size ≤ x → A0 x) (hz0 : stb A0 Z) (C : CX p s m args c cc own nL D ca Z) (hP : va_P D vwCl (wl ad PL (ent ca ad w)) H) (hP2 : va_P D vwCl ws2 H) (hd : ∀ (k : Nat) (q : Nat × va_E), ws2[k]? = some q → ¬ A q.1) (hS : va_S A0 s.heap H locs) (hsz : ls.size = nL) (hp : (ci, i) ∈ PL) (hent : ent ca ad w ci i = .inr (ci, fs)) (hcl : vwCl[ci]? = some q)
    (cw : CW q.1 y bytes maxL ret n) (hlk : Cond.methodLink own idx y ∈ ALL) (hM : Met l y (wsy y bytes maxL ret) rm (va_Pc (.ref (ad ci i) :: As) (fun U => U.heap.size = H.size ∧ RX D ca ad PL Z w U)) (qcR D ca ad PL Z A w' rv) mc ms (fun q => A q ∨ H.size ≤ q)) (hn : As.length = n)
    (hrc : rm.cells = mc ∧ rm.slots = ms) (hrm : rm.frames + 1 ≤ R.frames ∧ 8 + (maxL + 11) + rm.locals ≤ R.locals) (hcs : cells + mc ≤ R.cells ∧ slots + ms ≤ R.slots) (hW : (rest.map fun v => v.category).sum ≤ 8)
    (hst : st0 = As.reverse ++ .ref (ad ci i) :: rest) (hdg : decode cc pc = .ok (.invokevirtual idx, 3))
    (kk : ∀ (H1 : Heap) (locs1 : List Loc), va_P D vwCl (wl ad PL (ent ca ad w')) H1 → va_P D vwCl ws2 H1 → va_S A0 s.heap H1 locs1 → W p l e R s m args below meth c H1 locs1 (cells + mc) (slots + ms) Q (F0 m (pc + 3) ls (rv.toList ++ rest))) : W p l e R s m args below meth c H locs cells slots Q (F0 m pc ls st0) := by
  obtain ⟨hx, hb, hml, hown, hts, hK, hZ⟩ := C
  obtain ⟨q0, -, hq⟩ := wl_at (ad := ad) (ent ca ad w) hp
  rw [hent] at hq
  have hr := va_runV (p := p) (e := e) (m := m) (below := below) (meth := meth) (R := R) (locs := locs) (cells := cells) (slots := slots) (C := q.1) (b := ad ci i) (As := As) (rest := rest) (g := F0 m pc ls st0) ⟨hx, hb, hml, hown, hts⟩ hM (cwV n hts (gdV cw hlk) rfl hrc.1 hrc.2 cw.2.2.2.2 hrm) ⟨fun a U g mk q => ⟨q.1, q.2.1, q.2.2.1, va_K.moved (u := U) (U := U.calling g mk a) (Vm.Alike.refl U.vm) q.2.2.2.1, hz0.1 U g mk a q.2.2.2.2⟩, va_recv hK hP hcl hq, fun U hU hWm => ⟨rfl, by rw [hU], by rw [hU]; exact hP, va_K.moved hWm.alike hK, hz0.2 s U hZ hWm (fun q9 h1 h2 => by rw [hU]; exact hS.2.1 q9 h1 h2) (by rw [hU]; exact hS.1)⟩⟩ rfl hn hsz hst (by simpa [JFrame.monitorRoom] using hW) hdg hcs
  intro T hT X
  obtain ⟨v, st₀, t, T', L, h0, X', hL, e1, e2, ⟨⟨hv, hP1, -⟩, hz1, hk⟩, st⟩ := hr T hT X
  cases hv
  rw [h0] at hz1 hk
  obtain ⟨t2, a1, b1⟩ := kk T'.heap (locs ++ L) (by rw [e1]; exact hP1) (by rw [e1]; exact hP2.kept (fun k q hk9 => hk _ (hP2 k q hk9).lt (hd k q hk9)))
    ⟨Nat.le_trans hS.1 (by rw [e1]; exact hz1), fun q h1 h2 => by rw [e1, hk q (Nat.lt_of_lt_of_le h1 hS.1) (fun z => h2 (hA q z))]; exact hS.2.1 q h1 h2, fun q hq => by
      rcases List.mem_append.mp hq with h | h
      · exact hS.2.2 q h
      · rcases hL q h with h | h
        · exact hA _ h
        · exact hA2 _ (Nat.le_trans hS.1 h)⟩ T' rfl X'
  exact ⟨t2, st t2 a1, b1⟩
end LAWC
