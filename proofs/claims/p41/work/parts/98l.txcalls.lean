/-! the law's text(): calls of the builder -/
section TXB
variable {p : Program} {l : Launch} {e : Env} {R : Room} {s : State} {m : MethodId} {args : Array Value} {below : List Frame} {meth : Method} {c : Code} {H : Heap} {locs : List Loc} {cells slots : Nat} {Q : State → Prop}
variable {cc : ByteArray} {pc : Nat} {ls : Array Slot} {rest : List Value} {own : String} {nL : Nat} {D : va_G} {ca : Nat → ClassId} {ad : Nat → Nat → Nat} {PL : List (Nat × Nat)} {A : Nat → Prop} {Z : State → Prop} {H0 : Heap} {w : Mem} {X : va_W}
/-- a call over the class's and the law's cells, beside the builder: static -/
theorem tx_S {y : MethodName} {bytes : ByteArray} {maxL n idx : Nat} {ret : Option FieldType} {rm : Room} {As st0 : List Value} {w' : Mem} {rv : Option Value}
    (hA : ∀ x, rW ad PL x → A x) (hz0 : stb A Z) (C : CX p s m args c cc own nL D ca Z) (hD : va_D A (wl ad PL (ent ca ad w) ++ X)) (hP : va_P D vwCl (wl ad PL (ent ca ad w) ++ X) H) (hS : va_S A s.heap H locs) (hsz : ls.size = nL)
    (cw : CS y bytes maxL ret n) (hlk : Cond.methodLink own idx y ∈ ALL) (hM : CT l y (wsy y bytes maxL ret) rm D ca ad PL Z (rW ad PL) As w w' rv) (hn : As.length = n)
    (hrc : rm.cells = 0 ∧ rm.slots = 0) (hrm : rm.frames + 1 ≤ R.frames ∧ 8 + (maxL + 11) + rm.locals ≤ R.locals) (hcs : cells ≤ R.cells ∧ slots ≤ R.slots) (hW : (rest.map fun v => v.category).sum ≤ 8)
    (hst : st0 = As.reverse ++ rest) (hdg : decode cc pc = .ok (.invokestatic idx, 3))
    (kk : ∀ (H1 : Heap) (locs1 : List Loc), va_D A (wl ad PL (ent ca ad w') ++ X) → va_P D vwCl (wl ad PL (ent ca ad w') ++ X) H1 → va_S A s.heap H1 locs1 → W p l e R s m args below meth c H1 locs1 cells slots Q (F0 m (pc + 3) ls (rv.toList ++ rest))) : W p l e R s m args below meth c H locs cells slots Q (F0 m pc ls st0) := by
  obtain ⟨hx, hb, hml, hown, hts, hK, hZ⟩ := C
  have hP1 := tx_left hP
  have hP2 := tx_right hP
  have hzr : stb (rW ad PL) Z := ⟨hz0.1, fun s U hZ hW hq hs => hz0.2 s U hZ hW (fun q h1 h2 => hq q h1 (fun z => h2 (hA q z))) hs⟩
  have hr := va_runS (p := p) (e := e) (m := m) (below := below) (meth := meth) (R := R) (locs := locs) (cells := cells) (slots := slots) (H := H) (As := As) (rest := rest) (g := F0 m pc ls st0) ⟨hx, hb, hml, hown, hts⟩ hM (va_cwS n hts (gdS cw hlk) rfl hrc.1 hrc.2 cw.2.2.2 hrm) ⟨rx_blind hzr, fun U hU hWm => ⟨rfl, by rw [hU]; exact hP1, va_K.moved hWm.alike hK, hz0.2 s U hZ hWm (fun q9 h1 h2 => by rw [hU]; exact hS.2.1 q9 h1 h2) (by rw [hU]; exact hS.1)⟩⟩ rfl hn hsz hst (by simpa [JFrame.monitorRoom] using hW) hdg hcs
  intro T hT X'
  obtain ⟨v, st₀, t, T', L, h0, X2, hL, e1, e2, ⟨⟨hv, hP3, -⟩, hz1, hk⟩, st⟩ := hr T hT X'
  cases hv
  rw [h0] at hz1 hk
  have hPX : va_P D vwCl X T'.heap := by rw [e1]; exact hP2.kept (fun k q hk9 => hk _ (hP2 k q hk9).lt (tx_notin hD hk9))
  have hW2 : va_D A (wl ad PL (ent ca ad w') ++ X) := by
    refine ⟨fun i j a b ha hb9 h => ?_, fun k q h => ?_⟩
    · have len : (wl ad PL (ent ca ad w')).length = (wl ad PL (ent ca ad w)).length := by unfold wl; rw [List.length_map, List.length_map]
      have tr : ∀ (i : Nat) (a : Nat × va_E), (wl ad PL (ent ca ad w') ++ X)[i]? = some a → ∃ a', (wl ad PL (ent ca ad w) ++ X)[i]? = some a' ∧ a'.1 = a.1 := fun i a h => by
        by_cases z : i < (wl ad PL (ent ca ad w')).length
        · rw [List.getElem?_append_left z] at h
          obtain ⟨x, h1, rfl⟩ := wl_inv h
          exact ⟨(ad x.1 x.2, ent ca ad w x.1 x.2), by rw [List.getElem?_append_left (by omega), wl, List.getElem?_map, h1]; rfl, rfl⟩
        · rw [List.getElem?_append_right (by omega)] at h
          exact ⟨a, by rw [List.getElem?_append_right (by omega), ← len]; exact h, rfl⟩
      obtain ⟨a', a1, a2⟩ := tr i a ha
      obtain ⟨b', b1, b2⟩ := tr j b hb9
      exact hD.1 i j a' b' a1 b1 (by rw [a2, b2]; exact h)
    · by_cases z : k < (wl ad PL (ent ca ad w')).length
      · rw [List.getElem?_append_left z] at h
        exact hA _ (wsl_out h)
      · rw [List.getElem?_append_right (by omega)] at h
        exact hD.2 ((wl ad PL (ent ca ad w)).length + (k - (wl ad PL (ent ca ad w')).length)) q (by rw [List.getElem?_append_right (Nat.le_add_right _ _), Nat.add_sub_cancel_left]; exact h)
  obtain ⟨t2, a1, b1⟩ := kk T'.heap (locs ++ L) hW2 (by rw [← e1] at hP3; exact hP3.app hPX)
    ⟨Nat.le_trans hS.1 (by rw [e1]; exact hz1), fun q h1 h2 => by rw [e1, hk q (Nat.lt_of_lt_of_le h1 hS.1) (fun z => h2 (hA q z))]; exact hS.2.1 q h1 h2, fun q hq => by
      rcases List.mem_append.mp hq with h | h
      · exact hS.2.2 q h
      · exact hA _ (hL q h)⟩ T' rfl X2
  exact ⟨t2, st t2 a1, b1⟩
def BR (A : Nat → Prop) (ad : Nat → Nat → Nat) (PL : List (Nat × Nat)) : Nat → Prop := fun q => A q ∧ ¬ rW ad PL q
theorem br_stb (hz : stb A Z) : stb (BR A ad PL) Z := ⟨hz.1, fun s U hZ hW hq hs => hz.2 s U hZ hW (fun q h1 h2 => hq q h1 (fun z => h2 z.1)) hs⟩
theorem br_str {q : Nat} {b : List Int32} (h : STRZ A Z q b) : STRZ (BR A ad PL) Z q b := by
  obtain ⟨h0, v, hv⟩ := h
  refine ⟨h0, v, fun U hU => ?_⟩
  obtain ⟨⟨h1, h2, h3, h4⟩, h5, h6⟩ := hv U hU
  have hn : ∀ q : Nat, BR A ad PL q → A q := fun q z => z.1
  exact ⟨⟨h1.narrow hn, h2.narrow hn, h3.narrow hn, h4.narrow hn⟩, h5.narrow hn, h6.narrow hn⟩
theorem br_csz (h : ∀ U, Z U → CSZ A U) : ∀ U, Z U → CSZ (BR A ad PL) U := fun U hU => ⟨(h U hU).1.narrow (fun q z => z.1), (h U hU).2.narrow (fun q z => z.1)⟩
theorem tx_new_out (hP : va_P D vwCl (wl ad PL (ent ca ad w) ++ X) H) {q : Nat} (h : H.size ≤ q) : ¬ rW ad PL q := fun ⟨x, hx, e⟩ => by
  obtain ⟨q0, -, hq⟩ := wl_at (ad := ad) (ent ca ad w) (k := x.1) (i := x.2) hx
  have h9 : ad x.1 x.2 < H.size := (tx_left hP q0 _ hq).lt
  omega
theorem tx_B {y : MethodName} {bytes : ByteArray} {maxL n idx j mc ms a0 : Nat} {ret : Option FieldType} {rm : Room} {fs : List Value} {As st0 : List Value} {post : Option Value → va_W → Prop}
    (hA : ∀ x, rW ad PL x → A x) (hz0 : stb A Z) (hnew : ∀ q : Nat, s.heap.size ≤ q → A q) (C : CX p s m args c cc own nL D ca Z) (hD : va_D A (wl ad PL (ent ca ad w) ++ X)) (hP : va_P D vwCl (wl ad PL (ent ca ad w) ++ X) H) (hS : va_S A s.heap H locs) (hsz : ls.size = nL) (hj : X[j]? = some (a0, .inr (12, fs)))
    (cw : CW RJ4 y bytes maxL ret n) (hlk : Cond.methodLink own idx y ∈ ALL) (hM : CB l y (wsy y bytes maxL ret) rm D ca Z (BR A ad PL) (.ref a0 :: As) X post mc ms) (hn : As.length = n)
    (hrc : rm.cells = mc ∧ rm.slots = ms) (hrm : rm.frames + 1 ≤ R.frames ∧ 8 + (maxL + 11) + rm.locals ≤ R.locals) (hcs : cells + mc ≤ R.cells ∧ slots + ms ≤ R.slots) (hW : (rest.map fun v => v.category).sum ≤ 8)
    (hst : st0 = As.reverse ++ .ref a0 :: rest) (hdg : decode cc pc = .ok (.invokevirtual idx, 3))
    (kk : ∀ (rv : Option Value) (X1 : va_W) (H1 : Heap) (locs1 : List Loc), post rv X1 → va_D A (wl ad PL (ent ca ad w) ++ X1) → va_P D vwCl (wl ad PL (ent ca ad w) ++ X1) H1 → va_S A s.heap H1 locs1 → W p l e R s m args below meth c H1 locs1 (cells + mc) (slots + ms) Q (F0 m (pc + 3) ls (rv.toList ++ rest))) : W p l e R s m args below meth c H locs cells slots Q (F0 m pc ls st0) := by
  obtain ⟨hx, hb, hml, hown, hts, hK, hZ⟩ := C
  have hP1 := tx_left hP
  have hP2 := tx_right hP
  have hDX : va_D (BR A ad PL) X := ⟨fun i j a b h1 h2 h => by
    have := hD.1 ((wl ad PL (ent ca ad w)).length + i) ((wl ad PL (ent ca ad w)).length + j) a b (by rw [List.getElem?_append_right (Nat.le_add_right _ _), Nat.add_sub_cancel_left]; exact h1) (by rw [List.getElem?_append_right (Nat.le_add_right _ _), Nat.add_sub_cancel_left]; exact h2) h
    omega, fun k q h => ⟨hD.2 ((wl ad PL (ent ca ad w)).length + k) q (by rw [List.getElem?_append_right (Nat.le_add_right _ _), Nat.add_sub_cancel_left]; exact h), tx_notin hD h⟩⟩
  have hr := va_runV (p := p) (e := e) (m := m) (below := below) (meth := meth) (R := R) (locs := locs) (cells := cells) (slots := slots) (C := RJ4) (b := a0) (As := As) (rest := rest) (g := F0 m pc ls st0) ⟨hx, hb, hml, hown, hts⟩ (hM hDX) (cwV n hts (gdV cw hlk) rfl hrc.1 hrc.2 cw.2.2.2.2 hrm) ⟨rb_blind (br_stb hz0), va_recv (q := (RJ4, TJ4, 4)) hK hP2 rfl hj, fun U hU hWm => ⟨rfl, by rw [hU]; exact hP2, va_K.moved hWm.alike hK, hz0.2 s U hZ hWm (fun q9 h1 h2 => by rw [hU]; exact hS.2.1 q9 h1 h2) (by rw [hU]; exact hS.1), fun q hq => ⟨hnew q (Nat.le_trans hS.1 (by rw [← hU]; exact hq)), tx_new_out hP (by rw [← hU]; exact hq)⟩⟩⟩ rfl hn hsz hst (by simpa [JFrame.monitorRoom] using hW) hdg hcs
  intro T hT X'
  obtain ⟨v, st₀, t, T', L, h0, X2, hL, e1, e2, ⟨⟨rv, X1, hv, hp, hD1, hP3⟩, hz1, hk⟩, st⟩ := hr T hT X'
  cases hv
  rw [h0] at hz1 hk
  have hPW : va_P D vwCl (wl ad PL (ent ca ad w)) T'.heap := by rw [e1]; exact hP1.kept (fun k q hk9 => hk _ (hP1 k q hk9).lt (fun z => z.2 (wsl_out hk9)))
  obtain ⟨t2, a1, b1⟩ := kk _ X1 T'.heap (locs ++ L) hp (tx_app (tx_Dl hD) hD1 (fun q z => z.1) (fun i j a b h1 h2 h => (hD1.2 j b h2).2 (h ▸ wsl_out h1))) (by rw [← e1] at hP3; exact hPW.app hP3)
    ⟨Nat.le_trans hS.1 (by rw [e1]; exact hz1), fun q h1 h2 => by rw [e1, hk q (Nat.lt_of_lt_of_le h1 hS.1) (fun z => h2 z.1)]; exact hS.2.1 q h1 h2, fun q hq => by
      rcases List.mem_append.mp hq with h | h
      · exact hS.2.2 q h
      · exact (hL q h).1⟩ T' rfl X2
  exact ⟨t2, st t2 a1, b1⟩
theorem tx_I {y : MethodName} {bytes : ByteArray} {maxL n idx mc ms a0 : Nat} {rm : Room} {As st0 : List Value} {post : Option Value → va_W → Prop}
    (hA : ∀ x, rW ad PL x → A x) (hz0 : stb A Z) (hnew : ∀ q : Nat, s.heap.size ≤ q → A q) (C : CX p s m args c cc own nL D ca Z) (hD : va_D A (wl ad PL (ent ca ad w) ++ X)) (hP : va_P D vwCl (wl ad PL (ent ca ad w) ++ X) H) (hS : va_S A s.heap H locs) (hsz : ls.size = nL)
    (hM : CB l y (wsy y bytes maxL none) rm D ca Z (BR A ad PL) (.ref a0 :: As) X post mc ms) (w3 : Cond.initialized y.cls ∈ ALL) (w4 : Cond.instanceMethod y ∈ ALL) (w5 : Cond.code y bytes maxL none ∈ ALL) (hyn : y.name = "<init>") (hd : y.cls ≠ "java/lang/invoke/MethodHandle" ∧ y.cls ≠ "java/lang/invoke/VarHandle" ∧ (parseMethodDescriptor y.desc).map (fun d => d.parameters.length) = some n) (hlk : Cond.methodLink own idx y ∈ ALL) (hn : As.length = n)
    (hrc : rm.cells = mc ∧ rm.slots = ms) (hrm : rm.frames + 1 ≤ R.frames ∧ 8 + (maxL + 11) + rm.locals ≤ R.locals) (hcs : cells + mc ≤ R.cells ∧ slots + ms ≤ R.slots) (hW : (rest.map fun v => v.category).sum ≤ 8)
    (hst : st0 = As.reverse ++ .ref a0 :: rest) (hdg : decode cc pc = .ok (.invokespecial idx, 3))
    (kk : ∀ (rv : Option Value) (X1 : va_W) (H1 : Heap) (locs1 : List Loc), post rv X1 → va_D A (wl ad PL (ent ca ad w) ++ X1) → va_P D vwCl (wl ad PL (ent ca ad w) ++ X1) H1 → va_S A s.heap H1 locs1 → W p l e R s m args below meth c H1 locs1 (cells + mc) (slots + ms) Q (F0 m (pc + 3) ls (rv.toList ++ rest))) : W p l e R s m args below meth c H locs cells slots Q (F0 m pc ls st0) := by
  obtain ⟨hx, hb, hml, hown, hts, hK, hZ⟩ := C
  have hP1 := tx_left hP
  have hP2 := tx_right hP
  have hDX : va_D (BR A ad PL) X := ⟨fun i j a b h1 h2 h => by
    have := hD.1 ((wl ad PL (ent ca ad w)).length + i) ((wl ad PL (ent ca ad w)).length + j) a b (by rw [List.getElem?_append_right (Nat.le_add_right _ _), Nat.add_sub_cancel_left]; exact h1) (by rw [List.getElem?_append_right (Nat.le_add_right _ _), Nat.add_sub_cancel_left]; exact h2) h
    omega, fun k q h => ⟨hD.2 ((wl ad PL (ent ca ad w)).length + k) q (by rw [List.getElem?_append_right (Nat.le_add_right _ _), Nat.add_sub_cancel_left]; exact h), tx_notin hD h⟩⟩
  have hGd : GoodIn ALL (wsy y bytes maxL none) := by
    intro w h
    have hm : w ∈ ALL := by
      rcases List.mem_cons.mp h with rfl | h
      · exact w5
      · exact h
    exact ⟨hm, ALL_gd w hm⟩
  have hr := va_runI (H := H) (p := p) (e := e) (m := m) (below := below) (meth := meth) (R := R) (locs := locs) (cells := cells) (slots := slots) (b := a0) (As := As) (rest := rest) (g := F0 m pc ls st0) ⟨hx, hb, hml, hown, hts⟩ (hM hDX) (cwI n hts hGd rfl hrc.1 hrc.2 (hts _ w3) (hts _ hlk) (hts _ w4) hyn hd hrm) ⟨rb_blind (br_stb hz0), fun U hU hWm => ⟨rfl, by rw [hU]; exact hP2, va_K.moved hWm.alike hK, hz0.2 s U hZ hWm (fun q9 h1 h2 => by rw [hU]; exact hS.2.1 q9 h1 h2) (by rw [hU]; exact hS.1), fun q hq => ⟨hnew q (Nat.le_trans hS.1 (by rw [← hU]; exact hq)), tx_new_out hP (by rw [← hU]; exact hq)⟩⟩⟩ rfl hn hsz hst (by simpa [JFrame.monitorRoom] using hW) hdg hcs
  intro T hT X'
  obtain ⟨v, st₀, t, T', L, h0, X2, hL, e1, e2, ⟨⟨rv, X1, hv, hp, hD1, hP3⟩, hz1, hk⟩, st⟩ := hr T hT X'
  cases hv
  rw [h0] at hz1 hk
  have hPW : va_P D vwCl (wl ad PL (ent ca ad w)) T'.heap := by rw [e1]; exact hP1.kept (fun k q hk9 => hk _ (hP1 k q hk9).lt (fun z => z.2 (wsl_out hk9)))
  obtain ⟨t2, a1, b1⟩ := kk _ X1 T'.heap (locs ++ L) hp (tx_app (tx_Dl hD) hD1 (fun q z => z.1) (fun i j a b h1 h2 h => (hD1.2 j b h2).2 (h ▸ wsl_out h1))) (by rw [← e1] at hP3; exact hPW.app hP3)
    ⟨Nat.le_trans hS.1 (by rw [e1]; exact hz1), fun q h1 h2 => by rw [e1, hk q (Nat.lt_of_lt_of_le h1 hS.1) (fun z => h2 z.1)]; exact hS.2.1 q h1 h2, fun q hq => by
      rcases List.mem_append.mp hq with h | h
      · exact hS.2.2 q h
      · exact (hL q h).1⟩ T' rfl X2
  exact ⟨t2, st t2 a1, b1⟩
theorem inbI {x : Int32} {n : Nat} (h : inb x n = true) : x = nI x.toNatClampNeg := by
  obtain ⟨k, hk, rfl⟩ := str_nI (fun q => inb_in h (Or.inl q))
  rw [nI_clamp hk]
theorem tx_chr {x : Int32} {sb idx : Nat} (hg : lenT w + 1 ≤ 480) (hx : inb x 128 = true) (hcsz : ∀ U, Z U → CSZ A U) (hPL : ∀ q ∈ PL, q.1 ≠ 60)
    (hA : ∀ x, rW ad PL x → A x) (hz0 : stb A Z) (hnew : ∀ q : Nat, s.heap.size ≤ q → A q) (C : CX p s m args c cc own nL D ca Z) (hX : SBM ca sb w X) (hD : va_D A (wl ad PL (ent ca ad w) ++ X)) (hP : va_P D vwCl (wl ad PL (ent ca ad w) ++ X) H) (hS : va_S A s.heap H locs) (hsz : ls.size = nL)
    (hlk : Cond.methodLink own idx yJ4_append_cf468 ∈ ALL) (hrm : 7 ≤ R.frames ∧ 8 + (2 + 11) + 252 ≤ R.locals) (hcs : cells + 1 ≤ R.cells ∧ slots + 1024 ≤ R.slots) (hW : (rest.map fun v => v.category).sum ≤ 8) (hdg : decode cc pc = .ok (.invokevirtual idx, 3))
    (kk : ∀ (X1 : va_W) (H1 : Heap) (locs1 : List Loc), SBM ca sb (apC w x) X1 → va_D A (wl ad PL (ent ca ad (apC w x)) ++ X1) → va_P D vwCl (wl ad PL (ent ca ad (apC w x)) ++ X1) H1 → va_S A s.heap H1 locs1 → W p l e R s m args below meth c H1 locs1 (cells + 1) (slots + 1024) Q (F0 m (pc + 3) ls (.ref sb :: rest))) : W p l e R s m args below meth c H locs cells slots Q (F0 m pc ls (.int x :: .ref sb :: rest)) := by
  obtain ⟨q, mq, a, rfl, g1, g2, g3, g4, g5, g6⟩ := hX
  have ex := inbI hx
  have hc := inb_lt hx
  have hM := c_J4_append_cf468 l D ca Z (BR A ad PL) (br_stb hz0) (br_csz hcsz) hc hg g1 g2 g3 g4 g5 g6 (sb := sb) (q := q)
  rw [← ex] at hM
  refine tx_B (j := 0) (As := [.int x]) (rest := rest) hA hz0 hnew C hD hP hS hsz rfl cw_J4_append_cf468 hlk hM rfl ⟨rfl, rfl⟩ hrm hcs hW rfl hdg (fun rv X1 H1 locs1 hpost hD1 hP1 hS1 => ?_)
  obtain ⟨rfl, h9⟩ := hpost
  refine kk X1 H1 locs1 ?_ (by rw [apC_wl hPL]; exact hD1) (by rw [apC_wl hPL]; exact hP1) hS1
  unfold SBM
  rw [lenT_apC (by omega)]
  refine h9.cg (fun j hj => ?_)
  rw [ltT_apC]
  by_cases e : j = lenT w
  · rw [if_pos e, e]
    have := sb_cat_hi (t := ltT w) (s := fun _ => x.toNatClampNeg) (n := lenT w) (j := 0)
    rw [Nat.add_zero] at this
    exact this
  · rw [if_neg e]; exact sb_cat_lo (by omega)
theorem tx_str {qs sb idx : Nat} {b : List Int32} {cs : List Nat} (hq : STRZ A Z qs b) (hlen : b.length = cs.length) (hbt : ∀ i, i < cs.length → cs.getD i 0 < 256 ∧ b.getD i 0 = sb_b (cs.getD i 0)) (hc : ∀ c ∈ cs, c < 256) (h1 : 1 ≤ cs.length) (hw : cs.length ≤ 57) (hg : lenT w + cs.length ≤ 480) (hPL : ∀ q ∈ PL, q.1 ≠ 60)
    (hA : ∀ x, rW ad PL x → A x) (hz0 : stb A Z) (hnew : ∀ q : Nat, s.heap.size ≤ q → A q) (C : CX p s m args c cc own nL D ca Z) (hX : SBM ca sb w X) (hD : va_D A (wl ad PL (ent ca ad w) ++ X)) (hP : va_P D vwCl (wl ad PL (ent ca ad w) ++ X) H) (hS : va_S A s.heap H locs) (hsz : ls.size = nL)
    (hlk : Cond.methodLink own idx yJ4_append_15ec4 ∈ ALL) (hrm : 7 ≤ R.frames ∧ 8 + (2 + 11) + 252 ≤ R.locals) (hcs : cells + 1 ≤ R.cells ∧ slots + 1024 ≤ R.slots) (hW : (rest.map fun v => v.category).sum ≤ 8) (hdg : decode cc pc = .ok (.invokevirtual idx, 3))
    (kk : ∀ (X1 : va_W) (H1 : Heap) (locs1 : List Loc), SBM ca sb (apS w cs) X1 → va_D A (wl ad PL (ent ca ad (apS w cs)) ++ X1) → va_P D vwCl (wl ad PL (ent ca ad (apS w cs)) ++ X1) H1 → va_S A s.heap H1 locs1 → W p l e R s m args below meth c H1 locs1 (cells + 1) (slots + 1024) Q (F0 m (pc + 3) ls (.ref sb :: rest))) : W p l e R s m args below meth c H locs cells slots Q (F0 m pc ls (.ref qs :: .ref sb :: rest)) := by
  obtain ⟨q, mq, a, rfl, g1, g2, g3, g4, g5, g6⟩ := hX
  have hM := c_J4_append_15ec4 l D ca Z (BR A ad PL) (br_stb hz0) (tt := fun i => cs.getD i 0) (br_str hq) (fun i hi => hbt i (by omega)) (by omega) (by omega) g1 g2 g3 g4 g5 g6 (sb := sb) (q := q)
  refine tx_B (j := 0) (As := [.ref qs]) (rest := rest) hA hz0 hnew C hD hP hS hsz rfl cw_J4_append_15ec4 hlk hM rfl ⟨rfl, rfl⟩ hrm hcs hW rfl hdg (fun rv X1 H1 locs1 hpost hD1 hP1 hS1 => ?_)
  obtain ⟨rfl, h9⟩ := hpost
  refine kk X1 H1 locs1 ?_ (by rw [apS_wl hPL]; exact hD1) (by rw [apS_wl hPL]; exact hP1) hS1
  unfold SBM
  rw [apS_len cs w (by omega), ← hlen]
  refine h9.cg (fun j hj => ?_)
  rw [apS_lt cs w j (by omega) hc]
  by_cases e : lenT w ≤ j
  · rw [if_pos ⟨e, by omega⟩]
    have := sb_cat_hi (t := ltT w) (s := fun i => cs.getD i 0) (n := lenT w) (j := j - lenT w)
    rw [show lenT w + (j - lenT w) = j by omega] at this
    exact this
  · rw [if_neg (fun z => e z.1)]; exact sb_cat_lo (by omega)
end TXB
