/-! the law: what is known outside; the String that text() gave; the calls of text and tell -/
def tBy : List (List Int32) := [[59, 116, 101, 114, 109, 32], [32, 61, 32], [32, 40], [41], [44, 32], [59, 115, 97, 109, 101, 32], [102, 117, 110, 32, 97, 32, 48, 59, 102, 117, 110, 32, 98, 32, 48, 59, 102, 117, 110, 32, 99, 32, 48, 59, 102, 117, 110, 32, 102, 32, 49, 59, 102, 117, 110, 32, 103, 32, 50]]
def tLe : List Nat := [6, 3, 2, 1, 2, 6, 39]
def ZT (A0 : Nat → Prop) (K V : Nat → Nat) (b : Nat) (sx : Nat × (Nat → Int32)) (U : State) : Prop := CSZ A0 U ∧ vk_S 7 tLe tBy K V A0 U U.heap ∧ va_T .int b sx.1 (fun j => .int (sx.2 j)) A0 U U.heap ∧ vk_R RX10 41 ";term " (K 0) U ∧ vk_R RX10 54 " = " (K 1) U ∧ vk_R RX10 56 " (" (K 2) U ∧ vk_R RX10 58 ")" (K 3) U ∧ vk_R RX10 60 ", " (K 4) U ∧ vk_R RX10 69 ";same " (K 5) U ∧ vk_R RX10 30 "fun a 0;fun b 0;fun c 0;fun f 1;fun g 2" (K 6) U
section ZTS
variable {A A0 : Nat → Prop} {K V : Nat → Nat} {b : Nat} {sx : Nat × (Nat → Int32)} {s U : State}
theorem ZT.call (g : JFrame) (mk : MethodId) (a : Array Value) (h : ZT A0 K V b sx U) : ZT A0 K V b sx (U.calling g mk a) := by
  obtain ⟨⟨h2, h3⟩, h4, h0, h5, h6, h7, h8, h9, h10, h11⟩ := h
  have hW : U.WarmedH (U.calling g mk a).vm := State.WarmedH.refl U
  exact ⟨⟨va_Z.moved (u := U) (U := U.calling g mk a) (Vm.Alike.refl U.vm) h2, va_Zq.moved (u := U) (U := U.calling g mk a) (Vm.Alike.refl U.vm) h3⟩, vk_S.moved (u := U) (U := U.calling g mk a) (Vm.Alike.refl U.vm) h4, va_T.moved (u := U) (U := U.calling g mk a) (Vm.Alike.refl U.vm) h0, h5.warm hW, h6.warm hW, h7.warm hW, h8.warm hW, h9.warm hW, h10.warm hW, h11.warm hW⟩
theorem ZT.kept (h : ZT A0 K V b sx s) (hW : s.WarmedH U.vm) (hq : ∀ q : Nat, q < s.heap.size → ¬ A0 q → U.heap[q]? = s.heap[q]?) : ZT A0 K V b sx U := by
  obtain ⟨⟨h2, h3⟩, h4, h0, h5, h6, h7, h8, h9, h10, h11⟩ := h
  exact ⟨⟨va_Z.moved hW.alike (h2.kept hq), va_Zq.moved hW.alike (h3.kept hq)⟩, vk_S.moved hW.alike (h4.kept hq), va_T.moved hW.alike (h0.kept hq), h5.warm hW, h6.warm hW, h7.warm hW, h8.warm hW, h9.warm hW, h10.warm hW, h11.warm hW⟩
theorem ZT_stb (h : ∀ x, A x → A0 x) : stb A (ZT A0 K V b sx) := ⟨fun U g mk a hz => hz.call g mk a, fun s U hz hW hq _ => hz.kept hW (fun q h1 h2 => hq q h1 (fun z => h2 (h q z)))⟩
theorem ZT_csz (h : ∀ x, A x → A0 x) : ∀ U, ZT A0 K V b sx U → CSZ A U := fun U hz => ⟨hz.1.1.narrow h, hz.1.2.narrow h⟩
theorem ZT_scz (h : ∀ x, A x → A0 x) (hL : sx.1 < 2 ^ 31) : SCZ A (ZT A0 K V b sx) b sx := ⟨hL, fun U hz => hz.2.2.1.narrow h⟩
theorem ZT_str (h : ∀ x, A x → A0 x) {i : Nat} (hi : i < 7) (hl : (tBy.getD i []).length = tLe.getD i 0) (h31 : tLe.getD i 0 < 2 ^ 31) : STRZ A (ZT A0 K V b sx) (K i) (tBy.getD i []) := by
  refine ⟨by rw [hl]; exact h31, V i, fun U hz => ⟨?_, ZT_csz h U hz⟩⟩
  obtain ⟨q1, q2, q3, q4⟩ := hz.2.1.1 i hi
  rw [← hl] at q4
  exact ⟨q1.narrow h, q2.narrow h, q3.narrow h, q4.narrow h⟩
theorem ZT_okTx (h : ∀ x, A x → A0 x) : okTx (ZT A0 K V b sx) A :=
  ⟨⟨K 0, ZT_str (i := 0) h (by decide) rfl (by decide), fun U hz => hz.2.2.2.1⟩, ⟨K 1, ZT_str (i := 1) h (by decide) rfl (by decide), fun U hz => hz.2.2.2.2.1⟩, ⟨K 2, ZT_str (i := 2) h (by decide) rfl (by decide), fun U hz => hz.2.2.2.2.2.1⟩, ⟨K 3, ZT_str (i := 3) h (by decide) rfl (by decide), fun U hz => hz.2.2.2.2.2.2.1⟩, ⟨K 4, ZT_str (i := 4) h (by decide) rfl (by decide), fun U hz => hz.2.2.2.2.2.2.2.1⟩, ⟨K 5, ZT_str (i := 5) h (by decide) rfl (by decide), fun U hz => hz.2.2.2.2.2.2.2.2.1⟩, ⟨K 6, ZT_str (i := 6) h (by decide) rfl (by decide), fun U hz => hz.2.2.2.2.2.2.2.2.2⟩⟩
end ZTS
/-! the String -/
theorem stb.nar {A B : Nat → Prop} {Z : State → Prop} (h : stb A Z) (hb : ∀ x, B x → A x) : stb B Z := ⟨h.1, fun s U hz hW hq hs => h.2 s U hz hW (fun q h1 h2 => hq q h1 (fun z => h2 (hb q z))) hs⟩
def ZS (Z : State → Prop) (A : Nat → Prop) (sr qv : Nat) (bs : List Int32) (U : State) : Prop := Z U ∧ STR A sr qv bs U
theorem ZS_stb {Z : State → Prop} {A : Nat → Prop} {sr qv : Nat} {bs : List Int32} (h : stb A Z) : stb A (ZS Z A sr qv bs) := by
  refine ⟨fun U g mk a hz => ⟨h.1 U g mk a hz.1, ?_⟩, fun s U hz hW hq hs => ⟨h.2 s U hz.1 hW hq hs, ?_⟩⟩
  · obtain ⟨h1, h2, h3, h4⟩ := hz.2
    exact ⟨va_O.moved (u := U) (U := U.calling g mk a) (Vm.Alike.refl U.vm) h1, va_OF.moved (u := U) (U := U.calling g mk a) (Vm.Alike.refl U.vm) h2, va_OF.moved (u := U) (U := U.calling g mk a) (Vm.Alike.refl U.vm) h3, va_T.moved (u := U) (U := U.calling g mk a) (Vm.Alike.refl U.vm) h4⟩
  · obtain ⟨h1, h2, h3, h4⟩ := hz.2
    exact ⟨va_O.moved hW.alike (h1.kept hq), va_OF.moved hW.alike (h2.kept hq), va_OF.moved hW.alike (h3.kept hq), va_T.moved hW.alike (h4.kept hq)⟩
theorem ZS_str {Z : State → Prop} {A : Nat → Prop} {sr qv : Nat} {bs : List Int32} (hl : bs.length < 2 ^ 31) (hc : ∀ U, Z U → CSZ A U) : STRZ A (ZS Z A sr qv bs) sr bs := ⟨hl, qv, fun U hz => ⟨hz.2, hc U hz.1⟩⟩
/-- its fields are no statics -/
def FJ0 (U : State) : Prop := ∀ k, k < 2 → ∃ cf kf fi fd, U.fieldFound? (TJ0 k).1 (TJ0 k).2.1 (TJ0 k).2.2.1 = some (cf, kf, fi, fd) ∧ fd.isStatic = false
theorem FJ0.of {s : State} {args : Array Value} (hts : ∀ w ∈ ALL, w.before args s = true) : FJ0 s := fun k hk => by
  rcases u_lays (k := k) hts in_wsJ00 (by omega) with h | h
  · obtain ⟨c, k, cf', kf', fi', fd', r1, r2, hi', hst, -⟩ := Cond.lays_spec h
    exact ⟨cf', kf', fi', fd', hi', hst⟩
  · obtain ⟨c, k, cf', kf', fi', fd', r1, r2, hi', hst, -⟩ := Cond.laysFinal_spec h
    exact ⟨cf', kf', fi', fd', hi', hst⟩
theorem FJ0.moved {s U : State} (hvm : s.vm.Alike U.vm) (h : FJ0 s) : FJ0 U := fun k hk => by
  obtain ⟨cf, kf, fi, fd, h1, h2⟩ := h k hk
  obtain ⟨k', hi', he⟩ := State.fieldFound?_setVm hvm h1
  exact ⟨cf, k', fi, fd, hi', h2⟩
theorem str_of {D : va_G} {ca : Nat → ClassId} {A : Nat → Prop} {sr qv n : Nat} {a : Nat → Int32} {bs : List Int32} {U : State} (hP : va_P D vwCl (STX ca sr qv n a) U.heap) (hK : va_K D vwCl (tysA ca) U) (hF : FJ0 U) (h1 : ¬ A sr) (h2 : ¬ A qv) (hl : bs.length = n) (hb : ∀ j, j < n → bs.getD j 0 = a j) : STR A sr qv bs U := by
  obtain ⟨r, hr, cell, g1, g2, g3, g4⟩ := hP 0 _ rfl
  cases hr
  have hcell : U.heap[qv]? = some (arrV (ca 1) n (fun j => .int (a j))) := hP 1 _ rfl
  obtain ⟨hS, hC⟩ := hK.1 11 _ rfl
  have fld : ∀ k, k < 2 → va_OF (TJ0 k).1 (TJ0 k).2.1 (TJ0 k).2.2.1 (vp_V [.ref qv, .int 0, .int 0, .int 0] k) sr A U U.heap := fun k hk => by
    obtain ⟨cf, kf, fi, fd, e1, e2⟩ := hF k hk
    obtain ⟨cf', kf', fi', fd', e3, e4⟩ := hS k (show k < 4 by omega)
    cases e1.symm.trans e3
    exact ⟨cf, kf, fi, fd, cell, e1, e2, g1, by rw [g3]; decide, by rw [e4]; exact g4 k (show k < 4 by omega), h1⟩
  refine ⟨⟨cell, g1, by rw [g3]; rfl, by rw [g2]; exact hC.1, h1⟩, fld 1 (by decide), fld 0 (by decide), _, hcell, (hK.2 1 _ rfl).1 n _, (fun z => by cases z), ?_, ?_, fun j hj => ?_, h2⟩
  · rw [arrV_size, hl]; exact Nat.le_refl _
  · rw [arrV_size, hl]
  · have hj2 : j < n := by omega
    show (Array.ofFn (n := n) fun j => (Value.int (a j.val)))[j]? = _
    rw [Array.getElem?_ofFn, dif_pos hj2]
    show some (Value.int (a j)) = some (Value.int (bs.getD j 0))
    rw [hb j hj2]
section LCT
variable {p : Program} {l : Launch} {e : Env} {R : Room} {s : State} {m : MethodId} {args : Array Value} {below : List Frame} {meth : Method} {c : Code} {H : Heap} {locs : List Loc} {cells slots : Nat} {Q : State → Prop}
variable {cc : ByteArray} {pc idx : Nat} {ls : Array Slot} {rest : List Value} {own : String} {nL : Nat} {D : va_G} {ca : Nat → ClassId} {ad : Nat → Nat → Nat} {PL : List (Nat × Nat)} {A : Nat → Prop} {Z : State → Prop} {w w' : Mem}
theorem lt_text (hok : okc bM Z (rW ad PL) ad PL) (hAr : ∀ x, rW ad PL x → A x) (hnew : ∀ q : Nat, s.heap.size ≤ q → A q) (hz0 : stb A Z) (hPL : ∀ q ∈ PL, q.1 ≠ 60) (hcsz : ∀ U, Z U → CSZ A U) (hT : okTx Z A) {sx : Nat × (Nat → Int32)} (hsx : SCZ (rW ad PL) Z (ad 47 0) sx) {N : Nat} (hf : f_X10_text N (txt0 w) sx = some w')
    (C : CX p s m args c cc own nL D ca Z) (hP : va_P D vwCl (wl ad PL (ent ca ad w)) H) (hS : va_S A s.heap H locs) (hsz : ls.size = nL) (hlk : Cond.methodLink own idx yX10_text ∈ ALL) (hrm : 13 ≤ R.frames ∧ 8 + (5 + 11) + 480 ≤ R.locals) (hcs : cells + 600 ≤ R.cells ∧ slots + 500000 ≤ R.slots) (hW : (rest.map fun v => v.category).sum ≤ 8) (hdg : decode cc pc = .ok (.invokevirtual idx, 3))
    (kk : ∀ (sr qv : Nat) (a : Nat → Int32) (H1 : Heap) (locs1 : List Loc), va_D A (wl ad PL (ent ca ad w') ++ STX ca sr qv (lenT w') a) → va_P D vwCl (wl ad PL (ent ca ad w') ++ STX ca sr qv (lenT w') a) H1 → sb_Lat (ltT w') (lenT w') a → va_S A s.heap H1 locs1 → W p l e R s m args below meth c H1 locs1 (cells + 600) (slots + 500000) Q (F0 m (pc + 3) ls (.ref sr :: rest))) : W p l e R s m args below meth c H locs cells slots Q (F0 m pc ls (.ref (ad 46 0) :: .ref (ad 9 0) :: rest)) := by
  obtain ⟨hx, hb, hml, hown, hts, hK, hZ⟩ := C
  obtain ⟨q0, -, hq⟩ := wl_at (ad := ad) (ent ca ad w) (hok.2.1 9 0 (Nat.le_of_ble_eq_true rfl))
  have hM := c_X10_text l D ca ad PL Z A hok hAr hz0 hPL hcsz hT sx hsx N w w' hf
  have cw := cw_X10_text
  have hr := va_runV (p := p) (e := e) (m := m) (below := below) (meth := meth) (R := R) (locs := locs) (cells := cells) (slots := slots) (C := RX10) (b := ad 9 0) (As := [.ref (ad 46 0)]) (rest := rest) (g := F0 m pc ls (.ref (ad 46 0) :: .ref (ad 9 0) :: rest)) ⟨hx, hb, hml, hown, hts⟩ hM (cwV 1 hts (gdV cw hlk) rfl rfl rfl cw.2.2.2.2 hrm) ⟨fun a U g mk q => ⟨q.1, ⟨q.2.1.1, va_K.moved (u := U) (U := U.calling g mk a) (Vm.Alike.refl U.vm) q.2.1.2.1, hz0.1 U g mk a q.2.1.2.2⟩, q.2.2⟩, va_recv (q := (RX10, TX10, 8)) hK hP rfl hq, fun U hU hWm => ⟨rfl, ⟨by rw [hU]; exact hP, va_K.moved hWm.alike hK, hz0.2 s U hZ hWm (fun q9 h1 h2 => by rw [hU]; exact hS.2.1 q9 h1 h2) (by rw [hU]; exact hS.1)⟩, fun q hq => hnew q (Nat.le_trans hS.1 (by rw [← hU]; exact hq))⟩⟩ rfl rfl hsz rfl (by simpa [JFrame.monitorRoom] using hW) hdg hcs
  intro T hT X
  obtain ⟨v, st₀, t, T', L, h0, X', hL, e1, e2, ⟨⟨sr, qv, a, hv, hD1, hP1, g1, -⟩, hz1, hk⟩, st⟩ := hr T hT X
  cases hv
  rw [h0] at hz1 hk
  obtain ⟨t2, a1, b1⟩ := kk sr qv a T'.heap (locs ++ L) hD1 (by rw [e1]; exact hP1) g1
    ⟨Nat.le_trans hS.1 (by rw [e1]; exact hz1), fun q h1 h2 => by rw [e1, hk q (Nat.lt_of_lt_of_le h1 hS.1) h2]; exact hS.2.1 q h1 h2, fun q hq => by
      rcases List.mem_append.mp hq with h | h
      · exact hS.2.2 q h
      · exact hL q h⟩ T' rfl X'
  exact ⟨t2, st t2 a1, b1⟩
theorem lt_tell {sr qv n : Nat} {a : Nat → Int32} {bs : List Int32} {r : Int32} (hok : okc bX Z (rW ad PL) ad PL) (hn5 : ∀ p ∈ PL, ¬ p.1 = 5 ∧ ¬ p.1 = 29) (hAr : ∀ x, rW ad PL x → A x) (hnew : ∀ q : Nat, s.heap.size ≤ q → A q) (hz0 : stb A Z) (hPL : ∀ q ∈ PL, q.1 ≠ 61) (hcsz : ∀ U, Z U → CSZ A U) {N : Nat} (hf : f_L_tell N (sF w 61 1 0 0) bs = some (w', r)) (hl : bs.length = n) (hl9 : n < 2 ^ 31) (hb9 : ∀ j, j < n → bs.getD j 0 = a j)
    (C : CX p s m args c cc own nL D ca Z) (hD : va_D A (wl ad PL (ent ca ad w) ++ STX ca sr qv n a)) (hP : va_P D vwCl (wl ad PL (ent ca ad w) ++ STX ca sr qv n a) H) (hS : va_S A s.heap H locs) (hsz : ls.size = nL) (hlk : Cond.methodLink own idx yL_tell ∈ ALL) (hrm : 10 ≤ R.frames ∧ 8 + (5 + 11) + 400 ≤ R.locals) (hcs : cells + 60 ≤ R.cells ∧ slots + 400 ≤ R.slots) (hW : (rest.map fun v => v.category).sum ≤ 8) (hdg : decode cc pc = .ok (.invokestatic idx, 3))
    (kk : ∀ (H1 : Heap) (locs1 : List Loc), va_P D vwCl (wl ad PL (ent ca ad w')) H1 → va_S A s.heap H1 locs1 → W p l e R s m args below meth c H1 locs1 (cells + 60) (slots + 400) Q (F0 m (pc + 3) ls (.int r :: rest))) : W p l e R s m args below meth c H locs cells slots Q (F0 m pc ls (.ref sr :: .ref (ad 8 0) :: rest)) := by
  obtain ⟨hx, hb, hml, hown, hts, hK, hZ⟩ := C
  have hP1 := tx_left hP
  have hP2 := tx_right hP
  have hs1 : sr < H.size := (hP2 0 _ rfl).lt
  have hs2 : qv < H.size := (hP2 1 _ rfl).lt
  have out : ∀ (j : Nat) (q : Nat × va_E), (STX ca sr qv n a)[j]? = some q → ¬ rW ad PL q.1 := fun j q h => tx_notin hD h
  have hA1 : ∀ x, (rW ad PL x ∨ H.size ≤ x) → A x := fun x h => h.elim (hAr x) (fun h => hnew x (Nat.le_trans hS.1 h))
  have hz1 : stb (fun x => rW ad PL x ∨ H.size ≤ x) Z := hz0.nar hA1
  have hcs1 : ∀ U, Z U → CSZ (fun x => rW ad PL x ∨ H.size ≤ x) U := fun U hU => ⟨(hcsz U hU).1.narrow hA1, (hcsz U hU).2.narrow hA1⟩
  have hok1 : okc bX (ZS Z (fun x => rW ad PL x ∨ H.size ≤ x) sr qv bs) (rW ad PL) ad PL := ⟨hok.1, hok.2.1, (ZS_stb hz1).nar (fun x h => Or.inl h), trivial⟩
  have hM := c_L_tell l D ca ad PL (ZS Z (fun x => rW ad PL x ∨ H.size ≤ x) sr qv bs) (fun x => rW ad PL x ∨ H.size ≤ x) (ZS_str (by rw [hl]; exact hl9) hcs1) hok1 hn5 (fun x h => Or.inl h) (ZS_stb hz1) hPL N w w' r hf
  have cw := cw_L_tell
  have hsn1 : ¬ (rW ad PL sr ∨ H.size ≤ sr) := fun z => z.elim (out 0 _ rfl) (fun z => by omega)
  have hsn2 : ¬ (rW ad PL qv ∨ H.size ≤ qv) := fun z => z.elim (out 1 _ rfl) (fun z => by omega)
  have hr := va_runS (p := p) (e := e) (m := m) (below := below) (meth := meth) (R := R) (locs := locs) (cells := cells) (slots := slots) (H := H) (As := [.ref (ad 8 0), .ref sr]) (rest := rest) (g := F0 m pc ls (.ref sr :: .ref (ad 8 0) :: rest)) ⟨hx, hb, hml, hown, hts⟩ hM (va_cwS 2 hts (gdS cw hlk) rfl rfl rfl cw.2.2.2 hrm) ⟨fun a U g mk q => ⟨q.1, ⟨q.2.1.1, va_K.moved (u := U) (U := U.calling g mk a) (Vm.Alike.refl U.vm) q.2.1.2.1, (ZS_stb hz1).1 U g mk a q.2.1.2.2⟩, q.2.2⟩, fun U hU hWm => ⟨rfl, ⟨by rw [hU]; exact hP1, va_K.moved hWm.alike hK, hz0.2 s U hZ hWm (fun q9 h1 h2 => by rw [hU]; exact hS.2.1 q9 h1 h2) (by rw [hU]; exact hS.1), str_of (by rw [hU]; exact hP2) (va_K.moved hWm.alike hK) ((FJ0.of hts).moved hWm.alike) hsn1 hsn2 hl hb9⟩, fun q hq => Or.inr (by rw [← hU]; exact hq)⟩⟩ rfl rfl hsz rfl (by simpa [JFrame.monitorRoom] using hW) hdg hcs
  intro T hT X
  obtain ⟨v, st₀, t, T', L, h0, X', hL, e1, e2, ⟨⟨hv, hP3, -⟩, hz2, hk⟩, st⟩ := hr T hT X
  cases hv
  rw [h0] at hz2 hk
  obtain ⟨t2, a1, b1⟩ := kk T'.heap (locs ++ L) (by rw [e1]; exact hP3)
    ⟨Nat.le_trans hS.1 (by rw [e1]; exact hz2), fun q h1 h2 => by rw [e1, hk q (Nat.lt_of_lt_of_le h1 hS.1) (fun z => h2 (hA1 q z))]; exact hS.2.1 q h1 h2, fun q hq => by
      rcases List.mem_append.mp hq with h | h
      · exact hS.2.2 q h
      · exact hA1 _ (hL q h)⟩ T' rfl X'
  exact ⟨t2, st t2 a1, b1⟩
end LCT
