/-! the law's tell(): rows, its end -/
section TLR
variable {p : Program} {l : Launch} {e : Env} {R : Room} {s : State} {m : MethodId} {args : Array Value} {below : List Frame} {meth : Method} {c : Code} {H : Heap} {locs : List Loc} {cells slots : Nat} {Q : State → Prop}
variable {cc : ByteArray} {pc : Nat} {ls : Array Slot} {rest : List Value} {own : String} {nL : Nat} {D : va_G} {ca : Nat → ClassId} {ad : Nat → Nat → Nat} {PL : List (Nat × Nat)} {A : Nat → Prop} {Z : State → Prop} {H0 : Heap} {w : Mem} {X : va_W}
def RTL : Room := { frames := 9, cells := 60, slots := 400, locals := 400 }
def cntW (w : Mem) : Nat := (gF w 61 1 0).toNatClampNeg
/-- the row of five that is being filled, if it is needed; how many have been made -/
def TWX (b : Bool) (ca : Nat → ClassId) (w : Mem) (X : va_W) (qw cells slots : Nat) : Prop := (X = [(qw, .inl (ca 0, 5, .inl (gA w 61 0)))] ∨ (b = false ∧ X = [])) ∧ cells ≤ cntW w ∧ slots ≤ 5 * cntW w ∧ cntW w ≤ 30
theorem TWX.no {b : Bool} {qw : Nat} (h : TWX b ca w X qw cells slots) : TWX false ca w X qw cells slots := ⟨h.1.imp id (fun z => ⟨rfl, z.2⟩), h.2⟩
theorem TWX.room {b : Bool} {qw : Nat} (h : TWX b ca w X qw cells slots) : cells ≤ RTL.cells ∧ slots ≤ RTL.slots := by
  obtain ⟨-, h2, h3, h4⟩ := h
  show cells ≤ 60 ∧ slots ≤ 400
  constructor <;> omega
theorem TWX.yes {qw : Nat} (h : TWX true ca w X qw cells slots) : X = [(qw, .inl (ca 0, 5, .inl (gA w 61 0)))] := by
  rcases h.1 with z | z
  · exact z
  · cases z.1
theorem gh_wl {w1 : Mem} {v : Int32} (hPL : ∀ q ∈ PL, q.1 ≠ 61) : wl ad PL (ent ca ad (sF w1 61 1 0 v)) = wl ad PL (ent ca ad w1) := by
  unfold wl
  exact List.map_congr_left (fun q hq => congrArg (Prod.mk _) (ent_congr ca ad (fun j => by rw [gF_sF, if_neg (fun z => hPL q hq z.1)]) rfl rfl (fun _ => rfl)))
theorem gA_wl {f : Nat → Int32} (hPL : ∀ q ∈ PL, q.1 ≠ 61) : wl ad PL (ent ca ad (sAf w 61 0 f)) = wl ad PL (ent ca ad w) := by
  unfold wl
  exact List.map_congr_left (fun q hq => congrArg (Prod.mk _) (ent_congr ca ad (fun j => rfl) (by rw [gA_sAf, if_neg (fun z => hPL q hq z.1)]) rfl (fun _ => rfl)))
theorem tl_new {b : Bool} {qw : Nat} (hg : cntW w < 30) (hPL : ∀ q ∈ PL, q.1 ≠ 61) (hnew : ∀ q : Nat, s.heap.size ≤ q → A q) (C : CX p s m args c cc own nL D ca Z) (hX : TWX b ca w X qw cells slots) (hD : va_D A (wl ad PL (ent ca ad w) ++ X)) (hP : va_P D vwCl (wl ad PL (ent ca ad w) ++ X) H) (hS : va_S A s.heap H locs) (hdg : decode cc pc = .ok (.newarray .int, 2))
    (kk : ∀ (q1 : Nat) (H1 : Heap) (X1 : va_W), TWX true ca (sF (sAf w 61 0 (fun _ => 0)) 61 1 0 (nI (cntW w + 1))) X1 q1 (cells + 1) (slots + 5) → va_D A (wl ad PL (ent ca ad (sF (sAf w 61 0 (fun _ => 0)) 61 1 0 (nI (cntW w + 1)))) ++ X1) → va_P D vwCl (wl ad PL (ent ca ad (sF (sAf w 61 0 (fun _ => 0)) 61 1 0 (nI (cntW w + 1)))) ++ X1) H1 → va_S A s.heap H1 locs → W p l e RTL s m args below meth c H1 locs (cells + 1) (slots + 5) Q (F0 m (pc + 2) ls (.ref q1 :: rest))) : W p l e RTL s m args below meth c H locs cells slots Q (F0 m pc ls (.int 5 :: rest)) := by
  have hP1 := tx_left hP
  have hD1 := tx_Dl hD
  obtain ⟨-, h2, h3, h4⟩ := hX
  refine rn_arr (X := []) (L := wl ad PL (ent ca ad w)) (ty := .int) (t0 := 0) (q0 := 0) (N' := 5) (a0 := (5, .inl (fun _ => 0))) C rfl rfl (fun cA h1 h2 => Option.some.inj (h1.symm.trans h2)) ac__int hP1 hD1 hS hnew (fun _ => rfl) (by decide) (by decide) (by decide) (by show _ ≤ 60; omega) (by show _ ≤ 400; omega) hdg (fun q1 H1 hP hD hS => ?_)
  have e1 : wl ad PL (ent ca ad (sF (sAf w 61 0 (fun _ => 0)) 61 1 0 (nI (cntW w + 1)))) = wl ad PL (ent ca ad w) := by rw [gh_wl hPL, gA_wl hPL]
  have e2 : cntW (sF (sAf w 61 0 (fun _ => 0)) 61 1 0 (nI (cntW w + 1))) = cntW w + 1 := by
    unfold cntW
    rw [gF_sF, if_pos ⟨rfl, rfl, rfl⟩]
    exact nI_clamp (by unfold cntW at hg; omega)
  refine kk q1 H1 [(q1, .inl (ca 0, 5, .inl (fun _ => 0)))] ⟨Or.inl ?_, by omega, by omega, by omega⟩ (by rw [e1]; exact hD) (by rw [e1]; exact hP) hS
  rw [show gA (sF (sAf w 61 0 (fun _ => 0)) 61 1 0 (nI (cntW w + 1))) 61 0 = (fun _ => 0) from by rw [gA_sF, gA_sAf, if_pos ⟨rfl, rfl⟩]]
theorem tl_ild {qw : Nat} {x : Int32} (C : CX p s m args c cc own nL D ca Z) (hX : TWX true ca w X qw cells slots) (hP : va_P D vwCl (wl ad PL (ent ca ad w) ++ X) H) (hin : inb x 5 = true) (hdg : decode cc pc = .ok (.iaload, 1))
    (kk : W p l e RTL s m args below meth c H locs cells slots Q (F0 m (pc + 1) ls (.int (gA w 61 0 x.toNatClampNeg) :: rest))) : W p l e RTL s m args below meth c H locs cells slots Q (F0 m pc ls (.int x :: .ref qw :: rest)) := by
  obtain ⟨hx, hb, hml, hown, hts, hK, -⟩ := C
  have hX2 := hX.yes
  subst hX2
  exact va_iald hx hb hK (tx_right hP) 0 0 rfl rfl (inb_in hin) hdg kk
theorem tl_ist {qw : Nat} {x z : Int32} (hPL : ∀ q ∈ PL, q.1 ≠ 61) (C : CX p s m args c cc own nL D ca Z) (hX : TWX true ca w X qw cells slots) (hD : va_D A (wl ad PL (ent ca ad w) ++ X)) (hP : va_P D vwCl (wl ad PL (ent ca ad w) ++ X) H) (hS : va_S A s.heap H locs) (hin : inb x 5 = true) (hdg : decode cc pc = .ok (.iastore, 1))
    (kk : ∀ (H1 : Heap) (locs1 : List Loc) (X1 : va_W), TWX true ca (sA w 61 0 x.toNatClampNeg z) X1 qw cells slots → va_D A (wl ad PL (ent ca ad (sA w 61 0 x.toNatClampNeg z)) ++ X1) → va_P D vwCl (wl ad PL (ent ca ad (sA w 61 0 x.toNatClampNeg z)) ++ X1) H1 → va_S A s.heap H1 locs1 → W p l e RTL s m args below meth c H1 locs1 cells slots Q (F0 m (pc + 1) ls rest)) : W p l e RTL s m args below meth c H locs cells slots Q (F0 m pc ls (.int z :: .int x :: .ref qw :: rest)) := by
  obtain ⟨hx, hb, hml, hown, hts, hK, -⟩ := C
  have hX2 := hX.yes
  subst hX2
  refine va_iast hx hb hK hP hD hS ((wl ad PL (ent ca ad w)).length + 0) 0 (app_at rfl) rfl (inb_in hin) hdg (fun H1 locs1 hP1 hD1 hS1 => ?_)
  rw [app_set] at hP1 hD1
  have e1 : wl ad PL (ent ca ad (sA w 61 0 x.toNatClampNeg z)) = wl ad PL (ent ca ad w) := gA_wl hPL
  have e2 : gA (sA w 61 0 x.toNatClampNeg z) 61 0 = upd (gA w 61 0) x.toNatClampNeg z := by unfold sA; rw [gA_sAf, if_pos ⟨rfl, rfl⟩]
  refine kk H1 locs1 [(qw, .inl (ca 0, 5, .inl (upd (gA w 61 0) x.toNatClampNeg z)))] ⟨Or.inl (by rw [e2]), hX.2⟩ (by rw [e1]; exact hD1) (by rw [e1]; exact hP1) hS1
theorem tl_fin {b : Bool} {qw sq : Nat} {bs : List Int32} {N : Nat} {w' : Mem} {r : Int32} (hf : f_X8_text N w (nI bs.length) = some (w', r)) (hq : STRZ A Z sq bs) (hok : okc bX Z (rW ad PL) ad PL) (hn5 : ∀ p ∈ PL, ¬ p.1 = 5 ∧ ¬ p.1 = 29) (hA : ∀ x, rW ad PL x → A x) (hz0 : stb A Z) (hnew : ∀ q : Nat, s.heap.size ≤ q → A q) (C : CX p s m args c cL_tell RL 5 D ca Z) (hr : meth.sig.returnType = some .int) (hlocks : meth.locks = false) (hX : TWX b ca w X qw cells slots) (hP : va_P D vwCl (wl ad PL (ent ca ad w) ++ X) H) (hS : va_S A s.heap H locs) (hl : lv_has ls 5 [(0, .ref (ad 8 0)), (1, .ref sq)]) : W p l e RTL s m args below meth c H locs cells slots (MQ below (qcR D ca ad PL Z A w' (some (.int r))) args s 60 400 A) (F0 m 105 ls []) := by
  obtain ⟨hx, hb, hml, hown, hts, hK, hZ⟩ := id C
  have hP1 := tx_left hP
  obtain ⟨-, h2, h3, h4⟩ := hX
  refine lv_aload_n hx hb dL_tell_105 rfl (lv_at hl 0 rfl) ?_
  refine lv_aload_n hx hb dL_tell_106 rfl (lv_at hl 1 rfl) ?_
  refine kb_K (w := w0) (As := []) (rest := [.ref (ad 8 0)]) hz0 C hP1 hS hl.1 hq cw_J0_length_8abf5 ml_L_7 (c_J0_length_8abf5 l D ca (fun _ _ => 0) [] Z (fun _ => False) (okJ_no hz0) w0 hq.no) rfl ⟨rfl, rfl⟩ ⟨Nat.le_of_ble_eq_true rfl, Nat.le_of_ble_eq_true rfl⟩ ⟨by show _ ≤ 60; omega, by show _ ≤ 400; omega⟩ (Nat.le_of_ble_eq_true rfl) rfl dL_tell_107 (fun H locs hP1 hS => ?_)
  show W p l e RTL s m _ below meth c H locs _ _ _ (F0 m 110 ls [.int (nI bs.length), .ref (ad 8 0)])
  obtain ⟨q0, -, hq0⟩ := wl_at (ad := ad) (ent ca ad w) (hok.2.1 8 0 (Nat.le_of_ble_eq_true rfl))
  have hz9 : stb (fun q => rW ad PL q ∨ H.size ≤ q) Z := ⟨hz0.1, fun s U hZ hW hq hs => hz0.2 s U hZ hW (fun q h1 h2 => hq q h1 (fun z => z.elim (fun z => h2 (hA q z)) (fun z => h2 (hnew q (Nat.le_trans hS.1 z))))) hs⟩
  have hok9 : okc bX Z (fun q => rW ad PL q ∨ H.size ≤ q) ad PL := ⟨⟨hok.1.1, hok.1.2.1, fun p hp => Or.inl ⟨p, hp, rfl⟩⟩, hok.2.1, hz9, trivial⟩
  have hM := c_X8_text l D ca ad PL Z (rW ad PL) H.size hok9 hn5 N w (nI bs.length) w' r hf
  have hrun := va_runV (p := p) (e := e) (m := m) (below := below) (meth := meth) (R := RTL) (locs := locs) (cells := cells) (slots := slots) (C := RX8) (b := ad 8 0) (As := [.int (nI bs.length)]) (rest := []) (g := F0 m 110 ls [.int (nI bs.length), .ref (ad 8 0)]) ⟨hx, hb, hml, hown, hts⟩ hM (cwV 1 hts (gdV cw_X8_text ml_L_23) rfl rfl rfl cw_X8_text.2.2.2.2 ⟨Nat.le_of_ble_eq_true rfl, Nat.le_of_ble_eq_true rfl⟩) ⟨fun a U g mk q => ⟨q.1, q.2.1, q.2.2.1, va_K.moved (u := U) (U := U.calling g mk a) (Vm.Alike.refl U.vm) q.2.2.2.1, hz0.1 U g mk a q.2.2.2.2⟩, va_recv (q := (RX8, TX8, 10)) hK hP1 rfl hq0, fun U hU hWm => ⟨rfl, by rw [hU], by rw [hU]; exact hP1, va_K.moved hWm.alike hK, hz0.2 s U hZ hWm (fun q9 h1 h2 => by rw [hU]; exact hS.2.1 q9 h1 h2) (by rw [hU]; exact hS.1)⟩⟩ rfl rfl hl.1 rfl (by show 2 * 0 + 0 ≤ 8; omega) dL_tell_110 ⟨by show _ ≤ 60; omega, by show _ ≤ 400; omega⟩
  have kk : ∀ (H1 : Heap) (locs1 : List Loc), va_P D vwCl (wl ad PL (ent ca ad w')) H1 → va_S A s.heap H1 locs1 → W p l e RTL s m args below meth c H1 locs1 (cells + 2) (slots + 12) (MQ below (qcR D ca ad PL Z A w' (some (.int r))) args s 60 400 A) (F0 m 113 ls [.int r]) := fun H1 locs1 hP9 hS9 => by
    refine W.widen (k := 60) (n := 400) (by omega) (by omega) ?_
    exact W.zret hx hb hr rfl (fun t ht hW => ⟨⟨rfl, by rw [ht]; exact hP9, va_K.moved hW.alike hK, hz0.2 s t hZ hW (fun q9 h1 h2 => by rw [ht]; exact hS9.2.1 q9 h1 h2) (by rw [ht]; exact hS9.1)⟩, hS9.F ht⟩) hS9.2.2 dL_tell_113 (hlocks := hlocks)
  intro T hT X'
  obtain ⟨v, st₀, t, T', L, h0, X2, hL, e1, e2, ⟨⟨hv, hP3, -⟩, hz1, hk⟩, st⟩ := hrun T hT X'
  cases hv
  rw [h0] at hz1 hk
  obtain ⟨t2, a1, b1⟩ := kk T'.heap (locs ++ L) (by rw [e1]; exact hP3)
    ⟨Nat.le_trans hS.1 (by rw [e1]; exact hz1), fun q h1 h2 => by rw [e1, hk q (Nat.lt_of_lt_of_le h1 hS.1) (fun z => h2 (hA q z))]; exact hS.2.1 q h1 h2, fun q hq => by
      rcases List.mem_append.mp hq with h | h
      · exact hS.2.2 q h
      · rcases hL q h with h | h
        · exact hA _ h
        · exact hnew _ (Nat.le_trans hS.1 h)⟩ T' rfl X2
  exact ⟨t2, st t2 a1, b1⟩
theorem TWX.fed {b : Bool} {qw : Nat} (h : TWX b ca w X qw cells slots) (z : Mem) (q : Nat) : TWX false ca (sF z 61 1 0 (gF w 61 1 0)) [] q cells slots := by
  obtain ⟨-, h2, h3, h4⟩ := h
  have e : cntW (sF z 61 1 0 (gF w 61 1 0)) = cntW w := by unfold cntW; rw [gF_sF, if_pos ⟨rfl, rfl, rfl⟩]
  exact ⟨Or.inr ⟨rfl, rfl⟩, by omega, by omega, by omega⟩
theorem tl_afD {v : Int32} (hPL : ∀ q ∈ PL, q.1 ≠ 61) (hD : va_D A (wl ad PL (ent ca ad w) ++ X)) : va_D A (wl ad PL (ent ca ad (sF w 61 1 0 v)) ++ []) := by
  rw [gh_wl hPL, List.append_nil]; exact tx_Dl hD
theorem tl_afP {v : Int32} (hPL : ∀ q ∈ PL, q.1 ≠ 61) (hP : va_P D vwCl (wl ad PL (ent ca ad w) ++ X) H) : va_P D vwCl (wl ad PL (ent ca ad (sF w 61 1 0 v)) ++ []) H := by
  rw [gh_wl hPL, List.append_nil]; exact tx_left hP
theorem tl_bad {b : Bool} {qw : Nat} {w' : Mem} {v r : Int32} (hf : (w, v) = (w', r)) (C : CX p s m args c cL_tell RL 5 D ca Z) (hr : meth.sig.returnType = some .int) (hlocks : meth.locks = false) (hX : TWX b ca w X qw cells slots) (hP : va_P D vwCl (wl ad PL (ent ca ad w) ++ X) H) (hS : va_S A s.heap H locs) (hz0 : stb A Z) (hdg : decode cL_tell pc = .ok (.ireturn, 1)) : W p l e RTL s m args below meth c H locs cells slots (MQ below (qcR D ca ad PL Z A w' (some (.int r))) args s 60 400 A) (F0 m pc ls [.int v]) := by
  obtain ⟨hx, hb, hml, hown, hts, hK, hZ⟩ := C
  have e1 := congrArg Prod.fst hf
  have e2 := congrArg Prod.snd hf
  have hP9 := tx_left hP
  obtain ⟨-, h2, h3, h4⟩ := hX
  subst e1; subst e2
  refine W.widen (k := 60) (n := 400) (by omega) (by omega) ?_
  exact W.zret hx hb hr rfl (fun t ht hW => ⟨⟨rfl, by rw [ht]; exact hP9, va_K.moved hW.alike hK, hz0.2 s t hZ hW (fun q9 h1 h2 => by rw [ht]; exact hS.2.1 q9 h1 h2) (by rw [ht]; exact hS.1)⟩, hS.F ht⟩) hS.2.2 hdg (hlocks := hlocks)
def WPT (p : Program) (l : Launch) (e : Env) (s : State) (m : MethodId) (args : Array Value) (below : List Frame) (meth : Method) (c : Code) (D : va_G) (ca : Nat → ClassId) (ad : Nat → Nat → Nat) (PL : List (Nat × Nat)) (Z : State → Prop) (A : Nat → Prop) (w' : Mem) (r : Int32) (b : Bool) (pc : Nat) (st : Nat → List Value) (lv : Nat → List (Nat × Value)) (w : Mem) : Prop :=
  ∀ (H : Heap) (locs : List Loc) (ls : Array Slot) (X : va_W) (qw cells slots : Nat), TWX b ca w X qw cells slots → va_D A (wl ad PL (ent ca ad w) ++ X) → va_P D vwCl (wl ad PL (ent ca ad w) ++ X) H → va_S A s.heap H locs → lv_has ls 5 (lv qw) → W p l e RTL s m args below meth c H locs cells slots (MQ below (qcR D ca ad PL Z A w' (some (.int r))) args s 60 400 A) (F0 m pc ls (st qw))
end TLR
