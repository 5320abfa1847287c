/-! text() by contract -/
def BASE : List Nat := [102, 117, 110, 32, 97, 32, 48, 59, 102, 117, 110, 32, 98, 32, 48, 59, 102, 117, 110, 32, 99, 32, 48, 59, 102, 117, 110, 32, 102, 32, 49, 59, 102, 117, 110, 32, 103, 32, 50]
def txt0 (w : Mem) : Mem := apS (sF w 60 0 0 (nI 0)) BASE
theorem txt0_len (w : Mem) : lenT (txt0 w) = 39 := by
  have h0 : lenT (sF w 60 0 0 (nI 0)) = 0 := by unfold lenT; rw [gF_sF, if_pos ⟨rfl, rfl, rfl⟩, nI_clamp (by omega)]
  unfold txt0
  rw [apS_len _ _ (by rw [h0]; decide), h0]; rfl
theorem txt0_lt (w : Mem) {j : Nat} (hj : j < 39) : ltT (txt0 w) j = BASE.getD j 0 := by
  have h0 : lenT (sF w 60 0 0 (nI 0)) = 0 := by unfold lenT; rw [gF_sF, if_pos ⟨rfl, rfl, rfl⟩, nI_clamp (by omega)]
  unfold txt0
  rw [apS_lt _ _ _ (by rw [h0]; decide) (by decide), h0, if_pos ⟨Nat.zero_le _, by show j < 0 + 39; omega⟩]
  rfl
theorem txt0_wl {ca : Nat → ClassId} {ad : Nat → Nat → Nat} {PL : List (Nat × Nat)} (hPL : ∀ q ∈ PL, q.1 ≠ 60) (w : Mem) : wl ad PL (ent ca ad (txt0 w)) = wl ad PL (ent ca ad w) := by
  unfold txt0
  rw [apS_wl hPL]
  unfold wl
  exact List.map_congr_left (fun q hq => congrArg (Prod.mk _) (ent_congr ca ad (fun j => by rw [gF_sF, if_neg (fun z => hPL q hq z.1)]) rfl rfl (fun _ => rfl)))
set_option maxRecDepth 100000 in
set_option maxHeartbeats 4000000 in
theorem c_X10_text (l : Launch) (D : va_G) (ca : Nat → ClassId) (ad : Nat → Nat → Nat) (PL : List (Nat × Nat)) (Z : State → Prop) (A : Nat → Prop) (hok : okc bM Z (rW ad PL) ad PL) (hAr : ∀ x, rW ad PL x → A x) (hz0 : stb A Z) (hPL : ∀ q ∈ PL, q.1 ≠ 60) (hcsz : ∀ U, Z U → CSZ A U) (hT : okTx Z A) (sx : Nat × (Nat → Int32)) (hsx : SCZ (rW ad PL) Z (ad 47 0) sx) (N : Nat) (w w' : Mem) (hf : f_X10_text N (txt0 w) sx = some w') : Met l yX10_text (wsy yX10_text cX10_text 5 (some (.object "java/lang/String"))) RTX (va_Pc [.ref (ad 9 0), .ref (ad 46 0)] (fun U => RX D ca ad PL Z w U ∧ ∀ q : Nat, U.heap.size ≤ q → A q)) (qcT D ca ad PL A w') 600 500000 A := by
  refine Met.ofW (cc := cX10_text) (maxL := 5) (ret := some (.object "java/lang/String")) (by decide +kernel) rfl ?_
  intro p e s m args below meth c s₁ B hml hv
  obtain ⟨rfl, ⟨hP, hK, hZ⟩, hnew⟩ := hv
  have hx := B.exec
  have hb := B.bytes
  have hr := B.returns
  have hlocks := B.notSynchronized
  have hts : ∀ w ∈ ALL, w.before _ s = true := fun w hw => atoms_spec (ws := wsy yX10_text cX10_text 5 (some (.object "java/lang/String"))) B.pre w (List.mem_cons_of_mem _ hw)
  have hown : s.vm.findClass RX10 = some m.cls := findClass_of_methodNamed B.named
  have C : CX p s m ([.ref (ad 9 0), .ref (ad 46 0)] : List Value).toArray c cX10_text RX10 5 D ca Z := ⟨hx, hb, hml, hown, hts, hK, hZ⟩
  have hS : va_S A s.heap s.heap [] := va_S.rf
  have hl := lv_entry ([.ref (ad 9 0), .ref (ad 46 0)]) (n := 5) (Nat.le_of_ble_eq_true rfl)
  rw [lg_entry_eq]
  generalize (lg_sl ([.ref (ad 9 0), .ref (ad 46 0)]) ++ List.replicate (5 - (lg_sl ([.ref (ad 9 0), .ref (ad 46 0)])).length) Slot.unset).toArray = ls at hl ⊢
  have hl : lv_has ls 5 [(0, .ref (ad 9 0)), (1, .ref (ad 46 0))] := hl
  show W p l e RTX s m _ below meth c s.heap [] 0 0 _ _
  have hP : va_P D vwCl (wl ad PL (ent ca ad (txt0 w)) ++ []) s.heap := by rw [txt0_wl hPL, List.append_nil]; exact hP
  have hD : va_D A (wl ad PL (ent ca ad (txt0 w)) ++ []) := by
    rw [List.append_nil]
    exact (wl_D _ hok.1).weaken (fun i x _ h => hAr _ h)
  obtain ⟨q_30, s_30, r_30⟩ := hT.2.2.2.2.2.2
  refine va_new (C := RJ4) (T := TJ4) (N := 4) (ci := 12) (fs := [.null, .int 0, .int 0, .int 0]) hx hb hts in_wsJ40 tyJ4 tyJ4_ok hown (hts _ cl_X10_28) (hts _ it_J4) (hts _ ini_J4) hK hP hD hS hnew rfl (fun j hj => by rcases (show j = 0 ∨ j = 1 ∨ j = 2 ∨ j = 3 by omega) with rfl | rfl | rfl | rfl <;> rfl) (Nat.le_of_ble_eq_true rfl) (Nat.le_of_ble_eq_true rfl) dX10_text_0 (fun sb H hP hD hS => ?_)
  rw [List.append_nil] at hP hD
  refine lv_dup hx hb dX10_text_3 rfl ?_
  refine va_ldcS hx hb hown (r_30 s hZ) dX10_text_4 ?_
  refine tx_I (n := 1) (As := [.ref q_30]) (rest := [.ref sb]) hAr hz0 hnew C hD hP hS hl.1 (c_J4_init_a7421 l D ca Z (BR A ad PL) (br_stb hz0) (tt := fun i => BASE.getD i 0) (br_str s_30) (by decide) rfl) ini_J4 im_J4_init_a7421 cd_J4_init_a7421 rfl (by decide +kernel) ml_X10_32 rfl ⟨rfl, rfl⟩ ⟨Nat.le_of_ble_eq_true rfl, Nat.le_of_ble_eq_true rfl⟩ ⟨Nat.le_of_ble_eq_true rfl, Nat.le_of_ble_eq_true rfl⟩ (Nat.le_of_ble_eq_true rfl) rfl dX10_text_6 (fun rv X1 H locs hpost hD hP hS => ?_)
  obtain ⟨rfl, h9⟩ := hpost
  show W p l e RTX s m _ below meth c H locs _ _ _ (F0 m 9 ls [.ref sb])
  refine lv_astore_n (lv' := [(2, .ref sb), (0, .ref (ad 9 0)), (1, .ref (ad 46 0))]) hx hb dX10_text_9 rfl hl (by decide) rfl (fun ls hl => ?_)
  have e39 := txt0_len w
  refine text_walk hok hAr hz0 hnew hPL hcsz hT C hr hlocks sx hsx N (txt0 w) w' hf H locs ls X1 _ _ ⟨?_, ?_, ?_, ?_⟩ hD hP hS hl
  · unfold SBM
    rw [e39]
    refine h9.cg (fun j hj => ?_)
    rw [txt0_lt w hj]
    have := sb_cat_hi (t := fun _ => 0) (s := fun i => BASE.getD i 0) (n := 0) (j := j)
    rw [Nat.zero_add] at this
    exact this
  · rw [e39]; decide
  · rw [e39]; decide
  · rw [e39]; decide
