def f_X5_see (N : Nat) (w : Mem) (x1 : Int32) (x2 : Int32) (x3 : Int32) : Option (Mem) :=
  some (sF (sF (sF w 5 6 0 x1) 5 7 0 x2) 5 8 0 x3)
set_option maxRecDepth 100000 in
set_option maxHeartbeats 4000000 in
theorem c_X5_see (l : Launch) (D : va_G) (ca : Nat → ClassId) (ad : Nat → Nat → Nat) (PL : List (Nat × Nat)) (Z : State → Prop) (A : Nat → Prop) (hok : okc bR Z A ad PL) (N : Nat) (w : Mem) (x1 : Int32) (x2 : Int32) (x3 : Int32) (w' : Mem) (hf : f_X5_see N w x1 x2 x3 = some w') : CT l yX5_see (wsy yX5_see cX5_see 4 none) (rmk 0) D ca ad PL Z A [.ref (ad 5 0), .int x1, .int x2, .int x3] w w' none := by
  refine Met.ofW (cc := cX5_see) (maxL := 4) (ret := none) (by decide +kernel) rfl ?_
  intro p e s m args below meth c s₁ B hml hv
  obtain ⟨rfl, hP, hK, hZ⟩ := hv
  have hx := B.exec
  have hb := B.bytes
  have hr := B.returns
  have hlocks := B.notSynchronized
  have hts : ∀ w ∈ ALL, w.before _ s = true := fun w hw => atoms_spec (ws := wsy yX5_see cX5_see 4 none) B.pre w (List.mem_cons_of_mem _ hw)
  have hown : s.vm.findClass RX5 = some m.cls := findClass_of_methodNamed B.named
  have C : CX p s m _ c cX5_see RX5 4 D ca Z := ⟨hx, hb, hml, hown, hts, hK, hZ⟩
  have hS : va_S A s.heap s.heap [] := va_S.rf
  have hl := lv_entry ([.ref (ad 5 0), .int x1, .int x2, .int x3]) (n := 4) (Nat.le_of_ble_eq_true rfl)
  rw [lg_entry_eq]
  generalize (lg_sl ([.ref (ad 5 0), .int x1, .int x2, .int x3]) ++ List.replicate (4 - (lg_sl ([.ref (ad 5 0), .int x1, .int x2, .int x3])).length) Slot.unset).toArray = ls at hl ⊢
  have hl : lv_has ls 4 [(0, .ref (ad 5 0)), (1, .int x1), (2, .int x2), (3, .int x3)] := hl
  show W p l e (rmk 0) s m _ below meth c s.heap [] 0 0 _ _
  unfold f_X5_see at hf
  -- walk
  refine lv_aload_n hx hb dX5_see_0 rfl (lv_at hl 0 rfl) ?_
  refine lv_iload_n hx hb dX5_see_1 rfl (lv_at hl 1 rfl) ?_
  refine pt_5_6 (i := 0) (v := x1) C hok.1 hP hS (hok.2.1 5 0 (Nat.le_of_ble_eq_true rfl)) lk_X5_39 dX5_see_2 (fun H locs hP hS => ?_)
  refine lv_aload_n hx hb dX5_see_5 rfl (lv_at hl 0 rfl) ?_
  refine lv_iload_n hx hb dX5_see_6 rfl (lv_at hl 2 rfl) ?_
  refine pt_5_7 (i := 0) (v := x2) C hok.1 hP hS (hok.2.1 5 0 (Nat.le_of_ble_eq_true rfl)) lk_X5_50 dX5_see_7 (fun H locs hP hS => ?_)
  refine lv_aload_n hx hb dX5_see_10 rfl (lv_at hl 0 rfl) ?_
  refine lv_iload_n hx hb dX5_see_11 rfl (lv_at hl 3 rfl) ?_
  refine pt_5_8 (i := 0) (v := x3) C hok.1 hP hS (hok.2.1 5 0 (Nat.le_of_ble_eq_true rfl)) lk_X5_123 dX5_see_12 (fun H locs hP hS => ?_)
  exact kr_v hok.2.2.1 C hlocks hr hP hS (Option.some.inj hf) dX5_see_15
def f_X5_advance_238_s1 (N : Nat) (w : Mem)  (v1 : Int32) (s0 : Int32) : Option (Mem) :=
  (if s0 = (0 : Int32) then
(Option.bind (f_X5_see N w (4 : Int32) v1 ((gF w 5 5 0) + (1 : Int32))) (fun z8 => some z8))
else
(Option.bind (f_X5_see N w (3 : Int32) v1 ((gF w 5 5 0) + (1 : Int32))) (fun z10 => some z10)))
def f_X5_advance_163_s2 (N : Nat) (w : Mem)  (s0 : Int32) : Option (Mem) :=
  (if inb (gF w 5 5 0) 500 = true then (Option.bind (f_X5_see N w s0 ((gA w 30 0 (gF w 5 5 0).toNatClampNeg) - (48 : Int32)) ((gF w 5 5 0) + (1 : Int32))) (fun z19 => some z19)) else none)
def f_X5_advance (N : Nat) (w : Mem)  : Option (Mem) :=
  (Option.bind (f_X6_behindBlanks N w (gF w 5 8 0) (gF w 5 1 0)) (fun z1 => (if (gF (sF w 5 5 0 z1) 5 5 0) < (gF (sF w 5 5 0 z1) 5 1 0) then
(Option.bind (f_X6_isLetter N (sF w 5 5 0 z1) (gF (sF w 5 5 0 z1) 5 5 0)) (fun z3 => (if z3 = (0 : Int32) then
(Option.bind (f_X6_isDigit N (sF w 5 5 0 z1) (gF (sF w 5 5 0 z1) 5 5 0)) (fun z5 => (if z5 = (0 : Int32) then
(if inb (gF (sF w 5 5 0 z1) 5 5 0) 500 = true then (if (gA (sF w 5 5 0 z1) 30 0 (gF (sF w 5 5 0 z1) 5 5 0).toNatClampNeg) = (59 : Int32) then
(f_X5_advance_238_s1 N (sF w 5 5 0 z1)  (gA (sF w 5 5 0 z1) 30 0 (gF (sF w 5 5 0 z1) 5 5 0).toNatClampNeg) (1 : Int32))
else
(if (gA (sF w 5 5 0 z1) 30 0 (gF (sF w 5 5 0 z1) 5 5 0).toNatClampNeg) = (44 : Int32) then
(f_X5_advance_238_s1 N (sF w 5 5 0 z1)  (gA (sF w 5 5 0 z1) 30 0 (gF (sF w 5 5 0 z1) 5 5 0).toNatClampNeg) (1 : Int32))
else
(if (gA (sF w 5 5 0 z1) 30 0 (gF (sF w 5 5 0 z1) 5 5 0).toNatClampNeg) = (61 : Int32) then
(f_X5_advance_238_s1 N (sF w 5 5 0 z1)  (gA (sF w 5 5 0 z1) 30 0 (gF (sF w 5 5 0 z1) 5 5 0).toNatClampNeg) (1 : Int32))
else
(if (gA (sF w 5 5 0 z1) 30 0 (gF (sF w 5 5 0 z1) 5 5 0).toNatClampNeg) = (40 : Int32) then
(f_X5_advance_238_s1 N (sF w 5 5 0 z1)  (gA (sF w 5 5 0 z1) 30 0 (gF (sF w 5 5 0 z1) 5 5 0).toNatClampNeg) (1 : Int32))
else
(if (gA (sF w 5 5 0 z1) 30 0 (gF (sF w 5 5 0 z1) 5 5 0).toNatClampNeg) = (41 : Int32) then
(f_X5_advance_238_s1 N (sF w 5 5 0 z1)  (gA (sF w 5 5 0 z1) 30 0 (gF (sF w 5 5 0 z1) 5 5 0).toNatClampNeg) (1 : Int32))
else
(f_X5_advance_238_s1 N (sF w 5 5 0 z1)  (gA (sF w 5 5 0 z1) 30 0 (gF (sF w 5 5 0 z1) 5 5 0).toNatClampNeg) (0 : Int32))))))) else none)
else
(if (gF (sF w 5 5 0 z1) 5 1 0) ≤ ((gF (sF w 5 5 0 z1) 5 5 0) + (1 : Int32)) then
(if (0 : Int32) = (0 : Int32) then
(f_X5_advance_163_s2 N (sF w 5 5 0 z1)   (2 : Int32))
else
(f_X5_advance_163_s2 N (sF w 5 5 0 z1)   (4 : Int32)))
else
(Option.bind (f_X6_isDigit N (sF w 5 5 0 z1) ((gF (sF w 5 5 0 z1) 5 5 0) + (1 : Int32))) (fun z22 => (if z22 = (0 : Int32) then
(if (0 : Int32) = (0 : Int32) then
(f_X5_advance_163_s2 N (sF w 5 5 0 z1)   (2 : Int32))
else
(f_X5_advance_163_s2 N (sF w 5 5 0 z1)   (4 : Int32)))
else
(if (1 : Int32) = (0 : Int32) then
(f_X5_advance_163_s2 N (sF w 5 5 0 z1)   (2 : Int32))
else
(f_X5_advance_163_s2 N (sF w 5 5 0 z1)   (4 : Int32))))))))))
else
(Option.bind (f_X6_behindLetters N (sF w 5 5 0 z1) (gF (sF w 5 5 0 z1) 5 5 0) (gF (sF w 5 5 0 z1) 5 1 0)) (fun z29 => (Option.bind (f_X6_wordNumber N (sF w 5 5 0 z1) (gF (sF w 5 5 0 z1) 5 5 0) z29) (fun z31 => (if z31 = (0 : Int32) then
(Option.bind (f_X5_see N (sF w 5 5 0 z1) (4 : Int32) z31 z29) (fun z35 => some z35))
else
(Option.bind (f_X5_see N (sF w 5 5 0 z1) (1 : Int32) z31 z29) (fun z33 => some z33))))))))))
else
(Option.bind (f_X5_see N (sF w 5 5 0 z1) (0 : Int32) (0 : Int32) (gF (sF w 5 5 0 z1) 5 5 0)) (fun z39 => some z39)))))
set_option maxRecDepth 100000 in
set_option maxHeartbeats 4000000 in
theorem c_X5_advance (l : Launch) (D : va_G) (ca : Nat → ClassId) (ad : Nat → Nat → Nat) (PL : List (Nat × Nat)) (Z : State → Prop) (A : Nat → Prop) (hok : okc bR Z A ad PL) (N : Nat) (w : Mem)  (w' : Mem) (hf : f_X5_advance N w  = some w') : CT l yX5_advance (wsy yX5_advance cX5_advance 3 none) (rmk 2) D ca ad PL Z A [.ref (ad 5 0)] w w' none := by
  refine Met.ofW (cc := cX5_advance) (maxL := 3) (ret := none) (by decide +kernel) rfl ?_
  intro p e s m args below meth c s₁ B hml hv
  obtain ⟨rfl, hP, hK, hZ⟩ := hv
  have hx := B.exec
  have hb := B.bytes
  have hr := B.returns
  have hlocks := B.notSynchronized
  have hts : ∀ w ∈ ALL, w.before _ s = true := fun w hw => atoms_spec (ws := wsy yX5_advance cX5_advance 3 none) B.pre w (List.mem_cons_of_mem _ hw)
  have hown : s.vm.findClass RX5 = some m.cls := findClass_of_methodNamed B.named
  have C : CX p s m _ c cX5_advance RX5 3 D ca Z := ⟨hx, hb, hml, hown, hts, hK, hZ⟩
  have hS : va_S A s.heap s.heap [] := va_S.rf
  have hl := lv_entry ([.ref (ad 5 0)]) (n := 3) (Nat.le_of_ble_eq_true rfl)
  rw [lg_entry_eq]
  generalize (lg_sl ([.ref (ad 5 0)]) ++ List.replicate (3 - (lg_sl ([.ref (ad 5 0)])).length) Slot.unset).toArray = ls at hl ⊢
  have hl : lv_has ls 3 [(0, .ref (ad 5 0))] := hl
  show W p l e (rmk 2) s m _ below meth c s.heap [] 0 0 _ _
  have P_f_X5_advance_238_s1 : ∀ (w : Mem) (v1 : Int32) (s0 : Int32), f_X5_advance_238_s1 N w  v1 s0 = some w' → WP p l e (rmk 2) s m [.ref (ad 5 0)].toArray below meth c D ca ad PL A (MQ below (qcR D ca ad PL Z A w' none) [.ref (ad 5 0)].toArray s 0 0 A) 3 238 [.int s0] [(0, .ref (ad 5 0)), (1, .int v1)] w := by
    intro w v1 s0 hf _ _ ls hP hS hl
    unfold f_X5_advance_238_s1 at hf
    refine lv_istore_n (lv' := [(2, .int s0), (0, .ref (ad 5 0)), (1, .int v1)]) hx hb dX5_advance_238 rfl hl (by decide) rfl (fun ls hl => ?_)
    refine lv_aload_n hx hb dX5_advance_239 rfl (lv_at hl 1 rfl) ?_
    refine lv_iload_n hx hb dX5_advance_240 rfl (lv_at hl 0 rfl) ?_
    refine lv_if_eq (tgt := 248) hx hb dX5_advance_241 (by decide) (fun c12 => ?_) (fun c12 => ?_)
    · have hf := ifp hf c12
      refine lv_iconst (v := (4 : Int32)) hx hb dX5_advance_248 (by decide) ?_
      refine lv_iload_n hx hb dX5_advance_249 rfl (lv_at hl 2 rfl) ?_
      refine lv_aload_n hx hb dX5_advance_250 rfl (lv_at hl 1 rfl) ?_
      refine gt_5_5 (i := 0) C hP (hok.2.1 5 0 (Nat.le_of_ble_eq_true rfl)) lk_X5_132 dX5_advance_251 ?_
      refine lv_iconst (v := (1 : Int32)) hx hb dX5_advance_254 (by decide) ?_
      refine lv_iadd hx hb dX5_advance_255 ?_
      obtain ⟨z8, q9, hf⟩ := bsp hf
      refine kc_V (ci := 5) (i := 0) (As := [.int (4 : Int32), .int v1, .int ((gF w 5 5 0) + (1 : Int32))]) (rest := []) hok.2.2.1 C hP hS hl.1 (hok.2.1 5 0 (Nat.le_of_ble_eq_true rfl)) rfl rfl cw_X5_see ml_X5_135 (c_X5_see l D ca ad PL Z A hok N w (4 : Int32) v1 ((gF w 5 5 0) + (1 : Int32)) z8 q9) rfl ⟨rfl, rfl⟩ ⟨Nat.le_of_ble_eq_true rfl, Nat.le_of_ble_eq_true rfl⟩ ⟨Nat.zero_le _, Nat.zero_le _⟩ (Nat.le_of_ble_eq_true rfl) rfl dX5_advance_256 (fun H locs hP hS => ?_)
      exact kr_v hok.2.2.1 C hlocks hr hP hS (Option.some.inj hf) dX5_advance_259
    · have hf := ifn hf c12
      refine lv_iconst (v := (3 : Int32)) hx hb dX5_advance_244 (by decide) ?_
      refine lv_goto (tgt := 249) hx hb dX5_advance_245 (by decide) ?_
      refine lv_iload_n hx hb dX5_advance_249 rfl (lv_at hl 2 rfl) ?_
      refine lv_aload_n hx hb dX5_advance_250 rfl (lv_at hl 1 rfl) ?_
      refine gt_5_5 (i := 0) C hP (hok.2.1 5 0 (Nat.le_of_ble_eq_true rfl)) lk_X5_132 dX5_advance_251 ?_
      refine lv_iconst (v := (1 : Int32)) hx hb dX5_advance_254 (by decide) ?_
      refine lv_iadd hx hb dX5_advance_255 ?_
      obtain ⟨z10, q11, hf⟩ := bsp hf
      refine kc_V (ci := 5) (i := 0) (As := [.int (3 : Int32), .int v1, .int ((gF w 5 5 0) + (1 : Int32))]) (rest := []) hok.2.2.1 C hP hS hl.1 (hok.2.1 5 0 (Nat.le_of_ble_eq_true rfl)) rfl rfl cw_X5_see ml_X5_135 (c_X5_see l D ca ad PL Z A hok N w (3 : Int32) v1 ((gF w 5 5 0) + (1 : Int32)) z10 q11) rfl ⟨rfl, rfl⟩ ⟨Nat.le_of_ble_eq_true rfl, Nat.le_of_ble_eq_true rfl⟩ ⟨Nat.zero_le _, Nat.zero_le _⟩ (Nat.le_of_ble_eq_true rfl) rfl dX5_advance_256 (fun H locs hP hS => ?_)
      exact kr_v hok.2.2.1 C hlocks hr hP hS (Option.some.inj hf) dX5_advance_259
  have P_f_X5_advance_163_s2 : ∀ (w : Mem) (s0 : Int32), f_X5_advance_163_s2 N w   s0 = some w' → WP p l e (rmk 2) s m [.ref (ad 5 0)].toArray below meth c D ca ad PL A (MQ below (qcR D ca ad PL Z A w' none) [.ref (ad 5 0)].toArray s 0 0 A) 3 163 [.int s0, .ref (ad 5 0)] [(0, .ref (ad 5 0))] w := by
    intro w s0 hf _ _ ls hP hS hl
    unfold f_X5_advance_163_s2 at hf
    refine lv_aload_n hx hb dX5_advance_163 rfl (lv_at hl 0 rfl) ?_
    refine gt_5_0 (i := 0) C hP (hok.2.1 5 0 (Nat.le_of_ble_eq_true rfl)) lk_X5_15 dX5_advance_164 ?_
    refine gt_6_0 (i := 0) C hP (hok.2.1 6 0 (Nat.le_of_ble_eq_true rfl)) lk_X5_151 dX5_advance_167 ?_
    refine lv_aload_n hx hb dX5_advance_170 rfl (lv_at hl 0 rfl) ?_
    refine gt_5_5 (i := 0) C hP (hok.2.1 5 0 (Nat.le_of_ble_eq_true rfl)) lk_X5_132 dX5_advance_171 ?_
    obtain ⟨b18, hf⟩ := gsp hf
    refine ra_bld (k := 30) (i := 0) (n := 500) (f := (gA w 30 0)) C hP (hok.2.1 30 0 (Nat.le_of_ble_eq_true rfl)) rfl b18 dX5_advance_174 ?_
    refine lv_bipush (v := (48 : Int32)) hx hb dX5_advance_175 (by decide) ?_
    refine lv_isub hx hb dX5_advance_177 ?_
    refine lv_aload_n hx hb dX5_advance_178 rfl (lv_at hl 0 rfl) ?_
    refine gt_5_5 (i := 0) C hP (hok.2.1 5 0 (Nat.le_of_ble_eq_true rfl)) lk_X5_132 dX5_advance_179 ?_
    refine lv_iconst (v := (1 : Int32)) hx hb dX5_advance_182 (by decide) ?_
    refine lv_iadd hx hb dX5_advance_183 ?_
    obtain ⟨z19, q20, hf⟩ := bsp hf
    refine kc_V (ci := 5) (i := 0) (As := [.int s0, .int ((gA w 30 0 (gF w 5 5 0).toNatClampNeg) - (48 : Int32)), .int ((gF w 5 5 0) + (1 : Int32))]) (rest := []) hok.2.2.1 C hP hS hl.1 (hok.2.1 5 0 (Nat.le_of_ble_eq_true rfl)) rfl rfl cw_X5_see ml_X5_135 (c_X5_see l D ca ad PL Z A hok N w s0 ((gA w 30 0 (gF w 5 5 0).toNatClampNeg) - (48 : Int32)) ((gF w 5 5 0) + (1 : Int32)) z19 q20) rfl ⟨rfl, rfl⟩ ⟨Nat.le_of_ble_eq_true rfl, Nat.le_of_ble_eq_true rfl⟩ ⟨Nat.zero_le _, Nat.zero_le _⟩ (Nat.le_of_ble_eq_true rfl) rfl dX5_advance_184 (fun H locs hP hS => ?_)
    refine lv_goto (tgt := 259) hx hb dX5_advance_187 (by decide) ?_
    exact kr_v hok.2.2.1 C hlocks hr hP hS (Option.some.inj hf) dX5_advance_259
  unfold f_X5_advance at hf
  -- walk
  refine lv_aload_n hx hb dX5_advance_0 rfl (lv_at hl 0 rfl) ?_
  refine lv_aload_n hx hb dX5_advance_1 rfl (lv_at hl 0 rfl) ?_
  refine gt_5_0 (i := 0) C hP (hok.2.1 5 0 (Nat.le_of_ble_eq_true rfl)) lk_X5_15 dX5_advance_2 ?_
  refine lv_aload_n hx hb dX5_advance_5 rfl (lv_at hl 0 rfl) ?_
  refine gt_5_8 (i := 0) C hP (hok.2.1 5 0 (Nat.le_of_ble_eq_true rfl)) lk_X5_123 dX5_advance_6 ?_
  refine lv_aload_n hx hb dX5_advance_9 rfl (lv_at hl 0 rfl) ?_
  refine gt_5_1 (i := 0) C hP (hok.2.1 5 0 (Nat.le_of_ble_eq_true rfl)) lk_X5_19 dX5_advance_10 ?_
  obtain ⟨z1, q2, hf⟩ := bsp hf
  refine kc_V (ci := 6) (i := 0) (As := [.int (gF w 5 8 0), .int (gF w 5 1 0)]) (rest := [.ref (ad 5 0)]) hok.2.2.1 C hP hS hl.1 (hok.2.1 6 0 (Nat.le_of_ble_eq_true rfl)) rfl rfl cw_X6_behindBlanks ml_X5_126 (c_X6_behindBlanks l D ca ad PL Z A (okR_X hok) N w (gF w 5 8 0) (gF w 5 1 0) z1 q2) rfl ⟨rfl, rfl⟩ ⟨Nat.le_of_ble_eq_true rfl, Nat.le_of_ble_eq_true rfl⟩ ⟨Nat.zero_le _, Nat.zero_le _⟩ (Nat.le_of_ble_eq_true rfl) rfl dX5_advance_13 (fun H locs hP hS => ?_)
  refine pt_5_5 (i := 0) (v := z1) C hok.1 hP hS (hok.2.1 5 0 (Nat.le_of_ble_eq_true rfl)) lk_X5_132 dX5_advance_16 (fun H locs hP hS => ?_)
  refine lv_aload_n hx hb dX5_advance_19 rfl (lv_at hl 0 rfl) ?_
  refine gt_5_5 (i := 0) C hP (hok.2.1 5 0 (Nat.le_of_ble_eq_true rfl)) lk_X5_132 dX5_advance_20 ?_
  refine lv_aload_n hx hb dX5_advance_23 rfl (lv_at hl 0 rfl) ?_
  refine gt_5_1 (i := 0) C hP (hok.2.1 5 0 (Nat.le_of_ble_eq_true rfl)) lk_X5_19 dX5_advance_24 ?_
  refine lv_icmp_lt (tgt := 43) hx hb dX5_advance_27 (by decide) (fun c41 => ?_) (fun c41 => ?_)
  · have hf := ifp hf c41
    refine lv_aload_n hx hb dX5_advance_43 rfl (lv_at hl 0 rfl) ?_
    refine gt_5_0 (i := 0) C hP (hok.2.1 5 0 (Nat.le_of_ble_eq_true rfl)) lk_X5_15 dX5_advance_44 ?_
    refine lv_aload_n hx hb dX5_advance_47 rfl (lv_at hl 0 rfl) ?_
    refine gt_5_5 (i := 0) C hP (hok.2.1 5 0 (Nat.le_of_ble_eq_true rfl)) lk_X5_132 dX5_advance_48 ?_
    obtain ⟨z3, q4, hf⟩ := bsp hf
    refine kc_V (ci := 6) (i := 0) (As := [.int (gF (sF w 5 5 0 z1) 5 5 0)]) (rest := []) hok.2.2.1 C hP hS hl.1 (hok.2.1 6 0 (Nat.le_of_ble_eq_true rfl)) rfl rfl cw_X6_isLetter ml_X5_139 (c_X6_isLetter l D ca ad PL Z A (okR_X hok) N (sF w 5 5 0 z1) (gF (sF w 5 5 0 z1) 5 5 0) z3 q4) rfl ⟨rfl, rfl⟩ ⟨Nat.le_of_ble_eq_true rfl, Nat.le_of_ble_eq_true rfl⟩ ⟨Nat.zero_le _, Nat.zero_le _⟩ (Nat.le_of_ble_eq_true rfl) rfl dX5_advance_51 (fun H locs hP hS => ?_)
    refine lv_if_eq (tgt := 104) hx hb dX5_advance_54 (by decide) (fun c38 => ?_) (fun c38 => ?_)
    · have hf := ifp hf c38
      refine lv_aload_n hx hb dX5_advance_104 rfl (lv_at hl 0 rfl) ?_
      refine gt_5_0 (i := 0) C hP (hok.2.1 5 0 (Nat.le_of_ble_eq_true rfl)) lk_X5_15 dX5_advance_105 ?_
      refine lv_aload_n hx hb dX5_advance_108 rfl (lv_at hl 0 rfl) ?_
      refine gt_5_5 (i := 0) C hP (hok.2.1 5 0 (Nat.le_of_ble_eq_true rfl)) lk_X5_132 dX5_advance_109 ?_
      obtain ⟨z5, q6, hf⟩ := bsp hf
      refine kc_V (ci := 6) (i := 0) (As := [.int (gF (sF w 5 5 0 z1) 5 5 0)]) (rest := []) hok.2.2.1 C hP hS hl.1 (hok.2.1 6 0 (Nat.le_of_ble_eq_true rfl)) rfl rfl cw_X6_isDigit ml_X5_148 (c_X6_isDigit l D ca ad PL Z A (okR_X hok) N (sF w 5 5 0 z1) (gF (sF w 5 5 0 z1) 5 5 0) z5 q6) rfl ⟨rfl, rfl⟩ ⟨Nat.le_of_ble_eq_true rfl, Nat.le_of_ble_eq_true rfl⟩ ⟨Nat.zero_le _, Nat.zero_le _⟩ (Nat.le_of_ble_eq_true rfl) rfl dX5_advance_112 (fun H locs hP hS => ?_)
      refine lv_if_eq (tgt := 190) hx hb dX5_advance_115 (by decide) (fun c28 => ?_) (fun c28 => ?_)
      · have hf := ifp hf c28
        refine lv_aload_n hx hb dX5_advance_190 rfl (lv_at hl 0 rfl) ?_
        refine gt_5_0 (i := 0) C hP (hok.2.1 5 0 (Nat.le_of_ble_eq_true rfl)) lk_X5_15 dX5_advance_191 ?_
        refine gt_6_0 (i := 0) C hP (hok.2.1 6 0 (Nat.le_of_ble_eq_true rfl)) lk_X5_151 dX5_advance_194 ?_
        refine lv_aload_n hx hb dX5_advance_197 rfl (lv_at hl 0 rfl) ?_
        refine gt_5_5 (i := 0) C hP (hok.2.1 5 0 (Nat.le_of_ble_eq_true rfl)) lk_X5_132 dX5_advance_198 ?_
        obtain ⟨b7, hf⟩ := gsp hf
        refine ra_bld (k := 30) (i := 0) (n := 500) (f := (gA (sF w 5 5 0 z1) 30 0)) C hP (hok.2.1 30 0 (Nat.le_of_ble_eq_true rfl)) rfl b7 dX5_advance_201 ?_
        refine lv_istore_n (lv' := [(1, .int (gA (sF w 5 5 0 z1) 30 0 (gF (sF w 5 5 0 z1) 5 5 0).toNatClampNeg)), (0, .ref (ad 5 0))]) hx hb dX5_advance_202 rfl hl (by decide) rfl (fun ls hl => ?_)
        refine lv_iload_n hx hb dX5_advance_203 rfl (lv_at hl 0 rfl) ?_
        refine lv_bipush (v := (59 : Int32)) hx hb dX5_advance_204 (by decide) ?_
        refine lv_icmp_eq (tgt := 233) hx hb dX5_advance_206 (by decide) (fun c17 => ?_) (fun c17 => ?_)
        · have hf := ifp hf c17
          refine lv_iconst (v := (1 : Int32)) hx hb dX5_advance_233 (by decide) ?_
          refine lv_goto (tgt := 238) hx hb dX5_advance_234 (by decide) ?_
          exact P_f_X5_advance_238_s1 (sF w 5 5 0 z1) (gA (sF w 5 5 0 z1) 30 0 (gF (sF w 5 5 0 z1) 5 5 0).toNatClampNeg) (1 : Int32) hf _ _ ls hP hS (lv_sub hl [1, 0] rfl)
        · have hf := ifn hf c17
          refine lv_iload_n hx hb dX5_advance_209 rfl (lv_at hl 0 rfl) ?_
          refine lv_bipush (v := (44 : Int32)) hx hb dX5_advance_210 (by decide) ?_
          refine lv_icmp_eq (tgt := 233) hx hb dX5_advance_212 (by decide) (fun c16 => ?_) (fun c16 => ?_)
          · have hf := ifp hf c16
            refine lv_iconst (v := (1 : Int32)) hx hb dX5_advance_233 (by decide) ?_
            refine lv_goto (tgt := 238) hx hb dX5_advance_234 (by decide) ?_
            exact P_f_X5_advance_238_s1 (sF w 5 5 0 z1) (gA (sF w 5 5 0 z1) 30 0 (gF (sF w 5 5 0 z1) 5 5 0).toNatClampNeg) (1 : Int32) hf _ _ ls hP hS (lv_sub hl [1, 0] rfl)
          · have hf := ifn hf c16
            refine lv_iload_n hx hb dX5_advance_215 rfl (lv_at hl 0 rfl) ?_
            refine lv_bipush (v := (61 : Int32)) hx hb dX5_advance_216 (by decide) ?_
            refine lv_icmp_eq (tgt := 233) hx hb dX5_advance_218 (by decide) (fun c15 => ?_) (fun c15 => ?_)
            · have hf := ifp hf c15
              refine lv_iconst (v := (1 : Int32)) hx hb dX5_advance_233 (by decide) ?_
              refine lv_goto (tgt := 238) hx hb dX5_advance_234 (by decide) ?_
              exact P_f_X5_advance_238_s1 (sF w 5 5 0 z1) (gA (sF w 5 5 0 z1) 30 0 (gF (sF w 5 5 0 z1) 5 5 0).toNatClampNeg) (1 : Int32) hf _ _ ls hP hS (lv_sub hl [1, 0] rfl)
            · have hf := ifn hf c15
              refine lv_iload_n hx hb dX5_advance_221 rfl (lv_at hl 0 rfl) ?_
              refine lv_bipush (v := (40 : Int32)) hx hb dX5_advance_222 (by decide) ?_
              refine lv_icmp_eq (tgt := 233) hx hb dX5_advance_224 (by decide) (fun c14 => ?_) (fun c14 => ?_)
              · have hf := ifp hf c14
                refine lv_iconst (v := (1 : Int32)) hx hb dX5_advance_233 (by decide) ?_
                refine lv_goto (tgt := 238) hx hb dX5_advance_234 (by decide) ?_
                exact P_f_X5_advance_238_s1 (sF w 5 5 0 z1) (gA (sF w 5 5 0 z1) 30 0 (gF (sF w 5 5 0 z1) 5 5 0).toNatClampNeg) (1 : Int32) hf _ _ ls hP hS (lv_sub hl [1, 0] rfl)
              · have hf := ifn hf c14
                refine lv_iload_n hx hb dX5_advance_227 rfl (lv_at hl 0 rfl) ?_
                refine lv_bipush (v := (41 : Int32)) hx hb dX5_advance_228 (by decide) ?_
                refine lv_icmp_ne (tgt := 237) hx hb dX5_advance_230 (by decide) (fun c13 => ?_) (fun c13 => ?_)
                · have hf := ifn hf c13
                  refine lv_iconst (v := (0 : Int32)) hx hb dX5_advance_237 (by decide) ?_
                  exact P_f_X5_advance_238_s1 (sF w 5 5 0 z1) (gA (sF w 5 5 0 z1) 30 0 (gF (sF w 5 5 0 z1) 5 5 0).toNatClampNeg) (0 : Int32) hf _ _ ls hP hS (lv_sub hl [1, 0] rfl)
                · have hf := ifp hf c13
                  refine lv_iconst (v := (1 : Int32)) hx hb dX5_advance_233 (by decide) ?_
                  refine lv_goto (tgt := 238) hx hb dX5_advance_234 (by decide) ?_
                  exact P_f_X5_advance_238_s1 (sF w 5 5 0 z1) (gA (sF w 5 5 0 z1) 30 0 (gF (sF w 5 5 0 z1) 5 5 0).toNatClampNeg) (1 : Int32) hf _ _ ls hP hS (lv_sub hl [1, 0] rfl)
      · have hf := ifn hf c28
        refine lv_aload_n hx hb dX5_advance_118 rfl (lv_at hl 0 rfl) ?_
        refine gt_5_5 (i := 0) C hP (hok.2.1 5 0 (Nat.le_of_ble_eq_true rfl)) lk_X5_132 dX5_advance_119 ?_
        refine lv_iconst (v := (1 : Int32)) hx hb dX5_advance_122 (by decide) ?_
        refine lv_iadd hx hb dX5_advance_123 ?_
        refine lv_aload_n hx hb dX5_advance_124 rfl (lv_at hl 0 rfl) ?_
        refine gt_5_1 (i := 0) C hP (hok.2.1 5 0 (Nat.le_of_ble_eq_true rfl)) lk_X5_19 dX5_advance_125 ?_
        refine lv_icmp_ge (tgt := 151) hx hb dX5_advance_128 (by decide) (fun c27 => ?_) (fun c27 => ?_)
        · have hf := ifp hf c27
          refine lv_iconst (v := (0 : Int32)) hx hb dX5_advance_151 (by decide) ?_
          refine lv_istore_n (lv' := [(1, .int (0 : Int32)), (0, .ref (ad 5 0))]) hx hb dX5_advance_152 rfl hl (by decide) rfl (fun ls hl => ?_)
          refine lv_aload_n hx hb dX5_advance_153 rfl (lv_at hl 1 rfl) ?_
          refine lv_iload_n hx hb dX5_advance_154 rfl (lv_at hl 0 rfl) ?_
          refine lv_if_eq (tgt := 162) hx hb dX5_advance_155 (by decide) (fun c21 => ?_) (fun c21 => ?_)
          · have hf := ifp hf c21
            refine lv_iconst (v := (2 : Int32)) hx hb dX5_advance_162 (by decide) ?_
            exact P_f_X5_advance_163_s2 (sF w 5 5 0 z1) (2 : Int32) hf _ _ ls hP hS (lv_sub hl [1] rfl)
          · have hf := ifn hf c21
            refine lv_iconst (v := (4 : Int32)) hx hb dX5_advance_158 (by decide) ?_
            refine lv_goto (tgt := 163) hx hb dX5_advance_159 (by decide) ?_
            exact P_f_X5_advance_163_s2 (sF w 5 5 0 z1) (4 : Int32) hf _ _ ls hP hS (lv_sub hl [1] rfl)
        · have hf := ifn hf c27
          refine lv_aload_n hx hb dX5_advance_131 rfl (lv_at hl 0 rfl) ?_
          refine gt_5_0 (i := 0) C hP (hok.2.1 5 0 (Nat.le_of_ble_eq_true rfl)) lk_X5_15 dX5_advance_132 ?_
          refine lv_aload_n hx hb dX5_advance_135 rfl (lv_at hl 0 rfl) ?_
          refine gt_5_5 (i := 0) C hP (hok.2.1 5 0 (Nat.le_of_ble_eq_true rfl)) lk_X5_132 dX5_advance_136 ?_
          refine lv_iconst (v := (1 : Int32)) hx hb dX5_advance_139 (by decide) ?_
          refine lv_iadd hx hb dX5_advance_140 ?_
          obtain ⟨z22, q23, hf⟩ := bsp hf
          refine kc_V (ci := 6) (i := 0) (As := [.int ((gF (sF w 5 5 0 z1) 5 5 0) + (1 : Int32))]) (rest := []) hok.2.2.1 C hP hS hl.1 (hok.2.1 6 0 (Nat.le_of_ble_eq_true rfl)) rfl rfl cw_X6_isDigit ml_X5_148 (c_X6_isDigit l D ca ad PL Z A (okR_X hok) N (sF w 5 5 0 z1) ((gF (sF w 5 5 0 z1) 5 5 0) + (1 : Int32)) z22 q23) rfl ⟨rfl, rfl⟩ ⟨Nat.le_of_ble_eq_true rfl, Nat.le_of_ble_eq_true rfl⟩ ⟨Nat.zero_le _, Nat.zero_le _⟩ (Nat.le_of_ble_eq_true rfl) rfl dX5_advance_141 (fun H locs hP hS => ?_)
          refine lv_if_eq (tgt := 151) hx hb dX5_advance_144 (by decide) (fun c26 => ?_) (fun c26 => ?_)
          · have hf := ifp hf c26
            refine lv_iconst (v := (0 : Int32)) hx hb dX5_advance_151 (by decide) ?_
            refine lv_istore_n (lv' := [(1, .int (0 : Int32)), (0, .ref (ad 5 0))]) hx hb dX5_advance_152 rfl hl (by decide) rfl (fun ls hl => ?_)
            refine lv_aload_n hx hb dX5_advance_153 rfl (lv_at hl 1 rfl) ?_
            refine lv_iload_n hx hb dX5_advance_154 rfl (lv_at hl 0 rfl) ?_
            refine lv_if_eq (tgt := 162) hx hb dX5_advance_155 (by decide) (fun c24 => ?_) (fun c24 => ?_)
            · have hf := ifp hf c24
              refine lv_iconst (v := (2 : Int32)) hx hb dX5_advance_162 (by decide) ?_
              exact P_f_X5_advance_163_s2 (sF w 5 5 0 z1) (2 : Int32) hf _ _ ls hP hS (lv_sub hl [1] rfl)
            · have hf := ifn hf c24
              refine lv_iconst (v := (4 : Int32)) hx hb dX5_advance_158 (by decide) ?_
              refine lv_goto (tgt := 163) hx hb dX5_advance_159 (by decide) ?_
              exact P_f_X5_advance_163_s2 (sF w 5 5 0 z1) (4 : Int32) hf _ _ ls hP hS (lv_sub hl [1] rfl)
          · have hf := ifn hf c26
            refine lv_iconst (v := (1 : Int32)) hx hb dX5_advance_147 (by decide) ?_
            refine lv_goto (tgt := 152) hx hb dX5_advance_148 (by decide) ?_
            refine lv_istore_n (lv' := [(1, .int (1 : Int32)), (0, .ref (ad 5 0))]) hx hb dX5_advance_152 rfl hl (by decide) rfl (fun ls hl => ?_)
            refine lv_aload_n hx hb dX5_advance_153 rfl (lv_at hl 1 rfl) ?_
            refine lv_iload_n hx hb dX5_advance_154 rfl (lv_at hl 0 rfl) ?_
            refine lv_if_eq (tgt := 162) hx hb dX5_advance_155 (by decide) (fun c25 => ?_) (fun c25 => ?_)
            · have hf := ifp hf c25
              refine lv_iconst (v := (2 : Int32)) hx hb dX5_advance_162 (by decide) ?_
              exact P_f_X5_advance_163_s2 (sF w 5 5 0 z1) (2 : Int32) hf _ _ ls hP hS (lv_sub hl [1] rfl)
            · have hf := ifn hf c25
              refine lv_iconst (v := (4 : Int32)) hx hb dX5_advance_158 (by decide) ?_
              refine lv_goto (tgt := 163) hx hb dX5_advance_159 (by decide) ?_
              exact P_f_X5_advance_163_s2 (sF w 5 5 0 z1) (4 : Int32) hf _ _ ls hP hS (lv_sub hl [1] rfl)
    · have hf := ifn hf c38
      refine lv_aload_n hx hb dX5_advance_57 rfl (lv_at hl 0 rfl) ?_
      refine gt_5_0 (i := 0) C hP (hok.2.1 5 0 (Nat.le_of_ble_eq_true rfl)) lk_X5_15 dX5_advance_58 ?_
      refine lv_aload_n hx hb dX5_advance_61 rfl (lv_at hl 0 rfl) ?_
      refine gt_5_5 (i := 0) C hP (hok.2.1 5 0 (Nat.le_of_ble_eq_true rfl)) lk_X5_132 dX5_advance_62 ?_
      refine lv_aload_n hx hb dX5_advance_65 rfl (lv_at hl 0 rfl) ?_
      refine gt_5_1 (i := 0) C hP (hok.2.1 5 0 (Nat.le_of_ble_eq_true rfl)) lk_X5_19 dX5_advance_66 ?_
      obtain ⟨z29, q30, hf⟩ := bsp hf
      refine kc_V (ci := 6) (i := 0) (As := [.int (gF (sF w 5 5 0 z1) 5 5 0), .int (gF (sF w 5 5 0 z1) 5 1 0)]) (rest := []) hok.2.2.1 C hP hS hl.1 (hok.2.1 6 0 (Nat.le_of_ble_eq_true rfl)) rfl rfl cw_X6_behindLetters ml_X5_142 (c_X6_behindLetters l D ca ad PL Z A (okR_X hok) N (sF w 5 5 0 z1) (gF (sF w 5 5 0 z1) 5 5 0) (gF (sF w 5 5 0 z1) 5 1 0) z29 q30) rfl ⟨rfl, rfl⟩ ⟨Nat.le_of_ble_eq_true rfl, Nat.le_of_ble_eq_true rfl⟩ ⟨Nat.zero_le _, Nat.zero_le _⟩ (Nat.le_of_ble_eq_true rfl) rfl dX5_advance_69 (fun H locs hP hS => ?_)
      refine lv_istore_n (lv' := [(1, .int z29), (0, .ref (ad 5 0))]) hx hb dX5_advance_72 rfl hl (by decide) rfl (fun ls hl => ?_)
      refine lv_aload_n hx hb dX5_advance_73 rfl (lv_at hl 1 rfl) ?_
      refine gt_5_0 (i := 0) C hP (hok.2.1 5 0 (Nat.le_of_ble_eq_true rfl)) lk_X5_15 dX5_advance_74 ?_
      refine lv_aload_n hx hb dX5_advance_77 rfl (lv_at hl 1 rfl) ?_
      refine gt_5_5 (i := 0) C hP (hok.2.1 5 0 (Nat.le_of_ble_eq_true rfl)) lk_X5_132 dX5_advance_78 ?_
      refine lv_iload_n hx hb dX5_advance_81 rfl (lv_at hl 0 rfl) ?_
      obtain ⟨z31, q32, hf⟩ := bsp hf
      refine kc_V (ci := 6) (i := 0) (As := [.int (gF (sF w 5 5 0 z1) 5 5 0), .int z29]) (rest := []) hok.2.2.1 C hP hS hl.1 (hok.2.1 6 0 (Nat.le_of_ble_eq_true rfl)) rfl rfl cw_X6_wordNumber ml_X5_145 (c_X6_wordNumber l D ca ad PL Z A (okR_X hok) N (sF w 5 5 0 z1) (gF (sF w 5 5 0 z1) 5 5 0) z29 z31 q32) rfl ⟨rfl, rfl⟩ ⟨Nat.le_of_ble_eq_true rfl, Nat.le_of_ble_eq_true rfl⟩ ⟨Nat.zero_le _, Nat.zero_le _⟩ (Nat.le_of_ble_eq_true rfl) rfl dX5_advance_82 (fun H locs hP hS => ?_)
      refine lv_istore_n (lv' := [(2, .int z31), (1, .int z29), (0, .ref (ad 5 0))]) hx hb dX5_advance_85 rfl hl (by decide) rfl (fun ls hl => ?_)
      refine lv_aload_n hx hb dX5_advance_86 rfl (lv_at hl 2 rfl) ?_
      refine lv_iload_n hx hb dX5_advance_87 rfl (lv_at hl 0 rfl) ?_
      refine lv_if_ne (tgt := 95) hx hb dX5_advance_88 (by decide) (fun c37 => ?_) (fun c37 => ?_)
      · have hf := ifn hf c37
        refine lv_iconst (v := (1 : Int32)) hx hb dX5_advance_95 (by decide) ?_
        refine lv_iload_n hx hb dX5_advance_96 rfl (lv_at hl 0 rfl) ?_
        refine lv_iload_n hx hb dX5_advance_97 rfl (lv_at hl 1 rfl) ?_
        obtain ⟨z33, q34, hf⟩ := bsp hf
        refine kc_V (ci := 5) (i := 0) (As := [.int (1 : Int32), .int z31, .int z29]) (rest := []) hok.2.2.1 C hP hS hl.1 (hok.2.1 5 0 (Nat.le_of_ble_eq_true rfl)) rfl rfl cw_X5_see ml_X5_135 (c_X5_see l D ca ad PL Z A hok N (sF w 5 5 0 z1) (1 : Int32) z31 z29 z33 q34) rfl ⟨rfl, rfl⟩ ⟨Nat.le_of_ble_eq_true rfl, Nat.le_of_ble_eq_true rfl⟩ ⟨Nat.zero_le _, Nat.zero_le _⟩ (Nat.le_of_ble_eq_true rfl) rfl dX5_advance_98 (fun H locs hP hS => ?_)
        refine lv_goto (tgt := 259) hx hb dX5_advance_101 (by decide) ?_
        exact kr_v hok.2.2.1 C hlocks hr hP hS (Option.some.inj hf) dX5_advance_259
      · have hf := ifp hf c37
        refine lv_iconst (v := (4 : Int32)) hx hb dX5_advance_91 (by decide) ?_
        refine lv_goto (tgt := 96) hx hb dX5_advance_92 (by decide) ?_
        refine lv_iload_n hx hb dX5_advance_96 rfl (lv_at hl 0 rfl) ?_
        refine lv_iload_n hx hb dX5_advance_97 rfl (lv_at hl 1 rfl) ?_
        obtain ⟨z35, q36, hf⟩ := bsp hf
        refine kc_V (ci := 5) (i := 0) (As := [.int (4 : Int32), .int z31, .int z29]) (rest := []) hok.2.2.1 C hP hS hl.1 (hok.2.1 5 0 (Nat.le_of_ble_eq_true rfl)) rfl rfl cw_X5_see ml_X5_135 (c_X5_see l D ca ad PL Z A hok N (sF w 5 5 0 z1) (4 : Int32) z31 z29 z35 q36) rfl ⟨rfl, rfl⟩ ⟨Nat.le_of_ble_eq_true rfl, Nat.le_of_ble_eq_true rfl⟩ ⟨Nat.zero_le _, Nat.zero_le _⟩ (Nat.le_of_ble_eq_true rfl) rfl dX5_advance_98 (fun H locs hP hS => ?_)
        refine lv_goto (tgt := 259) hx hb dX5_advance_101 (by decide) ?_
        exact kr_v hok.2.2.1 C hlocks hr hP hS (Option.some.inj hf) dX5_advance_259
  · have hf := ifn hf c41
    refine lv_aload_n hx hb dX5_advance_30 rfl (lv_at hl 0 rfl) ?_
    refine lv_iconst (v := (0 : Int32)) hx hb dX5_advance_31 (by decide) ?_
    refine lv_iconst (v := (0 : Int32)) hx hb dX5_advance_32 (by decide) ?_
    refine lv_aload_n hx hb dX5_advance_33 rfl (lv_at hl 0 rfl) ?_
    refine gt_5_5 (i := 0) C hP (hok.2.1 5 0 (Nat.le_of_ble_eq_true rfl)) lk_X5_132 dX5_advance_34 ?_
    obtain ⟨z39, q40, hf⟩ := bsp hf
    refine kc_V (ci := 5) (i := 0) (As := [.int (0 : Int32), .int (0 : Int32), .int (gF (sF w 5 5 0 z1) 5 5 0)]) (rest := []) hok.2.2.1 C hP hS hl.1 (hok.2.1 5 0 (Nat.le_of_ble_eq_true rfl)) rfl rfl cw_X5_see ml_X5_135 (c_X5_see l D ca ad PL Z A hok N (sF w 5 5 0 z1) (0 : Int32) (0 : Int32) (gF (sF w 5 5 0 z1) 5 5 0) z39 q40) rfl ⟨rfl, rfl⟩ ⟨Nat.le_of_ble_eq_true rfl, Nat.le_of_ble_eq_true rfl⟩ ⟨Nat.zero_le _, Nat.zero_le _⟩ (Nat.le_of_ble_eq_true rfl) rfl dX5_advance_37 (fun H locs hP hS => ?_)
    refine lv_goto (tgt := 259) hx hb dX5_advance_40 (by decide) ?_
    exact kr_v hok.2.2.1 C hlocks hr hP hS (Option.some.inj hf) dX5_advance_259
def f_X5_fail (N : Nat) (w : Mem) (x1 : Int32) : Option (Mem × Int32) :=
  some ((sF w 5 4 0 x1), (0 : Int32))
set_option maxRecDepth 100000 in
set_option maxHeartbeats 4000000 in
theorem c_X5_fail (l : Launch) (D : va_G) (ca : Nat → ClassId) (ad : Nat → Nat → Nat) (PL : List (Nat × Nat)) (Z : State → Prop) (A : Nat → Prop) (hok : okc bR Z A ad PL) (N : Nat) (w : Mem) (x1 : Int32) (w' : Mem) (r : Int32) (hf : f_X5_fail N w x1 = some (w', r)) : CT l yX5_fail (wsy yX5_fail cX5_fail 2 (some .boolean)) (rmk 0) D ca ad PL Z A [.ref (ad 5 0), .int x1] w w' (some (.int r)) := by
  refine Met.ofW (cc := cX5_fail) (maxL := 2) (ret := (some .boolean)) (by decide +kernel) rfl ?_
  intro p e s m args below meth c s₁ B hml hv
  obtain ⟨rfl, hP, hK, hZ⟩ := hv
  have hx := B.exec
  have hb := B.bytes
  have hr := B.returns
  have hlocks := B.notSynchronized
  have hts : ∀ w ∈ ALL, w.before _ s = true := fun w hw => atoms_spec (ws := wsy yX5_fail cX5_fail 2 (some .boolean)) B.pre w (List.mem_cons_of_mem _ hw)
  have hown : s.vm.findClass RX5 = some m.cls := findClass_of_methodNamed B.named
  have C : CX p s m _ c cX5_fail RX5 2 D ca Z := ⟨hx, hb, hml, hown, hts, hK, hZ⟩
  have hS : va_S A s.heap s.heap [] := va_S.rf
  have hl := lv_entry ([.ref (ad 5 0), .int x1]) (n := 2) (Nat.le_of_ble_eq_true rfl)
  rw [lg_entry_eq]
  generalize (lg_sl ([.ref (ad 5 0), .int x1]) ++ List.replicate (2 - (lg_sl ([.ref (ad 5 0), .int x1])).length) Slot.unset).toArray = ls at hl ⊢
  have hl : lv_has ls 2 [(0, .ref (ad 5 0)), (1, .int x1)] := hl
  show W p l e (rmk 0) s m _ below meth c s.heap [] 0 0 _ _
  unfold f_X5_fail at hf
  -- walk
  refine lv_aload_n hx hb dX5_fail_0 rfl (lv_at hl 0 rfl) ?_
  refine lv_iload_n hx hb dX5_fail_1 rfl (lv_at hl 1 rfl) ?_
  refine pt_5_4 (i := 0) (v := x1) C hok.1 hP hS (hok.2.1 5 0 (Nat.le_of_ble_eq_true rfl)) lk_X5_120 dX5_fail_2 (fun H locs hP hS => ?_)
  refine lv_iconst (v := (0 : Int32)) hx hb dX5_fail_5 (by decide) ?_
  exact kr_i hok.2.2.1 C hlocks hr rfl hP hS (congrArg Prod.fst (Option.some.inj hf)) (congrArg Prod.snd (Option.some.inj hf)) dX5_fail_6
def f_X5_isName (N : Nat) (w : Mem)  : Option (Int32) :=
  (if (gF w 5 6 0) = (1 : Int32) then
(if (gF w 5 7 0) = (4955 : Int32) then
some (0 : Int32)
else
(if (gF w 5 7 0) = (397804 : Int32) then
some (0 : Int32)
else
(if (gF w 5 7 0) = (375062 : Int32) then
some (0 : Int32)
else
(if (gF w 5 7 0) = (85461 : Int32) then
some (0 : Int32)
else
some (1 : Int32)))))
else
some (0 : Int32))
set_option maxRecDepth 100000 in
set_option maxHeartbeats 4000000 in
theorem c_X5_isName (l : Launch) (D : va_G) (ca : Nat → ClassId) (ad : Nat → Nat → Nat) (PL : List (Nat × Nat)) (Z : State → Prop) (A : Nat → Prop) (hok : okc bR Z A ad PL) (N : Nat) (w : Mem)  (r : Int32) (hf : f_X5_isName N w  = some r) : CT l yX5_isName (wsy yX5_isName cX5_isName 1 (some .boolean)) (rmk 0) D ca ad PL Z A [.ref (ad 5 0)] w w (some (.int r)) := by
  refine Met.ofW (cc := cX5_isName) (maxL := 1) (ret := (some .boolean)) (by decide +kernel) rfl ?_
  intro p e s m args below meth c s₁ B hml hv
  obtain ⟨rfl, hP, hK, hZ⟩ := hv
  have hx := B.exec
  have hb := B.bytes
  have hr := B.returns
  have hlocks := B.notSynchronized
  have hts : ∀ w ∈ ALL, w.before _ s = true := fun w hw => atoms_spec (ws := wsy yX5_isName cX5_isName 1 (some .boolean)) B.pre w (List.mem_cons_of_mem _ hw)
  have hown : s.vm.findClass RX5 = some m.cls := findClass_of_methodNamed B.named
  have C : CX p s m _ c cX5_isName RX5 1 D ca Z := ⟨hx, hb, hml, hown, hts, hK, hZ⟩
  have hS : va_S A s.heap s.heap [] := va_S.rf
  have hl := lv_entry ([.ref (ad 5 0)]) (n := 1) (Nat.le_of_ble_eq_true rfl)
  rw [lg_entry_eq]
  generalize (lg_sl ([.ref (ad 5 0)]) ++ List.replicate (1 - (lg_sl ([.ref (ad 5 0)])).length) Slot.unset).toArray = ls at hl ⊢
  have hl : lv_has ls 1 [(0, .ref (ad 5 0))] := hl
  show W p l e (rmk 0) s m _ below meth c s.heap [] 0 0 _ _
  unfold f_X5_isName at hf
  -- walk
  refine lv_aload_n hx hb dX5_isName_0 rfl (lv_at hl 0 rfl) ?_
  refine gt_5_6 (i := 0) C hP (hok.2.1 5 0 (Nat.le_of_ble_eq_true rfl)) lk_X5_39 dX5_isName_1 ?_
  refine lv_iconst (v := (1 : Int32)) hx hb dX5_isName_4 (by decide) ?_
  refine lv_icmp_ne (tgt := 49) hx hb dX5_isName_5 (by decide) (fun c5 => ?_) (fun c5 => ?_)
  · have hf := ifn hf c5
    refine lv_iconst (v := (0 : Int32)) hx hb dX5_isName_49 (by decide) ?_
    exact kr_i hok.2.2.1 C hlocks hr rfl hP hS rfl (Option.some.inj hf) dX5_isName_50
  · have hf := ifp hf c5
    refine lv_aload_n hx hb dX5_isName_8 rfl (lv_at hl 0 rfl) ?_
    refine gt_5_7 (i := 0) C hP (hok.2.1 5 0 (Nat.le_of_ble_eq_true rfl)) lk_X5_50 dX5_isName_9 ?_
    refine lv_sipush (v := (4955 : Int32)) hx hb dX5_isName_12 (by decide) ?_
    refine lv_icmp_eq (tgt := 49) hx hb dX5_isName_15 (by decide) (fun c4 => ?_) (fun c4 => ?_)
    · have hf := ifp hf c4
      refine lv_iconst (v := (0 : Int32)) hx hb dX5_isName_49 (by decide) ?_
      exact kr_i hok.2.2.1 C hlocks hr rfl hP hS rfl (Option.some.inj hf) dX5_isName_50
    · have hf := ifn hf c4
      refine lv_aload_n hx hb dX5_isName_18 rfl (lv_at hl 0 rfl) ?_
      refine gt_5_7 (i := 0) C hP (hok.2.1 5 0 (Nat.le_of_ble_eq_true rfl)) lk_X5_50 dX5_isName_19 ?_
      refine lv_ldc (v := (397804 : Int32)) hx hb hown (hts _ kc_X5_117) dX5_isName_22 ?_
      refine lv_icmp_eq (tgt := 49) hx hb dX5_isName_24 (by decide) (fun c3 => ?_) (fun c3 => ?_)
      · have hf := ifp hf c3
        refine lv_iconst (v := (0 : Int32)) hx hb dX5_isName_49 (by decide) ?_
        exact kr_i hok.2.2.1 C hlocks hr rfl hP hS rfl (Option.some.inj hf) dX5_isName_50
      · have hf := ifn hf c3
        refine lv_aload_n hx hb dX5_isName_27 rfl (lv_at hl 0 rfl) ?_
        refine gt_5_7 (i := 0) C hP (hok.2.1 5 0 (Nat.le_of_ble_eq_true rfl)) lk_X5_50 dX5_isName_28 ?_
        refine lv_ldc (v := (375062 : Int32)) hx hb hown (hts _ kc_X5_118) dX5_isName_31 ?_
        refine lv_icmp_eq (tgt := 49) hx hb dX5_isName_33 (by decide) (fun c2 => ?_) (fun c2 => ?_)
        · have hf := ifp hf c2
          refine lv_iconst (v := (0 : Int32)) hx hb dX5_isName_49 (by decide) ?_
          exact kr_i hok.2.2.1 C hlocks hr rfl hP hS rfl (Option.some.inj hf) dX5_isName_50
        · have hf := ifn hf c2
          refine lv_aload_n hx hb dX5_isName_36 rfl (lv_at hl 0 rfl) ?_
          refine gt_5_7 (i := 0) C hP (hok.2.1 5 0 (Nat.le_of_ble_eq_true rfl)) lk_X5_50 dX5_isName_37 ?_
          refine lv_ldc (v := (85461 : Int32)) hx hb hown (hts _ kc_X5_119) dX5_isName_40 ?_
          refine lv_icmp_eq (tgt := 49) hx hb dX5_isName_42 (by decide) (fun c1 => ?_) (fun c1 => ?_)
          · have hf := ifp hf c1
            refine lv_iconst (v := (0 : Int32)) hx hb dX5_isName_49 (by decide) ?_
            exact kr_i hok.2.2.1 C hlocks hr rfl hP hS rfl (Option.some.inj hf) dX5_isName_50
          · have hf := ifn hf c1
            refine lv_iconst (v := (1 : Int32)) hx hb dX5_isName_45 (by decide) ?_
            refine lv_goto (tgt := 50) hx hb dX5_isName_46 (by decide) ?_
            exact kr_i hok.2.2.1 C hlocks hr rfl hP hS rfl (Option.some.inj hf) dX5_isName_50
def f_X5_isNewName_52_s1 (N : Nat) (w : Mem)  (s0 : Int32) : Option (Mem × Int32) :=
  (if s0 = (0 : Int32) then
some (w, (1 : Int32))
else
(Option.bind (f_X5_fail N w (3 : Int32)) (fun z6 => (if z6.2 = (0 : Int32) then
some (z6.1, (0 : Int32))
else
some (z6.1, (1 : Int32))))))
def f_X5_isNewName (N : Nat) (w : Mem)  : Option (Mem × Int32) :=
  (Option.bind (f_X5_isName N w ) (fun z1 => (if z1 = (0 : Int32) then
(Option.bind (f_X5_fail N w (1 : Int32)) (fun z14 => (if z14.2 = 0 ∨ z14.2 = 1 then some (z14.1, z14.2) else none)))
else
(if (gR w 5 2 0) < 2 then (Option.bind (f_X7_functionNamed N w (gR w 5 2 0) (gF w 5 7 0)) (fun z4 => (if (0 : Int32) ≤ z4 then
(f_X5_isNewName_52_s1 N w   (1 : Int32))
else
(Option.bind (f_X7_termNamed N w (gR w 5 2 0) (gF w 5 7 0)) (fun z10 => (if z10 < (0 : Int32) then
(f_X5_isNewName_52_s1 N w   (0 : Int32))
else
(f_X5_isNewName_52_s1 N w   (1 : Int32)))))))) else none))))
set_option maxRecDepth 100000 in
set_option maxHeartbeats 4000000 in
theorem c_X5_isNewName (l : Launch) (D : va_G) (ca : Nat → ClassId) (ad : Nat → Nat → Nat) (PL : List (Nat × Nat)) (Z : State → Prop) (A : Nat → Prop) (hok : okc bR Z A ad PL) (N : Nat) (w : Mem)  (w' : Mem) (r : Int32) (hf : f_X5_isNewName N w  = some (w', r)) : CT l yX5_isNewName (wsy yX5_isNewName cX5_isNewName 2 (some .boolean)) (rmk 1) D ca ad PL Z A [.ref (ad 5 0)] w w' (some (.int r)) := by
  refine Met.ofW (cc := cX5_isNewName) (maxL := 2) (ret := (some .boolean)) (by decide +kernel) rfl ?_
  intro p e s m args below meth c s₁ B hml hv
  obtain ⟨rfl, hP, hK, hZ⟩ := hv
  have hx := B.exec
  have hb := B.bytes
  have hr := B.returns
  have hlocks := B.notSynchronized
  have hts : ∀ w ∈ ALL, w.before _ s = true := fun w hw => atoms_spec (ws := wsy yX5_isNewName cX5_isNewName 2 (some .boolean)) B.pre w (List.mem_cons_of_mem _ hw)
  have hown : s.vm.findClass RX5 = some m.cls := findClass_of_methodNamed B.named
  have C : CX p s m _ c cX5_isNewName RX5 2 D ca Z := ⟨hx, hb, hml, hown, hts, hK, hZ⟩
  have hS : va_S A s.heap s.heap [] := va_S.rf
  have hl := lv_entry ([.ref (ad 5 0)]) (n := 2) (Nat.le_of_ble_eq_true rfl)
  rw [lg_entry_eq]
  generalize (lg_sl ([.ref (ad 5 0)]) ++ List.replicate (2 - (lg_sl ([.ref (ad 5 0)])).length) Slot.unset).toArray = ls at hl ⊢
  have hl : lv_has ls 2 [(0, .ref (ad 5 0))] := hl
  show W p l e (rmk 1) s m _ below meth c s.heap [] 0 0 _ _
  have P_f_X5_isNewName_52_s1 : ∀ (w : Mem) (s0 : Int32), f_X5_isNewName_52_s1 N w   s0 = some (w', r) → WP p l e (rmk 1) s m [.ref (ad 5 0)].toArray below meth c D ca ad PL A (MQ below (qcR D ca ad PL Z A w' (some (.int r))) [.ref (ad 5 0)].toArray s 0 0 A) 2 52 [.int s0] [(0, .ref (ad 5 0))] w := by
    intro w s0 hf _ _ ls hP hS hl
    unfold f_X5_isNewName_52_s1 at hf
    refine lv_istore_n (lv' := [(1, .int s0), (0, .ref (ad 5 0))]) hx hb dX5_isNewName_52 rfl hl (by decide) rfl (fun ls hl => ?_)
    refine lv_iload_n hx hb dX5_isNewName_53 rfl (lv_at hl 0 rfl) ?_
    refine lv_if_eq (tgt := 65) hx hb dX5_isNewName_54 (by decide) (fun c9 => ?_) (fun c9 => ?_)
    · have hf := ifp hf c9
      refine lv_iconst (v := (1 : Int32)) hx hb dX5_isNewName_65 (by decide) ?_
      refine lv_goto (tgt := 70) hx hb dX5_isNewName_66 (by decide) ?_
      exact kr_i hok.2.2.1 C hlocks hr rfl hP hS (congrArg Prod.fst (Option.some.inj hf)) (congrArg Prod.snd (Option.some.inj hf)) dX5_isNewName_70
    · have hf := ifn hf c9
      refine lv_aload_n hx hb dX5_isNewName_57 rfl (lv_at hl 1 rfl) ?_
      refine lv_iconst (v := (3 : Int32)) hx hb dX5_isNewName_58 (by decide) ?_
      obtain ⟨z6, q7, hf⟩ := bsp hf
      refine kc_V (ci := 5) (i := 0) (As := [.int (3 : Int32)]) (rest := []) hok.2.2.1 C hP hS hl.1 (hok.2.1 5 0 (Nat.le_of_ble_eq_true rfl)) rfl rfl cw_X5_fail ml_X5_46 (c_X5_fail l D ca ad PL Z A hok N w (3 : Int32) z6.1 z6.2 q7) rfl ⟨rfl, rfl⟩ ⟨Nat.le_of_ble_eq_true rfl, Nat.le_of_ble_eq_true rfl⟩ ⟨Nat.zero_le _, Nat.zero_le _⟩ (Nat.le_of_ble_eq_true rfl) rfl dX5_isNewName_59 (fun H locs hP hS => ?_)
      refine lv_if_eq (tgt := 69) hx hb dX5_isNewName_62 (by decide) (fun c8 => ?_) (fun c8 => ?_)
      · have hf := ifp hf c8
        refine lv_iconst (v := (0 : Int32)) hx hb dX5_isNewName_69 (by decide) ?_
        exact kr_i hok.2.2.1 C hlocks hr rfl hP hS (congrArg Prod.fst (Option.some.inj hf)) (congrArg Prod.snd (Option.some.inj hf)) dX5_isNewName_70
      · have hf := ifn hf c8
        refine lv_iconst (v := (1 : Int32)) hx hb dX5_isNewName_65 (by decide) ?_
        refine lv_goto (tgt := 70) hx hb dX5_isNewName_66 (by decide) ?_
        exact kr_i hok.2.2.1 C hlocks hr rfl hP hS (congrArg Prod.fst (Option.some.inj hf)) (congrArg Prod.snd (Option.some.inj hf)) dX5_isNewName_70
  unfold f_X5_isNewName at hf
  -- walk
  refine lv_aload_n hx hb dX5_isNewName_0 rfl (lv_at hl 0 rfl) ?_
  obtain ⟨z1, q2, hf⟩ := bsp hf
  refine kc_V (ci := 5) (i := 0) (As := []) (rest := []) hok.2.2.1 C hP hS hl.1 (hok.2.1 5 0 (Nat.le_of_ble_eq_true rfl)) rfl rfl cw_X5_isName ml_X5_88 (c_X5_isName l D ca ad PL Z A hok N w  z1 q2) rfl ⟨rfl, rfl⟩ ⟨Nat.le_of_ble_eq_true rfl, Nat.le_of_ble_eq_true rfl⟩ ⟨Nat.zero_le _, Nat.zero_le _⟩ (Nat.le_of_ble_eq_true rfl) rfl dX5_isNewName_1 (fun H locs hP hS => ?_)
  refine lv_if_ne (tgt := 13) hx hb dX5_isNewName_4 (by decide) (fun c17 => ?_) (fun c17 => ?_)
  · have hf := ifn hf c17
    refine lv_aload_n hx hb dX5_isNewName_13 rfl (lv_at hl 0 rfl) ?_
    obtain ⟨g3, hf⟩ := gsp hf
    refine gt_5_2 (i := 0) C hP (hok.2.1 5 0 (Nat.le_of_ble_eq_true rfl)) lk_X5_23 dX5_isNewName_14 ?_
    refine gt_1_0 (i := (gR w 5 2 0)) C hP (hok.2.1 1 (gR w 5 2 0) g3) lk_X5_69 dX5_isNewName_17 ?_
    refine lv_aload_n hx hb dX5_isNewName_20 rfl (lv_at hl 0 rfl) ?_
    refine gt_5_7 (i := 0) C hP (hok.2.1 5 0 (Nat.le_of_ble_eq_true rfl)) lk_X5_50 dX5_isNewName_21 ?_
    obtain ⟨z4, q5, hf⟩ := bsp hf
    refine kc_V (ci := 7) (i := (gR w 5 2 0)) (As := [.int (gF w 5 7 0)]) (rest := []) hok.2.2.1 C hP hS hl.1 (hok.2.1 7 (gR w 5 2 0) g3) rfl rfl cw_X7_functionNamed ml_X5_91 (c_X7_functionNamed l D ca ad PL Z A (okR_X hok) N w (gR w 5 2 0) g3 (gF w 5 7 0) z4 q5) rfl ⟨rfl, rfl⟩ ⟨Nat.le_of_ble_eq_true rfl, Nat.le_of_ble_eq_true rfl⟩ ⟨Nat.zero_le _, Nat.zero_le _⟩ (Nat.le_of_ble_eq_true rfl) rfl dX5_isNewName_24 (fun H locs hP hS => ?_)
    refine lv_if_ge (tgt := 47) hx hb dX5_isNewName_27 (by decide) (fun c13 => ?_) (fun c13 => ?_)
    · have hf := ifp hf c13
      refine lv_iconst (v := (1 : Int32)) hx hb dX5_isNewName_47 (by decide) ?_
      refine lv_goto (tgt := 52) hx hb dX5_isNewName_48 (by decide) ?_
      exact P_f_X5_isNewName_52_s1 w (1 : Int32) hf _ _ ls hP hS (lv_sub hl [0] rfl)
    · have hf := ifn hf c13
      refine lv_aload_n hx hb dX5_isNewName_30 rfl (lv_at hl 0 rfl) ?_
      refine gt_5_2 (i := 0) C hP (hok.2.1 5 0 (Nat.le_of_ble_eq_true rfl)) lk_X5_23 dX5_isNewName_31 ?_
      refine gt_1_0 (i := (gR w 5 2 0)) C hP (hok.2.1 1 (gR w 5 2 0) g3) lk_X5_69 dX5_isNewName_34 ?_
      refine lv_aload_n hx hb dX5_isNewName_37 rfl (lv_at hl 0 rfl) ?_
      refine gt_5_7 (i := 0) C hP (hok.2.1 5 0 (Nat.le_of_ble_eq_true rfl)) lk_X5_50 dX5_isNewName_38 ?_
      obtain ⟨z10, q11, hf⟩ := bsp hf
      refine kc_V (ci := 7) (i := (gR w 5 2 0)) (As := [.int (gF w 5 7 0)]) (rest := []) hok.2.2.1 C hP hS hl.1 (hok.2.1 7 (gR w 5 2 0) g3) rfl rfl cw_X7_termNamed ml_X5_108 (c_X7_termNamed l D ca ad PL Z A (okR_X hok) N w (gR w 5 2 0) g3 (gF w 5 7 0) z10 q11) rfl ⟨rfl, rfl⟩ ⟨Nat.le_of_ble_eq_true rfl, Nat.le_of_ble_eq_true rfl⟩ ⟨Nat.zero_le _, Nat.zero_le _⟩ (Nat.le_of_ble_eq_true rfl) rfl dX5_isNewName_41 (fun H locs hP hS => ?_)
      refine lv_if_lt (tgt := 51) hx hb dX5_isNewName_44 (by decide) (fun c12 => ?_) (fun c12 => ?_)
      · have hf := ifp hf c12
        refine lv_iconst (v := (0 : Int32)) hx hb dX5_isNewName_51 (by decide) ?_
        exact P_f_X5_isNewName_52_s1 w (0 : Int32) hf _ _ ls hP hS (lv_sub hl [0] rfl)
      · have hf := ifn hf c12
        refine lv_iconst (v := (1 : Int32)) hx hb dX5_isNewName_47 (by decide) ?_
        refine lv_goto (tgt := 52) hx hb dX5_isNewName_48 (by decide) ?_
        exact P_f_X5_isNewName_52_s1 w (1 : Int32) hf _ _ ls hP hS (lv_sub hl [0] rfl)
  · have hf := ifp hf c17
    refine lv_aload_n hx hb dX5_isNewName_7 rfl (lv_at hl 0 rfl) ?_
    refine lv_iconst (v := (1 : Int32)) hx hb dX5_isNewName_8 (by decide) ?_
    obtain ⟨z14, q15, hf⟩ := bsp hf
    refine kc_V (ci := 5) (i := 0) (As := [.int (1 : Int32)]) (rest := []) hok.2.2.1 C hP hS hl.1 (hok.2.1 5 0 (Nat.le_of_ble_eq_true rfl)) rfl rfl cw_X5_fail ml_X5_46 (c_X5_fail l D ca ad PL Z A hok N w (1 : Int32) z14.1 z14.2 q15) rfl ⟨rfl, rfl⟩ ⟨Nat.le_of_ble_eq_true rfl, Nat.le_of_ble_eq_true rfl⟩ ⟨Nat.zero_le _, Nat.zero_le _⟩ (Nat.le_of_ble_eq_true rfl) rfl dX5_isNewName_9 (fun H locs hP hS => ?_)
    obtain ⟨b16, hf⟩ := gsp hf
    exact kr_i hok.2.2.1 C hlocks hr (nar_z b16) hP hS (congrArg Prod.fst (Option.some.inj hf)) (congrArg Prod.snd (Option.some.inj hf)) dX5_isNewName_12
def f_X5_readFunction (N : Nat) (w : Mem)  : Option (Mem × Int32) :=
  (if (gR w 5 2 0) < 2 then (if (gF w 7 9 (gR w 5 2 0)) < (8 : Int32) then
(Option.bind (f_X5_advance N w ) (fun z2 => (Option.bind (f_X5_isNewName N z2 ) (fun z4 => (if z4.2 = (0 : Int32) then
some (z4.1, (0 : Int32))
else
(Option.bind (f_X5_advance N z4.1 ) (fun z6 => (if (gF z6 5 6 0) = (2 : Int32) then
(if (gF z6 5 7 0) ≤ (3 : Int32) then
(if (gR z6 5 2 0) < 2 then (Option.bind (f_X7_addFunction N z6 (gR z6 5 2 0) (gF z4.1 5 7 0) (gF z6 5 7 0)) (fun z9 => (Option.bind (f_X5_advance N z9 ) (fun z11 => some (z11, (1 : Int32)))))) else none)
else
(Option.bind (f_X5_fail N z6 (2 : Int32)) (fun z13 => (if z13.2 = 0 ∨ z13.2 = 1 then some (z13.1, z13.2) else none))))
else
(Option.bind (f_X5_fail N z6 (1 : Int32)) (fun z17 => (if z17.2 = 0 ∨ z17.2 = 1 then some (z17.1, z17.2) else none)))))))))))
else
(Option.bind (f_X5_fail N w (4 : Int32)) (fun z22 => (if z22.2 = 0 ∨ z22.2 = 1 then some (z22.1, z22.2) else none)))) else none)
set_option maxRecDepth 100000 in
set_option maxHeartbeats 4000000 in
theorem c_X5_readFunction (l : Launch) (D : va_G) (ca : Nat → ClassId) (ad : Nat → Nat → Nat) (PL : List (Nat × Nat)) (Z : State → Prop) (A : Nat → Prop) (hok : okc bR Z A ad PL) (N : Nat) (w : Mem)  (w' : Mem) (r : Int32) (hf : f_X5_readFunction N w  = some (w', r)) : CT l yX5_readFunction (wsy yX5_readFunction cX5_readFunction 2 (some .boolean)) (rmk 3) D ca ad PL Z A [.ref (ad 5 0)] w w' (some (.int r)) := by
  refine Met.ofW (cc := cX5_readFunction) (maxL := 2) (ret := (some .boolean)) (by decide +kernel) rfl ?_
  intro p e s m args below meth c s₁ B hml hv
  obtain ⟨rfl, hP, hK, hZ⟩ := hv
  have hx := B.exec
  have hb := B.bytes
  have hr := B.returns
  have hlocks := B.notSynchronized
  have hts : ∀ w ∈ ALL, w.before _ s = true := fun w hw => atoms_spec (ws := wsy yX5_readFunction cX5_readFunction 2 (some .boolean)) B.pre w (List.mem_cons_of_mem _ hw)
  have hown : s.vm.findClass RX5 = some m.cls := findClass_of_methodNamed B.named
  have C : CX p s m _ c cX5_readFunction RX5 2 D ca Z := ⟨hx, hb, hml, hown, hts, hK, hZ⟩
  have hS : va_S A s.heap s.heap [] := va_S.rf
  have hl := lv_entry ([.ref (ad 5 0)]) (n := 2) (Nat.le_of_ble_eq_true rfl)
  rw [lg_entry_eq]
  generalize (lg_sl ([.ref (ad 5 0)]) ++ List.replicate (2 - (lg_sl ([.ref (ad 5 0)])).length) Slot.unset).toArray = ls at hl ⊢
  have hl : lv_has ls 2 [(0, .ref (ad 5 0))] := hl
  show W p l e (rmk 3) s m _ below meth c s.heap [] 0 0 _ _
  unfold f_X5_readFunction at hf
  -- walk
  refine lv_aload_n hx hb dX5_readFunction_0 rfl (lv_at hl 0 rfl) ?_
  obtain ⟨g1, hf⟩ := gsp hf
  refine gt_5_2 (i := 0) C hP (hok.2.1 5 0 (Nat.le_of_ble_eq_true rfl)) lk_X5_23 dX5_readFunction_1 ?_
  refine gt_1_0 (i := (gR w 5 2 0)) C hP (hok.2.1 1 (gR w 5 2 0) g1) lk_X5_69 dX5_readFunction_4 ?_
  refine gt_7_9 (i := (gR w 5 2 0)) C hP (hok.2.1 7 (gR w 5 2 0) g1) lk_X5_73 dX5_readFunction_7 ?_
  refine lv_bipush (v := (8 : Int32)) hx hb dX5_readFunction_10 (by decide) ?_
  refine lv_icmp_lt (tgt := 21) hx hb dX5_readFunction_12 (by decide) (fun c25 => ?_) (fun c25 => ?_)
  · have hf := ifp hf c25
    refine lv_aload_n hx hb dX5_readFunction_21 rfl (lv_at hl 0 rfl) ?_
    obtain ⟨z2, q3, hf⟩ := bsp hf
    refine kc_V (ci := 5) (i := 0) (As := []) (rest := []) hok.2.2.1 C hP hS hl.1 (hok.2.1 5 0 (Nat.le_of_ble_eq_true rfl)) rfl rfl cw_X5_advance ml_X5_32 (c_X5_advance l D ca ad PL Z A hok N w  z2 q3) rfl ⟨rfl, rfl⟩ ⟨Nat.le_of_ble_eq_true rfl, Nat.le_of_ble_eq_true rfl⟩ ⟨Nat.zero_le _, Nat.zero_le _⟩ (Nat.le_of_ble_eq_true rfl) rfl dX5_readFunction_22 (fun H locs hP hS => ?_)
    refine lv_aload_n hx hb dX5_readFunction_25 rfl (lv_at hl 0 rfl) ?_
    obtain ⟨z4, q5, hf⟩ := bsp hf
    refine kc_V (ci := 5) (i := 0) (As := []) (rest := []) hok.2.2.1 C hP hS hl.1 (hok.2.1 5 0 (Nat.le_of_ble_eq_true rfl)) rfl rfl cw_X5_isNewName ml_X5_78 (c_X5_isNewName l D ca ad PL Z A hok N z2  z4.1 z4.2 q5) rfl ⟨rfl, rfl⟩ ⟨Nat.le_of_ble_eq_true rfl, Nat.le_of_ble_eq_true rfl⟩ ⟨Nat.zero_le _, Nat.zero_le _⟩ (Nat.le_of_ble_eq_true rfl) rfl dX5_readFunction_26 (fun H locs hP hS => ?_)
    refine lv_if_ne (tgt := 34) hx hb dX5_readFunction_29 (by decide) (fun c21 => ?_) (fun c21 => ?_)
    · have hf := ifn hf c21
      refine lv_aload_n hx hb dX5_readFunction_34 rfl (lv_at hl 0 rfl) ?_
      refine gt_5_7 (i := 0) C hP (hok.2.1 5 0 (Nat.le_of_ble_eq_true rfl)) lk_X5_50 dX5_readFunction_35 ?_
      refine lv_istore_n (lv' := [(1, .int (gF z4.1 5 7 0)), (0, .ref (ad 5 0))]) hx hb dX5_readFunction_38 rfl hl (by decide) rfl (fun ls hl => ?_)
      refine lv_aload_n hx hb dX5_readFunction_39 rfl (lv_at hl 1 rfl) ?_
      obtain ⟨z6, q7, hf⟩ := bsp hf
      refine kc_V (ci := 5) (i := 0) (As := []) (rest := []) hok.2.2.1 C hP hS hl.1 (hok.2.1 5 0 (Nat.le_of_ble_eq_true rfl)) rfl rfl cw_X5_advance ml_X5_32 (c_X5_advance l D ca ad PL Z A hok N z4.1  z6 q7) rfl ⟨rfl, rfl⟩ ⟨Nat.le_of_ble_eq_true rfl, Nat.le_of_ble_eq_true rfl⟩ ⟨Nat.zero_le _, Nat.zero_le _⟩ (Nat.le_of_ble_eq_true rfl) rfl dX5_readFunction_40 (fun H locs hP hS => ?_)
      refine lv_aload_n hx hb dX5_readFunction_43 rfl (lv_at hl 1 rfl) ?_
      refine gt_5_6 (i := 0) C hP (hok.2.1 5 0 (Nat.le_of_ble_eq_true rfl)) lk_X5_39 dX5_readFunction_44 ?_
      refine lv_iconst (v := (2 : Int32)) hx hb dX5_readFunction_47 (by decide) ?_
      refine lv_icmp_eq (tgt := 57) hx hb dX5_readFunction_48 (by decide) (fun c20 => ?_) (fun c20 => ?_)
      · have hf := ifp hf c20
        refine lv_aload_n hx hb dX5_readFunction_57 rfl (lv_at hl 1 rfl) ?_
        refine gt_5_7 (i := 0) C hP (hok.2.1 5 0 (Nat.le_of_ble_eq_true rfl)) lk_X5_50 dX5_readFunction_58 ?_
        refine lv_iconst (v := (3 : Int32)) hx hb dX5_readFunction_61 (by decide) ?_
        refine lv_icmp_le (tgt := 71) hx hb dX5_readFunction_62 (by decide) (fun c16 => ?_) (fun c16 => ?_)
        · have hf := ifp hf c16
          refine lv_aload_n hx hb dX5_readFunction_71 rfl (lv_at hl 1 rfl) ?_
          obtain ⟨g8, hf⟩ := gsp hf
          refine gt_5_2 (i := 0) C hP (hok.2.1 5 0 (Nat.le_of_ble_eq_true rfl)) lk_X5_23 dX5_readFunction_72 ?_
          refine gt_1_0 (i := (gR z6 5 2 0)) C hP (hok.2.1 1 (gR z6 5 2 0) g8) lk_X5_69 dX5_readFunction_75 ?_
          refine lv_iload_n hx hb dX5_readFunction_78 rfl (lv_at hl 0 rfl) ?_
          refine lv_aload_n hx hb dX5_readFunction_79 rfl (lv_at hl 1 rfl) ?_
          refine gt_5_7 (i := 0) C hP (hok.2.1 5 0 (Nat.le_of_ble_eq_true rfl)) lk_X5_50 dX5_readFunction_80 ?_
          obtain ⟨z9, q10, hf⟩ := bsp hf
          refine kc_V (ci := 7) (i := (gR z6 5 2 0)) (As := [.int (gF z4.1 5 7 0), .int (gF z6 5 7 0)]) (rest := []) hok.2.2.1 C hP hS hl.1 (hok.2.1 7 (gR z6 5 2 0) g8) rfl rfl cw_X7_addFunction ml_X5_81 (c_X7_addFunction l D ca ad PL Z A (okR_X hok) N z6 (gR z6 5 2 0) g8 (gF z4.1 5 7 0) (gF z6 5 7 0) z9 q10) rfl ⟨rfl, rfl⟩ ⟨Nat.le_of_ble_eq_true rfl, Nat.le_of_ble_eq_true rfl⟩ ⟨Nat.zero_le _, Nat.zero_le _⟩ (Nat.le_of_ble_eq_true rfl) rfl dX5_readFunction_83 (fun H locs hP hS => ?_)
          refine lv_aload_n hx hb dX5_readFunction_86 rfl (lv_at hl 1 rfl) ?_
          obtain ⟨z11, q12, hf⟩ := bsp hf
          refine kc_V (ci := 5) (i := 0) (As := []) (rest := []) hok.2.2.1 C hP hS hl.1 (hok.2.1 5 0 (Nat.le_of_ble_eq_true rfl)) rfl rfl cw_X5_advance ml_X5_32 (c_X5_advance l D ca ad PL Z A hok N z9  z11 q12) rfl ⟨rfl, rfl⟩ ⟨Nat.le_of_ble_eq_true rfl, Nat.le_of_ble_eq_true rfl⟩ ⟨Nat.zero_le _, Nat.zero_le _⟩ (Nat.le_of_ble_eq_true rfl) rfl dX5_readFunction_87 (fun H locs hP hS => ?_)
          refine lv_iconst (v := (1 : Int32)) hx hb dX5_readFunction_90 (by decide) ?_
          exact kr_i hok.2.2.1 C hlocks hr rfl hP hS (congrArg Prod.fst (Option.some.inj hf)) (congrArg Prod.snd (Option.some.inj hf)) dX5_readFunction_91
        · have hf := ifn hf c16
          refine lv_aload_n hx hb dX5_readFunction_65 rfl (lv_at hl 1 rfl) ?_
          refine lv_iconst (v := (2 : Int32)) hx hb dX5_readFunction_66 (by decide) ?_
          obtain ⟨z13, q14, hf⟩ := bsp hf
          refine kc_V (ci := 5) (i := 0) (As := [.int (2 : Int32)]) (rest := []) hok.2.2.1 C hP hS hl.1 (hok.2.1 5 0 (Nat.le_of_ble_eq_true rfl)) rfl rfl cw_X5_fail ml_X5_46 (c_X5_fail l D ca ad PL Z A hok N z6 (2 : Int32) z13.1 z13.2 q14) rfl ⟨rfl, rfl⟩ ⟨Nat.le_of_ble_eq_true rfl, Nat.le_of_ble_eq_true rfl⟩ ⟨Nat.zero_le _, Nat.zero_le _⟩ (Nat.le_of_ble_eq_true rfl) rfl dX5_readFunction_67 (fun H locs hP hS => ?_)
          obtain ⟨b15, hf⟩ := gsp hf
          exact kr_i hok.2.2.1 C hlocks hr (nar_z b15) hP hS (congrArg Prod.fst (Option.some.inj hf)) (congrArg Prod.snd (Option.some.inj hf)) dX5_readFunction_70
      · have hf := ifn hf c20
        refine lv_aload_n hx hb dX5_readFunction_51 rfl (lv_at hl 1 rfl) ?_
        refine lv_iconst (v := (1 : Int32)) hx hb dX5_readFunction_52 (by decide) ?_
        obtain ⟨z17, q18, hf⟩ := bsp hf
        refine kc_V (ci := 5) (i := 0) (As := [.int (1 : Int32)]) (rest := []) hok.2.2.1 C hP hS hl.1 (hok.2.1 5 0 (Nat.le_of_ble_eq_true rfl)) rfl rfl cw_X5_fail ml_X5_46 (c_X5_fail l D ca ad PL Z A hok N z6 (1 : Int32) z17.1 z17.2 q18) rfl ⟨rfl, rfl⟩ ⟨Nat.le_of_ble_eq_true rfl, Nat.le_of_ble_eq_true rfl⟩ ⟨Nat.zero_le _, Nat.zero_le _⟩ (Nat.le_of_ble_eq_true rfl) rfl dX5_readFunction_53 (fun H locs hP hS => ?_)
        obtain ⟨b19, hf⟩ := gsp hf
        exact kr_i hok.2.2.1 C hlocks hr (nar_z b19) hP hS (congrArg Prod.fst (Option.some.inj hf)) (congrArg Prod.snd (Option.some.inj hf)) dX5_readFunction_56
    · have hf := ifp hf c21
      refine lv_iconst (v := (0 : Int32)) hx hb dX5_readFunction_32 (by decide) ?_
      exact kr_i hok.2.2.1 C hlocks hr rfl hP hS (congrArg Prod.fst (Option.some.inj hf)) (congrArg Prod.snd (Option.some.inj hf)) dX5_readFunction_33
  · have hf := ifn hf c25
    refine lv_aload_n hx hb dX5_readFunction_15 rfl (lv_at hl 0 rfl) ?_
    refine lv_iconst (v := (4 : Int32)) hx hb dX5_readFunction_16 (by decide) ?_
    obtain ⟨z22, q23, hf⟩ := bsp hf
    refine kc_V (ci := 5) (i := 0) (As := [.int (4 : Int32)]) (rest := []) hok.2.2.1 C hP hS hl.1 (hok.2.1 5 0 (Nat.le_of_ble_eq_true rfl)) rfl rfl cw_X5_fail ml_X5_46 (c_X5_fail l D ca ad PL Z A hok N w (4 : Int32) z22.1 z22.2 q23) rfl ⟨rfl, rfl⟩ ⟨Nat.le_of_ble_eq_true rfl, Nat.le_of_ble_eq_true rfl⟩ ⟨Nat.zero_le _, Nat.zero_le _⟩ (Nat.le_of_ble_eq_true rfl) rfl dX5_readFunction_17 (fun H locs hP hS => ?_)
    obtain ⟨b24, hf⟩ := gsp hf
    exact kr_i hok.2.2.1 C hlocks hr (nar_z b24) hP hS (congrArg Prod.fst (Option.some.inj hf)) (congrArg Prod.snd (Option.some.inj hf)) dX5_readFunction_20
def f_X5_isSign (N : Nat) (w : Mem) (x1 : Int32) : Option (Int32) :=
  (if (gF w 5 6 0) = (3 : Int32) then
(if (gF w 5 7 0) = x1 then
some (1 : Int32)
else
some (0 : Int32))
else
some (0 : Int32))
set_option maxRecDepth 100000 in
set_option maxHeartbeats 4000000 in
theorem c_X5_isSign (l : Launch) (D : va_G) (ca : Nat → ClassId) (ad : Nat → Nat → Nat) (PL : List (Nat × Nat)) (Z : State → Prop) (A : Nat → Prop) (hok : okc bR Z A ad PL) (N : Nat) (w : Mem) (x1 : Int32) (r : Int32) (hf : f_X5_isSign N w x1 = some r) : CT l yX5_isSign (wsy yX5_isSign cX5_isSign 2 (some .boolean)) (rmk 0) D ca ad PL Z A [.ref (ad 5 0), .int x1] w w (some (.int r)) := by
  refine Met.ofW (cc := cX5_isSign) (maxL := 2) (ret := (some .boolean)) (by decide +kernel) rfl ?_
  intro p e s m args below meth c s₁ B hml hv
  obtain ⟨rfl, hP, hK, hZ⟩ := hv
  have hx := B.exec
  have hb := B.bytes
  have hr := B.returns
  have hlocks := B.notSynchronized
  have hts : ∀ w ∈ ALL, w.before _ s = true := fun w hw => atoms_spec (ws := wsy yX5_isSign cX5_isSign 2 (some .boolean)) B.pre w (List.mem_cons_of_mem _ hw)
  have hown : s.vm.findClass RX5 = some m.cls := findClass_of_methodNamed B.named
  have C : CX p s m _ c cX5_isSign RX5 2 D ca Z := ⟨hx, hb, hml, hown, hts, hK, hZ⟩
  have hS : va_S A s.heap s.heap [] := va_S.rf
  have hl := lv_entry ([.ref (ad 5 0), .int x1]) (n := 2) (Nat.le_of_ble_eq_true rfl)
  rw [lg_entry_eq]
  generalize (lg_sl ([.ref (ad 5 0), .int x1]) ++ List.replicate (2 - (lg_sl ([.ref (ad 5 0), .int x1])).length) Slot.unset).toArray = ls at hl ⊢
  have hl : lv_has ls 2 [(0, .ref (ad 5 0)), (1, .int x1)] := hl
  show W p l e (rmk 0) s m _ below meth c s.heap [] 0 0 _ _
  unfold f_X5_isSign at hf
  -- walk
  refine lv_aload_n hx hb dX5_isSign_0 rfl (lv_at hl 0 rfl) ?_
  refine gt_5_6 (i := 0) C hP (hok.2.1 5 0 (Nat.le_of_ble_eq_true rfl)) lk_X5_39 dX5_isSign_1 ?_
  refine lv_iconst (v := (3 : Int32)) hx hb dX5_isSign_4 (by decide) ?_
  refine lv_icmp_ne (tgt := 20) hx hb dX5_isSign_5 (by decide) (fun c2 => ?_) (fun c2 => ?_)
  · have hf := ifn hf c2
    refine lv_iconst (v := (0 : Int32)) hx hb dX5_isSign_20 (by decide) ?_
    exact kr_i hok.2.2.1 C hlocks hr rfl hP hS rfl (Option.some.inj hf) dX5_isSign_21
  · have hf := ifp hf c2
    refine lv_aload_n hx hb dX5_isSign_8 rfl (lv_at hl 0 rfl) ?_
    refine gt_5_7 (i := 0) C hP (hok.2.1 5 0 (Nat.le_of_ble_eq_true rfl)) lk_X5_50 dX5_isSign_9 ?_
    refine lv_iload_n hx hb dX5_isSign_12 rfl (lv_at hl 1 rfl) ?_
    refine lv_icmp_ne (tgt := 20) hx hb dX5_isSign_13 (by decide) (fun c1 => ?_) (fun c1 => ?_)
    · have hf := ifn hf c1
      refine lv_iconst (v := (0 : Int32)) hx hb dX5_isSign_20 (by decide) ?_
      exact kr_i hok.2.2.1 C hlocks hr rfl hP hS rfl (Option.some.inj hf) dX5_isSign_21
    · have hf := ifp hf c1
      refine lv_iconst (v := (1 : Int32)) hx hb dX5_isSign_16 (by decide) ?_
      refine lv_goto (tgt := 21) hx hb dX5_isSign_17 (by decide) ?_
      exact kr_i hok.2.2.1 C hlocks hr rfl hP hS rfl (Option.some.inj hf) dX5_isSign_21
def f_X5_isToldTerm (N : Nat) (w : Mem)  : Option (Mem × Int32) :=
  (Option.bind (f_X5_isName N w ) (fun z1 => (if z1 = (0 : Int32) then
(Option.bind (f_X5_fail N w (1 : Int32)) (fun z10 => (if z10.2 = 0 ∨ z10.2 = 1 then some (z10.1, z10.2) else none)))
else
(if (gR w 5 2 0) < 2 then (Option.bind (f_X7_termNamed N w (gR w 5 2 0) (gF w 5 7 0)) (fun z4 => (if (0 : Int32) ≤ z4 then
some (w, (1 : Int32))
else
(Option.bind (f_X5_fail N w (3 : Int32)) (fun z6 => (if z6.2 = (0 : Int32) then
some (z6.1, (0 : Int32))
else
some (z6.1, (1 : Int32)))))))) else none))))
set_option maxRecDepth 100000 in
set_option maxHeartbeats 4000000 in
theorem c_X5_isToldTerm (l : Launch) (D : va_G) (ca : Nat → ClassId) (ad : Nat → Nat → Nat) (PL : List (Nat × Nat)) (Z : State → Prop) (A : Nat → Prop) (hok : okc bR Z A ad PL) (N : Nat) (w : Mem)  (w' : Mem) (r : Int32) (hf : f_X5_isToldTerm N w  = some (w', r)) : CT l yX5_isToldTerm (wsy yX5_isToldTerm cX5_isToldTerm 1 (some .boolean)) (rmk 1) D ca ad PL Z A [.ref (ad 5 0)] w w' (some (.int r)) := by
  refine Met.ofW (cc := cX5_isToldTerm) (maxL := 1) (ret := (some .boolean)) (by decide +kernel) rfl ?_
  intro p e s m args below meth c s₁ B hml hv
  obtain ⟨rfl, hP, hK, hZ⟩ := hv
  have hx := B.exec
  have hb := B.bytes
  have hr := B.returns
  have hlocks := B.notSynchronized
  have hts : ∀ w ∈ ALL, w.before _ s = true := fun w hw => atoms_spec (ws := wsy yX5_isToldTerm cX5_isToldTerm 1 (some .boolean)) B.pre w (List.mem_cons_of_mem _ hw)
  have hown : s.vm.findClass RX5 = some m.cls := findClass_of_methodNamed B.named
  have C : CX p s m _ c cX5_isToldTerm RX5 1 D ca Z := ⟨hx, hb, hml, hown, hts, hK, hZ⟩
  have hS : va_S A s.heap s.heap [] := va_S.rf
  have hl := lv_entry ([.ref (ad 5 0)]) (n := 1) (Nat.le_of_ble_eq_true rfl)
  rw [lg_entry_eq]
  generalize (lg_sl ([.ref (ad 5 0)]) ++ List.replicate (1 - (lg_sl ([.ref (ad 5 0)])).length) Slot.unset).toArray = ls at hl ⊢
  have hl : lv_has ls 1 [(0, .ref (ad 5 0))] := hl
  show W p l e (rmk 1) s m _ below meth c s.heap [] 0 0 _ _
  unfold f_X5_isToldTerm at hf
  -- walk
  refine lv_aload_n hx hb dX5_isToldTerm_0 rfl (lv_at hl 0 rfl) ?_
  obtain ⟨z1, q2, hf⟩ := bsp hf
  refine kc_V (ci := 5) (i := 0) (As := []) (rest := []) hok.2.2.1 C hP hS hl.1 (hok.2.1 5 0 (Nat.le_of_ble_eq_true rfl)) rfl rfl cw_X5_isName ml_X5_88 (c_X5_isName l D ca ad PL Z A hok N w  z1 q2) rfl ⟨rfl, rfl⟩ ⟨Nat.le_of_ble_eq_true rfl, Nat.le_of_ble_eq_true rfl⟩ ⟨Nat.zero_le _, Nat.zero_le _⟩ (Nat.le_of_ble_eq_true rfl) rfl dX5_isToldTerm_1 (fun H locs hP hS => ?_)
  refine lv_if_ne (tgt := 13) hx hb dX5_isToldTerm_4 (by decide) (fun c13 => ?_) (fun c13 => ?_)
  · have hf := ifn hf c13
    refine lv_aload_n hx hb dX5_isToldTerm_13 rfl (lv_at hl 0 rfl) ?_
    obtain ⟨g3, hf⟩ := gsp hf
    refine gt_5_2 (i := 0) C hP (hok.2.1 5 0 (Nat.le_of_ble_eq_true rfl)) lk_X5_23 dX5_isToldTerm_14 ?_
    refine gt_1_0 (i := (gR w 5 2 0)) C hP (hok.2.1 1 (gR w 5 2 0) g3) lk_X5_69 dX5_isToldTerm_17 ?_
    refine lv_aload_n hx hb dX5_isToldTerm_20 rfl (lv_at hl 0 rfl) ?_
    refine gt_5_7 (i := 0) C hP (hok.2.1 5 0 (Nat.le_of_ble_eq_true rfl)) lk_X5_50 dX5_isToldTerm_21 ?_
    obtain ⟨z4, q5, hf⟩ := bsp hf
    refine kc_V (ci := 7) (i := (gR w 5 2 0)) (As := [.int (gF w 5 7 0)]) (rest := []) hok.2.2.1 C hP hS hl.1 (hok.2.1 7 (gR w 5 2 0) g3) rfl rfl cw_X7_termNamed ml_X5_108 (c_X7_termNamed l D ca ad PL Z A (okR_X hok) N w (gR w 5 2 0) g3 (gF w 5 7 0) z4 q5) rfl ⟨rfl, rfl⟩ ⟨Nat.le_of_ble_eq_true rfl, Nat.le_of_ble_eq_true rfl⟩ ⟨Nat.zero_le _, Nat.zero_le _⟩ (Nat.le_of_ble_eq_true rfl) rfl dX5_isToldTerm_24 (fun H locs hP hS => ?_)
    refine lv_if_ge (tgt := 38) hx hb dX5_isToldTerm_27 (by decide) (fun c9 => ?_) (fun c9 => ?_)
    · have hf := ifp hf c9
      refine lv_iconst (v := (1 : Int32)) hx hb dX5_isToldTerm_38 (by decide) ?_
      refine lv_goto (tgt := 43) hx hb dX5_isToldTerm_39 (by decide) ?_
      exact kr_i hok.2.2.1 C hlocks hr rfl hP hS (congrArg Prod.fst (Option.some.inj hf)) (congrArg Prod.snd (Option.some.inj hf)) dX5_isToldTerm_43
    · have hf := ifn hf c9
      refine lv_aload_n hx hb dX5_isToldTerm_30 rfl (lv_at hl 0 rfl) ?_
      refine lv_iconst (v := (3 : Int32)) hx hb dX5_isToldTerm_31 (by decide) ?_
      obtain ⟨z6, q7, hf⟩ := bsp hf
      refine kc_V (ci := 5) (i := 0) (As := [.int (3 : Int32)]) (rest := []) hok.2.2.1 C hP hS hl.1 (hok.2.1 5 0 (Nat.le_of_ble_eq_true rfl)) rfl rfl cw_X5_fail ml_X5_46 (c_X5_fail l D ca ad PL Z A hok N w (3 : Int32) z6.1 z6.2 q7) rfl ⟨rfl, rfl⟩ ⟨Nat.le_of_ble_eq_true rfl, Nat.le_of_ble_eq_true rfl⟩ ⟨Nat.zero_le _, Nat.zero_le _⟩ (Nat.le_of_ble_eq_true rfl) rfl dX5_isToldTerm_32 (fun H locs hP hS => ?_)
      refine lv_if_eq (tgt := 42) hx hb dX5_isToldTerm_35 (by decide) (fun c8 => ?_) (fun c8 => ?_)
      · have hf := ifp hf c8
        refine lv_iconst (v := (0 : Int32)) hx hb dX5_isToldTerm_42 (by decide) ?_
        exact kr_i hok.2.2.1 C hlocks hr rfl hP hS (congrArg Prod.fst (Option.some.inj hf)) (congrArg Prod.snd (Option.some.inj hf)) dX5_isToldTerm_43
      · have hf := ifn hf c8
        refine lv_iconst (v := (1 : Int32)) hx hb dX5_isToldTerm_38 (by decide) ?_
        refine lv_goto (tgt := 43) hx hb dX5_isToldTerm_39 (by decide) ?_
        exact kr_i hok.2.2.1 C hlocks hr rfl hP hS (congrArg Prod.fst (Option.some.inj hf)) (congrArg Prod.snd (Option.some.inj hf)) dX5_isToldTerm_43
  · have hf := ifp hf c13
    refine lv_aload_n hx hb dX5_isToldTerm_7 rfl (lv_at hl 0 rfl) ?_
    refine lv_iconst (v := (1 : Int32)) hx hb dX5_isToldTerm_8 (by decide) ?_
    obtain ⟨z10, q11, hf⟩ := bsp hf
    refine kc_V (ci := 5) (i := 0) (As := [.int (1 : Int32)]) (rest := []) hok.2.2.1 C hP hS hl.1 (hok.2.1 5 0 (Nat.le_of_ble_eq_true rfl)) rfl rfl cw_X5_fail ml_X5_46 (c_X5_fail l D ca ad PL Z A hok N w (1 : Int32) z10.1 z10.2 q11) rfl ⟨rfl, rfl⟩ ⟨Nat.le_of_ble_eq_true rfl, Nat.le_of_ble_eq_true rfl⟩ ⟨Nat.zero_le _, Nat.zero_le _⟩ (Nat.le_of_ble_eq_true rfl) rfl dX5_isToldTerm_9 (fun H locs hP hS => ?_)
    obtain ⟨b12, hf⟩ := gsp hf
    exact kr_i hok.2.2.1 C hlocks hr (nar_z b12) hP hS (congrArg Prod.fst (Option.some.inj hf)) (congrArg Prod.snd (Option.some.inj hf)) dX5_isToldTerm_12
def f_X5_readParts_159 (N : Nat) (w : Mem)  : Option (Mem × Int32) :=
  (Option.bind (f_X5_fail N w (5 : Int32)) (fun z4 => (if z4.2 = 0 ∨ z4.2 = 1 then some (z4.1, z4.2) else none)))
def lp_X5_readParts_63 (k : Mem → Option (Mem × Int32)) (N : Nat)  (v1 : Int32) : Nat → Mem → Int32 → Option (Mem × Int32)
  | 0, _, _ => none
  | n + 1, w, v2 => (if v1 ≤ v2 then
(k w)
else
(if (3 : Int32) ≤ v2 then
(k w)
else
(Option.bind (f_X5_advance N w ) (fun z7 => (Option.bind (f_X5_isToldTerm N z7 ) (fun z9 => (if z9.2 = (0 : Int32) then
some (z9.1, (0 : Int32))
else
(if (gR z9.1 5 2 0) < 2 then (Option.bind (f_X7_termNamed N z9.1 (gR z9.1 5 2 0) (gF z9.1 5 7 0)) (fun z12 => (if inb v2 3 = true then (Option.bind (f_X5_advance N (sA z9.1 29 0 v2.toNatClampNeg z12) ) (fun z15 => (Option.bind (f_X5_isSign N z15 (41 : Int32)) (fun z17 => (if z17 = (0 : Int32) then
(Option.bind (f_X5_isSign N z15 (44 : Int32)) (fun z19 => (if z19 = (0 : Int32) then
(Option.bind (f_X5_fail N z15 (1 : Int32)) (fun z21 => (if z21.2 = 0 ∨ z21.2 = 1 then some (z21.1, z21.2) else none)))
else
(lp_X5_readParts_63 k N   v1 n z15 (v2 + (1 : Int32))))))
else
(if v1 ≤ (v2 + (1 : Int32)) then
(Option.bind (f_X5_advance N z15 ) (fun z25 => some (z25, (1 : Int32))))
else
(Option.bind (f_X5_fail N z15 (5 : Int32)) (fun z27 => (if z27.2 = 0 ∨ z27.2 = 1 then some (z27.1, z27.2) else none))))))))) else none))) else none))))))))
def f_X5_readParts_39 (N : Nat) (w : Mem)  (v2 : Int32) : Option (Mem × Int32) :=
  (if v2 = (0 : Int32) then
(Option.bind (f_X5_fail N w (1 : Int32)) (fun z35 => (if z35.2 = (0 : Int32) then
some (z35.1, (0 : Int32))
else
some (z35.1, (1 : Int32)))))
else
(Option.bind (f_X5_fail N w (5 : Int32)) (fun z38 => (if z38.2 = (0 : Int32) then
some (z38.1, (0 : Int32))
else
some (z38.1, (1 : Int32))))))
def f_X5_readParts (N : Nat) (w : Mem) (x1 : Int32) : Option (Mem × Int32) :=
  (Option.bind (f_X5_isSign N w (40 : Int32)) (fun z1 => (if z1 = (0 : Int32) then
(if (gF w 5 6 0) = (0 : Int32) then
(if (1 : Int32) = (0 : Int32) then
(f_X5_readParts_39 N w  (1 : Int32) )
else
(if x1 = (0 : Int32) then
some (w, (1 : Int32))
else
(f_X5_readParts_39 N w  (1 : Int32) )))
else
(Option.bind (f_X5_isSign N w (59 : Int32)) (fun z44 => (if z44 = (0 : Int32) then
(if (0 : Int32) = (0 : Int32) then
(f_X5_readParts_39 N w  (0 : Int32) )
else
(if x1 = (0 : Int32) then
some (w, (1 : Int32))
else
(f_X5_readParts_39 N w  (0 : Int32) )))
else
(if (1 : Int32) = (0 : Int32) then
(f_X5_readParts_39 N w  (1 : Int32) )
else
(if x1 = (0 : Int32) then
some (w, (1 : Int32))
else
(f_X5_readParts_39 N w  (1 : Int32) )))))))
else
(lp_X5_readParts_63 (fun (w_3 : Mem) => (f_X5_readParts_159 N w_3   )) N   x1 N w (0 : Int32)))))
set_option maxRecDepth 100000 in
set_option maxHeartbeats 4000000 in
theorem c_X5_readParts (l : Launch) (D : va_G) (ca : Nat → ClassId) (ad : Nat → Nat → Nat) (PL : List (Nat × Nat)) (Z : State → Prop) (A : Nat → Prop) (hok : okc bR Z A ad PL) (N : Nat) (w : Mem) (x1 : Int32) (w' : Mem) (r : Int32) (hf : f_X5_readParts N w x1 = some (w', r)) : CT l yX5_readParts (wsy yX5_readParts cX5_readParts 3 (some .boolean)) (rmk 3) D ca ad PL Z A [.ref (ad 5 0), .int x1] w w' (some (.int r)) := by
  refine Met.ofW (cc := cX5_readParts) (maxL := 3) (ret := (some .boolean)) (by decide +kernel) rfl ?_
  intro p e s m args below meth c s₁ B hml hv
  obtain ⟨rfl, hP, hK, hZ⟩ := hv
  have hx := B.exec
  have hb := B.bytes
  have hr := B.returns
  have hlocks := B.notSynchronized
  have hts : ∀ w ∈ ALL, w.before _ s = true := fun w hw => atoms_spec (ws := wsy yX5_readParts cX5_readParts 3 (some .boolean)) B.pre w (List.mem_cons_of_mem _ hw)
  have hown : s.vm.findClass RX5 = some m.cls := findClass_of_methodNamed B.named
  have C : CX p s m _ c cX5_readParts RX5 3 D ca Z := ⟨hx, hb, hml, hown, hts, hK, hZ⟩
  have hS : va_S A s.heap s.heap [] := va_S.rf
  have hl := lv_entry ([.ref (ad 5 0), .int x1]) (n := 3) (Nat.le_of_ble_eq_true rfl)
  rw [lg_entry_eq]
  generalize (lg_sl ([.ref (ad 5 0), .int x1]) ++ List.replicate (3 - (lg_sl ([.ref (ad 5 0), .int x1])).length) Slot.unset).toArray = ls at hl ⊢
  have hl : lv_has ls 3 [(0, .ref (ad 5 0)), (1, .int x1)] := hl
  show W p l e (rmk 3) s m _ below meth c s.heap [] 0 0 _ _
  have P_f_X5_readParts_159 : ∀ (w : Mem), f_X5_readParts_159 N w    = some (w', r) → WP p l e (rmk 3) s m [.ref (ad 5 0), .int x1].toArray below meth c D ca ad PL A (MQ below (qcR D ca ad PL Z A w' (some (.int r))) [.ref (ad 5 0), .int x1].toArray s 0 0 A) 3 159 [] [(0, .ref (ad 5 0))] w := by
    intro w hf _ _ ls hP hS hl
    unfold f_X5_readParts_159 at hf
    refine lv_aload_n hx hb dX5_readParts_159 rfl (lv_at hl 0 rfl) ?_
    refine lv_iconst (v := (5 : Int32)) hx hb dX5_readParts_160 (by decide) ?_
    obtain ⟨z4, q5, hf⟩ := bsp hf
    refine kc_V (ci := 5) (i := 0) (As := [.int (5 : Int32)]) (rest := []) hok.2.2.1 C hP hS hl.1 (hok.2.1 5 0 (Nat.le_of_ble_eq_true rfl)) rfl rfl cw_X5_fail ml_X5_46 (c_X5_fail l D ca ad PL Z A hok N w (5 : Int32) z4.1 z4.2 q5) rfl ⟨rfl, rfl⟩ ⟨Nat.le_of_ble_eq_true rfl, Nat.le_of_ble_eq_true rfl⟩ ⟨Nat.zero_le _, Nat.zero_le _⟩ (Nat.le_of_ble_eq_true rfl) rfl dX5_readParts_161 (fun H locs hP hS => ?_)
    obtain ⟨b6, hf⟩ := gsp hf
    exact kr_i hok.2.2.1 C hlocks hr (nar_z b6) hP hS (congrArg Prod.fst (Option.some.inj hf)) (congrArg Prod.snd (Option.some.inj hf)) dX5_readParts_164
  have L_lp_X5_readParts_63 : ∀ (v1 : Int32) (k : Mem → Option (Mem × Int32)) (hk : ∀ (w : Mem), k w = some (w', r) → WP p l e (rmk 3) s m [.ref (ad 5 0), .int x1].toArray below meth c D ca ad PL A (MQ below (qcR D ca ad PL Z A w' (some (.int r))) [.ref (ad 5 0), .int x1].toArray s 0 0 A) 3 159 [] [(0, .ref (ad 5 0))] w) (n : Nat) (w : Mem) (v2 : Int32), lp_X5_readParts_63 k N   v1 n w v2 = some (w', r) → WP p l e (rmk 3) s m [.ref (ad 5 0), .int x1].toArray below meth c D ca ad PL A (MQ below (qcR D ca ad PL Z A w' (some (.int r))) [.ref (ad 5 0), .int x1].toArray s 0 0 A) 3 63 [] [(0, .ref (ad 5 0)), (1, .int v1), (2, .int v2)] w := by
    intro v1 k hk n
    induction n with
    | zero => intro w v2 hf; rw [lp_X5_readParts_63] at hf; cases hf
    | succ n ih =>
      intro w v2 hf _ _ ls hP hS hl
      rw [lp_X5_readParts_63] at hf
      refine lv_iload_n hx hb dX5_readParts_63 rfl (lv_at hl 2 rfl) ?_
      refine lv_iload_n hx hb dX5_readParts_64 rfl (lv_at hl 1 rfl) ?_
      refine lv_icmp_ge (tgt := 159) hx hb dX5_readParts_65 (by decide) (fun c34 => ?_) (fun c34 => ?_)
      · have hf := ifp hf c34
        exact hk w hf _ _ ls hP hS (lv_sub hl [0] rfl)
      · have hf := ifn hf c34
        refine lv_iload_n hx hb dX5_readParts_68 rfl (lv_at hl 2 rfl) ?_
        refine lv_iconst (v := (3 : Int32)) hx hb dX5_readParts_69 (by decide) ?_
        refine lv_icmp_ge (tgt := 159) hx hb dX5_readParts_70 (by decide) (fun c33 => ?_) (fun c33 => ?_)
        · have hf := ifp hf c33
          exact hk w hf _ _ ls hP hS (lv_sub hl [0] rfl)
        · have hf := ifn hf c33
          refine lv_aload_n hx hb dX5_readParts_73 rfl (lv_at hl 0 rfl) ?_
          obtain ⟨z7, q8, hf⟩ := bsp hf
          refine kc_V (ci := 5) (i := 0) (As := []) (rest := []) hok.2.2.1 C hP hS hl.1 (hok.2.1 5 0 (Nat.le_of_ble_eq_true rfl)) rfl rfl cw_X5_advance ml_X5_32 (c_X5_advance l D ca ad PL Z A hok N w  z7 q8) rfl ⟨rfl, rfl⟩ ⟨Nat.le_of_ble_eq_true rfl, Nat.le_of_ble_eq_true rfl⟩ ⟨Nat.zero_le _, Nat.zero_le _⟩ (Nat.le_of_ble_eq_true rfl) rfl dX5_readParts_74 (fun H locs hP hS => ?_)
          refine lv_aload_n hx hb dX5_readParts_77 rfl (lv_at hl 0 rfl) ?_
          obtain ⟨z9, q10, hf⟩ := bsp hf
          refine kc_V (ci := 5) (i := 0) (As := []) (rest := []) hok.2.2.1 C hP hS hl.1 (hok.2.1 5 0 (Nat.le_of_ble_eq_true rfl)) rfl rfl cw_X5_isToldTerm ml_X5_105 (c_X5_isToldTerm l D ca ad PL Z A hok N z7  z9.1 z9.2 q10) rfl ⟨rfl, rfl⟩ ⟨Nat.le_of_ble_eq_true rfl, Nat.le_of_ble_eq_true rfl⟩ ⟨Nat.zero_le _, Nat.zero_le _⟩ (Nat.le_of_ble_eq_true rfl) rfl dX5_readParts_78 (fun H locs hP hS => ?_)
          refine lv_if_ne (tgt := 86) hx hb dX5_readParts_81 (by decide) (fun c32 => ?_) (fun c32 => ?_)
          · have hf := ifn hf c32
            refine lv_aload_n hx hb dX5_readParts_86 rfl (lv_at hl 0 rfl) ?_
            refine gt_5_3 (i := 0) C hP (hok.2.1 5 0 (Nat.le_of_ble_eq_true rfl)) lk_X5_9 dX5_readParts_87 ?_
            refine lv_iload_n hx hb dX5_readParts_90 rfl (lv_at hl 2 rfl) ?_
            refine lv_aload_n hx hb dX5_readParts_91 rfl (lv_at hl 0 rfl) ?_
            obtain ⟨g11, hf⟩ := gsp hf
            refine gt_5_2 (i := 0) C hP (hok.2.1 5 0 (Nat.le_of_ble_eq_true rfl)) lk_X5_23 dX5_readParts_92 ?_
            refine gt_1_0 (i := (gR z9.1 5 2 0)) C hP (hok.2.1 1 (gR z9.1 5 2 0) g11) lk_X5_69 dX5_readParts_95 ?_
            refine lv_aload_n hx hb dX5_readParts_98 rfl (lv_at hl 0 rfl) ?_
            refine gt_5_7 (i := 0) C hP (hok.2.1 5 0 (Nat.le_of_ble_eq_true rfl)) lk_X5_50 dX5_readParts_99 ?_
            obtain ⟨z12, q13, hf⟩ := bsp hf
            refine kc_V (ci := 7) (i := (gR z9.1 5 2 0)) (As := [.int (gF z9.1 5 7 0)]) (rest := [.int v2, .ref (ad 29 0)]) hok.2.2.1 C hP hS hl.1 (hok.2.1 7 (gR z9.1 5 2 0) g11) rfl rfl cw_X7_termNamed ml_X5_108 (c_X7_termNamed l D ca ad PL Z A (okR_X hok) N z9.1 (gR z9.1 5 2 0) g11 (gF z9.1 5 7 0) z12 q13) rfl ⟨rfl, rfl⟩ ⟨Nat.le_of_ble_eq_true rfl, Nat.le_of_ble_eq_true rfl⟩ ⟨Nat.zero_le _, Nat.zero_le _⟩ (Nat.le_of_ble_eq_true rfl) rfl dX5_readParts_102 (fun H locs hP hS => ?_)
            obtain ⟨b14, hf⟩ := gsp hf
            refine ra_ist (k := 29) (i := 0) (n := 3) C hok.1 hP hS (hok.2.1 29 0 (Nat.le_of_ble_eq_true rfl)) (fun _ => rfl) b14 dX5_readParts_105 (fun H locs hP hS => ?_)
            refine lv_aload_n hx hb dX5_readParts_106 rfl (lv_at hl 0 rfl) ?_
            obtain ⟨z15, q16, hf⟩ := bsp hf
            refine kc_V (ci := 5) (i := 0) (As := []) (rest := []) hok.2.2.1 C hP hS hl.1 (hok.2.1 5 0 (Nat.le_of_ble_eq_true rfl)) rfl rfl cw_X5_advance ml_X5_32 (c_X5_advance l D ca ad PL Z A hok N (sA z9.1 29 0 v2.toNatClampNeg z12)  z15 q16) rfl ⟨rfl, rfl⟩ ⟨Nat.le_of_ble_eq_true rfl, Nat.le_of_ble_eq_true rfl⟩ ⟨Nat.zero_le _, Nat.zero_le _⟩ (Nat.le_of_ble_eq_true rfl) rfl dX5_readParts_107 (fun H locs hP hS => ?_)
            refine lv_aload_n hx hb dX5_readParts_110 rfl (lv_at hl 0 rfl) ?_
            refine lv_bipush (v := (41 : Int32)) hx hb dX5_readParts_111 (by decide) ?_
            obtain ⟨z17, q18, hf⟩ := bsp hf
            refine kc_V (ci := 5) (i := 0) (As := [.int (41 : Int32)]) (rest := []) hok.2.2.1 C hP hS hl.1 (hok.2.1 5 0 (Nat.le_of_ble_eq_true rfl)) rfl rfl cw_X5_isSign ml_X5_42 (c_X5_isSign l D ca ad PL Z A hok N z15 (41 : Int32) z17 q18) rfl ⟨rfl, rfl⟩ ⟨Nat.le_of_ble_eq_true rfl, Nat.le_of_ble_eq_true rfl⟩ ⟨Nat.zero_le _, Nat.zero_le _⟩ (Nat.le_of_ble_eq_true rfl) rfl dX5_readParts_113 (fun H locs hP hS => ?_)
            refine lv_if_eq (tgt := 138) hx hb dX5_readParts_116 (by decide) (fun c31 => ?_) (fun c31 => ?_)
            · have hf := ifp hf c31
              refine lv_aload_n hx hb dX5_readParts_138 rfl (lv_at hl 0 rfl) ?_
              refine lv_bipush (v := (44 : Int32)) hx hb dX5_readParts_139 (by decide) ?_
              obtain ⟨z19, q20, hf⟩ := bsp hf
              refine kc_V (ci := 5) (i := 0) (As := [.int (44 : Int32)]) (rest := []) hok.2.2.1 C hP hS hl.1 (hok.2.1 5 0 (Nat.le_of_ble_eq_true rfl)) rfl rfl cw_X5_isSign ml_X5_42 (c_X5_isSign l D ca ad PL Z A hok N z15 (44 : Int32) z19 q20) rfl ⟨rfl, rfl⟩ ⟨Nat.le_of_ble_eq_true rfl, Nat.le_of_ble_eq_true rfl⟩ ⟨Nat.zero_le _, Nat.zero_le _⟩ (Nat.le_of_ble_eq_true rfl) rfl dX5_readParts_141 (fun H locs hP hS => ?_)
              refine lv_if_ne (tgt := 153) hx hb dX5_readParts_144 (by decide) (fun c24 => ?_) (fun c24 => ?_)
              · have hf := ifn hf c24
                refine lv_iinc (v := (v2 + (1 : Int32))) (lv' := [(2, .int (v2 + (1 : Int32))), (0, .ref (ad 5 0)), (1, .int v1)]) hx hb dX5_readParts_153 hl (k := 2) rfl rfl (by decide) rfl (fun ls hl => ?_)
                refine lv_goto (tgt := 63) hx hb dX5_readParts_156 (by decide) ?_
                exact ih z15 (v2 + (1 : Int32)) hf _ _ ls hP hS (lv_sub hl [1, 2, 0] rfl)
              · have hf := ifp hf c24
                refine lv_aload_n hx hb dX5_readParts_147 rfl (lv_at hl 0 rfl) ?_
                refine lv_iconst (v := (1 : Int32)) hx hb dX5_readParts_148 (by decide) ?_
                obtain ⟨z21, q22, hf⟩ := bsp hf
                refine kc_V (ci := 5) (i := 0) (As := [.int (1 : Int32)]) (rest := []) hok.2.2.1 C hP hS hl.1 (hok.2.1 5 0 (Nat.le_of_ble_eq_true rfl)) rfl rfl cw_X5_fail ml_X5_46 (c_X5_fail l D ca ad PL Z A hok N z15 (1 : Int32) z21.1 z21.2 q22) rfl ⟨rfl, rfl⟩ ⟨Nat.le_of_ble_eq_true rfl, Nat.le_of_ble_eq_true rfl⟩ ⟨Nat.zero_le _, Nat.zero_le _⟩ (Nat.le_of_ble_eq_true rfl) rfl dX5_readParts_149 (fun H locs hP hS => ?_)
                obtain ⟨b23, hf⟩ := gsp hf
                exact kr_i hok.2.2.1 C hlocks hr (nar_z b23) hP hS (congrArg Prod.fst (Option.some.inj hf)) (congrArg Prod.snd (Option.some.inj hf)) dX5_readParts_152
            · have hf := ifn hf c31
              refine lv_iload_n hx hb dX5_readParts_119 rfl (lv_at hl 2 rfl) ?_
              refine lv_iconst (v := (1 : Int32)) hx hb dX5_readParts_120 (by decide) ?_
              refine lv_iadd hx hb dX5_readParts_121 ?_
              refine lv_iload_n hx hb dX5_readParts_122 rfl (lv_at hl 1 rfl) ?_
              refine lv_icmp_ge (tgt := 132) hx hb dX5_readParts_123 (by decide) (fun c30 => ?_) (fun c30 => ?_)
              · have hf := ifp hf c30
                refine lv_aload_n hx hb dX5_readParts_132 rfl (lv_at hl 0 rfl) ?_
                obtain ⟨z25, q26, hf⟩ := bsp hf
                refine kc_V (ci := 5) (i := 0) (As := []) (rest := []) hok.2.2.1 C hP hS hl.1 (hok.2.1 5 0 (Nat.le_of_ble_eq_true rfl)) rfl rfl cw_X5_advance ml_X5_32 (c_X5_advance l D ca ad PL Z A hok N z15  z25 q26) rfl ⟨rfl, rfl⟩ ⟨Nat.le_of_ble_eq_true rfl, Nat.le_of_ble_eq_true rfl⟩ ⟨Nat.zero_le _, Nat.zero_le _⟩ (Nat.le_of_ble_eq_true rfl) rfl dX5_readParts_133 (fun H locs hP hS => ?_)
                refine lv_iconst (v := (1 : Int32)) hx hb dX5_readParts_136 (by decide) ?_
                exact kr_i hok.2.2.1 C hlocks hr rfl hP hS (congrArg Prod.fst (Option.some.inj hf)) (congrArg Prod.snd (Option.some.inj hf)) dX5_readParts_137
              · have hf := ifn hf c30
                refine lv_aload_n hx hb dX5_readParts_126 rfl (lv_at hl 0 rfl) ?_
                refine lv_iconst (v := (5 : Int32)) hx hb dX5_readParts_127 (by decide) ?_
                obtain ⟨z27, q28, hf⟩ := bsp hf
                refine kc_V (ci := 5) (i := 0) (As := [.int (5 : Int32)]) (rest := []) hok.2.2.1 C hP hS hl.1 (hok.2.1 5 0 (Nat.le_of_ble_eq_true rfl)) rfl rfl cw_X5_fail ml_X5_46 (c_X5_fail l D ca ad PL Z A hok N z15 (5 : Int32) z27.1 z27.2 q28) rfl ⟨rfl, rfl⟩ ⟨Nat.le_of_ble_eq_true rfl, Nat.le_of_ble_eq_true rfl⟩ ⟨Nat.zero_le _, Nat.zero_le _⟩ (Nat.le_of_ble_eq_true rfl) rfl dX5_readParts_128 (fun H locs hP hS => ?_)
                obtain ⟨b29, hf⟩ := gsp hf
                exact kr_i hok.2.2.1 C hlocks hr (nar_z b29) hP hS (congrArg Prod.fst (Option.some.inj hf)) (congrArg Prod.snd (Option.some.inj hf)) dX5_readParts_131
          · have hf := ifp hf c32
            refine lv_iconst (v := (0 : Int32)) hx hb dX5_readParts_84 (by decide) ?_
            exact kr_i hok.2.2.1 C hlocks hr rfl hP hS (congrArg Prod.fst (Option.some.inj hf)) (congrArg Prod.snd (Option.some.inj hf)) dX5_readParts_85
  have P_f_X5_readParts_39 : ∀ (w : Mem) (v2 : Int32), f_X5_readParts_39 N w  v2  = some (w', r) → WP p l e (rmk 3) s m [.ref (ad 5 0), .int x1].toArray below meth c D ca ad PL A (MQ below (qcR D ca ad PL Z A w' (some (.int r))) [.ref (ad 5 0), .int x1].toArray s 0 0 A) 3 39 [] [(0, .ref (ad 5 0)), (2, .int v2)] w := by
    intro w v2 hf _ _ ls hP hS hl
    unfold f_X5_readParts_39 at hf
    refine lv_aload_n hx hb dX5_readParts_39 rfl (lv_at hl 0 rfl) ?_
    refine lv_iload_n hx hb dX5_readParts_40 rfl (lv_at hl 1 rfl) ?_
    refine lv_if_eq (tgt := 48) hx hb dX5_readParts_41 (by decide) (fun c41 => ?_) (fun c41 => ?_)
    · have hf := ifp hf c41
      refine lv_iconst (v := (1 : Int32)) hx hb dX5_readParts_48 (by decide) ?_
      obtain ⟨z35, q36, hf⟩ := bsp hf
      refine kc_V (ci := 5) (i := 0) (As := [.int (1 : Int32)]) (rest := []) hok.2.2.1 C hP hS hl.1 (hok.2.1 5 0 (Nat.le_of_ble_eq_true rfl)) rfl rfl cw_X5_fail ml_X5_46 (c_X5_fail l D ca ad PL Z A hok N w (1 : Int32) z35.1 z35.2 q36) rfl ⟨rfl, rfl⟩ ⟨Nat.le_of_ble_eq_true rfl, Nat.le_of_ble_eq_true rfl⟩ ⟨Nat.zero_le _, Nat.zero_le _⟩ (Nat.le_of_ble_eq_true rfl) rfl dX5_readParts_49 (fun H locs hP hS => ?_)
      refine lv_if_eq (tgt := 59) hx hb dX5_readParts_52 (by decide) (fun c37 => ?_) (fun c37 => ?_)
      · have hf := ifp hf c37
        refine lv_iconst (v := (0 : Int32)) hx hb dX5_readParts_59 (by decide) ?_
        exact kr_i hok.2.2.1 C hlocks hr rfl hP hS (congrArg Prod.fst (Option.some.inj hf)) (congrArg Prod.snd (Option.some.inj hf)) dX5_readParts_60
      · have hf := ifn hf c37
        refine lv_iconst (v := (1 : Int32)) hx hb dX5_readParts_55 (by decide) ?_
        refine lv_goto (tgt := 60) hx hb dX5_readParts_56 (by decide) ?_
        exact kr_i hok.2.2.1 C hlocks hr rfl hP hS (congrArg Prod.fst (Option.some.inj hf)) (congrArg Prod.snd (Option.some.inj hf)) dX5_readParts_60
    · have hf := ifn hf c41
      refine lv_iconst (v := (5 : Int32)) hx hb dX5_readParts_44 (by decide) ?_
      refine lv_goto (tgt := 49) hx hb dX5_readParts_45 (by decide) ?_
      obtain ⟨z38, q39, hf⟩ := bsp hf
      refine kc_V (ci := 5) (i := 0) (As := [.int (5 : Int32)]) (rest := []) hok.2.2.1 C hP hS hl.1 (hok.2.1 5 0 (Nat.le_of_ble_eq_true rfl)) rfl rfl cw_X5_fail ml_X5_46 (c_X5_fail l D ca ad PL Z A hok N w (5 : Int32) z38.1 z38.2 q39) rfl ⟨rfl, rfl⟩ ⟨Nat.le_of_ble_eq_true rfl, Nat.le_of_ble_eq_true rfl⟩ ⟨Nat.zero_le _, Nat.zero_le _⟩ (Nat.le_of_ble_eq_true rfl) rfl dX5_readParts_49 (fun H locs hP hS => ?_)
      refine lv_if_eq (tgt := 59) hx hb dX5_readParts_52 (by decide) (fun c40 => ?_) (fun c40 => ?_)
      · have hf := ifp hf c40
        refine lv_iconst (v := (0 : Int32)) hx hb dX5_readParts_59 (by decide) ?_
        exact kr_i hok.2.2.1 C hlocks hr rfl hP hS (congrArg Prod.fst (Option.some.inj hf)) (congrArg Prod.snd (Option.some.inj hf)) dX5_readParts_60
      · have hf := ifn hf c40
        refine lv_iconst (v := (1 : Int32)) hx hb dX5_readParts_55 (by decide) ?_
        refine lv_goto (tgt := 60) hx hb dX5_readParts_56 (by decide) ?_
        exact kr_i hok.2.2.1 C hlocks hr rfl hP hS (congrArg Prod.fst (Option.some.inj hf)) (congrArg Prod.snd (Option.some.inj hf)) dX5_readParts_60
  unfold f_X5_readParts at hf
  -- walk
  refine lv_aload_n hx hb dX5_readParts_0 rfl (lv_at hl 0 rfl) ?_
  refine lv_bipush (v := (40 : Int32)) hx hb dX5_readParts_1 (by decide) ?_
  obtain ⟨z1, q2, hf⟩ := bsp hf
  refine kc_V (ci := 5) (i := 0) (As := [.int (40 : Int32)]) (rest := []) hok.2.2.1 C hP hS hl.1 (hok.2.1 5 0 (Nat.le_of_ble_eq_true rfl)) rfl rfl cw_X5_isSign ml_X5_42 (c_X5_isSign l D ca ad PL Z A hok N w (40 : Int32) z1 q2) rfl ⟨rfl, rfl⟩ ⟨Nat.le_of_ble_eq_true rfl, Nat.le_of_ble_eq_true rfl⟩ ⟨Nat.zero_le _, Nat.zero_le _⟩ (Nat.le_of_ble_eq_true rfl) rfl dX5_readParts_3 (fun H locs hP hS => ?_)
  refine lv_if_ne (tgt := 61) hx hb dX5_readParts_6 (by decide) (fun c52 => ?_) (fun c52 => ?_)
  · have hf := ifn hf c52
    refine lv_iconst (v := (0 : Int32)) hx hb dX5_readParts_61 (by decide) ?_
    refine lv_istore_n (lv' := [(2, .int (0 : Int32)), (0, .ref (ad 5 0)), (1, .int x1)]) hx hb dX5_readParts_62 rfl hl (by decide) rfl (fun ls hl => ?_)
    exact L_lp_X5_readParts_63 x1 _ (fun w_3 hf H locs ls hP hS hl => P_f_X5_readParts_159 w_3 hf _ _ ls hP hS (lv_sub hl [0] rfl)) N w (0 : Int32) hf _ _ ls hP hS (lv_sub hl [1, 2, 0] rfl)
  · have hf := ifp hf c52
    refine lv_aload_n hx hb dX5_readParts_9 rfl (lv_at hl 0 rfl) ?_
    refine gt_5_6 (i := 0) C hP (hok.2.1 5 0 (Nat.le_of_ble_eq_true rfl)) lk_X5_39 dX5_readParts_10 ?_
    refine lv_if_eq (tgt := 25) hx hb dX5_readParts_13 (by decide) (fun c51 => ?_) (fun c51 => ?_)
    · have hf := ifp hf c51
      refine lv_iconst (v := (1 : Int32)) hx hb dX5_readParts_25 (by decide) ?_
      refine lv_goto (tgt := 30) hx hb dX5_readParts_26 (by decide) ?_
      refine lv_istore_n (lv' := [(2, .int (1 : Int32)), (0, .ref (ad 5 0)), (1, .int x1)]) hx hb dX5_readParts_30 rfl hl (by decide) rfl (fun ls hl => ?_)
      refine lv_iload_n hx hb dX5_readParts_31 rfl (lv_at hl 0 rfl) ?_
      refine lv_if_eq (tgt := 39) hx hb dX5_readParts_32 (by decide) (fun c43 => ?_) (fun c43 => ?_)
      · have hf := ifp hf c43
        exact P_f_X5_readParts_39 w (1 : Int32) hf _ _ ls hP hS (lv_sub hl [1, 0] rfl)
      · have hf := ifn hf c43
        refine lv_iload_n hx hb dX5_readParts_35 rfl (lv_at hl 2 rfl) ?_
        refine lv_if_eq (tgt := 55) hx hb dX5_readParts_36 (by decide) (fun c42 => ?_) (fun c42 => ?_)
        · have hf := ifp hf c42
          refine lv_iconst (v := (1 : Int32)) hx hb dX5_readParts_55 (by decide) ?_
          refine lv_goto (tgt := 60) hx hb dX5_readParts_56 (by decide) ?_
          exact kr_i hok.2.2.1 C hlocks hr rfl hP hS (congrArg Prod.fst (Option.some.inj hf)) (congrArg Prod.snd (Option.some.inj hf)) dX5_readParts_60
        · have hf := ifn hf c42
          exact P_f_X5_readParts_39 w (1 : Int32) hf _ _ ls hP hS (lv_sub hl [1, 0] rfl)
    · have hf := ifn hf c51
      refine lv_aload_n hx hb dX5_readParts_16 rfl (lv_at hl 0 rfl) ?_
      refine lv_bipush (v := (59 : Int32)) hx hb dX5_readParts_17 (by decide) ?_
      obtain ⟨z44, q45, hf⟩ := bsp hf
      refine kc_V (ci := 5) (i := 0) (As := [.int (59 : Int32)]) (rest := []) hok.2.2.1 C hP hS hl.1 (hok.2.1 5 0 (Nat.le_of_ble_eq_true rfl)) rfl rfl cw_X5_isSign ml_X5_42 (c_X5_isSign l D ca ad PL Z A hok N w (59 : Int32) z44 q45) rfl ⟨rfl, rfl⟩ ⟨Nat.le_of_ble_eq_true rfl, Nat.le_of_ble_eq_true rfl⟩ ⟨Nat.zero_le _, Nat.zero_le _⟩ (Nat.le_of_ble_eq_true rfl) rfl dX5_readParts_19 (fun H locs hP hS => ?_)
      refine lv_if_eq (tgt := 29) hx hb dX5_readParts_22 (by decide) (fun c50 => ?_) (fun c50 => ?_)
      · have hf := ifp hf c50
        refine lv_iconst (v := (0 : Int32)) hx hb dX5_readParts_29 (by decide) ?_
        refine lv_istore_n (lv' := [(2, .int (0 : Int32)), (0, .ref (ad 5 0)), (1, .int x1)]) hx hb dX5_readParts_30 rfl hl (by decide) rfl (fun ls hl => ?_)
        refine lv_iload_n hx hb dX5_readParts_31 rfl (lv_at hl 0 rfl) ?_
        refine lv_if_eq (tgt := 39) hx hb dX5_readParts_32 (by decide) (fun c47 => ?_) (fun c47 => ?_)
        · have hf := ifp hf c47
          exact P_f_X5_readParts_39 w (0 : Int32) hf _ _ ls hP hS (lv_sub hl [1, 0] rfl)
        · have hf := ifn hf c47
          refine lv_iload_n hx hb dX5_readParts_35 rfl (lv_at hl 2 rfl) ?_
          refine lv_if_eq (tgt := 55) hx hb dX5_readParts_36 (by decide) (fun c46 => ?_) (fun c46 => ?_)
          · have hf := ifp hf c46
            refine lv_iconst (v := (1 : Int32)) hx hb dX5_readParts_55 (by decide) ?_
            refine lv_goto (tgt := 60) hx hb dX5_readParts_56 (by decide) ?_
            exact kr_i hok.2.2.1 C hlocks hr rfl hP hS (congrArg Prod.fst (Option.some.inj hf)) (congrArg Prod.snd (Option.some.inj hf)) dX5_readParts_60
          · have hf := ifn hf c46
            exact P_f_X5_readParts_39 w (0 : Int32) hf _ _ ls hP hS (lv_sub hl [1, 0] rfl)
      · have hf := ifn hf c50
        refine lv_iconst (v := (1 : Int32)) hx hb dX5_readParts_25 (by decide) ?_
        refine lv_goto (tgt := 30) hx hb dX5_readParts_26 (by decide) ?_
        refine lv_istore_n (lv' := [(2, .int (1 : Int32)), (0, .ref (ad 5 0)), (1, .int x1)]) hx hb dX5_readParts_30 rfl hl (by decide) rfl (fun ls hl => ?_)
        refine lv_iload_n hx hb dX5_readParts_31 rfl (lv_at hl 0 rfl) ?_
        refine lv_if_eq (tgt := 39) hx hb dX5_readParts_32 (by decide) (fun c49 => ?_) (fun c49 => ?_)
        · have hf := ifp hf c49
          exact P_f_X5_readParts_39 w (1 : Int32) hf _ _ ls hP hS (lv_sub hl [1, 0] rfl)
        · have hf := ifn hf c49
          refine lv_iload_n hx hb dX5_readParts_35 rfl (lv_at hl 2 rfl) ?_
          refine lv_if_eq (tgt := 55) hx hb dX5_readParts_36 (by decide) (fun c48 => ?_) (fun c48 => ?_)
          · have hf := ifp hf c48
            refine lv_iconst (v := (1 : Int32)) hx hb dX5_readParts_55 (by decide) ?_
            refine lv_goto (tgt := 60) hx hb dX5_readParts_56 (by decide) ?_
            exact kr_i hok.2.2.1 C hlocks hr rfl hP hS (congrArg Prod.fst (Option.some.inj hf)) (congrArg Prod.snd (Option.some.inj hf)) dX5_readParts_60
          · have hf := ifn hf c48
            exact P_f_X5_readParts_39 w (1 : Int32) hf _ _ ls hP hS (lv_sub hl [1, 0] rfl)
def f_X5_readTerm (N : Nat) (w : Mem)  : Option (Mem × Int32) :=
  (if (gR w 5 2 0) < 2 then (if (gF w 7 10 (gR w 5 2 0)) < (24 : Int32) then
(Option.bind (f_X5_advance N w ) (fun z2 => (Option.bind (f_X5_isNewName N z2 ) (fun z4 => (if z4.2 = (0 : Int32) then
some (z4.1, (0 : Int32))
else
(Option.bind (f_X5_advance N z4.1 ) (fun z6 => (Option.bind (f_X5_isSign N z6 (61 : Int32)) (fun z8 => (if z8 = (0 : Int32) then
(Option.bind (f_X5_fail N z6 (1 : Int32)) (fun z38 => (if z38.2 = 0 ∨ z38.2 = 1 then some (z38.1, z38.2) else none)))
else
(Option.bind (f_X5_advance N z6 ) (fun z10 => (Option.bind (f_X5_isName N z10 ) (fun z12 => (if z12 = (0 : Int32) then
(Option.bind (f_X5_fail N z10 (1 : Int32)) (fun z34 => (if z34.2 = 0 ∨ z34.2 = 1 then some (z34.1, z34.2) else none)))
else
(if (gR z10 5 2 0) < 2 then (Option.bind (f_X7_functionNamed N z10 (gR z10 5 2 0) (gF z10 5 7 0)) (fun z15 => (if (0 : Int32) ≤ z15 then
(Option.bind (f_X5_advance N z10 ) (fun z17 => (if (gR z17 5 2 0) < 2 then (if inb z15 8 = true then (Option.bind (f_X5_readParts N z17 (gA z17 31 (gR z17 5 2 0) z15.toNatClampNeg)) (fun z21 => (if z21.2 = (0 : Int32) then
some (z21.1, (0 : Int32))
else
(if (gR z21.1 5 2 0) < 2 then (if inb (0 : Int32) 3 = true then (if inb (1 : Int32) 3 = true then (if inb (2 : Int32) 3 = true then (Option.bind (f_X1_comeTerm N z21.1 (gR z21.1 5 2 0) (gF z4.1 5 7 0) z15 (gA z21.1 29 0 (0 : Int32).toNatClampNeg) (gA z21.1 29 0 (1 : Int32).toNatClampNeg) (gA z21.1 29 0 (2 : Int32).toNatClampNeg)) (fun z27 => some (z27, (1 : Int32)))) else none) else none) else none) else none)))) else none) else none)))
else
(Option.bind (f_X5_fail N z10 (3 : Int32)) (fun z30 => (if z30.2 = 0 ∨ z30.2 = 1 then some (z30.1, z30.2) else none)))))) else none))))))))))))))))
else
(Option.bind (f_X5_fail N w (4 : Int32)) (fun z43 => (if z43.2 = 0 ∨ z43.2 = 1 then some (z43.1, z43.2) else none)))) else none)
set_option maxRecDepth 100000 in
set_option maxHeartbeats 4000000 in
theorem c_X5_readTerm (l : Launch) (D : va_G) (ca : Nat → ClassId) (ad : Nat → Nat → Nat) (PL : List (Nat × Nat)) (Z : State → Prop) (A : Nat → Prop) (hok : okc bR Z A ad PL) (N : Nat) (w : Mem)  (w' : Mem) (r : Int32) (hf : f_X5_readTerm N w  = some (w', r)) : CT l yX5_readTerm (wsy yX5_readTerm cX5_readTerm 3 (some .boolean)) (rmk 4) D ca ad PL Z A [.ref (ad 5 0)] w w' (some (.int r)) := by
  refine Met.ofW (cc := cX5_readTerm) (maxL := 3) (ret := (some .boolean)) (by decide +kernel) rfl ?_
  intro p e s m args below meth c s₁ B hml hv
  obtain ⟨rfl, hP, hK, hZ⟩ := hv
  have hx := B.exec
  have hb := B.bytes
  have hr := B.returns
  have hlocks := B.notSynchronized
  have hts : ∀ w ∈ ALL, w.before _ s = true := fun w hw => atoms_spec (ws := wsy yX5_readTerm cX5_readTerm 3 (some .boolean)) B.pre w (List.mem_cons_of_mem _ hw)
  have hown : s.vm.findClass RX5 = some m.cls := findClass_of_methodNamed B.named
  have C : CX p s m _ c cX5_readTerm RX5 3 D ca Z := ⟨hx, hb, hml, hown, hts, hK, hZ⟩
  have hS : va_S A s.heap s.heap [] := va_S.rf
  have hl := lv_entry ([.ref (ad 5 0)]) (n := 3) (Nat.le_of_ble_eq_true rfl)
  rw [lg_entry_eq]
  generalize (lg_sl ([.ref (ad 5 0)]) ++ List.replicate (3 - (lg_sl ([.ref (ad 5 0)])).length) Slot.unset).toArray = ls at hl ⊢
  have hl : lv_has ls 3 [(0, .ref (ad 5 0))] := hl
  show W p l e (rmk 4) s m _ below meth c s.heap [] 0 0 _ _
  unfold f_X5_readTerm at hf
  -- walk
  refine lv_aload_n hx hb dX5_readTerm_0 rfl (lv_at hl 0 rfl) ?_
  obtain ⟨g1, hf⟩ := gsp hf
  refine gt_5_2 (i := 0) C hP (hok.2.1 5 0 (Nat.le_of_ble_eq_true rfl)) lk_X5_23 dX5_readTerm_1 ?_
  refine gt_1_0 (i := (gR w 5 2 0)) C hP (hok.2.1 1 (gR w 5 2 0) g1) lk_X5_69 dX5_readTerm_4 ?_
  refine gt_7_10 (i := (gR w 5 2 0)) C hP (hok.2.1 7 (gR w 5 2 0) g1) lk_X5_85 dX5_readTerm_7 ?_
  refine lv_bipush (v := (24 : Int32)) hx hb dX5_readTerm_10 (by decide) ?_
  refine lv_icmp_lt (tgt := 21) hx hb dX5_readTerm_12 (by decide) (fun c46 => ?_) (fun c46 => ?_)
  · have hf := ifp hf c46
    refine lv_aload_n hx hb dX5_readTerm_21 rfl (lv_at hl 0 rfl) ?_
    obtain ⟨z2, q3, hf⟩ := bsp hf
    refine kc_V (ci := 5) (i := 0) (As := []) (rest := []) hok.2.2.1 C hP hS hl.1 (hok.2.1 5 0 (Nat.le_of_ble_eq_true rfl)) rfl rfl cw_X5_advance ml_X5_32 (c_X5_advance l D ca ad PL Z A hok N w  z2 q3) rfl ⟨rfl, rfl⟩ ⟨Nat.le_of_ble_eq_true rfl, Nat.le_of_ble_eq_true rfl⟩ ⟨Nat.zero_le _, Nat.zero_le _⟩ (Nat.le_of_ble_eq_true rfl) rfl dX5_readTerm_22 (fun H locs hP hS => ?_)
    refine lv_aload_n hx hb dX5_readTerm_25 rfl (lv_at hl 0 rfl) ?_
    obtain ⟨z4, q5, hf⟩ := bsp hf
    refine kc_V (ci := 5) (i := 0) (As := []) (rest := []) hok.2.2.1 C hP hS hl.1 (hok.2.1 5 0 (Nat.le_of_ble_eq_true rfl)) rfl rfl cw_X5_isNewName ml_X5_78 (c_X5_isNewName l D ca ad PL Z A hok N z2  z4.1 z4.2 q5) rfl ⟨rfl, rfl⟩ ⟨Nat.le_of_ble_eq_true rfl, Nat.le_of_ble_eq_true rfl⟩ ⟨Nat.zero_le _, Nat.zero_le _⟩ (Nat.le_of_ble_eq_true rfl) rfl dX5_readTerm_26 (fun H locs hP hS => ?_)
    refine lv_if_ne (tgt := 34) hx hb dX5_readTerm_29 (by decide) (fun c42 => ?_) (fun c42 => ?_)
    · have hf := ifn hf c42
      refine lv_aload_n hx hb dX5_readTerm_34 rfl (lv_at hl 0 rfl) ?_
      refine gt_5_7 (i := 0) C hP (hok.2.1 5 0 (Nat.le_of_ble_eq_true rfl)) lk_X5_50 dX5_readTerm_35 ?_
      refine lv_istore_n (lv' := [(1, .int (gF z4.1 5 7 0)), (0, .ref (ad 5 0))]) hx hb dX5_readTerm_38 rfl hl (by decide) rfl (fun ls hl => ?_)
      refine lv_aload_n hx hb dX5_readTerm_39 rfl (lv_at hl 1 rfl) ?_
      obtain ⟨z6, q7, hf⟩ := bsp hf
      refine kc_V (ci := 5) (i := 0) (As := []) (rest := []) hok.2.2.1 C hP hS hl.1 (hok.2.1 5 0 (Nat.le_of_ble_eq_true rfl)) rfl rfl cw_X5_advance ml_X5_32 (c_X5_advance l D ca ad PL Z A hok N z4.1  z6 q7) rfl ⟨rfl, rfl⟩ ⟨Nat.le_of_ble_eq_true rfl, Nat.le_of_ble_eq_true rfl⟩ ⟨Nat.zero_le _, Nat.zero_le _⟩ (Nat.le_of_ble_eq_true rfl) rfl dX5_readTerm_40 (fun H locs hP hS => ?_)
      refine lv_aload_n hx hb dX5_readTerm_43 rfl (lv_at hl 1 rfl) ?_
      refine lv_bipush (v := (61 : Int32)) hx hb dX5_readTerm_44 (by decide) ?_
      obtain ⟨z8, q9, hf⟩ := bsp hf
      refine kc_V (ci := 5) (i := 0) (As := [.int (61 : Int32)]) (rest := []) hok.2.2.1 C hP hS hl.1 (hok.2.1 5 0 (Nat.le_of_ble_eq_true rfl)) rfl rfl cw_X5_isSign ml_X5_42 (c_X5_isSign l D ca ad PL Z A hok N z6 (61 : Int32) z8 q9) rfl ⟨rfl, rfl⟩ ⟨Nat.le_of_ble_eq_true rfl, Nat.le_of_ble_eq_true rfl⟩ ⟨Nat.zero_le _, Nat.zero_le _⟩ (Nat.le_of_ble_eq_true rfl) rfl dX5_readTerm_46 (fun H locs hP hS => ?_)
      refine lv_if_ne (tgt := 58) hx hb dX5_readTerm_49 (by decide) (fun c41 => ?_) (fun c41 => ?_)
      · have hf := ifn hf c41
        refine lv_aload_n hx hb dX5_readTerm_58 rfl (lv_at hl 1 rfl) ?_
        obtain ⟨z10, q11, hf⟩ := bsp hf
        refine kc_V (ci := 5) (i := 0) (As := []) (rest := []) hok.2.2.1 C hP hS hl.1 (hok.2.1 5 0 (Nat.le_of_ble_eq_true rfl)) rfl rfl cw_X5_advance ml_X5_32 (c_X5_advance l D ca ad PL Z A hok N z6  z10 q11) rfl ⟨rfl, rfl⟩ ⟨Nat.le_of_ble_eq_true rfl, Nat.le_of_ble_eq_true rfl⟩ ⟨Nat.zero_le _, Nat.zero_le _⟩ (Nat.le_of_ble_eq_true rfl) rfl dX5_readTerm_59 (fun H locs hP hS => ?_)
        refine lv_aload_n hx hb dX5_readTerm_62 rfl (lv_at hl 1 rfl) ?_
        obtain ⟨z12, q13, hf⟩ := bsp hf
        refine kc_V (ci := 5) (i := 0) (As := []) (rest := []) hok.2.2.1 C hP hS hl.1 (hok.2.1 5 0 (Nat.le_of_ble_eq_true rfl)) rfl rfl cw_X5_isName ml_X5_88 (c_X5_isName l D ca ad PL Z A hok N z10  z12 q13) rfl ⟨rfl, rfl⟩ ⟨Nat.le_of_ble_eq_true rfl, Nat.le_of_ble_eq_true rfl⟩ ⟨Nat.zero_le _, Nat.zero_le _⟩ (Nat.le_of_ble_eq_true rfl) rfl dX5_readTerm_63 (fun H locs hP hS => ?_)
        refine lv_if_ne (tgt := 75) hx hb dX5_readTerm_66 (by decide) (fun c37 => ?_) (fun c37 => ?_)
        · have hf := ifn hf c37
          refine lv_aload_n hx hb dX5_readTerm_75 rfl (lv_at hl 1 rfl) ?_
          obtain ⟨g14, hf⟩ := gsp hf
          refine gt_5_2 (i := 0) C hP (hok.2.1 5 0 (Nat.le_of_ble_eq_true rfl)) lk_X5_23 dX5_readTerm_76 ?_
          refine gt_1_0 (i := (gR z10 5 2 0)) C hP (hok.2.1 1 (gR z10 5 2 0) g14) lk_X5_69 dX5_readTerm_79 ?_
          refine lv_aload_n hx hb dX5_readTerm_82 rfl (lv_at hl 1 rfl) ?_
          refine gt_5_7 (i := 0) C hP (hok.2.1 5 0 (Nat.le_of_ble_eq_true rfl)) lk_X5_50 dX5_readTerm_83 ?_
          obtain ⟨z15, q16, hf⟩ := bsp hf
          refine kc_V (ci := 7) (i := (gR z10 5 2 0)) (As := [.int (gF z10 5 7 0)]) (rest := []) hok.2.2.1 C hP hS hl.1 (hok.2.1 7 (gR z10 5 2 0) g14) rfl rfl cw_X7_functionNamed ml_X5_91 (c_X7_functionNamed l D ca ad PL Z A (okR_X hok) N z10 (gR z10 5 2 0) g14 (gF z10 5 7 0) z15 q16) rfl ⟨rfl, rfl⟩ ⟨Nat.le_of_ble_eq_true rfl, Nat.le_of_ble_eq_true rfl⟩ ⟨Nat.zero_le _, Nat.zero_le _⟩ (Nat.le_of_ble_eq_true rfl) rfl dX5_readTerm_86 (fun H locs hP hS => ?_)
          refine lv_istore_n (lv' := [(2, .int z15), (1, .int (gF z4.1 5 7 0)), (0, .ref (ad 5 0))]) hx hb dX5_readTerm_89 rfl hl (by decide) rfl (fun ls hl => ?_)
          refine lv_iload_n hx hb dX5_readTerm_90 rfl (lv_at hl 0 rfl) ?_
          refine lv_if_ge (tgt := 100) hx hb dX5_readTerm_91 (by decide) (fun c33 => ?_) (fun c33 => ?_)
          · have hf := ifp hf c33
            refine lv_aload_n hx hb dX5_readTerm_100 rfl (lv_at hl 2 rfl) ?_
            obtain ⟨z17, q18, hf⟩ := bsp hf
            refine kc_V (ci := 5) (i := 0) (As := []) (rest := []) hok.2.2.1 C hP hS hl.1 (hok.2.1 5 0 (Nat.le_of_ble_eq_true rfl)) rfl rfl cw_X5_advance ml_X5_32 (c_X5_advance l D ca ad PL Z A hok N z10  z17 q18) rfl ⟨rfl, rfl⟩ ⟨Nat.le_of_ble_eq_true rfl, Nat.le_of_ble_eq_true rfl⟩ ⟨Nat.zero_le _, Nat.zero_le _⟩ (Nat.le_of_ble_eq_true rfl) rfl dX5_readTerm_101 (fun H locs hP hS => ?_)
            refine lv_aload_n hx hb dX5_readTerm_104 rfl (lv_at hl 2 rfl) ?_
            refine lv_aload_n hx hb dX5_readTerm_105 rfl (lv_at hl 2 rfl) ?_
            obtain ⟨g19, hf⟩ := gsp hf
            refine gt_5_2 (i := 0) C hP (hok.2.1 5 0 (Nat.le_of_ble_eq_true rfl)) lk_X5_23 dX5_readTerm_106 ?_
            refine gt_1_0 (i := (gR z17 5 2 0)) C hP (hok.2.1 1 (gR z17 5 2 0) g19) lk_X5_69 dX5_readTerm_109 ?_
            refine gt_7_0 (i := (gR z17 5 2 0)) C hP (hok.2.1 7 (gR z17 5 2 0) g19) lk_X5_95 dX5_readTerm_112 ?_
            refine lv_iload_n hx hb dX5_readTerm_115 rfl (lv_at hl 0 rfl) ?_
            obtain ⟨b20, hf⟩ := gsp hf
            refine ra_ild (k := 31) (i := (gR z17 5 2 0)) (n := 8) (f := (gA z17 31 (gR z17 5 2 0))) C hP (hok.2.1 31 (gR z17 5 2 0) g19) rfl b20 dX5_readTerm_116 ?_
            obtain ⟨z21, q22, hf⟩ := bsp hf
            refine kc_V (ci := 5) (i := 0) (As := [.int (gA z17 31 (gR z17 5 2 0) z15.toNatClampNeg)]) (rest := []) hok.2.2.1 C hP hS hl.1 (hok.2.1 5 0 (Nat.le_of_ble_eq_true rfl)) rfl rfl cw_X5_readParts ml_X5_98 (c_X5_readParts l D ca ad PL Z A hok N z17 (gA z17 31 (gR z17 5 2 0) z15.toNatClampNeg) z21.1 z21.2 q22) rfl ⟨rfl, rfl⟩ ⟨Nat.le_of_ble_eq_true rfl, Nat.le_of_ble_eq_true rfl⟩ ⟨Nat.zero_le _, Nat.zero_le _⟩ (Nat.le_of_ble_eq_true rfl) rfl dX5_readTerm_117 (fun H locs hP hS => ?_)
            refine lv_if_ne (tgt := 125) hx hb dX5_readTerm_120 (by decide) (fun c29 => ?_) (fun c29 => ?_)
            · have hf := ifn hf c29
              refine lv_aload_n hx hb dX5_readTerm_125 rfl (lv_at hl 2 rfl) ?_
              obtain ⟨g23, hf⟩ := gsp hf
              refine gt_5_2 (i := 0) C hP (hok.2.1 5 0 (Nat.le_of_ble_eq_true rfl)) lk_X5_23 dX5_readTerm_126 ?_
              refine lv_iload_n hx hb dX5_readTerm_129 rfl (lv_at hl 1 rfl) ?_
              refine lv_iload_n hx hb dX5_readTerm_130 rfl (lv_at hl 0 rfl) ?_
              refine lv_aload_n hx hb dX5_readTerm_131 rfl (lv_at hl 2 rfl) ?_
              refine gt_5_3 (i := 0) C hP (hok.2.1 5 0 (Nat.le_of_ble_eq_true rfl)) lk_X5_9 dX5_readTerm_132 ?_
              refine lv_iconst (v := (0 : Int32)) hx hb dX5_readTerm_135 (by decide) ?_
              obtain ⟨b24, hf⟩ := gsp hf
              refine ra_ild (k := 29) (i := 0) (n := 3) (f := (gA z21.1 29 0)) C hP (hok.2.1 29 0 (Nat.le_of_ble_eq_true rfl)) rfl b24 dX5_readTerm_136 ?_
              refine lv_aload_n hx hb dX5_readTerm_137 rfl (lv_at hl 2 rfl) ?_
              refine gt_5_3 (i := 0) C hP (hok.2.1 5 0 (Nat.le_of_ble_eq_true rfl)) lk_X5_9 dX5_readTerm_138 ?_
              refine lv_iconst (v := (1 : Int32)) hx hb dX5_readTerm_141 (by decide) ?_
              obtain ⟨b25, hf⟩ := gsp hf
              refine ra_ild (k := 29) (i := 0) (n := 3) (f := (gA z21.1 29 0)) C hP (hok.2.1 29 0 (Nat.le_of_ble_eq_true rfl)) rfl b25 dX5_readTerm_142 ?_
              refine lv_aload_n hx hb dX5_readTerm_143 rfl (lv_at hl 2 rfl) ?_
              refine gt_5_3 (i := 0) C hP (hok.2.1 5 0 (Nat.le_of_ble_eq_true rfl)) lk_X5_9 dX5_readTerm_144 ?_
              refine lv_iconst (v := (2 : Int32)) hx hb dX5_readTerm_147 (by decide) ?_
              obtain ⟨b26, hf⟩ := gsp hf
              refine ra_ild (k := 29) (i := 0) (n := 3) (f := (gA z21.1 29 0)) C hP (hok.2.1 29 0 (Nat.le_of_ble_eq_true rfl)) rfl b26 dX5_readTerm_148 ?_
              obtain ⟨z27, q28, hf⟩ := bsp hf
              refine kc_V (ci := 1) (i := (gR z21.1 5 2 0)) (As := [.int (gF z4.1 5 7 0), .int z15, .int (gA z21.1 29 0 (0 : Int32).toNatClampNeg), .int (gA z21.1 29 0 (1 : Int32).toNatClampNeg), .int (gA z21.1 29 0 (2 : Int32).toNatClampNeg)]) (rest := []) hok.2.2.1 C hP hS hl.1 (hok.2.1 1 (gR z21.1 5 2 0) g23) rfl rfl cw_X1_comeTerm ml_X5_101 (c_X1_comeTerm l D ca ad PL Z A (okR_X hok) N z21.1 (gR z21.1 5 2 0) g23 (gF z4.1 5 7 0) z15 (gA z21.1 29 0 (0 : Int32).toNatClampNeg) (gA z21.1 29 0 (1 : Int32).toNatClampNeg) (gA z21.1 29 0 (2 : Int32).toNatClampNeg) z27 q28) rfl ⟨rfl, rfl⟩ ⟨Nat.le_of_ble_eq_true rfl, Nat.le_of_ble_eq_true rfl⟩ ⟨Nat.zero_le _, Nat.zero_le _⟩ (Nat.le_of_ble_eq_true rfl) rfl dX5_readTerm_149 (fun H locs hP hS => ?_)
              refine lv_iconst (v := (1 : Int32)) hx hb dX5_readTerm_152 (by decide) ?_
              exact kr_i hok.2.2.1 C hlocks hr rfl hP hS (congrArg Prod.fst (Option.some.inj hf)) (congrArg Prod.snd (Option.some.inj hf)) dX5_readTerm_153
            · have hf := ifp hf c29
              refine lv_iconst (v := (0 : Int32)) hx hb dX5_readTerm_123 (by decide) ?_
              exact kr_i hok.2.2.1 C hlocks hr rfl hP hS (congrArg Prod.fst (Option.some.inj hf)) (congrArg Prod.snd (Option.some.inj hf)) dX5_readTerm_124
          · have hf := ifn hf c33
            refine lv_aload_n hx hb dX5_readTerm_94 rfl (lv_at hl 2 rfl) ?_
            refine lv_iconst (v := (3 : Int32)) hx hb dX5_readTerm_95 (by decide) ?_
            obtain ⟨z30, q31, hf⟩ := bsp hf
            refine kc_V (ci := 5) (i := 0) (As := [.int (3 : Int32)]) (rest := []) hok.2.2.1 C hP hS hl.1 (hok.2.1 5 0 (Nat.le_of_ble_eq_true rfl)) rfl rfl cw_X5_fail ml_X5_46 (c_X5_fail l D ca ad PL Z A hok N z10 (3 : Int32) z30.1 z30.2 q31) rfl ⟨rfl, rfl⟩ ⟨Nat.le_of_ble_eq_true rfl, Nat.le_of_ble_eq_true rfl⟩ ⟨Nat.zero_le _, Nat.zero_le _⟩ (Nat.le_of_ble_eq_true rfl) rfl dX5_readTerm_96 (fun H locs hP hS => ?_)
            obtain ⟨b32, hf⟩ := gsp hf
            exact kr_i hok.2.2.1 C hlocks hr (nar_z b32) hP hS (congrArg Prod.fst (Option.some.inj hf)) (congrArg Prod.snd (Option.some.inj hf)) dX5_readTerm_99
        · have hf := ifp hf c37
          refine lv_aload_n hx hb dX5_readTerm_69 rfl (lv_at hl 1 rfl) ?_
          refine lv_iconst (v := (1 : Int32)) hx hb dX5_readTerm_70 (by decide) ?_
          obtain ⟨z34, q35, hf⟩ := bsp hf
          refine kc_V (ci := 5) (i := 0) (As := [.int (1 : Int32)]) (rest := []) hok.2.2.1 C hP hS hl.1 (hok.2.1 5 0 (Nat.le_of_ble_eq_true rfl)) rfl rfl cw_X5_fail ml_X5_46 (c_X5_fail l D ca ad PL Z A hok N z10 (1 : Int32) z34.1 z34.2 q35) rfl ⟨rfl, rfl⟩ ⟨Nat.le_of_ble_eq_true rfl, Nat.le_of_ble_eq_true rfl⟩ ⟨Nat.zero_le _, Nat.zero_le _⟩ (Nat.le_of_ble_eq_true rfl) rfl dX5_readTerm_71 (fun H locs hP hS => ?_)
          obtain ⟨b36, hf⟩ := gsp hf
          exact kr_i hok.2.2.1 C hlocks hr (nar_z b36) hP hS (congrArg Prod.fst (Option.some.inj hf)) (congrArg Prod.snd (Option.some.inj hf)) dX5_readTerm_74
      · have hf := ifp hf c41
        refine lv_aload_n hx hb dX5_readTerm_52 rfl (lv_at hl 1 rfl) ?_
        refine lv_iconst (v := (1 : Int32)) hx hb dX5_readTerm_53 (by decide) ?_
        obtain ⟨z38, q39, hf⟩ := bsp hf
        refine kc_V (ci := 5) (i := 0) (As := [.int (1 : Int32)]) (rest := []) hok.2.2.1 C hP hS hl.1 (hok.2.1 5 0 (Nat.le_of_ble_eq_true rfl)) rfl rfl cw_X5_fail ml_X5_46 (c_X5_fail l D ca ad PL Z A hok N z6 (1 : Int32) z38.1 z38.2 q39) rfl ⟨rfl, rfl⟩ ⟨Nat.le_of_ble_eq_true rfl, Nat.le_of_ble_eq_true rfl⟩ ⟨Nat.zero_le _, Nat.zero_le _⟩ (Nat.le_of_ble_eq_true rfl) rfl dX5_readTerm_54 (fun H locs hP hS => ?_)
        obtain ⟨b40, hf⟩ := gsp hf
        exact kr_i hok.2.2.1 C hlocks hr (nar_z b40) hP hS (congrArg Prod.fst (Option.some.inj hf)) (congrArg Prod.snd (Option.some.inj hf)) dX5_readTerm_57
    · have hf := ifp hf c42
      refine lv_iconst (v := (0 : Int32)) hx hb dX5_readTerm_32 (by decide) ?_
      exact kr_i hok.2.2.1 C hlocks hr rfl hP hS (congrArg Prod.fst (Option.some.inj hf)) (congrArg Prod.snd (Option.some.inj hf)) dX5_readTerm_33
  · have hf := ifn hf c46
    refine lv_aload_n hx hb dX5_readTerm_15 rfl (lv_at hl 0 rfl) ?_
    refine lv_iconst (v := (4 : Int32)) hx hb dX5_readTerm_16 (by decide) ?_
    obtain ⟨z43, q44, hf⟩ := bsp hf
    refine kc_V (ci := 5) (i := 0) (As := [.int (4 : Int32)]) (rest := []) hok.2.2.1 C hP hS hl.1 (hok.2.1 5 0 (Nat.le_of_ble_eq_true rfl)) rfl rfl cw_X5_fail ml_X5_46 (c_X5_fail l D ca ad PL Z A hok N w (4 : Int32) z43.1 z43.2 q44) rfl ⟨rfl, rfl⟩ ⟨Nat.le_of_ble_eq_true rfl, Nat.le_of_ble_eq_true rfl⟩ ⟨Nat.zero_le _, Nat.zero_le _⟩ (Nat.le_of_ble_eq_true rfl) rfl dX5_readTerm_17 (fun H locs hP hS => ?_)
    obtain ⟨b45, hf⟩ := gsp hf
    exact kr_i hok.2.2.1 C hlocks hr (nar_z b45) hP hS (congrArg Prod.fst (Option.some.inj hf)) (congrArg Prod.snd (Option.some.inj hf)) dX5_readTerm_20
def f_X5_readTwo (N : Nat) (w : Mem) (x1 : Int32) : Option (Mem × Int32) :=
  (Option.bind (f_X5_advance N w ) (fun z1 => (Option.bind (f_X5_isToldTerm N z1 ) (fun z3 => (if z3.2 = (0 : Int32) then
some (z3.1, (0 : Int32))
else
(if (gR z3.1 5 2 0) < 2 then (Option.bind (f_X7_termNamed N z3.1 (gR z3.1 5 2 0) (gF z3.1 5 7 0)) (fun z6 => (Option.bind (f_X5_advance N z3.1 ) (fun z8 => (Option.bind (f_X5_isToldTerm N z8 ) (fun z10 => (if z10.2 = (0 : Int32) then
some (z10.1, (0 : Int32))
else
(if (gR z10.1 5 2 0) < 2 then (Option.bind (f_X7_termNamed N z10.1 (gR z10.1 5 2 0) (gF z10.1 5 7 0)) (fun z13 => (if x1 = (0 : Int32) then
(Option.bind (f_X1_comeDiff N z10.1 (gR z10.1 5 2 0) z6 z13) (fun z15 => (Option.bind (f_X5_advance N z15 ) (fun z17 => some (z17, (1 : Int32))))))
else
(Option.bind (f_X1_comeSame N z10.1 (gR z10.1 5 2 0) z6 z13) (fun z19 => (Option.bind (f_X5_advance N z19 ) (fun z21 => some (z21, (1 : Int32))))))))) else none)))))))) else none))))))
set_option maxRecDepth 100000 in
set_option maxHeartbeats 4000000 in
theorem c_X5_readTwo (l : Launch) (D : va_G) (ca : Nat → ClassId) (ad : Nat → Nat → Nat) (PL : List (Nat × Nat)) (Z : State → Prop) (A : Nat → Prop) (hok : okc bR Z A ad PL) (N : Nat) (w : Mem) (x1 : Int32) (w' : Mem) (r : Int32) (hf : f_X5_readTwo N w x1 = some (w', r)) : CT l yX5_readTwo (wsy yX5_readTwo cX5_readTwo 4 (some .boolean)) (rmk 4) D ca ad PL Z A [.ref (ad 5 0), .int x1] w w' (some (.int r)) := by
  refine Met.ofW (cc := cX5_readTwo) (maxL := 4) (ret := (some .boolean)) (by decide +kernel) rfl ?_
  intro p e s m args below meth c s₁ B hml hv
  obtain ⟨rfl, hP, hK, hZ⟩ := hv
  have hx := B.exec
  have hb := B.bytes
  have hr := B.returns
  have hlocks := B.notSynchronized
  have hts : ∀ w ∈ ALL, w.before _ s = true := fun w hw => atoms_spec (ws := wsy yX5_readTwo cX5_readTwo 4 (some .boolean)) B.pre w (List.mem_cons_of_mem _ hw)
  have hown : s.vm.findClass RX5 = some m.cls := findClass_of_methodNamed B.named
  have C : CX p s m _ c cX5_readTwo RX5 4 D ca Z := ⟨hx, hb, hml, hown, hts, hK, hZ⟩
  have hS : va_S A s.heap s.heap [] := va_S.rf
  have hl := lv_entry ([.ref (ad 5 0), .int x1]) (n := 4) (Nat.le_of_ble_eq_true rfl)
  rw [lg_entry_eq]
  generalize (lg_sl ([.ref (ad 5 0), .int x1]) ++ List.replicate (4 - (lg_sl ([.ref (ad 5 0), .int x1])).length) Slot.unset).toArray = ls at hl ⊢
  have hl : lv_has ls 4 [(0, .ref (ad 5 0)), (1, .int x1)] := hl
  show W p l e (rmk 4) s m _ below meth c s.heap [] 0 0 _ _
  unfold f_X5_readTwo at hf
  -- walk
  refine lv_aload_n hx hb dX5_readTwo_0 rfl (lv_at hl 0 rfl) ?_
  obtain ⟨z1, q2, hf⟩ := bsp hf
  refine kc_V (ci := 5) (i := 0) (As := []) (rest := []) hok.2.2.1 C hP hS hl.1 (hok.2.1 5 0 (Nat.le_of_ble_eq_true rfl)) rfl rfl cw_X5_advance ml_X5_32 (c_X5_advance l D ca ad PL Z A hok N w  z1 q2) rfl ⟨rfl, rfl⟩ ⟨Nat.le_of_ble_eq_true rfl, Nat.le_of_ble_eq_true rfl⟩ ⟨Nat.zero_le _, Nat.zero_le _⟩ (Nat.le_of_ble_eq_true rfl) rfl dX5_readTwo_1 (fun H locs hP hS => ?_)
  refine lv_aload_n hx hb dX5_readTwo_4 rfl (lv_at hl 0 rfl) ?_
  obtain ⟨z3, q4, hf⟩ := bsp hf
  refine kc_V (ci := 5) (i := 0) (As := []) (rest := []) hok.2.2.1 C hP hS hl.1 (hok.2.1 5 0 (Nat.le_of_ble_eq_true rfl)) rfl rfl cw_X5_isToldTerm ml_X5_105 (c_X5_isToldTerm l D ca ad PL Z A hok N z1  z3.1 z3.2 q4) rfl ⟨rfl, rfl⟩ ⟨Nat.le_of_ble_eq_true rfl, Nat.le_of_ble_eq_true rfl⟩ ⟨Nat.zero_le _, Nat.zero_le _⟩ (Nat.le_of_ble_eq_true rfl) rfl dX5_readTwo_5 (fun H locs hP hS => ?_)
  refine lv_if_ne (tgt := 13) hx hb dX5_readTwo_8 (by decide) (fun c25 => ?_) (fun c25 => ?_)
  · have hf := ifn hf c25
    refine lv_aload_n hx hb dX5_readTwo_13 rfl (lv_at hl 0 rfl) ?_
    obtain ⟨g5, hf⟩ := gsp hf
    refine gt_5_2 (i := 0) C hP (hok.2.1 5 0 (Nat.le_of_ble_eq_true rfl)) lk_X5_23 dX5_readTwo_14 ?_
    refine gt_1_0 (i := (gR z3.1 5 2 0)) C hP (hok.2.1 1 (gR z3.1 5 2 0) g5) lk_X5_69 dX5_readTwo_17 ?_
    refine lv_aload_n hx hb dX5_readTwo_20 rfl (lv_at hl 0 rfl) ?_
    refine gt_5_7 (i := 0) C hP (hok.2.1 5 0 (Nat.le_of_ble_eq_true rfl)) lk_X5_50 dX5_readTwo_21 ?_
    obtain ⟨z6, q7, hf⟩ := bsp hf
    refine kc_V (ci := 7) (i := (gR z3.1 5 2 0)) (As := [.int (gF z3.1 5 7 0)]) (rest := []) hok.2.2.1 C hP hS hl.1 (hok.2.1 7 (gR z3.1 5 2 0) g5) rfl rfl cw_X7_termNamed ml_X5_108 (c_X7_termNamed l D ca ad PL Z A (okR_X hok) N z3.1 (gR z3.1 5 2 0) g5 (gF z3.1 5 7 0) z6 q7) rfl ⟨rfl, rfl⟩ ⟨Nat.le_of_ble_eq_true rfl, Nat.le_of_ble_eq_true rfl⟩ ⟨Nat.zero_le _, Nat.zero_le _⟩ (Nat.le_of_ble_eq_true rfl) rfl dX5_readTwo_24 (fun H locs hP hS => ?_)
    refine lv_istore_n (lv' := [(2, .int z6), (0, .ref (ad 5 0)), (1, .int x1)]) hx hb dX5_readTwo_27 rfl hl (by decide) rfl (fun ls hl => ?_)
    refine lv_aload_n hx hb dX5_readTwo_28 rfl (lv_at hl 1 rfl) ?_
    obtain ⟨z8, q9, hf⟩ := bsp hf
    refine kc_V (ci := 5) (i := 0) (As := []) (rest := []) hok.2.2.1 C hP hS hl.1 (hok.2.1 5 0 (Nat.le_of_ble_eq_true rfl)) rfl rfl cw_X5_advance ml_X5_32 (c_X5_advance l D ca ad PL Z A hok N z3.1  z8 q9) rfl ⟨rfl, rfl⟩ ⟨Nat.le_of_ble_eq_true rfl, Nat.le_of_ble_eq_true rfl⟩ ⟨Nat.zero_le _, Nat.zero_le _⟩ (Nat.le_of_ble_eq_true rfl) rfl dX5_readTwo_29 (fun H locs hP hS => ?_)
    refine lv_aload_n hx hb dX5_readTwo_32 rfl (lv_at hl 1 rfl) ?_
    obtain ⟨z10, q11, hf⟩ := bsp hf
    refine kc_V (ci := 5) (i := 0) (As := []) (rest := []) hok.2.2.1 C hP hS hl.1 (hok.2.1 5 0 (Nat.le_of_ble_eq_true rfl)) rfl rfl cw_X5_isToldTerm ml_X5_105 (c_X5_isToldTerm l D ca ad PL Z A hok N z8  z10.1 z10.2 q11) rfl ⟨rfl, rfl⟩ ⟨Nat.le_of_ble_eq_true rfl, Nat.le_of_ble_eq_true rfl⟩ ⟨Nat.zero_le _, Nat.zero_le _⟩ (Nat.le_of_ble_eq_true rfl) rfl dX5_readTwo_33 (fun H locs hP hS => ?_)
    refine lv_if_ne (tgt := 41) hx hb dX5_readTwo_36 (by decide) (fun c24 => ?_) (fun c24 => ?_)
    · have hf := ifn hf c24
      refine lv_aload_n hx hb dX5_readTwo_41 rfl (lv_at hl 1 rfl) ?_
      obtain ⟨g12, hf⟩ := gsp hf
      refine gt_5_2 (i := 0) C hP (hok.2.1 5 0 (Nat.le_of_ble_eq_true rfl)) lk_X5_23 dX5_readTwo_42 ?_
      refine gt_1_0 (i := (gR z10.1 5 2 0)) C hP (hok.2.1 1 (gR z10.1 5 2 0) g12) lk_X5_69 dX5_readTwo_45 ?_
      refine lv_aload_n hx hb dX5_readTwo_48 rfl (lv_at hl 1 rfl) ?_
      refine gt_5_7 (i := 0) C hP (hok.2.1 5 0 (Nat.le_of_ble_eq_true rfl)) lk_X5_50 dX5_readTwo_49 ?_
      obtain ⟨z13, q14, hf⟩ := bsp hf
      refine kc_V (ci := 7) (i := (gR z10.1 5 2 0)) (As := [.int (gF z10.1 5 7 0)]) (rest := []) hok.2.2.1 C hP hS hl.1 (hok.2.1 7 (gR z10.1 5 2 0) g12) rfl rfl cw_X7_termNamed ml_X5_108 (c_X7_termNamed l D ca ad PL Z A (okR_X hok) N z10.1 (gR z10.1 5 2 0) g12 (gF z10.1 5 7 0) z13 q14) rfl ⟨rfl, rfl⟩ ⟨Nat.le_of_ble_eq_true rfl, Nat.le_of_ble_eq_true rfl⟩ ⟨Nat.zero_le _, Nat.zero_le _⟩ (Nat.le_of_ble_eq_true rfl) rfl dX5_readTwo_52 (fun H locs hP hS => ?_)
      refine lv_istore_n (lv' := [(3, .int z13), (2, .int z6), (0, .ref (ad 5 0)), (1, .int x1)]) hx hb dX5_readTwo_55 rfl hl (by decide) rfl (fun ls hl => ?_)
      refine lv_iload_n hx hb dX5_readTwo_56 rfl (lv_at hl 3 rfl) ?_
      refine lv_if_eq (tgt := 72) hx hb dX5_readTwo_57 (by decide) (fun c23 => ?_) (fun c23 => ?_)
      · have hf := ifp hf c23
        refine lv_aload_n hx hb dX5_readTwo_72 rfl (lv_at hl 2 rfl) ?_
        refine gt_5_2 (i := 0) C hP (hok.2.1 5 0 (Nat.le_of_ble_eq_true rfl)) lk_X5_23 dX5_readTwo_73 ?_
        refine lv_iload_n hx hb dX5_readTwo_76 rfl (lv_at hl 1 rfl) ?_
        refine lv_iload_n hx hb dX5_readTwo_77 rfl (lv_at hl 0 rfl) ?_
        obtain ⟨z15, q16, hf⟩ := bsp hf
        refine kc_V (ci := 1) (i := (gR z10.1 5 2 0)) (As := [.int z6, .int z13]) (rest := []) hok.2.2.1 C hP hS hl.1 (hok.2.1 1 (gR z10.1 5 2 0) g12) rfl rfl cw_X1_comeDiff ml_X5_114 (c_X1_comeDiff l D ca ad PL Z A (okR_X hok) N z10.1 (gR z10.1 5 2 0) g12 z6 z13 z15 q16) rfl ⟨rfl, rfl⟩ ⟨Nat.le_of_ble_eq_true rfl, Nat.le_of_ble_eq_true rfl⟩ ⟨Nat.zero_le _, Nat.zero_le _⟩ (Nat.le_of_ble_eq_true rfl) rfl dX5_readTwo_78 (fun H locs hP hS => ?_)
        refine lv_aload_n hx hb dX5_readTwo_81 rfl (lv_at hl 2 rfl) ?_
        obtain ⟨z17, q18, hf⟩ := bsp hf
        refine kc_V (ci := 5) (i := 0) (As := []) (rest := []) hok.2.2.1 C hP hS hl.1 (hok.2.1 5 0 (Nat.le_of_ble_eq_true rfl)) rfl rfl cw_X5_advance ml_X5_32 (c_X5_advance l D ca ad PL Z A hok N z15  z17 q18) rfl ⟨rfl, rfl⟩ ⟨Nat.le_of_ble_eq_true rfl, Nat.le_of_ble_eq_true rfl⟩ ⟨Nat.zero_le _, Nat.zero_le _⟩ (Nat.le_of_ble_eq_true rfl) rfl dX5_readTwo_82 (fun H locs hP hS => ?_)
        refine lv_iconst (v := (1 : Int32)) hx hb dX5_readTwo_85 (by decide) ?_
        exact kr_i hok.2.2.1 C hlocks hr rfl hP hS (congrArg Prod.fst (Option.some.inj hf)) (congrArg Prod.snd (Option.some.inj hf)) dX5_readTwo_86
      · have hf := ifn hf c23
        refine lv_aload_n hx hb dX5_readTwo_60 rfl (lv_at hl 2 rfl) ?_
        refine gt_5_2 (i := 0) C hP (hok.2.1 5 0 (Nat.le_of_ble_eq_true rfl)) lk_X5_23 dX5_readTwo_61 ?_
        refine lv_iload_n hx hb dX5_readTwo_64 rfl (lv_at hl 1 rfl) ?_
        refine lv_iload_n hx hb dX5_readTwo_65 rfl (lv_at hl 0 rfl) ?_
        obtain ⟨z19, q20, hf⟩ := bsp hf
        refine kc_V (ci := 1) (i := (gR z10.1 5 2 0)) (As := [.int z6, .int z13]) (rest := []) hok.2.2.1 C hP hS hl.1 (hok.2.1 1 (gR z10.1 5 2 0) g12) rfl rfl cw_X1_comeSame ml_X5_111 (c_X1_comeSame l D ca ad PL Z A (okR_X hok) N z10.1 (gR z10.1 5 2 0) g12 z6 z13 z19 q20) rfl ⟨rfl, rfl⟩ ⟨Nat.le_of_ble_eq_true rfl, Nat.le_of_ble_eq_true rfl⟩ ⟨Nat.zero_le _, Nat.zero_le _⟩ (Nat.le_of_ble_eq_true rfl) rfl dX5_readTwo_66 (fun H locs hP hS => ?_)
        refine lv_goto (tgt := 81) hx hb dX5_readTwo_69 (by decide) ?_
        refine lv_aload_n hx hb dX5_readTwo_81 rfl (lv_at hl 2 rfl) ?_
        obtain ⟨z21, q22, hf⟩ := bsp hf
        refine kc_V (ci := 5) (i := 0) (As := []) (rest := []) hok.2.2.1 C hP hS hl.1 (hok.2.1 5 0 (Nat.le_of_ble_eq_true rfl)) rfl rfl cw_X5_advance ml_X5_32 (c_X5_advance l D ca ad PL Z A hok N z19  z21 q22) rfl ⟨rfl, rfl⟩ ⟨Nat.le_of_ble_eq_true rfl, Nat.le_of_ble_eq_true rfl⟩ ⟨Nat.zero_le _, Nat.zero_le _⟩ (Nat.le_of_ble_eq_true rfl) rfl dX5_readTwo_82 (fun H locs hP hS => ?_)
        refine lv_iconst (v := (1 : Int32)) hx hb dX5_readTwo_85 (by decide) ?_
        exact kr_i hok.2.2.1 C hlocks hr rfl hP hS (congrArg Prod.fst (Option.some.inj hf)) (congrArg Prod.snd (Option.some.inj hf)) dX5_readTwo_86
    · have hf := ifp hf c24
      refine lv_iconst (v := (0 : Int32)) hx hb dX5_readTwo_39 (by decide) ?_
      exact kr_i hok.2.2.1 C hlocks hr rfl hP hS (congrArg Prod.fst (Option.some.inj hf)) (congrArg Prod.snd (Option.some.inj hf)) dX5_readTwo_40
  · have hf := ifp hf c25
    refine lv_iconst (v := (0 : Int32)) hx hb dX5_readTwo_11 (by decide) ?_
    exact kr_i hok.2.2.1 C hlocks hr rfl hP hS (congrArg Prod.fst (Option.some.inj hf)) (congrArg Prod.snd (Option.some.inj hf)) dX5_readTwo_12
def f_X5_readLine (N : Nat) (w : Mem)  : Option (Mem × Int32) :=
  (if (gF w 5 6 0) = (1 : Int32) then
(if (gF w 5 7 0) = (4955 : Int32) then
(Option.bind (f_X5_readFunction N w ) (fun z1 => (if z1.2 = 0 ∨ z1.2 = 1 then some (z1.1, z1.2) else none)))
else
(if (gF w 5 7 0) = (85461 : Int32) then
(if (gR w 5 2 0) < 2 then (if (gF w 1 10 (gR w 5 2 0)) < (8 : Int32) then
(Option.bind (f_X5_readTwo N w (0 : Int32)) (fun z6 => (if z6.2 = 0 ∨ z6.2 = 1 then some (z6.1, z6.2) else none)))
else
(Option.bind (f_X5_fail N w (4 : Int32)) (fun z9 => (if z9.2 = 0 ∨ z9.2 = 1 then some (z9.1, z9.2) else none)))) else none)
else
(if (gF w 5 7 0) = (375062 : Int32) then
(if (gR w 5 2 0) < 2 then (if (gF w 1 9 (gR w 5 2 0)) < (12 : Int32) then
(Option.bind (f_X5_readTwo N w (1 : Int32)) (fun z15 => (if z15.2 = 0 ∨ z15.2 = 1 then some (z15.1, z15.2) else none)))
else
(Option.bind (f_X5_fail N w (4 : Int32)) (fun z18 => (if z18.2 = 0 ∨ z18.2 = 1 then some (z18.1, z18.2) else none)))) else none)
else
(if (gF w 5 7 0) = (397804 : Int32) then
(Option.bind (f_X5_readTerm N w ) (fun z23 => (if z23.2 = 0 ∨ z23.2 = 1 then some (z23.1, z23.2) else none)))
else
(Option.bind (f_X5_fail N w (1 : Int32)) (fun z27 => (if z27.2 = 0 ∨ z27.2 = 1 then some (z27.1, z27.2) else none)))))))
else
(Option.bind (f_X5_fail N w (1 : Int32)) (fun z30 => (if z30.2 = 0 ∨ z30.2 = 1 then some (z30.1, z30.2) else none))))
set_option maxRecDepth 100000 in
set_option maxHeartbeats 4000000 in
theorem c_X5_readLine (l : Launch) (D : va_G) (ca : Nat → ClassId) (ad : Nat → Nat → Nat) (PL : List (Nat × Nat)) (Z : State → Prop) (A : Nat → Prop) (hok : okc bR Z A ad PL) (N : Nat) (w : Mem)  (w' : Mem) (r : Int32) (hf : f_X5_readLine N w  = some (w', r)) : CT l yX5_readLine (wsy yX5_readLine cX5_readLine 1 (some .boolean)) (rmk 5) D ca ad PL Z A [.ref (ad 5 0)] w w' (some (.int r)) := by
  refine Met.ofW (cc := cX5_readLine) (maxL := 1) (ret := (some .boolean)) (by decide +kernel) rfl ?_
  intro p e s m args below meth c s₁ B hml hv
  obtain ⟨rfl, hP, hK, hZ⟩ := hv
  have hx := B.exec
  have hb := B.bytes
  have hr := B.returns
  have hlocks := B.notSynchronized
  have hts : ∀ w ∈ ALL, w.before _ s = true := fun w hw => atoms_spec (ws := wsy yX5_readLine cX5_readLine 1 (some .boolean)) B.pre w (List.mem_cons_of_mem _ hw)
  have hown : s.vm.findClass RX5 = some m.cls := findClass_of_methodNamed B.named
  have C : CX p s m _ c cX5_readLine RX5 1 D ca Z := ⟨hx, hb, hml, hown, hts, hK, hZ⟩
  have hS : va_S A s.heap s.heap [] := va_S.rf
  have hl := lv_entry ([.ref (ad 5 0)]) (n := 1) (Nat.le_of_ble_eq_true rfl)
  rw [lg_entry_eq]
  generalize (lg_sl ([.ref (ad 5 0)]) ++ List.replicate (1 - (lg_sl ([.ref (ad 5 0)])).length) Slot.unset).toArray = ls at hl ⊢
  have hl : lv_has ls 1 [(0, .ref (ad 5 0))] := hl
  show W p l e (rmk 5) s m _ below meth c s.heap [] 0 0 _ _
  unfold f_X5_readLine at hf
  -- walk
  refine lv_aload_n hx hb dX5_readLine_0 rfl (lv_at hl 0 rfl) ?_
  refine gt_5_6 (i := 0) C hP (hok.2.1 5 0 (Nat.le_of_ble_eq_true rfl)) lk_X5_39 dX5_readLine_1 ?_
  refine lv_iconst (v := (1 : Int32)) hx hb dX5_readLine_4 (by decide) ?_
  refine lv_icmp_eq (tgt := 14) hx hb dX5_readLine_5 (by decide) (fun c33 => ?_) (fun c33 => ?_)
  · have hf := ifp hf c33
    refine lv_aload_n hx hb dX5_readLine_14 rfl (lv_at hl 0 rfl) ?_
    refine gt_5_7 (i := 0) C hP (hok.2.1 5 0 (Nat.le_of_ble_eq_true rfl)) lk_X5_50 dX5_readLine_15 ?_
    by_cases c4 : (gF w 5 7 0) = (4955 : Int32)
    · refine lv_lookup (tgt := 60) hx hb dX5_readLine_18 (by decide) (by rw [c4] <;> rfl) (by decide) ?_
      have hf := ifp hf c4
      refine lv_aload_n hx hb dX5_readLine_60 rfl (lv_at hl 0 rfl) ?_
      obtain ⟨z1, q2, hf⟩ := bsp hf
      refine kc_V (ci := 5) (i := 0) (As := []) (rest := []) hok.2.2.1 C hP hS hl.1 (hok.2.1 5 0 (Nat.le_of_ble_eq_true rfl)) rfl rfl cw_X5_readFunction ml_X5_53 (c_X5_readFunction l D ca ad PL Z A hok N w  z1.1 z1.2 q2) rfl ⟨rfl, rfl⟩ ⟨Nat.le_of_ble_eq_true rfl, Nat.le_of_ble_eq_true rfl⟩ ⟨Nat.zero_le _, Nat.zero_le _⟩ (Nat.le_of_ble_eq_true rfl) rfl dX5_readLine_61 (fun H locs hP hS => ?_)
      obtain ⟨b3, hf⟩ := gsp hf
      exact kr_i hok.2.2.1 C hlocks hr (nar_z b3) hP hS (congrArg Prod.fst (Option.some.inj hf)) (congrArg Prod.snd (Option.some.inj hf)) dX5_readLine_64
    have hf := ifn hf c4
    by_cases c13 : (gF w 5 7 0) = (85461 : Int32)
    · refine lv_lookup (tgt := 96) hx hb dX5_readLine_18 (by decide) (by rw [c13] <;> rfl) (by decide) ?_
      have hf := ifp hf c13
      refine lv_aload_n hx hb dX5_readLine_96 rfl (lv_at hl 0 rfl) ?_
      obtain ⟨g5, hf⟩ := gsp hf
      refine gt_5_2 (i := 0) C hP (hok.2.1 5 0 (Nat.le_of_ble_eq_true rfl)) lk_X5_23 dX5_readLine_97 ?_
      refine gt_1_10 (i := (gR w 5 2 0)) C hP (hok.2.1 1 (gR w 5 2 0) g5) lk_X5_66 dX5_readLine_100 ?_
      refine lv_bipush (v := (8 : Int32)) hx hb dX5_readLine_103 (by decide) ?_
      refine lv_icmp_lt (tgt := 116) hx hb dX5_readLine_105 (by decide) (fun c12 => ?_) (fun c12 => ?_)
      · have hf := ifp hf c12
        refine lv_aload_n hx hb dX5_readLine_116 rfl (lv_at hl 0 rfl) ?_
        refine lv_iconst (v := (0 : Int32)) hx hb dX5_readLine_117 (by decide) ?_
        obtain ⟨z6, q7, hf⟩ := bsp hf
        refine kc_V (ci := 5) (i := 0) (As := [.int (0 : Int32)]) (rest := []) hok.2.2.1 C hP hS hl.1 (hok.2.1 5 0 (Nat.le_of_ble_eq_true rfl)) rfl rfl cw_X5_readTwo ml_X5_62 (c_X5_readTwo l D ca ad PL Z A hok N w (0 : Int32) z6.1 z6.2 q7) rfl ⟨rfl, rfl⟩ ⟨Nat.le_of_ble_eq_true rfl, Nat.le_of_ble_eq_true rfl⟩ ⟨Nat.zero_le _, Nat.zero_le _⟩ (Nat.le_of_ble_eq_true rfl) rfl dX5_readLine_118 (fun H locs hP hS => ?_)
        obtain ⟨b8, hf⟩ := gsp hf
        exact kr_i hok.2.2.1 C hlocks hr (nar_z b8) hP hS (congrArg Prod.fst (Option.some.inj hf)) (congrArg Prod.snd (Option.some.inj hf)) dX5_readLine_121
      · have hf := ifn hf c12
        refine lv_aload_n hx hb dX5_readLine_108 rfl (lv_at hl 0 rfl) ?_
        refine lv_iconst (v := (4 : Int32)) hx hb dX5_readLine_109 (by decide) ?_
        obtain ⟨z9, q10, hf⟩ := bsp hf
        refine kc_V (ci := 5) (i := 0) (As := [.int (4 : Int32)]) (rest := []) hok.2.2.1 C hP hS hl.1 (hok.2.1 5 0 (Nat.le_of_ble_eq_true rfl)) rfl rfl cw_X5_fail ml_X5_46 (c_X5_fail l D ca ad PL Z A hok N w (4 : Int32) z9.1 z9.2 q10) rfl ⟨rfl, rfl⟩ ⟨Nat.le_of_ble_eq_true rfl, Nat.le_of_ble_eq_true rfl⟩ ⟨Nat.zero_le _, Nat.zero_le _⟩ (Nat.le_of_ble_eq_true rfl) rfl dX5_readLine_110 (fun H locs hP hS => ?_)
        refine lv_goto (tgt := 121) hx hb dX5_readLine_113 (by decide) ?_
        obtain ⟨b11, hf⟩ := gsp hf
        exact kr_i hok.2.2.1 C hlocks hr (nar_z b11) hP hS (congrArg Prod.fst (Option.some.inj hf)) (congrArg Prod.snd (Option.some.inj hf)) dX5_readLine_121
    have hf := ifn hf c13
    by_cases c22 : (gF w 5 7 0) = (375062 : Int32)
    · refine lv_lookup (tgt := 70) hx hb dX5_readLine_18 (by decide) (by rw [c22] <;> rfl) (by decide) ?_
      have hf := ifp hf c22
      refine lv_aload_n hx hb dX5_readLine_70 rfl (lv_at hl 0 rfl) ?_
      obtain ⟨g14, hf⟩ := gsp hf
      refine gt_5_2 (i := 0) C hP (hok.2.1 5 0 (Nat.le_of_ble_eq_true rfl)) lk_X5_23 dX5_readLine_71 ?_
      refine gt_1_9 (i := (gR w 5 2 0)) C hP (hok.2.1 1 (gR w 5 2 0) g14) lk_X5_59 dX5_readLine_74 ?_
      refine lv_bipush (v := (12 : Int32)) hx hb dX5_readLine_77 (by decide) ?_
      refine lv_icmp_lt (tgt := 90) hx hb dX5_readLine_79 (by decide) (fun c21 => ?_) (fun c21 => ?_)
      · have hf := ifp hf c21
        refine lv_aload_n hx hb dX5_readLine_90 rfl (lv_at hl 0 rfl) ?_
        refine lv_iconst (v := (1 : Int32)) hx hb dX5_readLine_91 (by decide) ?_
        obtain ⟨z15, q16, hf⟩ := bsp hf
        refine kc_V (ci := 5) (i := 0) (As := [.int (1 : Int32)]) (rest := []) hok.2.2.1 C hP hS hl.1 (hok.2.1 5 0 (Nat.le_of_ble_eq_true rfl)) rfl rfl cw_X5_readTwo ml_X5_62 (c_X5_readTwo l D ca ad PL Z A hok N w (1 : Int32) z15.1 z15.2 q16) rfl ⟨rfl, rfl⟩ ⟨Nat.le_of_ble_eq_true rfl, Nat.le_of_ble_eq_true rfl⟩ ⟨Nat.zero_le _, Nat.zero_le _⟩ (Nat.le_of_ble_eq_true rfl) rfl dX5_readLine_92 (fun H locs hP hS => ?_)
        obtain ⟨b17, hf⟩ := gsp hf
        exact kr_i hok.2.2.1 C hlocks hr (nar_z b17) hP hS (congrArg Prod.fst (Option.some.inj hf)) (congrArg Prod.snd (Option.some.inj hf)) dX5_readLine_95
      · have hf := ifn hf c21
        refine lv_aload_n hx hb dX5_readLine_82 rfl (lv_at hl 0 rfl) ?_
        refine lv_iconst (v := (4 : Int32)) hx hb dX5_readLine_83 (by decide) ?_
        obtain ⟨z18, q19, hf⟩ := bsp hf
        refine kc_V (ci := 5) (i := 0) (As := [.int (4 : Int32)]) (rest := []) hok.2.2.1 C hP hS hl.1 (hok.2.1 5 0 (Nat.le_of_ble_eq_true rfl)) rfl rfl cw_X5_fail ml_X5_46 (c_X5_fail l D ca ad PL Z A hok N w (4 : Int32) z18.1 z18.2 q19) rfl ⟨rfl, rfl⟩ ⟨Nat.le_of_ble_eq_true rfl, Nat.le_of_ble_eq_true rfl⟩ ⟨Nat.zero_le _, Nat.zero_le _⟩ (Nat.le_of_ble_eq_true rfl) rfl dX5_readLine_84 (fun H locs hP hS => ?_)
        refine lv_goto (tgt := 95) hx hb dX5_readLine_87 (by decide) ?_
        obtain ⟨b20, hf⟩ := gsp hf
        exact kr_i hok.2.2.1 C hlocks hr (nar_z b20) hP hS (congrArg Prod.fst (Option.some.inj hf)) (congrArg Prod.snd (Option.some.inj hf)) dX5_readLine_95
    have hf := ifn hf c22
    by_cases c26 : (gF w 5 7 0) = (397804 : Int32)
    · refine lv_lookup (tgt := 65) hx hb dX5_readLine_18 (by decide) (by rw [c26] <;> rfl) (by decide) ?_
      have hf := ifp hf c26
      refine lv_aload_n hx hb dX5_readLine_65 rfl (lv_at hl 0 rfl) ?_
      obtain ⟨z23, q24, hf⟩ := bsp hf
      refine kc_V (ci := 5) (i := 0) (As := []) (rest := []) hok.2.2.1 C hP hS hl.1 (hok.2.1 5 0 (Nat.le_of_ble_eq_true rfl)) rfl rfl cw_X5_readTerm ml_X5_56 (c_X5_readTerm l D ca ad PL Z A hok N w  z23.1 z23.2 q24) rfl ⟨rfl, rfl⟩ ⟨Nat.le_of_ble_eq_true rfl, Nat.le_of_ble_eq_true rfl⟩ ⟨Nat.zero_le _, Nat.zero_le _⟩ (Nat.le_of_ble_eq_true rfl) rfl dX5_readLine_66 (fun H locs hP hS => ?_)
      obtain ⟨b25, hf⟩ := gsp hf
      exact kr_i hok.2.2.1 C hlocks hr (nar_z b25) hP hS (congrArg Prod.fst (Option.some.inj hf)) (congrArg Prod.snd (Option.some.inj hf)) dX5_readLine_69
    have hf := ifn hf c26
    have t_c4 : ¬ ((gF w 5 7 0)).toInt = 4955 := fun h => c4 (Int32.toInt_inj.mp (h.trans (by decide)))
    have t_c13 : ¬ ((gF w 5 7 0)).toInt = 85461 := fun h => c13 (Int32.toInt_inj.mp (h.trans (by decide)))
    have t_c22 : ¬ ((gF w 5 7 0)).toInt = 375062 := fun h => c22 (Int32.toInt_inj.mp (h.trans (by decide)))
    have t_c26 : ¬ ((gF w 5 7 0)).toInt = 397804 := fun h => c26 (Int32.toInt_inj.mp (h.trans (by decide)))
    have s_c4 : ¬ 4955 = ((gF w 5 7 0)).toInt := fun h => t_c4 h.symm
    have s_c13 : ¬ 85461 = ((gF w 5 7 0)).toInt := fun h => t_c13 h.symm
    have s_c22 : ¬ 375062 = ((gF w 5 7 0)).toInt := fun h => t_c22 h.symm
    have s_c26 : ¬ 397804 = ((gF w 5 7 0)).toInt := fun h => t_c26 h.symm
    refine lv_lookup (off := 104) (tgt := 122) hx hb dX5_readLine_18 (by decide) (by simp [Op.lookupswitch.offset, s_c4, s_c13, s_c22, s_c26]) (by decide) ?_
    refine lv_aload_n hx hb dX5_readLine_122 rfl (lv_at hl 0 rfl) ?_
    refine lv_iconst (v := (1 : Int32)) hx hb dX5_readLine_123 (by decide) ?_
    obtain ⟨z27, q28, hf⟩ := bsp hf
    refine kc_V (ci := 5) (i := 0) (As := [.int (1 : Int32)]) (rest := []) hok.2.2.1 C hP hS hl.1 (hok.2.1 5 0 (Nat.le_of_ble_eq_true rfl)) rfl rfl cw_X5_fail ml_X5_46 (c_X5_fail l D ca ad PL Z A hok N w (1 : Int32) z27.1 z27.2 q28) rfl ⟨rfl, rfl⟩ ⟨Nat.le_of_ble_eq_true rfl, Nat.le_of_ble_eq_true rfl⟩ ⟨Nat.zero_le _, Nat.zero_le _⟩ (Nat.le_of_ble_eq_true rfl) rfl dX5_readLine_124 (fun H locs hP hS => ?_)
    obtain ⟨b29, hf⟩ := gsp hf
    exact kr_i hok.2.2.1 C hlocks hr (nar_z b29) hP hS (congrArg Prod.fst (Option.some.inj hf)) (congrArg Prod.snd (Option.some.inj hf)) dX5_readLine_127
  · have hf := ifn hf c33
    refine lv_aload_n hx hb dX5_readLine_8 rfl (lv_at hl 0 rfl) ?_
    refine lv_iconst (v := (1 : Int32)) hx hb dX5_readLine_9 (by decide) ?_
    obtain ⟨z30, q31, hf⟩ := bsp hf
    refine kc_V (ci := 5) (i := 0) (As := [.int (1 : Int32)]) (rest := []) hok.2.2.1 C hP hS hl.1 (hok.2.1 5 0 (Nat.le_of_ble_eq_true rfl)) rfl rfl cw_X5_fail ml_X5_46 (c_X5_fail l D ca ad PL Z A hok N w (1 : Int32) z30.1 z30.2 q31) rfl ⟨rfl, rfl⟩ ⟨Nat.le_of_ble_eq_true rfl, Nat.le_of_ble_eq_true rfl⟩ ⟨Nat.zero_le _, Nat.zero_le _⟩ (Nat.le_of_ble_eq_true rfl) rfl dX5_readLine_10 (fun H locs hP hS => ?_)
    obtain ⟨b32, hf⟩ := gsp hf
    exact kr_i hok.2.2.1 C hlocks hr (nar_z b32) hP hS (congrArg Prod.fst (Option.some.inj hf)) (congrArg Prod.snd (Option.some.inj hf)) dX5_readLine_13
def f_X5_readText_63 (N : Nat) (w : Mem)  : Option (Mem × Int32) :=
  (Option.bind (f_X5_fail N w (1 : Int32)) (fun z7 => (if z7.2 = 0 ∨ z7.2 = 1 then some (z7.1, z7.2) else none)))
def lp_X5_readText_13 (k : Mem → Option (Mem × Int32)) (N : Nat)  : Nat → Mem → Int32 → Option (Mem × Int32)
  | 0, _, _ => none
  | n + 1, w, v1 => (if (500 : Int32) < v1 then
(k w)
else
(Option.bind (f_X5_readLine N w ) (fun z10 => (if z10.2 = (0 : Int32) then
some (z10.1, (0 : Int32))
else
(if (gF z10.1 5 6 0) = (0 : Int32) then
some (z10.1, (1 : Int32))
else
(Option.bind (f_X5_isSign N z10.1 (59 : Int32)) (fun z12 => (if z12 = (0 : Int32) then
(Option.bind (f_X5_fail N z10.1 (1 : Int32)) (fun z16 => (if z16.2 = 0 ∨ z16.2 = 1 then some (z16.1, z16.2) else none)))
else
(Option.bind (f_X5_advance N z10.1 ) (fun z14 => (lp_X5_readText_13 k N    n z14 (v1 + (1 : Int32)))))))))))))
def f_X5_readText (N : Nat) (w : Mem)  : Option (Mem × Int32) :=
  (if (gR w 5 2 0) < 2 then (Option.bind (f_X1_clear N w (gR w 5 2 0)) (fun z2 => (Option.bind (f_X5_advance N z2 ) (fun z4 => (lp_X5_readText_13 (fun (w_6 : Mem) => (f_X5_readText_63 N w_6   )) N    N z4 (0 : Int32)))))) else none)
set_option maxRecDepth 100000 in
set_option maxHeartbeats 4000000 in
theorem c_X5_readText (l : Launch) (D : va_G) (ca : Nat → ClassId) (ad : Nat → Nat → Nat) (PL : List (Nat × Nat)) (Z : State → Prop) (A : Nat → Prop) (hok : okc bR Z A ad PL) (N : Nat) (w : Mem)  (w' : Mem) (r : Int32) (hf : f_X5_readText N w  = some (w', r)) : CT l yX5_readText (wsy yX5_readText cX5_readText 2 (some .boolean)) (rmk 6) D ca ad PL Z A [.ref (ad 5 0)] w w' (some (.int r)) := by
  refine Met.ofW (cc := cX5_readText) (maxL := 2) (ret := (some .boolean)) (by decide +kernel) rfl ?_
  intro p e s m args below meth c s₁ B hml hv
  obtain ⟨rfl, hP, hK, hZ⟩ := hv
  have hx := B.exec
  have hb := B.bytes
  have hr := B.returns
  have hlocks := B.notSynchronized
  have hts : ∀ w ∈ ALL, w.before _ s = true := fun w hw => atoms_spec (ws := wsy yX5_readText cX5_readText 2 (some .boolean)) B.pre w (List.mem_cons_of_mem _ hw)
  have hown : s.vm.findClass RX5 = some m.cls := findClass_of_methodNamed B.named
  have C : CX p s m _ c cX5_readText RX5 2 D ca Z := ⟨hx, hb, hml, hown, hts, hK, hZ⟩
  have hS : va_S A s.heap s.heap [] := va_S.rf
  have hl := lv_entry ([.ref (ad 5 0)]) (n := 2) (Nat.le_of_ble_eq_true rfl)
  rw [lg_entry_eq]
  generalize (lg_sl ([.ref (ad 5 0)]) ++ List.replicate (2 - (lg_sl ([.ref (ad 5 0)])).length) Slot.unset).toArray = ls at hl ⊢
  have hl : lv_has ls 2 [(0, .ref (ad 5 0))] := hl
  show W p l e (rmk 6) s m _ below meth c s.heap [] 0 0 _ _
  have P_f_X5_readText_63 : ∀ (w : Mem), f_X5_readText_63 N w    = some (w', r) → WP p l e (rmk 6) s m [.ref (ad 5 0)].toArray below meth c D ca ad PL A (MQ below (qcR D ca ad PL Z A w' (some (.int r))) [.ref (ad 5 0)].toArray s 0 0 A) 2 63 [] [(0, .ref (ad 5 0))] w := by
    intro w hf _ _ ls hP hS hl
    unfold f_X5_readText_63 at hf
    refine lv_aload_n hx hb dX5_readText_63 rfl (lv_at hl 0 rfl) ?_
    refine lv_iconst (v := (1 : Int32)) hx hb dX5_readText_64 (by decide) ?_
    obtain ⟨z7, q8, hf⟩ := bsp hf
    refine kc_V (ci := 5) (i := 0) (As := [.int (1 : Int32)]) (rest := []) hok.2.2.1 C hP hS hl.1 (hok.2.1 5 0 (Nat.le_of_ble_eq_true rfl)) rfl rfl cw_X5_fail ml_X5_46 (c_X5_fail l D ca ad PL Z A hok N w (1 : Int32) z7.1 z7.2 q8) rfl ⟨rfl, rfl⟩ ⟨Nat.le_of_ble_eq_true rfl, Nat.le_of_ble_eq_true rfl⟩ ⟨Nat.zero_le _, Nat.zero_le _⟩ (Nat.le_of_ble_eq_true rfl) rfl dX5_readText_65 (fun H locs hP hS => ?_)
    obtain ⟨b9, hf⟩ := gsp hf
    exact kr_i hok.2.2.1 C hlocks hr (nar_z b9) hP hS (congrArg Prod.fst (Option.some.inj hf)) (congrArg Prod.snd (Option.some.inj hf)) dX5_readText_68
  have L_lp_X5_readText_13 : ∀ (k : Mem → Option (Mem × Int32)) (hk : ∀ (w : Mem), k w = some (w', r) → WP p l e (rmk 6) s m [.ref (ad 5 0)].toArray below meth c D ca ad PL A (MQ below (qcR D ca ad PL Z A w' (some (.int r))) [.ref (ad 5 0)].toArray s 0 0 A) 2 63 [] [(0, .ref (ad 5 0))] w) (n : Nat) (w : Mem) (v1 : Int32), lp_X5_readText_13 k N    n w v1 = some (w', r) → WP p l e (rmk 6) s m [.ref (ad 5 0)].toArray below meth c D ca ad PL A (MQ below (qcR D ca ad PL Z A w' (some (.int r))) [.ref (ad 5 0)].toArray s 0 0 A) 2 13 [] [(0, .ref (ad 5 0)), (1, .int v1)] w := by
    intro k hk n
    induction n with
    | zero => intro w v1 hf; rw [lp_X5_readText_13] at hf; cases hf
    | succ n ih =>
      intro w v1 hf _ _ ls hP hS hl
      rw [lp_X5_readText_13] at hf
      refine lv_iload_n hx hb dX5_readText_13 rfl (lv_at hl 1 rfl) ?_
      refine lv_sipush (v := (500 : Int32)) hx hb dX5_readText_14 (by decide) ?_
      refine lv_icmp_gt (tgt := 63) hx hb dX5_readText_17 (by decide) (fun c22 => ?_) (fun c22 => ?_)
      · have hf := ifp hf c22
        exact hk w hf _ _ ls hP hS (lv_sub hl [0] rfl)
      · have hf := ifn hf c22
        refine lv_aload_n hx hb dX5_readText_20 rfl (lv_at hl 0 rfl) ?_
        obtain ⟨z10, q11, hf⟩ := bsp hf
        refine kc_V (ci := 5) (i := 0) (As := []) (rest := []) hok.2.2.1 C hP hS hl.1 (hok.2.1 5 0 (Nat.le_of_ble_eq_true rfl)) rfl rfl cw_X5_readLine ml_X5_35 (c_X5_readLine l D ca ad PL Z A hok N w  z10.1 z10.2 q11) rfl ⟨rfl, rfl⟩ ⟨Nat.le_of_ble_eq_true rfl, Nat.le_of_ble_eq_true rfl⟩ ⟨Nat.zero_le _, Nat.zero_le _⟩ (Nat.le_of_ble_eq_true rfl) rfl dX5_readText_21 (fun H locs hP hS => ?_)
        refine lv_if_ne (tgt := 29) hx hb dX5_readText_24 (by decide) (fun c21 => ?_) (fun c21 => ?_)
        · have hf := ifn hf c21
          refine lv_aload_n hx hb dX5_readText_29 rfl (lv_at hl 0 rfl) ?_
          refine gt_5_6 (i := 0) C hP (hok.2.1 5 0 (Nat.le_of_ble_eq_true rfl)) lk_X5_39 dX5_readText_30 ?_
          refine lv_if_ne (tgt := 38) hx hb dX5_readText_33 (by decide) (fun c20 => ?_) (fun c20 => ?_)
          · have hf := ifn hf c20
            refine lv_aload_n hx hb dX5_readText_38 rfl (lv_at hl 0 rfl) ?_
            refine lv_bipush (v := (59 : Int32)) hx hb dX5_readText_39 (by decide) ?_
            obtain ⟨z12, q13, hf⟩ := bsp hf
            refine kc_V (ci := 5) (i := 0) (As := [.int (59 : Int32)]) (rest := []) hok.2.2.1 C hP hS hl.1 (hok.2.1 5 0 (Nat.le_of_ble_eq_true rfl)) rfl rfl cw_X5_isSign ml_X5_42 (c_X5_isSign l D ca ad PL Z A hok N z10.1 (59 : Int32) z12 q13) rfl ⟨rfl, rfl⟩ ⟨Nat.le_of_ble_eq_true rfl, Nat.le_of_ble_eq_true rfl⟩ ⟨Nat.zero_le _, Nat.zero_le _⟩ (Nat.le_of_ble_eq_true rfl) rfl dX5_readText_41 (fun H locs hP hS => ?_)
            refine lv_if_ne (tgt := 53) hx hb dX5_readText_44 (by decide) (fun c19 => ?_) (fun c19 => ?_)
            · have hf := ifn hf c19
              refine lv_aload_n hx hb dX5_readText_53 rfl (lv_at hl 0 rfl) ?_
              obtain ⟨z14, q15, hf⟩ := bsp hf
              refine kc_V (ci := 5) (i := 0) (As := []) (rest := []) hok.2.2.1 C hP hS hl.1 (hok.2.1 5 0 (Nat.le_of_ble_eq_true rfl)) rfl rfl cw_X5_advance ml_X5_32 (c_X5_advance l D ca ad PL Z A hok N z10.1  z14 q15) rfl ⟨rfl, rfl⟩ ⟨Nat.le_of_ble_eq_true rfl, Nat.le_of_ble_eq_true rfl⟩ ⟨Nat.zero_le _, Nat.zero_le _⟩ (Nat.le_of_ble_eq_true rfl) rfl dX5_readText_54 (fun H locs hP hS => ?_)
              refine lv_iinc (v := (v1 + (1 : Int32))) (lv' := [(1, .int (v1 + (1 : Int32))), (0, .ref (ad 5 0))]) hx hb dX5_readText_57 hl (k := 1) rfl rfl (by decide) rfl (fun ls hl => ?_)
              refine lv_goto (tgt := 13) hx hb dX5_readText_60 (by decide) ?_
              exact ih z14 (v1 + (1 : Int32)) hf _ _ ls hP hS (lv_sub hl [1, 0] rfl)
            · have hf := ifp hf c19
              refine lv_aload_n hx hb dX5_readText_47 rfl (lv_at hl 0 rfl) ?_
              refine lv_iconst (v := (1 : Int32)) hx hb dX5_readText_48 (by decide) ?_
              obtain ⟨z16, q17, hf⟩ := bsp hf
              refine kc_V (ci := 5) (i := 0) (As := [.int (1 : Int32)]) (rest := []) hok.2.2.1 C hP hS hl.1 (hok.2.1 5 0 (Nat.le_of_ble_eq_true rfl)) rfl rfl cw_X5_fail ml_X5_46 (c_X5_fail l D ca ad PL Z A hok N z10.1 (1 : Int32) z16.1 z16.2 q17) rfl ⟨rfl, rfl⟩ ⟨Nat.le_of_ble_eq_true rfl, Nat.le_of_ble_eq_true rfl⟩ ⟨Nat.zero_le _, Nat.zero_le _⟩ (Nat.le_of_ble_eq_true rfl) rfl dX5_readText_49 (fun H locs hP hS => ?_)
              obtain ⟨b18, hf⟩ := gsp hf
              exact kr_i hok.2.2.1 C hlocks hr (nar_z b18) hP hS (congrArg Prod.fst (Option.some.inj hf)) (congrArg Prod.snd (Option.some.inj hf)) dX5_readText_52
          · have hf := ifp hf c20
            refine lv_iconst (v := (1 : Int32)) hx hb dX5_readText_36 (by decide) ?_
            exact kr_i hok.2.2.1 C hlocks hr rfl hP hS (congrArg Prod.fst (Option.some.inj hf)) (congrArg Prod.snd (Option.some.inj hf)) dX5_readText_37
        · have hf := ifp hf c21
          refine lv_iconst (v := (0 : Int32)) hx hb dX5_readText_27 (by decide) ?_
          exact kr_i hok.2.2.1 C hlocks hr rfl hP hS (congrArg Prod.fst (Option.some.inj hf)) (congrArg Prod.snd (Option.some.inj hf)) dX5_readText_28
  unfold f_X5_readText at hf
  -- walk
  refine lv_aload_n hx hb dX5_readText_0 rfl (lv_at hl 0 rfl) ?_
  obtain ⟨g1, hf⟩ := gsp hf
  refine gt_5_2 (i := 0) C hP (hok.2.1 5 0 (Nat.le_of_ble_eq_true rfl)) lk_X5_23 dX5_readText_1 ?_
  obtain ⟨z2, q3, hf⟩ := bsp hf
  refine kc_V (ci := 1) (i := (gR w 5 2 0)) (As := []) (rest := []) hok.2.2.1 C hP hS hl.1 (hok.2.1 1 (gR w 5 2 0) g1) rfl rfl cw_X1_clear ml_X5_27 (c_X1_clear l D ca ad PL Z A (okR_X hok) N w (gR w 5 2 0) g1 z2 q3) rfl ⟨rfl, rfl⟩ ⟨Nat.le_of_ble_eq_true rfl, Nat.le_of_ble_eq_true rfl⟩ ⟨Nat.zero_le _, Nat.zero_le _⟩ (Nat.le_of_ble_eq_true rfl) rfl dX5_readText_4 (fun H locs hP hS => ?_)
  refine lv_aload_n hx hb dX5_readText_7 rfl (lv_at hl 0 rfl) ?_
  obtain ⟨z4, q5, hf⟩ := bsp hf
  refine kc_V (ci := 5) (i := 0) (As := []) (rest := []) hok.2.2.1 C hP hS hl.1 (hok.2.1 5 0 (Nat.le_of_ble_eq_true rfl)) rfl rfl cw_X5_advance ml_X5_32 (c_X5_advance l D ca ad PL Z A hok N z2  z4 q5) rfl ⟨rfl, rfl⟩ ⟨Nat.le_of_ble_eq_true rfl, Nat.le_of_ble_eq_true rfl⟩ ⟨Nat.zero_le _, Nat.zero_le _⟩ (Nat.le_of_ble_eq_true rfl) rfl dX5_readText_8 (fun H locs hP hS => ?_)
  refine lv_iconst (v := (0 : Int32)) hx hb dX5_readText_11 (by decide) ?_
  refine lv_istore_n (lv' := [(1, .int (0 : Int32)), (0, .ref (ad 5 0))]) hx hb dX5_readText_12 rfl hl (by decide) rfl (fun ls hl => ?_)
  exact L_lp_X5_readText_13 _ (fun w_6 hf H locs ls hP hS hl => P_f_X5_readText_63 w_6 hf _ _ ls hP hS (lv_sub hl [0] rfl)) N z4 (0 : Int32) hf _ _ ls hP hS (lv_sub hl [1, 0] rfl)
