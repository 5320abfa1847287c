def f_X9_thrown (N : Nat) (w : Mem)  : Option (Int32) :=
  some (gF w 9 0 0)
set_option maxRecDepth 100000 in
set_option maxHeartbeats 4000000 in
theorem c_X9_thrown (l : Launch) (D : va_G) (ca : Nat → ClassId) (ad : Nat → Nat → Nat) (PL : List (Nat × Nat)) (Z : State → Prop) (A : Nat → Prop) (hok : okc bM Z A ad PL) (N : Nat) (w : Mem)  (r : Int32) (hf : f_X9_thrown N w  = some r) : CT l yX9_thrown (wsy yX9_thrown cX9_thrown 1 (some .int)) (rmk 0) D ca ad PL Z A [.ref (ad 9 0)] w w (some (.int r)) := by
  refine Met.ofW (cc := cX9_thrown) (maxL := 1) (ret := (some .int)) (by decide +kernel) rfl ?_
  intro p e s m args below meth c s₁ B hml hv
  obtain ⟨rfl, hP, hK, hZ⟩ := hv
  have hx := B.exec
  have hb := B.bytes
  have hr := B.returns
  have hlocks := B.notSynchronized
  have hts : ∀ w ∈ ALL, w.before _ s = true := fun w hw => atoms_spec (ws := wsy yX9_thrown cX9_thrown 1 (some .int)) B.pre w (List.mem_cons_of_mem _ hw)
  have hown : s.vm.findClass RX9 = some m.cls := findClass_of_methodNamed B.named
  have C : CX p s m _ c cX9_thrown RX9 1 D ca Z := ⟨hx, hb, hml, hown, hts, hK, hZ⟩
  have hS : va_S A s.heap s.heap [] := va_S.rf
  have hl := lv_entry ([.ref (ad 9 0)]) (n := 1) (Nat.le_of_ble_eq_true rfl)
  rw [lg_entry_eq]
  generalize (lg_sl ([.ref (ad 9 0)]) ++ List.replicate (1 - (lg_sl ([.ref (ad 9 0)])).length) Slot.unset).toArray = ls at hl ⊢
  have hl : lv_has ls 1 [(0, .ref (ad 9 0))] := hl
  show W p l e (rmk 0) s m _ below meth c s.heap [] 0 0 _ _
  unfold f_X9_thrown at hf
  -- walk
  refine lv_aload_n hx hb dX9_thrown_0 rfl (lv_at hl 0 rfl) ?_
  refine gt_9_0 (i := 0) C hP (hok.2.1 9 0 (Nat.le_of_ble_eq_true rfl)) lk_X9_103 dX9_thrown_1 ?_
  exact kr_i hok.2.2 C hlocks hr rfl hP hS rfl (Option.some.inj hf) dX9_thrown_4
def f_X9_in (N : Nat) (w : Mem) (x0 : Int32) (x1 : Int32) (x2 : Int32) : Option (Int32) :=
  (if x0 < x1 then
some (0 : Int32)
else
(if x2 < x0 then
some (0 : Int32)
else
some (1 : Int32)))
set_option maxRecDepth 100000 in
set_option maxHeartbeats 4000000 in
theorem c_X9_in (l : Launch) (D : va_G) (ca : Nat → ClassId) (ad : Nat → Nat → Nat) (PL : List (Nat × Nat)) (Z : State → Prop) (A : Nat → Prop) (hok : okc bM Z A ad PL) (N : Nat) (w : Mem) (x0 : Int32) (x1 : Int32) (x2 : Int32) (r : Int32) (hf : f_X9_in N w x0 x1 x2 = some r) : CT l yX9_in (wsy yX9_in cX9_in 3 (some .boolean)) (rmk 0) D ca ad PL Z A [.int x0, .int x1, .int x2] w w (some (.int r)) := by
  refine Met.ofW (cc := cX9_in) (maxL := 3) (ret := (some .boolean)) (by decide +kernel) rfl ?_
  intro p e s m args below meth c s₁ B hml hv
  obtain ⟨rfl, hP, hK, hZ⟩ := hv
  have hx := B.exec
  have hb := B.bytes
  have hr := B.returns
  have hlocks := B.notSynchronized
  have hts : ∀ w ∈ ALL, w.before _ s = true := fun w hw => atoms_spec (ws := wsy yX9_in cX9_in 3 (some .boolean)) B.pre w (List.mem_cons_of_mem _ hw)
  have hown : s.vm.findClass RX9 = some m.cls := findClass_of_methodNamed B.named
  have C : CX p s m _ c cX9_in RX9 3 D ca Z := ⟨hx, hb, hml, hown, hts, hK, hZ⟩
  have hS : va_S A s.heap s.heap [] := va_S.rf
  have hl := lv_entry ([.int x0, .int x1, .int x2]) (n := 3) (Nat.le_of_ble_eq_true rfl)
  rw [lg_entry_eq]
  generalize (lg_sl ([.int x0, .int x1, .int x2]) ++ List.replicate (3 - (lg_sl ([.int x0, .int x1, .int x2])).length) Slot.unset).toArray = ls at hl ⊢
  have hl : lv_has ls 3 [(0, .int x0), (1, .int x1), (2, .int x2)] := hl
  show W p l e (rmk 0) s m _ below meth c s.heap [] 0 0 _ _
  unfold f_X9_in at hf
  -- walk
  refine lv_iload_n hx hb dX9_in_0 rfl (lv_at hl 0 rfl) ?_
  refine lv_iload_n hx hb dX9_in_1 rfl (lv_at hl 1 rfl) ?_
  refine lv_icmp_lt (tgt := 14) hx hb dX9_in_2 (by decide) (fun c2 => ?_) (fun c2 => ?_)
  · have hf := ifp hf c2
    refine lv_iconst (v := (0 : Int32)) hx hb dX9_in_14 (by decide) ?_
    exact kr_i hok.2.2 C hlocks hr rfl hP hS rfl (Option.some.inj hf) dX9_in_15
  · have hf := ifn hf c2
    refine lv_iload_n hx hb dX9_in_5 rfl (lv_at hl 0 rfl) ?_
    refine lv_iload_n hx hb dX9_in_6 rfl (lv_at hl 2 rfl) ?_
    refine lv_icmp_gt (tgt := 14) hx hb dX9_in_7 (by decide) (fun c1 => ?_) (fun c1 => ?_)
    · have hf := ifp hf c1
      refine lv_iconst (v := (0 : Int32)) hx hb dX9_in_14 (by decide) ?_
      exact kr_i hok.2.2 C hlocks hr rfl hP hS rfl (Option.some.inj hf) dX9_in_15
    · have hf := ifn hf c1
      refine lv_iconst (v := (1 : Int32)) hx hb dX9_in_10 (by decide) ?_
      refine lv_goto (tgt := 15) hx hb dX9_in_11 (by decide) ?_
      exact kr_i hok.2.2 C hlocks hr rfl hP hS rfl (Option.some.inj hf) dX9_in_15
def f_X9_no (N : Nat) (w : Mem) (x1 : Int32) : Option (Mem × Int32) :=
  some ((sF w 9 1 0 x1), (-1 : Int32))
set_option maxRecDepth 100000 in
set_option maxHeartbeats 4000000 in
theorem c_X9_no (l : Launch) (D : va_G) (ca : Nat → ClassId) (ad : Nat → Nat → Nat) (PL : List (Nat × Nat)) (Z : State → Prop) (A : Nat → Prop) (hok : okc bM Z A ad PL) (N : Nat) (w : Mem) (x1 : Int32) (w' : Mem) (r : Int32) (hf : f_X9_no N w x1 = some (w', r)) : CT l yX9_no (wsy yX9_no cX9_no 2 (some .int)) (rmk 0) D ca ad PL Z A [.ref (ad 9 0), .int x1] w w' (some (.int r)) := by
  refine Met.ofW (cc := cX9_no) (maxL := 2) (ret := (some .int)) (by decide +kernel) rfl ?_
  intro p e s m args below meth c s₁ B hml hv
  obtain ⟨rfl, hP, hK, hZ⟩ := hv
  have hx := B.exec
  have hb := B.bytes
  have hr := B.returns
  have hlocks := B.notSynchronized
  have hts : ∀ w ∈ ALL, w.before _ s = true := fun w hw => atoms_spec (ws := wsy yX9_no cX9_no 2 (some .int)) B.pre w (List.mem_cons_of_mem _ hw)
  have hown : s.vm.findClass RX9 = some m.cls := findClass_of_methodNamed B.named
  have C : CX p s m _ c cX9_no RX9 2 D ca Z := ⟨hx, hb, hml, hown, hts, hK, hZ⟩
  have hS : va_S A s.heap s.heap [] := va_S.rf
  have hl := lv_entry ([.ref (ad 9 0), .int x1]) (n := 2) (Nat.le_of_ble_eq_true rfl)
  rw [lg_entry_eq]
  generalize (lg_sl ([.ref (ad 9 0), .int x1]) ++ List.replicate (2 - (lg_sl ([.ref (ad 9 0), .int x1])).length) Slot.unset).toArray = ls at hl ⊢
  have hl : lv_has ls 2 [(0, .ref (ad 9 0)), (1, .int x1)] := hl
  show W p l e (rmk 0) s m _ below meth c s.heap [] 0 0 _ _
  unfold f_X9_no at hf
  -- walk
  refine lv_aload_n hx hb dX9_no_0 rfl (lv_at hl 0 rfl) ?_
  refine lv_iload_n hx hb dX9_no_1 rfl (lv_at hl 1 rfl) ?_
  refine pt_9_1 (i := 0) (v := x1) C hok.1 hP hS (hok.2.1 9 0 (Nat.le_of_ble_eq_true rfl)) lk_X9_106 dX9_no_2 (fun H locs hP hS => ?_)
  refine lv_iconst (v := (-1 : Int32)) hx hb dX9_no_5 (by decide) ?_
  exact kr_i hok.2.2 C hlocks hr rfl hP hS (congrArg Prod.fst (Option.some.inj hf)) (congrArg Prod.snd (Option.some.inj hf)) dX9_no_6
def f_X9_isRefused (N : Nat) (w : Mem) (x1 : Int32) : Option (Mem × Int32) :=
  (if x1 = (0 : Int32) then
some ((sF (sF (sF w 9 0 0 (0 : Int32)) 9 3 0 (-1 : Int32)) 9 1 0 x1), (0 : Int32))
else
some ((sF (sF (sF w 9 0 0 (0 : Int32)) 9 3 0 (-1 : Int32)) 9 1 0 x1), (1 : Int32)))
set_option maxRecDepth 100000 in
set_option maxHeartbeats 4000000 in
theorem c_X9_isRefused (l : Launch) (D : va_G) (ca : Nat → ClassId) (ad : Nat → Nat → Nat) (PL : List (Nat × Nat)) (Z : State → Prop) (A : Nat → Prop) (hok : okc bM Z A ad PL) (N : Nat) (w : Mem) (x1 : Int32) (w' : Mem) (r : Int32) (hf : f_X9_isRefused N w x1 = some (w', r)) : CT l yX9_isRefused (wsy yX9_isRefused cX9_isRefused 2 (some .boolean)) (rmk 0) D ca ad PL Z A [.ref (ad 9 0), .int x1] w w' (some (.int r)) := by
  refine Met.ofW (cc := cX9_isRefused) (maxL := 2) (ret := (some .boolean)) (by decide +kernel) rfl ?_
  intro p e s m args below meth c s₁ B hml hv
  obtain ⟨rfl, hP, hK, hZ⟩ := hv
  have hx := B.exec
  have hb := B.bytes
  have hr := B.returns
  have hlocks := B.notSynchronized
  have hts : ∀ w ∈ ALL, w.before _ s = true := fun w hw => atoms_spec (ws := wsy yX9_isRefused cX9_isRefused 2 (some .boolean)) B.pre w (List.mem_cons_of_mem _ hw)
  have hown : s.vm.findClass RX9 = some m.cls := findClass_of_methodNamed B.named
  have C : CX p s m _ c cX9_isRefused RX9 2 D ca Z := ⟨hx, hb, hml, hown, hts, hK, hZ⟩
  have hS : va_S A s.heap s.heap [] := va_S.rf
  have hl := lv_entry ([.ref (ad 9 0), .int x1]) (n := 2) (Nat.le_of_ble_eq_true rfl)
  rw [lg_entry_eq]
  generalize (lg_sl ([.ref (ad 9 0), .int x1]) ++ List.replicate (2 - (lg_sl ([.ref (ad 9 0), .int x1])).length) Slot.unset).toArray = ls at hl ⊢
  have hl : lv_has ls 2 [(0, .ref (ad 9 0)), (1, .int x1)] := hl
  show W p l e (rmk 0) s m _ below meth c s.heap [] 0 0 _ _
  unfold f_X9_isRefused at hf
  -- walk
  refine lv_aload_n hx hb dX9_isRefused_0 rfl (lv_at hl 0 rfl) ?_
  refine lv_iconst (v := (0 : Int32)) hx hb dX9_isRefused_1 (by decide) ?_
  refine pt_9_0 (i := 0) (v := (0 : Int32)) C hok.1 hP hS (hok.2.1 9 0 (Nat.le_of_ble_eq_true rfl)) lk_X9_103 dX9_isRefused_2 (fun H locs hP hS => ?_)
  refine lv_aload_n hx hb dX9_isRefused_5 rfl (lv_at hl 0 rfl) ?_
  refine lv_iconst (v := (-1 : Int32)) hx hb dX9_isRefused_6 (by decide) ?_
  refine pt_9_3 (i := 0) (v := (-1 : Int32)) C hok.1 hP hS (hok.2.1 9 0 (Nat.le_of_ble_eq_true rfl)) lk_X9_9 dX9_isRefused_7 (fun H locs hP hS => ?_)
  refine lv_aload_n hx hb dX9_isRefused_10 rfl (lv_at hl 0 rfl) ?_
  refine lv_iload_n hx hb dX9_isRefused_11 rfl (lv_at hl 1 rfl) ?_
  refine pt_9_1 (i := 0) (v := x1) C hok.1 hP hS (hok.2.1 9 0 (Nat.le_of_ble_eq_true rfl)) lk_X9_106 dX9_isRefused_12 (fun H locs hP hS => ?_)
  refine lv_iload_n hx hb dX9_isRefused_15 rfl (lv_at hl 1 rfl) ?_
  refine lv_if_eq (tgt := 23) hx hb dX9_isRefused_16 (by decide) (fun c1 => ?_) (fun c1 => ?_)
  · have hf := ifp hf c1
    refine lv_iconst (v := (0 : Int32)) hx hb dX9_isRefused_23 (by decide) ?_
    exact kr_i hok.2.2 C hlocks hr rfl hP hS (congrArg Prod.fst (Option.some.inj hf)) (congrArg Prod.snd (Option.some.inj hf)) dX9_isRefused_24
  · have hf := ifn hf c1
    refine lv_iconst (v := (1 : Int32)) hx hb dX9_isRefused_19 (by decide) ?_
    refine lv_goto (tgt := 24) hx hb dX9_isRefused_20 (by decide) ?_
    exact kr_i hok.2.2 C hlocks hr rfl hP hS (congrArg Prod.fst (Option.some.inj hf)) (congrArg Prod.snd (Option.some.inj hf)) dX9_isRefused_24
def f_X9_unless (N : Nat) (w : Mem) (x0 : Int32) : Option (Int32) :=
  (if x0 = (0 : Int32) then
some (1 : Int32)
else
some (0 : Int32))
set_option maxRecDepth 100000 in
set_option maxHeartbeats 4000000 in
theorem c_X9_unless (l : Launch) (D : va_G) (ca : Nat → ClassId) (ad : Nat → Nat → Nat) (PL : List (Nat × Nat)) (Z : State → Prop) (A : Nat → Prop) (hok : okc bM Z A ad PL) (N : Nat) (w : Mem) (x0 : Int32) (r : Int32) (hf : f_X9_unless N w x0 = some r) : CT l yX9_unless (wsy yX9_unless cX9_unless 1 (some .int)) (rmk 0) D ca ad PL Z A [.int x0] w w (some (.int r)) := by
  refine Met.ofW (cc := cX9_unless) (maxL := 1) (ret := (some .int)) (by decide +kernel) rfl ?_
  intro p e s m args below meth c s₁ B hml hv
  obtain ⟨rfl, hP, hK, hZ⟩ := hv
  have hx := B.exec
  have hb := B.bytes
  have hr := B.returns
  have hlocks := B.notSynchronized
  have hts : ∀ w ∈ ALL, w.before _ s = true := fun w hw => atoms_spec (ws := wsy yX9_unless cX9_unless 1 (some .int)) B.pre w (List.mem_cons_of_mem _ hw)
  have hown : s.vm.findClass RX9 = some m.cls := findClass_of_methodNamed B.named
  have C : CX p s m _ c cX9_unless RX9 1 D ca Z := ⟨hx, hb, hml, hown, hts, hK, hZ⟩
  have hS : va_S A s.heap s.heap [] := va_S.rf
  have hl := lv_entry ([.int x0]) (n := 1) (Nat.le_of_ble_eq_true rfl)
  rw [lg_entry_eq]
  generalize (lg_sl ([.int x0]) ++ List.replicate (1 - (lg_sl ([.int x0])).length) Slot.unset).toArray = ls at hl ⊢
  have hl : lv_has ls 1 [(0, .int x0)] := hl
  show W p l e (rmk 0) s m _ below meth c s.heap [] 0 0 _ _
  unfold f_X9_unless at hf
  -- walk
  refine lv_iload_n hx hb dX9_unless_0 rfl (lv_at hl 0 rfl) ?_
  refine lv_if_eq (tgt := 8) hx hb dX9_unless_1 (by decide) (fun c1 => ?_) (fun c1 => ?_)
  · have hf := ifp hf c1
    refine lv_iconst (v := (1 : Int32)) hx hb dX9_unless_8 (by decide) ?_
    exact kr_i hok.2.2 C hlocks hr rfl hP hS rfl (Option.some.inj hf) dX9_unless_9
  · have hf := ifn hf c1
    refine lv_iconst (v := (0 : Int32)) hx hb dX9_unless_4 (by decide) ?_
    refine lv_goto (tgt := 9) hx hb dX9_unless_5 (by decide) ?_
    exact kr_i hok.2.2 C hlocks hr rfl hP hS rfl (Option.some.inj hf) dX9_unless_9
def f_X9_laysWord_37 (N : Nat) (w : Mem)  : Option (Mem) :=
  some (sF w 9 5 0 ((gF w 9 5 0) + (4 : Int32)))
def lp_X9_laysWord_2 (k : Mem → Option (Mem)) (N : Nat)  (v1 : Int32) : Nat → Mem → Int32 → Option (Mem)
  | 0, _, _ => none
  | n + 1, w, v2 => (if (4 : Int32) ≤ v2 then
(k w)
else
(if inb ((gF w 9 5 0) + v2) 500 = true then (lp_X9_laysWord_2 k N   v1 n (sA w 40 0 ((gF w 9 5 0) + v2).toNatClampNeg ((v1 >>> (((24 : Int32) - ((8 : Int32) * v2)) &&& 31)) &&& (255 : Int32))) (v2 + (1 : Int32))) else none))
def f_X9_laysWord (N : Nat) (w : Mem) (x1 : Int32) : Option (Mem) :=
  (lp_X9_laysWord_2 (fun (w_1 : Mem) => (f_X9_laysWord_37 N w_1   )) N   x1 N w (0 : Int32))
set_option maxRecDepth 100000 in
set_option maxHeartbeats 4000000 in
theorem c_X9_laysWord (l : Launch) (D : va_G) (ca : Nat → ClassId) (ad : Nat → Nat → Nat) (PL : List (Nat × Nat)) (Z : State → Prop) (A : Nat → Prop) (hok : okc bM Z A ad PL) (N : Nat) (w : Mem) (x1 : Int32) (w' : Mem) (hf : f_X9_laysWord N w x1 = some w') : CT l yX9_laysWord (wsy yX9_laysWord cX9_laysWord 3 none) (rmk 0) D ca ad PL Z A [.ref (ad 9 0), .int x1] w w' none := by
  refine Met.ofW (cc := cX9_laysWord) (maxL := 3) (ret := none) (by decide +kernel) rfl ?_
  intro p e s m args below meth c s₁ B hml hv
  obtain ⟨rfl, hP, hK, hZ⟩ := hv
  have hx := B.exec
  have hb := B.bytes
  have hr := B.returns
  have hlocks := B.notSynchronized
  have hts : ∀ w ∈ ALL, w.before _ s = true := fun w hw => atoms_spec (ws := wsy yX9_laysWord cX9_laysWord 3 none) B.pre w (List.mem_cons_of_mem _ hw)
  have hown : s.vm.findClass RX9 = some m.cls := findClass_of_methodNamed B.named
  have C : CX p s m _ c cX9_laysWord RX9 3 D ca Z := ⟨hx, hb, hml, hown, hts, hK, hZ⟩
  have hS : va_S A s.heap s.heap [] := va_S.rf
  have hl := lv_entry ([.ref (ad 9 0), .int x1]) (n := 3) (Nat.le_of_ble_eq_true rfl)
  rw [lg_entry_eq]
  generalize (lg_sl ([.ref (ad 9 0), .int x1]) ++ List.replicate (3 - (lg_sl ([.ref (ad 9 0), .int x1])).length) Slot.unset).toArray = ls at hl ⊢
  have hl : lv_has ls 3 [(0, .ref (ad 9 0)), (1, .int x1)] := hl
  show W p l e (rmk 0) s m _ below meth c s.heap [] 0 0 _ _
  have P_f_X9_laysWord_37 : ∀ (w : Mem), f_X9_laysWord_37 N w    = some w' → WP p l e (rmk 0) s m [.ref (ad 9 0), .int x1].toArray below meth c D ca ad PL A (MQ below (qcR D ca ad PL Z A w' none) [.ref (ad 9 0), .int x1].toArray s 0 0 A) 3 37 [] [(0, .ref (ad 9 0))] w := by
    intro w hf _ _ ls hP hS hl
    unfold f_X9_laysWord_37 at hf
    refine lv_aload_n hx hb dX9_laysWord_37 rfl (lv_at hl 0 rfl) ?_
    refine lv_dup hx hb dX9_laysWord_38 rfl ?_
    refine gt_9_5 (i := 0) C hP (hok.2.1 9 0 (Nat.le_of_ble_eq_true rfl)) lk_X9_109 dX9_laysWord_39 ?_
    refine lv_iconst (v := (4 : Int32)) hx hb dX9_laysWord_42 (by decide) ?_
    refine lv_iadd hx hb dX9_laysWord_43 ?_
    refine pt_9_5 (i := 0) (v := ((gF w 9 5 0) + (4 : Int32))) C hok.1 hP hS (hok.2.1 9 0 (Nat.le_of_ble_eq_true rfl)) lk_X9_109 dX9_laysWord_44 (fun H locs hP hS => ?_)
    exact kr_v hok.2.2 C hlocks hr hP hS (Option.some.inj hf) dX9_laysWord_47
  have L_lp_X9_laysWord_2 : ∀ (v1 : Int32) (k : Mem → Option (Mem)) (hk : ∀ (w : Mem), k w = some w' → WP p l e (rmk 0) s m [.ref (ad 9 0), .int x1].toArray below meth c D ca ad PL A (MQ below (qcR D ca ad PL Z A w' none) [.ref (ad 9 0), .int x1].toArray s 0 0 A) 3 37 [] [(0, .ref (ad 9 0))] w) (n : Nat) (w : Mem) (v2 : Int32), lp_X9_laysWord_2 k N   v1 n w v2 = some w' → WP p l e (rmk 0) s m [.ref (ad 9 0), .int x1].toArray below meth c D ca ad PL A (MQ below (qcR D ca ad PL Z A w' none) [.ref (ad 9 0), .int x1].toArray s 0 0 A) 3 2 [] [(0, .ref (ad 9 0)), (1, .int v1), (2, .int v2)] w := by
    intro v1 k hk n
    induction n with
    | zero => intro w v2 hf; rw [lp_X9_laysWord_2] at hf; cases hf
    | succ n ih =>
      intro w v2 hf _ _ ls hP hS hl
      rw [lp_X9_laysWord_2] at hf
      refine lv_iload_n hx hb dX9_laysWord_2 rfl (lv_at hl 2 rfl) ?_
      refine lv_iconst (v := (4 : Int32)) hx hb dX9_laysWord_3 (by decide) ?_
      refine lv_icmp_ge (tgt := 37) hx hb dX9_laysWord_4 (by decide) (fun c3 => ?_) (fun c3 => ?_)
      · have hf := ifp hf c3
        exact hk w hf _ _ ls hP hS (lv_sub hl [0] rfl)
      · have hf := ifn hf c3
        refine lv_aload_n hx hb dX9_laysWord_7 rfl (lv_at hl 0 rfl) ?_
        refine gt_9_4 (i := 0) C hP (hok.2.1 9 0 (Nat.le_of_ble_eq_true rfl)) lk_X9_13 dX9_laysWord_8 ?_
        refine lv_aload_n hx hb dX9_laysWord_11 rfl (lv_at hl 0 rfl) ?_
        refine gt_9_5 (i := 0) C hP (hok.2.1 9 0 (Nat.le_of_ble_eq_true rfl)) lk_X9_109 dX9_laysWord_12 ?_
        refine lv_iload_n hx hb dX9_laysWord_15 rfl (lv_at hl 2 rfl) ?_
        refine lv_iadd hx hb dX9_laysWord_16 ?_
        refine lv_iload_n hx hb dX9_laysWord_17 rfl (lv_at hl 1 rfl) ?_
        refine lv_bipush (v := (24 : Int32)) hx hb dX9_laysWord_18 (by decide) ?_
        refine lv_bipush (v := (8 : Int32)) hx hb dX9_laysWord_20 (by decide) ?_
        refine lv_iload_n hx hb dX9_laysWord_22 rfl (lv_at hl 2 rfl) ?_
        refine lv_imul hx hb dX9_laysWord_23 ?_
        refine lv_isub hx hb dX9_laysWord_24 ?_
        refine lv_ishr hx hb dX9_laysWord_25 ?_
        refine lv_sipush (v := (255 : Int32)) hx hb dX9_laysWord_26 (by decide) ?_
        refine lv_iand hx hb dX9_laysWord_29 ?_
        obtain ⟨b2, hf⟩ := gsp hf
        refine ra_ist (k := 40) (i := 0) (n := 500) C hok.1 hP hS (hok.2.1 40 0 (Nat.le_of_ble_eq_true rfl)) (fun _ => rfl) b2 dX9_laysWord_30 (fun H locs hP hS => ?_)
        refine lv_iinc (v := (v2 + (1 : Int32))) (lv' := [(2, .int (v2 + (1 : Int32))), (0, .ref (ad 9 0)), (1, .int v1)]) hx hb dX9_laysWord_31 hl (k := 2) rfl rfl (by decide) rfl (fun ls hl => ?_)
        refine lv_goto (tgt := 2) hx hb dX9_laysWord_34 (by decide) ?_
        exact ih (sA w 40 0 ((gF w 9 5 0) + v2).toNatClampNeg ((v1 >>> (((24 : Int32) - ((8 : Int32) * v2)) &&& 31)) &&& (255 : Int32))) (v2 + (1 : Int32)) hf _ _ ls hP hS (lv_sub hl [1, 2, 0] rfl)
  unfold f_X9_laysWord at hf
  -- walk
  refine lv_iconst (v := (0 : Int32)) hx hb dX9_laysWord_0 (by decide) ?_
  refine lv_istore_n (lv' := [(2, .int (0 : Int32)), (0, .ref (ad 9 0)), (1, .int x1)]) hx hb dX9_laysWord_1 rfl hl (by decide) rfl (fun ls hl => ?_)
  exact L_lp_X9_laysWord_2 x1 _ (fun w_1 hf H locs ls hP hS hl => P_f_X9_laysWord_37 w_1 hf _ _ ls hP hS (lv_sub hl [0] rfl)) N w (0 : Int32) hf _ _ ls hP hS (lv_sub hl [1, 2, 0] rfl)
def f_X9_feed (N : Nat) (w : Mem) (x1 : Int32) (x2 : Int32) (x3 : Int32) (x4 : Int32) (x5 : Int32) : Option (Mem × Int32) :=
  (if (gF (sF w 9 0 0 (0 : Int32)) 9 5 0) ≤ (480 : Int32) then
(Option.bind (f_X9_laysWord N (sF w 9 0 0 (0 : Int32)) x1) (fun z1 => (Option.bind (f_X9_laysWord N z1 x2) (fun z3 => (Option.bind (f_X9_laysWord N z3 x3) (fun z5 => (Option.bind (f_X9_laysWord N z5 x4) (fun z7 => (Option.bind (f_X9_laysWord N z7 x5) (fun z9 => some (z9, (gF z9 9 5 0))))))))))))
else
some ((sF w 9 0 0 (0 : Int32)), (-1 : Int32)))
set_option maxRecDepth 100000 in
set_option maxHeartbeats 4000000 in
theorem c_X9_feed (l : Launch) (D : va_G) (ca : Nat → ClassId) (ad : Nat → Nat → Nat) (PL : List (Nat × Nat)) (Z : State → Prop) (A : Nat → Prop) (hok : okc bM Z A ad PL) (N : Nat) (w : Mem) (x1 : Int32) (x2 : Int32) (x3 : Int32) (x4 : Int32) (x5 : Int32) (w' : Mem) (r : Int32) (hf : f_X9_feed N w x1 x2 x3 x4 x5 = some (w', r)) : CT l yX9_feed (wsy yX9_feed cX9_feed 6 (some .int)) (rmk 1) D ca ad PL Z A [.ref (ad 9 0), .int x1, .int x2, .int x3, .int x4, .int x5] w w' (some (.int r)) := by
  refine Met.ofW (cc := cX9_feed) (maxL := 6) (ret := (some .int)) (by decide +kernel) rfl ?_
  intro p e s m args below meth c s₁ B hml hv
  obtain ⟨rfl, hP, hK, hZ⟩ := hv
  have hx := B.exec
  have hb := B.bytes
  have hr := B.returns
  have hlocks := B.notSynchronized
  have hts : ∀ w ∈ ALL, w.before _ s = true := fun w hw => atoms_spec (ws := wsy yX9_feed cX9_feed 6 (some .int)) B.pre w (List.mem_cons_of_mem _ hw)
  have hown : s.vm.findClass RX9 = some m.cls := findClass_of_methodNamed B.named
  have C : CX p s m _ c cX9_feed RX9 6 D ca Z := ⟨hx, hb, hml, hown, hts, hK, hZ⟩
  have hS : va_S A s.heap s.heap [] := va_S.rf
  have hl := lv_entry ([.ref (ad 9 0), .int x1, .int x2, .int x3, .int x4, .int x5]) (n := 6) (Nat.le_of_ble_eq_true rfl)
  rw [lg_entry_eq]
  generalize (lg_sl ([.ref (ad 9 0), .int x1, .int x2, .int x3, .int x4, .int x5]) ++ List.replicate (6 - (lg_sl ([.ref (ad 9 0), .int x1, .int x2, .int x3, .int x4, .int x5])).length) Slot.unset).toArray = ls at hl ⊢
  have hl : lv_has ls 6 [(0, .ref (ad 9 0)), (1, .int x1), (2, .int x2), (3, .int x3), (4, .int x4), (5, .int x5)] := hl
  show W p l e (rmk 1) s m _ below meth c s.heap [] 0 0 _ _
  unfold f_X9_feed at hf
  -- walk
  refine lv_aload_n hx hb dX9_feed_0 rfl (lv_at hl 0 rfl) ?_
  refine lv_iconst (v := (0 : Int32)) hx hb dX9_feed_1 (by decide) ?_
  refine pt_9_0 (i := 0) (v := (0 : Int32)) C hok.1 hP hS (hok.2.1 9 0 (Nat.le_of_ble_eq_true rfl)) lk_X9_103 dX9_feed_2 (fun H locs hP hS => ?_)
  refine lv_aload_n hx hb dX9_feed_5 rfl (lv_at hl 0 rfl) ?_
  refine gt_9_5 (i := 0) C hP (hok.2.1 9 0 (Nat.le_of_ble_eq_true rfl)) lk_X9_109 dX9_feed_6 ?_
  refine lv_sipush (v := (480 : Int32)) hx hb dX9_feed_9 (by decide) ?_
  refine lv_icmp_le (tgt := 17) hx hb dX9_feed_12 (by decide) (fun c11 => ?_) (fun c11 => ?_)
  · have hf := ifp hf c11
    refine lv_aload_n hx hb dX9_feed_17 rfl (lv_at hl 0 rfl) ?_
    refine lv_iload_n hx hb dX9_feed_18 rfl (lv_at hl 1 rfl) ?_
    obtain ⟨z1, q2, hf⟩ := bsp hf
    refine kc_V (ci := 9) (i := 0) (As := [.int x1]) (rest := []) hok.2.2 C hP hS hl.1 (hok.2.1 9 0 (Nat.le_of_ble_eq_true rfl)) rfl rfl cw_X9_laysWord ml_X9_112 (c_X9_laysWord l D ca ad PL Z A hok N (sF w 9 0 0 (0 : Int32)) x1 z1 q2) rfl ⟨rfl, rfl⟩ ⟨Nat.le_of_ble_eq_true rfl, Nat.le_of_ble_eq_true rfl⟩ ⟨Nat.zero_le _, Nat.zero_le _⟩ (Nat.le_of_ble_eq_true rfl) rfl dX9_feed_19 (fun H locs hP hS => ?_)
    refine lv_aload_n hx hb dX9_feed_22 rfl (lv_at hl 0 rfl) ?_
    refine lv_iload_n hx hb dX9_feed_23 rfl (lv_at hl 2 rfl) ?_
    obtain ⟨z3, q4, hf⟩ := bsp hf
    refine kc_V (ci := 9) (i := 0) (As := [.int x2]) (rest := []) hok.2.2 C hP hS hl.1 (hok.2.1 9 0 (Nat.le_of_ble_eq_true rfl)) rfl rfl cw_X9_laysWord ml_X9_112 (c_X9_laysWord l D ca ad PL Z A hok N z1 x2 z3 q4) rfl ⟨rfl, rfl⟩ ⟨Nat.le_of_ble_eq_true rfl, Nat.le_of_ble_eq_true rfl⟩ ⟨Nat.zero_le _, Nat.zero_le _⟩ (Nat.le_of_ble_eq_true rfl) rfl dX9_feed_24 (fun H locs hP hS => ?_)
    refine lv_aload_n hx hb dX9_feed_27 rfl (lv_at hl 0 rfl) ?_
    refine lv_iload_n hx hb dX9_feed_28 rfl (lv_at hl 3 rfl) ?_
    obtain ⟨z5, q6, hf⟩ := bsp hf
    refine kc_V (ci := 9) (i := 0) (As := [.int x3]) (rest := []) hok.2.2 C hP hS hl.1 (hok.2.1 9 0 (Nat.le_of_ble_eq_true rfl)) rfl rfl cw_X9_laysWord ml_X9_112 (c_X9_laysWord l D ca ad PL Z A hok N z3 x3 z5 q6) rfl ⟨rfl, rfl⟩ ⟨Nat.le_of_ble_eq_true rfl, Nat.le_of_ble_eq_true rfl⟩ ⟨Nat.zero_le _, Nat.zero_le _⟩ (Nat.le_of_ble_eq_true rfl) rfl dX9_feed_29 (fun H locs hP hS => ?_)
    refine lv_aload_n hx hb dX9_feed_32 rfl (lv_at hl 0 rfl) ?_
    refine lv_iload hx hb dX9_feed_33 (lv_at hl 4 rfl) ?_
    obtain ⟨z7, q8, hf⟩ := bsp hf
    refine kc_V (ci := 9) (i := 0) (As := [.int x4]) (rest := []) hok.2.2 C hP hS hl.1 (hok.2.1 9 0 (Nat.le_of_ble_eq_true rfl)) rfl rfl cw_X9_laysWord ml_X9_112 (c_X9_laysWord l D ca ad PL Z A hok N z5 x4 z7 q8) rfl ⟨rfl, rfl⟩ ⟨Nat.le_of_ble_eq_true rfl, Nat.le_of_ble_eq_true rfl⟩ ⟨Nat.zero_le _, Nat.zero_le _⟩ (Nat.le_of_ble_eq_true rfl) rfl dX9_feed_35 (fun H locs hP hS => ?_)
    refine lv_aload_n hx hb dX9_feed_38 rfl (lv_at hl 0 rfl) ?_
    refine lv_iload hx hb dX9_feed_39 (lv_at hl 5 rfl) ?_
    obtain ⟨z9, q10, hf⟩ := bsp hf
    refine kc_V (ci := 9) (i := 0) (As := [.int x5]) (rest := []) hok.2.2 C hP hS hl.1 (hok.2.1 9 0 (Nat.le_of_ble_eq_true rfl)) rfl rfl cw_X9_laysWord ml_X9_112 (c_X9_laysWord l D ca ad PL Z A hok N z7 x5 z9 q10) rfl ⟨rfl, rfl⟩ ⟨Nat.le_of_ble_eq_true rfl, Nat.le_of_ble_eq_true rfl⟩ ⟨Nat.zero_le _, Nat.zero_le _⟩ (Nat.le_of_ble_eq_true rfl) rfl dX9_feed_41 (fun H locs hP hS => ?_)
    refine lv_aload_n hx hb dX9_feed_44 rfl (lv_at hl 0 rfl) ?_
    refine gt_9_5 (i := 0) C hP (hok.2.1 9 0 (Nat.le_of_ble_eq_true rfl)) lk_X9_109 dX9_feed_45 ?_
    exact kr_i hok.2.2 C hlocks hr rfl hP hS (congrArg Prod.fst (Option.some.inj hf)) (congrArg Prod.snd (Option.some.inj hf)) dX9_feed_48
  · have hf := ifn hf c11
    refine lv_iconst (v := (-1 : Int32)) hx hb dX9_feed_15 (by decide) ?_
    exact kr_i hok.2.2 C hlocks hr rfl hP hS (congrArg Prod.fst (Option.some.inj hf)) (congrArg Prod.snd (Option.some.inj hf)) dX9_feed_16
def f_X9_see (N : Nat) (w : Mem) (x1 : Int32) : Option (Int32) :=
  (if (gF w 9 13 0) ≤ x1 then
some (-1 : Int32)
else
(if inb x1 500 = true then some (gA w 40 0 x1.toNatClampNeg) else none))
set_option maxRecDepth 100000 in
set_option maxHeartbeats 4000000 in
theorem c_X9_see (l : Launch) (D : va_G) (ca : Nat → ClassId) (ad : Nat → Nat → Nat) (PL : List (Nat × Nat)) (Z : State → Prop) (A : Nat → Prop) (hok : okc bM Z A ad PL) (N : Nat) (w : Mem) (x1 : Int32) (r : Int32) (hf : f_X9_see N w x1 = some r) : CT l yX9_see (wsy yX9_see cX9_see 2 (some .int)) (rmk 0) D ca ad PL Z A [.ref (ad 9 0), .int x1] w w (some (.int r)) := by
  refine Met.ofW (cc := cX9_see) (maxL := 2) (ret := (some .int)) (by decide +kernel) rfl ?_
  intro p e s m args below meth c s₁ B hml hv
  obtain ⟨rfl, hP, hK, hZ⟩ := hv
  have hx := B.exec
  have hb := B.bytes
  have hr := B.returns
  have hlocks := B.notSynchronized
  have hts : ∀ w ∈ ALL, w.before _ s = true := fun w hw => atoms_spec (ws := wsy yX9_see cX9_see 2 (some .int)) B.pre w (List.mem_cons_of_mem _ hw)
  have hown : s.vm.findClass RX9 = some m.cls := findClass_of_methodNamed B.named
  have C : CX p s m _ c cX9_see RX9 2 D ca Z := ⟨hx, hb, hml, hown, hts, hK, hZ⟩
  have hS : va_S A s.heap s.heap [] := va_S.rf
  have hl := lv_entry ([.ref (ad 9 0), .int x1]) (n := 2) (Nat.le_of_ble_eq_true rfl)
  rw [lg_entry_eq]
  generalize (lg_sl ([.ref (ad 9 0), .int x1]) ++ List.replicate (2 - (lg_sl ([.ref (ad 9 0), .int x1])).length) Slot.unset).toArray = ls at hl ⊢
  have hl : lv_has ls 2 [(0, .ref (ad 9 0)), (1, .int x1)] := hl
  show W p l e (rmk 0) s m _ below meth c s.heap [] 0 0 _ _
  unfold f_X9_see at hf
  -- walk
  refine lv_iload_n hx hb dX9_see_0 rfl (lv_at hl 1 rfl) ?_
  refine lv_aload_n hx hb dX9_see_1 rfl (lv_at hl 0 rfl) ?_
  refine gt_9_13 (i := 0) C hP (hok.2.1 9 0 (Nat.le_of_ble_eq_true rfl)) lk_X9_116 dX9_see_2 ?_
  refine lv_icmp_ge (tgt := 17) hx hb dX9_see_5 (by decide) (fun c2 => ?_) (fun c2 => ?_)
  · have hf := ifp hf c2
    refine lv_iconst (v := (-1 : Int32)) hx hb dX9_see_17 (by decide) ?_
    exact kr_i hok.2.2 C hlocks hr rfl hP hS rfl (Option.some.inj hf) dX9_see_18
  · have hf := ifn hf c2
    refine lv_aload_n hx hb dX9_see_8 rfl (lv_at hl 0 rfl) ?_
    refine gt_9_4 (i := 0) C hP (hok.2.1 9 0 (Nat.le_of_ble_eq_true rfl)) lk_X9_13 dX9_see_9 ?_
    refine lv_iload_n hx hb dX9_see_12 rfl (lv_at hl 1 rfl) ?_
    obtain ⟨b1, hf⟩ := gsp hf
    refine ra_ild (k := 40) (i := 0) (n := 500) (f := (gA w 40 0)) C hP (hok.2.1 40 0 (Nat.le_of_ble_eq_true rfl)) rfl b1 dX9_see_13 ?_
    refine lv_goto (tgt := 18) hx hb dX9_see_14 (by decide) ?_
    exact kr_i hok.2.2 C hlocks hr rfl hP hS rfl (Option.some.inj hf) dX9_see_18
def f_X9_goesOn_170 (N : Nat) (w : Mem)  : Option (Mem) :=
  (if ((gF w 9 15 0) - (gF w 9 14 0)) ≤ (1 : Int32) then
some (sF w 9 16 0 (3 : Int32))
else
some (sF w 9 16 0 (1 : Int32)))
def lp_X9_goesOn_139 (k : Mem → Option (Mem)) (N : Nat)  : Nat → Mem → Option (Mem)
  | 0, _ => none
  | n + 1, w => (Option.bind (f_X9_see N w (gF w 9 15 0)) (fun z15 => (Option.bind (f_X9_in N w z15 (48 : Int32) (57 : Int32)) (fun z17 => (if z17 = (0 : Int32) then
(k w)
else
(lp_X9_goesOn_139 k N    n (sF w 9 15 0 ((gF w 9 15 0) + (1 : Int32)))))))))
def f_X9_goesOn_96 (N : Nat) (w : Mem)  : Option (Mem) :=
  (if ((gF w 9 15 0) - (gF w 9 14 0)) ≤ (6 : Int32) then
some (sF w 9 16 0 (2 : Int32))
else
some (sF w 9 16 0 (1 : Int32)))
def lp_X9_goesOn_65 (k : Mem → Option (Mem)) (N : Nat)  : Nat → Mem → Option (Mem)
  | 0, _ => none
  | n + 1, w => (Option.bind (f_X9_see N w (gF w 9 15 0)) (fun z23 => (Option.bind (f_X9_in N w z23 (97 : Int32) (122 : Int32)) (fun z25 => (if z25 = (0 : Int32) then
(k w)
else
(lp_X9_goesOn_65 k N    n (sF w 9 15 0 ((gF w 9 15 0) + (1 : Int32)))))))))
def f_X9_goesOn_26 (N : Nat) (w : Mem)  : Option (Mem) :=
  (Option.bind (f_X9_see N (sF w 9 14 0 (gF w 9 15 0)) (gF (sF w 9 14 0 (gF w 9 15 0)) 9 15 0)) (fun z2 => (if z2 = (-1 : Int32) then
some (sF (sF w 9 14 0 (gF w 9 15 0)) 9 16 0 (0 : Int32))
else
(Option.bind (f_X9_in N (sF w 9 14 0 (gF w 9 15 0)) z2 (97 : Int32) (122 : Int32)) (fun z4 => (if z4 = (0 : Int32) then
(Option.bind (f_X9_in N (sF w 9 14 0 (gF w 9 15 0)) z2 (48 : Int32) (57 : Int32)) (fun z6 => (if z6 = (0 : Int32) then
(if z2 = (59 : Int32) then
some (sF (sF (sF w 9 14 0 (gF w 9 15 0)) 9 15 0 ((gF (sF w 9 14 0 (gF w 9 15 0)) 9 15 0) + (1 : Int32))) 9 16 0 z2)
else
(if z2 = (44 : Int32) then
some (sF (sF (sF w 9 14 0 (gF w 9 15 0)) 9 15 0 ((gF (sF w 9 14 0 (gF w 9 15 0)) 9 15 0) + (1 : Int32))) 9 16 0 z2)
else
(if z2 = (61 : Int32) then
some (sF (sF (sF w 9 14 0 (gF w 9 15 0)) 9 15 0 ((gF (sF w 9 14 0 (gF w 9 15 0)) 9 15 0) + (1 : Int32))) 9 16 0 z2)
else
(if z2 = (40 : Int32) then
some (sF (sF (sF w 9 14 0 (gF w 9 15 0)) 9 15 0 ((gF (sF w 9 14 0 (gF w 9 15 0)) 9 15 0) + (1 : Int32))) 9 16 0 z2)
else
(if z2 = (41 : Int32) then
some (sF (sF (sF w 9 14 0 (gF w 9 15 0)) 9 15 0 ((gF (sF w 9 14 0 (gF w 9 15 0)) 9 15 0) + (1 : Int32))) 9 16 0 z2)
else
some (sF (sF (sF w 9 14 0 (gF w 9 15 0)) 9 15 0 ((gF (sF w 9 14 0 (gF w 9 15 0)) 9 15 0) + (1 : Int32))) 9 16 0 (1 : Int32)))))))
else
(lp_X9_goesOn_139 (fun (w_13 : Mem) => (f_X9_goesOn_170 N w_13   )) N    N (sF (sF w 9 14 0 (gF w 9 15 0)) 9 17 0 (z2 - (48 : Int32)))))))
else
(lp_X9_goesOn_65 (fun (w_21 : Mem) => (f_X9_goesOn_96 N w_21   )) N    N (sF w 9 14 0 (gF w 9 15 0)))))))))
def lp_X9_goesOn_0 (k : Mem → Option (Mem)) (N : Nat)  : Nat → Mem → Option (Mem)
  | 0, _ => none
  | n + 1, w => (Option.bind (f_X9_see N w (gF w 9 15 0)) (fun z30 => (if z30 = (32 : Int32) then
(lp_X9_goesOn_0 k N    n (sF w 9 15 0 ((gF w 9 15 0) + (1 : Int32))))
else
(k w))))
def f_X9_goesOn (N : Nat) (w : Mem)  : Option (Mem) :=
  (lp_X9_goesOn_0 (fun (w_1 : Mem) => (f_X9_goesOn_26 N w_1   )) N    N w)
set_option maxRecDepth 100000 in
set_option maxHeartbeats 4000000 in
theorem c_X9_goesOn (l : Launch) (D : va_G) (ca : Nat → ClassId) (ad : Nat → Nat → Nat) (PL : List (Nat × Nat)) (Z : State → Prop) (A : Nat → Prop) (hok : okc bM Z A ad PL) (N : Nat) (w : Mem)  (w' : Mem) (hf : f_X9_goesOn N w  = some w') : CT l yX9_goesOn (wsy yX9_goesOn cX9_goesOn 2 none) (rmk 1) D ca ad PL Z A [.ref (ad 9 0)] w w' none := by
  refine Met.ofW (cc := cX9_goesOn) (maxL := 2) (ret := none) (by decide +kernel) rfl ?_
  intro p e s m args below meth c s₁ B hml hv
  obtain ⟨rfl, hP, hK, hZ⟩ := hv
  have hx := B.exec
  have hb := B.bytes
  have hr := B.returns
  have hlocks := B.notSynchronized
  have hts : ∀ w ∈ ALL, w.before _ s = true := fun w hw => atoms_spec (ws := wsy yX9_goesOn cX9_goesOn 2 none) B.pre w (List.mem_cons_of_mem _ hw)
  have hown : s.vm.findClass RX9 = some m.cls := findClass_of_methodNamed B.named
  have C : CX p s m _ c cX9_goesOn RX9 2 D ca Z := ⟨hx, hb, hml, hown, hts, hK, hZ⟩
  have hS : va_S A s.heap s.heap [] := va_S.rf
  have hl := lv_entry ([.ref (ad 9 0)]) (n := 2) (Nat.le_of_ble_eq_true rfl)
  rw [lg_entry_eq]
  generalize (lg_sl ([.ref (ad 9 0)]) ++ List.replicate (2 - (lg_sl ([.ref (ad 9 0)])).length) Slot.unset).toArray = ls at hl ⊢
  have hl : lv_has ls 2 [(0, .ref (ad 9 0))] := hl
  show W p l e (rmk 1) s m _ below meth c s.heap [] 0 0 _ _
  have P_f_X9_goesOn_170 : ∀ (w : Mem), f_X9_goesOn_170 N w    = some w' → WP p l e (rmk 1) s m [.ref (ad 9 0)].toArray below meth c D ca ad PL A (MQ below (qcR D ca ad PL Z A w' none) [.ref (ad 9 0)].toArray s 0 0 A) 2 170 [] [(0, .ref (ad 9 0))] w := by
    intro w hf _ _ ls hP hS hl
    unfold f_X9_goesOn_170 at hf
    refine lv_aload_n hx hb dX9_goesOn_170 rfl (lv_at hl 0 rfl) ?_
    refine lv_aload_n hx hb dX9_goesOn_171 rfl (lv_at hl 0 rfl) ?_
    refine gt_9_15 (i := 0) C hP (hok.2.1 9 0 (Nat.le_of_ble_eq_true rfl)) lk_X9_119 dX9_goesOn_172 ?_
    refine lv_aload_n hx hb dX9_goesOn_175 rfl (lv_at hl 0 rfl) ?_
    refine gt_9_14 (i := 0) C hP (hok.2.1 9 0 (Nat.le_of_ble_eq_true rfl)) lk_X9_126 dX9_goesOn_176 ?_
    refine lv_isub hx hb dX9_goesOn_179 ?_
    refine lv_iconst (v := (1 : Int32)) hx hb dX9_goesOn_180 (by decide) ?_
    refine lv_icmp_le (tgt := 188) hx hb dX9_goesOn_181 (by decide) (fun c14 => ?_) (fun c14 => ?_)
    · have hf := ifp hf c14
      refine lv_iconst (v := (3 : Int32)) hx hb dX9_goesOn_188 (by decide) ?_
      refine pt_9_16 (i := 0) (v := (3 : Int32)) C hok.1 hP hS (hok.2.1 9 0 (Nat.le_of_ble_eq_true rfl)) lk_X9_129 dX9_goesOn_189 (fun H locs hP hS => ?_)
      exact kr_v hok.2.2 C hlocks hr hP hS (Option.some.inj hf) dX9_goesOn_192
    · have hf := ifn hf c14
      refine lv_iconst (v := (1 : Int32)) hx hb dX9_goesOn_184 (by decide) ?_
      refine lv_goto (tgt := 189) hx hb dX9_goesOn_185 (by decide) ?_
      refine pt_9_16 (i := 0) (v := (1 : Int32)) C hok.1 hP hS (hok.2.1 9 0 (Nat.le_of_ble_eq_true rfl)) lk_X9_129 dX9_goesOn_189 (fun H locs hP hS => ?_)
      exact kr_v hok.2.2 C hlocks hr hP hS (Option.some.inj hf) dX9_goesOn_192
  have L_lp_X9_goesOn_139 : ∀ (k : Mem → Option (Mem)) (hk : ∀ (w : Mem), k w = some w' → WP p l e (rmk 1) s m [.ref (ad 9 0)].toArray below meth c D ca ad PL A (MQ below (qcR D ca ad PL Z A w' none) [.ref (ad 9 0)].toArray s 0 0 A) 2 170 [] [(0, .ref (ad 9 0))] w) (n : Nat) (w : Mem), lp_X9_goesOn_139 k N    n w = some w' → WP p l e (rmk 1) s m [.ref (ad 9 0)].toArray below meth c D ca ad PL A (MQ below (qcR D ca ad PL Z A w' none) [.ref (ad 9 0)].toArray s 0 0 A) 2 139 [] [(0, .ref (ad 9 0))] w := by
    intro k hk n
    induction n with
    | zero => intro w hf; rw [lp_X9_goesOn_139] at hf; cases hf
    | succ n ih =>
      intro w hf _ _ ls hP hS hl
      rw [lp_X9_goesOn_139] at hf
      refine lv_aload_n hx hb dX9_goesOn_139 rfl (lv_at hl 0 rfl) ?_
      refine lv_aload_n hx hb dX9_goesOn_140 rfl (lv_at hl 0 rfl) ?_
      refine gt_9_15 (i := 0) C hP (hok.2.1 9 0 (Nat.le_of_ble_eq_true rfl)) lk_X9_119 dX9_goesOn_141 ?_
      obtain ⟨z15, q16, hf⟩ := bsp hf
      refine kc_V (ci := 9) (i := 0) (As := [.int (gF w 9 15 0)]) (rest := []) hok.2.2 C hP hS hl.1 (hok.2.1 9 0 (Nat.le_of_ble_eq_true rfl)) rfl rfl cw_X9_see ml_X9_122 (c_X9_see l D ca ad PL Z A hok N w (gF w 9 15 0) z15 q16) rfl ⟨rfl, rfl⟩ ⟨Nat.le_of_ble_eq_true rfl, Nat.le_of_ble_eq_true rfl⟩ ⟨Nat.zero_le _, Nat.zero_le _⟩ (Nat.le_of_ble_eq_true rfl) rfl dX9_goesOn_144 (fun H locs hP hS => ?_)
      refine lv_bipush (v := (48 : Int32)) hx hb dX9_goesOn_147 (by decide) ?_
      refine lv_bipush (v := (57 : Int32)) hx hb dX9_goesOn_149 (by decide) ?_
      obtain ⟨z17, q18, hf⟩ := bsp hf
      refine kc_S (As := [.int z15, .int (48 : Int32), .int (57 : Int32)]) (rest := []) hok.2.2 C hP hS hl.1 cw_X9_in ml_X9_132 (c_X9_in l D ca ad PL Z A hok N w z15 (48 : Int32) (57 : Int32) z17 q18) rfl ⟨rfl, rfl⟩ ⟨Nat.le_of_ble_eq_true rfl, Nat.le_of_ble_eq_true rfl⟩ ⟨Nat.zero_le _, Nat.zero_le _⟩ (Nat.le_of_ble_eq_true rfl) rfl dX9_goesOn_151 (fun H locs hP hS => ?_)
      refine lv_if_eq (tgt := 170) hx hb dX9_goesOn_154 (by decide) (fun c19 => ?_) (fun c19 => ?_)
      · have hf := ifp hf c19
        exact hk w hf _ _ ls hP hS (lv_sub hl [0] rfl)
      · have hf := ifn hf c19
        refine lv_aload_n hx hb dX9_goesOn_157 rfl (lv_at hl 0 rfl) ?_
        refine lv_dup hx hb dX9_goesOn_158 rfl ?_
        refine gt_9_15 (i := 0) C hP (hok.2.1 9 0 (Nat.le_of_ble_eq_true rfl)) lk_X9_119 dX9_goesOn_159 ?_
        refine lv_iconst (v := (1 : Int32)) hx hb dX9_goesOn_162 (by decide) ?_
        refine lv_iadd hx hb dX9_goesOn_163 ?_
        refine pt_9_15 (i := 0) (v := ((gF w 9 15 0) + (1 : Int32))) C hok.1 hP hS (hok.2.1 9 0 (Nat.le_of_ble_eq_true rfl)) lk_X9_119 dX9_goesOn_164 (fun H locs hP hS => ?_)
        refine lv_goto (tgt := 139) hx hb dX9_goesOn_167 (by decide) ?_
        exact ih (sF w 9 15 0 ((gF w 9 15 0) + (1 : Int32))) hf _ _ ls hP hS (lv_sub hl [0] rfl)
  have P_f_X9_goesOn_96 : ∀ (w : Mem), f_X9_goesOn_96 N w    = some w' → WP p l e (rmk 1) s m [.ref (ad 9 0)].toArray below meth c D ca ad PL A (MQ below (qcR D ca ad PL Z A w' none) [.ref (ad 9 0)].toArray s 0 0 A) 2 96 [] [(0, .ref (ad 9 0))] w := by
    intro w hf _ _ ls hP hS hl
    unfold f_X9_goesOn_96 at hf
    refine lv_aload_n hx hb dX9_goesOn_96 rfl (lv_at hl 0 rfl) ?_
    refine lv_aload_n hx hb dX9_goesOn_97 rfl (lv_at hl 0 rfl) ?_
    refine gt_9_15 (i := 0) C hP (hok.2.1 9 0 (Nat.le_of_ble_eq_true rfl)) lk_X9_119 dX9_goesOn_98 ?_
    refine lv_aload_n hx hb dX9_goesOn_101 rfl (lv_at hl 0 rfl) ?_
    refine gt_9_14 (i := 0) C hP (hok.2.1 9 0 (Nat.le_of_ble_eq_true rfl)) lk_X9_126 dX9_goesOn_102 ?_
    refine lv_isub hx hb dX9_goesOn_105 ?_
    refine lv_bipush (v := (6 : Int32)) hx hb dX9_goesOn_106 (by decide) ?_
    refine lv_icmp_le (tgt := 115) hx hb dX9_goesOn_108 (by decide) (fun c22 => ?_) (fun c22 => ?_)
    · have hf := ifp hf c22
      refine lv_iconst (v := (2 : Int32)) hx hb dX9_goesOn_115 (by decide) ?_
      refine pt_9_16 (i := 0) (v := (2 : Int32)) C hok.1 hP hS (hok.2.1 9 0 (Nat.le_of_ble_eq_true rfl)) lk_X9_129 dX9_goesOn_116 (fun H locs hP hS => ?_)
      exact kr_v hok.2.2 C hlocks hr hP hS (Option.some.inj hf) dX9_goesOn_119
    · have hf := ifn hf c22
      refine lv_iconst (v := (1 : Int32)) hx hb dX9_goesOn_111 (by decide) ?_
      refine lv_goto (tgt := 116) hx hb dX9_goesOn_112 (by decide) ?_
      refine pt_9_16 (i := 0) (v := (1 : Int32)) C hok.1 hP hS (hok.2.1 9 0 (Nat.le_of_ble_eq_true rfl)) lk_X9_129 dX9_goesOn_116 (fun H locs hP hS => ?_)
      exact kr_v hok.2.2 C hlocks hr hP hS (Option.some.inj hf) dX9_goesOn_119
  have L_lp_X9_goesOn_65 : ∀ (k : Mem → Option (Mem)) (hk : ∀ (w : Mem), k w = some w' → WP p l e (rmk 1) s m [.ref (ad 9 0)].toArray below meth c D ca ad PL A (MQ below (qcR D ca ad PL Z A w' none) [.ref (ad 9 0)].toArray s 0 0 A) 2 96 [] [(0, .ref (ad 9 0))] w) (n : Nat) (w : Mem), lp_X9_goesOn_65 k N    n w = some w' → WP p l e (rmk 1) s m [.ref (ad 9 0)].toArray below meth c D ca ad PL A (MQ below (qcR D ca ad PL Z A w' none) [.ref (ad 9 0)].toArray s 0 0 A) 2 65 [] [(0, .ref (ad 9 0))] w := by
    intro k hk n
    induction n with
    | zero => intro w hf; rw [lp_X9_goesOn_65] at hf; cases hf
    | succ n ih =>
      intro w hf _ _ ls hP hS hl
      rw [lp_X9_goesOn_65] at hf
      refine lv_aload_n hx hb dX9_goesOn_65 rfl (lv_at hl 0 rfl) ?_
      refine lv_aload_n hx hb dX9_goesOn_66 rfl (lv_at hl 0 rfl) ?_
      refine gt_9_15 (i := 0) C hP (hok.2.1 9 0 (Nat.le_of_ble_eq_true rfl)) lk_X9_119 dX9_goesOn_67 ?_
      obtain ⟨z23, q24, hf⟩ := bsp hf
      refine kc_V (ci := 9) (i := 0) (As := [.int (gF w 9 15 0)]) (rest := []) hok.2.2 C hP hS hl.1 (hok.2.1 9 0 (Nat.le_of_ble_eq_true rfl)) rfl rfl cw_X9_see ml_X9_122 (c_X9_see l D ca ad PL Z A hok N w (gF w 9 15 0) z23 q24) rfl ⟨rfl, rfl⟩ ⟨Nat.le_of_ble_eq_true rfl, Nat.le_of_ble_eq_true rfl⟩ ⟨Nat.zero_le _, Nat.zero_le _⟩ (Nat.le_of_ble_eq_true rfl) rfl dX9_goesOn_70 (fun H locs hP hS => ?_)
      refine lv_bipush (v := (97 : Int32)) hx hb dX9_goesOn_73 (by decide) ?_
      refine lv_bipush (v := (122 : Int32)) hx hb dX9_goesOn_75 (by decide) ?_
      obtain ⟨z25, q26, hf⟩ := bsp hf
      refine kc_S (As := [.int z23, .int (97 : Int32), .int (122 : Int32)]) (rest := []) hok.2.2 C hP hS hl.1 cw_X9_in ml_X9_132 (c_X9_in l D ca ad PL Z A hok N w z23 (97 : Int32) (122 : Int32) z25 q26) rfl ⟨rfl, rfl⟩ ⟨Nat.le_of_ble_eq_true rfl, Nat.le_of_ble_eq_true rfl⟩ ⟨Nat.zero_le _, Nat.zero_le _⟩ (Nat.le_of_ble_eq_true rfl) rfl dX9_goesOn_77 (fun H locs hP hS => ?_)
      refine lv_if_eq (tgt := 96) hx hb dX9_goesOn_80 (by decide) (fun c27 => ?_) (fun c27 => ?_)
      · have hf := ifp hf c27
        exact hk w hf _ _ ls hP hS (lv_sub hl [0] rfl)
      · have hf := ifn hf c27
        refine lv_aload_n hx hb dX9_goesOn_83 rfl (lv_at hl 0 rfl) ?_
        refine lv_dup hx hb dX9_goesOn_84 rfl ?_
        refine gt_9_15 (i := 0) C hP (hok.2.1 9 0 (Nat.le_of_ble_eq_true rfl)) lk_X9_119 dX9_goesOn_85 ?_
        refine lv_iconst (v := (1 : Int32)) hx hb dX9_goesOn_88 (by decide) ?_
        refine lv_iadd hx hb dX9_goesOn_89 ?_
        refine pt_9_15 (i := 0) (v := ((gF w 9 15 0) + (1 : Int32))) C hok.1 hP hS (hok.2.1 9 0 (Nat.le_of_ble_eq_true rfl)) lk_X9_119 dX9_goesOn_90 (fun H locs hP hS => ?_)
        refine lv_goto (tgt := 65) hx hb dX9_goesOn_93 (by decide) ?_
        exact ih (sF w 9 15 0 ((gF w 9 15 0) + (1 : Int32))) hf _ _ ls hP hS (lv_sub hl [0] rfl)
  have P_f_X9_goesOn_26 : ∀ (w : Mem), f_X9_goesOn_26 N w    = some w' → WP p l e (rmk 1) s m [.ref (ad 9 0)].toArray below meth c D ca ad PL A (MQ below (qcR D ca ad PL Z A w' none) [.ref (ad 9 0)].toArray s 0 0 A) 2 26 [] [(0, .ref (ad 9 0))] w := by
    intro w hf _ _ ls hP hS hl
    unfold f_X9_goesOn_26 at hf
    refine lv_aload_n hx hb dX9_goesOn_26 rfl (lv_at hl 0 rfl) ?_
    refine lv_aload_n hx hb dX9_goesOn_27 rfl (lv_at hl 0 rfl) ?_
    refine gt_9_15 (i := 0) C hP (hok.2.1 9 0 (Nat.le_of_ble_eq_true rfl)) lk_X9_119 dX9_goesOn_28 ?_
    refine pt_9_14 (i := 0) (v := (gF w 9 15 0)) C hok.1 hP hS (hok.2.1 9 0 (Nat.le_of_ble_eq_true rfl)) lk_X9_126 dX9_goesOn_31 (fun H locs hP hS => ?_)
    refine lv_aload_n hx hb dX9_goesOn_34 rfl (lv_at hl 0 rfl) ?_
    refine lv_aload_n hx hb dX9_goesOn_35 rfl (lv_at hl 0 rfl) ?_
    refine gt_9_15 (i := 0) C hP (hok.2.1 9 0 (Nat.le_of_ble_eq_true rfl)) lk_X9_119 dX9_goesOn_36 ?_
    obtain ⟨z2, q3, hf⟩ := bsp hf
    refine kc_V (ci := 9) (i := 0) (As := [.int (gF (sF w 9 14 0 (gF w 9 15 0)) 9 15 0)]) (rest := []) hok.2.2 C hP hS hl.1 (hok.2.1 9 0 (Nat.le_of_ble_eq_true rfl)) rfl rfl cw_X9_see ml_X9_122 (c_X9_see l D ca ad PL Z A hok N (sF w 9 14 0 (gF w 9 15 0)) (gF (sF w 9 14 0 (gF w 9 15 0)) 9 15 0) z2 q3) rfl ⟨rfl, rfl⟩ ⟨Nat.le_of_ble_eq_true rfl, Nat.le_of_ble_eq_true rfl⟩ ⟨Nat.zero_le _, Nat.zero_le _⟩ (Nat.le_of_ble_eq_true rfl) rfl dX9_goesOn_39 (fun H locs hP hS => ?_)
    refine lv_istore_n (lv' := [(1, .int z2), (0, .ref (ad 9 0))]) hx hb dX9_goesOn_42 rfl hl (by decide) rfl (fun ls hl => ?_)
    refine lv_iload_n hx hb dX9_goesOn_43 rfl (lv_at hl 0 rfl) ?_
    refine lv_iconst (v := (-1 : Int32)) hx hb dX9_goesOn_44 (by decide) ?_
    refine lv_icmp_ne (tgt := 54) hx hb dX9_goesOn_45 (by decide) (fun c29 => ?_) (fun c29 => ?_)
    · have hf := ifn hf c29
      refine lv_iload_n hx hb dX9_goesOn_54 rfl (lv_at hl 0 rfl) ?_
      refine lv_bipush (v := (97 : Int32)) hx hb dX9_goesOn_55 (by decide) ?_
      refine lv_bipush (v := (122 : Int32)) hx hb dX9_goesOn_57 (by decide) ?_
      obtain ⟨z4, q5, hf⟩ := bsp hf
      refine kc_S (As := [.int z2, .int (97 : Int32), .int (122 : Int32)]) (rest := []) hok.2.2 C hP hS hl.1 cw_X9_in ml_X9_132 (c_X9_in l D ca ad PL Z A hok N (sF w 9 14 0 (gF w 9 15 0)) z2 (97 : Int32) (122 : Int32) z4 q5) rfl ⟨rfl, rfl⟩ ⟨Nat.le_of_ble_eq_true rfl, Nat.le_of_ble_eq_true rfl⟩ ⟨Nat.zero_le _, Nat.zero_le _⟩ (Nat.le_of_ble_eq_true rfl) rfl dX9_goesOn_59 (fun H locs hP hS => ?_)
      refine lv_if_eq (tgt := 120) hx hb dX9_goesOn_62 (by decide) (fun c28 => ?_) (fun c28 => ?_)
      · have hf := ifp hf c28
        refine lv_iload_n hx hb dX9_goesOn_120 rfl (lv_at hl 0 rfl) ?_
        refine lv_bipush (v := (48 : Int32)) hx hb dX9_goesOn_121 (by decide) ?_
        refine lv_bipush (v := (57 : Int32)) hx hb dX9_goesOn_123 (by decide) ?_
        obtain ⟨z6, q7, hf⟩ := bsp hf
        refine kc_S (As := [.int z2, .int (48 : Int32), .int (57 : Int32)]) (rest := []) hok.2.2 C hP hS hl.1 cw_X9_in ml_X9_132 (c_X9_in l D ca ad PL Z A hok N (sF w 9 14 0 (gF w 9 15 0)) z2 (48 : Int32) (57 : Int32) z6 q7) rfl ⟨rfl, rfl⟩ ⟨Nat.le_of_ble_eq_true rfl, Nat.le_of_ble_eq_true rfl⟩ ⟨Nat.zero_le _, Nat.zero_le _⟩ (Nat.le_of_ble_eq_true rfl) rfl dX9_goesOn_125 (fun H locs hP hS => ?_)
        refine lv_if_eq (tgt := 193) hx hb dX9_goesOn_128 (by decide) (fun c20 => ?_) (fun c20 => ?_)
        · have hf := ifp hf c20
          refine lv_aload_n hx hb dX9_goesOn_193 rfl (lv_at hl 1 rfl) ?_
          refine lv_dup hx hb dX9_goesOn_194 rfl ?_
          refine gt_9_15 (i := 0) C hP (hok.2.1 9 0 (Nat.le_of_ble_eq_true rfl)) lk_X9_119 dX9_goesOn_195 ?_
          refine lv_iconst (v := (1 : Int32)) hx hb dX9_goesOn_198 (by decide) ?_
          refine lv_iadd hx hb dX9_goesOn_199 ?_
          refine pt_9_15 (i := 0) (v := ((gF (sF w 9 14 0 (gF w 9 15 0)) 9 15 0) + (1 : Int32))) C hok.1 hP hS (hok.2.1 9 0 (Nat.le_of_ble_eq_true rfl)) lk_X9_119 dX9_goesOn_200 (fun H locs hP hS => ?_)
          refine lv_aload_n hx hb dX9_goesOn_203 rfl (lv_at hl 1 rfl) ?_
          refine lv_iload_n hx hb dX9_goesOn_204 rfl (lv_at hl 0 rfl) ?_
          refine lv_bipush (v := (59 : Int32)) hx hb dX9_goesOn_205 (by decide) ?_
          refine lv_icmp_eq (tgt := 234) hx hb dX9_goesOn_207 (by decide) (fun c12 => ?_) (fun c12 => ?_)
          · have hf := ifp hf c12
            refine lv_iload_n hx hb dX9_goesOn_234 rfl (lv_at hl 0 rfl) ?_
            refine lv_goto (tgt := 239) hx hb dX9_goesOn_235 (by decide) ?_
            refine pt_9_16 (i := 0) (v := z2) C hok.1 hP hS (hok.2.1 9 0 (Nat.le_of_ble_eq_true rfl)) lk_X9_129 dX9_goesOn_239 (fun H locs hP hS => ?_)
            exact kr_v hok.2.2 C hlocks hr hP hS (Option.some.inj hf) dX9_goesOn_242
          · have hf := ifn hf c12
            refine lv_iload_n hx hb dX9_goesOn_210 rfl (lv_at hl 0 rfl) ?_
            refine lv_bipush (v := (44 : Int32)) hx hb dX9_goesOn_211 (by decide) ?_
            refine lv_icmp_eq (tgt := 234) hx hb dX9_goesOn_213 (by decide) (fun c11 => ?_) (fun c11 => ?_)
            · have hf := ifp hf c11
              refine lv_iload_n hx hb dX9_goesOn_234 rfl (lv_at hl 0 rfl) ?_
              refine lv_goto (tgt := 239) hx hb dX9_goesOn_235 (by decide) ?_
              refine pt_9_16 (i := 0) (v := z2) C hok.1 hP hS (hok.2.1 9 0 (Nat.le_of_ble_eq_true rfl)) lk_X9_129 dX9_goesOn_239 (fun H locs hP hS => ?_)
              exact kr_v hok.2.2 C hlocks hr hP hS (Option.some.inj hf) dX9_goesOn_242
            · have hf := ifn hf c11
              refine lv_iload_n hx hb dX9_goesOn_216 rfl (lv_at hl 0 rfl) ?_
              refine lv_bipush (v := (61 : Int32)) hx hb dX9_goesOn_217 (by decide) ?_
              refine lv_icmp_eq (tgt := 234) hx hb dX9_goesOn_219 (by decide) (fun c10 => ?_) (fun c10 => ?_)
              · have hf := ifp hf c10
                refine lv_iload_n hx hb dX9_goesOn_234 rfl (lv_at hl 0 rfl) ?_
                refine lv_goto (tgt := 239) hx hb dX9_goesOn_235 (by decide) ?_
                refine pt_9_16 (i := 0) (v := z2) C hok.1 hP hS (hok.2.1 9 0 (Nat.le_of_ble_eq_true rfl)) lk_X9_129 dX9_goesOn_239 (fun H locs hP hS => ?_)
                exact kr_v hok.2.2 C hlocks hr hP hS (Option.some.inj hf) dX9_goesOn_242
              · have hf := ifn hf c10
                refine lv_iload_n hx hb dX9_goesOn_222 rfl (lv_at hl 0 rfl) ?_
                refine lv_bipush (v := (40 : Int32)) hx hb dX9_goesOn_223 (by decide) ?_
                refine lv_icmp_eq (tgt := 234) hx hb dX9_goesOn_225 (by decide) (fun c9 => ?_) (fun c9 => ?_)
                · have hf := ifp hf c9
                  refine lv_iload_n hx hb dX9_goesOn_234 rfl (lv_at hl 0 rfl) ?_
                  refine lv_goto (tgt := 239) hx hb dX9_goesOn_235 (by decide) ?_
                  refine pt_9_16 (i := 0) (v := z2) C hok.1 hP hS (hok.2.1 9 0 (Nat.le_of_ble_eq_true rfl)) lk_X9_129 dX9_goesOn_239 (fun H locs hP hS => ?_)
                  exact kr_v hok.2.2 C hlocks hr hP hS (Option.some.inj hf) dX9_goesOn_242
                · have hf := ifn hf c9
                  refine lv_iload_n hx hb dX9_goesOn_228 rfl (lv_at hl 0 rfl) ?_
                  refine lv_bipush (v := (41 : Int32)) hx hb dX9_goesOn_229 (by decide) ?_
                  refine lv_icmp_ne (tgt := 238) hx hb dX9_goesOn_231 (by decide) (fun c8 => ?_) (fun c8 => ?_)
                  · have hf := ifn hf c8
                    refine lv_iconst (v := (1 : Int32)) hx hb dX9_goesOn_238 (by decide) ?_
                    refine pt_9_16 (i := 0) (v := (1 : Int32)) C hok.1 hP hS (hok.2.1 9 0 (Nat.le_of_ble_eq_true rfl)) lk_X9_129 dX9_goesOn_239 (fun H locs hP hS => ?_)
                    exact kr_v hok.2.2 C hlocks hr hP hS (Option.some.inj hf) dX9_goesOn_242
                  · have hf := ifp hf c8
                    refine lv_iload_n hx hb dX9_goesOn_234 rfl (lv_at hl 0 rfl) ?_
                    refine lv_goto (tgt := 239) hx hb dX9_goesOn_235 (by decide) ?_
                    refine pt_9_16 (i := 0) (v := z2) C hok.1 hP hS (hok.2.1 9 0 (Nat.le_of_ble_eq_true rfl)) lk_X9_129 dX9_goesOn_239 (fun H locs hP hS => ?_)
                    exact kr_v hok.2.2 C hlocks hr hP hS (Option.some.inj hf) dX9_goesOn_242
        · have hf := ifn hf c20
          refine lv_aload_n hx hb dX9_goesOn_131 rfl (lv_at hl 1 rfl) ?_
          refine lv_iload_n hx hb dX9_goesOn_132 rfl (lv_at hl 0 rfl) ?_
          refine lv_bipush (v := (48 : Int32)) hx hb dX9_goesOn_133 (by decide) ?_
          refine lv_isub hx hb dX9_goesOn_135 ?_
          refine pt_9_17 (i := 0) (v := (z2 - (48 : Int32))) C hok.1 hP hS (hok.2.1 9 0 (Nat.le_of_ble_eq_true rfl)) lk_X9_136 dX9_goesOn_136 (fun H locs hP hS => ?_)
          exact L_lp_X9_goesOn_139 _ (fun w_13 hf H locs ls hP hS hl => P_f_X9_goesOn_170 w_13 hf _ _ ls hP hS (lv_sub hl [0] rfl)) N (sF (sF w 9 14 0 (gF w 9 15 0)) 9 17 0 (z2 - (48 : Int32))) hf _ _ ls hP hS (lv_sub hl [1] rfl)
      · have hf := ifn hf c28
        exact L_lp_X9_goesOn_65 _ (fun w_21 hf H locs ls hP hS hl => P_f_X9_goesOn_96 w_21 hf _ _ ls hP hS (lv_sub hl [0] rfl)) N (sF w 9 14 0 (gF w 9 15 0)) hf _ _ ls hP hS (lv_sub hl [1] rfl)
    · have hf := ifp hf c29
      refine lv_aload_n hx hb dX9_goesOn_48 rfl (lv_at hl 1 rfl) ?_
      refine lv_iconst (v := (0 : Int32)) hx hb dX9_goesOn_49 (by decide) ?_
      refine pt_9_16 (i := 0) (v := (0 : Int32)) C hok.1 hP hS (hok.2.1 9 0 (Nat.le_of_ble_eq_true rfl)) lk_X9_129 dX9_goesOn_50 (fun H locs hP hS => ?_)
      exact kr_v hok.2.2 C hlocks hr hP hS (Option.some.inj hf) dX9_goesOn_53
  have L_lp_X9_goesOn_0 : ∀ (k : Mem → Option (Mem)) (hk : ∀ (w : Mem), k w = some w' → WP p l e (rmk 1) s m [.ref (ad 9 0)].toArray below meth c D ca ad PL A (MQ below (qcR D ca ad PL Z A w' none) [.ref (ad 9 0)].toArray s 0 0 A) 2 26 [] [(0, .ref (ad 9 0))] w) (n : Nat) (w : Mem), lp_X9_goesOn_0 k N    n w = some w' → WP p l e (rmk 1) s m [.ref (ad 9 0)].toArray below meth c D ca ad PL A (MQ below (qcR D ca ad PL Z A w' none) [.ref (ad 9 0)].toArray s 0 0 A) 2 0 [] [(0, .ref (ad 9 0))] w := by
    intro k hk n
    induction n with
    | zero => intro w hf; rw [lp_X9_goesOn_0] at hf; cases hf
    | succ n ih =>
      intro w hf _ _ ls hP hS hl
      rw [lp_X9_goesOn_0] at hf
      refine lv_aload_n hx hb dX9_goesOn_0 rfl (lv_at hl 0 rfl) ?_
      refine lv_aload_n hx hb dX9_goesOn_1 rfl (lv_at hl 0 rfl) ?_
      refine gt_9_15 (i := 0) C hP (hok.2.1 9 0 (Nat.le_of_ble_eq_true rfl)) lk_X9_119 dX9_goesOn_2 ?_
      obtain ⟨z30, q31, hf⟩ := bsp hf
      refine kc_V (ci := 9) (i := 0) (As := [.int (gF w 9 15 0)]) (rest := []) hok.2.2 C hP hS hl.1 (hok.2.1 9 0 (Nat.le_of_ble_eq_true rfl)) rfl rfl cw_X9_see ml_X9_122 (c_X9_see l D ca ad PL Z A hok N w (gF w 9 15 0) z30 q31) rfl ⟨rfl, rfl⟩ ⟨Nat.le_of_ble_eq_true rfl, Nat.le_of_ble_eq_true rfl⟩ ⟨Nat.zero_le _, Nat.zero_le _⟩ (Nat.le_of_ble_eq_true rfl) rfl dX9_goesOn_5 (fun H locs hP hS => ?_)
      refine lv_bipush (v := (32 : Int32)) hx hb dX9_goesOn_8 (by decide) ?_
      refine lv_icmp_ne (tgt := 26) hx hb dX9_goesOn_10 (by decide) (fun c32 => ?_) (fun c32 => ?_)
      · have hf := ifn hf c32
        exact hk w hf _ _ ls hP hS (lv_sub hl [0] rfl)
      · have hf := ifp hf c32
        refine lv_aload_n hx hb dX9_goesOn_13 rfl (lv_at hl 0 rfl) ?_
        refine lv_dup hx hb dX9_goesOn_14 rfl ?_
        refine gt_9_15 (i := 0) C hP (hok.2.1 9 0 (Nat.le_of_ble_eq_true rfl)) lk_X9_119 dX9_goesOn_15 ?_
        refine lv_iconst (v := (1 : Int32)) hx hb dX9_goesOn_18 (by decide) ?_
        refine lv_iadd hx hb dX9_goesOn_19 ?_
        refine pt_9_15 (i := 0) (v := ((gF w 9 15 0) + (1 : Int32))) C hok.1 hP hS (hok.2.1 9 0 (Nat.le_of_ble_eq_true rfl)) lk_X9_119 dX9_goesOn_20 (fun H locs hP hS => ?_)
        refine lv_goto (tgt := 0) hx hb dX9_goesOn_23 (by decide) ?_
        exact ih (sF w 9 15 0 ((gF w 9 15 0) + (1 : Int32))) hf _ _ ls hP hS (lv_sub hl [0] rfl)
  unfold f_X9_goesOn at hf
  -- walk
  exact L_lp_X9_goesOn_0 _ (fun w_1 hf H locs ls hP hS hl => P_f_X9_goesOn_26 w_1 hf _ _ ls hP hS (lv_sub hl [0] rfl)) N w hf _ _ ls hP hS (lv_sub hl [0] rfl)
def f_X9_errs (N : Nat) (w : Mem) (x1 : Int32) : Option (Mem × Int32) :=
  some ((sF (sF w 9 18 0 x1) 9 19 0 (gF (sF w 9 18 0 x1) 9 14 0)), (0 : Int32))
set_option maxRecDepth 100000 in
set_option maxHeartbeats 4000000 in
theorem c_X9_errs (l : Launch) (D : va_G) (ca : Nat → ClassId) (ad : Nat → Nat → Nat) (PL : List (Nat × Nat)) (Z : State → Prop) (A : Nat → Prop) (hok : okc bM Z A ad PL) (N : Nat) (w : Mem) (x1 : Int32) (w' : Mem) (r : Int32) (hf : f_X9_errs N w x1 = some (w', r)) : CT l yX9_errs (wsy yX9_errs cX9_errs 2 (some .boolean)) (rmk 0) D ca ad PL Z A [.ref (ad 9 0), .int x1] w w' (some (.int r)) := by
  refine Met.ofW (cc := cX9_errs) (maxL := 2) (ret := (some .boolean)) (by decide +kernel) rfl ?_
  intro p e s m args below meth c s₁ B hml hv
  obtain ⟨rfl, hP, hK, hZ⟩ := hv
  have hx := B.exec
  have hb := B.bytes
  have hr := B.returns
  have hlocks := B.notSynchronized
  have hts : ∀ w ∈ ALL, w.before _ s = true := fun w hw => atoms_spec (ws := wsy yX9_errs cX9_errs 2 (some .boolean)) B.pre w (List.mem_cons_of_mem _ hw)
  have hown : s.vm.findClass RX9 = some m.cls := findClass_of_methodNamed B.named
  have C : CX p s m _ c cX9_errs RX9 2 D ca Z := ⟨hx, hb, hml, hown, hts, hK, hZ⟩
  have hS : va_S A s.heap s.heap [] := va_S.rf
  have hl := lv_entry ([.ref (ad 9 0), .int x1]) (n := 2) (Nat.le_of_ble_eq_true rfl)
  rw [lg_entry_eq]
  generalize (lg_sl ([.ref (ad 9 0), .int x1]) ++ List.replicate (2 - (lg_sl ([.ref (ad 9 0), .int x1])).length) Slot.unset).toArray = ls at hl ⊢
  have hl : lv_has ls 2 [(0, .ref (ad 9 0)), (1, .int x1)] := hl
  show W p l e (rmk 0) s m _ below meth c s.heap [] 0 0 _ _
  unfold f_X9_errs at hf
  -- walk
  refine lv_aload_n hx hb dX9_errs_0 rfl (lv_at hl 0 rfl) ?_
  refine lv_iload_n hx hb dX9_errs_1 rfl (lv_at hl 1 rfl) ?_
  refine pt_9_18 (i := 0) (v := x1) C hok.1 hP hS (hok.2.1 9 0 (Nat.le_of_ble_eq_true rfl)) lk_X9_149 dX9_errs_2 (fun H locs hP hS => ?_)
  refine lv_aload_n hx hb dX9_errs_5 rfl (lv_at hl 0 rfl) ?_
  refine lv_aload_n hx hb dX9_errs_6 rfl (lv_at hl 0 rfl) ?_
  refine gt_9_14 (i := 0) C hP (hok.2.1 9 0 (Nat.le_of_ble_eq_true rfl)) lk_X9_126 dX9_errs_7 ?_
  refine pt_9_19 (i := 0) (v := (gF (sF w 9 18 0 x1) 9 14 0)) C hok.1 hP hS (hok.2.1 9 0 (Nat.le_of_ble_eq_true rfl)) lk_X9_152 dX9_errs_10 (fun H locs hP hS => ?_)
  refine lv_iconst (v := (0 : Int32)) hx hb dX9_errs_13 (by decide) ?_
  exact kr_i hok.2.2 C hlocks hr rfl hP hS (congrArg Prod.fst (Option.some.inj hf)) (congrArg Prod.snd (Option.some.inj hf)) dX9_errs_14
def f_X9_isAt_83 (N : Nat) (w : Mem) (k1 : Nat) (v3 : Int32) (v4 : Int32) (v5 : Int32) : Option (Int32) :=
  (if v5 = (0 : Int32) then
some (0 : Int32)
else
(if (6 : Int32) < (v4 - v3) then
some (0 : Int32)
else
some (1 : Int32)))
def f_X9_isAt_46_6_s2 (rc : Int32 → Int32 → Option (Int32)) (k : Int32 → Option (Int32)) (N : Nat) (w : Mem) (k1 : Nat) (v2 : Int32) (v3 : Int32) (v4 : Int32) (v6 : Int32) (s0 : Int32) (s1 : Int32) : Option (Int32) :=
  (if s1 = s0 then
(if v4 ≤ (v3 + v6) then
(rc (1 : Int32) (v6 + (1 : Int32)))
else
(if inb (v3 + v6) 500 = true then (if (gA w 40 0 (v3 + v6).toNatClampNeg) = (0 : Int32) then
(rc (0 : Int32) (v6 + (1 : Int32)))
else
(rc (1 : Int32) (v6 + (1 : Int32)))) else none))
else
(rc (0 : Int32) (v6 + (1 : Int32))))
def lp_X9_isAt_6 (k : Int32 → Option (Int32)) (N : Nat) (w : Mem) (k1 : Nat) (v2 : Int32) (v3 : Int32) (v4 : Int32) : Nat → Int32 → Int32 → Option (Int32)
  | 0, _, _ => none
  | n + 1, v5, v6 => (if (6 : Int32) ≤ v6 then
(k v5)
else
(if v5 = (0 : Int32) then
(lp_X9_isAt_6 k N w k1 v2 v3 v4 n (0 : Int32) (v6 + (1 : Int32)))
else
(if inb (v2 + v6) (alen k1) = true then (if v4 ≤ (v3 + v6) then
(f_X9_isAt_46_6_s2 (fun (v5 : Int32) (v6 : Int32) => lp_X9_isAt_6 k N w k1 v2 v3 v4 n v5 v6) k N w k1 v2 v3 v4 v6 (0 : Int32) (gA w k1 0 (v2 + v6).toNatClampNeg))
else
(if inb (v3 + v6) 500 = true then (f_X9_isAt_46_6_s2 (fun (v5 : Int32) (v6 : Int32) => lp_X9_isAt_6 k N w k1 v2 v3 v4 n v5 v6) k N w k1 v2 v3 v4 v6 (gA w 40 0 (v3 + v6).toNatClampNeg) (gA w k1 0 (v2 + v6).toNatClampNeg)) else none)) else none)))
def f_X9_isAt (N : Nat) (w : Mem) (k1 : Nat) (x2 : Int32) (x3 : Int32) (x4 : Int32) : Option (Int32) :=
  (lp_X9_isAt_6 (fun (u5_1 : Int32) => (f_X9_isAt_83 N w k1 x3 x4 u5_1 )) N w k1 x2 x3 x4 N (1 : Int32) (0 : Int32))
set_option maxRecDepth 100000 in
set_option maxHeartbeats 4000000 in
theorem c_X9_isAt (l : Launch) (D : va_G) (ca : Nat → ClassId) (ad : Nat → Nat → Nat) (PL : List (Nat × Nat)) (Z : State → Prop) (A : Nat → Prop) (hok : okc bM Z A ad PL) (N : Nat) (w : Mem) (k1 : Nat) (hk1 : 10 ≤ k1) (he1 : ety k1 = 0) (hb1 : bM k1 = 1) (x2 : Int32) (x3 : Int32) (x4 : Int32) (r : Int32) (hf : f_X9_isAt N w k1 x2 x3 x4 = some r) : CT l yX9_isAt (wsy yX9_isAt cX9_isAt 7 (some .boolean)) (rmk 0) D ca ad PL Z A [.ref (ad 9 0), .ref (ad k1 0), .int x2, .int x3, .int x4] w w (some (.int r)) := by
  refine Met.ofW (cc := cX9_isAt) (maxL := 7) (ret := (some .boolean)) (by decide +kernel) rfl ?_
  intro p e s m args below meth c s₁ B hml hv
  obtain ⟨rfl, hP, hK, hZ⟩ := hv
  have hx := B.exec
  have hb := B.bytes
  have hr := B.returns
  have hlocks := B.notSynchronized
  have hts : ∀ w ∈ ALL, w.before _ s = true := fun w hw => atoms_spec (ws := wsy yX9_isAt cX9_isAt 7 (some .boolean)) B.pre w (List.mem_cons_of_mem _ hw)
  have hown : s.vm.findClass RX9 = some m.cls := findClass_of_methodNamed B.named
  have C : CX p s m _ c cX9_isAt RX9 7 D ca Z := ⟨hx, hb, hml, hown, hts, hK, hZ⟩
  have hS : va_S A s.heap s.heap [] := va_S.rf
  have hl := lv_entry ([.ref (ad 9 0), .ref (ad k1 0), .int x2, .int x3, .int x4]) (n := 7) (Nat.le_of_ble_eq_true rfl)
  rw [lg_entry_eq]
  generalize (lg_sl ([.ref (ad 9 0), .ref (ad k1 0), .int x2, .int x3, .int x4]) ++ List.replicate (7 - (lg_sl ([.ref (ad 9 0), .ref (ad k1 0), .int x2, .int x3, .int x4])).length) Slot.unset).toArray = ls at hl ⊢
  have hl : lv_has ls 7 [(0, .ref (ad 9 0)), (1, .ref (ad k1 0)), (2, .int x2), (3, .int x3), (4, .int x4)] := hl
  show W p l e (rmk 0) s m _ below meth c s.heap [] 0 0 _ _
  have P_f_X9_isAt_83 : ∀ (v3 : Int32) (v4 : Int32) (v5 : Int32), f_X9_isAt_83 N w k1 v3 v4 v5  = some r → WP p l e (rmk 0) s m [.ref (ad 9 0), .ref (ad k1 0), .int x2, .int x3, .int x4].toArray below meth c D ca ad PL A (MQ below (qcR D ca ad PL Z A w (some (.int r))) [.ref (ad 9 0), .ref (ad k1 0), .int x2, .int x3, .int x4].toArray s 0 0 A) 7 83 [] [(3, .int v3), (4, .int v4), (5, .int v5)] w := by
    intro v3 v4 v5 hf _ _ ls hP hS hl
    unfold f_X9_isAt_83 at hf
    refine lv_iload hx hb dX9_isAt_83 (lv_at hl 2 rfl) ?_
    refine lv_if_eq (tgt := 101) hx hb dX9_isAt_85 (by decide) (fun c3 => ?_) (fun c3 => ?_)
    · have hf := ifp hf c3
      refine lv_iconst (v := (0 : Int32)) hx hb dX9_isAt_101 (by decide) ?_
      exact kr_i hok.2.2 C hlocks hr rfl hP hS rfl (Option.some.inj hf) dX9_isAt_102
    · have hf := ifn hf c3
      refine lv_iload hx hb dX9_isAt_88 (lv_at hl 1 rfl) ?_
      refine lv_iload_n hx hb dX9_isAt_90 rfl (lv_at hl 0 rfl) ?_
      refine lv_isub hx hb dX9_isAt_91 ?_
      refine lv_bipush (v := (6 : Int32)) hx hb dX9_isAt_92 (by decide) ?_
      refine lv_icmp_gt (tgt := 101) hx hb dX9_isAt_94 (by decide) (fun c2 => ?_) (fun c2 => ?_)
      · have hf := ifp hf c2
        refine lv_iconst (v := (0 : Int32)) hx hb dX9_isAt_101 (by decide) ?_
        exact kr_i hok.2.2 C hlocks hr rfl hP hS rfl (Option.some.inj hf) dX9_isAt_102
      · have hf := ifn hf c2
        refine lv_iconst (v := (1 : Int32)) hx hb dX9_isAt_97 (by decide) ?_
        refine lv_goto (tgt := 102) hx hb dX9_isAt_98 (by decide) ?_
        exact kr_i hok.2.2 C hlocks hr rfl hP hS rfl (Option.some.inj hf) dX9_isAt_102
  have P_f_X9_isAt_46_6_s2 : ∀ (v2 : Int32) (v3 : Int32) (v4 : Int32) (rc : Int32 → Int32 → Option (Int32)) (hrc : ∀ (v5 : Int32) (v6 : Int32), rc v5 v6 = some r → WP p l e (rmk 0) s m [.ref (ad 9 0), .ref (ad k1 0), .int x2, .int x3, .int x4].toArray below meth c D ca ad PL A (MQ below (qcR D ca ad PL Z A w (some (.int r))) [.ref (ad 9 0), .ref (ad k1 0), .int x2, .int x3, .int x4].toArray s 0 0 A) 7 6 [] [(0, .ref (ad 9 0)), (1, .ref (ad k1 0)), (2, .int v2), (3, .int v3), (4, .int v4), (5, .int v5), (6, .int v6)] w) (k : Int32 → Option (Int32)) (hk : ∀ (v5 : Int32), k v5 = some r → WP p l e (rmk 0) s m [.ref (ad 9 0), .ref (ad k1 0), .int x2, .int x3, .int x4].toArray below meth c D ca ad PL A (MQ below (qcR D ca ad PL Z A w (some (.int r))) [.ref (ad 9 0), .ref (ad k1 0), .int x2, .int x3, .int x4].toArray s 0 0 A) 7 83 [] [(3, .int v3), (4, .int v4), (5, .int v5)] w) (v6 : Int32) (s0 : Int32) (s1 : Int32), f_X9_isAt_46_6_s2 rc k N w k1 v2 v3 v4 v6 s0 s1 = some r → WP p l e (rmk 0) s m [.ref (ad 9 0), .ref (ad k1 0), .int x2, .int x3, .int x4].toArray below meth c D ca ad PL A (MQ below (qcR D ca ad PL Z A w (some (.int r))) [.ref (ad 9 0), .ref (ad k1 0), .int x2, .int x3, .int x4].toArray s 0 0 A) 7 46 [.int s0, .int s1] [(0, .ref (ad 9 0)), (1, .ref (ad k1 0)), (2, .int v2), (3, .int v3), (4, .int v4), (6, .int v6)] w := by
    intro v2 v3 v4 rc hrc k hk v6 s0 s1 hf _ _ ls hP hS hl
    unfold f_X9_isAt_46_6_s2 at hf
    refine lv_icmp_ne (tgt := 74) hx hb dX9_isAt_46 (by decide) (fun c8 => ?_) (fun c8 => ?_)
    · have hf := ifn hf c8
      refine lv_iconst (v := (0 : Int32)) hx hb dX9_isAt_74 (by decide) ?_
      refine lv_istore (lv' := [(5, .int (0 : Int32)), (0, .ref (ad 9 0)), (1, .ref (ad k1 0)), (2, .int v2), (3, .int v3), (4, .int v4), (6, .int v6)]) hx hb dX9_isAt_75 hl (by decide) rfl (fun ls hl => ?_)
      refine lv_iinc (v := (v6 + (1 : Int32))) (lv' := [(6, .int (v6 + (1 : Int32))), (5, .int (0 : Int32)), (0, .ref (ad 9 0)), (1, .ref (ad k1 0)), (2, .int v2), (3, .int v3), (4, .int v4)]) hx hb dX9_isAt_77 hl (k := 6) rfl rfl (by decide) rfl (fun ls hl => ?_)
      refine lv_goto (tgt := 6) hx hb dX9_isAt_80 (by decide) ?_
      exact hrc (0 : Int32) (v6 + (1 : Int32)) hf _ _ ls hP hS (lv_sub hl [2, 3, 4, 5, 6, 1, 0] rfl)
    · have hf := ifp hf c8
      refine lv_iload_n hx hb dX9_isAt_49 rfl (lv_at hl 3 rfl) ?_
      refine lv_iload hx hb dX9_isAt_50 (lv_at hl 5 rfl) ?_
      refine lv_iadd hx hb dX9_isAt_52 ?_
      refine lv_iload hx hb dX9_isAt_53 (lv_at hl 4 rfl) ?_
      refine lv_icmp_ge (tgt := 70) hx hb dX9_isAt_55 (by decide) (fun c7 => ?_) (fun c7 => ?_)
      · have hf := ifp hf c7
        refine lv_iconst (v := (1 : Int32)) hx hb dX9_isAt_70 (by decide) ?_
        refine lv_goto (tgt := 75) hx hb dX9_isAt_71 (by decide) ?_
        refine lv_istore (lv' := [(5, .int (1 : Int32)), (0, .ref (ad 9 0)), (1, .ref (ad k1 0)), (2, .int v2), (3, .int v3), (4, .int v4), (6, .int v6)]) hx hb dX9_isAt_75 hl (by decide) rfl (fun ls hl => ?_)
        refine lv_iinc (v := (v6 + (1 : Int32))) (lv' := [(6, .int (v6 + (1 : Int32))), (5, .int (1 : Int32)), (0, .ref (ad 9 0)), (1, .ref (ad k1 0)), (2, .int v2), (3, .int v3), (4, .int v4)]) hx hb dX9_isAt_77 hl (k := 6) rfl rfl (by decide) rfl (fun ls hl => ?_)
        refine lv_goto (tgt := 6) hx hb dX9_isAt_80 (by decide) ?_
        exact hrc (1 : Int32) (v6 + (1 : Int32)) hf _ _ ls hP hS (lv_sub hl [2, 3, 4, 5, 6, 1, 0] rfl)
      · have hf := ifn hf c7
        refine lv_aload_n hx hb dX9_isAt_58 rfl (lv_at hl 0 rfl) ?_
        refine gt_9_4 (i := 0) C hP (hok.2.1 9 0 (Nat.le_of_ble_eq_true rfl)) lk_X9_13 dX9_isAt_59 ?_
        refine lv_iload_n hx hb dX9_isAt_62 rfl (lv_at hl 3 rfl) ?_
        refine lv_iload hx hb dX9_isAt_63 (lv_at hl 5 rfl) ?_
        refine lv_iadd hx hb dX9_isAt_65 ?_
        obtain ⟨b5, hf⟩ := gsp hf
        refine ra_ild (k := 40) (i := 0) (n := 500) (f := (gA w 40 0)) C hP (hok.2.1 40 0 (Nat.le_of_ble_eq_true rfl)) rfl b5 dX9_isAt_66 ?_
        refine lv_if_eq (tgt := 74) hx hb dX9_isAt_67 (by decide) (fun c6 => ?_) (fun c6 => ?_)
        · have hf := ifp hf c6
          refine lv_iconst (v := (0 : Int32)) hx hb dX9_isAt_74 (by decide) ?_
          refine lv_istore (lv' := [(5, .int (0 : Int32)), (0, .ref (ad 9 0)), (1, .ref (ad k1 0)), (2, .int v2), (3, .int v3), (4, .int v4), (6, .int v6)]) hx hb dX9_isAt_75 hl (by decide) rfl (fun ls hl => ?_)
          refine lv_iinc (v := (v6 + (1 : Int32))) (lv' := [(6, .int (v6 + (1 : Int32))), (5, .int (0 : Int32)), (0, .ref (ad 9 0)), (1, .ref (ad k1 0)), (2, .int v2), (3, .int v3), (4, .int v4)]) hx hb dX9_isAt_77 hl (k := 6) rfl rfl (by decide) rfl (fun ls hl => ?_)
          refine lv_goto (tgt := 6) hx hb dX9_isAt_80 (by decide) ?_
          exact hrc (0 : Int32) (v6 + (1 : Int32)) hf _ _ ls hP hS (lv_sub hl [2, 3, 4, 5, 6, 1, 0] rfl)
        · have hf := ifn hf c6
          refine lv_iconst (v := (1 : Int32)) hx hb dX9_isAt_70 (by decide) ?_
          refine lv_goto (tgt := 75) hx hb dX9_isAt_71 (by decide) ?_
          refine lv_istore (lv' := [(5, .int (1 : Int32)), (0, .ref (ad 9 0)), (1, .ref (ad k1 0)), (2, .int v2), (3, .int v3), (4, .int v4), (6, .int v6)]) hx hb dX9_isAt_75 hl (by decide) rfl (fun ls hl => ?_)
          refine lv_iinc (v := (v6 + (1 : Int32))) (lv' := [(6, .int (v6 + (1 : Int32))), (5, .int (1 : Int32)), (0, .ref (ad 9 0)), (1, .ref (ad k1 0)), (2, .int v2), (3, .int v3), (4, .int v4)]) hx hb dX9_isAt_77 hl (k := 6) rfl rfl (by decide) rfl (fun ls hl => ?_)
          refine lv_goto (tgt := 6) hx hb dX9_isAt_80 (by decide) ?_
          exact hrc (1 : Int32) (v6 + (1 : Int32)) hf _ _ ls hP hS (lv_sub hl [2, 3, 4, 5, 6, 1, 0] rfl)
  have L_lp_X9_isAt_6 : ∀ (v2 : Int32) (v3 : Int32) (v4 : Int32) (k : Int32 → Option (Int32)) (hk : ∀ (v5 : Int32), k v5 = some r → WP p l e (rmk 0) s m [.ref (ad 9 0), .ref (ad k1 0), .int x2, .int x3, .int x4].toArray below meth c D ca ad PL A (MQ below (qcR D ca ad PL Z A w (some (.int r))) [.ref (ad 9 0), .ref (ad k1 0), .int x2, .int x3, .int x4].toArray s 0 0 A) 7 83 [] [(3, .int v3), (4, .int v4), (5, .int v5)] w) (n : Nat) (v5 : Int32) (v6 : Int32), lp_X9_isAt_6 k N w k1 v2 v3 v4 n v5 v6 = some r → WP p l e (rmk 0) s m [.ref (ad 9 0), .ref (ad k1 0), .int x2, .int x3, .int x4].toArray below meth c D ca ad PL A (MQ below (qcR D ca ad PL Z A w (some (.int r))) [.ref (ad 9 0), .ref (ad k1 0), .int x2, .int x3, .int x4].toArray s 0 0 A) 7 6 [] [(0, .ref (ad 9 0)), (1, .ref (ad k1 0)), (2, .int v2), (3, .int v3), (4, .int v4), (5, .int v5), (6, .int v6)] w := by
    intro v2 v3 v4 k hk n
    induction n with
    | zero => intro v5 v6 hf; rw [lp_X9_isAt_6] at hf; cases hf
    | succ n ih =>
      intro v5 v6 hf _ _ ls hP hS hl
      rw [lp_X9_isAt_6] at hf
      refine lv_iload hx hb dX9_isAt_6 (lv_at hl 6 rfl) ?_
      refine lv_bipush (v := (6 : Int32)) hx hb dX9_isAt_8 (by decide) ?_
      refine lv_icmp_ge (tgt := 83) hx hb dX9_isAt_10 (by decide) (fun c12 => ?_) (fun c12 => ?_)
      · have hf := ifp hf c12
        exact hk v5 hf _ _ ls hP hS (lv_sub hl [3, 4, 5] rfl)
      · have hf := ifn hf c12
        refine lv_iload hx hb dX9_isAt_13 (lv_at hl 5 rfl) ?_
        refine lv_if_eq (tgt := 74) hx hb dX9_isAt_15 (by decide) (fun c11 => ?_) (fun c11 => ?_)
        · have hf := ifp hf c11
          refine lv_iconst (v := (0 : Int32)) hx hb dX9_isAt_74 (by decide) ?_
          refine lv_istore (lv' := [(5, .int (0 : Int32)), (0, .ref (ad 9 0)), (1, .ref (ad k1 0)), (2, .int v2), (3, .int v3), (4, .int v4), (6, .int v6)]) hx hb dX9_isAt_75 hl (by decide) rfl (fun ls hl => ?_)
          refine lv_iinc (v := (v6 + (1 : Int32))) (lv' := [(6, .int (v6 + (1 : Int32))), (5, .int (0 : Int32)), (0, .ref (ad 9 0)), (1, .ref (ad k1 0)), (2, .int v2), (3, .int v3), (4, .int v4)]) hx hb dX9_isAt_77 hl (k := 6) rfl rfl (by decide) rfl (fun ls hl => ?_)
          refine lv_goto (tgt := 6) hx hb dX9_isAt_80 (by decide) ?_
          exact ih (0 : Int32) (v6 + (1 : Int32)) hf _ _ ls hP hS (lv_sub hl [2, 3, 4, 5, 6, 1, 0] rfl)
        · have hf := ifn hf c11
          refine lv_aload_n hx hb dX9_isAt_18 rfl (lv_at hl 1 rfl) ?_
          refine lv_iload_n hx hb dX9_isAt_19 rfl (lv_at hl 2 rfl) ?_
          refine lv_iload hx hb dX9_isAt_20 (lv_at hl 6 rfl) ?_
          refine lv_iadd hx hb dX9_isAt_22 ?_
          obtain ⟨b4, hf⟩ := gsp hf
          refine ra_ild (k := k1) (i := 0) (n := (alen k1)) (f := (gA w k1 0)) C hP (hok.2.1 k1 0 (by rw [hb1]; exact Nat.zero_lt_one)) (ent_i ca ad w 0 hk1 he1) b4 dX9_isAt_23 ?_
          refine lv_iload_n hx hb dX9_isAt_24 rfl (lv_at hl 3 rfl) ?_
          refine lv_iload hx hb dX9_isAt_25 (lv_at hl 6 rfl) ?_
          refine lv_iadd hx hb dX9_isAt_27 ?_
          refine lv_iload hx hb dX9_isAt_28 (lv_at hl 4 rfl) ?_
          refine lv_icmp_ge (tgt := 45) hx hb dX9_isAt_30 (by decide) (fun c10 => ?_) (fun c10 => ?_)
          · have hf := ifp hf c10
            refine lv_iconst (v := (0 : Int32)) hx hb dX9_isAt_45 (by decide) ?_
            exact P_f_X9_isAt_46_6_s2 v2 v3 v4 _ ih _ hk v6 (0 : Int32) (gA w k1 0 (v2 + v6).toNatClampNeg) hf _ _ ls hP hS (lv_sub hl [0, 1, 2, 3, 4, 6] rfl)
          · have hf := ifn hf c10
            refine lv_aload_n hx hb dX9_isAt_33 rfl (lv_at hl 0 rfl) ?_
            refine gt_9_4 (i := 0) C hP (hok.2.1 9 0 (Nat.le_of_ble_eq_true rfl)) lk_X9_13 dX9_isAt_34 ?_
            refine lv_iload_n hx hb dX9_isAt_37 rfl (lv_at hl 3 rfl) ?_
            refine lv_iload hx hb dX9_isAt_38 (lv_at hl 6 rfl) ?_
            refine lv_iadd hx hb dX9_isAt_40 ?_
            obtain ⟨b9, hf⟩ := gsp hf
            refine ra_ild (k := 40) (i := 0) (n := 500) (f := (gA w 40 0)) C hP (hok.2.1 40 0 (Nat.le_of_ble_eq_true rfl)) rfl b9 dX9_isAt_41 ?_
            refine lv_goto (tgt := 46) hx hb dX9_isAt_42 (by decide) ?_
            exact P_f_X9_isAt_46_6_s2 v2 v3 v4 _ ih _ hk v6 (gA w 40 0 (v3 + v6).toNatClampNeg) (gA w k1 0 (v2 + v6).toNatClampNeg) hf _ _ ls hP hS (lv_sub hl [0, 1, 2, 3, 4, 6] rfl)
  unfold f_X9_isAt at hf
  -- walk
  refine lv_iconst (v := (1 : Int32)) hx hb dX9_isAt_0 (by decide) ?_
  refine lv_istore (lv' := [(5, .int (1 : Int32)), (0, .ref (ad 9 0)), (1, .ref (ad k1 0)), (2, .int x2), (3, .int x3), (4, .int x4)]) hx hb dX9_isAt_1 hl (by decide) rfl (fun ls hl => ?_)
  refine lv_iconst (v := (0 : Int32)) hx hb dX9_isAt_3 (by decide) ?_
  refine lv_istore (lv' := [(6, .int (0 : Int32)), (5, .int (1 : Int32)), (0, .ref (ad 9 0)), (1, .ref (ad k1 0)), (2, .int x2), (3, .int x3), (4, .int x4)]) hx hb dX9_isAt_4 hl (by decide) rfl (fun ls hl => ?_)
  exact L_lp_X9_isAt_6 x2 x3 x4 _ (fun u5_1 hf H locs ls hP hS hl => P_f_X9_isAt_83 x3 x4 u5_1 hf _ _ ls hP hS (lv_sub hl [0, 1, 2] rfl)) N (1 : Int32) (0 : Int32) hf _ _ ls hP hS (lv_sub hl [2, 3, 4, 5, 6, 1, 0] rfl)
def f_X9_keeps_47 (N : Nat) (w : Mem) (k1 : Nat) : Option (Mem) :=
  some w
def lp_X9_keeps_2 (k : Mem → Option (Mem)) (N : Nat) (k1 : Nat) (v2 : Int32) : Nat → Mem → Int32 → Option (Mem)
  | 0, _, _ => none
  | n + 1, w, v3 => (if (6 : Int32) ≤ v3 then
(k w)
else
(if (gF w 9 15 0) ≤ ((gF w 9 14 0) + v3) then
(if inb (v2 + v3) (alen k1) = true then (lp_X9_keeps_2 k N  k1 v2 n (sA w k1 0 (v2 + v3).toNatClampNeg (0 : Int32)) (v3 + (1 : Int32))) else none)
else
(if inb ((gF w 9 14 0) + v3) 500 = true then (if inb (v2 + v3) (alen k1) = true then (lp_X9_keeps_2 k N  k1 v2 n (sA w k1 0 (v2 + v3).toNatClampNeg (gA w 40 0 ((gF w 9 14 0) + v3).toNatClampNeg)) (v3 + (1 : Int32))) else none) else none)))
def f_X9_keeps (N : Nat) (w : Mem) (k1 : Nat) (x2 : Int32) : Option (Mem) :=
  (lp_X9_keeps_2 (fun (w_1 : Mem) => (f_X9_keeps_47 N w_1 k1  )) N  k1 x2 N w (0 : Int32))
set_option maxRecDepth 100000 in
set_option maxHeartbeats 4000000 in
theorem c_X9_keeps (l : Launch) (D : va_G) (ca : Nat → ClassId) (ad : Nat → Nat → Nat) (PL : List (Nat × Nat)) (Z : State → Prop) (A : Nat → Prop) (hok : okc bM Z A ad PL) (N : Nat) (w : Mem) (k1 : Nat) (hk1 : 10 ≤ k1) (he1 : ety k1 = 0) (hb1 : bM k1 = 1) (x2 : Int32) (w' : Mem) (hf : f_X9_keeps N w k1 x2 = some w') : CT l yX9_keeps (wsy yX9_keeps cX9_keeps 4 none) (rmk 0) D ca ad PL Z A [.ref (ad 9 0), .ref (ad k1 0), .int x2] w w' none := by
  refine Met.ofW (cc := cX9_keeps) (maxL := 4) (ret := none) (by decide +kernel) rfl ?_
  intro p e s m args below meth c s₁ B hml hv
  obtain ⟨rfl, hP, hK, hZ⟩ := hv
  have hx := B.exec
  have hb := B.bytes
  have hr := B.returns
  have hlocks := B.notSynchronized
  have hts : ∀ w ∈ ALL, w.before _ s = true := fun w hw => atoms_spec (ws := wsy yX9_keeps cX9_keeps 4 none) B.pre w (List.mem_cons_of_mem _ hw)
  have hown : s.vm.findClass RX9 = some m.cls := findClass_of_methodNamed B.named
  have C : CX p s m _ c cX9_keeps RX9 4 D ca Z := ⟨hx, hb, hml, hown, hts, hK, hZ⟩
  have hS : va_S A s.heap s.heap [] := va_S.rf
  have hl := lv_entry ([.ref (ad 9 0), .ref (ad k1 0), .int x2]) (n := 4) (Nat.le_of_ble_eq_true rfl)
  rw [lg_entry_eq]
  generalize (lg_sl ([.ref (ad 9 0), .ref (ad k1 0), .int x2]) ++ List.replicate (4 - (lg_sl ([.ref (ad 9 0), .ref (ad k1 0), .int x2])).length) Slot.unset).toArray = ls at hl ⊢
  have hl : lv_has ls 4 [(0, .ref (ad 9 0)), (1, .ref (ad k1 0)), (2, .int x2)] := hl
  show W p l e (rmk 0) s m _ below meth c s.heap [] 0 0 _ _
  have P_f_X9_keeps_47 : ∀ (w : Mem), f_X9_keeps_47 N w k1   = some w' → WP p l e (rmk 0) s m [.ref (ad 9 0), .ref (ad k1 0), .int x2].toArray below meth c D ca ad PL A (MQ below (qcR D ca ad PL Z A w' none) [.ref (ad 9 0), .ref (ad k1 0), .int x2].toArray s 0 0 A) 4 47 [] [] w := by
    intro w hf _ _ ls hP hS hl
    unfold f_X9_keeps_47 at hf
    exact kr_v hok.2.2 C hlocks hr hP hS (Option.some.inj hf) dX9_keeps_47
  have L_lp_X9_keeps_2 : ∀ (v2 : Int32) (k : Mem → Option (Mem)) (hk : ∀ (w : Mem), k w = some w' → WP p l e (rmk 0) s m [.ref (ad 9 0), .ref (ad k1 0), .int x2].toArray below meth c D ca ad PL A (MQ below (qcR D ca ad PL Z A w' none) [.ref (ad 9 0), .ref (ad k1 0), .int x2].toArray s 0 0 A) 4 47 [] [] w) (n : Nat) (w : Mem) (v3 : Int32), lp_X9_keeps_2 k N  k1 v2 n w v3 = some w' → WP p l e (rmk 0) s m [.ref (ad 9 0), .ref (ad k1 0), .int x2].toArray below meth c D ca ad PL A (MQ below (qcR D ca ad PL Z A w' none) [.ref (ad 9 0), .ref (ad k1 0), .int x2].toArray s 0 0 A) 4 2 [] [(0, .ref (ad 9 0)), (1, .ref (ad k1 0)), (2, .int v2), (3, .int v3)] w := by
    intro v2 k hk n
    induction n with
    | zero => intro w v3 hf; rw [lp_X9_keeps_2] at hf; cases hf
    | succ n ih =>
      intro w v3 hf _ _ ls hP hS hl
      rw [lp_X9_keeps_2] at hf
      refine lv_iload_n hx hb dX9_keeps_2 rfl (lv_at hl 3 rfl) ?_
      refine lv_bipush (v := (6 : Int32)) hx hb dX9_keeps_3 (by decide) ?_
      refine lv_icmp_ge (tgt := 47) hx hb dX9_keeps_5 (by decide) (fun c6 => ?_) (fun c6 => ?_)
      · have hf := ifp hf c6
        exact hk w hf _ _ ls hP hS (lv_sub hl [] rfl)
      · have hf := ifn hf c6
        refine lv_aload_n hx hb dX9_keeps_8 rfl (lv_at hl 1 rfl) ?_
        refine lv_iload_n hx hb dX9_keeps_9 rfl (lv_at hl 2 rfl) ?_
        refine lv_iload_n hx hb dX9_keeps_10 rfl (lv_at hl 3 rfl) ?_
        refine lv_iadd hx hb dX9_keeps_11 ?_
        refine lv_aload_n hx hb dX9_keeps_12 rfl (lv_at hl 0 rfl) ?_
        refine gt_9_14 (i := 0) C hP (hok.2.1 9 0 (Nat.le_of_ble_eq_true rfl)) lk_X9_126 dX9_keeps_13 ?_
        refine lv_iload_n hx hb dX9_keeps_16 rfl (lv_at hl 3 rfl) ?_
        refine lv_iadd hx hb dX9_keeps_17 ?_
        refine lv_aload_n hx hb dX9_keeps_18 rfl (lv_at hl 0 rfl) ?_
        refine gt_9_15 (i := 0) C hP (hok.2.1 9 0 (Nat.le_of_ble_eq_true rfl)) lk_X9_119 dX9_keeps_19 ?_
        refine lv_icmp_ge (tgt := 39) hx hb dX9_keeps_22 (by decide) (fun c5 => ?_) (fun c5 => ?_)
        · have hf := ifp hf c5
          refine lv_iconst (v := (0 : Int32)) hx hb dX9_keeps_39 (by decide) ?_
          obtain ⟨b2, hf⟩ := gsp hf
          refine ra_ist (k := k1) (i := 0) (n := (alen k1)) C hok.1 hP hS (hok.2.1 k1 0 (by rw [hb1]; exact Nat.zero_lt_one)) (fun u => ent_i ca ad u 0 hk1 he1) b2 dX9_keeps_40 (fun H locs hP hS => ?_)
          refine lv_iinc (v := (v3 + (1 : Int32))) (lv' := [(3, .int (v3 + (1 : Int32))), (0, .ref (ad 9 0)), (1, .ref (ad k1 0)), (2, .int v2)]) hx hb dX9_keeps_41 hl (k := 3) rfl rfl (by decide) rfl (fun ls hl => ?_)
          refine lv_goto (tgt := 2) hx hb dX9_keeps_44 (by decide) ?_
          exact ih (sA w k1 0 (v2 + v3).toNatClampNeg (0 : Int32)) (v3 + (1 : Int32)) hf _ _ ls hP hS (lv_sub hl [1, 2, 3, 0] rfl)
        · have hf := ifn hf c5
          refine lv_aload_n hx hb dX9_keeps_25 rfl (lv_at hl 0 rfl) ?_
          refine gt_9_4 (i := 0) C hP (hok.2.1 9 0 (Nat.le_of_ble_eq_true rfl)) lk_X9_13 dX9_keeps_26 ?_
          refine lv_aload_n hx hb dX9_keeps_29 rfl (lv_at hl 0 rfl) ?_
          refine gt_9_14 (i := 0) C hP (hok.2.1 9 0 (Nat.le_of_ble_eq_true rfl)) lk_X9_126 dX9_keeps_30 ?_
          refine lv_iload_n hx hb dX9_keeps_33 rfl (lv_at hl 3 rfl) ?_
          refine lv_iadd hx hb dX9_keeps_34 ?_
          obtain ⟨b3, hf⟩ := gsp hf
          refine ra_ild (k := 40) (i := 0) (n := 500) (f := (gA w 40 0)) C hP (hok.2.1 40 0 (Nat.le_of_ble_eq_true rfl)) rfl b3 dX9_keeps_35 ?_
          refine lv_goto (tgt := 40) hx hb dX9_keeps_36 (by decide) ?_
          obtain ⟨b4, hf⟩ := gsp hf
          refine ra_ist (k := k1) (i := 0) (n := (alen k1)) C hok.1 hP hS (hok.2.1 k1 0 (by rw [hb1]; exact Nat.zero_lt_one)) (fun u => ent_i ca ad u 0 hk1 he1) b4 dX9_keeps_40 (fun H locs hP hS => ?_)
          refine lv_iinc (v := (v3 + (1 : Int32))) (lv' := [(3, .int (v3 + (1 : Int32))), (0, .ref (ad 9 0)), (1, .ref (ad k1 0)), (2, .int v2)]) hx hb dX9_keeps_41 hl (k := 3) rfl rfl (by decide) rfl (fun ls hl => ?_)
          refine lv_goto (tgt := 2) hx hb dX9_keeps_44 (by decide) ?_
          exact ih (sA w k1 0 (v2 + v3).toNatClampNeg (gA w 40 0 ((gF w 9 14 0) + v3).toNatClampNeg)) (v3 + (1 : Int32)) hf _ _ ls hP hS (lv_sub hl [1, 2, 3, 0] rfl)
  unfold f_X9_keeps at hf
  -- walk
  refine lv_iconst (v := (0 : Int32)) hx hb dX9_keeps_0 (by decide) ?_
  refine lv_istore_n (lv' := [(3, .int (0 : Int32)), (0, .ref (ad 9 0)), (1, .ref (ad k1 0)), (2, .int x2)]) hx hb dX9_keeps_1 rfl hl (by decide) rfl (fun ls hl => ?_)
  exact L_lp_X9_keeps_2 x2 _ (fun w_1 hf H locs ls hP hS hl => P_f_X9_keeps_47 w_1 hf _ _ ls hP hS (lv_sub hl [] rfl)) N w (0 : Int32) hf _ _ ls hP hS (lv_sub hl [1, 2, 3, 0] rfl)
def f_X9_funHere_41 (N : Nat) (w : Mem)  : Option (Int32) :=
  some (-1 : Int32)
def lp_X9_funHere_2 (k : Option (Int32)) (N : Nat) (w : Mem)  : Nat → Int32 → Option (Int32)
  | 0, _ => none
  | n + 1, v1 => (if (gF w 9 20 0) ≤ v1 then
(k )
else
(Option.bind (f_X9_isAt N w 45 ((6 : Int32) * v1) (gF w 9 14 0) (gF w 9 15 0)) (fun z2 => (if z2 = (0 : Int32) then
(lp_X9_funHere_2 k N w   n (v1 + (1 : Int32)))
else
some v1))))
def f_X9_funHere (N : Nat) (w : Mem)  : Option (Int32) :=
  (lp_X9_funHere_2 (f_X9_funHere_41 N w   ) N w   N (0 : Int32))
set_option maxRecDepth 100000 in
set_option maxHeartbeats 4000000 in
theorem c_X9_funHere (l : Launch) (D : va_G) (ca : Nat → ClassId) (ad : Nat → Nat → Nat) (PL : List (Nat × Nat)) (Z : State → Prop) (A : Nat → Prop) (hok : okc bM Z A ad PL) (N : Nat) (w : Mem)  (r : Int32) (hf : f_X9_funHere N w  = some r) : CT l yX9_funHere (wsy yX9_funHere cX9_funHere 2 (some .int)) (rmk 1) D ca ad PL Z A [.ref (ad 9 0)] w w (some (.int r)) := by
  refine Met.ofW (cc := cX9_funHere) (maxL := 2) (ret := (some .int)) (by decide +kernel) rfl ?_
  intro p e s m args below meth c s₁ B hml hv
  obtain ⟨rfl, hP, hK, hZ⟩ := hv
  have hx := B.exec
  have hb := B.bytes
  have hr := B.returns
  have hlocks := B.notSynchronized
  have hts : ∀ w ∈ ALL, w.before _ s = true := fun w hw => atoms_spec (ws := wsy yX9_funHere cX9_funHere 2 (some .int)) B.pre w (List.mem_cons_of_mem _ hw)
  have hown : s.vm.findClass RX9 = some m.cls := findClass_of_methodNamed B.named
  have C : CX p s m _ c cX9_funHere RX9 2 D ca Z := ⟨hx, hb, hml, hown, hts, hK, hZ⟩
  have hS : va_S A s.heap s.heap [] := va_S.rf
  have hl := lv_entry ([.ref (ad 9 0)]) (n := 2) (Nat.le_of_ble_eq_true rfl)
  rw [lg_entry_eq]
  generalize (lg_sl ([.ref (ad 9 0)]) ++ List.replicate (2 - (lg_sl ([.ref (ad 9 0)])).length) Slot.unset).toArray = ls at hl ⊢
  have hl : lv_has ls 2 [(0, .ref (ad 9 0))] := hl
  show W p l e (rmk 1) s m _ below meth c s.heap [] 0 0 _ _
  have P_f_X9_funHere_41 : f_X9_funHere_41 N w    = some r → WP p l e (rmk 1) s m [.ref (ad 9 0)].toArray below meth c D ca ad PL A (MQ below (qcR D ca ad PL Z A w (some (.int r))) [.ref (ad 9 0)].toArray s 0 0 A) 2 41 [] [] w := by
    intro  hf _ _ ls hP hS hl
    unfold f_X9_funHere_41 at hf
    refine lv_iconst (v := (-1 : Int32)) hx hb dX9_funHere_41 (by decide) ?_
    exact kr_i hok.2.2 C hlocks hr rfl hP hS rfl (Option.some.inj hf) dX9_funHere_42
  have L_lp_X9_funHere_2 : ∀ (k : Option (Int32)) (hk : k = some r → WP p l e (rmk 1) s m [.ref (ad 9 0)].toArray below meth c D ca ad PL A (MQ below (qcR D ca ad PL Z A w (some (.int r))) [.ref (ad 9 0)].toArray s 0 0 A) 2 41 [] [] w) (n : Nat) (v1 : Int32), lp_X9_funHere_2 k N w   n v1 = some r → WP p l e (rmk 1) s m [.ref (ad 9 0)].toArray below meth c D ca ad PL A (MQ below (qcR D ca ad PL Z A w (some (.int r))) [.ref (ad 9 0)].toArray s 0 0 A) 2 2 [] [(0, .ref (ad 9 0)), (1, .int v1)] w := by
    intro k hk n
    induction n with
    | zero => intro v1 hf; rw [lp_X9_funHere_2] at hf; cases hf
    | succ n ih =>
      intro v1 hf _ _ ls hP hS hl
      rw [lp_X9_funHere_2] at hf
      refine lv_iload_n hx hb dX9_funHere_2 rfl (lv_at hl 1 rfl) ?_
      refine lv_aload_n hx hb dX9_funHere_3 rfl (lv_at hl 0 rfl) ?_
      refine gt_9_20 (i := 0) C hP (hok.2.1 9 0 (Nat.le_of_ble_eq_true rfl)) lk_X9_166 dX9_funHere_4 ?_
      refine lv_icmp_ge (tgt := 41) hx hb dX9_funHere_7 (by decide) (fun c5 => ?_) (fun c5 => ?_)
      · have hf := ifp hf c5
        exact hk  hf _ _ ls hP hS (lv_sub hl [] rfl)
      · have hf := ifn hf c5
        refine lv_aload_n hx hb dX9_funHere_10 rfl (lv_at hl 0 rfl) ?_
        refine lv_aload_n hx hb dX9_funHere_11 rfl (lv_at hl 0 rfl) ?_
        refine gt_9_25 (i := 0) C hP (hok.2.1 9 0 (Nat.le_of_ble_eq_true rfl)) lk_X9_29 dX9_funHere_12 ?_
        refine lv_bipush (v := (6 : Int32)) hx hb dX9_funHere_15 (by decide) ?_
        refine lv_iload_n hx hb dX9_funHere_17 rfl (lv_at hl 1 rfl) ?_
        refine lv_imul hx hb dX9_funHere_18 ?_
        refine lv_aload_n hx hb dX9_funHere_19 rfl (lv_at hl 0 rfl) ?_
        refine gt_9_14 (i := 0) C hP (hok.2.1 9 0 (Nat.le_of_ble_eq_true rfl)) lk_X9_126 dX9_funHere_20 ?_
        refine lv_aload_n hx hb dX9_funHere_23 rfl (lv_at hl 0 rfl) ?_
        refine gt_9_15 (i := 0) C hP (hok.2.1 9 0 (Nat.le_of_ble_eq_true rfl)) lk_X9_119 dX9_funHere_24 ?_
        obtain ⟨z2, q3, hf⟩ := bsp hf
        refine kc_V (ci := 9) (i := 0) (As := [.ref (ad 45 0), .int ((6 : Int32) * v1), .int (gF w 9 14 0), .int (gF w 9 15 0)]) (rest := []) hok.2.2 C hP hS hl.1 (hok.2.1 9 0 (Nat.le_of_ble_eq_true rfl)) rfl rfl cw_X9_isAt ml_X9_169 (c_X9_isAt l D ca ad PL Z A hok N w 45 (Nat.le_of_ble_eq_true rfl) rfl rfl ((6 : Int32) * v1) (gF w 9 14 0) (gF w 9 15 0) z2 q3) rfl ⟨rfl, rfl⟩ ⟨Nat.le_of_ble_eq_true rfl, Nat.le_of_ble_eq_true rfl⟩ ⟨Nat.zero_le _, Nat.zero_le _⟩ (Nat.le_of_ble_eq_true rfl) rfl dX9_funHere_27 (fun H locs hP hS => ?_)
        refine lv_if_eq (tgt := 35) hx hb dX9_funHere_30 (by decide) (fun c4 => ?_) (fun c4 => ?_)
        · have hf := ifp hf c4
          refine lv_iinc (v := (v1 + (1 : Int32))) (lv' := [(1, .int (v1 + (1 : Int32))), (0, .ref (ad 9 0))]) hx hb dX9_funHere_35 hl (k := 1) rfl rfl (by decide) rfl (fun ls hl => ?_)
          refine lv_goto (tgt := 2) hx hb dX9_funHere_38 (by decide) ?_
          exact ih (v1 + (1 : Int32)) hf _ _ ls hP hS (lv_sub hl [1, 0] rfl)
        · have hf := ifn hf c4
          refine lv_iload_n hx hb dX9_funHere_33 rfl (lv_at hl 1 rfl) ?_
          exact kr_i hok.2.2 C hlocks hr rfl hP hS rfl (Option.some.inj hf) dX9_funHere_34
  unfold f_X9_funHere at hf
  -- walk
  refine lv_iconst (v := (0 : Int32)) hx hb dX9_funHere_0 (by decide) ?_
  refine lv_istore_n (lv' := [(1, .int (0 : Int32)), (0, .ref (ad 9 0))]) hx hb dX9_funHere_1 rfl hl (by decide) rfl (fun ls hl => ?_)
  exact L_lp_X9_funHere_2 _ (fun hf H locs ls hP hS hl => P_f_X9_funHere_41 hf _ _ ls hP hS (lv_sub hl [] rfl)) N (0 : Int32) hf _ _ ls hP hS (lv_sub hl [1, 0] rfl)
def f_X9_termHere_44 (N : Nat) (w : Mem)  : Option (Int32) :=
  some (-1 : Int32)
def lp_X9_termHere_2 (k : Option (Int32)) (N : Nat) (w : Mem)  : Nat → Int32 → Option (Int32)
  | 0, _ => none
  | n + 1, v1 => (if (gF w 9 21 0) ≤ v1 then
(k )
else
(Option.bind (f_X9_isAt N w 44 ((6 : Int32) * ((24 : Int32) + v1)) (gF w 9 14 0) (gF w 9 15 0)) (fun z2 => (if z2 = (0 : Int32) then
(lp_X9_termHere_2 k N w   n (v1 + (1 : Int32)))
else
some v1))))
def f_X9_termHere (N : Nat) (w : Mem)  : Option (Int32) :=
  (lp_X9_termHere_2 (f_X9_termHere_44 N w   ) N w   N (0 : Int32))
set_option maxRecDepth 100000 in
set_option maxHeartbeats 4000000 in
theorem c_X9_termHere (l : Launch) (D : va_G) (ca : Nat → ClassId) (ad : Nat → Nat → Nat) (PL : List (Nat × Nat)) (Z : State → Prop) (A : Nat → Prop) (hok : okc bM Z A ad PL) (N : Nat) (w : Mem)  (r : Int32) (hf : f_X9_termHere N w  = some r) : CT l yX9_termHere (wsy yX9_termHere cX9_termHere 2 (some .int)) (rmk 1) D ca ad PL Z A [.ref (ad 9 0)] w w (some (.int r)) := by
  refine Met.ofW (cc := cX9_termHere) (maxL := 2) (ret := (some .int)) (by decide +kernel) rfl ?_
  intro p e s m args below meth c s₁ B hml hv
  obtain ⟨rfl, hP, hK, hZ⟩ := hv
  have hx := B.exec
  have hb := B.bytes
  have hr := B.returns
  have hlocks := B.notSynchronized
  have hts : ∀ w ∈ ALL, w.before _ s = true := fun w hw => atoms_spec (ws := wsy yX9_termHere cX9_termHere 2 (some .int)) B.pre w (List.mem_cons_of_mem _ hw)
  have hown : s.vm.findClass RX9 = some m.cls := findClass_of_methodNamed B.named
  have C : CX p s m _ c cX9_termHere RX9 2 D ca Z := ⟨hx, hb, hml, hown, hts, hK, hZ⟩
  have hS : va_S A s.heap s.heap [] := va_S.rf
  have hl := lv_entry ([.ref (ad 9 0)]) (n := 2) (Nat.le_of_ble_eq_true rfl)
  rw [lg_entry_eq]
  generalize (lg_sl ([.ref (ad 9 0)]) ++ List.replicate (2 - (lg_sl ([.ref (ad 9 0)])).length) Slot.unset).toArray = ls at hl ⊢
  have hl : lv_has ls 2 [(0, .ref (ad 9 0))] := hl
  show W p l e (rmk 1) s m _ below meth c s.heap [] 0 0 _ _
  have P_f_X9_termHere_44 : f_X9_termHere_44 N w    = some r → WP p l e (rmk 1) s m [.ref (ad 9 0)].toArray below meth c D ca ad PL A (MQ below (qcR D ca ad PL Z A w (some (.int r))) [.ref (ad 9 0)].toArray s 0 0 A) 2 44 [] [] w := by
    intro  hf _ _ ls hP hS hl
    unfold f_X9_termHere_44 at hf
    refine lv_iconst (v := (-1 : Int32)) hx hb dX9_termHere_44 (by decide) ?_
    exact kr_i hok.2.2 C hlocks hr rfl hP hS rfl (Option.some.inj hf) dX9_termHere_45
  have L_lp_X9_termHere_2 : ∀ (k : Option (Int32)) (hk : k = some r → WP p l e (rmk 1) s m [.ref (ad 9 0)].toArray below meth c D ca ad PL A (MQ below (qcR D ca ad PL Z A w (some (.int r))) [.ref (ad 9 0)].toArray s 0 0 A) 2 44 [] [] w) (n : Nat) (v1 : Int32), lp_X9_termHere_2 k N w   n v1 = some r → WP p l e (rmk 1) s m [.ref (ad 9 0)].toArray below meth c D ca ad PL A (MQ below (qcR D ca ad PL Z A w (some (.int r))) [.ref (ad 9 0)].toArray s 0 0 A) 2 2 [] [(0, .ref (ad 9 0)), (1, .int v1)] w := by
    intro k hk n
    induction n with
    | zero => intro v1 hf; rw [lp_X9_termHere_2] at hf; cases hf
    | succ n ih =>
      intro v1 hf _ _ ls hP hS hl
      rw [lp_X9_termHere_2] at hf
      refine lv_iload_n hx hb dX9_termHere_2 rfl (lv_at hl 1 rfl) ?_
      refine lv_aload_n hx hb dX9_termHere_3 rfl (lv_at hl 0 rfl) ?_
      refine gt_9_21 (i := 0) C hP (hok.2.1 9 0 (Nat.le_of_ble_eq_true rfl)) lk_X9_173 dX9_termHere_4 ?_
      refine lv_icmp_ge (tgt := 44) hx hb dX9_termHere_7 (by decide) (fun c5 => ?_) (fun c5 => ?_)
      · have hf := ifp hf c5
        exact hk  hf _ _ ls hP hS (lv_sub hl [] rfl)
      · have hf := ifn hf c5
        refine lv_aload_n hx hb dX9_termHere_10 rfl (lv_at hl 0 rfl) ?_
        refine lv_aload_n hx hb dX9_termHere_11 rfl (lv_at hl 0 rfl) ?_
        refine gt_9_12 (i := 0) C hP (hok.2.1 9 0 (Nat.le_of_ble_eq_true rfl)) lk_X9_26 dX9_termHere_12 ?_
        refine lv_bipush (v := (6 : Int32)) hx hb dX9_termHere_15 (by decide) ?_
        refine lv_bipush (v := (24 : Int32)) hx hb dX9_termHere_17 (by decide) ?_
        refine lv_iload_n hx hb dX9_termHere_19 rfl (lv_at hl 1 rfl) ?_
        refine lv_iadd hx hb dX9_termHere_20 ?_
        refine lv_imul hx hb dX9_termHere_21 ?_
        refine lv_aload_n hx hb dX9_termHere_22 rfl (lv_at hl 0 rfl) ?_
        refine gt_9_14 (i := 0) C hP (hok.2.1 9 0 (Nat.le_of_ble_eq_true rfl)) lk_X9_126 dX9_termHere_23 ?_
        refine lv_aload_n hx hb dX9_termHere_26 rfl (lv_at hl 0 rfl) ?_
        refine gt_9_15 (i := 0) C hP (hok.2.1 9 0 (Nat.le_of_ble_eq_true rfl)) lk_X9_119 dX9_termHere_27 ?_
        obtain ⟨z2, q3, hf⟩ := bsp hf
        refine kc_V (ci := 9) (i := 0) (As := [.ref (ad 44 0), .int ((6 : Int32) * ((24 : Int32) + v1)), .int (gF w 9 14 0), .int (gF w 9 15 0)]) (rest := []) hok.2.2 C hP hS hl.1 (hok.2.1 9 0 (Nat.le_of_ble_eq_true rfl)) rfl rfl cw_X9_isAt ml_X9_169 (c_X9_isAt l D ca ad PL Z A hok N w 44 (Nat.le_of_ble_eq_true rfl) rfl rfl ((6 : Int32) * ((24 : Int32) + v1)) (gF w 9 14 0) (gF w 9 15 0) z2 q3) rfl ⟨rfl, rfl⟩ ⟨Nat.le_of_ble_eq_true rfl, Nat.le_of_ble_eq_true rfl⟩ ⟨Nat.zero_le _, Nat.zero_le _⟩ (Nat.le_of_ble_eq_true rfl) rfl dX9_termHere_30 (fun H locs hP hS => ?_)
        refine lv_if_eq (tgt := 38) hx hb dX9_termHere_33 (by decide) (fun c4 => ?_) (fun c4 => ?_)
        · have hf := ifp hf c4
          refine lv_iinc (v := (v1 + (1 : Int32))) (lv' := [(1, .int (v1 + (1 : Int32))), (0, .ref (ad 9 0))]) hx hb dX9_termHere_38 hl (k := 1) rfl rfl (by decide) rfl (fun ls hl => ?_)
          refine lv_goto (tgt := 2) hx hb dX9_termHere_41 (by decide) ?_
          exact ih (v1 + (1 : Int32)) hf _ _ ls hP hS (lv_sub hl [1, 0] rfl)
        · have hf := ifn hf c4
          refine lv_iload_n hx hb dX9_termHere_36 rfl (lv_at hl 1 rfl) ?_
          exact kr_i hok.2.2 C hlocks hr rfl hP hS rfl (Option.some.inj hf) dX9_termHere_37
  unfold f_X9_termHere at hf
  -- walk
  refine lv_iconst (v := (0 : Int32)) hx hb dX9_termHere_0 (by decide) ?_
  refine lv_istore_n (lv' := [(1, .int (0 : Int32)), (0, .ref (ad 9 0))]) hx hb dX9_termHere_1 rfl hl (by decide) rfl (fun ls hl => ?_)
  exact L_lp_X9_termHere_2 _ (fun hf H locs ls hP hS hl => P_f_X9_termHere_44 hf _ _ ls hP hS (lv_sub hl [] rfl)) N (0 : Int32) hf _ _ ls hP hS (lv_sub hl [1, 0] rfl)
def f_X9_takesOf (N : Nat) (w : Mem) (x1 : Int32) : Option (Int32) :=
  (if inb x1 24 = true then (if inb (gA w 46 0 x1.toNatClampNeg) 16 = true then some (gA w 41 0 (gA w 46 0 x1.toNatClampNeg).toNatClampNeg) else none) else none)
set_option maxRecDepth 100000 in
set_option maxHeartbeats 4000000 in
theorem c_X9_takesOf (l : Launch) (D : va_G) (ca : Nat → ClassId) (ad : Nat → Nat → Nat) (PL : List (Nat × Nat)) (Z : State → Prop) (A : Nat → Prop) (hok : okc bM Z A ad PL) (N : Nat) (w : Mem) (x1 : Int32) (r : Int32) (hf : f_X9_takesOf N w x1 = some r) : CT l yX9_takesOf (wsy yX9_takesOf cX9_takesOf 2 (some .int)) (rmk 0) D ca ad PL Z A [.ref (ad 9 0), .int x1] w w (some (.int r)) := by
  refine Met.ofW (cc := cX9_takesOf) (maxL := 2) (ret := (some .int)) (by decide +kernel) rfl ?_
  intro p e s m args below meth c s₁ B hml hv
  obtain ⟨rfl, hP, hK, hZ⟩ := hv
  have hx := B.exec
  have hb := B.bytes
  have hr := B.returns
  have hlocks := B.notSynchronized
  have hts : ∀ w ∈ ALL, w.before _ s = true := fun w hw => atoms_spec (ws := wsy yX9_takesOf cX9_takesOf 2 (some .int)) B.pre w (List.mem_cons_of_mem _ hw)
  have hown : s.vm.findClass RX9 = some m.cls := findClass_of_methodNamed B.named
  have C : CX p s m _ c cX9_takesOf RX9 2 D ca Z := ⟨hx, hb, hml, hown, hts, hK, hZ⟩
  have hS : va_S A s.heap s.heap [] := va_S.rf
  have hl := lv_entry ([.ref (ad 9 0), .int x1]) (n := 2) (Nat.le_of_ble_eq_true rfl)
  rw [lg_entry_eq]
  generalize (lg_sl ([.ref (ad 9 0), .int x1]) ++ List.replicate (2 - (lg_sl ([.ref (ad 9 0), .int x1])).length) Slot.unset).toArray = ls at hl ⊢
  have hl : lv_has ls 2 [(0, .ref (ad 9 0)), (1, .int x1)] := hl
  show W p l e (rmk 0) s m _ below meth c s.heap [] 0 0 _ _
  unfold f_X9_takesOf at hf
  -- walk
  refine lv_aload_n hx hb dX9_takesOf_0 rfl (lv_at hl 0 rfl) ?_
  refine gt_9_7 (i := 0) C hP (hok.2.1 9 0 (Nat.le_of_ble_eq_true rfl)) lk_X9_17 dX9_takesOf_1 ?_
  refine lv_aload_n hx hb dX9_takesOf_4 rfl (lv_at hl 0 rfl) ?_
  refine gt_9_28 (i := 0) C hP (hok.2.1 9 0 (Nat.le_of_ble_eq_true rfl)) lk_X9_32 dX9_takesOf_5 ?_
  refine lv_iload_n hx hb dX9_takesOf_8 rfl (lv_at hl 1 rfl) ?_
  obtain ⟨b1, hf⟩ := gsp hf
  refine ra_ild (k := 46) (i := 0) (n := 24) (f := (gA w 46 0)) C hP (hok.2.1 46 0 (Nat.le_of_ble_eq_true rfl)) rfl b1 dX9_takesOf_9 ?_
  obtain ⟨b2, hf⟩ := gsp hf
  refine ra_ild (k := 41) (i := 0) (n := 16) (f := (gA w 41 0)) C hP (hok.2.1 41 0 (Nat.le_of_ble_eq_true rfl)) rfl b2 dX9_takesOf_10 ?_
  exact kr_i hok.2.2 C hlocks hr rfl hP hS rfl (Option.some.inj hf) dX9_takesOf_11
def f_X9_isAlike_67 (N : Nat) (w : Mem) (k1 : Nat) : Option (Int32) :=
  some (1 : Int32)
def lp_X9_isAlike_20 (k : Option (Int32)) (N : Nat) (w : Mem) (k1 : Nat) (v2 : Int32) (v3 : Int32) : Nat → Int32 → Option (Int32)
  | 0, _ => none
  | n + 1, v4 => (Option.bind (f_X9_takesOf N w v2) (fun z4 => (if z4 ≤ v4 then
(k )
else
(if inb (((3 : Int32) * v2) + v4) 72 = true then (if inb (gA w 47 0 (((3 : Int32) * v2) + v4).toNatClampNeg) (alen k1) = true then (if inb (((3 : Int32) * v3) + v4) 72 = true then (if inb (gA w 47 0 (((3 : Int32) * v3) + v4).toNatClampNeg) (alen k1) = true then (if (gA w k1 0 (gA w 47 0 (((3 : Int32) * v2) + v4).toNatClampNeg).toNatClampNeg) = (gA w k1 0 (gA w 47 0 (((3 : Int32) * v3) + v4).toNatClampNeg).toNatClampNeg) then
(lp_X9_isAlike_20 k N w k1 v2 v3 n (v4 + (1 : Int32)))
else
some (0 : Int32)) else none) else none) else none) else none))))
def f_X9_isAlike (N : Nat) (w : Mem) (k1 : Nat) (x2 : Int32) (x3 : Int32) : Option (Int32) :=
  (if inb x2 24 = true then (if inb x3 24 = true then (if (gA w 46 0 x2.toNatClampNeg) = (gA w 46 0 x3.toNatClampNeg) then
(lp_X9_isAlike_20 (f_X9_isAlike_67 N w k1  ) N w k1 x2 x3 N (0 : Int32))
else
some (0 : Int32)) else none) else none)
set_option maxRecDepth 100000 in
set_option maxHeartbeats 4000000 in
theorem c_X9_isAlike (l : Launch) (D : va_G) (ca : Nat → ClassId) (ad : Nat → Nat → Nat) (PL : List (Nat × Nat)) (Z : State → Prop) (A : Nat → Prop) (hok : okc bM Z A ad PL) (N : Nat) (w : Mem) (k1 : Nat) (hk1 : 10 ≤ k1) (he1 : ety k1 = 0) (hb1 : bM k1 = 1) (x2 : Int32) (x3 : Int32) (r : Int32) (hf : f_X9_isAlike N w k1 x2 x3 = some r) : CT l yX9_isAlike (wsy yX9_isAlike cX9_isAlike 5 (some .boolean)) (rmk 1) D ca ad PL Z A [.ref (ad 9 0), .ref (ad k1 0), .int x2, .int x3] w w (some (.int r)) := by
  refine Met.ofW (cc := cX9_isAlike) (maxL := 5) (ret := (some .boolean)) (by decide +kernel) rfl ?_
  intro p e s m args below meth c s₁ B hml hv
  obtain ⟨rfl, hP, hK, hZ⟩ := hv
  have hx := B.exec
  have hb := B.bytes
  have hr := B.returns
  have hlocks := B.notSynchronized
  have hts : ∀ w ∈ ALL, w.before _ s = true := fun w hw => atoms_spec (ws := wsy yX9_isAlike cX9_isAlike 5 (some .boolean)) B.pre w (List.mem_cons_of_mem _ hw)
  have hown : s.vm.findClass RX9 = some m.cls := findClass_of_methodNamed B.named
  have C : CX p s m _ c cX9_isAlike RX9 5 D ca Z := ⟨hx, hb, hml, hown, hts, hK, hZ⟩
  have hS : va_S A s.heap s.heap [] := va_S.rf
  have hl := lv_entry ([.ref (ad 9 0), .ref (ad k1 0), .int x2, .int x3]) (n := 5) (Nat.le_of_ble_eq_true rfl)
  rw [lg_entry_eq]
  generalize (lg_sl ([.ref (ad 9 0), .ref (ad k1 0), .int x2, .int x3]) ++ List.replicate (5 - (lg_sl ([.ref (ad 9 0), .ref (ad k1 0), .int x2, .int x3])).length) Slot.unset).toArray = ls at hl ⊢
  have hl : lv_has ls 5 [(0, .ref (ad 9 0)), (1, .ref (ad k1 0)), (2, .int x2), (3, .int x3)] := hl
  show W p l e (rmk 1) s m _ below meth c s.heap [] 0 0 _ _
  have P_f_X9_isAlike_67 : f_X9_isAlike_67 N w k1   = some r → WP p l e (rmk 1) s m [.ref (ad 9 0), .ref (ad k1 0), .int x2, .int x3].toArray below meth c D ca ad PL A (MQ below (qcR D ca ad PL Z A w (some (.int r))) [.ref (ad 9 0), .ref (ad k1 0), .int x2, .int x3].toArray s 0 0 A) 5 67 [] [] w := by
    intro  hf _ _ ls hP hS hl
    unfold f_X9_isAlike_67 at hf
    refine lv_iconst (v := (1 : Int32)) hx hb dX9_isAlike_67 (by decide) ?_
    exact kr_i hok.2.2 C hlocks hr rfl hP hS rfl (Option.some.inj hf) dX9_isAlike_68
  have L_lp_X9_isAlike_20 : ∀ (v2 : Int32) (v3 : Int32) (k : Option (Int32)) (hk : k = some r → WP p l e (rmk 1) s m [.ref (ad 9 0), .ref (ad k1 0), .int x2, .int x3].toArray below meth c D ca ad PL A (MQ below (qcR D ca ad PL Z A w (some (.int r))) [.ref (ad 9 0), .ref (ad k1 0), .int x2, .int x3].toArray s 0 0 A) 5 67 [] [] w) (n : Nat) (v4 : Int32), lp_X9_isAlike_20 k N w k1 v2 v3 n v4 = some r → WP p l e (rmk 1) s m [.ref (ad 9 0), .ref (ad k1 0), .int x2, .int x3].toArray below meth c D ca ad PL A (MQ below (qcR D ca ad PL Z A w (some (.int r))) [.ref (ad 9 0), .ref (ad k1 0), .int x2, .int x3].toArray s 0 0 A) 5 20 [] [(0, .ref (ad 9 0)), (1, .ref (ad k1 0)), (2, .int v2), (3, .int v3), (4, .int v4)] w := by
    intro v2 v3 k hk n
    induction n with
    | zero => intro v4 hf; rw [lp_X9_isAlike_20] at hf; cases hf
    | succ n ih =>
      intro v4 hf _ _ ls hP hS hl
      rw [lp_X9_isAlike_20] at hf
      refine lv_iload hx hb dX9_isAlike_20 (lv_at hl 4 rfl) ?_
      refine lv_aload_n hx hb dX9_isAlike_22 rfl (lv_at hl 0 rfl) ?_
      refine lv_iload_n hx hb dX9_isAlike_23 rfl (lv_at hl 2 rfl) ?_
      obtain ⟨z4, q5, hf⟩ := bsp hf
      refine kc_V (ci := 9) (i := 0) (As := [.int v2]) (rest := [.int v4]) hok.2.2 C hP hS hl.1 (hok.2.1 9 0 (Nat.le_of_ble_eq_true rfl)) rfl rfl cw_X9_takesOf ml_X9_253 (c_X9_takesOf l D ca ad PL Z A hok N w v2 z4 q5) rfl ⟨rfl, rfl⟩ ⟨Nat.le_of_ble_eq_true rfl, Nat.le_of_ble_eq_true rfl⟩ ⟨Nat.zero_le _, Nat.zero_le _⟩ (Nat.le_of_ble_eq_true rfl) rfl dX9_isAlike_24 (fun H locs hP hS => ?_)
      refine lv_icmp_ge (tgt := 67) hx hb dX9_isAlike_27 (by decide) (fun c11 => ?_) (fun c11 => ?_)
      · have hf := ifp hf c11
        exact hk  hf _ _ ls hP hS (lv_sub hl [] rfl)
      · have hf := ifn hf c11
        refine lv_aload_n hx hb dX9_isAlike_30 rfl (lv_at hl 1 rfl) ?_
        refine lv_aload_n hx hb dX9_isAlike_31 rfl (lv_at hl 0 rfl) ?_
        refine gt_9_29 (i := 0) C hP (hok.2.1 9 0 (Nat.le_of_ble_eq_true rfl)) lk_X9_35 dX9_isAlike_32 ?_
        refine lv_iconst (v := (3 : Int32)) hx hb dX9_isAlike_35 (by decide) ?_
        refine lv_iload_n hx hb dX9_isAlike_36 rfl (lv_at hl 2 rfl) ?_
        refine lv_imul hx hb dX9_isAlike_37 ?_
        refine lv_iload hx hb dX9_isAlike_38 (lv_at hl 4 rfl) ?_
        refine lv_iadd hx hb dX9_isAlike_40 ?_
        obtain ⟨b6, hf⟩ := gsp hf
        refine ra_ild (k := 47) (i := 0) (n := 72) (f := (gA w 47 0)) C hP (hok.2.1 47 0 (Nat.le_of_ble_eq_true rfl)) rfl b6 dX9_isAlike_41 ?_
        obtain ⟨b7, hf⟩ := gsp hf
        refine ra_ild (k := k1) (i := 0) (n := (alen k1)) (f := (gA w k1 0)) C hP (hok.2.1 k1 0 (by rw [hb1]; exact Nat.zero_lt_one)) (ent_i ca ad w 0 hk1 he1) b7 dX9_isAlike_42 ?_
        refine lv_aload_n hx hb dX9_isAlike_43 rfl (lv_at hl 1 rfl) ?_
        refine lv_aload_n hx hb dX9_isAlike_44 rfl (lv_at hl 0 rfl) ?_
        refine gt_9_29 (i := 0) C hP (hok.2.1 9 0 (Nat.le_of_ble_eq_true rfl)) lk_X9_35 dX9_isAlike_45 ?_
        refine lv_iconst (v := (3 : Int32)) hx hb dX9_isAlike_48 (by decide) ?_
        refine lv_iload_n hx hb dX9_isAlike_49 rfl (lv_at hl 3 rfl) ?_
        refine lv_imul hx hb dX9_isAlike_50 ?_
        refine lv_iload hx hb dX9_isAlike_51 (lv_at hl 4 rfl) ?_
        refine lv_iadd hx hb dX9_isAlike_53 ?_
        obtain ⟨b8, hf⟩ := gsp hf
        refine ra_ild (k := 47) (i := 0) (n := 72) (f := (gA w 47 0)) C hP (hok.2.1 47 0 (Nat.le_of_ble_eq_true rfl)) rfl b8 dX9_isAlike_54 ?_
        obtain ⟨b9, hf⟩ := gsp hf
        refine ra_ild (k := k1) (i := 0) (n := (alen k1)) (f := (gA w k1 0)) C hP (hok.2.1 k1 0 (by rw [hb1]; exact Nat.zero_lt_one)) (ent_i ca ad w 0 hk1 he1) b9 dX9_isAlike_55 ?_
        refine lv_icmp_eq (tgt := 61) hx hb dX9_isAlike_56 (by decide) (fun c10 => ?_) (fun c10 => ?_)
        · have hf := ifp hf c10
          refine lv_iinc (v := (v4 + (1 : Int32))) (lv' := [(4, .int (v4 + (1 : Int32))), (0, .ref (ad 9 0)), (1, .ref (ad k1 0)), (2, .int v2), (3, .int v3)]) hx hb dX9_isAlike_61 hl (k := 4) rfl rfl (by decide) rfl (fun ls hl => ?_)
          refine lv_goto (tgt := 20) hx hb dX9_isAlike_64 (by decide) ?_
          exact ih (v4 + (1 : Int32)) hf _ _ ls hP hS (lv_sub hl [1, 2, 3, 4, 0] rfl)
        · have hf := ifn hf c10
          refine lv_iconst (v := (0 : Int32)) hx hb dX9_isAlike_59 (by decide) ?_
          exact kr_i hok.2.2 C hlocks hr rfl hP hS rfl (Option.some.inj hf) dX9_isAlike_60
  unfold f_X9_isAlike at hf
  -- walk
  refine lv_aload_n hx hb dX9_isAlike_0 rfl (lv_at hl 0 rfl) ?_
  refine gt_9_28 (i := 0) C hP (hok.2.1 9 0 (Nat.le_of_ble_eq_true rfl)) lk_X9_32 dX9_isAlike_1 ?_
  refine lv_iload_n hx hb dX9_isAlike_4 rfl (lv_at hl 2 rfl) ?_
  obtain ⟨b1, hf⟩ := gsp hf
  refine ra_ild (k := 46) (i := 0) (n := 24) (f := (gA w 46 0)) C hP (hok.2.1 46 0 (Nat.le_of_ble_eq_true rfl)) rfl b1 dX9_isAlike_5 ?_
  refine lv_aload_n hx hb dX9_isAlike_6 rfl (lv_at hl 0 rfl) ?_
  refine gt_9_28 (i := 0) C hP (hok.2.1 9 0 (Nat.le_of_ble_eq_true rfl)) lk_X9_32 dX9_isAlike_7 ?_
  refine lv_iload_n hx hb dX9_isAlike_10 rfl (lv_at hl 3 rfl) ?_
  obtain ⟨b2, hf⟩ := gsp hf
  refine ra_ild (k := 46) (i := 0) (n := 24) (f := (gA w 46 0)) C hP (hok.2.1 46 0 (Nat.le_of_ble_eq_true rfl)) rfl b2 dX9_isAlike_11 ?_
  refine lv_icmp_eq (tgt := 17) hx hb dX9_isAlike_12 (by decide) (fun c12 => ?_) (fun c12 => ?_)
  · have hf := ifp hf c12
    refine lv_iconst (v := (0 : Int32)) hx hb dX9_isAlike_17 (by decide) ?_
    refine lv_istore (lv' := [(4, .int (0 : Int32)), (0, .ref (ad 9 0)), (1, .ref (ad k1 0)), (2, .int x2), (3, .int x3)]) hx hb dX9_isAlike_18 hl (by decide) rfl (fun ls hl => ?_)
    exact L_lp_X9_isAlike_20 x2 x3 _ (fun hf H locs ls hP hS hl => P_f_X9_isAlike_67 hf _ _ ls hP hS (lv_sub hl [] rfl)) N (0 : Int32) hf _ _ ls hP hS (lv_sub hl [1, 2, 3, 4, 0] rfl)
  · have hf := ifn hf c12
    refine lv_iconst (v := (0 : Int32)) hx hb dX9_isAlike_15 (by decide) ?_
    exact kr_i hok.2.2 C hlocks hr rfl hP hS rfl (Option.some.inj hf) dX9_isAlike_16
def f_X9_depthOf_28 (N : Nat) (w : Mem)  (v2 : Int32) : Option (Int32) :=
  some v2
def lp_X9_depthOf_4 (k : Int32 → Option (Int32)) (N : Nat) (w : Mem)  : Nat → Int32 → Int32 → Option (Int32)
  | 0, _, _ => none
  | n + 1, v2, v3 => (if inb v3 24 = true then (if (gA w 53 0 v3.toNatClampNeg) = (-2 : Int32) then
(k v2)
else
(lp_X9_depthOf_4 k N w   n (v2 + (1 : Int32)) (gA w 53 0 v3.toNatClampNeg))) else none)
def f_X9_depthOf (N : Nat) (w : Mem) (x1 : Int32) : Option (Int32) :=
  (lp_X9_depthOf_4 (fun (u2_1 : Int32) => (f_X9_depthOf_28 N w  u2_1 )) N w   N (0 : Int32) x1)
set_option maxRecDepth 100000 in
set_option maxHeartbeats 4000000 in
theorem c_X9_depthOf (l : Launch) (D : va_G) (ca : Nat → ClassId) (ad : Nat → Nat → Nat) (PL : List (Nat × Nat)) (Z : State → Prop) (A : Nat → Prop) (hok : okc bM Z A ad PL) (N : Nat) (w : Mem) (x1 : Int32) (r : Int32) (hf : f_X9_depthOf N w x1 = some r) : CT l yX9_depthOf (wsy yX9_depthOf cX9_depthOf 4 (some .int)) (rmk 0) D ca ad PL Z A [.ref (ad 9 0), .int x1] w w (some (.int r)) := by
  refine Met.ofW (cc := cX9_depthOf) (maxL := 4) (ret := (some .int)) (by decide +kernel) rfl ?_
  intro p e s m args below meth c s₁ B hml hv
  obtain ⟨rfl, hP, hK, hZ⟩ := hv
  have hx := B.exec
  have hb := B.bytes
  have hr := B.returns
  have hlocks := B.notSynchronized
  have hts : ∀ w ∈ ALL, w.before _ s = true := fun w hw => atoms_spec (ws := wsy yX9_depthOf cX9_depthOf 4 (some .int)) B.pre w (List.mem_cons_of_mem _ hw)
  have hown : s.vm.findClass RX9 = some m.cls := findClass_of_methodNamed B.named
  have C : CX p s m _ c cX9_depthOf RX9 4 D ca Z := ⟨hx, hb, hml, hown, hts, hK, hZ⟩
  have hS : va_S A s.heap s.heap [] := va_S.rf
  have hl := lv_entry ([.ref (ad 9 0), .int x1]) (n := 4) (Nat.le_of_ble_eq_true rfl)
  rw [lg_entry_eq]
  generalize (lg_sl ([.ref (ad 9 0), .int x1]) ++ List.replicate (4 - (lg_sl ([.ref (ad 9 0), .int x1])).length) Slot.unset).toArray = ls at hl ⊢
  have hl : lv_has ls 4 [(0, .ref (ad 9 0)), (1, .int x1)] := hl
  show W p l e (rmk 0) s m _ below meth c s.heap [] 0 0 _ _
  have P_f_X9_depthOf_28 : ∀ (v2 : Int32), f_X9_depthOf_28 N w  v2  = some r → WP p l e (rmk 0) s m [.ref (ad 9 0), .int x1].toArray below meth c D ca ad PL A (MQ below (qcR D ca ad PL Z A w (some (.int r))) [.ref (ad 9 0), .int x1].toArray s 0 0 A) 4 28 [] [(2, .int v2)] w := by
    intro v2 hf _ _ ls hP hS hl
    unfold f_X9_depthOf_28 at hf
    refine lv_iload_n hx hb dX9_depthOf_28 rfl (lv_at hl 0 rfl) ?_
    exact kr_i hok.2.2 C hlocks hr rfl hP hS rfl (Option.some.inj hf) dX9_depthOf_29
  have L_lp_X9_depthOf_4 : ∀ (k : Int32 → Option (Int32)) (hk : ∀ (v2 : Int32), k v2 = some r → WP p l e (rmk 0) s m [.ref (ad 9 0), .int x1].toArray below meth c D ca ad PL A (MQ below (qcR D ca ad PL Z A w (some (.int r))) [.ref (ad 9 0), .int x1].toArray s 0 0 A) 4 28 [] [(2, .int v2)] w) (n : Nat) (v2 : Int32) (v3 : Int32), lp_X9_depthOf_4 k N w   n v2 v3 = some r → WP p l e (rmk 0) s m [.ref (ad 9 0), .int x1].toArray below meth c D ca ad PL A (MQ below (qcR D ca ad PL Z A w (some (.int r))) [.ref (ad 9 0), .int x1].toArray s 0 0 A) 4 4 [] [(0, .ref (ad 9 0)), (2, .int v2), (3, .int v3)] w := by
    intro k hk n
    induction n with
    | zero => intro v2 v3 hf; rw [lp_X9_depthOf_4] at hf; cases hf
    | succ n ih =>
      intro v2 v3 hf _ _ ls hP hS hl
      rw [lp_X9_depthOf_4] at hf
      refine lv_aload_n hx hb dX9_depthOf_4 rfl (lv_at hl 0 rfl) ?_
      refine gt_9_37 (i := 0) C hP (hok.2.1 9 0 (Nat.le_of_ble_eq_true rfl)) lk_X9_53 dX9_depthOf_5 ?_
      refine lv_iload_n hx hb dX9_depthOf_8 rfl (lv_at hl 2 rfl) ?_
      obtain ⟨b2, hf⟩ := gsp hf
      refine ra_ild (k := 53) (i := 0) (n := 24) (f := (gA w 53 0)) C hP (hok.2.1 53 0 (Nat.le_of_ble_eq_true rfl)) rfl b2 dX9_depthOf_9 ?_
      refine lv_bipush (v := (-2 : Int32)) hx hb dX9_depthOf_10 (by decide) ?_
      refine lv_icmp_eq (tgt := 28) hx hb dX9_depthOf_12 (by decide) (fun c3 => ?_) (fun c3 => ?_)
      · have hf := ifp hf c3
        exact hk v2 hf _ _ ls hP hS (lv_sub hl [1] rfl)
      · have hf := ifn hf c3
        refine lv_iinc (v := (v2 + (1 : Int32))) (lv' := [(2, .int (v2 + (1 : Int32))), (0, .ref (ad 9 0)), (3, .int v3)]) hx hb dX9_depthOf_15 hl (k := 1) rfl rfl (by decide) rfl (fun ls hl => ?_)
        refine lv_aload_n hx hb dX9_depthOf_18 rfl (lv_at hl 1 rfl) ?_
        refine gt_9_37 (i := 0) C hP (hok.2.1 9 0 (Nat.le_of_ble_eq_true rfl)) lk_X9_53 dX9_depthOf_19 ?_
        refine lv_iload_n hx hb dX9_depthOf_22 rfl (lv_at hl 2 rfl) ?_
        refine ra_ild (k := 53) (i := 0) (n := 24) (f := (gA w 53 0)) C hP (hok.2.1 53 0 (Nat.le_of_ble_eq_true rfl)) rfl b2 dX9_depthOf_23 ?_
        refine lv_istore_n (lv' := [(3, .int (gA w 53 0 v3.toNatClampNeg)), (2, .int (v2 + (1 : Int32))), (0, .ref (ad 9 0))]) hx hb dX9_depthOf_24 rfl hl (by decide) rfl (fun ls hl => ?_)
        refine lv_goto (tgt := 4) hx hb dX9_depthOf_25 (by decide) ?_
        exact ih (v2 + (1 : Int32)) (gA w 53 0 v3.toNatClampNeg) hf _ _ ls hP hS (lv_sub hl [2, 1, 0] rfl)
  unfold f_X9_depthOf at hf
  -- walk
  refine lv_iconst (v := (0 : Int32)) hx hb dX9_depthOf_0 (by decide) ?_
  refine lv_istore_n (lv' := [(2, .int (0 : Int32)), (0, .ref (ad 9 0)), (1, .int x1)]) hx hb dX9_depthOf_1 rfl hl (by decide) rfl (fun ls hl => ?_)
  refine lv_iload_n hx hb dX9_depthOf_2 rfl (lv_at hl 2 rfl) ?_
  refine lv_istore_n (lv' := [(3, .int x1), (2, .int (0 : Int32)), (0, .ref (ad 9 0)), (1, .int x1)]) hx hb dX9_depthOf_3 rfl hl (by decide) rfl (fun ls hl => ?_)
  exact L_lp_X9_depthOf_4 _ (fun u2_1 hf H locs ls hP hS hl => P_f_X9_depthOf_28 u2_1 hf _ _ ls hP hS (lv_sub hl [0] rfl)) N (0 : Int32) x1 hf _ _ ls hP hS (lv_sub hl [2, 1, 0] rfl)
def f_X9_reasonsOf_84 (N : Nat) (w : Mem)  (v3 : Int32) : Option (Int32) :=
  some v3
def lp_X9_reasonsOf_8 (k : Int32 → Option (Int32)) (N : Nat) (w : Mem)  : Nat → Int32 → Int32 → Int32 → Option (Int32)
  | 0, _, _, _ => none
  | n + 1, v3, v4, v5 => (if v4 = v5 then
(k v3)
else
(Option.bind (f_X9_depthOf N w v4) (fun z2 => (Option.bind (f_X9_depthOf N w v5) (fun z4 => (if z2 < z4 then
(if inb v5 24 = true then (if inb (gA w 54 0 v5.toNatClampNeg) 24 = true then (lp_X9_reasonsOf_8 k N w   n (v3 ||| (gA w 58 0 (gA w 54 0 v5.toNatClampNeg).toNatClampNeg)) v4 (gA w 53 0 v5.toNatClampNeg)) else none) else none)
else
(if inb v4 24 = true then (if inb (gA w 54 0 v4.toNatClampNeg) 24 = true then (lp_X9_reasonsOf_8 k N w   n (v3 ||| (gA w 58 0 (gA w 54 0 v4.toNatClampNeg).toNatClampNeg)) (gA w 53 0 v4.toNatClampNeg) v5) else none) else none)))))))
def f_X9_reasonsOf (N : Nat) (w : Mem) (x1 : Int32) (x2 : Int32) : Option (Int32) :=
  (lp_X9_reasonsOf_8 (fun (u3_1 : Int32) => (f_X9_reasonsOf_84 N w  u3_1 )) N w   N (0 : Int32) x1 x2)
set_option maxRecDepth 100000 in
set_option maxHeartbeats 4000000 in
theorem c_X9_reasonsOf (l : Launch) (D : va_G) (ca : Nat → ClassId) (ad : Nat → Nat → Nat) (PL : List (Nat × Nat)) (Z : State → Prop) (A : Nat → Prop) (hok : okc bM Z A ad PL) (N : Nat) (w : Mem) (x1 : Int32) (x2 : Int32) (r : Int32) (hf : f_X9_reasonsOf N w x1 x2 = some r) : CT l yX9_reasonsOf (wsy yX9_reasonsOf cX9_reasonsOf 6 (some .int)) (rmk 1) D ca ad PL Z A [.ref (ad 9 0), .int x1, .int x2] w w (some (.int r)) := by
  refine Met.ofW (cc := cX9_reasonsOf) (maxL := 6) (ret := (some .int)) (by decide +kernel) rfl ?_
  intro p e s m args below meth c s₁ B hml hv
  obtain ⟨rfl, hP, hK, hZ⟩ := hv
  have hx := B.exec
  have hb := B.bytes
  have hr := B.returns
  have hlocks := B.notSynchronized
  have hts : ∀ w ∈ ALL, w.before _ s = true := fun w hw => atoms_spec (ws := wsy yX9_reasonsOf cX9_reasonsOf 6 (some .int)) B.pre w (List.mem_cons_of_mem _ hw)
  have hown : s.vm.findClass RX9 = some m.cls := findClass_of_methodNamed B.named
  have C : CX p s m _ c cX9_reasonsOf RX9 6 D ca Z := ⟨hx, hb, hml, hown, hts, hK, hZ⟩
  have hS : va_S A s.heap s.heap [] := va_S.rf
  have hl := lv_entry ([.ref (ad 9 0), .int x1, .int x2]) (n := 6) (Nat.le_of_ble_eq_true rfl)
  rw [lg_entry_eq]
  generalize (lg_sl ([.ref (ad 9 0), .int x1, .int x2]) ++ List.replicate (6 - (lg_sl ([.ref (ad 9 0), .int x1, .int x2])).length) Slot.unset).toArray = ls at hl ⊢
  have hl : lv_has ls 6 [(0, .ref (ad 9 0)), (1, .int x1), (2, .int x2)] := hl
  show W p l e (rmk 1) s m _ below meth c s.heap [] 0 0 _ _
  have P_f_X9_reasonsOf_84 : ∀ (v3 : Int32), f_X9_reasonsOf_84 N w  v3  = some r → WP p l e (rmk 1) s m [.ref (ad 9 0), .int x1, .int x2].toArray below meth c D ca ad PL A (MQ below (qcR D ca ad PL Z A w (some (.int r))) [.ref (ad 9 0), .int x1, .int x2].toArray s 0 0 A) 6 84 [] [(3, .int v3)] w := by
    intro v3 hf _ _ ls hP hS hl
    unfold f_X9_reasonsOf_84 at hf
    refine lv_iload_n hx hb dX9_reasonsOf_84 rfl (lv_at hl 0 rfl) ?_
    exact kr_i hok.2.2 C hlocks hr rfl hP hS rfl (Option.some.inj hf) dX9_reasonsOf_85
  have L_lp_X9_reasonsOf_8 : ∀ (k : Int32 → Option (Int32)) (hk : ∀ (v3 : Int32), k v3 = some r → WP p l e (rmk 1) s m [.ref (ad 9 0), .int x1, .int x2].toArray below meth c D ca ad PL A (MQ below (qcR D ca ad PL Z A w (some (.int r))) [.ref (ad 9 0), .int x1, .int x2].toArray s 0 0 A) 6 84 [] [(3, .int v3)] w) (n : Nat) (v3 : Int32) (v4 : Int32) (v5 : Int32), lp_X9_reasonsOf_8 k N w   n v3 v4 v5 = some r → WP p l e (rmk 1) s m [.ref (ad 9 0), .int x1, .int x2].toArray below meth c D ca ad PL A (MQ below (qcR D ca ad PL Z A w (some (.int r))) [.ref (ad 9 0), .int x1, .int x2].toArray s 0 0 A) 6 8 [] [(0, .ref (ad 9 0)), (3, .int v3), (4, .int v4), (5, .int v5)] w := by
    intro k hk n
    induction n with
    | zero => intro v3 v4 v5 hf; rw [lp_X9_reasonsOf_8] at hf; cases hf
    | succ n ih =>
      intro v3 v4 v5 hf _ _ ls hP hS hl
      rw [lp_X9_reasonsOf_8] at hf
      refine lv_iload hx hb dX9_reasonsOf_8 (lv_at hl 2 rfl) ?_
      refine lv_iload hx hb dX9_reasonsOf_10 (lv_at hl 3 rfl) ?_
      refine lv_icmp_eq (tgt := 84) hx hb dX9_reasonsOf_12 (by decide) (fun c11 => ?_) (fun c11 => ?_)
      · have hf := ifp hf c11
        exact hk v3 hf _ _ ls hP hS (lv_sub hl [1] rfl)
      · have hf := ifn hf c11
        refine lv_aload_n hx hb dX9_reasonsOf_15 rfl (lv_at hl 0 rfl) ?_
        refine lv_iload hx hb dX9_reasonsOf_16 (lv_at hl 2 rfl) ?_
        obtain ⟨z2, q3, hf⟩ := bsp hf
        refine kc_V (ci := 9) (i := 0) (As := [.int v4]) (rest := []) hok.2.2 C hP hS hl.1 (hok.2.1 9 0 (Nat.le_of_ble_eq_true rfl)) rfl rfl cw_X9_depthOf ml_X9_256 (c_X9_depthOf l D ca ad PL Z A hok N w v4 z2 q3) rfl ⟨rfl, rfl⟩ ⟨Nat.le_of_ble_eq_true rfl, Nat.le_of_ble_eq_true rfl⟩ ⟨Nat.zero_le _, Nat.zero_le _⟩ (Nat.le_of_ble_eq_true rfl) rfl dX9_reasonsOf_18 (fun H locs hP hS => ?_)
        refine lv_aload_n hx hb dX9_reasonsOf_21 rfl (lv_at hl 0 rfl) ?_
        refine lv_iload hx hb dX9_reasonsOf_22 (lv_at hl 3 rfl) ?_
        obtain ⟨z4, q5, hf⟩ := bsp hf
        refine kc_V (ci := 9) (i := 0) (As := [.int v5]) (rest := [.int z2]) hok.2.2 C hP hS hl.1 (hok.2.1 9 0 (Nat.le_of_ble_eq_true rfl)) rfl rfl cw_X9_depthOf ml_X9_256 (c_X9_depthOf l D ca ad PL Z A hok N w v5 z4 q5) rfl ⟨rfl, rfl⟩ ⟨Nat.le_of_ble_eq_true rfl, Nat.le_of_ble_eq_true rfl⟩ ⟨Nat.zero_le _, Nat.zero_le _⟩ (Nat.le_of_ble_eq_true rfl) rfl dX9_reasonsOf_24 (fun H locs hP hS => ?_)
        refine lv_icmp_lt (tgt := 57) hx hb dX9_reasonsOf_27 (by decide) (fun c10 => ?_) (fun c10 => ?_)
        · have hf := ifp hf c10
          refine lv_iload_n hx hb dX9_reasonsOf_57 rfl (lv_at hl 1 rfl) ?_
          refine lv_aload_n hx hb dX9_reasonsOf_58 rfl (lv_at hl 0 rfl) ?_
          refine gt_9_43 (i := 0) C hP (hok.2.1 9 0 (Nat.le_of_ble_eq_true rfl)) lk_X9_68 dX9_reasonsOf_59 ?_
          refine lv_aload_n hx hb dX9_reasonsOf_62 rfl (lv_at hl 0 rfl) ?_
          refine gt_9_38 (i := 0) C hP (hok.2.1 9 0 (Nat.le_of_ble_eq_true rfl)) lk_X9_56 dX9_reasonsOf_63 ?_
          refine lv_iload hx hb dX9_reasonsOf_66 (lv_at hl 3 rfl) ?_
          obtain ⟨b6, hf⟩ := gsp hf
          refine ra_ild (k := 54) (i := 0) (n := 24) (f := (gA w 54 0)) C hP (hok.2.1 54 0 (Nat.le_of_ble_eq_true rfl)) rfl b6 dX9_reasonsOf_68 ?_
          obtain ⟨b7, hf⟩ := gsp hf
          refine ra_ild (k := 58) (i := 0) (n := 24) (f := (gA w 58 0)) C hP (hok.2.1 58 0 (Nat.le_of_ble_eq_true rfl)) rfl b7 dX9_reasonsOf_69 ?_
          refine lv_ior hx hb dX9_reasonsOf_70 ?_
          refine lv_istore_n (lv' := [(3, .int (v3 ||| (gA w 58 0 (gA w 54 0 v5.toNatClampNeg).toNatClampNeg))), (0, .ref (ad 9 0)), (4, .int v4), (5, .int v5)]) hx hb dX9_reasonsOf_71 rfl hl (by decide) rfl (fun ls hl => ?_)
          refine lv_aload_n hx hb dX9_reasonsOf_72 rfl (lv_at hl 1 rfl) ?_
          refine gt_9_37 (i := 0) C hP (hok.2.1 9 0 (Nat.le_of_ble_eq_true rfl)) lk_X9_53 dX9_reasonsOf_73 ?_
          refine lv_iload hx hb dX9_reasonsOf_76 (lv_at hl 3 rfl) ?_
          refine ra_ild (k := 53) (i := 0) (n := 24) (f := (gA w 53 0)) C hP (hok.2.1 53 0 (Nat.le_of_ble_eq_true rfl)) rfl b6 dX9_reasonsOf_78 ?_
          refine lv_istore (lv' := [(5, .int (gA w 53 0 v5.toNatClampNeg)), (3, .int (v3 ||| (gA w 58 0 (gA w 54 0 v5.toNatClampNeg).toNatClampNeg))), (0, .ref (ad 9 0)), (4, .int v4)]) hx hb dX9_reasonsOf_79 hl (by decide) rfl (fun ls hl => ?_)
          refine lv_goto (tgt := 8) hx hb dX9_reasonsOf_81 (by decide) ?_
          exact ih (v3 ||| (gA w 58 0 (gA w 54 0 v5.toNatClampNeg).toNatClampNeg)) v4 (gA w 53 0 v5.toNatClampNeg) hf _ _ ls hP hS (lv_sub hl [2, 1, 3, 0] rfl)
        · have hf := ifn hf c10
          refine lv_iload_n hx hb dX9_reasonsOf_30 rfl (lv_at hl 1 rfl) ?_
          refine lv_aload_n hx hb dX9_reasonsOf_31 rfl (lv_at hl 0 rfl) ?_
          refine gt_9_43 (i := 0) C hP (hok.2.1 9 0 (Nat.le_of_ble_eq_true rfl)) lk_X9_68 dX9_reasonsOf_32 ?_
          refine lv_aload_n hx hb dX9_reasonsOf_35 rfl (lv_at hl 0 rfl) ?_
          refine gt_9_38 (i := 0) C hP (hok.2.1 9 0 (Nat.le_of_ble_eq_true rfl)) lk_X9_56 dX9_reasonsOf_36 ?_
          refine lv_iload hx hb dX9_reasonsOf_39 (lv_at hl 2 rfl) ?_
          obtain ⟨b8, hf⟩ := gsp hf
          refine ra_ild (k := 54) (i := 0) (n := 24) (f := (gA w 54 0)) C hP (hok.2.1 54 0 (Nat.le_of_ble_eq_true rfl)) rfl b8 dX9_reasonsOf_41 ?_
          obtain ⟨b9, hf⟩ := gsp hf
          refine ra_ild (k := 58) (i := 0) (n := 24) (f := (gA w 58 0)) C hP (hok.2.1 58 0 (Nat.le_of_ble_eq_true rfl)) rfl b9 dX9_reasonsOf_42 ?_
          refine lv_ior hx hb dX9_reasonsOf_43 ?_
          refine lv_istore_n (lv' := [(3, .int (v3 ||| (gA w 58 0 (gA w 54 0 v4.toNatClampNeg).toNatClampNeg))), (0, .ref (ad 9 0)), (4, .int v4), (5, .int v5)]) hx hb dX9_reasonsOf_44 rfl hl (by decide) rfl (fun ls hl => ?_)
          refine lv_aload_n hx hb dX9_reasonsOf_45 rfl (lv_at hl 1 rfl) ?_
          refine gt_9_37 (i := 0) C hP (hok.2.1 9 0 (Nat.le_of_ble_eq_true rfl)) lk_X9_53 dX9_reasonsOf_46 ?_
          refine lv_iload hx hb dX9_reasonsOf_49 (lv_at hl 2 rfl) ?_
          refine ra_ild (k := 53) (i := 0) (n := 24) (f := (gA w 53 0)) C hP (hok.2.1 53 0 (Nat.le_of_ble_eq_true rfl)) rfl b8 dX9_reasonsOf_51 ?_
          refine lv_istore (lv' := [(4, .int (gA w 53 0 v4.toNatClampNeg)), (3, .int (v3 ||| (gA w 58 0 (gA w 54 0 v4.toNatClampNeg).toNatClampNeg))), (0, .ref (ad 9 0)), (5, .int v5)]) hx hb dX9_reasonsOf_52 hl (by decide) rfl (fun ls hl => ?_)
          refine lv_goto (tgt := 8) hx hb dX9_reasonsOf_54 (by decide) ?_
          exact ih (v3 ||| (gA w 58 0 (gA w 54 0 v4.toNatClampNeg).toNatClampNeg)) (gA w 53 0 v4.toNatClampNeg) v5 hf _ _ ls hP hS (lv_sub hl [2, 1, 0, 3] rfl)
  unfold f_X9_reasonsOf at hf
  -- walk
  refine lv_iconst (v := (0 : Int32)) hx hb dX9_reasonsOf_0 (by decide) ?_
  refine lv_istore_n (lv' := [(3, .int (0 : Int32)), (0, .ref (ad 9 0)), (1, .int x1), (2, .int x2)]) hx hb dX9_reasonsOf_1 rfl hl (by decide) rfl (fun ls hl => ?_)
  refine lv_iload_n hx hb dX9_reasonsOf_2 rfl (lv_at hl 2 rfl) ?_
  refine lv_istore (lv' := [(4, .int x1), (3, .int (0 : Int32)), (0, .ref (ad 9 0)), (1, .int x1), (2, .int x2)]) hx hb dX9_reasonsOf_3 hl (by decide) rfl (fun ls hl => ?_)
  refine lv_iload_n hx hb dX9_reasonsOf_5 rfl (lv_at hl 4 rfl) ?_
  refine lv_istore (lv' := [(5, .int x2), (4, .int x1), (3, .int (0 : Int32)), (0, .ref (ad 9 0)), (1, .int x1), (2, .int x2)]) hx hb dX9_reasonsOf_6 hl (by decide) rfl (fun ls hl => ?_)
  exact L_lp_X9_reasonsOf_8 _ (fun u3_1 hf H locs ls hP hS hl => P_f_X9_reasonsOf_84 u3_1 hf _ _ ls hP hS (lv_sub hl [0] rfl)) N (0 : Int32) x1 x2 hf _ _ ls hP hS (lv_sub hl [3, 2, 1, 0] rfl)
def f_X9_turns_57 (N : Nat) (w : Mem)  : Option (Mem) :=
  some w
def lp_X9_turns_8 (k : Mem → Option (Mem)) (N : Nat)  : Nat → Mem → Int32 → Int32 → Int32 → Option (Mem)
  | 0, _, _, _, _ => none
  | n + 1, w, v2, v3, v4 => (if v2 = (-2 : Int32) then
(k w)
else
(if inb v2 24 = true then (lp_X9_turns_8 k N    n (sA (sA w 53 0 v2.toNatClampNeg v3) 54 0 v2.toNatClampNeg v4) (gA w 53 0 v2.toNatClampNeg) v2 (gA w 54 0 v2.toNatClampNeg)) else none))
def f_X9_turns (N : Nat) (w : Mem) (x1 : Int32) : Option (Mem) :=
  (lp_X9_turns_8 (fun (w_1 : Mem) => (f_X9_turns_57 N w_1   )) N    N w x1 (-2 : Int32) (-1 : Int32))
set_option maxRecDepth 100000 in
set_option maxHeartbeats 4000000 in
theorem c_X9_turns (l : Launch) (D : va_G) (ca : Nat → ClassId) (ad : Nat → Nat → Nat) (PL : List (Nat × Nat)) (Z : State → Prop) (A : Nat → Prop) (hok : okc bM Z A ad PL) (N : Nat) (w : Mem) (x1 : Int32) (w' : Mem) (hf : f_X9_turns N w x1 = some w') : CT l yX9_turns (wsy yX9_turns cX9_turns 7 none) (rmk 0) D ca ad PL Z A [.ref (ad 9 0), .int x1] w w' none := by
  refine Met.ofW (cc := cX9_turns) (maxL := 7) (ret := none) (by decide +kernel) rfl ?_
  intro p e s m args below meth c s₁ B hml hv
  obtain ⟨rfl, hP, hK, hZ⟩ := hv
  have hx := B.exec
  have hb := B.bytes
  have hr := B.returns
  have hlocks := B.notSynchronized
  have hts : ∀ w ∈ ALL, w.before _ s = true := fun w hw => atoms_spec (ws := wsy yX9_turns cX9_turns 7 none) B.pre w (List.mem_cons_of_mem _ hw)
  have hown : s.vm.findClass RX9 = some m.cls := findClass_of_methodNamed B.named
  have C : CX p s m _ c cX9_turns RX9 7 D ca Z := ⟨hx, hb, hml, hown, hts, hK, hZ⟩
  have hS : va_S A s.heap s.heap [] := va_S.rf
  have hl := lv_entry ([.ref (ad 9 0), .int x1]) (n := 7) (Nat.le_of_ble_eq_true rfl)
  rw [lg_entry_eq]
  generalize (lg_sl ([.ref (ad 9 0), .int x1]) ++ List.replicate (7 - (lg_sl ([.ref (ad 9 0), .int x1])).length) Slot.unset).toArray = ls at hl ⊢
  have hl : lv_has ls 7 [(0, .ref (ad 9 0)), (1, .int x1)] := hl
  show W p l e (rmk 0) s m _ below meth c s.heap [] 0 0 _ _
  have P_f_X9_turns_57 : ∀ (w : Mem), f_X9_turns_57 N w    = some w' → WP p l e (rmk 0) s m [.ref (ad 9 0), .int x1].toArray below meth c D ca ad PL A (MQ below (qcR D ca ad PL Z A w' none) [.ref (ad 9 0), .int x1].toArray s 0 0 A) 7 57 [] [] w := by
    intro w hf _ _ ls hP hS hl
    unfold f_X9_turns_57 at hf
    exact kr_v hok.2.2 C hlocks hr hP hS (Option.some.inj hf) dX9_turns_57
  have L_lp_X9_turns_8 : ∀ (k : Mem → Option (Mem)) (hk : ∀ (w : Mem), k w = some w' → WP p l e (rmk 0) s m [.ref (ad 9 0), .int x1].toArray below meth c D ca ad PL A (MQ below (qcR D ca ad PL Z A w' none) [.ref (ad 9 0), .int x1].toArray s 0 0 A) 7 57 [] [] w) (n : Nat) (w : Mem) (v2 : Int32) (v3 : Int32) (v4 : Int32), lp_X9_turns_8 k N    n w v2 v3 v4 = some w' → WP p l e (rmk 0) s m [.ref (ad 9 0), .int x1].toArray below meth c D ca ad PL A (MQ below (qcR D ca ad PL Z A w' none) [.ref (ad 9 0), .int x1].toArray s 0 0 A) 7 8 [] [(0, .ref (ad 9 0)), (2, .int v2), (3, .int v3), (4, .int v4)] w := by
    intro k hk n
    induction n with
    | zero => intro w v2 v3 v4 hf; rw [lp_X9_turns_8] at hf; cases hf
    | succ n ih =>
      intro w v2 v3 v4 hf _ _ ls hP hS hl
      rw [lp_X9_turns_8] at hf
      refine lv_iload_n hx hb dX9_turns_8 rfl (lv_at hl 1 rfl) ?_
      refine lv_bipush (v := (-2 : Int32)) hx hb dX9_turns_9 (by decide) ?_
      refine lv_icmp_eq (tgt := 57) hx hb dX9_turns_11 (by decide) (fun c3 => ?_) (fun c3 => ?_)
      · have hf := ifp hf c3
        exact hk w hf _ _ ls hP hS (lv_sub hl [] rfl)
      · have hf := ifn hf c3
        refine lv_aload_n hx hb dX9_turns_14 rfl (lv_at hl 0 rfl) ?_
        refine gt_9_37 (i := 0) C hP (hok.2.1 9 0 (Nat.le_of_ble_eq_true rfl)) lk_X9_53 dX9_turns_15 ?_
        refine lv_iload_n hx hb dX9_turns_18 rfl (lv_at hl 1 rfl) ?_
        obtain ⟨b2, hf⟩ := gsp hf
        refine ra_ild (k := 53) (i := 0) (n := 24) (f := (gA w 53 0)) C hP (hok.2.1 53 0 (Nat.le_of_ble_eq_true rfl)) rfl b2 dX9_turns_19 ?_
        refine lv_istore (lv' := [(5, .int (gA w 53 0 v2.toNatClampNeg)), (0, .ref (ad 9 0)), (2, .int v2), (3, .int v3), (4, .int v4)]) hx hb dX9_turns_20 hl (by decide) rfl (fun ls hl => ?_)
        refine lv_aload_n hx hb dX9_turns_22 rfl (lv_at hl 1 rfl) ?_
        refine gt_9_38 (i := 0) C hP (hok.2.1 9 0 (Nat.le_of_ble_eq_true rfl)) lk_X9_56 dX9_turns_23 ?_
        refine lv_iload_n hx hb dX9_turns_26 rfl (lv_at hl 2 rfl) ?_
        refine ra_ild (k := 54) (i := 0) (n := 24) (f := (gA w 54 0)) C hP (hok.2.1 54 0 (Nat.le_of_ble_eq_true rfl)) rfl b2 dX9_turns_27 ?_
        refine lv_istore (lv' := [(6, .int (gA w 54 0 v2.toNatClampNeg)), (5, .int (gA w 53 0 v2.toNatClampNeg)), (0, .ref (ad 9 0)), (2, .int v2), (3, .int v3), (4, .int v4)]) hx hb dX9_turns_28 hl (by decide) rfl (fun ls hl => ?_)
        refine lv_aload_n hx hb dX9_turns_30 rfl (lv_at hl 2 rfl) ?_
        refine gt_9_37 (i := 0) C hP (hok.2.1 9 0 (Nat.le_of_ble_eq_true rfl)) lk_X9_53 dX9_turns_31 ?_
        refine lv_iload_n hx hb dX9_turns_34 rfl (lv_at hl 3 rfl) ?_
        refine lv_iload_n hx hb dX9_turns_35 rfl (lv_at hl 4 rfl) ?_
        refine ra_ist (k := 53) (i := 0) (n := 24) C hok.1 hP hS (hok.2.1 53 0 (Nat.le_of_ble_eq_true rfl)) (fun _ => rfl) b2 dX9_turns_36 (fun H locs hP hS => ?_)
        refine lv_aload_n hx hb dX9_turns_37 rfl (lv_at hl 2 rfl) ?_
        refine gt_9_38 (i := 0) C hP (hok.2.1 9 0 (Nat.le_of_ble_eq_true rfl)) lk_X9_56 dX9_turns_38 ?_
        refine lv_iload_n hx hb dX9_turns_41 rfl (lv_at hl 3 rfl) ?_
        refine lv_iload hx hb dX9_turns_42 (lv_at hl 5 rfl) ?_
        refine ra_ist (k := 54) (i := 0) (n := 24) C hok.1 hP hS (hok.2.1 54 0 (Nat.le_of_ble_eq_true rfl)) (fun _ => rfl) b2 dX9_turns_44 (fun H locs hP hS => ?_)
        refine lv_iload_n hx hb dX9_turns_45 rfl (lv_at hl 3 rfl) ?_
        refine lv_istore_n (lv' := [(3, .int v2), (6, .int (gA w 54 0 v2.toNatClampNeg)), (5, .int (gA w 53 0 v2.toNatClampNeg)), (0, .ref (ad 9 0)), (2, .int v2), (4, .int v4)]) hx hb dX9_turns_46 rfl hl (by decide) rfl (fun ls hl => ?_)
        refine lv_iload hx hb dX9_turns_47 (lv_at hl 1 rfl) ?_
        refine lv_istore (lv' := [(4, .int (gA w 54 0 v2.toNatClampNeg)), (3, .int v2), (6, .int (gA w 54 0 v2.toNatClampNeg)), (5, .int (gA w 53 0 v2.toNatClampNeg)), (0, .ref (ad 9 0)), (2, .int v2)]) hx hb dX9_turns_49 hl (by decide) rfl (fun ls hl => ?_)
        refine lv_iload hx hb dX9_turns_51 (lv_at hl 3 rfl) ?_
        refine lv_istore_n (lv' := [(2, .int (gA w 53 0 v2.toNatClampNeg)), (4, .int (gA w 54 0 v2.toNatClampNeg)), (3, .int v2), (6, .int (gA w 54 0 v2.toNatClampNeg)), (5, .int (gA w 53 0 v2.toNatClampNeg)), (0, .ref (ad 9 0))]) hx hb dX9_turns_53 rfl hl (by decide) rfl (fun ls hl => ?_)
        refine lv_goto (tgt := 8) hx hb dX9_turns_54 (by decide) ?_
        exact ih (sA (sA w 53 0 v2.toNatClampNeg v3) 54 0 v2.toNatClampNeg v4) (gA w 53 0 v2.toNatClampNeg) v2 (gA w 54 0 v2.toNatClampNeg) hf _ _ ls hP hS (lv_sub hl [5, 0, 2, 1] rfl)
  unfold f_X9_turns at hf
  -- walk
  refine lv_iload_n hx hb dX9_turns_0 rfl (lv_at hl 1 rfl) ?_
  refine lv_istore_n (lv' := [(2, .int x1), (0, .ref (ad 9 0)), (1, .int x1)]) hx hb dX9_turns_1 rfl hl (by decide) rfl (fun ls hl => ?_)
  refine lv_bipush (v := (-2 : Int32)) hx hb dX9_turns_2 (by decide) ?_
  refine lv_istore_n (lv' := [(3, .int (-2 : Int32)), (2, .int x1), (0, .ref (ad 9 0)), (1, .int x1)]) hx hb dX9_turns_4 rfl hl (by decide) rfl (fun ls hl => ?_)
  refine lv_iconst (v := (-1 : Int32)) hx hb dX9_turns_5 (by decide) ?_
  refine lv_istore (lv' := [(4, .int (-1 : Int32)), (3, .int (-2 : Int32)), (2, .int x1), (0, .ref (ad 9 0)), (1, .int x1)]) hx hb dX9_turns_6 hl (by decide) rfl (fun ls hl => ?_)
  exact L_lp_X9_turns_8 _ (fun w_1 hf H locs ls hP hS hl => P_f_X9_turns_57 w_1 hf _ _ ls hP hS (lv_sub hl [] rfl)) N w x1 (-2 : Int32) (-1 : Int32) hf _ _ ls hP hS (lv_sub hl [3, 2, 1, 0] rfl)
def f_X9_unites_75 (N : Nat) (w : Mem) (k1 : Nat) : Option (Mem) :=
  some w
def lp_X9_unites_29 (k : Mem → Option (Mem)) (N : Nat) (k1 : Nat) (v4 : Int32) (v5 : Int32) (v6 : Int32) : Nat → Mem → Int32 → Option (Mem)
  | 0, _, _ => none
  | n + 1, w, v7 => (if (gF w 9 27 0) ≤ v7 then
(k w)
else
(if inb v7 (alen k1) = true then (if (gA w k1 0 v7.toNatClampNeg) = v4 then
(lp_X9_unites_29 k N  k1 v4 v5 v6 n (sA w k1 0 v7.toNatClampNeg v6) (v7 + (1 : Int32)))
else
(if (gA w k1 0 v7.toNatClampNeg) = v5 then
(lp_X9_unites_29 k N  k1 v4 v5 v6 n (sA w k1 0 v7.toNatClampNeg v6) (v7 + (1 : Int32)))
else
(lp_X9_unites_29 k N  k1 v4 v5 v6 n (sA w k1 0 v7.toNatClampNeg (gA w k1 0 v7.toNatClampNeg)) (v7 + (1 : Int32))))) else none))
def f_X9_unites (N : Nat) (w : Mem) (k1 : Nat) (x2 : Int32) (x3 : Int32) : Option (Mem) :=
  (if inb x2 (alen k1) = true then (if inb x3 (alen k1) = true then (if (gA w k1 0 x3.toNatClampNeg) ≤ (gA w k1 0 x2.toNatClampNeg) then
(lp_X9_unites_29 (fun (w_3 : Mem) => (f_X9_unites_75 N w_3 k1  )) N  k1 (gA w k1 0 x2.toNatClampNeg) (gA w k1 0 x3.toNatClampNeg) (gA w k1 0 x3.toNatClampNeg) N w (0 : Int32))
else
(lp_X9_unites_29 (fun (w_8 : Mem) => (f_X9_unites_75 N w_8 k1  )) N  k1 (gA w k1 0 x2.toNatClampNeg) (gA w k1 0 x3.toNatClampNeg) (gA w k1 0 x2.toNatClampNeg) N w (0 : Int32))) else none) else none)
set_option maxRecDepth 100000 in
set_option maxHeartbeats 4000000 in
theorem c_X9_unites (l : Launch) (D : va_G) (ca : Nat → ClassId) (ad : Nat → Nat → Nat) (PL : List (Nat × Nat)) (Z : State → Prop) (A : Nat → Prop) (hok : okc bM Z A ad PL) (N : Nat) (w : Mem) (k1 : Nat) (hk1 : 10 ≤ k1) (he1 : ety k1 = 0) (hb1 : bM k1 = 1) (x2 : Int32) (x3 : Int32) (w' : Mem) (hf : f_X9_unites N w k1 x2 x3 = some w') : CT l yX9_unites (wsy yX9_unites cX9_unites 8 none) (rmk 0) D ca ad PL Z A [.ref (ad 9 0), .ref (ad k1 0), .int x2, .int x3] w w' none := by
  refine Met.ofW (cc := cX9_unites) (maxL := 8) (ret := none) (by decide +kernel) rfl ?_
  intro p e s m args below meth c s₁ B hml hv
  obtain ⟨rfl, hP, hK, hZ⟩ := hv
  have hx := B.exec
  have hb := B.bytes
  have hr := B.returns
  have hlocks := B.notSynchronized
  have hts : ∀ w ∈ ALL, w.before _ s = true := fun w hw => atoms_spec (ws := wsy yX9_unites cX9_unites 8 none) B.pre w (List.mem_cons_of_mem _ hw)
  have hown : s.vm.findClass RX9 = some m.cls := findClass_of_methodNamed B.named
  have C : CX p s m _ c cX9_unites RX9 8 D ca Z := ⟨hx, hb, hml, hown, hts, hK, hZ⟩
  have hS : va_S A s.heap s.heap [] := va_S.rf
  have hl := lv_entry ([.ref (ad 9 0), .ref (ad k1 0), .int x2, .int x3]) (n := 8) (Nat.le_of_ble_eq_true rfl)
  rw [lg_entry_eq]
  generalize (lg_sl ([.ref (ad 9 0), .ref (ad k1 0), .int x2, .int x3]) ++ List.replicate (8 - (lg_sl ([.ref (ad 9 0), .ref (ad k1 0), .int x2, .int x3])).length) Slot.unset).toArray = ls at hl ⊢
  have hl : lv_has ls 8 [(0, .ref (ad 9 0)), (1, .ref (ad k1 0)), (2, .int x2), (3, .int x3)] := hl
  show W p l e (rmk 0) s m _ below meth c s.heap [] 0 0 _ _
  have P_f_X9_unites_75 : ∀ (w : Mem), f_X9_unites_75 N w k1   = some w' → WP p l e (rmk 0) s m [.ref (ad 9 0), .ref (ad k1 0), .int x2, .int x3].toArray below meth c D ca ad PL A (MQ below (qcR D ca ad PL Z A w' none) [.ref (ad 9 0), .ref (ad k1 0), .int x2, .int x3].toArray s 0 0 A) 8 75 [] [] w := by
    intro w hf _ _ ls hP hS hl
    unfold f_X9_unites_75 at hf
    exact kr_v hok.2.2 C hlocks hr hP hS (Option.some.inj hf) dX9_unites_75
  have L_lp_X9_unites_29 : ∀ (v4 : Int32) (v5 : Int32) (v6 : Int32) (k : Mem → Option (Mem)) (hk : ∀ (w : Mem), k w = some w' → WP p l e (rmk 0) s m [.ref (ad 9 0), .ref (ad k1 0), .int x2, .int x3].toArray below meth c D ca ad PL A (MQ below (qcR D ca ad PL Z A w' none) [.ref (ad 9 0), .ref (ad k1 0), .int x2, .int x3].toArray s 0 0 A) 8 75 [] [] w) (n : Nat) (w : Mem) (v7 : Int32), lp_X9_unites_29 k N  k1 v4 v5 v6 n w v7 = some w' → WP p l e (rmk 0) s m [.ref (ad 9 0), .ref (ad k1 0), .int x2, .int x3].toArray below meth c D ca ad PL A (MQ below (qcR D ca ad PL Z A w' none) [.ref (ad 9 0), .ref (ad k1 0), .int x2, .int x3].toArray s 0 0 A) 8 29 [] [(0, .ref (ad 9 0)), (1, .ref (ad k1 0)), (4, .int v4), (5, .int v5), (6, .int v6), (7, .int v7)] w := by
    intro v4 v5 v6 k hk n
    induction n with
    | zero => intro w v7 hf; rw [lp_X9_unites_29] at hf; cases hf
    | succ n ih =>
      intro w v7 hf _ _ ls hP hS hl
      rw [lp_X9_unites_29] at hf
      refine lv_iload hx hb dX9_unites_29 (lv_at hl 5 rfl) ?_
      refine lv_aload_n hx hb dX9_unites_31 rfl (lv_at hl 0 rfl) ?_
      refine gt_9_27 (i := 0) C hP (hok.2.1 9 0 (Nat.le_of_ble_eq_true rfl)) lk_X9_250 dX9_unites_32 ?_
      refine lv_icmp_ge (tgt := 75) hx hb dX9_unites_35 (by decide) (fun c7 => ?_) (fun c7 => ?_)
      · have hf := ifp hf c7
        exact hk w hf _ _ ls hP hS (lv_sub hl [] rfl)
      · have hf := ifn hf c7
        refine lv_aload_n hx hb dX9_unites_38 rfl (lv_at hl 1 rfl) ?_
        refine lv_iload hx hb dX9_unites_39 (lv_at hl 5 rfl) ?_
        refine lv_aload_n hx hb dX9_unites_41 rfl (lv_at hl 1 rfl) ?_
        refine lv_iload hx hb dX9_unites_42 (lv_at hl 5 rfl) ?_
        obtain ⟨b4, hf⟩ := gsp hf
        refine ra_ild (k := k1) (i := 0) (n := (alen k1)) (f := (gA w k1 0)) C hP (hok.2.1 k1 0 (by rw [hb1]; exact Nat.zero_lt_one)) (ent_i ca ad w 0 hk1 he1) b4 dX9_unites_44 ?_
        refine lv_iload hx hb dX9_unites_45 (lv_at hl 2 rfl) ?_
        refine lv_icmp_eq (tgt := 59) hx hb dX9_unites_47 (by decide) (fun c6 => ?_) (fun c6 => ?_)
        · have hf := ifp hf c6
          refine lv_iload hx hb dX9_unites_59 (lv_at hl 4 rfl) ?_
          refine lv_goto (tgt := 68) hx hb dX9_unites_61 (by decide) ?_
          refine ra_ist (k := k1) (i := 0) (n := (alen k1)) C hok.1 hP hS (hok.2.1 k1 0 (by rw [hb1]; exact Nat.zero_lt_one)) (fun u => ent_i ca ad u 0 hk1 he1) b4 dX9_unites_68 (fun H locs hP hS => ?_)
          refine lv_iinc (v := (v7 + (1 : Int32))) (lv' := [(7, .int (v7 + (1 : Int32))), (0, .ref (ad 9 0)), (1, .ref (ad k1 0)), (4, .int v4), (5, .int v5), (6, .int v6)]) hx hb dX9_unites_69 hl (k := 5) rfl rfl (by decide) rfl (fun ls hl => ?_)
          refine lv_goto (tgt := 29) hx hb dX9_unites_72 (by decide) ?_
          exact ih (sA w k1 0 v7.toNatClampNeg v6) (v7 + (1 : Int32)) hf _ _ ls hP hS (lv_sub hl [1, 2, 3, 4, 5, 0] rfl)
        · have hf := ifn hf c6
          refine lv_aload_n hx hb dX9_unites_50 rfl (lv_at hl 1 rfl) ?_
          refine lv_iload hx hb dX9_unites_51 (lv_at hl 5 rfl) ?_
          refine ra_ild (k := k1) (i := 0) (n := (alen k1)) (f := (gA w k1 0)) C hP (hok.2.1 k1 0 (by rw [hb1]; exact Nat.zero_lt_one)) (ent_i ca ad w 0 hk1 he1) b4 dX9_unites_53 ?_
          refine lv_iload hx hb dX9_unites_54 (lv_at hl 3 rfl) ?_
          refine lv_icmp_ne (tgt := 64) hx hb dX9_unites_56 (by decide) (fun c5 => ?_) (fun c5 => ?_)
          · have hf := ifn hf c5
            refine lv_aload_n hx hb dX9_unites_64 rfl (lv_at hl 1 rfl) ?_
            refine lv_iload hx hb dX9_unites_65 (lv_at hl 5 rfl) ?_
            refine ra_ild (k := k1) (i := 0) (n := (alen k1)) (f := (gA w k1 0)) C hP (hok.2.1 k1 0 (by rw [hb1]; exact Nat.zero_lt_one)) (ent_i ca ad w 0 hk1 he1) b4 dX9_unites_67 ?_
            refine ra_ist (k := k1) (i := 0) (n := (alen k1)) C hok.1 hP hS (hok.2.1 k1 0 (by rw [hb1]; exact Nat.zero_lt_one)) (fun u => ent_i ca ad u 0 hk1 he1) b4 dX9_unites_68 (fun H locs hP hS => ?_)
            refine lv_iinc (v := (v7 + (1 : Int32))) (lv' := [(7, .int (v7 + (1 : Int32))), (0, .ref (ad 9 0)), (1, .ref (ad k1 0)), (4, .int v4), (5, .int v5), (6, .int v6)]) hx hb dX9_unites_69 hl (k := 5) rfl rfl (by decide) rfl (fun ls hl => ?_)
            refine lv_goto (tgt := 29) hx hb dX9_unites_72 (by decide) ?_
            exact ih (sA w k1 0 v7.toNatClampNeg (gA w k1 0 v7.toNatClampNeg)) (v7 + (1 : Int32)) hf _ _ ls hP hS (lv_sub hl [1, 2, 3, 4, 5, 0] rfl)
          · have hf := ifp hf c5
            refine lv_iload hx hb dX9_unites_59 (lv_at hl 4 rfl) ?_
            refine lv_goto (tgt := 68) hx hb dX9_unites_61 (by decide) ?_
            refine ra_ist (k := k1) (i := 0) (n := (alen k1)) C hok.1 hP hS (hok.2.1 k1 0 (by rw [hb1]; exact Nat.zero_lt_one)) (fun u => ent_i ca ad u 0 hk1 he1) b4 dX9_unites_68 (fun H locs hP hS => ?_)
            refine lv_iinc (v := (v7 + (1 : Int32))) (lv' := [(7, .int (v7 + (1 : Int32))), (0, .ref (ad 9 0)), (1, .ref (ad k1 0)), (4, .int v4), (5, .int v5), (6, .int v6)]) hx hb dX9_unites_69 hl (k := 5) rfl rfl (by decide) rfl (fun ls hl => ?_)
            refine lv_goto (tgt := 29) hx hb dX9_unites_72 (by decide) ?_
            exact ih (sA w k1 0 v7.toNatClampNeg v6) (v7 + (1 : Int32)) hf _ _ ls hP hS (lv_sub hl [1, 2, 3, 4, 5, 0] rfl)
  unfold f_X9_unites at hf
  -- walk
  refine lv_aload_n hx hb dX9_unites_0 rfl (lv_at hl 1 rfl) ?_
  refine lv_iload_n hx hb dX9_unites_1 rfl (lv_at hl 2 rfl) ?_
  obtain ⟨b1, hf⟩ := gsp hf
  refine ra_ild (k := k1) (i := 0) (n := (alen k1)) (f := (gA w k1 0)) C hP (hok.2.1 k1 0 (by rw [hb1]; exact Nat.zero_lt_one)) (ent_i ca ad w 0 hk1 he1) b1 dX9_unites_2 ?_
  refine lv_istore (lv' := [(4, .int (gA w k1 0 x2.toNatClampNeg)), (0, .ref (ad 9 0)), (1, .ref (ad k1 0)), (2, .int x2), (3, .int x3)]) hx hb dX9_unites_3 hl (by decide) rfl (fun ls hl => ?_)
  refine lv_aload_n hx hb dX9_unites_5 rfl (lv_at hl 2 rfl) ?_
  refine lv_iload_n hx hb dX9_unites_6 rfl (lv_at hl 4 rfl) ?_
  obtain ⟨b2, hf⟩ := gsp hf
  refine ra_ild (k := k1) (i := 0) (n := (alen k1)) (f := (gA w k1 0)) C hP (hok.2.1 k1 0 (by rw [hb1]; exact Nat.zero_lt_one)) (ent_i ca ad w 0 hk1 he1) b2 dX9_unites_7 ?_
  refine lv_istore (lv' := [(5, .int (gA w k1 0 x3.toNatClampNeg)), (4, .int (gA w k1 0 x2.toNatClampNeg)), (0, .ref (ad 9 0)), (1, .ref (ad k1 0)), (2, .int x2), (3, .int x3)]) hx hb dX9_unites_8 hl (by decide) rfl (fun ls hl => ?_)
  refine lv_iload hx hb dX9_unites_10 (lv_at hl 1 rfl) ?_
  refine lv_iload hx hb dX9_unites_12 (lv_at hl 0 rfl) ?_
  refine lv_icmp_ge (tgt := 22) hx hb dX9_unites_14 (by decide) (fun c9 => ?_) (fun c9 => ?_)
  · have hf := ifp hf c9
    refine lv_iload hx hb dX9_unites_22 (lv_at hl 0 rfl) ?_
    refine lv_istore (lv' := [(6, .int (gA w k1 0 x3.toNatClampNeg)), (5, .int (gA w k1 0 x3.toNatClampNeg)), (4, .int (gA w k1 0 x2.toNatClampNeg)), (0, .ref (ad 9 0)), (1, .ref (ad k1 0)), (2, .int x2), (3, .int x3)]) hx hb dX9_unites_24 hl (by decide) rfl (fun ls hl => ?_)
    refine lv_iconst (v := (0 : Int32)) hx hb dX9_unites_26 (by decide) ?_
    refine lv_istore (lv' := [(7, .int (0 : Int32)), (6, .int (gA w k1 0 x3.toNatClampNeg)), (5, .int (gA w k1 0 x3.toNatClampNeg)), (4, .int (gA w k1 0 x2.toNatClampNeg)), (0, .ref (ad 9 0)), (1, .ref (ad k1 0)), (2, .int x2), (3, .int x3)]) hx hb dX9_unites_27 hl (by decide) rfl (fun ls hl => ?_)
    exact L_lp_X9_unites_29 (gA w k1 0 x2.toNatClampNeg) (gA w k1 0 x3.toNatClampNeg) (gA w k1 0 x3.toNatClampNeg) _ (fun w_3 hf H locs ls hP hS hl => P_f_X9_unites_75 w_3 hf _ _ ls hP hS (lv_sub hl [] rfl)) N w (0 : Int32) hf _ _ ls hP hS (lv_sub hl [4, 5, 3, 2, 1, 0] rfl)
  · have hf := ifn hf c9
    refine lv_iload hx hb dX9_unites_17 (lv_at hl 1 rfl) ?_
    refine lv_goto (tgt := 24) hx hb dX9_unites_19 (by decide) ?_
    refine lv_istore (lv' := [(6, .int (gA w k1 0 x2.toNatClampNeg)), (5, .int (gA w k1 0 x3.toNatClampNeg)), (4, .int (gA w k1 0 x2.toNatClampNeg)), (0, .ref (ad 9 0)), (1, .ref (ad k1 0)), (2, .int x2), (3, .int x3)]) hx hb dX9_unites_24 hl (by decide) rfl (fun ls hl => ?_)
    refine lv_iconst (v := (0 : Int32)) hx hb dX9_unites_26 (by decide) ?_
    refine lv_istore (lv' := [(7, .int (0 : Int32)), (6, .int (gA w k1 0 x2.toNatClampNeg)), (5, .int (gA w k1 0 x3.toNatClampNeg)), (4, .int (gA w k1 0 x2.toNatClampNeg)), (0, .ref (ad 9 0)), (1, .ref (ad k1 0)), (2, .int x2), (3, .int x3)]) hx hb dX9_unites_27 hl (by decide) rfl (fun ls hl => ?_)
    exact L_lp_X9_unites_29 (gA w k1 0 x2.toNatClampNeg) (gA w k1 0 x3.toNatClampNeg) (gA w k1 0 x2.toNatClampNeg) _ (fun w_8 hf H locs ls hP hS hl => P_f_X9_unites_75 w_8 hf _ _ ls hP hS (lv_sub hl [] rfl)) N w (0 : Int32) hf _ _ ls hP hS (lv_sub hl [4, 5, 3, 2, 1, 0] rfl)
def f_X9_joinsTwo_115 (N : Nat) (w : Mem)  (v1 : Int32) (v2 : Int32) : Option (Mem) :=
  (Option.bind (f_X9_turns N w v2) (fun z6 => (if inb v2 24 = true then (Option.bind (f_X9_unites N (sF (sA (sA z6 53 0 v2.toNatClampNeg v1) 54 0 v2.toNatClampNeg (gF (sA z6 53 0 v2.toNatClampNeg v1) 9 39 0)) 9 39 0 ((gF (sA (sA z6 53 0 v2.toNatClampNeg v1) 54 0 v2.toNatClampNeg (gF (sA z6 53 0 v2.toNatClampNeg v1) 9 39 0)) 9 39 0) + (1 : Int32))) 52 v1 v2) (fun z9 => some z9)) else none)))
def lp_X9_joinsTwo_55 (k : Mem → Option (Mem)) (N : Nat)  (v1 : Int32) (v2 : Int32) (v3 : Int32) : Nat → Mem → Int32 → Option (Mem)
  | 0, _, _ => none
  | n + 1, w, v4 => (if v3 = (-2 : Int32) then
(Option.bind (f_X9_takesOf N w v1) (fun z11 => (if z11 ≤ v4 then
(k w)
else
(if inb (gF w 9 39 0) 24 = true then (if inb (((3 : Int32) * v1) + v4) 72 = true then (if inb (((3 : Int32) * v2) + v4) 72 = true then (Option.bind (f_X9_reasonsOf N w (gA w 47 0 (((3 : Int32) * v1) + v4).toNatClampNeg) (gA w 47 0 (((3 : Int32) * v2) + v4).toNatClampNeg)) (fun z16 => (lp_X9_joinsTwo_55 k N   v1 v2 v3 n (sA w 58 0 (gF w 9 39 0).toNatClampNeg ((gA w 58 0 (gF w 9 39 0).toNatClampNeg) ||| z16)) (v4 + (1 : Int32))))) else none) else none) else none))))
else
(k w))
def f_X9_joinsTwo (N : Nat) (w : Mem) (x1 : Int32) (x2 : Int32) (x3 : Int32) : Option (Mem) :=
  (if inb (gF w 9 39 0) 24 = true then (if inb (gF (sA w 55 0 (gF w 9 39 0).toNatClampNeg x1) 9 39 0) 24 = true then (if inb (gF (sA (sA w 55 0 (gF w 9 39 0).toNatClampNeg x1) 56 0 (gF (sA w 55 0 (gF w 9 39 0).toNatClampNeg x1) 9 39 0).toNatClampNeg x2) 9 39 0) 24 = true then (if x3 = (-2 : Int32) then
(if inb (gF (sA (sA (sA w 55 0 (gF w 9 39 0).toNatClampNeg x1) 56 0 (gF (sA w 55 0 (gF w 9 39 0).toNatClampNeg x1) 9 39 0).toNatClampNeg x2) 57 0 (gF (sA (sA w 55 0 (gF w 9 39 0).toNatClampNeg x1) 56 0 (gF (sA w 55 0 (gF w 9 39 0).toNatClampNeg x1) 9 39 0).toNatClampNeg x2) 9 39 0).toNatClampNeg x3) 9 39 0) 24 = true then (lp_X9_joinsTwo_55 (fun (w_5 : Mem) => (f_X9_joinsTwo_115 N w_5  x1 x2 )) N   x1 x2 x3 N (sA (sA (sA (sA w 55 0 (gF w 9 39 0).toNatClampNeg x1) 56 0 (gF (sA w 55 0 (gF w 9 39 0).toNatClampNeg x1) 9 39 0).toNatClampNeg x2) 57 0 (gF (sA (sA w 55 0 (gF w 9 39 0).toNatClampNeg x1) 56 0 (gF (sA w 55 0 (gF w 9 39 0).toNatClampNeg x1) 9 39 0).toNatClampNeg x2) 9 39 0).toNatClampNeg x3) 58 0 (gF (sA (sA (sA w 55 0 (gF w 9 39 0).toNatClampNeg x1) 56 0 (gF (sA w 55 0 (gF w 9 39 0).toNatClampNeg x1) 9 39 0).toNatClampNeg x2) 57 0 (gF (sA (sA w 55 0 (gF w 9 39 0).toNatClampNeg x1) 56 0 (gF (sA w 55 0 (gF w 9 39 0).toNatClampNeg x1) 9 39 0).toNatClampNeg x2) 9 39 0).toNatClampNeg x3) 9 39 0).toNatClampNeg (0 : Int32)) (0 : Int32)) else none)
else
(if inb (gF (sA (sA (sA w 55 0 (gF w 9 39 0).toNatClampNeg x1) 56 0 (gF (sA w 55 0 (gF w 9 39 0).toNatClampNeg x1) 9 39 0).toNatClampNeg x2) 57 0 (gF (sA (sA w 55 0 (gF w 9 39 0).toNatClampNeg x1) 56 0 (gF (sA w 55 0 (gF w 9 39 0).toNatClampNeg x1) 9 39 0).toNatClampNeg x2) 9 39 0).toNatClampNeg x3) 9 39 0) 24 = true then (lp_X9_joinsTwo_55 (fun (w_21 : Mem) => (f_X9_joinsTwo_115 N w_21  x1 x2 )) N   x1 x2 x3 N (sA (sA (sA (sA w 55 0 (gF w 9 39 0).toNatClampNeg x1) 56 0 (gF (sA w 55 0 (gF w 9 39 0).toNatClampNeg x1) 9 39 0).toNatClampNeg x2) 57 0 (gF (sA (sA w 55 0 (gF w 9 39 0).toNatClampNeg x1) 56 0 (gF (sA w 55 0 (gF w 9 39 0).toNatClampNeg x1) 9 39 0).toNatClampNeg x2) 9 39 0).toNatClampNeg x3) 58 0 (gF (sA (sA (sA w 55 0 (gF w 9 39 0).toNatClampNeg x1) 56 0 (gF (sA w 55 0 (gF w 9 39 0).toNatClampNeg x1) 9 39 0).toNatClampNeg x2) 57 0 (gF (sA (sA w 55 0 (gF w 9 39 0).toNatClampNeg x1) 56 0 (gF (sA w 55 0 (gF w 9 39 0).toNatClampNeg x1) 9 39 0).toNatClampNeg x2) 9 39 0).toNatClampNeg x3) 9 39 0).toNatClampNeg ((1 : Int32) <<< (x3 &&& 31))) (0 : Int32)) else none)) else none) else none) else none)
set_option maxRecDepth 100000 in
set_option maxHeartbeats 4000000 in
theorem c_X9_joinsTwo (l : Launch) (D : va_G) (ca : Nat → ClassId) (ad : Nat → Nat → Nat) (PL : List (Nat × Nat)) (Z : State → Prop) (A : Nat → Prop) (hok : okc bM Z A ad PL) (N : Nat) (w : Mem) (x1 : Int32) (x2 : Int32) (x3 : Int32) (w' : Mem) (hf : f_X9_joinsTwo N w x1 x2 x3 = some w') : CT l yX9_joinsTwo (wsy yX9_joinsTwo cX9_joinsTwo 5 none) (rmk 2) D ca ad PL Z A [.ref (ad 9 0), .int x1, .int x2, .int x3] w w' none := by
  refine Met.ofW (cc := cX9_joinsTwo) (maxL := 5) (ret := none) (by decide +kernel) rfl ?_
  intro p e s m args below meth c s₁ B hml hv
  obtain ⟨rfl, hP, hK, hZ⟩ := hv
  have hx := B.exec
  have hb := B.bytes
  have hr := B.returns
  have hlocks := B.notSynchronized
  have hts : ∀ w ∈ ALL, w.before _ s = true := fun w hw => atoms_spec (ws := wsy yX9_joinsTwo cX9_joinsTwo 5 none) B.pre w (List.mem_cons_of_mem _ hw)
  have hown : s.vm.findClass RX9 = some m.cls := findClass_of_methodNamed B.named
  have C : CX p s m _ c cX9_joinsTwo RX9 5 D ca Z := ⟨hx, hb, hml, hown, hts, hK, hZ⟩
  have hS : va_S A s.heap s.heap [] := va_S.rf
  have hl := lv_entry ([.ref (ad 9 0), .int x1, .int x2, .int x3]) (n := 5) (Nat.le_of_ble_eq_true rfl)
  rw [lg_entry_eq]
  generalize (lg_sl ([.ref (ad 9 0), .int x1, .int x2, .int x3]) ++ List.replicate (5 - (lg_sl ([.ref (ad 9 0), .int x1, .int x2, .int x3])).length) Slot.unset).toArray = ls at hl ⊢
  have hl : lv_has ls 5 [(0, .ref (ad 9 0)), (1, .int x1), (2, .int x2), (3, .int x3)] := hl
  show W p l e (rmk 2) s m _ below meth c s.heap [] 0 0 _ _
  have P_f_X9_joinsTwo_115 : ∀ (w : Mem) (v1 : Int32) (v2 : Int32), f_X9_joinsTwo_115 N w  v1 v2  = some w' → WP p l e (rmk 2) s m [.ref (ad 9 0), .int x1, .int x2, .int x3].toArray below meth c D ca ad PL A (MQ below (qcR D ca ad PL Z A w' none) [.ref (ad 9 0), .int x1, .int x2, .int x3].toArray s 0 0 A) 5 115 [] [(0, .ref (ad 9 0)), (1, .int v1), (2, .int v2)] w := by
    intro w v1 v2 hf _ _ ls hP hS hl
    unfold f_X9_joinsTwo_115 at hf
    refine lv_aload_n hx hb dX9_joinsTwo_115 rfl (lv_at hl 0 rfl) ?_
    refine lv_iload_n hx hb dX9_joinsTwo_116 rfl (lv_at hl 2 rfl) ?_
    obtain ⟨z6, q7, hf⟩ := bsp hf
    refine kc_V (ci := 9) (i := 0) (As := [.int v2]) (rest := []) hok.2.2 C hP hS hl.1 (hok.2.1 9 0 (Nat.le_of_ble_eq_true rfl)) rfl rfl cw_X9_turns ml_X9_266 (c_X9_turns l D ca ad PL Z A hok N w v2 z6 q7) rfl ⟨rfl, rfl⟩ ⟨Nat.le_of_ble_eq_true rfl, Nat.le_of_ble_eq_true rfl⟩ ⟨Nat.zero_le _, Nat.zero_le _⟩ (Nat.le_of_ble_eq_true rfl) rfl dX9_joinsTwo_117 (fun H locs hP hS => ?_)
    refine lv_aload_n hx hb dX9_joinsTwo_120 rfl (lv_at hl 0 rfl) ?_
    refine gt_9_37 (i := 0) C hP (hok.2.1 9 0 (Nat.le_of_ble_eq_true rfl)) lk_X9_53 dX9_joinsTwo_121 ?_
    refine lv_iload_n hx hb dX9_joinsTwo_124 rfl (lv_at hl 2 rfl) ?_
    refine lv_iload_n hx hb dX9_joinsTwo_125 rfl (lv_at hl 1 rfl) ?_
    obtain ⟨b8, hf⟩ := gsp hf
    refine ra_ist (k := 53) (i := 0) (n := 24) C hok.1 hP hS (hok.2.1 53 0 (Nat.le_of_ble_eq_true rfl)) (fun _ => rfl) b8 dX9_joinsTwo_126 (fun H locs hP hS => ?_)
    refine lv_aload_n hx hb dX9_joinsTwo_127 rfl (lv_at hl 0 rfl) ?_
    refine gt_9_38 (i := 0) C hP (hok.2.1 9 0 (Nat.le_of_ble_eq_true rfl)) lk_X9_56 dX9_joinsTwo_128 ?_
    refine lv_iload_n hx hb dX9_joinsTwo_131 rfl (lv_at hl 2 rfl) ?_
    refine lv_aload_n hx hb dX9_joinsTwo_132 rfl (lv_at hl 0 rfl) ?_
    refine gt_9_39 (i := 0) C hP (hok.2.1 9 0 (Nat.le_of_ble_eq_true rfl)) lk_X9_259 dX9_joinsTwo_133 ?_
    refine ra_ist (k := 54) (i := 0) (n := 24) C hok.1 hP hS (hok.2.1 54 0 (Nat.le_of_ble_eq_true rfl)) (fun _ => rfl) b8 dX9_joinsTwo_136 (fun H locs hP hS => ?_)
    refine lv_aload_n hx hb dX9_joinsTwo_137 rfl (lv_at hl 0 rfl) ?_
    refine lv_dup hx hb dX9_joinsTwo_138 rfl ?_
    refine gt_9_39 (i := 0) C hP (hok.2.1 9 0 (Nat.le_of_ble_eq_true rfl)) lk_X9_259 dX9_joinsTwo_139 ?_
    refine lv_iconst (v := (1 : Int32)) hx hb dX9_joinsTwo_142 (by decide) ?_
    refine lv_iadd hx hb dX9_joinsTwo_143 ?_
    refine pt_9_39 (i := 0) (v := ((gF (sA (sA z6 53 0 v2.toNatClampNeg v1) 54 0 v2.toNatClampNeg (gF (sA z6 53 0 v2.toNatClampNeg v1) 9 39 0)) 9 39 0) + (1 : Int32))) C hok.1 hP hS (hok.2.1 9 0 (Nat.le_of_ble_eq_true rfl)) lk_X9_259 dX9_joinsTwo_144 (fun H locs hP hS => ?_)
    refine lv_aload_n hx hb dX9_joinsTwo_147 rfl (lv_at hl 0 rfl) ?_
    refine lv_aload_n hx hb dX9_joinsTwo_148 rfl (lv_at hl 0 rfl) ?_
    refine gt_9_36 (i := 0) C hP (hok.2.1 9 0 (Nat.le_of_ble_eq_true rfl)) lk_X9_50 dX9_joinsTwo_149 ?_
    refine lv_iload_n hx hb dX9_joinsTwo_152 rfl (lv_at hl 1 rfl) ?_
    refine lv_iload_n hx hb dX9_joinsTwo_153 rfl (lv_at hl 2 rfl) ?_
    obtain ⟨z9, q10, hf⟩ := bsp hf
    refine kc_V (ci := 9) (i := 0) (As := [.ref (ad 52 0), .int v1, .int v2]) (rest := []) hok.2.2 C hP hS hl.1 (hok.2.1 9 0 (Nat.le_of_ble_eq_true rfl)) rfl rfl cw_X9_unites ml_X9_269 (c_X9_unites l D ca ad PL Z A hok N (sF (sA (sA z6 53 0 v2.toNatClampNeg v1) 54 0 v2.toNatClampNeg (gF (sA z6 53 0 v2.toNatClampNeg v1) 9 39 0)) 9 39 0 ((gF (sA (sA z6 53 0 v2.toNatClampNeg v1) 54 0 v2.toNatClampNeg (gF (sA z6 53 0 v2.toNatClampNeg v1) 9 39 0)) 9 39 0) + (1 : Int32))) 52 (Nat.le_of_ble_eq_true rfl) rfl rfl v1 v2 z9 q10) rfl ⟨rfl, rfl⟩ ⟨Nat.le_of_ble_eq_true rfl, Nat.le_of_ble_eq_true rfl⟩ ⟨Nat.zero_le _, Nat.zero_le _⟩ (Nat.le_of_ble_eq_true rfl) rfl dX9_joinsTwo_154 (fun H locs hP hS => ?_)
    exact kr_v hok.2.2 C hlocks hr hP hS (Option.some.inj hf) dX9_joinsTwo_157
  have L_lp_X9_joinsTwo_55 : ∀ (v1 : Int32) (v2 : Int32) (v3 : Int32) (k : Mem → Option (Mem)) (hk : ∀ (w : Mem), k w = some w' → WP p l e (rmk 2) s m [.ref (ad 9 0), .int x1, .int x2, .int x3].toArray below meth c D ca ad PL A (MQ below (qcR D ca ad PL Z A w' none) [.ref (ad 9 0), .int x1, .int x2, .int x3].toArray s 0 0 A) 5 115 [] [(0, .ref (ad 9 0)), (1, .int v1), (2, .int v2)] w) (n : Nat) (w : Mem) (v4 : Int32), lp_X9_joinsTwo_55 k N   v1 v2 v3 n w v4 = some w' → WP p l e (rmk 2) s m [.ref (ad 9 0), .int x1, .int x2, .int x3].toArray below meth c D ca ad PL A (MQ below (qcR D ca ad PL Z A w' none) [.ref (ad 9 0), .int x1, .int x2, .int x3].toArray s 0 0 A) 5 55 [] [(0, .ref (ad 9 0)), (1, .int v1), (2, .int v2), (3, .int v3), (4, .int v4)] w := by
    intro v1 v2 v3 k hk n
    induction n with
    | zero => intro w v4 hf; rw [lp_X9_joinsTwo_55] at hf; cases hf
    | succ n ih =>
      intro w v4 hf _ _ ls hP hS hl
      rw [lp_X9_joinsTwo_55] at hf
      refine lv_iload_n hx hb dX9_joinsTwo_55 rfl (lv_at hl 3 rfl) ?_
      refine lv_bipush (v := (-2 : Int32)) hx hb dX9_joinsTwo_56 (by decide) ?_
      refine lv_icmp_ne (tgt := 115) hx hb dX9_joinsTwo_58 (by decide) (fun c19 => ?_) (fun c19 => ?_)
      · have hf := ifn hf c19
        exact hk w hf _ _ ls hP hS (lv_sub hl [0, 1, 2] rfl)
      · have hf := ifp hf c19
        refine lv_iload hx hb dX9_joinsTwo_61 (lv_at hl 4 rfl) ?_
        refine lv_aload_n hx hb dX9_joinsTwo_63 rfl (lv_at hl 0 rfl) ?_
        refine lv_iload_n hx hb dX9_joinsTwo_64 rfl (lv_at hl 1 rfl) ?_
        obtain ⟨z11, q12, hf⟩ := bsp hf
        refine kc_V (ci := 9) (i := 0) (As := [.int v1]) (rest := [.int v4]) hok.2.2 C hP hS hl.1 (hok.2.1 9 0 (Nat.le_of_ble_eq_true rfl)) rfl rfl cw_X9_takesOf ml_X9_253 (c_X9_takesOf l D ca ad PL Z A hok N w v1 z11 q12) rfl ⟨rfl, rfl⟩ ⟨Nat.le_of_ble_eq_true rfl, Nat.le_of_ble_eq_true rfl⟩ ⟨Nat.zero_le _, Nat.zero_le _⟩ (Nat.le_of_ble_eq_true rfl) rfl dX9_joinsTwo_65 (fun H locs hP hS => ?_)
        refine lv_icmp_ge (tgt := 115) hx hb dX9_joinsTwo_68 (by decide) (fun c18 => ?_) (fun c18 => ?_)
        · have hf := ifp hf c18
          exact hk w hf _ _ ls hP hS (lv_sub hl [0, 1, 2] rfl)
        · have hf := ifn hf c18
          refine lv_aload_n hx hb dX9_joinsTwo_71 rfl (lv_at hl 0 rfl) ?_
          refine gt_9_43 (i := 0) C hP (hok.2.1 9 0 (Nat.le_of_ble_eq_true rfl)) lk_X9_68 dX9_joinsTwo_72 ?_
          refine lv_aload_n hx hb dX9_joinsTwo_75 rfl (lv_at hl 0 rfl) ?_
          refine gt_9_39 (i := 0) C hP (hok.2.1 9 0 (Nat.le_of_ble_eq_true rfl)) lk_X9_259 dX9_joinsTwo_76 ?_
          refine lv_dup2_11 hx hb dX9_joinsTwo_79 rfl rfl ?_
          obtain ⟨b13, hf⟩ := gsp hf
          refine ra_ild (k := 58) (i := 0) (n := 24) (f := (gA w 58 0)) C hP (hok.2.1 58 0 (Nat.le_of_ble_eq_true rfl)) rfl b13 dX9_joinsTwo_80 ?_
          refine lv_aload_n hx hb dX9_joinsTwo_81 rfl (lv_at hl 0 rfl) ?_
          refine lv_aload_n hx hb dX9_joinsTwo_82 rfl (lv_at hl 0 rfl) ?_
          refine gt_9_29 (i := 0) C hP (hok.2.1 9 0 (Nat.le_of_ble_eq_true rfl)) lk_X9_35 dX9_joinsTwo_83 ?_
          refine lv_iconst (v := (3 : Int32)) hx hb dX9_joinsTwo_86 (by decide) ?_
          refine lv_iload_n hx hb dX9_joinsTwo_87 rfl (lv_at hl 1 rfl) ?_
          refine lv_imul hx hb dX9_joinsTwo_88 ?_
          refine lv_iload hx hb dX9_joinsTwo_89 (lv_at hl 4 rfl) ?_
          refine lv_iadd hx hb dX9_joinsTwo_91 ?_
          obtain ⟨b14, hf⟩ := gsp hf
          refine ra_ild (k := 47) (i := 0) (n := 72) (f := (gA w 47 0)) C hP (hok.2.1 47 0 (Nat.le_of_ble_eq_true rfl)) rfl b14 dX9_joinsTwo_92 ?_
          refine lv_aload_n hx hb dX9_joinsTwo_93 rfl (lv_at hl 0 rfl) ?_
          refine gt_9_29 (i := 0) C hP (hok.2.1 9 0 (Nat.le_of_ble_eq_true rfl)) lk_X9_35 dX9_joinsTwo_94 ?_
          refine lv_iconst (v := (3 : Int32)) hx hb dX9_joinsTwo_97 (by decide) ?_
          refine lv_iload_n hx hb dX9_joinsTwo_98 rfl (lv_at hl 2 rfl) ?_
          refine lv_imul hx hb dX9_joinsTwo_99 ?_
          refine lv_iload hx hb dX9_joinsTwo_100 (lv_at hl 4 rfl) ?_
          refine lv_iadd hx hb dX9_joinsTwo_102 ?_
          obtain ⟨b15, hf⟩ := gsp hf
          refine ra_ild (k := 47) (i := 0) (n := 72) (f := (gA w 47 0)) C hP (hok.2.1 47 0 (Nat.le_of_ble_eq_true rfl)) rfl b15 dX9_joinsTwo_103 ?_
          obtain ⟨z16, q17, hf⟩ := bsp hf
          refine kc_V (ci := 9) (i := 0) (As := [.int (gA w 47 0 (((3 : Int32) * v1) + v4).toNatClampNeg), .int (gA w 47 0 (((3 : Int32) * v2) + v4).toNatClampNeg)]) (rest := [.int (gA w 58 0 (gF w 9 39 0).toNatClampNeg), .int (gF w 9 39 0), .ref (ad 58 0)]) hok.2.2 C hP hS hl.1 (hok.2.1 9 0 (Nat.le_of_ble_eq_true rfl)) rfl rfl cw_X9_reasonsOf ml_X9_262 (c_X9_reasonsOf l D ca ad PL Z A hok N w (gA w 47 0 (((3 : Int32) * v1) + v4).toNatClampNeg) (gA w 47 0 (((3 : Int32) * v2) + v4).toNatClampNeg) z16 q17) rfl ⟨rfl, rfl⟩ ⟨Nat.le_of_ble_eq_true rfl, Nat.le_of_ble_eq_true rfl⟩ ⟨Nat.zero_le _, Nat.zero_le _⟩ (Nat.le_of_ble_eq_true rfl) rfl dX9_joinsTwo_104 (fun H locs hP hS => ?_)
          refine lv_ior hx hb dX9_joinsTwo_107 ?_
          refine ra_ist (k := 58) (i := 0) (n := 24) C hok.1 hP hS (hok.2.1 58 0 (Nat.le_of_ble_eq_true rfl)) (fun _ => rfl) b13 dX9_joinsTwo_108 (fun H locs hP hS => ?_)
          refine lv_iinc (v := (v4 + (1 : Int32))) (lv' := [(4, .int (v4 + (1 : Int32))), (0, .ref (ad 9 0)), (1, .int v1), (2, .int v2), (3, .int v3)]) hx hb dX9_joinsTwo_109 hl (k := 4) rfl rfl (by decide) rfl (fun ls hl => ?_)
          refine lv_goto (tgt := 55) hx hb dX9_joinsTwo_112 (by decide) ?_
          exact ih (sA w 58 0 (gF w 9 39 0).toNatClampNeg ((gA w 58 0 (gF w 9 39 0).toNatClampNeg) ||| z16)) (v4 + (1 : Int32)) hf _ _ ls hP hS (lv_sub hl [1, 2, 3, 4, 0] rfl)
  unfold f_X9_joinsTwo at hf
  -- walk
  refine lv_aload_n hx hb dX9_joinsTwo_0 rfl (lv_at hl 0 rfl) ?_
  refine gt_9_40 (i := 0) C hP (hok.2.1 9 0 (Nat.le_of_ble_eq_true rfl)) lk_X9_59 dX9_joinsTwo_1 ?_
  refine lv_aload_n hx hb dX9_joinsTwo_4 rfl (lv_at hl 0 rfl) ?_
  refine gt_9_39 (i := 0) C hP (hok.2.1 9 0 (Nat.le_of_ble_eq_true rfl)) lk_X9_259 dX9_joinsTwo_5 ?_
  refine lv_iload_n hx hb dX9_joinsTwo_8 rfl (lv_at hl 1 rfl) ?_
  obtain ⟨b1, hf⟩ := gsp hf
  refine ra_ist (k := 55) (i := 0) (n := 24) C hok.1 hP hS (hok.2.1 55 0 (Nat.le_of_ble_eq_true rfl)) (fun _ => rfl) b1 dX9_joinsTwo_9 (fun H locs hP hS => ?_)
  refine lv_aload_n hx hb dX9_joinsTwo_10 rfl (lv_at hl 0 rfl) ?_
  refine gt_9_41 (i := 0) C hP (hok.2.1 9 0 (Nat.le_of_ble_eq_true rfl)) lk_X9_62 dX9_joinsTwo_11 ?_
  refine lv_aload_n hx hb dX9_joinsTwo_14 rfl (lv_at hl 0 rfl) ?_
  refine gt_9_39 (i := 0) C hP (hok.2.1 9 0 (Nat.le_of_ble_eq_true rfl)) lk_X9_259 dX9_joinsTwo_15 ?_
  refine lv_iload_n hx hb dX9_joinsTwo_18 rfl (lv_at hl 2 rfl) ?_
  obtain ⟨b2, hf⟩ := gsp hf
  refine ra_ist (k := 56) (i := 0) (n := 24) C hok.1 hP hS (hok.2.1 56 0 (Nat.le_of_ble_eq_true rfl)) (fun _ => rfl) b2 dX9_joinsTwo_19 (fun H locs hP hS => ?_)
  refine lv_aload_n hx hb dX9_joinsTwo_20 rfl (lv_at hl 0 rfl) ?_
  refine gt_9_42 (i := 0) C hP (hok.2.1 9 0 (Nat.le_of_ble_eq_true rfl)) lk_X9_65 dX9_joinsTwo_21 ?_
  refine lv_aload_n hx hb dX9_joinsTwo_24 rfl (lv_at hl 0 rfl) ?_
  refine gt_9_39 (i := 0) C hP (hok.2.1 9 0 (Nat.le_of_ble_eq_true rfl)) lk_X9_259 dX9_joinsTwo_25 ?_
  refine lv_iload_n hx hb dX9_joinsTwo_28 rfl (lv_at hl 3 rfl) ?_
  obtain ⟨b3, hf⟩ := gsp hf
  refine ra_ist (k := 57) (i := 0) (n := 24) C hok.1 hP hS (hok.2.1 57 0 (Nat.le_of_ble_eq_true rfl)) (fun _ => rfl) b3 dX9_joinsTwo_29 (fun H locs hP hS => ?_)
  refine lv_aload_n hx hb dX9_joinsTwo_30 rfl (lv_at hl 0 rfl) ?_
  refine gt_9_43 (i := 0) C hP (hok.2.1 9 0 (Nat.le_of_ble_eq_true rfl)) lk_X9_68 dX9_joinsTwo_31 ?_
  refine lv_aload_n hx hb dX9_joinsTwo_34 rfl (lv_at hl 0 rfl) ?_
  refine gt_9_39 (i := 0) C hP (hok.2.1 9 0 (Nat.le_of_ble_eq_true rfl)) lk_X9_259 dX9_joinsTwo_35 ?_
  refine lv_iload_n hx hb dX9_joinsTwo_38 rfl (lv_at hl 3 rfl) ?_
  refine lv_bipush (v := (-2 : Int32)) hx hb dX9_joinsTwo_39 (by decide) ?_
  refine lv_icmp_eq (tgt := 50) hx hb dX9_joinsTwo_41 (by decide) (fun c22 => ?_) (fun c22 => ?_)
  · have hf := ifp hf c22
    refine lv_iconst (v := (0 : Int32)) hx hb dX9_joinsTwo_50 (by decide) ?_
    obtain ⟨b4, hf⟩ := gsp hf
    refine ra_ist (k := 58) (i := 0) (n := 24) C hok.1 hP hS (hok.2.1 58 0 (Nat.le_of_ble_eq_true rfl)) (fun _ => rfl) b4 dX9_joinsTwo_51 (fun H locs hP hS => ?_)
    refine lv_iconst (v := (0 : Int32)) hx hb dX9_joinsTwo_52 (by decide) ?_
    refine lv_istore (lv' := [(4, .int (0 : Int32)), (0, .ref (ad 9 0)), (1, .int x1), (2, .int x2), (3, .int x3)]) hx hb dX9_joinsTwo_53 hl (by decide) rfl (fun ls hl => ?_)
    exact L_lp_X9_joinsTwo_55 x1 x2 x3 _ (fun w_5 hf H locs ls hP hS hl => P_f_X9_joinsTwo_115 w_5 x1 x2 hf _ _ ls hP hS (lv_sub hl [0, 1, 2] rfl)) N (sA (sA (sA (sA w 55 0 (gF w 9 39 0).toNatClampNeg x1) 56 0 (gF (sA w 55 0 (gF w 9 39 0).toNatClampNeg x1) 9 39 0).toNatClampNeg x2) 57 0 (gF (sA (sA w 55 0 (gF w 9 39 0).toNatClampNeg x1) 56 0 (gF (sA w 55 0 (gF w 9 39 0).toNatClampNeg x1) 9 39 0).toNatClampNeg x2) 9 39 0).toNatClampNeg x3) 58 0 (gF (sA (sA (sA w 55 0 (gF w 9 39 0).toNatClampNeg x1) 56 0 (gF (sA w 55 0 (gF w 9 39 0).toNatClampNeg x1) 9 39 0).toNatClampNeg x2) 57 0 (gF (sA (sA w 55 0 (gF w 9 39 0).toNatClampNeg x1) 56 0 (gF (sA w 55 0 (gF w 9 39 0).toNatClampNeg x1) 9 39 0).toNatClampNeg x2) 9 39 0).toNatClampNeg x3) 9 39 0).toNatClampNeg (0 : Int32)) (0 : Int32) hf _ _ ls hP hS (lv_sub hl [1, 2, 3, 4, 0] rfl)
  · have hf := ifn hf c22
    refine lv_iconst (v := (1 : Int32)) hx hb dX9_joinsTwo_44 (by decide) ?_
    refine lv_iload_n hx hb dX9_joinsTwo_45 rfl (lv_at hl 3 rfl) ?_
    refine lv_ishl hx hb dX9_joinsTwo_46 ?_
    refine lv_goto (tgt := 51) hx hb dX9_joinsTwo_47 (by decide) ?_
    obtain ⟨b20, hf⟩ := gsp hf
    refine ra_ist (k := 58) (i := 0) (n := 24) C hok.1 hP hS (hok.2.1 58 0 (Nat.le_of_ble_eq_true rfl)) (fun _ => rfl) b20 dX9_joinsTwo_51 (fun H locs hP hS => ?_)
    refine lv_iconst (v := (0 : Int32)) hx hb dX9_joinsTwo_52 (by decide) ?_
    refine lv_istore (lv' := [(4, .int (0 : Int32)), (0, .ref (ad 9 0)), (1, .int x1), (2, .int x2), (3, .int x3)]) hx hb dX9_joinsTwo_53 hl (by decide) rfl (fun ls hl => ?_)
    exact L_lp_X9_joinsTwo_55 x1 x2 x3 _ (fun w_21 hf H locs ls hP hS hl => P_f_X9_joinsTwo_115 w_21 x1 x2 hf _ _ ls hP hS (lv_sub hl [0, 1, 2] rfl)) N (sA (sA (sA (sA w 55 0 (gF w 9 39 0).toNatClampNeg x1) 56 0 (gF (sA w 55 0 (gF w 9 39 0).toNatClampNeg x1) 9 39 0).toNatClampNeg x2) 57 0 (gF (sA (sA w 55 0 (gF w 9 39 0).toNatClampNeg x1) 56 0 (gF (sA w 55 0 (gF w 9 39 0).toNatClampNeg x1) 9 39 0).toNatClampNeg x2) 9 39 0).toNatClampNeg x3) 58 0 (gF (sA (sA (sA w 55 0 (gF w 9 39 0).toNatClampNeg x1) 56 0 (gF (sA w 55 0 (gF w 9 39 0).toNatClampNeg x1) 9 39 0).toNatClampNeg x2) 57 0 (gF (sA (sA w 55 0 (gF w 9 39 0).toNatClampNeg x1) 56 0 (gF (sA w 55 0 (gF w 9 39 0).toNatClampNeg x1) 9 39 0).toNatClampNeg x2) 9 39 0).toNatClampNeg x3) 9 39 0).toNatClampNeg ((1 : Int32) <<< (x3 &&& 31))) (0 : Int32) hf _ _ ls hP hS (lv_sub hl [1, 2, 3, 4, 0] rfl)
def f_X9_joinsNext_72 (N : Nat) (w : Mem)  : Option (Mem × Int32) :=
  some (w, (0 : Int32))
def f_X9_joinsNext_66_2 (rc : Int32 → Option (Mem × Int32)) (k : Option (Mem × Int32)) (N : Nat) (w : Mem)  (v1 : Int32) : Option (Mem × Int32) :=
  (rc (v1 + (1 : Int32)))
def lp_X9_joinsNext_14 (k : Option (Mem × Int32)) (N : Nat) (w : Mem)  (v1 : Int32) : Nat → Int32 → Option (Mem × Int32)
  | 0, _ => none
  | n + 1, v2 => (if (gF w 9 27 0) ≤ v2 then
(k )
else
(if inb v1 24 = true then (if inb v2 24 = true then (if (gA w 52 0 v1.toNatClampNeg) = (gA w 52 0 v2.toNatClampNeg) then
(lp_X9_joinsNext_14 k N w  v1 n (v2 + (1 : Int32)))
else
(Option.bind (f_X9_isAlike N w 52 v1 v2) (fun z5 => (if z5 = (0 : Int32) then
(lp_X9_joinsNext_14 k N w  v1 n (v2 + (1 : Int32)))
else
(Option.bind (f_X9_joinsTwo N w v1 v2 (-2 : Int32)) (fun z7 => some (z7, (1 : Int32)))))))) else none) else none))
def lp_X9_joinsNext_2 (k : Option (Mem × Int32)) (N : Nat) (w : Mem)  : Nat → Int32 → Option (Mem × Int32)
  | 0, _ => none
  | n + 1, v1 => (if (gF w 9 27 0) ≤ v1 then
(k )
else
(lp_X9_joinsNext_14 (f_X9_joinsNext_66_2 (fun (v1 : Int32) => lp_X9_joinsNext_2 k N w   n v1) k N w  v1 ) N w  v1 N (v1 + (1 : Int32))))
def f_X9_joinsNext (N : Nat) (w : Mem)  : Option (Mem × Int32) :=
  (lp_X9_joinsNext_2 (f_X9_joinsNext_72 N w   ) N w   N (0 : Int32))
set_option maxRecDepth 100000 in
set_option maxHeartbeats 4000000 in
theorem c_X9_joinsNext (l : Launch) (D : va_G) (ca : Nat → ClassId) (ad : Nat → Nat → Nat) (PL : List (Nat × Nat)) (Z : State → Prop) (A : Nat → Prop) (hok : okc bM Z A ad PL) (N : Nat) (w : Mem)  (w' : Mem) (r : Int32) (hf : f_X9_joinsNext N w  = some (w', r)) : CT l yX9_joinsNext (wsy yX9_joinsNext cX9_joinsNext 3 (some .boolean)) (rmk 3) D ca ad PL Z A [.ref (ad 9 0)] w w' (some (.int r)) := by
  refine Met.ofW (cc := cX9_joinsNext) (maxL := 3) (ret := (some .boolean)) (by decide +kernel) rfl ?_
  intro p e s m args below meth c s₁ B hml hv
  obtain ⟨rfl, hP, hK, hZ⟩ := hv
  have hx := B.exec
  have hb := B.bytes
  have hr := B.returns
  have hlocks := B.notSynchronized
  have hts : ∀ w ∈ ALL, w.before _ s = true := fun w hw => atoms_spec (ws := wsy yX9_joinsNext cX9_joinsNext 3 (some .boolean)) B.pre w (List.mem_cons_of_mem _ hw)
  have hown : s.vm.findClass RX9 = some m.cls := findClass_of_methodNamed B.named
  have C : CX p s m _ c cX9_joinsNext RX9 3 D ca Z := ⟨hx, hb, hml, hown, hts, hK, hZ⟩
  have hS : va_S A s.heap s.heap [] := va_S.rf
  have hl := lv_entry ([.ref (ad 9 0)]) (n := 3) (Nat.le_of_ble_eq_true rfl)
  rw [lg_entry_eq]
  generalize (lg_sl ([.ref (ad 9 0)]) ++ List.replicate (3 - (lg_sl ([.ref (ad 9 0)])).length) Slot.unset).toArray = ls at hl ⊢
  have hl : lv_has ls 3 [(0, .ref (ad 9 0))] := hl
  show W p l e (rmk 3) s m _ below meth c s.heap [] 0 0 _ _
  have P_f_X9_joinsNext_72 : ∀ (w : Mem), f_X9_joinsNext_72 N w    = some (w', r) → WP p l e (rmk 3) s m [.ref (ad 9 0)].toArray below meth c D ca ad PL A (MQ below (qcR D ca ad PL Z A w' (some (.int r))) [.ref (ad 9 0)].toArray s 0 0 A) 3 72 [] [] w := by
    intro w hf _ _ ls hP hS hl
    unfold f_X9_joinsNext_72 at hf
    refine lv_iconst (v := (0 : Int32)) hx hb dX9_joinsNext_72 (by decide) ?_
    exact kr_i hok.2.2 C hlocks hr rfl hP hS (congrArg Prod.fst (Option.some.inj hf)) (congrArg Prod.snd (Option.some.inj hf)) dX9_joinsNext_73
  have P_f_X9_joinsNext_66_2 : ∀ (w : Mem) (rc : Int32 → Option (Mem × Int32)) (hrc : ∀ (v1 : Int32), rc v1 = some (w', r) → WP p l e (rmk 3) s m [.ref (ad 9 0)].toArray below meth c D ca ad PL A (MQ below (qcR D ca ad PL Z A w' (some (.int r))) [.ref (ad 9 0)].toArray s 0 0 A) 3 2 [] [(0, .ref (ad 9 0)), (1, .int v1)] w) (k : Option (Mem × Int32)) (hk : k = some (w', r) → WP p l e (rmk 3) s m [.ref (ad 9 0)].toArray below meth c D ca ad PL A (MQ below (qcR D ca ad PL Z A w' (some (.int r))) [.ref (ad 9 0)].toArray s 0 0 A) 3 72 [] [] w) (v1 : Int32), f_X9_joinsNext_66_2 rc k N w  v1  = some (w', r) → WP p l e (rmk 3) s m [.ref (ad 9 0)].toArray below meth c D ca ad PL A (MQ below (qcR D ca ad PL Z A w' (some (.int r))) [.ref (ad 9 0)].toArray s 0 0 A) 3 66 [] [(0, .ref (ad 9 0)), (1, .int v1)] w := by
    intro w rc hrc k hk v1 hf _ _ ls hP hS hl
    unfold f_X9_joinsNext_66_2 at hf
    refine lv_iinc (v := (v1 + (1 : Int32))) (lv' := [(1, .int (v1 + (1 : Int32))), (0, .ref (ad 9 0))]) hx hb dX9_joinsNext_66 hl (k := 1) rfl rfl (by decide) rfl (fun ls hl => ?_)
    refine lv_goto (tgt := 2) hx hb dX9_joinsNext_69 (by decide) ?_
    exact hrc (v1 + (1 : Int32)) hf _ _ ls hP hS (lv_sub hl [1, 0] rfl)
  have L_lp_X9_joinsNext_14 : ∀ (w : Mem) (v1 : Int32) (k : Option (Mem × Int32)) (hk : k = some (w', r) → WP p l e (rmk 3) s m [.ref (ad 9 0)].toArray below meth c D ca ad PL A (MQ below (qcR D ca ad PL Z A w' (some (.int r))) [.ref (ad 9 0)].toArray s 0 0 A) 3 66 [] [(0, .ref (ad 9 0)), (1, .int v1)] w) (n : Nat) (v2 : Int32), lp_X9_joinsNext_14 k N w  v1 n v2 = some (w', r) → WP p l e (rmk 3) s m [.ref (ad 9 0)].toArray below meth c D ca ad PL A (MQ below (qcR D ca ad PL Z A w' (some (.int r))) [.ref (ad 9 0)].toArray s 0 0 A) 3 14 [] [(0, .ref (ad 9 0)), (1, .int v1), (2, .int v2)] w := by
    intro w v1 k hk n
    induction n with
    | zero => intro v2 hf; rw [lp_X9_joinsNext_14] at hf; cases hf
    | succ n ih =>
      intro v2 hf _ _ ls hP hS hl
      rw [lp_X9_joinsNext_14] at hf
      refine lv_iload_n hx hb dX9_joinsNext_14 rfl (lv_at hl 2 rfl) ?_
      refine lv_aload_n hx hb dX9_joinsNext_15 rfl (lv_at hl 0 rfl) ?_
      refine gt_9_27 (i := 0) C hP (hok.2.1 9 0 (Nat.le_of_ble_eq_true rfl)) lk_X9_250 dX9_joinsNext_16 ?_
      refine lv_icmp_ge (tgt := 66) hx hb dX9_joinsNext_19 (by decide) (fun c11 => ?_) (fun c11 => ?_)
      · have hf := ifp hf c11
        exact hk  hf _ _ ls hP hS (lv_sub hl [0, 1] rfl)
      · have hf := ifn hf c11
        refine lv_aload_n hx hb dX9_joinsNext_22 rfl (lv_at hl 0 rfl) ?_
        refine gt_9_36 (i := 0) C hP (hok.2.1 9 0 (Nat.le_of_ble_eq_true rfl)) lk_X9_50 dX9_joinsNext_23 ?_
        refine lv_iload_n hx hb dX9_joinsNext_26 rfl (lv_at hl 1 rfl) ?_
        obtain ⟨b3, hf⟩ := gsp hf
        refine ra_ild (k := 52) (i := 0) (n := 24) (f := (gA w 52 0)) C hP (hok.2.1 52 0 (Nat.le_of_ble_eq_true rfl)) rfl b3 dX9_joinsNext_27 ?_
        refine lv_aload_n hx hb dX9_joinsNext_28 rfl (lv_at hl 0 rfl) ?_
        refine gt_9_36 (i := 0) C hP (hok.2.1 9 0 (Nat.le_of_ble_eq_true rfl)) lk_X9_50 dX9_joinsNext_29 ?_
        refine lv_iload_n hx hb dX9_joinsNext_32 rfl (lv_at hl 2 rfl) ?_
        obtain ⟨b4, hf⟩ := gsp hf
        refine ra_ild (k := 52) (i := 0) (n := 24) (f := (gA w 52 0)) C hP (hok.2.1 52 0 (Nat.le_of_ble_eq_true rfl)) rfl b4 dX9_joinsNext_33 ?_
        refine lv_icmp_eq (tgt := 60) hx hb dX9_joinsNext_34 (by decide) (fun c10 => ?_) (fun c10 => ?_)
        · have hf := ifp hf c10
          refine lv_iinc (v := (v2 + (1 : Int32))) (lv' := [(2, .int (v2 + (1 : Int32))), (0, .ref (ad 9 0)), (1, .int v1)]) hx hb dX9_joinsNext_60 hl (k := 2) rfl rfl (by decide) rfl (fun ls hl => ?_)
          refine lv_goto (tgt := 14) hx hb dX9_joinsNext_63 (by decide) ?_
          exact ih (v2 + (1 : Int32)) hf _ _ ls hP hS (lv_sub hl [1, 2, 0] rfl)
        · have hf := ifn hf c10
          refine lv_aload_n hx hb dX9_joinsNext_37 rfl (lv_at hl 0 rfl) ?_
          refine lv_aload_n hx hb dX9_joinsNext_38 rfl (lv_at hl 0 rfl) ?_
          refine gt_9_36 (i := 0) C hP (hok.2.1 9 0 (Nat.le_of_ble_eq_true rfl)) lk_X9_50 dX9_joinsNext_39 ?_
          refine lv_iload_n hx hb dX9_joinsNext_42 rfl (lv_at hl 1 rfl) ?_
          refine lv_iload_n hx hb dX9_joinsNext_43 rfl (lv_at hl 2 rfl) ?_
          obtain ⟨z5, q6, hf⟩ := bsp hf
          refine kc_V (ci := 9) (i := 0) (As := [.ref (ad 52 0), .int v1, .int v2]) (rest := []) hok.2.2 C hP hS hl.1 (hok.2.1 9 0 (Nat.le_of_ble_eq_true rfl)) rfl rfl cw_X9_isAlike ml_X9_273 (c_X9_isAlike l D ca ad PL Z A hok N w 52 (Nat.le_of_ble_eq_true rfl) rfl rfl v1 v2 z5 q6) rfl ⟨rfl, rfl⟩ ⟨Nat.le_of_ble_eq_true rfl, Nat.le_of_ble_eq_true rfl⟩ ⟨Nat.zero_le _, Nat.zero_le _⟩ (Nat.le_of_ble_eq_true rfl) rfl dX9_joinsNext_44 (fun H locs hP hS => ?_)
          refine lv_if_eq (tgt := 60) hx hb dX9_joinsNext_47 (by decide) (fun c9 => ?_) (fun c9 => ?_)
          · have hf := ifp hf c9
            refine lv_iinc (v := (v2 + (1 : Int32))) (lv' := [(2, .int (v2 + (1 : Int32))), (0, .ref (ad 9 0)), (1, .int v1)]) hx hb dX9_joinsNext_60 hl (k := 2) rfl rfl (by decide) rfl (fun ls hl => ?_)
            refine lv_goto (tgt := 14) hx hb dX9_joinsNext_63 (by decide) ?_
            exact ih (v2 + (1 : Int32)) hf _ _ ls hP hS (lv_sub hl [1, 2, 0] rfl)
          · have hf := ifn hf c9
            refine lv_aload_n hx hb dX9_joinsNext_50 rfl (lv_at hl 0 rfl) ?_
            refine lv_iload_n hx hb dX9_joinsNext_51 rfl (lv_at hl 1 rfl) ?_
            refine lv_iload_n hx hb dX9_joinsNext_52 rfl (lv_at hl 2 rfl) ?_
            refine lv_bipush (v := (-2 : Int32)) hx hb dX9_joinsNext_53 (by decide) ?_
            obtain ⟨z7, q8, hf⟩ := bsp hf
            refine kc_V (ci := 9) (i := 0) (As := [.int v1, .int v2, .int (-2 : Int32)]) (rest := []) hok.2.2 C hP hS hl.1 (hok.2.1 9 0 (Nat.le_of_ble_eq_true rfl)) rfl rfl cw_X9_joinsTwo ml_X9_277 (c_X9_joinsTwo l D ca ad PL Z A hok N w v1 v2 (-2 : Int32) z7 q8) rfl ⟨rfl, rfl⟩ ⟨Nat.le_of_ble_eq_true rfl, Nat.le_of_ble_eq_true rfl⟩ ⟨Nat.zero_le _, Nat.zero_le _⟩ (Nat.le_of_ble_eq_true rfl) rfl dX9_joinsNext_55 (fun H locs hP hS => ?_)
            refine lv_iconst (v := (1 : Int32)) hx hb dX9_joinsNext_58 (by decide) ?_
            exact kr_i hok.2.2 C hlocks hr rfl hP hS (congrArg Prod.fst (Option.some.inj hf)) (congrArg Prod.snd (Option.some.inj hf)) dX9_joinsNext_59
  have L_lp_X9_joinsNext_2 : ∀ (w : Mem) (k : Option (Mem × Int32)) (hk : k = some (w', r) → WP p l e (rmk 3) s m [.ref (ad 9 0)].toArray below meth c D ca ad PL A (MQ below (qcR D ca ad PL Z A w' (some (.int r))) [.ref (ad 9 0)].toArray s 0 0 A) 3 72 [] [] w) (n : Nat) (v1 : Int32), lp_X9_joinsNext_2 k N w   n v1 = some (w', r) → WP p l e (rmk 3) s m [.ref (ad 9 0)].toArray below meth c D ca ad PL A (MQ below (qcR D ca ad PL Z A w' (some (.int r))) [.ref (ad 9 0)].toArray s 0 0 A) 3 2 [] [(0, .ref (ad 9 0)), (1, .int v1)] w := by
    intro w k hk n
    induction n with
    | zero => intro v1 hf; rw [lp_X9_joinsNext_2] at hf; cases hf
    | succ n ih =>
      intro v1 hf _ _ ls hP hS hl
      rw [lp_X9_joinsNext_2] at hf
      refine lv_iload_n hx hb dX9_joinsNext_2 rfl (lv_at hl 1 rfl) ?_
      refine lv_aload_n hx hb dX9_joinsNext_3 rfl (lv_at hl 0 rfl) ?_
      refine gt_9_27 (i := 0) C hP (hok.2.1 9 0 (Nat.le_of_ble_eq_true rfl)) lk_X9_250 dX9_joinsNext_4 ?_
      refine lv_icmp_ge (tgt := 72) hx hb dX9_joinsNext_7 (by decide) (fun c12 => ?_) (fun c12 => ?_)
      · have hf := ifp hf c12
        exact hk  hf _ _ ls hP hS (lv_sub hl [] rfl)
      · have hf := ifn hf c12
        refine lv_iload_n hx hb dX9_joinsNext_10 rfl (lv_at hl 1 rfl) ?_
        refine lv_iconst (v := (1 : Int32)) hx hb dX9_joinsNext_11 (by decide) ?_
        refine lv_iadd hx hb dX9_joinsNext_12 ?_
        refine lv_istore_n (lv' := [(2, .int (v1 + (1 : Int32))), (0, .ref (ad 9 0)), (1, .int v1)]) hx hb dX9_joinsNext_13 rfl hl (by decide) rfl (fun ls hl => ?_)
        exact L_lp_X9_joinsNext_14 w v1 _ (fun hf H locs ls hP hS hl => P_f_X9_joinsNext_66_2 w _ ih _ hk v1 hf _ _ ls hP hS (lv_sub hl [0, 1] rfl)) N (v1 + (1 : Int32)) hf _ _ ls hP hS (lv_sub hl [1, 2, 0] rfl)
  unfold f_X9_joinsNext at hf
  -- walk
  refine lv_iconst (v := (0 : Int32)) hx hb dX9_joinsNext_0 (by decide) ?_
  refine lv_istore_n (lv' := [(1, .int (0 : Int32)), (0, .ref (ad 9 0))]) hx hb dX9_joinsNext_1 rfl hl (by decide) rfl (fun ls hl => ?_)
  exact L_lp_X9_joinsNext_2 w _ (fun hf H locs ls hP hS hl => P_f_X9_joinsNext_72 w hf _ _ ls hP hS (lv_sub hl [] rfl)) N (0 : Int32) hf _ _ ls hP hS (lv_sub hl [1, 0] rfl)
def f_X9_closes_15 (N : Nat) (w : Mem)  : Option (Mem) :=
  some w
def lp_X9_closes_0 (k : Mem → Option (Mem)) (N : Nat)  : Nat → Mem → Option (Mem)
  | 0, _ => none
  | n + 1, w => (Option.bind (f_X9_joinsNext N w ) (fun z2 => (if z2.2 = (0 : Int32) then
(k z2.1)
else
(lp_X9_closes_0 k N    n (sF z2.1 9 0 0 (0 : Int32))))))
def f_X9_closes (N : Nat) (w : Mem)  : Option (Mem) :=
  (lp_X9_closes_0 (fun (w_1 : Mem) => (f_X9_closes_15 N w_1   )) N    N w)
set_option maxRecDepth 100000 in
set_option maxHeartbeats 4000000 in
theorem c_X9_closes (l : Launch) (D : va_G) (ca : Nat → ClassId) (ad : Nat → Nat → Nat) (PL : List (Nat × Nat)) (Z : State → Prop) (A : Nat → Prop) (hok : okc bM Z A ad PL) (N : Nat) (w : Mem)  (w' : Mem) (hf : f_X9_closes N w  = some w') : CT l yX9_closes (wsy yX9_closes cX9_closes 1 none) (rmk 4) D ca ad PL Z A [.ref (ad 9 0)] w w' none := by
  refine Met.ofW (cc := cX9_closes) (maxL := 1) (ret := none) (by decide +kernel) rfl ?_
  intro p e s m args below meth c s₁ B hml hv
  obtain ⟨rfl, hP, hK, hZ⟩ := hv
  have hx := B.exec
  have hb := B.bytes
  have hr := B.returns
  have hlocks := B.notSynchronized
  have hts : ∀ w ∈ ALL, w.before _ s = true := fun w hw => atoms_spec (ws := wsy yX9_closes cX9_closes 1 none) B.pre w (List.mem_cons_of_mem _ hw)
  have hown : s.vm.findClass RX9 = some m.cls := findClass_of_methodNamed B.named
  have C : CX p s m _ c cX9_closes RX9 1 D ca Z := ⟨hx, hb, hml, hown, hts, hK, hZ⟩
  have hS : va_S A s.heap s.heap [] := va_S.rf
  have hl := lv_entry ([.ref (ad 9 0)]) (n := 1) (Nat.le_of_ble_eq_true rfl)
  rw [lg_entry_eq]
  generalize (lg_sl ([.ref (ad 9 0)]) ++ List.replicate (1 - (lg_sl ([.ref (ad 9 0)])).length) Slot.unset).toArray = ls at hl ⊢
  have hl : lv_has ls 1 [(0, .ref (ad 9 0))] := hl
  show W p l e (rmk 4) s m _ below meth c s.heap [] 0 0 _ _
  have P_f_X9_closes_15 : ∀ (w : Mem), f_X9_closes_15 N w    = some w' → WP p l e (rmk 4) s m [.ref (ad 9 0)].toArray below meth c D ca ad PL A (MQ below (qcR D ca ad PL Z A w' none) [.ref (ad 9 0)].toArray s 0 0 A) 1 15 [] [] w := by
    intro w hf _ _ ls hP hS hl
    unfold f_X9_closes_15 at hf
    exact kr_v hok.2.2 C hlocks hr hP hS (Option.some.inj hf) dX9_closes_15
  have L_lp_X9_closes_0 : ∀ (k : Mem → Option (Mem)) (hk : ∀ (w : Mem), k w = some w' → WP p l e (rmk 4) s m [.ref (ad 9 0)].toArray below meth c D ca ad PL A (MQ below (qcR D ca ad PL Z A w' none) [.ref (ad 9 0)].toArray s 0 0 A) 1 15 [] [] w) (n : Nat) (w : Mem), lp_X9_closes_0 k N    n w = some w' → WP p l e (rmk 4) s m [.ref (ad 9 0)].toArray below meth c D ca ad PL A (MQ below (qcR D ca ad PL Z A w' none) [.ref (ad 9 0)].toArray s 0 0 A) 1 0 [] [(0, .ref (ad 9 0))] w := by
    intro k hk n
    induction n with
    | zero => intro w hf; rw [lp_X9_closes_0] at hf; cases hf
    | succ n ih =>
      intro w hf _ _ ls hP hS hl
      rw [lp_X9_closes_0] at hf
      refine lv_aload_n hx hb dX9_closes_0 rfl (lv_at hl 0 rfl) ?_
      obtain ⟨z2, q3, hf⟩ := bsp hf
      refine kc_V (ci := 9) (i := 0) (As := []) (rest := []) hok.2.2 C hP hS hl.1 (hok.2.1 9 0 (Nat.le_of_ble_eq_true rfl)) rfl rfl cw_X9_joinsNext ml_X9_281 (c_X9_joinsNext l D ca ad PL Z A hok N w  z2.1 z2.2 q3) rfl ⟨rfl, rfl⟩ ⟨Nat.le_of_ble_eq_true rfl, Nat.le_of_ble_eq_true rfl⟩ ⟨Nat.zero_le _, Nat.zero_le _⟩ (Nat.le_of_ble_eq_true rfl) rfl dX9_closes_1 (fun H locs hP hS => ?_)
      refine lv_if_eq (tgt := 15) hx hb dX9_closes_4 (by decide) (fun c4 => ?_) (fun c4 => ?_)
      · have hf := ifp hf c4
        exact hk z2.1 hf _ _ ls hP hS (lv_sub hl [] rfl)
      · have hf := ifn hf c4
        refine lv_aload_n hx hb dX9_closes_7 rfl (lv_at hl 0 rfl) ?_
        refine lv_iconst (v := (0 : Int32)) hx hb dX9_closes_8 (by decide) ?_
        refine pt_9_0 (i := 0) (v := (0 : Int32)) C hok.1 hP hS (hok.2.1 9 0 (Nat.le_of_ble_eq_true rfl)) lk_X9_103 dX9_closes_9 (fun H locs hP hS => ?_)
        refine lv_goto (tgt := 0) hx hb dX9_closes_12 (by decide) ?_
        exact ih (sF z2.1 9 0 0 (0 : Int32)) hf _ _ ls hP hS (lv_sub hl [0] rfl)
  unfold f_X9_closes at hf
  -- walk
  exact L_lp_X9_closes_0 _ (fun w_1 hf H locs ls hP hS hl => P_f_X9_closes_15 w_1 hf _ _ ls hP hS (lv_sub hl [] rfl)) N w hf _ _ ls hP hS (lv_sub hl [0] rfl)
def f_X9_comesTerm_70 (N : Nat) (w : Mem)  : Option (Mem) :=
  (if inb (gF w 9 27 0) 24 = true then (if inb (gF (sA w 52 0 (gF w 9 27 0).toNatClampNeg (gF w 9 27 0)) 9 27 0) 24 = true then (if inb (gF (sA (sA w 52 0 (gF w 9 27 0).toNatClampNeg (gF w 9 27 0)) 53 0 (gF (sA w 52 0 (gF w 9 27 0).toNatClampNeg (gF w 9 27 0)) 9 27 0).toNatClampNeg (-2 : Int32)) 9 27 0) 24 = true then (Option.bind (f_X9_closes N (sF (sA (sA (sA w 52 0 (gF w 9 27 0).toNatClampNeg (gF w 9 27 0)) 53 0 (gF (sA w 52 0 (gF w 9 27 0).toNatClampNeg (gF w 9 27 0)) 9 27 0).toNatClampNeg (-2 : Int32)) 54 0 (gF (sA (sA w 52 0 (gF w 9 27 0).toNatClampNeg (gF w 9 27 0)) 53 0 (gF (sA w 52 0 (gF w 9 27 0).toNatClampNeg (gF w 9 27 0)) 9 27 0).toNatClampNeg (-2 : Int32)) 9 27 0).toNatClampNeg (-1 : Int32)) 9 27 0 ((gF (sA (sA (sA w 52 0 (gF w 9 27 0).toNatClampNeg (gF w 9 27 0)) 53 0 (gF (sA w 52 0 (gF w 9 27 0).toNatClampNeg (gF w 9 27 0)) 9 27 0).toNatClampNeg (-2 : Int32)) 54 0 (gF (sA (sA w 52 0 (gF w 9 27 0).toNatClampNeg (gF w 9 27 0)) 53 0 (gF (sA w 52 0 (gF w 9 27 0).toNatClampNeg (gF w 9 27 0)) 9 27 0).toNatClampNeg (-2 : Int32)) 9 27 0).toNatClampNeg (-1 : Int32)) 9 27 0) + (1 : Int32))) ) (fun z7 => some z7)) else none) else none) else none)
def lp_X9_comesTerm_17 (k : Mem → Option (Mem)) (N : Nat)  (v1 : Int32) : Nat → Mem → Int32 → Option (Mem)
  | 0, _, _ => none
  | n + 1, w, v2 => (if (3 : Int32) ≤ v2 then
(k w)
else
(if inb v1 384 = true then (if inb (gA w 43 0 v1.toNatClampNeg) 16 = true then (if (gA w 41 0 (gA w 43 0 v1.toNatClampNeg).toNatClampNeg) ≤ v2 then
(if inb (((3 : Int32) * (gF w 9 27 0)) + v2) 72 = true then (lp_X9_comesTerm_17 k N   v1 n (sA w 47 0 (((3 : Int32) * (gF w 9 27 0)) + v2).toNatClampNeg (0 : Int32)) (v2 + (1 : Int32))) else none)
else
(if inb ((v1 + (1 : Int32)) + v2) 384 = true then (if inb (((3 : Int32) * (gF w 9 27 0)) + v2) 72 = true then (lp_X9_comesTerm_17 k N   v1 n (sA w 47 0 (((3 : Int32) * (gF w 9 27 0)) + v2).toNatClampNeg (gA w 43 0 ((v1 + (1 : Int32)) + v2).toNatClampNeg)) (v2 + (1 : Int32))) else none) else none)) else none) else none))
def f_X9_comesTerm (N : Nat) (w : Mem) (x1 : Int32) : Option (Mem) :=
  (if inb x1 384 = true then (if inb (gF w 9 27 0) 24 = true then (lp_X9_comesTerm_17 (fun (w_3 : Mem) => (f_X9_comesTerm_70 N w_3   )) N   x1 N (sA w 46 0 (gF w 9 27 0).toNatClampNeg (gA w 43 0 x1.toNatClampNeg)) (0 : Int32)) else none) else none)
set_option maxRecDepth 100000 in
set_option maxHeartbeats 4000000 in
theorem c_X9_comesTerm (l : Launch) (D : va_G) (ca : Nat → ClassId) (ad : Nat → Nat → Nat) (PL : List (Nat × Nat)) (Z : State → Prop) (A : Nat → Prop) (hok : okc bM Z A ad PL) (N : Nat) (w : Mem) (x1 : Int32) (w' : Mem) (hf : f_X9_comesTerm N w x1 = some w') : CT l yX9_comesTerm (wsy yX9_comesTerm cX9_comesTerm 3 none) (rmk 5) D ca ad PL Z A [.ref (ad 9 0), .int x1] w w' none := by
  refine Met.ofW (cc := cX9_comesTerm) (maxL := 3) (ret := none) (by decide +kernel) rfl ?_
  intro p e s m args below meth c s₁ B hml hv
  obtain ⟨rfl, hP, hK, hZ⟩ := hv
  have hx := B.exec
  have hb := B.bytes
  have hr := B.returns
  have hlocks := B.notSynchronized
  have hts : ∀ w ∈ ALL, w.before _ s = true := fun w hw => atoms_spec (ws := wsy yX9_comesTerm cX9_comesTerm 3 none) B.pre w (List.mem_cons_of_mem _ hw)
  have hown : s.vm.findClass RX9 = some m.cls := findClass_of_methodNamed B.named
  have C : CX p s m _ c cX9_comesTerm RX9 3 D ca Z := ⟨hx, hb, hml, hown, hts, hK, hZ⟩
  have hS : va_S A s.heap s.heap [] := va_S.rf
  have hl := lv_entry ([.ref (ad 9 0), .int x1]) (n := 3) (Nat.le_of_ble_eq_true rfl)
  rw [lg_entry_eq]
  generalize (lg_sl ([.ref (ad 9 0), .int x1]) ++ List.replicate (3 - (lg_sl ([.ref (ad 9 0), .int x1])).length) Slot.unset).toArray = ls at hl ⊢
  have hl : lv_has ls 3 [(0, .ref (ad 9 0)), (1, .int x1)] := hl
  show W p l e (rmk 5) s m _ below meth c s.heap [] 0 0 _ _
  have P_f_X9_comesTerm_70 : ∀ (w : Mem), f_X9_comesTerm_70 N w    = some w' → WP p l e (rmk 5) s m [.ref (ad 9 0), .int x1].toArray below meth c D ca ad PL A (MQ below (qcR D ca ad PL Z A w' none) [.ref (ad 9 0), .int x1].toArray s 0 0 A) 3 70 [] [(0, .ref (ad 9 0))] w := by
    intro w hf _ _ ls hP hS hl
    unfold f_X9_comesTerm_70 at hf
    refine lv_aload_n hx hb dX9_comesTerm_70 rfl (lv_at hl 0 rfl) ?_
    refine gt_9_36 (i := 0) C hP (hok.2.1 9 0 (Nat.le_of_ble_eq_true rfl)) lk_X9_50 dX9_comesTerm_71 ?_
    refine lv_aload_n hx hb dX9_comesTerm_74 rfl (lv_at hl 0 rfl) ?_
    refine gt_9_27 (i := 0) C hP (hok.2.1 9 0 (Nat.le_of_ble_eq_true rfl)) lk_X9_250 dX9_comesTerm_75 ?_
    refine lv_aload_n hx hb dX9_comesTerm_78 rfl (lv_at hl 0 rfl) ?_
    refine gt_9_27 (i := 0) C hP (hok.2.1 9 0 (Nat.le_of_ble_eq_true rfl)) lk_X9_250 dX9_comesTerm_79 ?_
    obtain ⟨b4, hf⟩ := gsp hf
    refine ra_ist (k := 52) (i := 0) (n := 24) C hok.1 hP hS (hok.2.1 52 0 (Nat.le_of_ble_eq_true rfl)) (fun _ => rfl) b4 dX9_comesTerm_82 (fun H locs hP hS => ?_)
    refine lv_aload_n hx hb dX9_comesTerm_83 rfl (lv_at hl 0 rfl) ?_
    refine gt_9_37 (i := 0) C hP (hok.2.1 9 0 (Nat.le_of_ble_eq_true rfl)) lk_X9_53 dX9_comesTerm_84 ?_
    refine lv_aload_n hx hb dX9_comesTerm_87 rfl (lv_at hl 0 rfl) ?_
    refine gt_9_27 (i := 0) C hP (hok.2.1 9 0 (Nat.le_of_ble_eq_true rfl)) lk_X9_250 dX9_comesTerm_88 ?_
    refine lv_bipush (v := (-2 : Int32)) hx hb dX9_comesTerm_91 (by decide) ?_
    obtain ⟨b5, hf⟩ := gsp hf
    refine ra_ist (k := 53) (i := 0) (n := 24) C hok.1 hP hS (hok.2.1 53 0 (Nat.le_of_ble_eq_true rfl)) (fun _ => rfl) b5 dX9_comesTerm_93 (fun H locs hP hS => ?_)
    refine lv_aload_n hx hb dX9_comesTerm_94 rfl (lv_at hl 0 rfl) ?_
    refine gt_9_38 (i := 0) C hP (hok.2.1 9 0 (Nat.le_of_ble_eq_true rfl)) lk_X9_56 dX9_comesTerm_95 ?_
    refine lv_aload_n hx hb dX9_comesTerm_98 rfl (lv_at hl 0 rfl) ?_
    refine gt_9_27 (i := 0) C hP (hok.2.1 9 0 (Nat.le_of_ble_eq_true rfl)) lk_X9_250 dX9_comesTerm_99 ?_
    refine lv_iconst (v := (-1 : Int32)) hx hb dX9_comesTerm_102 (by decide) ?_
    obtain ⟨b6, hf⟩ := gsp hf
    refine ra_ist (k := 54) (i := 0) (n := 24) C hok.1 hP hS (hok.2.1 54 0 (Nat.le_of_ble_eq_true rfl)) (fun _ => rfl) b6 dX9_comesTerm_103 (fun H locs hP hS => ?_)
    refine lv_aload_n hx hb dX9_comesTerm_104 rfl (lv_at hl 0 rfl) ?_
    refine lv_dup hx hb dX9_comesTerm_105 rfl ?_
    refine gt_9_27 (i := 0) C hP (hok.2.1 9 0 (Nat.le_of_ble_eq_true rfl)) lk_X9_250 dX9_comesTerm_106 ?_
    refine lv_iconst (v := (1 : Int32)) hx hb dX9_comesTerm_109 (by decide) ?_
    refine lv_iadd hx hb dX9_comesTerm_110 ?_
    refine pt_9_27 (i := 0) (v := ((gF (sA (sA (sA w 52 0 (gF w 9 27 0).toNatClampNeg (gF w 9 27 0)) 53 0 (gF (sA w 52 0 (gF w 9 27 0).toNatClampNeg (gF w 9 27 0)) 9 27 0).toNatClampNeg (-2 : Int32)) 54 0 (gF (sA (sA w 52 0 (gF w 9 27 0).toNatClampNeg (gF w 9 27 0)) 53 0 (gF (sA w 52 0 (gF w 9 27 0).toNatClampNeg (gF w 9 27 0)) 9 27 0).toNatClampNeg (-2 : Int32)) 9 27 0).toNatClampNeg (-1 : Int32)) 9 27 0) + (1 : Int32))) C hok.1 hP hS (hok.2.1 9 0 (Nat.le_of_ble_eq_true rfl)) lk_X9_250 dX9_comesTerm_111 (fun H locs hP hS => ?_)
    refine lv_aload_n hx hb dX9_comesTerm_114 rfl (lv_at hl 0 rfl) ?_
    obtain ⟨z7, q8, hf⟩ := bsp hf
    refine kc_V (ci := 9) (i := 0) (As := []) (rest := []) hok.2.2 C hP hS hl.1 (hok.2.1 9 0 (Nat.le_of_ble_eq_true rfl)) rfl rfl cw_X9_closes ml_X9_284 (c_X9_closes l D ca ad PL Z A hok N (sF (sA (sA (sA w 52 0 (gF w 9 27 0).toNatClampNeg (gF w 9 27 0)) 53 0 (gF (sA w 52 0 (gF w 9 27 0).toNatClampNeg (gF w 9 27 0)) 9 27 0).toNatClampNeg (-2 : Int32)) 54 0 (gF (sA (sA w 52 0 (gF w 9 27 0).toNatClampNeg (gF w 9 27 0)) 53 0 (gF (sA w 52 0 (gF w 9 27 0).toNatClampNeg (gF w 9 27 0)) 9 27 0).toNatClampNeg (-2 : Int32)) 9 27 0).toNatClampNeg (-1 : Int32)) 9 27 0 ((gF (sA (sA (sA w 52 0 (gF w 9 27 0).toNatClampNeg (gF w 9 27 0)) 53 0 (gF (sA w 52 0 (gF w 9 27 0).toNatClampNeg (gF w 9 27 0)) 9 27 0).toNatClampNeg (-2 : Int32)) 54 0 (gF (sA (sA w 52 0 (gF w 9 27 0).toNatClampNeg (gF w 9 27 0)) 53 0 (gF (sA w 52 0 (gF w 9 27 0).toNatClampNeg (gF w 9 27 0)) 9 27 0).toNatClampNeg (-2 : Int32)) 9 27 0).toNatClampNeg (-1 : Int32)) 9 27 0) + (1 : Int32)))  z7 q8) rfl ⟨rfl, rfl⟩ ⟨Nat.le_of_ble_eq_true rfl, Nat.le_of_ble_eq_true rfl⟩ ⟨Nat.zero_le _, Nat.zero_le _⟩ (Nat.le_of_ble_eq_true rfl) rfl dX9_comesTerm_115 (fun H locs hP hS => ?_)
    exact kr_v hok.2.2 C hlocks hr hP hS (Option.some.inj hf) dX9_comesTerm_118
  have L_lp_X9_comesTerm_17 : ∀ (v1 : Int32) (k : Mem → Option (Mem)) (hk : ∀ (w : Mem), k w = some w' → WP p l e (rmk 5) s m [.ref (ad 9 0), .int x1].toArray below meth c D ca ad PL A (MQ below (qcR D ca ad PL Z A w' none) [.ref (ad 9 0), .int x1].toArray s 0 0 A) 3 70 [] [(0, .ref (ad 9 0))] w) (n : Nat) (w : Mem) (v2 : Int32), lp_X9_comesTerm_17 k N   v1 n w v2 = some w' → WP p l e (rmk 5) s m [.ref (ad 9 0), .int x1].toArray below meth c D ca ad PL A (MQ below (qcR D ca ad PL Z A w' none) [.ref (ad 9 0), .int x1].toArray s 0 0 A) 3 17 [] [(0, .ref (ad 9 0)), (1, .int v1), (2, .int v2)] w := by
    intro v1 k hk n
    induction n with
    | zero => intro w v2 hf; rw [lp_X9_comesTerm_17] at hf; cases hf
    | succ n ih =>
      intro w v2 hf _ _ ls hP hS hl
      rw [lp_X9_comesTerm_17] at hf
      refine lv_iload_n hx hb dX9_comesTerm_17 rfl (lv_at hl 2 rfl) ?_
      refine lv_iconst (v := (3 : Int32)) hx hb dX9_comesTerm_18 (by decide) ?_
      refine lv_icmp_ge (tgt := 70) hx hb dX9_comesTerm_19 (by decide) (fun c15 => ?_) (fun c15 => ?_)
      · have hf := ifp hf c15
        exact hk w hf _ _ ls hP hS (lv_sub hl [0] rfl)
      · have hf := ifn hf c15
        refine lv_aload_n hx hb dX9_comesTerm_22 rfl (lv_at hl 0 rfl) ?_
        refine gt_9_29 (i := 0) C hP (hok.2.1 9 0 (Nat.le_of_ble_eq_true rfl)) lk_X9_35 dX9_comesTerm_23 ?_
        refine lv_iconst (v := (3 : Int32)) hx hb dX9_comesTerm_26 (by decide) ?_
        refine lv_aload_n hx hb dX9_comesTerm_27 rfl (lv_at hl 0 rfl) ?_
        refine gt_9_27 (i := 0) C hP (hok.2.1 9 0 (Nat.le_of_ble_eq_true rfl)) lk_X9_250 dX9_comesTerm_28 ?_
        refine lv_imul hx hb dX9_comesTerm_31 ?_
        refine lv_iload_n hx hb dX9_comesTerm_32 rfl (lv_at hl 2 rfl) ?_
        refine lv_iadd hx hb dX9_comesTerm_33 ?_
        refine lv_iload_n hx hb dX9_comesTerm_34 rfl (lv_at hl 2 rfl) ?_
        refine lv_aload_n hx hb dX9_comesTerm_35 rfl (lv_at hl 0 rfl) ?_
        refine gt_9_7 (i := 0) C hP (hok.2.1 9 0 (Nat.le_of_ble_eq_true rfl)) lk_X9_17 dX9_comesTerm_36 ?_
        refine lv_aload_n hx hb dX9_comesTerm_39 rfl (lv_at hl 0 rfl) ?_
        refine gt_9_11 (i := 0) C hP (hok.2.1 9 0 (Nat.le_of_ble_eq_true rfl)) lk_X9_23 dX9_comesTerm_40 ?_
        refine lv_iload_n hx hb dX9_comesTerm_43 rfl (lv_at hl 1 rfl) ?_
        obtain ⟨b9, hf⟩ := gsp hf
        refine ra_ild (k := 43) (i := 0) (n := 384) (f := (gA w 43 0)) C hP (hok.2.1 43 0 (Nat.le_of_ble_eq_true rfl)) rfl b9 dX9_comesTerm_44 ?_
        obtain ⟨b10, hf⟩ := gsp hf
        refine ra_ild (k := 41) (i := 0) (n := 16) (f := (gA w 41 0)) C hP (hok.2.1 41 0 (Nat.le_of_ble_eq_true rfl)) rfl b10 dX9_comesTerm_45 ?_
        refine lv_icmp_ge (tgt := 62) hx hb dX9_comesTerm_46 (by decide) (fun c14 => ?_) (fun c14 => ?_)
        · have hf := ifp hf c14
          refine lv_iconst (v := (0 : Int32)) hx hb dX9_comesTerm_62 (by decide) ?_
          obtain ⟨b11, hf⟩ := gsp hf
          refine ra_ist (k := 47) (i := 0) (n := 72) C hok.1 hP hS (hok.2.1 47 0 (Nat.le_of_ble_eq_true rfl)) (fun _ => rfl) b11 dX9_comesTerm_63 (fun H locs hP hS => ?_)
          refine lv_iinc (v := (v2 + (1 : Int32))) (lv' := [(2, .int (v2 + (1 : Int32))), (0, .ref (ad 9 0)), (1, .int v1)]) hx hb dX9_comesTerm_64 hl (k := 2) rfl rfl (by decide) rfl (fun ls hl => ?_)
          refine lv_goto (tgt := 17) hx hb dX9_comesTerm_67 (by decide) ?_
          exact ih (sA w 47 0 (((3 : Int32) * (gF w 9 27 0)) + v2).toNatClampNeg (0 : Int32)) (v2 + (1 : Int32)) hf _ _ ls hP hS (lv_sub hl [1, 2, 0] rfl)
        · have hf := ifn hf c14
          refine lv_aload_n hx hb dX9_comesTerm_49 rfl (lv_at hl 0 rfl) ?_
          refine gt_9_11 (i := 0) C hP (hok.2.1 9 0 (Nat.le_of_ble_eq_true rfl)) lk_X9_23 dX9_comesTerm_50 ?_
          refine lv_iload_n hx hb dX9_comesTerm_53 rfl (lv_at hl 1 rfl) ?_
          refine lv_iconst (v := (1 : Int32)) hx hb dX9_comesTerm_54 (by decide) ?_
          refine lv_iadd hx hb dX9_comesTerm_55 ?_
          refine lv_iload_n hx hb dX9_comesTerm_56 rfl (lv_at hl 2 rfl) ?_
          refine lv_iadd hx hb dX9_comesTerm_57 ?_
          obtain ⟨b12, hf⟩ := gsp hf
          refine ra_ild (k := 43) (i := 0) (n := 384) (f := (gA w 43 0)) C hP (hok.2.1 43 0 (Nat.le_of_ble_eq_true rfl)) rfl b12 dX9_comesTerm_58 ?_
          refine lv_goto (tgt := 63) hx hb dX9_comesTerm_59 (by decide) ?_
          obtain ⟨b13, hf⟩ := gsp hf
          refine ra_ist (k := 47) (i := 0) (n := 72) C hok.1 hP hS (hok.2.1 47 0 (Nat.le_of_ble_eq_true rfl)) (fun _ => rfl) b13 dX9_comesTerm_63 (fun H locs hP hS => ?_)
          refine lv_iinc (v := (v2 + (1 : Int32))) (lv' := [(2, .int (v2 + (1 : Int32))), (0, .ref (ad 9 0)), (1, .int v1)]) hx hb dX9_comesTerm_64 hl (k := 2) rfl rfl (by decide) rfl (fun ls hl => ?_)
          refine lv_goto (tgt := 17) hx hb dX9_comesTerm_67 (by decide) ?_
          exact ih (sA w 47 0 (((3 : Int32) * (gF w 9 27 0)) + v2).toNatClampNeg (gA w 43 0 ((v1 + (1 : Int32)) + v2).toNatClampNeg)) (v2 + (1 : Int32)) hf _ _ ls hP hS (lv_sub hl [1, 2, 0] rfl)
  unfold f_X9_comesTerm at hf
  -- walk
  refine lv_aload_n hx hb dX9_comesTerm_0 rfl (lv_at hl 0 rfl) ?_
  refine gt_9_28 (i := 0) C hP (hok.2.1 9 0 (Nat.le_of_ble_eq_true rfl)) lk_X9_32 dX9_comesTerm_1 ?_
  refine lv_aload_n hx hb dX9_comesTerm_4 rfl (lv_at hl 0 rfl) ?_
  refine gt_9_27 (i := 0) C hP (hok.2.1 9 0 (Nat.le_of_ble_eq_true rfl)) lk_X9_250 dX9_comesTerm_5 ?_
  refine lv_aload_n hx hb dX9_comesTerm_8 rfl (lv_at hl 0 rfl) ?_
  refine gt_9_11 (i := 0) C hP (hok.2.1 9 0 (Nat.le_of_ble_eq_true rfl)) lk_X9_23 dX9_comesTerm_9 ?_
  refine lv_iload_n hx hb dX9_comesTerm_12 rfl (lv_at hl 1 rfl) ?_
  obtain ⟨b1, hf⟩ := gsp hf
  refine ra_ild (k := 43) (i := 0) (n := 384) (f := (gA w 43 0)) C hP (hok.2.1 43 0 (Nat.le_of_ble_eq_true rfl)) rfl b1 dX9_comesTerm_13 ?_
  obtain ⟨b2, hf⟩ := gsp hf
  refine ra_ist (k := 46) (i := 0) (n := 24) C hok.1 hP hS (hok.2.1 46 0 (Nat.le_of_ble_eq_true rfl)) (fun _ => rfl) b2 dX9_comesTerm_14 (fun H locs hP hS => ?_)
  refine lv_iconst (v := (0 : Int32)) hx hb dX9_comesTerm_15 (by decide) ?_
  refine lv_istore_n (lv' := [(2, .int (0 : Int32)), (0, .ref (ad 9 0)), (1, .int x1)]) hx hb dX9_comesTerm_16 rfl hl (by decide) rfl (fun ls hl => ?_)
  exact L_lp_X9_comesTerm_17 x1 _ (fun w_3 hf H locs ls hP hS hl => P_f_X9_comesTerm_70 w_3 hf _ _ ls hP hS (lv_sub hl [0] rfl)) N (sA w 46 0 (gF w 9 27 0).toNatClampNeg (gA w 43 0 x1.toNatClampNeg)) (0 : Int32) hf _ _ ls hP hS (lv_sub hl [1, 2, 0] rfl)
def f_X9_comesSame (N : Nat) (w : Mem) (x1 : Int32) (x2 : Int32) : Option (Mem) :=
  (if inb (gF w 9 30 0) 13 = true then (if inb (gF (sA w 48 0 (gF w 9 30 0).toNatClampNeg x1) 9 30 0) 13 = true then (if inb x1 24 = true then (if inb x2 24 = true then (if (gA (sF (sA (sA w 48 0 (gF w 9 30 0).toNatClampNeg x1) 49 0 (gF (sA w 48 0 (gF w 9 30 0).toNatClampNeg x1) 9 30 0).toNatClampNeg x2) 9 30 0 ((gF (sA (sA w 48 0 (gF w 9 30 0).toNatClampNeg x1) 49 0 (gF (sA w 48 0 (gF w 9 30 0).toNatClampNeg x1) 9 30 0).toNatClampNeg x2) 9 30 0) + (1 : Int32))) 52 0 x1.toNatClampNeg) = (gA (sF (sA (sA w 48 0 (gF w 9 30 0).toNatClampNeg x1) 49 0 (gF (sA w 48 0 (gF w 9 30 0).toNatClampNeg x1) 9 30 0).toNatClampNeg x2) 9 30 0 ((gF (sA (sA w 48 0 (gF w 9 30 0).toNatClampNeg x1) 49 0 (gF (sA w 48 0 (gF w 9 30 0).toNatClampNeg x1) 9 30 0).toNatClampNeg x2) 9 30 0) + (1 : Int32))) 52 0 x2.toNatClampNeg) then
some (sF (sA (sA w 48 0 (gF w 9 30 0).toNatClampNeg x1) 49 0 (gF (sA w 48 0 (gF w 9 30 0).toNatClampNeg x1) 9 30 0).toNatClampNeg x2) 9 30 0 ((gF (sA (sA w 48 0 (gF w 9 30 0).toNatClampNeg x1) 49 0 (gF (sA w 48 0 (gF w 9 30 0).toNatClampNeg x1) 9 30 0).toNatClampNeg x2) 9 30 0) + (1 : Int32)))
else
(Option.bind (f_X9_joinsTwo N (sF (sA (sA w 48 0 (gF w 9 30 0).toNatClampNeg x1) 49 0 (gF (sA w 48 0 (gF w 9 30 0).toNatClampNeg x1) 9 30 0).toNatClampNeg x2) 9 30 0 ((gF (sA (sA w 48 0 (gF w 9 30 0).toNatClampNeg x1) 49 0 (gF (sA w 48 0 (gF w 9 30 0).toNatClampNeg x1) 9 30 0).toNatClampNeg x2) 9 30 0) + (1 : Int32))) x1 x2 ((gF (sF (sA (sA w 48 0 (gF w 9 30 0).toNatClampNeg x1) 49 0 (gF (sA w 48 0 (gF w 9 30 0).toNatClampNeg x1) 9 30 0).toNatClampNeg x2) 9 30 0 ((gF (sA (sA w 48 0 (gF w 9 30 0).toNatClampNeg x1) 49 0 (gF (sA w 48 0 (gF w 9 30 0).toNatClampNeg x1) 9 30 0).toNatClampNeg x2) 9 30 0) + (1 : Int32))) 9 30 0) - (1 : Int32))) (fun z5 => (Option.bind (f_X9_closes N z5 ) (fun z7 => some z7))))) else none) else none) else none) else none)
set_option maxRecDepth 100000 in
set_option maxHeartbeats 4000000 in
theorem c_X9_comesSame (l : Launch) (D : va_G) (ca : Nat → ClassId) (ad : Nat → Nat → Nat) (PL : List (Nat × Nat)) (Z : State → Prop) (A : Nat → Prop) (hok : okc bM Z A ad PL) (N : Nat) (w : Mem) (x1 : Int32) (x2 : Int32) (w' : Mem) (hf : f_X9_comesSame N w x1 x2 = some w') : CT l yX9_comesSame (wsy yX9_comesSame cX9_comesSame 3 none) (rmk 5) D ca ad PL Z A [.ref (ad 9 0), .int x1, .int x2] w w' none := by
  refine Met.ofW (cc := cX9_comesSame) (maxL := 3) (ret := none) (by decide +kernel) rfl ?_
  intro p e s m args below meth c s₁ B hml hv
  obtain ⟨rfl, hP, hK, hZ⟩ := hv
  have hx := B.exec
  have hb := B.bytes
  have hr := B.returns
  have hlocks := B.notSynchronized
  have hts : ∀ w ∈ ALL, w.before _ s = true := fun w hw => atoms_spec (ws := wsy yX9_comesSame cX9_comesSame 3 none) B.pre w (List.mem_cons_of_mem _ hw)
  have hown : s.vm.findClass RX9 = some m.cls := findClass_of_methodNamed B.named
  have C : CX p s m _ c cX9_comesSame RX9 3 D ca Z := ⟨hx, hb, hml, hown, hts, hK, hZ⟩
  have hS : va_S A s.heap s.heap [] := va_S.rf
  have hl := lv_entry ([.ref (ad 9 0), .int x1, .int x2]) (n := 3) (Nat.le_of_ble_eq_true rfl)
  rw [lg_entry_eq]
  generalize (lg_sl ([.ref (ad 9 0), .int x1, .int x2]) ++ List.replicate (3 - (lg_sl ([.ref (ad 9 0), .int x1, .int x2])).length) Slot.unset).toArray = ls at hl ⊢
  have hl : lv_has ls 3 [(0, .ref (ad 9 0)), (1, .int x1), (2, .int x2)] := hl
  show W p l e (rmk 5) s m _ below meth c s.heap [] 0 0 _ _
  unfold f_X9_comesSame at hf
  -- walk
  refine lv_aload_n hx hb dX9_comesSame_0 rfl (lv_at hl 0 rfl) ?_
  refine gt_9_31 (i := 0) C hP (hok.2.1 9 0 (Nat.le_of_ble_eq_true rfl)) lk_X9_38 dX9_comesSame_1 ?_
  refine lv_aload_n hx hb dX9_comesSame_4 rfl (lv_at hl 0 rfl) ?_
  refine gt_9_30 (i := 0) C hP (hok.2.1 9 0 (Nat.le_of_ble_eq_true rfl)) lk_X9_287 dX9_comesSame_5 ?_
  refine lv_iload_n hx hb dX9_comesSame_8 rfl (lv_at hl 1 rfl) ?_
  obtain ⟨b1, hf⟩ := gsp hf
  refine ra_ist (k := 48) (i := 0) (n := 13) C hok.1 hP hS (hok.2.1 48 0 (Nat.le_of_ble_eq_true rfl)) (fun _ => rfl) b1 dX9_comesSame_9 (fun H locs hP hS => ?_)
  refine lv_aload_n hx hb dX9_comesSame_10 rfl (lv_at hl 0 rfl) ?_
  refine gt_9_32 (i := 0) C hP (hok.2.1 9 0 (Nat.le_of_ble_eq_true rfl)) lk_X9_41 dX9_comesSame_11 ?_
  refine lv_aload_n hx hb dX9_comesSame_14 rfl (lv_at hl 0 rfl) ?_
  refine gt_9_30 (i := 0) C hP (hok.2.1 9 0 (Nat.le_of_ble_eq_true rfl)) lk_X9_287 dX9_comesSame_15 ?_
  refine lv_iload_n hx hb dX9_comesSame_18 rfl (lv_at hl 2 rfl) ?_
  obtain ⟨b2, hf⟩ := gsp hf
  refine ra_ist (k := 49) (i := 0) (n := 13) C hok.1 hP hS (hok.2.1 49 0 (Nat.le_of_ble_eq_true rfl)) (fun _ => rfl) b2 dX9_comesSame_19 (fun H locs hP hS => ?_)
  refine lv_aload_n hx hb dX9_comesSame_20 rfl (lv_at hl 0 rfl) ?_
  refine lv_dup hx hb dX9_comesSame_21 rfl ?_
  refine gt_9_30 (i := 0) C hP (hok.2.1 9 0 (Nat.le_of_ble_eq_true rfl)) lk_X9_287 dX9_comesSame_22 ?_
  refine lv_iconst (v := (1 : Int32)) hx hb dX9_comesSame_25 (by decide) ?_
  refine lv_iadd hx hb dX9_comesSame_26 ?_
  refine pt_9_30 (i := 0) (v := ((gF (sA (sA w 48 0 (gF w 9 30 0).toNatClampNeg x1) 49 0 (gF (sA w 48 0 (gF w 9 30 0).toNatClampNeg x1) 9 30 0).toNatClampNeg x2) 9 30 0) + (1 : Int32))) C hok.1 hP hS (hok.2.1 9 0 (Nat.le_of_ble_eq_true rfl)) lk_X9_287 dX9_comesSame_27 (fun H locs hP hS => ?_)
  refine lv_aload_n hx hb dX9_comesSame_30 rfl (lv_at hl 0 rfl) ?_
  refine gt_9_36 (i := 0) C hP (hok.2.1 9 0 (Nat.le_of_ble_eq_true rfl)) lk_X9_50 dX9_comesSame_31 ?_
  refine lv_iload_n hx hb dX9_comesSame_34 rfl (lv_at hl 1 rfl) ?_
  obtain ⟨b3, hf⟩ := gsp hf
  refine ra_ild (k := 52) (i := 0) (n := 24) (f := (gA (sF (sA (sA w 48 0 (gF w 9 30 0).toNatClampNeg x1) 49 0 (gF (sA w 48 0 (gF w 9 30 0).toNatClampNeg x1) 9 30 0).toNatClampNeg x2) 9 30 0 ((gF (sA (sA w 48 0 (gF w 9 30 0).toNatClampNeg x1) 49 0 (gF (sA w 48 0 (gF w 9 30 0).toNatClampNeg x1) 9 30 0).toNatClampNeg x2) 9 30 0) + (1 : Int32))) 52 0)) C hP (hok.2.1 52 0 (Nat.le_of_ble_eq_true rfl)) rfl b3 dX9_comesSame_35 ?_
  refine lv_aload_n hx hb dX9_comesSame_36 rfl (lv_at hl 0 rfl) ?_
  refine gt_9_36 (i := 0) C hP (hok.2.1 9 0 (Nat.le_of_ble_eq_true rfl)) lk_X9_50 dX9_comesSame_37 ?_
  refine lv_iload_n hx hb dX9_comesSame_40 rfl (lv_at hl 2 rfl) ?_
  obtain ⟨b4, hf⟩ := gsp hf
  refine ra_ild (k := 52) (i := 0) (n := 24) (f := (gA (sF (sA (sA w 48 0 (gF w 9 30 0).toNatClampNeg x1) 49 0 (gF (sA w 48 0 (gF w 9 30 0).toNatClampNeg x1) 9 30 0).toNatClampNeg x2) 9 30 0 ((gF (sA (sA w 48 0 (gF w 9 30 0).toNatClampNeg x1) 49 0 (gF (sA w 48 0 (gF w 9 30 0).toNatClampNeg x1) 9 30 0).toNatClampNeg x2) 9 30 0) + (1 : Int32))) 52 0)) C hP (hok.2.1 52 0 (Nat.le_of_ble_eq_true rfl)) rfl b4 dX9_comesSame_41 ?_
  refine lv_icmp_eq (tgt := 61) hx hb dX9_comesSame_42 (by decide) (fun c9 => ?_) (fun c9 => ?_)
  · have hf := ifp hf c9
    exact kr_v hok.2.2 C hlocks hr hP hS (Option.some.inj hf) dX9_comesSame_61
  · have hf := ifn hf c9
    refine lv_aload_n hx hb dX9_comesSame_45 rfl (lv_at hl 0 rfl) ?_
    refine lv_iload_n hx hb dX9_comesSame_46 rfl (lv_at hl 1 rfl) ?_
    refine lv_iload_n hx hb dX9_comesSame_47 rfl (lv_at hl 2 rfl) ?_
    refine lv_aload_n hx hb dX9_comesSame_48 rfl (lv_at hl 0 rfl) ?_
    refine gt_9_30 (i := 0) C hP (hok.2.1 9 0 (Nat.le_of_ble_eq_true rfl)) lk_X9_287 dX9_comesSame_49 ?_
    refine lv_iconst (v := (1 : Int32)) hx hb dX9_comesSame_52 (by decide) ?_
    refine lv_isub hx hb dX9_comesSame_53 ?_
    obtain ⟨z5, q6, hf⟩ := bsp hf
    refine kc_V (ci := 9) (i := 0) (As := [.int x1, .int x2, .int ((gF (sF (sA (sA w 48 0 (gF w 9 30 0).toNatClampNeg x1) 49 0 (gF (sA w 48 0 (gF w 9 30 0).toNatClampNeg x1) 9 30 0).toNatClampNeg x2) 9 30 0 ((gF (sA (sA w 48 0 (gF w 9 30 0).toNatClampNeg x1) 49 0 (gF (sA w 48 0 (gF w 9 30 0).toNatClampNeg x1) 9 30 0).toNatClampNeg x2) 9 30 0) + (1 : Int32))) 9 30 0) - (1 : Int32))]) (rest := []) hok.2.2 C hP hS hl.1 (hok.2.1 9 0 (Nat.le_of_ble_eq_true rfl)) rfl rfl cw_X9_joinsTwo ml_X9_277 (c_X9_joinsTwo l D ca ad PL Z A hok N (sF (sA (sA w 48 0 (gF w 9 30 0).toNatClampNeg x1) 49 0 (gF (sA w 48 0 (gF w 9 30 0).toNatClampNeg x1) 9 30 0).toNatClampNeg x2) 9 30 0 ((gF (sA (sA w 48 0 (gF w 9 30 0).toNatClampNeg x1) 49 0 (gF (sA w 48 0 (gF w 9 30 0).toNatClampNeg x1) 9 30 0).toNatClampNeg x2) 9 30 0) + (1 : Int32))) x1 x2 ((gF (sF (sA (sA w 48 0 (gF w 9 30 0).toNatClampNeg x1) 49 0 (gF (sA w 48 0 (gF w 9 30 0).toNatClampNeg x1) 9 30 0).toNatClampNeg x2) 9 30 0 ((gF (sA (sA w 48 0 (gF w 9 30 0).toNatClampNeg x1) 49 0 (gF (sA w 48 0 (gF w 9 30 0).toNatClampNeg x1) 9 30 0).toNatClampNeg x2) 9 30 0) + (1 : Int32))) 9 30 0) - (1 : Int32)) z5 q6) rfl ⟨rfl, rfl⟩ ⟨Nat.le_of_ble_eq_true rfl, Nat.le_of_ble_eq_true rfl⟩ ⟨Nat.zero_le _, Nat.zero_le _⟩ (Nat.le_of_ble_eq_true rfl) rfl dX9_comesSame_54 (fun H locs hP hS => ?_)
    refine lv_aload_n hx hb dX9_comesSame_57 rfl (lv_at hl 0 rfl) ?_
    obtain ⟨z7, q8, hf⟩ := bsp hf
    refine kc_V (ci := 9) (i := 0) (As := []) (rest := []) hok.2.2 C hP hS hl.1 (hok.2.1 9 0 (Nat.le_of_ble_eq_true rfl)) rfl rfl cw_X9_closes ml_X9_284 (c_X9_closes l D ca ad PL Z A hok N z5  z7 q8) rfl ⟨rfl, rfl⟩ ⟨Nat.le_of_ble_eq_true rfl, Nat.le_of_ble_eq_true rfl⟩ ⟨Nat.zero_le _, Nat.zero_le _⟩ (Nat.le_of_ble_eq_true rfl) rfl dX9_comesSame_58 (fun H locs hP hS => ?_)
    exact kr_v hok.2.2 C hlocks hr hP hS (Option.some.inj hf) dX9_comesSame_61
def f_X9_comes (N : Nat) (w : Mem) (x1 : Int32) : Option (Mem) :=
  (if inb x1 96 = true then (if (gA w 42 0 x1.toNatClampNeg) = (0 : Int32) then
(Option.bind (f_X9_comesTerm N w ((4 : Int32) * x1)) (fun z11 => some z11))
else
(if (gA w 42 0 x1.toNatClampNeg) = (1 : Int32) then
(if inb ((4 : Int32) * x1) 384 = true then (if inb (((4 : Int32) * x1) + (1 : Int32)) 384 = true then (Option.bind (f_X9_comesSame N w (gA w 43 0 ((4 : Int32) * x1).toNatClampNeg) (gA w 43 0 (((4 : Int32) * x1) + (1 : Int32)).toNatClampNeg)) (fun z8 => some z8)) else none) else none)
else
(if inb ((4 : Int32) * x1) 384 = true then (if inb (gF w 9 33 0) 8 = true then (if inb (((4 : Int32) * x1) + (1 : Int32)) 384 = true then (if inb (gF (sA w 50 0 (gF w 9 33 0).toNatClampNeg (gA w 43 0 ((4 : Int32) * x1).toNatClampNeg)) 9 33 0) 8 = true then some (sF (sA (sA w 50 0 (gF w 9 33 0).toNatClampNeg (gA w 43 0 ((4 : Int32) * x1).toNatClampNeg)) 51 0 (gF (sA w 50 0 (gF w 9 33 0).toNatClampNeg (gA w 43 0 ((4 : Int32) * x1).toNatClampNeg)) 9 33 0).toNatClampNeg (gA (sA w 50 0 (gF w 9 33 0).toNatClampNeg (gA w 43 0 ((4 : Int32) * x1).toNatClampNeg)) 43 0 (((4 : Int32) * x1) + (1 : Int32)).toNatClampNeg)) 9 33 0 ((gF (sA (sA w 50 0 (gF w 9 33 0).toNatClampNeg (gA w 43 0 ((4 : Int32) * x1).toNatClampNeg)) 51 0 (gF (sA w 50 0 (gF w 9 33 0).toNatClampNeg (gA w 43 0 ((4 : Int32) * x1).toNatClampNeg)) 9 33 0).toNatClampNeg (gA (sA w 50 0 (gF w 9 33 0).toNatClampNeg (gA w 43 0 ((4 : Int32) * x1).toNatClampNeg)) 43 0 (((4 : Int32) * x1) + (1 : Int32)).toNatClampNeg)) 9 33 0) + (1 : Int32))) else none) else none) else none) else none))) else none)
set_option maxRecDepth 100000 in
set_option maxHeartbeats 4000000 in
theorem c_X9_comes (l : Launch) (D : va_G) (ca : Nat → ClassId) (ad : Nat → Nat → Nat) (PL : List (Nat × Nat)) (Z : State → Prop) (A : Nat → Prop) (hok : okc bM Z A ad PL) (N : Nat) (w : Mem) (x1 : Int32) (w' : Mem) (hf : f_X9_comes N w x1 = some w') : CT l yX9_comes (wsy yX9_comes cX9_comes 3 none) (rmk 6) D ca ad PL Z A [.ref (ad 9 0), .int x1] w w' none := by
  refine Met.ofW (cc := cX9_comes) (maxL := 3) (ret := none) (by decide +kernel) rfl ?_
  intro p e s m args below meth c s₁ B hml hv
  obtain ⟨rfl, hP, hK, hZ⟩ := hv
  have hx := B.exec
  have hb := B.bytes
  have hr := B.returns
  have hlocks := B.notSynchronized
  have hts : ∀ w ∈ ALL, w.before _ s = true := fun w hw => atoms_spec (ws := wsy yX9_comes cX9_comes 3 none) B.pre w (List.mem_cons_of_mem _ hw)
  have hown : s.vm.findClass RX9 = some m.cls := findClass_of_methodNamed B.named
  have C : CX p s m _ c cX9_comes RX9 3 D ca Z := ⟨hx, hb, hml, hown, hts, hK, hZ⟩
  have hS : va_S A s.heap s.heap [] := va_S.rf
  have hl := lv_entry ([.ref (ad 9 0), .int x1]) (n := 3) (Nat.le_of_ble_eq_true rfl)
  rw [lg_entry_eq]
  generalize (lg_sl ([.ref (ad 9 0), .int x1]) ++ List.replicate (3 - (lg_sl ([.ref (ad 9 0), .int x1])).length) Slot.unset).toArray = ls at hl ⊢
  have hl : lv_has ls 3 [(0, .ref (ad 9 0)), (1, .int x1)] := hl
  show W p l e (rmk 6) s m _ below meth c s.heap [] 0 0 _ _
  unfold f_X9_comes at hf
  -- walk
  refine lv_iconst (v := (4 : Int32)) hx hb dX9_comes_0 (by decide) ?_
  refine lv_iload_n hx hb dX9_comes_1 rfl (lv_at hl 1 rfl) ?_
  refine lv_imul hx hb dX9_comes_2 ?_
  refine lv_istore_n (lv' := [(2, .int ((4 : Int32) * x1)), (0, .ref (ad 9 0)), (1, .int x1)]) hx hb dX9_comes_3 rfl hl (by decide) rfl (fun ls hl => ?_)
  refine lv_aload_n hx hb dX9_comes_4 rfl (lv_at hl 1 rfl) ?_
  refine gt_9_10 (i := 0) C hP (hok.2.1 9 0 (Nat.le_of_ble_eq_true rfl)) lk_X9_20 dX9_comes_5 ?_
  refine lv_iload_n hx hb dX9_comes_8 rfl (lv_at hl 2 rfl) ?_
  obtain ⟨b1, hf⟩ := gsp hf
  refine ra_ild (k := 42) (i := 0) (n := 96) (f := (gA w 42 0)) C hP (hok.2.1 42 0 (Nat.le_of_ble_eq_true rfl)) rfl b1 dX9_comes_9 ?_
  refine lv_if_ne (tgt := 21) hx hb dX9_comes_10 (by decide) (fun c13 => ?_) (fun c13 => ?_)
  · have hf := ifn hf c13
    refine lv_aload_n hx hb dX9_comes_21 rfl (lv_at hl 1 rfl) ?_
    refine gt_9_10 (i := 0) C hP (hok.2.1 9 0 (Nat.le_of_ble_eq_true rfl)) lk_X9_20 dX9_comes_22 ?_
    refine lv_iload_n hx hb dX9_comes_25 rfl (lv_at hl 2 rfl) ?_
    refine ra_ild (k := 42) (i := 0) (n := 96) (f := (gA w 42 0)) C hP (hok.2.1 42 0 (Nat.le_of_ble_eq_true rfl)) rfl b1 dX9_comes_26 ?_
    refine lv_iconst (v := (1 : Int32)) hx hb dX9_comes_27 (by decide) ?_
    refine lv_icmp_ne (tgt := 52) hx hb dX9_comes_28 (by decide) (fun c10 => ?_) (fun c10 => ?_)
    · have hf := ifn hf c10
      refine lv_aload_n hx hb dX9_comes_52 rfl (lv_at hl 1 rfl) ?_
      refine gt_9_34 (i := 0) C hP (hok.2.1 9 0 (Nat.le_of_ble_eq_true rfl)) lk_X9_44 dX9_comes_53 ?_
      refine lv_aload_n hx hb dX9_comes_56 rfl (lv_at hl 1 rfl) ?_
      refine gt_9_33 (i := 0) C hP (hok.2.1 9 0 (Nat.le_of_ble_eq_true rfl)) lk_X9_297 dX9_comes_57 ?_
      refine lv_aload_n hx hb dX9_comes_60 rfl (lv_at hl 1 rfl) ?_
      refine gt_9_11 (i := 0) C hP (hok.2.1 9 0 (Nat.le_of_ble_eq_true rfl)) lk_X9_23 dX9_comes_61 ?_
      refine lv_iload_n hx hb dX9_comes_64 rfl (lv_at hl 0 rfl) ?_
      obtain ⟨b2, hf⟩ := gsp hf
      refine ra_ild (k := 43) (i := 0) (n := 384) (f := (gA w 43 0)) C hP (hok.2.1 43 0 (Nat.le_of_ble_eq_true rfl)) rfl b2 dX9_comes_65 ?_
      obtain ⟨b3, hf⟩ := gsp hf
      refine ra_ist (k := 50) (i := 0) (n := 8) C hok.1 hP hS (hok.2.1 50 0 (Nat.le_of_ble_eq_true rfl)) (fun _ => rfl) b3 dX9_comes_66 (fun H locs hP hS => ?_)
      refine lv_aload_n hx hb dX9_comes_67 rfl (lv_at hl 1 rfl) ?_
      refine gt_9_35 (i := 0) C hP (hok.2.1 9 0 (Nat.le_of_ble_eq_true rfl)) lk_X9_47 dX9_comes_68 ?_
      refine lv_aload_n hx hb dX9_comes_71 rfl (lv_at hl 1 rfl) ?_
      refine gt_9_33 (i := 0) C hP (hok.2.1 9 0 (Nat.le_of_ble_eq_true rfl)) lk_X9_297 dX9_comes_72 ?_
      refine lv_aload_n hx hb dX9_comes_75 rfl (lv_at hl 1 rfl) ?_
      refine gt_9_11 (i := 0) C hP (hok.2.1 9 0 (Nat.le_of_ble_eq_true rfl)) lk_X9_23 dX9_comes_76 ?_
      refine lv_iload_n hx hb dX9_comes_79 rfl (lv_at hl 0 rfl) ?_
      refine lv_iconst (v := (1 : Int32)) hx hb dX9_comes_80 (by decide) ?_
      refine lv_iadd hx hb dX9_comes_81 ?_
      obtain ⟨b4, hf⟩ := gsp hf
      refine ra_ild (k := 43) (i := 0) (n := 384) (f := (gA (sA w 50 0 (gF w 9 33 0).toNatClampNeg (gA w 43 0 ((4 : Int32) * x1).toNatClampNeg)) 43 0)) C hP (hok.2.1 43 0 (Nat.le_of_ble_eq_true rfl)) rfl b4 dX9_comes_82 ?_
      obtain ⟨b5, hf⟩ := gsp hf
      refine ra_ist (k := 51) (i := 0) (n := 8) C hok.1 hP hS (hok.2.1 51 0 (Nat.le_of_ble_eq_true rfl)) (fun _ => rfl) b5 dX9_comes_83 (fun H locs hP hS => ?_)
      refine lv_aload_n hx hb dX9_comes_84 rfl (lv_at hl 1 rfl) ?_
      refine lv_dup hx hb dX9_comes_85 rfl ?_
      refine gt_9_33 (i := 0) C hP (hok.2.1 9 0 (Nat.le_of_ble_eq_true rfl)) lk_X9_297 dX9_comes_86 ?_
      refine lv_iconst (v := (1 : Int32)) hx hb dX9_comes_89 (by decide) ?_
      refine lv_iadd hx hb dX9_comes_90 ?_
      refine pt_9_33 (i := 0) (v := ((gF (sA (sA w 50 0 (gF w 9 33 0).toNatClampNeg (gA w 43 0 ((4 : Int32) * x1).toNatClampNeg)) 51 0 (gF (sA w 50 0 (gF w 9 33 0).toNatClampNeg (gA w 43 0 ((4 : Int32) * x1).toNatClampNeg)) 9 33 0).toNatClampNeg (gA (sA w 50 0 (gF w 9 33 0).toNatClampNeg (gA w 43 0 ((4 : Int32) * x1).toNatClampNeg)) 43 0 (((4 : Int32) * x1) + (1 : Int32)).toNatClampNeg)) 9 33 0) + (1 : Int32))) C hok.1 hP hS (hok.2.1 9 0 (Nat.le_of_ble_eq_true rfl)) lk_X9_297 dX9_comes_91 (fun H locs hP hS => ?_)
      exact kr_v hok.2.2 C hlocks hr hP hS (Option.some.inj hf) dX9_comes_94
    · have hf := ifp hf c10
      refine lv_aload_n hx hb dX9_comes_31 rfl (lv_at hl 1 rfl) ?_
      refine lv_aload_n hx hb dX9_comes_32 rfl (lv_at hl 1 rfl) ?_
      refine gt_9_11 (i := 0) C hP (hok.2.1 9 0 (Nat.le_of_ble_eq_true rfl)) lk_X9_23 dX9_comes_33 ?_
      refine lv_iload_n hx hb dX9_comes_36 rfl (lv_at hl 0 rfl) ?_
      obtain ⟨b6, hf⟩ := gsp hf
      refine ra_ild (k := 43) (i := 0) (n := 384) (f := (gA w 43 0)) C hP (hok.2.1 43 0 (Nat.le_of_ble_eq_true rfl)) rfl b6 dX9_comes_37 ?_
      refine lv_aload_n hx hb dX9_comes_38 rfl (lv_at hl 1 rfl) ?_
      refine gt_9_11 (i := 0) C hP (hok.2.1 9 0 (Nat.le_of_ble_eq_true rfl)) lk_X9_23 dX9_comes_39 ?_
      refine lv_iload_n hx hb dX9_comes_42 rfl (lv_at hl 0 rfl) ?_
      refine lv_iconst (v := (1 : Int32)) hx hb dX9_comes_43 (by decide) ?_
      refine lv_iadd hx hb dX9_comes_44 ?_
      obtain ⟨b7, hf⟩ := gsp hf
      refine ra_ild (k := 43) (i := 0) (n := 384) (f := (gA w 43 0)) C hP (hok.2.1 43 0 (Nat.le_of_ble_eq_true rfl)) rfl b7 dX9_comes_45 ?_
      obtain ⟨z8, q9, hf⟩ := bsp hf
      refine kc_V (ci := 9) (i := 0) (As := [.int (gA w 43 0 ((4 : Int32) * x1).toNatClampNeg), .int (gA w 43 0 (((4 : Int32) * x1) + (1 : Int32)).toNatClampNeg)]) (rest := []) hok.2.2 C hP hS hl.1 (hok.2.1 9 0 (Nat.le_of_ble_eq_true rfl)) rfl rfl cw_X9_comesSame ml_X9_293 (c_X9_comesSame l D ca ad PL Z A hok N w (gA w 43 0 ((4 : Int32) * x1).toNatClampNeg) (gA w 43 0 (((4 : Int32) * x1) + (1 : Int32)).toNatClampNeg) z8 q9) rfl ⟨rfl, rfl⟩ ⟨Nat.le_of_ble_eq_true rfl, Nat.le_of_ble_eq_true rfl⟩ ⟨Nat.zero_le _, Nat.zero_le _⟩ (Nat.le_of_ble_eq_true rfl) rfl dX9_comes_46 (fun H locs hP hS => ?_)
      refine lv_goto (tgt := 94) hx hb dX9_comes_49 (by decide) ?_
      exact kr_v hok.2.2 C hlocks hr hP hS (Option.some.inj hf) dX9_comes_94
  · have hf := ifp hf c13
    refine lv_aload_n hx hb dX9_comes_13 rfl (lv_at hl 1 rfl) ?_
    refine lv_iload_n hx hb dX9_comes_14 rfl (lv_at hl 0 rfl) ?_
    obtain ⟨z11, q12, hf⟩ := bsp hf
    refine kc_V (ci := 9) (i := 0) (As := [.int ((4 : Int32) * x1)]) (rest := []) hok.2.2 C hP hS hl.1 (hok.2.1 9 0 (Nat.le_of_ble_eq_true rfl)) rfl rfl cw_X9_comesTerm ml_X9_290 (c_X9_comesTerm l D ca ad PL Z A hok N w ((4 : Int32) * x1) z11 q12) rfl ⟨rfl, rfl⟩ ⟨Nat.le_of_ble_eq_true rfl, Nat.le_of_ble_eq_true rfl⟩ ⟨Nat.zero_le _, Nat.zero_le _⟩ (Nat.le_of_ble_eq_true rfl) rfl dX9_comes_15 (fun H locs hP hS => ?_)
    refine lv_goto (tgt := 94) hx hb dX9_comes_18 (by decide) ?_
    exact kr_v hok.2.2 C hlocks hr hP hS (Option.some.inj hf) dX9_comes_94
def f_X9_makes_41 (N : Nat) (w : Mem)  : Option (Mem) :=
  some w
def lp_X9_makes_22 (k : Mem → Option (Mem)) (N : Nat)  : Nat → Mem → Int32 → Option (Mem)
  | 0, _, _ => none
  | n + 1, w, v1 => (if (gF w 9 8 0) ≤ v1 then
(k w)
else
(Option.bind (f_X9_comes N w v1) (fun z2 => (lp_X9_makes_22 k N    n z2 (v1 + (1 : Int32))))))
def f_X9_makes (N : Nat) (w : Mem)  : Option (Mem) :=
  (lp_X9_makes_22 (fun (w_1 : Mem) => (f_X9_makes_41 N w_1   )) N    N (sF (sF (sF (sF w 9 27 0 (0 : Int32)) 9 30 0 (0 : Int32)) 9 33 0 (0 : Int32)) 9 39 0 (0 : Int32)) (0 : Int32))
set_option maxRecDepth 100000 in
set_option maxHeartbeats 4000000 in
theorem c_X9_makes (l : Launch) (D : va_G) (ca : Nat → ClassId) (ad : Nat → Nat → Nat) (PL : List (Nat × Nat)) (Z : State → Prop) (A : Nat → Prop) (hok : okc bM Z A ad PL) (N : Nat) (w : Mem)  (w' : Mem) (hf : f_X9_makes N w  = some w') : CT l yX9_makes (wsy yX9_makes cX9_makes 2 none) (rmk 7) D ca ad PL Z A [.ref (ad 9 0)] w w' none := by
  refine Met.ofW (cc := cX9_makes) (maxL := 2) (ret := none) (by decide +kernel) rfl ?_
  intro p e s m args below meth c s₁ B hml hv
  obtain ⟨rfl, hP, hK, hZ⟩ := hv
  have hx := B.exec
  have hb := B.bytes
  have hr := B.returns
  have hlocks := B.notSynchronized
  have hts : ∀ w ∈ ALL, w.before _ s = true := fun w hw => atoms_spec (ws := wsy yX9_makes cX9_makes 2 none) B.pre w (List.mem_cons_of_mem _ hw)
  have hown : s.vm.findClass RX9 = some m.cls := findClass_of_methodNamed B.named
  have C : CX p s m _ c cX9_makes RX9 2 D ca Z := ⟨hx, hb, hml, hown, hts, hK, hZ⟩
  have hS : va_S A s.heap s.heap [] := va_S.rf
  have hl := lv_entry ([.ref (ad 9 0)]) (n := 2) (Nat.le_of_ble_eq_true rfl)
  rw [lg_entry_eq]
  generalize (lg_sl ([.ref (ad 9 0)]) ++ List.replicate (2 - (lg_sl ([.ref (ad 9 0)])).length) Slot.unset).toArray = ls at hl ⊢
  have hl : lv_has ls 2 [(0, .ref (ad 9 0))] := hl
  show W p l e (rmk 7) s m _ below meth c s.heap [] 0 0 _ _
  have P_f_X9_makes_41 : ∀ (w : Mem), f_X9_makes_41 N w    = some w' → WP p l e (rmk 7) s m [.ref (ad 9 0)].toArray below meth c D ca ad PL A (MQ below (qcR D ca ad PL Z A w' none) [.ref (ad 9 0)].toArray s 0 0 A) 2 41 [] [] w := by
    intro w hf _ _ ls hP hS hl
    unfold f_X9_makes_41 at hf
    exact kr_v hok.2.2 C hlocks hr hP hS (Option.some.inj hf) dX9_makes_41
  have L_lp_X9_makes_22 : ∀ (k : Mem → Option (Mem)) (hk : ∀ (w : Mem), k w = some w' → WP p l e (rmk 7) s m [.ref (ad 9 0)].toArray below meth c D ca ad PL A (MQ below (qcR D ca ad PL Z A w' none) [.ref (ad 9 0)].toArray s 0 0 A) 2 41 [] [] w) (n : Nat) (w : Mem) (v1 : Int32), lp_X9_makes_22 k N    n w v1 = some w' → WP p l e (rmk 7) s m [.ref (ad 9 0)].toArray below meth c D ca ad PL A (MQ below (qcR D ca ad PL Z A w' none) [.ref (ad 9 0)].toArray s 0 0 A) 2 22 [] [(0, .ref (ad 9 0)), (1, .int v1)] w := by
    intro k hk n
    induction n with
    | zero => intro w v1 hf; rw [lp_X9_makes_22] at hf; cases hf
    | succ n ih =>
      intro w v1 hf _ _ ls hP hS hl
      rw [lp_X9_makes_22] at hf
      refine lv_iload_n hx hb dX9_makes_22 rfl (lv_at hl 1 rfl) ?_
      refine lv_aload_n hx hb dX9_makes_23 rfl (lv_at hl 0 rfl) ?_
      refine gt_9_8 (i := 0) C hP (hok.2.1 9 0 (Nat.le_of_ble_eq_true rfl)) lk_X9_238 dX9_makes_24 ?_
      refine lv_icmp_ge (tgt := 41) hx hb dX9_makes_27 (by decide) (fun c4 => ?_) (fun c4 => ?_)
      · have hf := ifp hf c4
        exact hk w hf _ _ ls hP hS (lv_sub hl [] rfl)
      · have hf := ifn hf c4
        refine lv_aload_n hx hb dX9_makes_30 rfl (lv_at hl 0 rfl) ?_
        refine lv_iload_n hx hb dX9_makes_31 rfl (lv_at hl 1 rfl) ?_
        obtain ⟨z2, q3, hf⟩ := bsp hf
        refine kc_V (ci := 9) (i := 0) (As := [.int v1]) (rest := []) hok.2.2 C hP hS hl.1 (hok.2.1 9 0 (Nat.le_of_ble_eq_true rfl)) rfl rfl cw_X9_comes ml_X9_300 (c_X9_comes l D ca ad PL Z A hok N w v1 z2 q3) rfl ⟨rfl, rfl⟩ ⟨Nat.le_of_ble_eq_true rfl, Nat.le_of_ble_eq_true rfl⟩ ⟨Nat.zero_le _, Nat.zero_le _⟩ (Nat.le_of_ble_eq_true rfl) rfl dX9_makes_32 (fun H locs hP hS => ?_)
        refine lv_iinc (v := (v1 + (1 : Int32))) (lv' := [(1, .int (v1 + (1 : Int32))), (0, .ref (ad 9 0))]) hx hb dX9_makes_35 hl (k := 1) rfl rfl (by decide) rfl (fun ls hl => ?_)
        refine lv_goto (tgt := 22) hx hb dX9_makes_38 (by decide) ?_
        exact ih z2 (v1 + (1 : Int32)) hf _ _ ls hP hS (lv_sub hl [1, 0] rfl)
  unfold f_X9_makes at hf
  -- walk
  refine lv_aload_n hx hb dX9_makes_0 rfl (lv_at hl 0 rfl) ?_
  refine lv_iconst (v := (0 : Int32)) hx hb dX9_makes_1 (by decide) ?_
  refine pt_9_27 (i := 0) (v := (0 : Int32)) C hok.1 hP hS (hok.2.1 9 0 (Nat.le_of_ble_eq_true rfl)) lk_X9_250 dX9_makes_2 (fun H locs hP hS => ?_)
  refine lv_aload_n hx hb dX9_makes_5 rfl (lv_at hl 0 rfl) ?_
  refine lv_iconst (v := (0 : Int32)) hx hb dX9_makes_6 (by decide) ?_
  refine pt_9_30 (i := 0) (v := (0 : Int32)) C hok.1 hP hS (hok.2.1 9 0 (Nat.le_of_ble_eq_true rfl)) lk_X9_287 dX9_makes_7 (fun H locs hP hS => ?_)
  refine lv_aload_n hx hb dX9_makes_10 rfl (lv_at hl 0 rfl) ?_
  refine lv_iconst (v := (0 : Int32)) hx hb dX9_makes_11 (by decide) ?_
  refine pt_9_33 (i := 0) (v := (0 : Int32)) C hok.1 hP hS (hok.2.1 9 0 (Nat.le_of_ble_eq_true rfl)) lk_X9_297 dX9_makes_12 (fun H locs hP hS => ?_)
  refine lv_aload_n hx hb dX9_makes_15 rfl (lv_at hl 0 rfl) ?_
  refine lv_iconst (v := (0 : Int32)) hx hb dX9_makes_16 (by decide) ?_
  refine pt_9_39 (i := 0) (v := (0 : Int32)) C hok.1 hP hS (hok.2.1 9 0 (Nat.le_of_ble_eq_true rfl)) lk_X9_259 dX9_makes_17 (fun H locs hP hS => ?_)
  refine lv_iconst (v := (0 : Int32)) hx hb dX9_makes_20 (by decide) ?_
  refine lv_istore_n (lv' := [(1, .int (0 : Int32)), (0, .ref (ad 9 0))]) hx hb dX9_makes_21 rfl hl (by decide) rfl (fun ls hl => ?_)
  exact L_lp_X9_makes_22 _ (fun w_1 hf H locs ls hP hS hl => P_f_X9_makes_41 w_1 hf _ _ ls hP hS (lv_sub hl [] rfl)) N (sF (sF (sF (sF w 9 27 0 (0 : Int32)) 9 30 0 (0 : Int32)) 9 33 0 (0 : Int32)) 9 39 0 (0 : Int32)) (0 : Int32) hf _ _ ls hP hS (lv_sub hl [1, 0] rfl)
def f_X9_fault (N : Nat) (w : Mem)  : Option (Mem × Int32) :=
  some ((sF w 9 0 0 (0 : Int32)), (gF (sF w 9 0 0 (0 : Int32)) 9 2 0))
set_option maxRecDepth 100000 in
set_option maxHeartbeats 4000000 in
theorem c_X9_fault (l : Launch) (D : va_G) (ca : Nat → ClassId) (ad : Nat → Nat → Nat) (PL : List (Nat × Nat)) (Z : State → Prop) (A : Nat → Prop) (hok : okc bM Z A ad PL) (N : Nat) (w : Mem)  (w' : Mem) (r : Int32) (hf : f_X9_fault N w  = some (w', r)) : CT l yX9_fault (wsy yX9_fault cX9_fault 1 (some .int)) (rmk 0) D ca ad PL Z A [.ref (ad 9 0)] w w' (some (.int r)) := by
  refine Met.ofW (cc := cX9_fault) (maxL := 1) (ret := (some .int)) (by decide +kernel) rfl ?_
  intro p e s m args below meth c s₁ B hml hv
  obtain ⟨rfl, hP, hK, hZ⟩ := hv
  have hx := B.exec
  have hb := B.bytes
  have hr := B.returns
  have hlocks := B.notSynchronized
  have hts : ∀ w ∈ ALL, w.before _ s = true := fun w hw => atoms_spec (ws := wsy yX9_fault cX9_fault 1 (some .int)) B.pre w (List.mem_cons_of_mem _ hw)
  have hown : s.vm.findClass RX9 = some m.cls := findClass_of_methodNamed B.named
  have C : CX p s m _ c cX9_fault RX9 1 D ca Z := ⟨hx, hb, hml, hown, hts, hK, hZ⟩
  have hS : va_S A s.heap s.heap [] := va_S.rf
  have hl := lv_entry ([.ref (ad 9 0)]) (n := 1) (Nat.le_of_ble_eq_true rfl)
  rw [lg_entry_eq]
  generalize (lg_sl ([.ref (ad 9 0)]) ++ List.replicate (1 - (lg_sl ([.ref (ad 9 0)])).length) Slot.unset).toArray = ls at hl ⊢
  have hl : lv_has ls 1 [(0, .ref (ad 9 0))] := hl
  show W p l e (rmk 0) s m _ below meth c s.heap [] 0 0 _ _
  unfold f_X9_fault at hf
  -- walk
  refine lv_aload_n hx hb dX9_fault_0 rfl (lv_at hl 0 rfl) ?_
  refine lv_iconst (v := (0 : Int32)) hx hb dX9_fault_1 (by decide) ?_
  refine pt_9_0 (i := 0) (v := (0 : Int32)) C hok.1 hP hS (hok.2.1 9 0 (Nat.le_of_ble_eq_true rfl)) lk_X9_103 dX9_fault_2 (fun H locs hP hS => ?_)
  refine lv_aload_n hx hb dX9_fault_5 rfl (lv_at hl 0 rfl) ?_
  refine gt_9_2 (i := 0) C hP (hok.2.1 9 0 (Nat.le_of_ble_eq_true rfl)) lk_X9_226 dX9_fault_6 ?_
  exact kr_i hok.2.2 C hlocks hr rfl hP hS (congrArg Prod.fst (Option.some.inj hf)) (congrArg Prod.snd (Option.some.inj hf)) dX9_fault_9
def f_X9_where (N : Nat) (w : Mem)  : Option (Mem × Int32) :=
  (if (gF (sF w 9 0 0 (0 : Int32)) 9 1 0) = (4 : Int32) then
some ((sF w 9 0 0 (0 : Int32)), (gF (sF w 9 0 0 (0 : Int32)) 9 3 0))
else
some ((sF w 9 0 0 (0 : Int32)), (-1 : Int32)))
set_option maxRecDepth 100000 in
set_option maxHeartbeats 4000000 in
theorem c_X9_where (l : Launch) (D : va_G) (ca : Nat → ClassId) (ad : Nat → Nat → Nat) (PL : List (Nat × Nat)) (Z : State → Prop) (A : Nat → Prop) (hok : okc bM Z A ad PL) (N : Nat) (w : Mem)  (w' : Mem) (r : Int32) (hf : f_X9_where N w  = some (w', r)) : CT l yX9_where (wsy yX9_where cX9_where 1 (some .int)) (rmk 0) D ca ad PL Z A [.ref (ad 9 0)] w w' (some (.int r)) := by
  refine Met.ofW (cc := cX9_where) (maxL := 1) (ret := (some .int)) (by decide +kernel) rfl ?_
  intro p e s m args below meth c s₁ B hml hv
  obtain ⟨rfl, hP, hK, hZ⟩ := hv
  have hx := B.exec
  have hb := B.bytes
  have hr := B.returns
  have hlocks := B.notSynchronized
  have hts : ∀ w ∈ ALL, w.before _ s = true := fun w hw => atoms_spec (ws := wsy yX9_where cX9_where 1 (some .int)) B.pre w (List.mem_cons_of_mem _ hw)
  have hown : s.vm.findClass RX9 = some m.cls := findClass_of_methodNamed B.named
  have C : CX p s m _ c cX9_where RX9 1 D ca Z := ⟨hx, hb, hml, hown, hts, hK, hZ⟩
  have hS : va_S A s.heap s.heap [] := va_S.rf
  have hl := lv_entry ([.ref (ad 9 0)]) (n := 1) (Nat.le_of_ble_eq_true rfl)
  rw [lg_entry_eq]
  generalize (lg_sl ([.ref (ad 9 0)]) ++ List.replicate (1 - (lg_sl ([.ref (ad 9 0)])).length) Slot.unset).toArray = ls at hl ⊢
  have hl : lv_has ls 1 [(0, .ref (ad 9 0))] := hl
  show W p l e (rmk 0) s m _ below meth c s.heap [] 0 0 _ _
  unfold f_X9_where at hf
  -- walk
  refine lv_aload_n hx hb dX9_where_0 rfl (lv_at hl 0 rfl) ?_
  refine lv_iconst (v := (0 : Int32)) hx hb dX9_where_1 (by decide) ?_
  refine pt_9_0 (i := 0) (v := (0 : Int32)) C hok.1 hP hS (hok.2.1 9 0 (Nat.le_of_ble_eq_true rfl)) lk_X9_103 dX9_where_2 (fun H locs hP hS => ?_)
  refine lv_aload_n hx hb dX9_where_5 rfl (lv_at hl 0 rfl) ?_
  refine gt_9_1 (i := 0) C hP (hok.2.1 9 0 (Nat.le_of_ble_eq_true rfl)) lk_X9_106 dX9_where_6 ?_
  refine lv_iconst (v := (4 : Int32)) hx hb dX9_where_9 (by decide) ?_
  refine lv_icmp_ne (tgt := 20) hx hb dX9_where_10 (by decide) (fun c1 => ?_) (fun c1 => ?_)
  · have hf := ifn hf c1
    refine lv_iconst (v := (-1 : Int32)) hx hb dX9_where_20 (by decide) ?_
    exact kr_i hok.2.2 C hlocks hr rfl hP hS (congrArg Prod.fst (Option.some.inj hf)) (congrArg Prod.snd (Option.some.inj hf)) dX9_where_21
  · have hf := ifp hf c1
    refine lv_aload_n hx hb dX9_where_13 rfl (lv_at hl 0 rfl) ?_
    refine gt_9_3 (i := 0) C hP (hok.2.1 9 0 (Nat.le_of_ble_eq_true rfl)) lk_X9_9 dX9_where_14 ?_
    refine lv_goto (tgt := 21) hx hb dX9_where_17 (by decide) ?_
    exact kr_i hok.2.2 C hlocks hr rfl hP hS (congrArg Prod.fst (Option.some.inj hf)) (congrArg Prod.snd (Option.some.inj hf)) dX9_where_21
def f_X9_closesBy_156 (N : Nat) (w : Mem)  : Option (Mem) :=
  some w
def f_X9_closesBy_153_68 (rc : Mem → Int32 → Option (Mem)) (k : Mem → Option (Mem)) (N : Nat) (w : Mem)  (v2 : Int32) : Option (Mem) :=
  (rc w v2)
def f_X9_closesBy_147_76 (rc : Mem → Int32 → Int32 → Option (Mem)) (k : Mem → Int32 → Option (Mem)) (N : Nat) (w : Mem)  (v2 : Int32) (v3 : Int32) : Option (Mem) :=
  (rc w v2 (v3 + (1 : Int32)))
def lp_X9_closesBy_89 (k : Mem → Int32 → Option (Mem)) (N : Nat)  (v3 : Int32) : Nat → Mem → Int32 → Int32 → Option (Mem)
  | 0, _, _, _ => none
  | n + 1, w, v2, v4 => (if (gF w 9 27 0) ≤ v4 then
(k w v2)
else
(if inb v3 24 = true then (if inb v4 24 = true then (if (gA w 59 0 v3.toNatClampNeg) = (gA w 59 0 v4.toNatClampNeg) then
(lp_X9_closesBy_89 k N   v3 n w v2 (v4 + (1 : Int32)))
else
(Option.bind (f_X9_isAlike N w 59 v3 v4) (fun z8 => (if z8 = (0 : Int32) then
(lp_X9_closesBy_89 k N   v3 n w v2 (v4 + (1 : Int32)))
else
(Option.bind (f_X9_unites N w 59 v3 v4) (fun z10 => (lp_X9_closesBy_89 k N   v3 n z10 (1 : Int32) (v4 + (1 : Int32))))))))) else none) else none))
def lp_X9_closesBy_76 (k : Mem → Int32 → Option (Mem)) (N : Nat)  : Nat → Mem → Int32 → Int32 → Option (Mem)
  | 0, _, _, _ => none
  | n + 1, w, v2, v3 => (if (gF w 9 27 0) ≤ v3 then
(k w v2)
else
(lp_X9_closesBy_89 (fun (w_5 : Mem) (u2_5 : Int32) => (f_X9_closesBy_147_76 (fun (w : Mem) (v2 : Int32) (v3 : Int32) => lp_X9_closesBy_76 k N    n w v2 v3) k N w_5  u2_5 v3 )) N   v3 N w v2 (v3 + (1 : Int32))))
def lp_X9_closesBy_68 (k : Mem → Option (Mem)) (N : Nat)  : Nat → Mem → Int32 → Option (Mem)
  | 0, _, _ => none
  | n + 1, w, v2 => (if v2 = (0 : Int32) then
(k w)
else
(lp_X9_closesBy_76 (fun (w_4 : Mem) (u2_4 : Int32) => (f_X9_closesBy_153_68 (fun (w : Mem) (v2 : Int32) => lp_X9_closesBy_68 k N    n w v2) k N w_4  u2_4 )) N    N w (0 : Int32) (0 : Int32)))
def f_X9_closesBy_66 (N : Nat) (w : Mem)  : Option (Mem) :=
  (lp_X9_closesBy_68 (fun (w_3 : Mem) => (f_X9_closesBy_156 N w_3   )) N    N w (1 : Int32))
def lp_X9_closesBy_25 (k : Mem → Option (Mem)) (N : Nat)  (v1 : Int32) : Nat → Mem → Int32 → Option (Mem)
  | 0, _, _ => none
  | n + 1, w, v2 => (if (12 : Int32) < v2 then
(k w)
else
(if ((v1 >>> (v2 &&& 31)) &&& (1 : Int32)) = (1 : Int32) then
(if inb v2 13 = true then (Option.bind (f_X9_unites N w 59 (gA w 48 0 v2.toNatClampNeg) (gA w 49 0 v2.toNatClampNeg)) (fun z18 => (lp_X9_closesBy_25 k N   v1 n z18 (v2 + (1 : Int32))))) else none)
else
(lp_X9_closesBy_25 k N   v1 n w (v2 + (1 : Int32)))))
def f_X9_closesBy_23 (N : Nat) (w : Mem)  (v1 : Int32) : Option (Mem) :=
  (lp_X9_closesBy_25 (fun (w_2 : Mem) => (f_X9_closesBy_66 N w_2   )) N   v1 N w (0 : Int32))
def lp_X9_closesBy_2 (k : Mem → Option (Mem)) (N : Nat)  (v1 : Int32) : Nat → Mem → Int32 → Option (Mem)
  | 0, _, _ => none
  | n + 1, w, v2 => (if (gF w 9 27 0) ≤ v2 then
(k w)
else
(if inb v2 24 = true then (lp_X9_closesBy_2 k N   v1 n (sA w 59 0 v2.toNatClampNeg v2) (v2 + (1 : Int32))) else none))
def f_X9_closesBy (N : Nat) (w : Mem) (x1 : Int32) : Option (Mem) :=
  (lp_X9_closesBy_2 (fun (w_1 : Mem) => (f_X9_closesBy_23 N w_1  x1 )) N   x1 N w (0 : Int32))
set_option maxRecDepth 100000 in
set_option maxHeartbeats 4000000 in
theorem c_X9_closesBy (l : Launch) (D : va_G) (ca : Nat → ClassId) (ad : Nat → Nat → Nat) (PL : List (Nat × Nat)) (Z : State → Prop) (A : Nat → Prop) (hok : okc bM Z A ad PL) (N : Nat) (w : Mem) (x1 : Int32) (w' : Mem) (hf : f_X9_closesBy N w x1 = some w') : CT l yX9_closesBy (wsy yX9_closesBy cX9_closesBy 5 none) (rmk 2) D ca ad PL Z A [.ref (ad 9 0), .int x1] w w' none := by
  refine Met.ofW (cc := cX9_closesBy) (maxL := 5) (ret := none) (by decide +kernel) rfl ?_
  intro p e s m args below meth c s₁ B hml hv
  obtain ⟨rfl, hP, hK, hZ⟩ := hv
  have hx := B.exec
  have hb := B.bytes
  have hr := B.returns
  have hlocks := B.notSynchronized
  have hts : ∀ w ∈ ALL, w.before _ s = true := fun w hw => atoms_spec (ws := wsy yX9_closesBy cX9_closesBy 5 none) B.pre w (List.mem_cons_of_mem _ hw)
  have hown : s.vm.findClass RX9 = some m.cls := findClass_of_methodNamed B.named
  have C : CX p s m _ c cX9_closesBy RX9 5 D ca Z := ⟨hx, hb, hml, hown, hts, hK, hZ⟩
  have hS : va_S A s.heap s.heap [] := va_S.rf
  have hl := lv_entry ([.ref (ad 9 0), .int x1]) (n := 5) (Nat.le_of_ble_eq_true rfl)
  rw [lg_entry_eq]
  generalize (lg_sl ([.ref (ad 9 0), .int x1]) ++ List.replicate (5 - (lg_sl ([.ref (ad 9 0), .int x1])).length) Slot.unset).toArray = ls at hl ⊢
  have hl : lv_has ls 5 [(0, .ref (ad 9 0)), (1, .int x1)] := hl
  show W p l e (rmk 2) s m _ below meth c s.heap [] 0 0 _ _
  have P_f_X9_closesBy_156 : ∀ (w : Mem), f_X9_closesBy_156 N w    = some w' → WP p l e (rmk 2) s m [.ref (ad 9 0), .int x1].toArray below meth c D ca ad PL A (MQ below (qcR D ca ad PL Z A w' none) [.ref (ad 9 0), .int x1].toArray s 0 0 A) 5 156 [] [] w := by
    intro w hf _ _ ls hP hS hl
    unfold f_X9_closesBy_156 at hf
    exact kr_v hok.2.2 C hlocks hr hP hS (Option.some.inj hf) dX9_closesBy_156
  have P_f_X9_closesBy_153_68 : ∀ (rc : Mem → Int32 → Option (Mem)) (hrc : ∀ (w : Mem) (v2 : Int32), rc w v2 = some w' → WP p l e (rmk 2) s m [.ref (ad 9 0), .int x1].toArray below meth c D ca ad PL A (MQ below (qcR D ca ad PL Z A w' none) [.ref (ad 9 0), .int x1].toArray s 0 0 A) 5 68 [] [(0, .ref (ad 9 0)), (2, .int v2)] w) (k : Mem → Option (Mem)) (hk : ∀ (w : Mem), k w = some w' → WP p l e (rmk 2) s m [.ref (ad 9 0), .int x1].toArray below meth c D ca ad PL A (MQ below (qcR D ca ad PL Z A w' none) [.ref (ad 9 0), .int x1].toArray s 0 0 A) 5 156 [] [] w) (w : Mem) (v2 : Int32), f_X9_closesBy_153_68 rc k N w  v2  = some w' → WP p l e (rmk 2) s m [.ref (ad 9 0), .int x1].toArray below meth c D ca ad PL A (MQ below (qcR D ca ad PL Z A w' none) [.ref (ad 9 0), .int x1].toArray s 0 0 A) 5 153 [] [(0, .ref (ad 9 0)), (2, .int v2)] w := by
    intro rc hrc k hk w v2 hf _ _ ls hP hS hl
    unfold f_X9_closesBy_153_68 at hf
    refine lv_goto (tgt := 68) hx hb dX9_closesBy_153 (by decide) ?_
    exact hrc w v2 hf _ _ ls hP hS (lv_sub hl [0, 1] rfl)
  have P_f_X9_closesBy_147_76 : ∀ (rc : Mem → Int32 → Int32 → Option (Mem)) (hrc : ∀ (w : Mem) (v2 : Int32) (v3 : Int32), rc w v2 v3 = some w' → WP p l e (rmk 2) s m [.ref (ad 9 0), .int x1].toArray below meth c D ca ad PL A (MQ below (qcR D ca ad PL Z A w' none) [.ref (ad 9 0), .int x1].toArray s 0 0 A) 5 76 [] [(0, .ref (ad 9 0)), (2, .int v2), (3, .int v3)] w) (k : Mem → Int32 → Option (Mem)) (hk : ∀ (w : Mem) (v2 : Int32), k w v2 = some w' → WP p l e (rmk 2) s m [.ref (ad 9 0), .int x1].toArray below meth c D ca ad PL A (MQ below (qcR D ca ad PL Z A w' none) [.ref (ad 9 0), .int x1].toArray s 0 0 A) 5 153 [] [(0, .ref (ad 9 0)), (2, .int v2)] w) (w : Mem) (v2 : Int32) (v3 : Int32), f_X9_closesBy_147_76 rc k N w  v2 v3  = some w' → WP p l e (rmk 2) s m [.ref (ad 9 0), .int x1].toArray below meth c D ca ad PL A (MQ below (qcR D ca ad PL Z A w' none) [.ref (ad 9 0), .int x1].toArray s 0 0 A) 5 147 [] [(0, .ref (ad 9 0)), (2, .int v2), (3, .int v3)] w := by
    intro rc hrc k hk w v2 v3 hf _ _ ls hP hS hl
    unfold f_X9_closesBy_147_76 at hf
    refine lv_iinc (v := (v3 + (1 : Int32))) (lv' := [(3, .int (v3 + (1 : Int32))), (0, .ref (ad 9 0)), (2, .int v2)]) hx hb dX9_closesBy_147 hl (k := 2) rfl rfl (by decide) rfl (fun ls hl => ?_)
    refine lv_goto (tgt := 76) hx hb dX9_closesBy_150 (by decide) ?_
    exact hrc w v2 (v3 + (1 : Int32)) hf _ _ ls hP hS (lv_sub hl [1, 2, 0] rfl)
  have L_lp_X9_closesBy_89 : ∀ (v3 : Int32) (k : Mem → Int32 → Option (Mem)) (hk : ∀ (w : Mem) (v2 : Int32), k w v2 = some w' → WP p l e (rmk 2) s m [.ref (ad 9 0), .int x1].toArray below meth c D ca ad PL A (MQ below (qcR D ca ad PL Z A w' none) [.ref (ad 9 0), .int x1].toArray s 0 0 A) 5 147 [] [(0, .ref (ad 9 0)), (2, .int v2), (3, .int v3)] w) (n : Nat) (w : Mem) (v2 : Int32) (v4 : Int32), lp_X9_closesBy_89 k N   v3 n w v2 v4 = some w' → WP p l e (rmk 2) s m [.ref (ad 9 0), .int x1].toArray below meth c D ca ad PL A (MQ below (qcR D ca ad PL Z A w' none) [.ref (ad 9 0), .int x1].toArray s 0 0 A) 5 89 [] [(0, .ref (ad 9 0)), (2, .int v2), (3, .int v3), (4, .int v4)] w := by
    intro v3 k hk n
    induction n with
    | zero => intro w v2 v4 hf; rw [lp_X9_closesBy_89] at hf; cases hf
    | succ n ih =>
      intro w v2 v4 hf _ _ ls hP hS hl
      rw [lp_X9_closesBy_89] at hf
      refine lv_iload hx hb dX9_closesBy_89 (lv_at hl 3 rfl) ?_
      refine lv_aload_n hx hb dX9_closesBy_91 rfl (lv_at hl 0 rfl) ?_
      refine gt_9_27 (i := 0) C hP (hok.2.1 9 0 (Nat.le_of_ble_eq_true rfl)) lk_X9_250 dX9_closesBy_92 ?_
      refine lv_icmp_ge (tgt := 147) hx hb dX9_closesBy_95 (by decide) (fun c14 => ?_) (fun c14 => ?_)
      · have hf := ifp hf c14
        exact hk w v2 hf _ _ ls hP hS (lv_sub hl [0, 1, 2] rfl)
      · have hf := ifn hf c14
        refine lv_aload_n hx hb dX9_closesBy_98 rfl (lv_at hl 0 rfl) ?_
        refine gt_9_44 (i := 0) C hP (hok.2.1 9 0 (Nat.le_of_ble_eq_true rfl)) lk_X9_71 dX9_closesBy_99 ?_
        refine lv_iload_n hx hb dX9_closesBy_102 rfl (lv_at hl 2 rfl) ?_
        obtain ⟨b6, hf⟩ := gsp hf
        refine ra_ild (k := 59) (i := 0) (n := 24) (f := (gA w 59 0)) C hP (hok.2.1 59 0 (Nat.le_of_ble_eq_true rfl)) rfl b6 dX9_closesBy_103 ?_
        refine lv_aload_n hx hb dX9_closesBy_104 rfl (lv_at hl 0 rfl) ?_
        refine gt_9_44 (i := 0) C hP (hok.2.1 9 0 (Nat.le_of_ble_eq_true rfl)) lk_X9_71 dX9_closesBy_105 ?_
        refine lv_iload hx hb dX9_closesBy_108 (lv_at hl 3 rfl) ?_
        obtain ⟨b7, hf⟩ := gsp hf
        refine ra_ild (k := 59) (i := 0) (n := 24) (f := (gA w 59 0)) C hP (hok.2.1 59 0 (Nat.le_of_ble_eq_true rfl)) rfl b7 dX9_closesBy_110 ?_
        refine lv_icmp_eq (tgt := 141) hx hb dX9_closesBy_111 (by decide) (fun c13 => ?_) (fun c13 => ?_)
        · have hf := ifp hf c13
          refine lv_iinc (v := (v4 + (1 : Int32))) (lv' := [(4, .int (v4 + (1 : Int32))), (0, .ref (ad 9 0)), (2, .int v2), (3, .int v3)]) hx hb dX9_closesBy_141 hl (k := 3) rfl rfl (by decide) rfl (fun ls hl => ?_)
          refine lv_goto (tgt := 89) hx hb dX9_closesBy_144 (by decide) ?_
          exact ih w v2 (v4 + (1 : Int32)) hf _ _ ls hP hS (lv_sub hl [1, 2, 3, 0] rfl)
        · have hf := ifn hf c13
          refine lv_aload_n hx hb dX9_closesBy_114 rfl (lv_at hl 0 rfl) ?_
          refine lv_aload_n hx hb dX9_closesBy_115 rfl (lv_at hl 0 rfl) ?_
          refine gt_9_44 (i := 0) C hP (hok.2.1 9 0 (Nat.le_of_ble_eq_true rfl)) lk_X9_71 dX9_closesBy_116 ?_
          refine lv_iload_n hx hb dX9_closesBy_119 rfl (lv_at hl 2 rfl) ?_
          refine lv_iload hx hb dX9_closesBy_120 (lv_at hl 3 rfl) ?_
          obtain ⟨z8, q9, hf⟩ := bsp hf
          refine kc_V (ci := 9) (i := 0) (As := [.ref (ad 59 0), .int v3, .int v4]) (rest := []) hok.2.2 C hP hS hl.1 (hok.2.1 9 0 (Nat.le_of_ble_eq_true rfl)) rfl rfl cw_X9_isAlike ml_X9_273 (c_X9_isAlike l D ca ad PL Z A hok N w 59 (Nat.le_of_ble_eq_true rfl) rfl rfl v3 v4 z8 q9) rfl ⟨rfl, rfl⟩ ⟨Nat.le_of_ble_eq_true rfl, Nat.le_of_ble_eq_true rfl⟩ ⟨Nat.zero_le _, Nat.zero_le _⟩ (Nat.le_of_ble_eq_true rfl) rfl dX9_closesBy_122 (fun H locs hP hS => ?_)
          refine lv_if_eq (tgt := 141) hx hb dX9_closesBy_125 (by decide) (fun c12 => ?_) (fun c12 => ?_)
          · have hf := ifp hf c12
            refine lv_iinc (v := (v4 + (1 : Int32))) (lv' := [(4, .int (v4 + (1 : Int32))), (0, .ref (ad 9 0)), (2, .int v2), (3, .int v3)]) hx hb dX9_closesBy_141 hl (k := 3) rfl rfl (by decide) rfl (fun ls hl => ?_)
            refine lv_goto (tgt := 89) hx hb dX9_closesBy_144 (by decide) ?_
            exact ih w v2 (v4 + (1 : Int32)) hf _ _ ls hP hS (lv_sub hl [1, 2, 3, 0] rfl)
          · have hf := ifn hf c12
            refine lv_aload_n hx hb dX9_closesBy_128 rfl (lv_at hl 0 rfl) ?_
            refine lv_aload_n hx hb dX9_closesBy_129 rfl (lv_at hl 0 rfl) ?_
            refine gt_9_44 (i := 0) C hP (hok.2.1 9 0 (Nat.le_of_ble_eq_true rfl)) lk_X9_71 dX9_closesBy_130 ?_
            refine lv_iload_n hx hb dX9_closesBy_133 rfl (lv_at hl 2 rfl) ?_
            refine lv_iload hx hb dX9_closesBy_134 (lv_at hl 3 rfl) ?_
            obtain ⟨z10, q11, hf⟩ := bsp hf
            refine kc_V (ci := 9) (i := 0) (As := [.ref (ad 59 0), .int v3, .int v4]) (rest := []) hok.2.2 C hP hS hl.1 (hok.2.1 9 0 (Nat.le_of_ble_eq_true rfl)) rfl rfl cw_X9_unites ml_X9_269 (c_X9_unites l D ca ad PL Z A hok N w 59 (Nat.le_of_ble_eq_true rfl) rfl rfl v3 v4 z10 q11) rfl ⟨rfl, rfl⟩ ⟨Nat.le_of_ble_eq_true rfl, Nat.le_of_ble_eq_true rfl⟩ ⟨Nat.zero_le _, Nat.zero_le _⟩ (Nat.le_of_ble_eq_true rfl) rfl dX9_closesBy_136 (fun H locs hP hS => ?_)
            refine lv_iconst (v := (1 : Int32)) hx hb dX9_closesBy_139 (by decide) ?_
            refine lv_istore_n (lv' := [(2, .int (1 : Int32)), (0, .ref (ad 9 0)), (3, .int v3), (4, .int v4)]) hx hb dX9_closesBy_140 rfl hl (by decide) rfl (fun ls hl => ?_)
            refine lv_iinc (v := (v4 + (1 : Int32))) (lv' := [(4, .int (v4 + (1 : Int32))), (2, .int (1 : Int32)), (0, .ref (ad 9 0)), (3, .int v3)]) hx hb dX9_closesBy_141 hl (k := 3) rfl rfl (by decide) rfl (fun ls hl => ?_)
            refine lv_goto (tgt := 89) hx hb dX9_closesBy_144 (by decide) ?_
            exact ih z10 (1 : Int32) (v4 + (1 : Int32)) hf _ _ ls hP hS (lv_sub hl [2, 1, 3, 0] rfl)
  have L_lp_X9_closesBy_76 : ∀ (k : Mem → Int32 → Option (Mem)) (hk : ∀ (w : Mem) (v2 : Int32), k w v2 = some w' → WP p l e (rmk 2) s m [.ref (ad 9 0), .int x1].toArray below meth c D ca ad PL A (MQ below (qcR D ca ad PL Z A w' none) [.ref (ad 9 0), .int x1].toArray s 0 0 A) 5 153 [] [(0, .ref (ad 9 0)), (2, .int v2)] w) (n : Nat) (w : Mem) (v2 : Int32) (v3 : Int32), lp_X9_closesBy_76 k N    n w v2 v3 = some w' → WP p l e (rmk 2) s m [.ref (ad 9 0), .int x1].toArray below meth c D ca ad PL A (MQ below (qcR D ca ad PL Z A w' none) [.ref (ad 9 0), .int x1].toArray s 0 0 A) 5 76 [] [(0, .ref (ad 9 0)), (2, .int v2), (3, .int v3)] w := by
    intro k hk n
    induction n with
    | zero => intro w v2 v3 hf; rw [lp_X9_closesBy_76] at hf; cases hf
    | succ n ih =>
      intro w v2 v3 hf _ _ ls hP hS hl
      rw [lp_X9_closesBy_76] at hf
      refine lv_iload_n hx hb dX9_closesBy_76 rfl (lv_at hl 2 rfl) ?_
      refine lv_aload_n hx hb dX9_closesBy_77 rfl (lv_at hl 0 rfl) ?_
      refine gt_9_27 (i := 0) C hP (hok.2.1 9 0 (Nat.le_of_ble_eq_true rfl)) lk_X9_250 dX9_closesBy_78 ?_
      refine lv_icmp_ge (tgt := 153) hx hb dX9_closesBy_81 (by decide) (fun c15 => ?_) (fun c15 => ?_)
      · have hf := ifp hf c15
        exact hk w v2 hf _ _ ls hP hS (lv_sub hl [0, 1] rfl)
      · have hf := ifn hf c15
        refine lv_iload_n hx hb dX9_closesBy_84 rfl (lv_at hl 2 rfl) ?_
        refine lv_iconst (v := (1 : Int32)) hx hb dX9_closesBy_85 (by decide) ?_
        refine lv_iadd hx hb dX9_closesBy_86 ?_
        refine lv_istore (lv' := [(4, .int (v3 + (1 : Int32))), (0, .ref (ad 9 0)), (2, .int v2), (3, .int v3)]) hx hb dX9_closesBy_87 hl (by decide) rfl (fun ls hl => ?_)
        exact L_lp_X9_closesBy_89 v3 _ (fun w_5 u2_5 hf H locs ls hP hS hl => P_f_X9_closesBy_147_76 _ ih _ hk w_5 u2_5 v3 hf _ _ ls hP hS (lv_sub hl [0, 1, 2] rfl)) N w v2 (v3 + (1 : Int32)) hf _ _ ls hP hS (lv_sub hl [1, 2, 3, 0] rfl)
  have L_lp_X9_closesBy_68 : ∀ (k : Mem → Option (Mem)) (hk : ∀ (w : Mem), k w = some w' → WP p l e (rmk 2) s m [.ref (ad 9 0), .int x1].toArray below meth c D ca ad PL A (MQ below (qcR D ca ad PL Z A w' none) [.ref (ad 9 0), .int x1].toArray s 0 0 A) 5 156 [] [] w) (n : Nat) (w : Mem) (v2 : Int32), lp_X9_closesBy_68 k N    n w v2 = some w' → WP p l e (rmk 2) s m [.ref (ad 9 0), .int x1].toArray below meth c D ca ad PL A (MQ below (qcR D ca ad PL Z A w' none) [.ref (ad 9 0), .int x1].toArray s 0 0 A) 5 68 [] [(0, .ref (ad 9 0)), (2, .int v2)] w := by
    intro k hk n
    induction n with
    | zero => intro w v2 hf; rw [lp_X9_closesBy_68] at hf; cases hf
    | succ n ih =>
      intro w v2 hf _ _ ls hP hS hl
      rw [lp_X9_closesBy_68] at hf
      refine lv_iload_n hx hb dX9_closesBy_68 rfl (lv_at hl 1 rfl) ?_
      refine lv_if_eq (tgt := 156) hx hb dX9_closesBy_69 (by decide) (fun c16 => ?_) (fun c16 => ?_)
      · have hf := ifp hf c16
        exact hk w hf _ _ ls hP hS (lv_sub hl [] rfl)
      · have hf := ifn hf c16
        refine lv_iconst (v := (0 : Int32)) hx hb dX9_closesBy_72 (by decide) ?_
        refine lv_istore_n (lv' := [(2, .int (0 : Int32)), (0, .ref (ad 9 0))]) hx hb dX9_closesBy_73 rfl hl (by decide) rfl (fun ls hl => ?_)
        refine lv_iconst (v := (0 : Int32)) hx hb dX9_closesBy_74 (by decide) ?_
        refine lv_istore_n (lv' := [(3, .int (0 : Int32)), (2, .int (0 : Int32)), (0, .ref (ad 9 0))]) hx hb dX9_closesBy_75 rfl hl (by decide) rfl (fun ls hl => ?_)
        exact L_lp_X9_closesBy_76 _ (fun w_4 u2_4 hf H locs ls hP hS hl => P_f_X9_closesBy_153_68 _ ih _ hk w_4 u2_4 hf _ _ ls hP hS (lv_sub hl [0, 1] rfl)) N w (0 : Int32) (0 : Int32) hf _ _ ls hP hS (lv_sub hl [2, 1, 0] rfl)
  have P_f_X9_closesBy_66 : ∀ (w : Mem), f_X9_closesBy_66 N w    = some w' → WP p l e (rmk 2) s m [.ref (ad 9 0), .int x1].toArray below meth c D ca ad PL A (MQ below (qcR D ca ad PL Z A w' none) [.ref (ad 9 0), .int x1].toArray s 0 0 A) 5 66 [] [(0, .ref (ad 9 0))] w := by
    intro w hf _ _ ls hP hS hl
    unfold f_X9_closesBy_66 at hf
    refine lv_iconst (v := (1 : Int32)) hx hb dX9_closesBy_66 (by decide) ?_
    refine lv_istore_n (lv' := [(2, .int (1 : Int32)), (0, .ref (ad 9 0))]) hx hb dX9_closesBy_67 rfl hl (by decide) rfl (fun ls hl => ?_)
    exact L_lp_X9_closesBy_68 _ (fun w_3 hf H locs ls hP hS hl => P_f_X9_closesBy_156 w_3 hf _ _ ls hP hS (lv_sub hl [] rfl)) N w (1 : Int32) hf _ _ ls hP hS (lv_sub hl [1, 0] rfl)
  have L_lp_X9_closesBy_25 : ∀ (v1 : Int32) (k : Mem → Option (Mem)) (hk : ∀ (w : Mem), k w = some w' → WP p l e (rmk 2) s m [.ref (ad 9 0), .int x1].toArray below meth c D ca ad PL A (MQ below (qcR D ca ad PL Z A w' none) [.ref (ad 9 0), .int x1].toArray s 0 0 A) 5 66 [] [(0, .ref (ad 9 0))] w) (n : Nat) (w : Mem) (v2 : Int32), lp_X9_closesBy_25 k N   v1 n w v2 = some w' → WP p l e (rmk 2) s m [.ref (ad 9 0), .int x1].toArray below meth c D ca ad PL A (MQ below (qcR D ca ad PL Z A w' none) [.ref (ad 9 0), .int x1].toArray s 0 0 A) 5 25 [] [(0, .ref (ad 9 0)), (1, .int v1), (2, .int v2)] w := by
    intro v1 k hk n
    induction n with
    | zero => intro w v2 hf; rw [lp_X9_closesBy_25] at hf; cases hf
    | succ n ih =>
      intro w v2 hf _ _ ls hP hS hl
      rw [lp_X9_closesBy_25] at hf
      refine lv_iload_n hx hb dX9_closesBy_25 rfl (lv_at hl 2 rfl) ?_
      refine lv_bipush (v := (12 : Int32)) hx hb dX9_closesBy_26 (by decide) ?_
      refine lv_icmp_gt (tgt := 66) hx hb dX9_closesBy_28 (by decide) (fun c21 => ?_) (fun c21 => ?_)
      · have hf := ifp hf c21
        exact hk w hf _ _ ls hP hS (lv_sub hl [0] rfl)
      · have hf := ifn hf c21
        refine lv_iload_n hx hb dX9_closesBy_31 rfl (lv_at hl 1 rfl) ?_
        refine lv_iload_n hx hb dX9_closesBy_32 rfl (lv_at hl 2 rfl) ?_
        refine lv_ishr hx hb dX9_closesBy_33 ?_
        refine lv_iconst (v := (1 : Int32)) hx hb dX9_closesBy_34 (by decide) ?_
        refine lv_iand hx hb dX9_closesBy_35 ?_
        refine lv_iconst (v := (1 : Int32)) hx hb dX9_closesBy_36 (by decide) ?_
        refine lv_icmp_ne (tgt := 60) hx hb dX9_closesBy_37 (by decide) (fun c20 => ?_) (fun c20 => ?_)
        · have hf := ifn hf c20
          refine lv_iinc (v := (v2 + (1 : Int32))) (lv' := [(2, .int (v2 + (1 : Int32))), (0, .ref (ad 9 0)), (1, .int v1)]) hx hb dX9_closesBy_60 hl (k := 2) rfl rfl (by decide) rfl (fun ls hl => ?_)
          refine lv_goto (tgt := 25) hx hb dX9_closesBy_63 (by decide) ?_
          exact ih w (v2 + (1 : Int32)) hf _ _ ls hP hS (lv_sub hl [1, 2, 0] rfl)
        · have hf := ifp hf c20
          refine lv_aload_n hx hb dX9_closesBy_40 rfl (lv_at hl 0 rfl) ?_
          refine lv_aload_n hx hb dX9_closesBy_41 rfl (lv_at hl 0 rfl) ?_
          refine gt_9_44 (i := 0) C hP (hok.2.1 9 0 (Nat.le_of_ble_eq_true rfl)) lk_X9_71 dX9_closesBy_42 ?_
          refine lv_aload_n hx hb dX9_closesBy_45 rfl (lv_at hl 0 rfl) ?_
          refine gt_9_31 (i := 0) C hP (hok.2.1 9 0 (Nat.le_of_ble_eq_true rfl)) lk_X9_38 dX9_closesBy_46 ?_
          refine lv_iload_n hx hb dX9_closesBy_49 rfl (lv_at hl 2 rfl) ?_
          obtain ⟨b17, hf⟩ := gsp hf
          refine ra_ild (k := 48) (i := 0) (n := 13) (f := (gA w 48 0)) C hP (hok.2.1 48 0 (Nat.le_of_ble_eq_true rfl)) rfl b17 dX9_closesBy_50 ?_
          refine lv_aload_n hx hb dX9_closesBy_51 rfl (lv_at hl 0 rfl) ?_
          refine gt_9_32 (i := 0) C hP (hok.2.1 9 0 (Nat.le_of_ble_eq_true rfl)) lk_X9_41 dX9_closesBy_52 ?_
          refine lv_iload_n hx hb dX9_closesBy_55 rfl (lv_at hl 2 rfl) ?_
          refine ra_ild (k := 49) (i := 0) (n := 13) (f := (gA w 49 0)) C hP (hok.2.1 49 0 (Nat.le_of_ble_eq_true rfl)) rfl b17 dX9_closesBy_56 ?_
          obtain ⟨z18, q19, hf⟩ := bsp hf
          refine kc_V (ci := 9) (i := 0) (As := [.ref (ad 59 0), .int (gA w 48 0 v2.toNatClampNeg), .int (gA w 49 0 v2.toNatClampNeg)]) (rest := []) hok.2.2 C hP hS hl.1 (hok.2.1 9 0 (Nat.le_of_ble_eq_true rfl)) rfl rfl cw_X9_unites ml_X9_269 (c_X9_unites l D ca ad PL Z A hok N w 59 (Nat.le_of_ble_eq_true rfl) rfl rfl (gA w 48 0 v2.toNatClampNeg) (gA w 49 0 v2.toNatClampNeg) z18 q19) rfl ⟨rfl, rfl⟩ ⟨Nat.le_of_ble_eq_true rfl, Nat.le_of_ble_eq_true rfl⟩ ⟨Nat.zero_le _, Nat.zero_le _⟩ (Nat.le_of_ble_eq_true rfl) rfl dX9_closesBy_57 (fun H locs hP hS => ?_)
          refine lv_iinc (v := (v2 + (1 : Int32))) (lv' := [(2, .int (v2 + (1 : Int32))), (0, .ref (ad 9 0)), (1, .int v1)]) hx hb dX9_closesBy_60 hl (k := 2) rfl rfl (by decide) rfl (fun ls hl => ?_)
          refine lv_goto (tgt := 25) hx hb dX9_closesBy_63 (by decide) ?_
          exact ih z18 (v2 + (1 : Int32)) hf _ _ ls hP hS (lv_sub hl [1, 2, 0] rfl)
  have P_f_X9_closesBy_23 : ∀ (w : Mem) (v1 : Int32), f_X9_closesBy_23 N w  v1  = some w' → WP p l e (rmk 2) s m [.ref (ad 9 0), .int x1].toArray below meth c D ca ad PL A (MQ below (qcR D ca ad PL Z A w' none) [.ref (ad 9 0), .int x1].toArray s 0 0 A) 5 23 [] [(0, .ref (ad 9 0)), (1, .int v1)] w := by
    intro w v1 hf _ _ ls hP hS hl
    unfold f_X9_closesBy_23 at hf
    refine lv_iconst (v := (0 : Int32)) hx hb dX9_closesBy_23 (by decide) ?_
    refine lv_istore_n (lv' := [(2, .int (0 : Int32)), (0, .ref (ad 9 0)), (1, .int v1)]) hx hb dX9_closesBy_24 rfl hl (by decide) rfl (fun ls hl => ?_)
    exact L_lp_X9_closesBy_25 v1 _ (fun w_2 hf H locs ls hP hS hl => P_f_X9_closesBy_66 w_2 hf _ _ ls hP hS (lv_sub hl [0] rfl)) N w (0 : Int32) hf _ _ ls hP hS (lv_sub hl [1, 2, 0] rfl)
  have L_lp_X9_closesBy_2 : ∀ (v1 : Int32) (k : Mem → Option (Mem)) (hk : ∀ (w : Mem), k w = some w' → WP p l e (rmk 2) s m [.ref (ad 9 0), .int x1].toArray below meth c D ca ad PL A (MQ below (qcR D ca ad PL Z A w' none) [.ref (ad 9 0), .int x1].toArray s 0 0 A) 5 23 [] [(0, .ref (ad 9 0)), (1, .int v1)] w) (n : Nat) (w : Mem) (v2 : Int32), lp_X9_closesBy_2 k N   v1 n w v2 = some w' → WP p l e (rmk 2) s m [.ref (ad 9 0), .int x1].toArray below meth c D ca ad PL A (MQ below (qcR D ca ad PL Z A w' none) [.ref (ad 9 0), .int x1].toArray s 0 0 A) 5 2 [] [(0, .ref (ad 9 0)), (1, .int v1), (2, .int v2)] w := by
    intro v1 k hk n
    induction n with
    | zero => intro w v2 hf; rw [lp_X9_closesBy_2] at hf; cases hf
    | succ n ih =>
      intro w v2 hf _ _ ls hP hS hl
      rw [lp_X9_closesBy_2] at hf
      refine lv_iload_n hx hb dX9_closesBy_2 rfl (lv_at hl 2 rfl) ?_
      refine lv_aload_n hx hb dX9_closesBy_3 rfl (lv_at hl 0 rfl) ?_
      refine gt_9_27 (i := 0) C hP (hok.2.1 9 0 (Nat.le_of_ble_eq_true rfl)) lk_X9_250 dX9_closesBy_4 ?_
      refine lv_icmp_ge (tgt := 23) hx hb dX9_closesBy_7 (by decide) (fun c23 => ?_) (fun c23 => ?_)
      · have hf := ifp hf c23
        exact hk w hf _ _ ls hP hS (lv_sub hl [0, 1] rfl)
      · have hf := ifn hf c23
        refine lv_aload_n hx hb dX9_closesBy_10 rfl (lv_at hl 0 rfl) ?_
        refine gt_9_44 (i := 0) C hP (hok.2.1 9 0 (Nat.le_of_ble_eq_true rfl)) lk_X9_71 dX9_closesBy_11 ?_
        refine lv_iload_n hx hb dX9_closesBy_14 rfl (lv_at hl 2 rfl) ?_
        refine lv_iload_n hx hb dX9_closesBy_15 rfl (lv_at hl 2 rfl) ?_
        obtain ⟨b22, hf⟩ := gsp hf
        refine ra_ist (k := 59) (i := 0) (n := 24) C hok.1 hP hS (hok.2.1 59 0 (Nat.le_of_ble_eq_true rfl)) (fun _ => rfl) b22 dX9_closesBy_16 (fun H locs hP hS => ?_)
        refine lv_iinc (v := (v2 + (1 : Int32))) (lv' := [(2, .int (v2 + (1 : Int32))), (0, .ref (ad 9 0)), (1, .int v1)]) hx hb dX9_closesBy_17 hl (k := 2) rfl rfl (by decide) rfl (fun ls hl => ?_)
        refine lv_goto (tgt := 2) hx hb dX9_closesBy_20 (by decide) ?_
        exact ih (sA w 59 0 v2.toNatClampNeg v2) (v2 + (1 : Int32)) hf _ _ ls hP hS (lv_sub hl [1, 2, 0] rfl)
  unfold f_X9_closesBy at hf
  -- walk
  refine lv_iconst (v := (0 : Int32)) hx hb dX9_closesBy_0 (by decide) ?_
  refine lv_istore_n (lv' := [(2, .int (0 : Int32)), (0, .ref (ad 9 0)), (1, .int x1)]) hx hb dX9_closesBy_1 rfl hl (by decide) rfl (fun ls hl => ?_)
  exact L_lp_X9_closesBy_2 x1 _ (fun w_1 hf H locs ls hP hS hl => P_f_X9_closesBy_23 w_1 x1 hf _ _ ls hP hS (lv_sub hl [0, 1] rfl)) N w (0 : Int32) hf _ _ ls hP hS (lv_sub hl [1, 2, 0] rfl)
def f_X9_isOneBy (N : Nat) (w : Mem) (x1 : Int32) (x2 : Int32) (x3 : Int32) : Option (Mem × Int32) :=
  (Option.bind (f_X9_closesBy N w x1) (fun z1 => (if inb x2 24 = true then (if inb x3 24 = true then (if (gA z1 59 0 x2.toNatClampNeg) = (gA z1 59 0 x3.toNatClampNeg) then
some (z1, (1 : Int32))
else
some (z1, (0 : Int32))) else none) else none)))
set_option maxRecDepth 100000 in
set_option maxHeartbeats 4000000 in
theorem c_X9_isOneBy (l : Launch) (D : va_G) (ca : Nat → ClassId) (ad : Nat → Nat → Nat) (PL : List (Nat × Nat)) (Z : State → Prop) (A : Nat → Prop) (hok : okc bM Z A ad PL) (N : Nat) (w : Mem) (x1 : Int32) (x2 : Int32) (x3 : Int32) (w' : Mem) (r : Int32) (hf : f_X9_isOneBy N w x1 x2 x3 = some (w', r)) : CT l yX9_isOneBy (wsy yX9_isOneBy cX9_isOneBy 4 (some .boolean)) (rmk 3) D ca ad PL Z A [.ref (ad 9 0), .int x1, .int x2, .int x3] w w' (some (.int r)) := by
  refine Met.ofW (cc := cX9_isOneBy) (maxL := 4) (ret := (some .boolean)) (by decide +kernel) rfl ?_
  intro p e s m args below meth c s₁ B hml hv
  obtain ⟨rfl, hP, hK, hZ⟩ := hv
  have hx := B.exec
  have hb := B.bytes
  have hr := B.returns
  have hlocks := B.notSynchronized
  have hts : ∀ w ∈ ALL, w.before _ s = true := fun w hw => atoms_spec (ws := wsy yX9_isOneBy cX9_isOneBy 4 (some .boolean)) B.pre w (List.mem_cons_of_mem _ hw)
  have hown : s.vm.findClass RX9 = some m.cls := findClass_of_methodNamed B.named
  have C : CX p s m _ c cX9_isOneBy RX9 4 D ca Z := ⟨hx, hb, hml, hown, hts, hK, hZ⟩
  have hS : va_S A s.heap s.heap [] := va_S.rf
  have hl := lv_entry ([.ref (ad 9 0), .int x1, .int x2, .int x3]) (n := 4) (Nat.le_of_ble_eq_true rfl)
  rw [lg_entry_eq]
  generalize (lg_sl ([.ref (ad 9 0), .int x1, .int x2, .int x3]) ++ List.replicate (4 - (lg_sl ([.ref (ad 9 0), .int x1, .int x2, .int x3])).length) Slot.unset).toArray = ls at hl ⊢
  have hl : lv_has ls 4 [(0, .ref (ad 9 0)), (1, .int x1), (2, .int x2), (3, .int x3)] := hl
  show W p l e (rmk 3) s m _ below meth c s.heap [] 0 0 _ _
  unfold f_X9_isOneBy at hf
  -- walk
  refine lv_aload_n hx hb dX9_isOneBy_0 rfl (lv_at hl 0 rfl) ?_
  refine lv_iload_n hx hb dX9_isOneBy_1 rfl (lv_at hl 1 rfl) ?_
  obtain ⟨z1, q2, hf⟩ := bsp hf
  refine kc_V (ci := 9) (i := 0) (As := [.int x1]) (rest := []) hok.2.2 C hP hS hl.1 (hok.2.1 9 0 (Nat.le_of_ble_eq_true rfl)) rfl rfl cw_X9_closesBy ml_X9_303 (c_X9_closesBy l D ca ad PL Z A hok N w x1 z1 q2) rfl ⟨rfl, rfl⟩ ⟨Nat.le_of_ble_eq_true rfl, Nat.le_of_ble_eq_true rfl⟩ ⟨Nat.zero_le _, Nat.zero_le _⟩ (Nat.le_of_ble_eq_true rfl) rfl dX9_isOneBy_2 (fun H locs hP hS => ?_)
  refine lv_aload_n hx hb dX9_isOneBy_5 rfl (lv_at hl 0 rfl) ?_
  refine gt_9_44 (i := 0) C hP (hok.2.1 9 0 (Nat.le_of_ble_eq_true rfl)) lk_X9_71 dX9_isOneBy_6 ?_
  refine lv_iload_n hx hb dX9_isOneBy_9 rfl (lv_at hl 2 rfl) ?_
  obtain ⟨b3, hf⟩ := gsp hf
  refine ra_ild (k := 59) (i := 0) (n := 24) (f := (gA z1 59 0)) C hP (hok.2.1 59 0 (Nat.le_of_ble_eq_true rfl)) rfl b3 dX9_isOneBy_10 ?_
  refine lv_aload_n hx hb dX9_isOneBy_11 rfl (lv_at hl 0 rfl) ?_
  refine gt_9_44 (i := 0) C hP (hok.2.1 9 0 (Nat.le_of_ble_eq_true rfl)) lk_X9_71 dX9_isOneBy_12 ?_
  refine lv_iload_n hx hb dX9_isOneBy_15 rfl (lv_at hl 3 rfl) ?_
  obtain ⟨b4, hf⟩ := gsp hf
  refine ra_ild (k := 59) (i := 0) (n := 24) (f := (gA z1 59 0)) C hP (hok.2.1 59 0 (Nat.le_of_ble_eq_true rfl)) rfl b4 dX9_isOneBy_16 ?_
  refine lv_icmp_ne (tgt := 24) hx hb dX9_isOneBy_17 (by decide) (fun c5 => ?_) (fun c5 => ?_)
  · have hf := ifn hf c5
    refine lv_iconst (v := (0 : Int32)) hx hb dX9_isOneBy_24 (by decide) ?_
    exact kr_i hok.2.2 C hlocks hr rfl hP hS (congrArg Prod.fst (Option.some.inj hf)) (congrArg Prod.snd (Option.some.inj hf)) dX9_isOneBy_25
  · have hf := ifp hf c5
    refine lv_iconst (v := (1 : Int32)) hx hb dX9_isOneBy_20 (by decide) ?_
    refine lv_goto (tgt := 25) hx hb dX9_isOneBy_21 (by decide) ?_
    exact kr_i hok.2.2 C hlocks hr rfl hP hS (congrArg Prod.fst (Option.some.inj hf)) (congrArg Prod.snd (Option.some.inj hf)) dX9_isOneBy_25
def f_X9_groupsIn_33 (N : Nat) (w : Mem) (k1 : Nat) (v2 : Int32) : Option (Int32) :=
  some v2
def lp_X9_groupsIn_4 (k : Int32 → Option (Int32)) (N : Nat) (w : Mem) (k1 : Nat) : Nat → Int32 → Int32 → Option (Int32)
  | 0, _, _ => none
  | n + 1, v2, v3 => (if (gF w 9 27 0) ≤ v3 then
(k v2)
else
(if inb v3 (alen k1) = true then (if (gA w k1 0 v3.toNatClampNeg) = v3 then
(lp_X9_groupsIn_4 k N w k1  n (v2 + (1 : Int32)) (v3 + (1 : Int32)))
else
(lp_X9_groupsIn_4 k N w k1  n (v2 + (0 : Int32)) (v3 + (1 : Int32)))) else none))
def f_X9_groupsIn (N : Nat) (w : Mem) (k1 : Nat) : Option (Int32) :=
  (lp_X9_groupsIn_4 (fun (u2_1 : Int32) => (f_X9_groupsIn_33 N w k1 u2_1 )) N w k1  N (0 : Int32) (0 : Int32))
set_option maxRecDepth 100000 in
set_option maxHeartbeats 4000000 in
theorem c_X9_groupsIn (l : Launch) (D : va_G) (ca : Nat → ClassId) (ad : Nat → Nat → Nat) (PL : List (Nat × Nat)) (Z : State → Prop) (A : Nat → Prop) (hok : okc bM Z A ad PL) (N : Nat) (w : Mem) (k1 : Nat) (hk1 : 10 ≤ k1) (he1 : ety k1 = 0) (hb1 : bM k1 = 1) (r : Int32) (hf : f_X9_groupsIn N w k1 = some r) : CT l yX9_groupsIn (wsy yX9_groupsIn cX9_groupsIn 4 (some .int)) (rmk 0) D ca ad PL Z A [.ref (ad 9 0), .ref (ad k1 0)] w w (some (.int r)) := by
  refine Met.ofW (cc := cX9_groupsIn) (maxL := 4) (ret := (some .int)) (by decide +kernel) rfl ?_
  intro p e s m args below meth c s₁ B hml hv
  obtain ⟨rfl, hP, hK, hZ⟩ := hv
  have hx := B.exec
  have hb := B.bytes
  have hr := B.returns
  have hlocks := B.notSynchronized
  have hts : ∀ w ∈ ALL, w.before _ s = true := fun w hw => atoms_spec (ws := wsy yX9_groupsIn cX9_groupsIn 4 (some .int)) B.pre w (List.mem_cons_of_mem _ hw)
  have hown : s.vm.findClass RX9 = some m.cls := findClass_of_methodNamed B.named
  have C : CX p s m _ c cX9_groupsIn RX9 4 D ca Z := ⟨hx, hb, hml, hown, hts, hK, hZ⟩
  have hS : va_S A s.heap s.heap [] := va_S.rf
  have hl := lv_entry ([.ref (ad 9 0), .ref (ad k1 0)]) (n := 4) (Nat.le_of_ble_eq_true rfl)
  rw [lg_entry_eq]
  generalize (lg_sl ([.ref (ad 9 0), .ref (ad k1 0)]) ++ List.replicate (4 - (lg_sl ([.ref (ad 9 0), .ref (ad k1 0)])).length) Slot.unset).toArray = ls at hl ⊢
  have hl : lv_has ls 4 [(0, .ref (ad 9 0)), (1, .ref (ad k1 0))] := hl
  show W p l e (rmk 0) s m _ below meth c s.heap [] 0 0 _ _
  have P_f_X9_groupsIn_33 : ∀ (v2 : Int32), f_X9_groupsIn_33 N w k1 v2  = some r → WP p l e (rmk 0) s m [.ref (ad 9 0), .ref (ad k1 0)].toArray below meth c D ca ad PL A (MQ below (qcR D ca ad PL Z A w (some (.int r))) [.ref (ad 9 0), .ref (ad k1 0)].toArray s 0 0 A) 4 33 [] [(2, .int v2)] w := by
    intro v2 hf _ _ ls hP hS hl
    unfold f_X9_groupsIn_33 at hf
    refine lv_iload_n hx hb dX9_groupsIn_33 rfl (lv_at hl 0 rfl) ?_
    exact kr_i hok.2.2 C hlocks hr rfl hP hS rfl (Option.some.inj hf) dX9_groupsIn_34
  have L_lp_X9_groupsIn_4 : ∀ (k : Int32 → Option (Int32)) (hk : ∀ (v2 : Int32), k v2 = some r → WP p l e (rmk 0) s m [.ref (ad 9 0), .ref (ad k1 0)].toArray below meth c D ca ad PL A (MQ below (qcR D ca ad PL Z A w (some (.int r))) [.ref (ad 9 0), .ref (ad k1 0)].toArray s 0 0 A) 4 33 [] [(2, .int v2)] w) (n : Nat) (v2 : Int32) (v3 : Int32), lp_X9_groupsIn_4 k N w k1  n v2 v3 = some r → WP p l e (rmk 0) s m [.ref (ad 9 0), .ref (ad k1 0)].toArray below meth c D ca ad PL A (MQ below (qcR D ca ad PL Z A w (some (.int r))) [.ref (ad 9 0), .ref (ad k1 0)].toArray s 0 0 A) 4 4 [] [(0, .ref (ad 9 0)), (1, .ref (ad k1 0)), (2, .int v2), (3, .int v3)] w := by
    intro k hk n
    induction n with
    | zero => intro v2 v3 hf; rw [lp_X9_groupsIn_4] at hf; cases hf
    | succ n ih =>
      intro v2 v3 hf _ _ ls hP hS hl
      rw [lp_X9_groupsIn_4] at hf
      refine lv_iload_n hx hb dX9_groupsIn_4 rfl (lv_at hl 3 rfl) ?_
      refine lv_aload_n hx hb dX9_groupsIn_5 rfl (lv_at hl 0 rfl) ?_
      refine gt_9_27 (i := 0) C hP (hok.2.1 9 0 (Nat.le_of_ble_eq_true rfl)) lk_X9_250 dX9_groupsIn_6 ?_
      refine lv_icmp_ge (tgt := 33) hx hb dX9_groupsIn_9 (by decide) (fun c4 => ?_) (fun c4 => ?_)
      · have hf := ifp hf c4
        exact hk v2 hf _ _ ls hP hS (lv_sub hl [2] rfl)
      · have hf := ifn hf c4
        refine lv_iload_n hx hb dX9_groupsIn_12 rfl (lv_at hl 2 rfl) ?_
        refine lv_aload_n hx hb dX9_groupsIn_13 rfl (lv_at hl 1 rfl) ?_
        refine lv_iload_n hx hb dX9_groupsIn_14 rfl (lv_at hl 3 rfl) ?_
        obtain ⟨b2, hf⟩ := gsp hf
        refine ra_ild (k := k1) (i := 0) (n := (alen k1)) (f := (gA w k1 0)) C hP (hok.2.1 k1 0 (by rw [hb1]; exact Nat.zero_lt_one)) (ent_i ca ad w 0 hk1 he1) b2 dX9_groupsIn_15 ?_
        refine lv_iload_n hx hb dX9_groupsIn_16 rfl (lv_at hl 3 rfl) ?_
        refine lv_icmp_ne (tgt := 24) hx hb dX9_groupsIn_17 (by decide) (fun c3 => ?_) (fun c3 => ?_)
        · have hf := ifn hf c3
          refine lv_iconst (v := (0 : Int32)) hx hb dX9_groupsIn_24 (by decide) ?_
          refine lv_iadd hx hb dX9_groupsIn_25 ?_
          refine lv_istore_n (lv' := [(2, .int (v2 + (0 : Int32))), (0, .ref (ad 9 0)), (1, .ref (ad k1 0)), (3, .int v3)]) hx hb dX9_groupsIn_26 rfl hl (by decide) rfl (fun ls hl => ?_)
          refine lv_iinc (v := (v3 + (1 : Int32))) (lv' := [(3, .int (v3 + (1 : Int32))), (2, .int (v2 + (0 : Int32))), (0, .ref (ad 9 0)), (1, .ref (ad k1 0))]) hx hb dX9_groupsIn_27 hl (k := 3) rfl rfl (by decide) rfl (fun ls hl => ?_)
          refine lv_goto (tgt := 4) hx hb dX9_groupsIn_30 (by decide) ?_
          exact ih (v2 + (0 : Int32)) (v3 + (1 : Int32)) hf _ _ ls hP hS (lv_sub hl [2, 3, 1, 0] rfl)
        · have hf := ifp hf c3
          refine lv_iconst (v := (1 : Int32)) hx hb dX9_groupsIn_20 (by decide) ?_
          refine lv_goto (tgt := 25) hx hb dX9_groupsIn_21 (by decide) ?_
          refine lv_iadd hx hb dX9_groupsIn_25 ?_
          refine lv_istore_n (lv' := [(2, .int (v2 + (1 : Int32))), (0, .ref (ad 9 0)), (1, .ref (ad k1 0)), (3, .int v3)]) hx hb dX9_groupsIn_26 rfl hl (by decide) rfl (fun ls hl => ?_)
          refine lv_iinc (v := (v3 + (1 : Int32))) (lv' := [(3, .int (v3 + (1 : Int32))), (2, .int (v2 + (1 : Int32))), (0, .ref (ad 9 0)), (1, .ref (ad k1 0))]) hx hb dX9_groupsIn_27 hl (k := 3) rfl rfl (by decide) rfl (fun ls hl => ?_)
          refine lv_goto (tgt := 4) hx hb dX9_groupsIn_30 (by decide) ?_
          exact ih (v2 + (1 : Int32)) (v3 + (1 : Int32)) hf _ _ ls hP hS (lv_sub hl [2, 3, 1, 0] rfl)
  unfold f_X9_groupsIn at hf
  -- walk
  refine lv_iconst (v := (0 : Int32)) hx hb dX9_groupsIn_0 (by decide) ?_
  refine lv_istore_n (lv' := [(2, .int (0 : Int32)), (0, .ref (ad 9 0)), (1, .ref (ad k1 0))]) hx hb dX9_groupsIn_1 rfl hl (by decide) rfl (fun ls hl => ?_)
  refine lv_iconst (v := (0 : Int32)) hx hb dX9_groupsIn_2 (by decide) ?_
  refine lv_istore_n (lv' := [(3, .int (0 : Int32)), (2, .int (0 : Int32)), (0, .ref (ad 9 0)), (1, .ref (ad k1 0))]) hx hb dX9_groupsIn_3 rfl hl (by decide) rfl (fun ls hl => ?_)
  exact L_lp_X9_groupsIn_4 _ (fun u2_1 hf H locs ls hP hS hl => P_f_X9_groupsIn_33 u2_1 hf _ _ ls hP hS (lv_sub hl [0] rfl)) N (0 : Int32) (0 : Int32) hf _ _ ls hP hS (lv_sub hl [2, 3, 1, 0] rfl)
def f_X9_clashIn_37 (N : Nat) (w : Mem) (k1 : Nat) : Option (Int32) :=
  some (-2 : Int32)
def lp_X9_clashIn_2 (k : Option (Int32)) (N : Nat) (w : Mem) (k1 : Nat) : Nat → Int32 → Option (Int32)
  | 0, _ => none
  | n + 1, v2 => (if (gF w 9 33 0) ≤ v2 then
(k )
else
(if inb v2 8 = true then (if inb (gA w 50 0 v2.toNatClampNeg) (alen k1) = true then (if inb (gA w 51 0 v2.toNatClampNeg) (alen k1) = true then (if (gA w k1 0 (gA w 50 0 v2.toNatClampNeg).toNatClampNeg) = (gA w k1 0 (gA w 51 0 v2.toNatClampNeg).toNatClampNeg) then
some v2
else
(lp_X9_clashIn_2 k N w k1  n (v2 + (1 : Int32)))) else none) else none) else none))
def f_X9_clashIn (N : Nat) (w : Mem) (k1 : Nat) : Option (Int32) :=
  (lp_X9_clashIn_2 (f_X9_clashIn_37 N w k1  ) N w k1  N (0 : Int32))
set_option maxRecDepth 100000 in
set_option maxHeartbeats 4000000 in
theorem c_X9_clashIn (l : Launch) (D : va_G) (ca : Nat → ClassId) (ad : Nat → Nat → Nat) (PL : List (Nat × Nat)) (Z : State → Prop) (A : Nat → Prop) (hok : okc bM Z A ad PL) (N : Nat) (w : Mem) (k1 : Nat) (hk1 : 10 ≤ k1) (he1 : ety k1 = 0) (hb1 : bM k1 = 1) (r : Int32) (hf : f_X9_clashIn N w k1 = some r) : CT l yX9_clashIn (wsy yX9_clashIn cX9_clashIn 3 (some .int)) (rmk 0) D ca ad PL Z A [.ref (ad 9 0), .ref (ad k1 0)] w w (some (.int r)) := by
  refine Met.ofW (cc := cX9_clashIn) (maxL := 3) (ret := (some .int)) (by decide +kernel) rfl ?_
  intro p e s m args below meth c s₁ B hml hv
  obtain ⟨rfl, hP, hK, hZ⟩ := hv
  have hx := B.exec
  have hb := B.bytes
  have hr := B.returns
  have hlocks := B.notSynchronized
  have hts : ∀ w ∈ ALL, w.before _ s = true := fun w hw => atoms_spec (ws := wsy yX9_clashIn cX9_clashIn 3 (some .int)) B.pre w (List.mem_cons_of_mem _ hw)
  have hown : s.vm.findClass RX9 = some m.cls := findClass_of_methodNamed B.named
  have C : CX p s m _ c cX9_clashIn RX9 3 D ca Z := ⟨hx, hb, hml, hown, hts, hK, hZ⟩
  have hS : va_S A s.heap s.heap [] := va_S.rf
  have hl := lv_entry ([.ref (ad 9 0), .ref (ad k1 0)]) (n := 3) (Nat.le_of_ble_eq_true rfl)
  rw [lg_entry_eq]
  generalize (lg_sl ([.ref (ad 9 0), .ref (ad k1 0)]) ++ List.replicate (3 - (lg_sl ([.ref (ad 9 0), .ref (ad k1 0)])).length) Slot.unset).toArray = ls at hl ⊢
  have hl : lv_has ls 3 [(0, .ref (ad 9 0)), (1, .ref (ad k1 0))] := hl
  show W p l e (rmk 0) s m _ below meth c s.heap [] 0 0 _ _
  have P_f_X9_clashIn_37 : f_X9_clashIn_37 N w k1   = some r → WP p l e (rmk 0) s m [.ref (ad 9 0), .ref (ad k1 0)].toArray below meth c D ca ad PL A (MQ below (qcR D ca ad PL Z A w (some (.int r))) [.ref (ad 9 0), .ref (ad k1 0)].toArray s 0 0 A) 3 37 [] [] w := by
    intro  hf _ _ ls hP hS hl
    unfold f_X9_clashIn_37 at hf
    refine lv_bipush (v := (-2 : Int32)) hx hb dX9_clashIn_37 (by decide) ?_
    exact kr_i hok.2.2 C hlocks hr rfl hP hS rfl (Option.some.inj hf) dX9_clashIn_39
  have L_lp_X9_clashIn_2 : ∀ (k : Option (Int32)) (hk : k = some r → WP p l e (rmk 0) s m [.ref (ad 9 0), .ref (ad k1 0)].toArray below meth c D ca ad PL A (MQ below (qcR D ca ad PL Z A w (some (.int r))) [.ref (ad 9 0), .ref (ad k1 0)].toArray s 0 0 A) 3 37 [] [] w) (n : Nat) (v2 : Int32), lp_X9_clashIn_2 k N w k1  n v2 = some r → WP p l e (rmk 0) s m [.ref (ad 9 0), .ref (ad k1 0)].toArray below meth c D ca ad PL A (MQ below (qcR D ca ad PL Z A w (some (.int r))) [.ref (ad 9 0), .ref (ad k1 0)].toArray s 0 0 A) 3 2 [] [(0, .ref (ad 9 0)), (1, .ref (ad k1 0)), (2, .int v2)] w := by
    intro k hk n
    induction n with
    | zero => intro v2 hf; rw [lp_X9_clashIn_2] at hf; cases hf
    | succ n ih =>
      intro v2 hf _ _ ls hP hS hl
      rw [lp_X9_clashIn_2] at hf
      refine lv_iload_n hx hb dX9_clashIn_2 rfl (lv_at hl 2 rfl) ?_
      refine lv_aload_n hx hb dX9_clashIn_3 rfl (lv_at hl 0 rfl) ?_
      refine gt_9_33 (i := 0) C hP (hok.2.1 9 0 (Nat.le_of_ble_eq_true rfl)) lk_X9_297 dX9_clashIn_4 ?_
      refine lv_icmp_ge (tgt := 37) hx hb dX9_clashIn_7 (by decide) (fun c6 => ?_) (fun c6 => ?_)
      · have hf := ifp hf c6
        exact hk  hf _ _ ls hP hS (lv_sub hl [] rfl)
      · have hf := ifn hf c6
        refine lv_aload_n hx hb dX9_clashIn_10 rfl (lv_at hl 1 rfl) ?_
        refine lv_aload_n hx hb dX9_clashIn_11 rfl (lv_at hl 0 rfl) ?_
        refine gt_9_34 (i := 0) C hP (hok.2.1 9 0 (Nat.le_of_ble_eq_true rfl)) lk_X9_44 dX9_clashIn_12 ?_
        refine lv_iload_n hx hb dX9_clashIn_15 rfl (lv_at hl 2 rfl) ?_
        obtain ⟨b2, hf⟩ := gsp hf
        refine ra_ild (k := 50) (i := 0) (n := 8) (f := (gA w 50 0)) C hP (hok.2.1 50 0 (Nat.le_of_ble_eq_true rfl)) rfl b2 dX9_clashIn_16 ?_
        obtain ⟨b3, hf⟩ := gsp hf
        refine ra_ild (k := k1) (i := 0) (n := (alen k1)) (f := (gA w k1 0)) C hP (hok.2.1 k1 0 (by rw [hb1]; exact Nat.zero_lt_one)) (ent_i ca ad w 0 hk1 he1) b3 dX9_clashIn_17 ?_
        refine lv_aload_n hx hb dX9_clashIn_18 rfl (lv_at hl 1 rfl) ?_
        refine lv_aload_n hx hb dX9_clashIn_19 rfl (lv_at hl 0 rfl) ?_
        refine gt_9_35 (i := 0) C hP (hok.2.1 9 0 (Nat.le_of_ble_eq_true rfl)) lk_X9_47 dX9_clashIn_20 ?_
        refine lv_iload_n hx hb dX9_clashIn_23 rfl (lv_at hl 2 rfl) ?_
        refine ra_ild (k := 51) (i := 0) (n := 8) (f := (gA w 51 0)) C hP (hok.2.1 51 0 (Nat.le_of_ble_eq_true rfl)) rfl b2 dX9_clashIn_24 ?_
        obtain ⟨b4, hf⟩ := gsp hf
        refine ra_ild (k := k1) (i := 0) (n := (alen k1)) (f := (gA w k1 0)) C hP (hok.2.1 k1 0 (by rw [hb1]; exact Nat.zero_lt_one)) (ent_i ca ad w 0 hk1 he1) b4 dX9_clashIn_25 ?_
        refine lv_icmp_ne (tgt := 31) hx hb dX9_clashIn_26 (by decide) (fun c5 => ?_) (fun c5 => ?_)
        · have hf := ifn hf c5
          refine lv_iinc (v := (v2 + (1 : Int32))) (lv' := [(2, .int (v2 + (1 : Int32))), (0, .ref (ad 9 0)), (1, .ref (ad k1 0))]) hx hb dX9_clashIn_31 hl (k := 2) rfl rfl (by decide) rfl (fun ls hl => ?_)
          refine lv_goto (tgt := 2) hx hb dX9_clashIn_34 (by decide) ?_
          exact ih (v2 + (1 : Int32)) hf _ _ ls hP hS (lv_sub hl [1, 2, 0] rfl)
        · have hf := ifp hf c5
          refine lv_iload_n hx hb dX9_clashIn_29 rfl (lv_at hl 2 rfl) ?_
          exact kr_i hok.2.2 C hlocks hr rfl hP hS rfl (Option.some.inj hf) dX9_clashIn_30
  unfold f_X9_clashIn at hf
  -- walk
  refine lv_iconst (v := (0 : Int32)) hx hb dX9_clashIn_0 (by decide) ?_
  refine lv_istore_n (lv' := [(2, .int (0 : Int32)), (0, .ref (ad 9 0)), (1, .ref (ad k1 0))]) hx hb dX9_clashIn_1 rfl hl (by decide) rfl (fun ls hl => ?_)
  exact L_lp_X9_clashIn_2 _ (fun hf H locs ls hP hS hl => P_f_X9_clashIn_37 hf _ _ ls hP hS (lv_sub hl [] rfl)) N (0 : Int32) hf _ _ ls hP hS (lv_sub hl [1, 2, 0] rfl)
def f_X9_allSames (N : Nat) (w : Mem)  : Option (Int32) :=
  some (((1 : Int32) <<< ((gF w 9 30 0) &&& 31)) - (1 : Int32))
set_option maxRecDepth 100000 in
set_option maxHeartbeats 4000000 in
theorem c_X9_allSames (l : Launch) (D : va_G) (ca : Nat → ClassId) (ad : Nat → Nat → Nat) (PL : List (Nat × Nat)) (Z : State → Prop) (A : Nat → Prop) (hok : okc bM Z A ad PL) (N : Nat) (w : Mem)  (r : Int32) (hf : f_X9_allSames N w  = some r) : CT l yX9_allSames (wsy yX9_allSames cX9_allSames 1 (some .int)) (rmk 0) D ca ad PL Z A [.ref (ad 9 0)] w w (some (.int r)) := by
  refine Met.ofW (cc := cX9_allSames) (maxL := 1) (ret := (some .int)) (by decide +kernel) rfl ?_
  intro p e s m args below meth c s₁ B hml hv
  obtain ⟨rfl, hP, hK, hZ⟩ := hv
  have hx := B.exec
  have hb := B.bytes
  have hr := B.returns
  have hlocks := B.notSynchronized
  have hts : ∀ w ∈ ALL, w.before _ s = true := fun w hw => atoms_spec (ws := wsy yX9_allSames cX9_allSames 1 (some .int)) B.pre w (List.mem_cons_of_mem _ hw)
  have hown : s.vm.findClass RX9 = some m.cls := findClass_of_methodNamed B.named
  have C : CX p s m _ c cX9_allSames RX9 1 D ca Z := ⟨hx, hb, hml, hown, hts, hK, hZ⟩
  have hS : va_S A s.heap s.heap [] := va_S.rf
  have hl := lv_entry ([.ref (ad 9 0)]) (n := 1) (Nat.le_of_ble_eq_true rfl)
  rw [lg_entry_eq]
  generalize (lg_sl ([.ref (ad 9 0)]) ++ List.replicate (1 - (lg_sl ([.ref (ad 9 0)])).length) Slot.unset).toArray = ls at hl ⊢
  have hl : lv_has ls 1 [(0, .ref (ad 9 0))] := hl
  show W p l e (rmk 0) s m _ below meth c s.heap [] 0 0 _ _
  unfold f_X9_allSames at hf
  -- walk
  refine lv_iconst (v := (1 : Int32)) hx hb dX9_allSames_0 (by decide) ?_
  refine lv_aload_n hx hb dX9_allSames_1 rfl (lv_at hl 0 rfl) ?_
  refine gt_9_30 (i := 0) C hP (hok.2.1 9 0 (Nat.le_of_ble_eq_true rfl)) lk_X9_287 dX9_allSames_2 ?_
  refine lv_ishl hx hb dX9_allSames_5 ?_
  refine lv_iconst (v := (1 : Int32)) hx hb dX9_allSames_6 (by decide) ?_
  refine lv_isub hx hb dX9_allSames_7 ?_
  exact kr_i hok.2.2 C hlocks hr rfl hP hS rfl (Option.some.inj hf) dX9_allSames_8
def f_X9_isTerm (N : Nat) (w : Mem) (x1 : Int32) : Option (Int32) :=
  (Option.bind (f_X9_in N w x1 (0 : Int32) ((gF w 9 27 0) - (1 : Int32))) (fun z1 => (if z1 = 0 ∨ z1 = 1 then some z1 else none)))
set_option maxRecDepth 100000 in
set_option maxHeartbeats 4000000 in
theorem c_X9_isTerm (l : Launch) (D : va_G) (ca : Nat → ClassId) (ad : Nat → Nat → Nat) (PL : List (Nat × Nat)) (Z : State → Prop) (A : Nat → Prop) (hok : okc bM Z A ad PL) (N : Nat) (w : Mem) (x1 : Int32) (r : Int32) (hf : f_X9_isTerm N w x1 = some r) : CT l yX9_isTerm (wsy yX9_isTerm cX9_isTerm 2 (some .boolean)) (rmk 1) D ca ad PL Z A [.ref (ad 9 0), .int x1] w w (some (.int r)) := by
  refine Met.ofW (cc := cX9_isTerm) (maxL := 2) (ret := (some .boolean)) (by decide +kernel) rfl ?_
  intro p e s m args below meth c s₁ B hml hv
  obtain ⟨rfl, hP, hK, hZ⟩ := hv
  have hx := B.exec
  have hb := B.bytes
  have hr := B.returns
  have hlocks := B.notSynchronized
  have hts : ∀ w ∈ ALL, w.before _ s = true := fun w hw => atoms_spec (ws := wsy yX9_isTerm cX9_isTerm 2 (some .boolean)) B.pre w (List.mem_cons_of_mem _ hw)
  have hown : s.vm.findClass RX9 = some m.cls := findClass_of_methodNamed B.named
  have C : CX p s m _ c cX9_isTerm RX9 2 D ca Z := ⟨hx, hb, hml, hown, hts, hK, hZ⟩
  have hS : va_S A s.heap s.heap [] := va_S.rf
  have hl := lv_entry ([.ref (ad 9 0), .int x1]) (n := 2) (Nat.le_of_ble_eq_true rfl)
  rw [lg_entry_eq]
  generalize (lg_sl ([.ref (ad 9 0), .int x1]) ++ List.replicate (2 - (lg_sl ([.ref (ad 9 0), .int x1])).length) Slot.unset).toArray = ls at hl ⊢
  have hl : lv_has ls 2 [(0, .ref (ad 9 0)), (1, .int x1)] := hl
  show W p l e (rmk 1) s m _ below meth c s.heap [] 0 0 _ _
  unfold f_X9_isTerm at hf
  -- walk
  refine lv_iload_n hx hb dX9_isTerm_0 rfl (lv_at hl 1 rfl) ?_
  refine lv_iconst (v := (0 : Int32)) hx hb dX9_isTerm_1 (by decide) ?_
  refine lv_aload_n hx hb dX9_isTerm_2 rfl (lv_at hl 0 rfl) ?_
  refine gt_9_27 (i := 0) C hP (hok.2.1 9 0 (Nat.le_of_ble_eq_true rfl)) lk_X9_250 dX9_isTerm_3 ?_
  refine lv_iconst (v := (1 : Int32)) hx hb dX9_isTerm_6 (by decide) ?_
  refine lv_isub hx hb dX9_isTerm_7 ?_
  obtain ⟨z1, q2, hf⟩ := bsp hf
  refine kc_S (As := [.int x1, .int (0 : Int32), .int ((gF w 9 27 0) - (1 : Int32))]) (rest := []) hok.2.2 C hP hS hl.1 cw_X9_in ml_X9_132 (c_X9_in l D ca ad PL Z A hok N w x1 (0 : Int32) ((gF w 9 27 0) - (1 : Int32)) z1 q2) rfl ⟨rfl, rfl⟩ ⟨Nat.le_of_ble_eq_true rfl, Nat.le_of_ble_eq_true rfl⟩ ⟨Nat.zero_le _, Nat.zero_le _⟩ (Nat.le_of_ble_eq_true rfl) rfl dX9_isTerm_8 (fun H locs hP hS => ?_)
  obtain ⟨b3, hf⟩ := gsp hf
  exact kr_i hok.2.2 C hlocks hr (nar_z b3) hP hS rfl (Option.some.inj hf) dX9_isTerm_11
def f_X9_about (N : Nat) (w : Mem) (x1 : Int32) : Option (Mem × Int32) :=
  (Option.bind (f_X9_in N w x1 (0 : Int32) (7 : Int32)) (fun z1 => (Option.bind (f_X9_unless N w z1) (fun z3 => (Option.bind (f_X9_isRefused N w z3) (fun z5 => (if z5.2 = (0 : Int32) then
(if x1 = (0 : Int32) then
some (z5.1, (gF z5.1 9 6 0))
else
(if x1 = (1 : Int32) then
some (z5.1, (gF z5.1 9 27 0))
else
(if x1 = (2 : Int32) then
some (z5.1, (gF z5.1 9 30 0))
else
(if x1 = (3 : Int32) then
some (z5.1, (gF z5.1 9 33 0))
else
(if x1 = (4 : Int32) then
(Option.bind (f_X9_groupsIn N z5.1 52) (fun z11 => some (z5.1, z11)))
else
(if x1 = (5 : Int32) then
some (z5.1, ((gF z5.1 9 8 0) - (gF z5.1 9 9 0)))
else
(if x1 = (6 : Int32) then
some (z5.1, (gF z5.1 9 39 0))
else
(Option.bind (f_X9_clashIn N z5.1 52) (fun z16 => some (z5.1, z16))))))))))
else
some (z5.1, (-1 : Int32)))))))))
set_option maxRecDepth 100000 in
set_option maxHeartbeats 4000000 in
theorem c_X9_about (l : Launch) (D : va_G) (ca : Nat → ClassId) (ad : Nat → Nat → Nat) (PL : List (Nat × Nat)) (Z : State → Prop) (A : Nat → Prop) (hok : okc bM Z A ad PL) (N : Nat) (w : Mem) (x1 : Int32) (w' : Mem) (r : Int32) (hf : f_X9_about N w x1 = some (w', r)) : CT l yX9_about (wsy yX9_about cX9_about 2 (some .int)) (rmk 1) D ca ad PL Z A [.ref (ad 9 0), .int x1] w w' (some (.int r)) := by
  refine Met.ofW (cc := cX9_about) (maxL := 2) (ret := (some .int)) (by decide +kernel) rfl ?_
  intro p e s m args below meth c s₁ B hml hv
  obtain ⟨rfl, hP, hK, hZ⟩ := hv
  have hx := B.exec
  have hb := B.bytes
  have hr := B.returns
  have hlocks := B.notSynchronized
  have hts : ∀ w ∈ ALL, w.before _ s = true := fun w hw => atoms_spec (ws := wsy yX9_about cX9_about 2 (some .int)) B.pre w (List.mem_cons_of_mem _ hw)
  have hown : s.vm.findClass RX9 = some m.cls := findClass_of_methodNamed B.named
  have C : CX p s m _ c cX9_about RX9 2 D ca Z := ⟨hx, hb, hml, hown, hts, hK, hZ⟩
  have hS : va_S A s.heap s.heap [] := va_S.rf
  have hl := lv_entry ([.ref (ad 9 0), .int x1]) (n := 2) (Nat.le_of_ble_eq_true rfl)
  rw [lg_entry_eq]
  generalize (lg_sl ([.ref (ad 9 0), .int x1]) ++ List.replicate (2 - (lg_sl ([.ref (ad 9 0), .int x1])).length) Slot.unset).toArray = ls at hl ⊢
  have hl : lv_has ls 2 [(0, .ref (ad 9 0)), (1, .int x1)] := hl
  show W p l e (rmk 1) s m _ below meth c s.heap [] 0 0 _ _
  unfold f_X9_about at hf
  -- walk
  refine lv_aload_n hx hb dX9_about_0 rfl (lv_at hl 0 rfl) ?_
  refine lv_iload_n hx hb dX9_about_1 rfl (lv_at hl 1 rfl) ?_
  refine lv_iconst (v := (0 : Int32)) hx hb dX9_about_2 (by decide) ?_
  refine lv_bipush (v := (7 : Int32)) hx hb dX9_about_3 (by decide) ?_
  obtain ⟨z1, q2, hf⟩ := bsp hf
  refine kc_S (As := [.int x1, .int (0 : Int32), .int (7 : Int32)]) (rest := [.ref (ad 9 0)]) hok.2.2 C hP hS hl.1 cw_X9_in ml_X9_132 (c_X9_in l D ca ad PL Z A hok N w x1 (0 : Int32) (7 : Int32) z1 q2) rfl ⟨rfl, rfl⟩ ⟨Nat.le_of_ble_eq_true rfl, Nat.le_of_ble_eq_true rfl⟩ ⟨Nat.zero_le _, Nat.zero_le _⟩ (Nat.le_of_ble_eq_true rfl) rfl dX9_about_5 (fun H locs hP hS => ?_)
  obtain ⟨z3, q4, hf⟩ := bsp hf
  refine kc_S (As := [.int z1]) (rest := [.ref (ad 9 0)]) hok.2.2 C hP hS hl.1 cw_X9_unless ml_X9_306 (c_X9_unless l D ca ad PL Z A hok N w z1 z3 q4) rfl ⟨rfl, rfl⟩ ⟨Nat.le_of_ble_eq_true rfl, Nat.le_of_ble_eq_true rfl⟩ ⟨Nat.zero_le _, Nat.zero_le _⟩ (Nat.le_of_ble_eq_true rfl) rfl dX9_about_8 (fun H locs hP hS => ?_)
  obtain ⟨z5, q6, hf⟩ := bsp hf
  refine kc_V (ci := 9) (i := 0) (As := [.int z3]) (rest := []) hok.2.2 C hP hS hl.1 (hok.2.1 9 0 (Nat.le_of_ble_eq_true rfl)) rfl rfl cw_X9_isRefused ml_X9_223 (c_X9_isRefused l D ca ad PL Z A hok N w z3 z5.1 z5.2 q6) rfl ⟨rfl, rfl⟩ ⟨Nat.le_of_ble_eq_true rfl, Nat.le_of_ble_eq_true rfl⟩ ⟨Nat.zero_le _, Nat.zero_le _⟩ (Nat.le_of_ble_eq_true rfl) rfl dX9_about_11 (fun H locs hP hS => ?_)
  refine lv_if_eq (tgt := 19) hx hb dX9_about_14 (by decide) (fun c18 => ?_) (fun c18 => ?_)
  · have hf := ifp hf c18
    refine lv_iload_n hx hb dX9_about_19 rfl (lv_at hl 1 rfl) ?_
    by_cases c7 : x1 = (0 : Int32)
    · refine lv_tableIn (tgt := 64) hx hb dX9_about_20 (by rw [c7]; decide) (by rw [c7]; decide) (by rw [c7] <;> rfl) (by decide) ?_
      have hf := ifp hf c7
      refine lv_aload_n hx hb dX9_about_64 rfl (lv_at hl 0 rfl) ?_
      refine gt_9_6 (i := 0) C hP (hok.2.1 9 0 (Nat.le_of_ble_eq_true rfl)) lk_X9_235 dX9_about_65 ?_
      exact kr_i hok.2.2 C hlocks hr rfl hP hS (congrArg Prod.fst (Option.some.inj hf)) (congrArg Prod.snd (Option.some.inj hf)) dX9_about_68
    have hf := ifn hf c7
    by_cases c8 : x1 = (1 : Int32)
    · refine lv_tableIn (tgt := 69) hx hb dX9_about_20 (by rw [c8]; decide) (by rw [c8]; decide) (by rw [c8] <;> rfl) (by decide) ?_
      have hf := ifp hf c8
      refine lv_aload_n hx hb dX9_about_69 rfl (lv_at hl 0 rfl) ?_
      refine gt_9_27 (i := 0) C hP (hok.2.1 9 0 (Nat.le_of_ble_eq_true rfl)) lk_X9_250 dX9_about_70 ?_
      exact kr_i hok.2.2 C hlocks hr rfl hP hS (congrArg Prod.fst (Option.some.inj hf)) (congrArg Prod.snd (Option.some.inj hf)) dX9_about_73
    have hf := ifn hf c8
    by_cases c9 : x1 = (2 : Int32)
    · refine lv_tableIn (tgt := 74) hx hb dX9_about_20 (by rw [c9]; decide) (by rw [c9]; decide) (by rw [c9] <;> rfl) (by decide) ?_
      have hf := ifp hf c9
      refine lv_aload_n hx hb dX9_about_74 rfl (lv_at hl 0 rfl) ?_
      refine gt_9_30 (i := 0) C hP (hok.2.1 9 0 (Nat.le_of_ble_eq_true rfl)) lk_X9_287 dX9_about_75 ?_
      exact kr_i hok.2.2 C hlocks hr rfl hP hS (congrArg Prod.fst (Option.some.inj hf)) (congrArg Prod.snd (Option.some.inj hf)) dX9_about_78
    have hf := ifn hf c9
    by_cases c10 : x1 = (3 : Int32)
    · refine lv_tableIn (tgt := 79) hx hb dX9_about_20 (by rw [c10]; decide) (by rw [c10]; decide) (by rw [c10] <;> rfl) (by decide) ?_
      have hf := ifp hf c10
      refine lv_aload_n hx hb dX9_about_79 rfl (lv_at hl 0 rfl) ?_
      refine gt_9_33 (i := 0) C hP (hok.2.1 9 0 (Nat.le_of_ble_eq_true rfl)) lk_X9_297 dX9_about_80 ?_
      exact kr_i hok.2.2 C hlocks hr rfl hP hS (congrArg Prod.fst (Option.some.inj hf)) (congrArg Prod.snd (Option.some.inj hf)) dX9_about_83
    have hf := ifn hf c10
    by_cases c13 : x1 = (4 : Int32)
    · refine lv_tableIn (tgt := 84) hx hb dX9_about_20 (by rw [c13]; decide) (by rw [c13]; decide) (by rw [c13] <;> rfl) (by decide) ?_
      have hf := ifp hf c13
      refine lv_aload_n hx hb dX9_about_84 rfl (lv_at hl 0 rfl) ?_
      refine lv_aload_n hx hb dX9_about_85 rfl (lv_at hl 0 rfl) ?_
      refine gt_9_36 (i := 0) C hP (hok.2.1 9 0 (Nat.le_of_ble_eq_true rfl)) lk_X9_50 dX9_about_86 ?_
      obtain ⟨z11, q12, hf⟩ := bsp hf
      refine kc_V (ci := 9) (i := 0) (As := [.ref (ad 52 0)]) (rest := []) hok.2.2 C hP hS hl.1 (hok.2.1 9 0 (Nat.le_of_ble_eq_true rfl)) rfl rfl cw_X9_groupsIn ml_X9_310 (c_X9_groupsIn l D ca ad PL Z A hok N z5.1 52 (Nat.le_of_ble_eq_true rfl) rfl rfl z11 q12) rfl ⟨rfl, rfl⟩ ⟨Nat.le_of_ble_eq_true rfl, Nat.le_of_ble_eq_true rfl⟩ ⟨Nat.zero_le _, Nat.zero_le _⟩ (Nat.le_of_ble_eq_true rfl) rfl dX9_about_89 (fun H locs hP hS => ?_)
      exact kr_i hok.2.2 C hlocks hr rfl hP hS (congrArg Prod.fst (Option.some.inj hf)) (congrArg Prod.snd (Option.some.inj hf)) dX9_about_92
    have hf := ifn hf c13
    by_cases c14 : x1 = (5 : Int32)
    · refine lv_tableIn (tgt := 93) hx hb dX9_about_20 (by rw [c14]; decide) (by rw [c14]; decide) (by rw [c14] <;> rfl) (by decide) ?_
      have hf := ifp hf c14
      refine lv_aload_n hx hb dX9_about_93 rfl (lv_at hl 0 rfl) ?_
      refine gt_9_8 (i := 0) C hP (hok.2.1 9 0 (Nat.le_of_ble_eq_true rfl)) lk_X9_238 dX9_about_94 ?_
      refine lv_aload_n hx hb dX9_about_97 rfl (lv_at hl 0 rfl) ?_
      refine gt_9_9 (i := 0) C hP (hok.2.1 9 0 (Nat.le_of_ble_eq_true rfl)) lk_X9_241 dX9_about_98 ?_
      refine lv_isub hx hb dX9_about_101 ?_
      exact kr_i hok.2.2 C hlocks hr rfl hP hS (congrArg Prod.fst (Option.some.inj hf)) (congrArg Prod.snd (Option.some.inj hf)) dX9_about_102
    have hf := ifn hf c14
    by_cases c15 : x1 = (6 : Int32)
    · refine lv_tableIn (tgt := 103) hx hb dX9_about_20 (by rw [c15]; decide) (by rw [c15]; decide) (by rw [c15] <;> rfl) (by decide) ?_
      have hf := ifp hf c15
      refine lv_aload_n hx hb dX9_about_103 rfl (lv_at hl 0 rfl) ?_
      refine gt_9_39 (i := 0) C hP (hok.2.1 9 0 (Nat.le_of_ble_eq_true rfl)) lk_X9_259 dX9_about_104 ?_
      exact kr_i hok.2.2 C hlocks hr rfl hP hS (congrArg Prod.fst (Option.some.inj hf)) (congrArg Prod.snd (Option.some.inj hf)) dX9_about_107
    have hf := ifn hf c15
    have t_c7 : ¬ (x1).toInt = 0 := fun h => c7 (Int32.toInt_inj.mp (h.trans (by decide)))
    have t_c8 : ¬ (x1).toInt = 1 := fun h => c8 (Int32.toInt_inj.mp (h.trans (by decide)))
    have t_c9 : ¬ (x1).toInt = 2 := fun h => c9 (Int32.toInt_inj.mp (h.trans (by decide)))
    have t_c10 : ¬ (x1).toInt = 3 := fun h => c10 (Int32.toInt_inj.mp (h.trans (by decide)))
    have t_c13 : ¬ (x1).toInt = 4 := fun h => c13 (Int32.toInt_inj.mp (h.trans (by decide)))
    have t_c14 : ¬ (x1).toInt = 5 := fun h => c14 (Int32.toInt_inj.mp (h.trans (by decide)))
    have t_c15 : ¬ (x1).toInt = 6 := fun h => c15 (Int32.toInt_inj.mp (h.trans (by decide)))
    refine lv_tableOut (tgt := 108) hx hb dX9_about_20 (by omega) (by decide) ?_
    refine lv_aload_n hx hb dX9_about_108 rfl (lv_at hl 0 rfl) ?_
    refine lv_aload_n hx hb dX9_about_109 rfl (lv_at hl 0 rfl) ?_
    refine gt_9_36 (i := 0) C hP (hok.2.1 9 0 (Nat.le_of_ble_eq_true rfl)) lk_X9_50 dX9_about_110 ?_
    obtain ⟨z16, q17, hf⟩ := bsp hf
    refine kc_V (ci := 9) (i := 0) (As := [.ref (ad 52 0)]) (rest := []) hok.2.2 C hP hS hl.1 (hok.2.1 9 0 (Nat.le_of_ble_eq_true rfl)) rfl rfl cw_X9_clashIn ml_X9_314 (c_X9_clashIn l D ca ad PL Z A hok N z5.1 52 (Nat.le_of_ble_eq_true rfl) rfl rfl z16 q17) rfl ⟨rfl, rfl⟩ ⟨Nat.le_of_ble_eq_true rfl, Nat.le_of_ble_eq_true rfl⟩ ⟨Nat.zero_le _, Nat.zero_le _⟩ (Nat.le_of_ble_eq_true rfl) rfl dX9_about_113 (fun H locs hP hS => ?_)
    exact kr_i hok.2.2 C hlocks hr rfl hP hS (congrArg Prod.fst (Option.some.inj hf)) (congrArg Prod.snd (Option.some.inj hf)) dX9_about_116
  · have hf := ifn hf c18
    refine lv_iconst (v := (-1 : Int32)) hx hb dX9_about_17 (by decide) ?_
    exact kr_i hok.2.2 C hlocks hr rfl hP hS (congrArg Prod.fst (Option.some.inj hf)) (congrArg Prod.snd (Option.some.inj hf)) dX9_about_18
def f_X9_function_119 (N : Nat) (w : Mem)  (v1 : Int32) (v2 : Int32) (v3 : Int32) (v4 : Int32) : Option (Mem × Int32) :=
  (if v2 = (0 : Int32) then
(if inb v1 16 = true then some (w, (gA w 41 0 v1.toNatClampNeg)) else none)
else
(if v2 = (1 : Int32) then
some (w, v3)
else
some (w, v4)))
def lp_X9_function_51 (k : Int32 → Int32 → Option (Mem × Int32)) (N : Nat) (w : Mem)  (v1 : Int32) (v2 : Int32) : Nat → Int32 → Int32 → Int32 → Int32 → Option (Mem × Int32)
  | 0, _, _, _, _ => none
  | n + 1, v3, v4, v5, v6 => (if (gF w 9 27 0) ≤ v6 then
(k v3 v4)
else
(if inb v6 24 = true then (if (gA w 46 0 v6.toNatClampNeg) = v1 then
(if ((v5 >>> ((gA w 52 0 v6.toNatClampNeg) &&& 31)) &&& (1 : Int32)) = (0 : Int32) then
(lp_X9_function_51 k N w  v1 v2 n (v3 + (1 : Int32)) (v4 + (1 : Int32)) (v5 ||| ((1 : Int32) <<< ((gA w 52 0 v6.toNatClampNeg) &&& 31))) (v6 + (1 : Int32)))
else
(lp_X9_function_51 k N w  v1 v2 n (v3 + (1 : Int32)) (v4 + (0 : Int32)) (v5 ||| ((1 : Int32) <<< ((gA w 52 0 v6.toNatClampNeg) &&& 31))) (v6 + (1 : Int32))))
else
(lp_X9_function_51 k N w  v1 v2 n v3 v4 v5 (v6 + (1 : Int32)))) else none))
def f_X9_function_28_s1 (N : Nat) (w : Mem)  (v1 : Int32) (v2 : Int32) : Option (Mem × Int32) :=
  (Option.bind (f_X9_unless N w (0 : Int32)) (fun z3 => (Option.bind (f_X9_isRefused N w z3) (fun z5 => (if z5.2 = (0 : Int32) then
(lp_X9_function_51 (fun (u3_7 : Int32) (u4_7 : Int32) => (f_X9_function_119 N z5.1  v1 v2 u3_7 u4_7 )) N z5.1  v1 v2 N (0 : Int32) (0 : Int32) (0 : Int32) (0 : Int32))
else
some (z5.1, (-1 : Int32)))))))
def f_X9_function (N : Nat) (w : Mem) (x1 : Int32) (x2 : Int32) : Option (Mem × Int32) :=
  (Option.bind (f_X9_in N w x1 (0 : Int32) ((gF w 9 6 0) - (1 : Int32))) (fun z1 => (if z1 = (0 : Int32) then
(f_X9_function_28_s1 N w  x1 x2 )
else
(Option.bind (f_X9_in N w x2 (0 : Int32) (2 : Int32)) (fun z16 => (if z16 = (0 : Int32) then
(f_X9_function_28_s1 N w  x1 x2 )
else
(Option.bind (f_X9_unless N w (1 : Int32)) (fun z18 => (Option.bind (f_X9_isRefused N w z18) (fun z20 => (if z20.2 = (0 : Int32) then
(lp_X9_function_51 (fun (u3_22 : Int32) (u4_22 : Int32) => (f_X9_function_119 N z20.1  x1 x2 u3_22 u4_22 )) N z20.1  x1 x2 N (0 : Int32) (0 : Int32) (0 : Int32) (0 : Int32))
else
some (z20.1, (-1 : Int32)))))))))))))
set_option maxRecDepth 100000 in
set_option maxHeartbeats 4000000 in
theorem c_X9_function (l : Launch) (D : va_G) (ca : Nat → ClassId) (ad : Nat → Nat → Nat) (PL : List (Nat × Nat)) (Z : State → Prop) (A : Nat → Prop) (hok : okc bM Z A ad PL) (N : Nat) (w : Mem) (x1 : Int32) (x2 : Int32) (w' : Mem) (r : Int32) (hf : f_X9_function N w x1 x2 = some (w', r)) : CT l yX9_function (wsy yX9_function cX9_function 7 (some .int)) (rmk 1) D ca ad PL Z A [.ref (ad 9 0), .int x1, .int x2] w w' (some (.int r)) := by
  refine Met.ofW (cc := cX9_function) (maxL := 7) (ret := (some .int)) (by decide +kernel) rfl ?_
  intro p e s m args below meth c s₁ B hml hv
  obtain ⟨rfl, hP, hK, hZ⟩ := hv
  have hx := B.exec
  have hb := B.bytes
  have hr := B.returns
  have hlocks := B.notSynchronized
  have hts : ∀ w ∈ ALL, w.before _ s = true := fun w hw => atoms_spec (ws := wsy yX9_function cX9_function 7 (some .int)) B.pre w (List.mem_cons_of_mem _ hw)
  have hown : s.vm.findClass RX9 = some m.cls := findClass_of_methodNamed B.named
  have C : CX p s m _ c cX9_function RX9 7 D ca Z := ⟨hx, hb, hml, hown, hts, hK, hZ⟩
  have hS : va_S A s.heap s.heap [] := va_S.rf
  have hl := lv_entry ([.ref (ad 9 0), .int x1, .int x2]) (n := 7) (Nat.le_of_ble_eq_true rfl)
  rw [lg_entry_eq]
  generalize (lg_sl ([.ref (ad 9 0), .int x1, .int x2]) ++ List.replicate (7 - (lg_sl ([.ref (ad 9 0), .int x1, .int x2])).length) Slot.unset).toArray = ls at hl ⊢
  have hl : lv_has ls 7 [(0, .ref (ad 9 0)), (1, .int x1), (2, .int x2)] := hl
  show W p l e (rmk 1) s m _ below meth c s.heap [] 0 0 _ _
  have P_f_X9_function_119 : ∀ (w : Mem) (v1 : Int32) (v2 : Int32) (v3 : Int32) (v4 : Int32), f_X9_function_119 N w  v1 v2 v3 v4  = some (w', r) → WP p l e (rmk 1) s m [.ref (ad 9 0), .int x1, .int x2].toArray below meth c D ca ad PL A (MQ below (qcR D ca ad PL Z A w' (some (.int r))) [.ref (ad 9 0), .int x1, .int x2].toArray s 0 0 A) 7 119 [] [(0, .ref (ad 9 0)), (1, .int v1), (2, .int v2), (3, .int v3), (4, .int v4)] w := by
    intro w v1 v2 v3 v4 hf _ _ ls hP hS hl
    unfold f_X9_function_119 at hf
    refine lv_iload_n hx hb dX9_function_119 rfl (lv_at hl 2 rfl) ?_
    refine lv_if_ne (tgt := 132) hx hb dX9_function_120 (by decide) (fun c10 => ?_) (fun c10 => ?_)
    · have hf := ifn hf c10
      refine lv_iload_n hx hb dX9_function_132 rfl (lv_at hl 2 rfl) ?_
      refine lv_iconst (v := (1 : Int32)) hx hb dX9_function_133 (by decide) ?_
      refine lv_icmp_ne (tgt := 141) hx hb dX9_function_134 (by decide) (fun c8 => ?_) (fun c8 => ?_)
      · have hf := ifn hf c8
        refine lv_iload hx hb dX9_function_141 (lv_at hl 4 rfl) ?_
        exact kr_i hok.2.2 C hlocks hr rfl hP hS (congrArg Prod.fst (Option.some.inj hf)) (congrArg Prod.snd (Option.some.inj hf)) dX9_function_143
      · have hf := ifp hf c8
        refine lv_iload_n hx hb dX9_function_137 rfl (lv_at hl 3 rfl) ?_
        refine lv_goto (tgt := 143) hx hb dX9_function_138 (by decide) ?_
        exact kr_i hok.2.2 C hlocks hr rfl hP hS (congrArg Prod.fst (Option.some.inj hf)) (congrArg Prod.snd (Option.some.inj hf)) dX9_function_143
    · have hf := ifp hf c10
      refine lv_aload_n hx hb dX9_function_123 rfl (lv_at hl 0 rfl) ?_
      refine gt_9_7 (i := 0) C hP (hok.2.1 9 0 (Nat.le_of_ble_eq_true rfl)) lk_X9_17 dX9_function_124 ?_
      refine lv_iload_n hx hb dX9_function_127 rfl (lv_at hl 1 rfl) ?_
      obtain ⟨b9, hf⟩ := gsp hf
      refine ra_ild (k := 41) (i := 0) (n := 16) (f := (gA w 41 0)) C hP (hok.2.1 41 0 (Nat.le_of_ble_eq_true rfl)) rfl b9 dX9_function_128 ?_
      refine lv_goto (tgt := 143) hx hb dX9_function_129 (by decide) ?_
      exact kr_i hok.2.2 C hlocks hr rfl hP hS (congrArg Prod.fst (Option.some.inj hf)) (congrArg Prod.snd (Option.some.inj hf)) dX9_function_143
  have L_lp_X9_function_51 : ∀ (w : Mem) (v1 : Int32) (v2 : Int32) (k : Int32 → Int32 → Option (Mem × Int32)) (hk : ∀ (v3 : Int32) (v4 : Int32), k v3 v4 = some (w', r) → WP p l e (rmk 1) s m [.ref (ad 9 0), .int x1, .int x2].toArray below meth c D ca ad PL A (MQ below (qcR D ca ad PL Z A w' (some (.int r))) [.ref (ad 9 0), .int x1, .int x2].toArray s 0 0 A) 7 119 [] [(0, .ref (ad 9 0)), (1, .int v1), (2, .int v2), (3, .int v3), (4, .int v4)] w) (n : Nat) (v3 : Int32) (v4 : Int32) (v5 : Int32) (v6 : Int32), lp_X9_function_51 k N w  v1 v2 n v3 v4 v5 v6 = some (w', r) → WP p l e (rmk 1) s m [.ref (ad 9 0), .int x1, .int x2].toArray below meth c D ca ad PL A (MQ below (qcR D ca ad PL Z A w' (some (.int r))) [.ref (ad 9 0), .int x1, .int x2].toArray s 0 0 A) 7 51 [] [(0, .ref (ad 9 0)), (1, .int v1), (2, .int v2), (3, .int v3), (4, .int v4), (5, .int v5), (6, .int v6)] w := by
    intro w v1 v2 k hk n
    induction n with
    | zero => intro v3 v4 v5 v6 hf; rw [lp_X9_function_51] at hf; cases hf
    | succ n ih =>
      intro v3 v4 v5 v6 hf _ _ ls hP hS hl
      rw [lp_X9_function_51] at hf
      refine lv_iload hx hb dX9_function_51 (lv_at hl 6 rfl) ?_
      refine lv_aload_n hx hb dX9_function_53 rfl (lv_at hl 0 rfl) ?_
      refine gt_9_27 (i := 0) C hP (hok.2.1 9 0 (Nat.le_of_ble_eq_true rfl)) lk_X9_250 dX9_function_54 ?_
      refine lv_icmp_ge (tgt := 119) hx hb dX9_function_57 (by decide) (fun c14 => ?_) (fun c14 => ?_)
      · have hf := ifp hf c14
        exact hk v3 v4 hf _ _ ls hP hS (lv_sub hl [0, 1, 2, 3, 4] rfl)
      · have hf := ifn hf c14
        refine lv_aload_n hx hb dX9_function_60 rfl (lv_at hl 0 rfl) ?_
        refine gt_9_28 (i := 0) C hP (hok.2.1 9 0 (Nat.le_of_ble_eq_true rfl)) lk_X9_32 dX9_function_61 ?_
        refine lv_iload hx hb dX9_function_64 (lv_at hl 6 rfl) ?_
        obtain ⟨b11, hf⟩ := gsp hf
        refine ra_ild (k := 46) (i := 0) (n := 24) (f := (gA w 46 0)) C hP (hok.2.1 46 0 (Nat.le_of_ble_eq_true rfl)) rfl b11 dX9_function_66 ?_
        refine lv_iload_n hx hb dX9_function_67 rfl (lv_at hl 1 rfl) ?_
        refine lv_icmp_ne (tgt := 113) hx hb dX9_function_68 (by decide) (fun c13 => ?_) (fun c13 => ?_)
        · have hf := ifn hf c13
          refine lv_iinc (v := (v6 + (1 : Int32))) (lv' := [(6, .int (v6 + (1 : Int32))), (0, .ref (ad 9 0)), (1, .int v1), (2, .int v2), (3, .int v3), (4, .int v4), (5, .int v5)]) hx hb dX9_function_113 hl (k := 6) rfl rfl (by decide) rfl (fun ls hl => ?_)
          refine lv_goto (tgt := 51) hx hb dX9_function_116 (by decide) ?_
          exact ih v3 v4 v5 (v6 + (1 : Int32)) hf _ _ ls hP hS (lv_sub hl [1, 2, 3, 4, 5, 6, 0] rfl)
        · have hf := ifp hf c13
          refine lv_iinc (v := (v3 + (1 : Int32))) (lv' := [(3, .int (v3 + (1 : Int32))), (0, .ref (ad 9 0)), (1, .int v1), (2, .int v2), (4, .int v4), (5, .int v5), (6, .int v6)]) hx hb dX9_function_71 hl (k := 3) rfl rfl (by decide) rfl (fun ls hl => ?_)
          refine lv_iload hx hb dX9_function_74 (lv_at hl 4 rfl) ?_
          refine lv_iload hx hb dX9_function_76 (lv_at hl 5 rfl) ?_
          refine lv_aload_n hx hb dX9_function_78 rfl (lv_at hl 1 rfl) ?_
          refine gt_9_36 (i := 0) C hP (hok.2.1 9 0 (Nat.le_of_ble_eq_true rfl)) lk_X9_50 dX9_function_79 ?_
          refine lv_iload hx hb dX9_function_82 (lv_at hl 6 rfl) ?_
          refine ra_ild (k := 52) (i := 0) (n := 24) (f := (gA w 52 0)) C hP (hok.2.1 52 0 (Nat.le_of_ble_eq_true rfl)) rfl b11 dX9_function_84 ?_
          refine lv_ishr hx hb dX9_function_85 ?_
          refine lv_iconst (v := (1 : Int32)) hx hb dX9_function_86 (by decide) ?_
          refine lv_iand hx hb dX9_function_87 ?_
          refine lv_if_ne (tgt := 95) hx hb dX9_function_88 (by decide) (fun c12 => ?_) (fun c12 => ?_)
          · have hf := ifn hf c12
            refine lv_iconst (v := (0 : Int32)) hx hb dX9_function_95 (by decide) ?_
            refine lv_iadd hx hb dX9_function_96 ?_
            refine lv_istore (lv' := [(4, .int (v4 + (0 : Int32))), (3, .int (v3 + (1 : Int32))), (0, .ref (ad 9 0)), (1, .int v1), (2, .int v2), (5, .int v5), (6, .int v6)]) hx hb dX9_function_97 hl (by decide) rfl (fun ls hl => ?_)
            refine lv_iload hx hb dX9_function_99 (lv_at hl 5 rfl) ?_
            refine lv_iconst (v := (1 : Int32)) hx hb dX9_function_101 (by decide) ?_
            refine lv_aload_n hx hb dX9_function_102 rfl (lv_at hl 2 rfl) ?_
            refine gt_9_36 (i := 0) C hP (hok.2.1 9 0 (Nat.le_of_ble_eq_true rfl)) lk_X9_50 dX9_function_103 ?_
            refine lv_iload hx hb dX9_function_106 (lv_at hl 6 rfl) ?_
            refine ra_ild (k := 52) (i := 0) (n := 24) (f := (gA w 52 0)) C hP (hok.2.1 52 0 (Nat.le_of_ble_eq_true rfl)) rfl b11 dX9_function_108 ?_
            refine lv_ishl hx hb dX9_function_109 ?_
            refine lv_ior hx hb dX9_function_110 ?_
            refine lv_istore (lv' := [(5, .int (v5 ||| ((1 : Int32) <<< ((gA w 52 0 v6.toNatClampNeg) &&& 31)))), (4, .int (v4 + (0 : Int32))), (3, .int (v3 + (1 : Int32))), (0, .ref (ad 9 0)), (1, .int v1), (2, .int v2), (6, .int v6)]) hx hb dX9_function_111 hl (by decide) rfl (fun ls hl => ?_)
            refine lv_iinc (v := (v6 + (1 : Int32))) (lv' := [(6, .int (v6 + (1 : Int32))), (5, .int (v5 ||| ((1 : Int32) <<< ((gA w 52 0 v6.toNatClampNeg) &&& 31)))), (4, .int (v4 + (0 : Int32))), (3, .int (v3 + (1 : Int32))), (0, .ref (ad 9 0)), (1, .int v1), (2, .int v2)]) hx hb dX9_function_113 hl (k := 6) rfl rfl (by decide) rfl (fun ls hl => ?_)
            refine lv_goto (tgt := 51) hx hb dX9_function_116 (by decide) ?_
            exact ih (v3 + (1 : Int32)) (v4 + (0 : Int32)) (v5 ||| ((1 : Int32) <<< ((gA w 52 0 v6.toNatClampNeg) &&& 31))) (v6 + (1 : Int32)) hf _ _ ls hP hS (lv_sub hl [4, 5, 6, 3, 2, 1, 0] rfl)
          · have hf := ifp hf c12
            refine lv_iconst (v := (1 : Int32)) hx hb dX9_function_91 (by decide) ?_
            refine lv_goto (tgt := 96) hx hb dX9_function_92 (by decide) ?_
            refine lv_iadd hx hb dX9_function_96 ?_
            refine lv_istore (lv' := [(4, .int (v4 + (1 : Int32))), (3, .int (v3 + (1 : Int32))), (0, .ref (ad 9 0)), (1, .int v1), (2, .int v2), (5, .int v5), (6, .int v6)]) hx hb dX9_function_97 hl (by decide) rfl (fun ls hl => ?_)
            refine lv_iload hx hb dX9_function_99 (lv_at hl 5 rfl) ?_
            refine lv_iconst (v := (1 : Int32)) hx hb dX9_function_101 (by decide) ?_
            refine lv_aload_n hx hb dX9_function_102 rfl (lv_at hl 2 rfl) ?_
            refine gt_9_36 (i := 0) C hP (hok.2.1 9 0 (Nat.le_of_ble_eq_true rfl)) lk_X9_50 dX9_function_103 ?_
            refine lv_iload hx hb dX9_function_106 (lv_at hl 6 rfl) ?_
            refine ra_ild (k := 52) (i := 0) (n := 24) (f := (gA w 52 0)) C hP (hok.2.1 52 0 (Nat.le_of_ble_eq_true rfl)) rfl b11 dX9_function_108 ?_
            refine lv_ishl hx hb dX9_function_109 ?_
            refine lv_ior hx hb dX9_function_110 ?_
            refine lv_istore (lv' := [(5, .int (v5 ||| ((1 : Int32) <<< ((gA w 52 0 v6.toNatClampNeg) &&& 31)))), (4, .int (v4 + (1 : Int32))), (3, .int (v3 + (1 : Int32))), (0, .ref (ad 9 0)), (1, .int v1), (2, .int v2), (6, .int v6)]) hx hb dX9_function_111 hl (by decide) rfl (fun ls hl => ?_)
            refine lv_iinc (v := (v6 + (1 : Int32))) (lv' := [(6, .int (v6 + (1 : Int32))), (5, .int (v5 ||| ((1 : Int32) <<< ((gA w 52 0 v6.toNatClampNeg) &&& 31)))), (4, .int (v4 + (1 : Int32))), (3, .int (v3 + (1 : Int32))), (0, .ref (ad 9 0)), (1, .int v1), (2, .int v2)]) hx hb dX9_function_113 hl (k := 6) rfl rfl (by decide) rfl (fun ls hl => ?_)
            refine lv_goto (tgt := 51) hx hb dX9_function_116 (by decide) ?_
            exact ih (v3 + (1 : Int32)) (v4 + (1 : Int32)) (v5 ||| ((1 : Int32) <<< ((gA w 52 0 v6.toNatClampNeg) &&& 31))) (v6 + (1 : Int32)) hf _ _ ls hP hS (lv_sub hl [4, 5, 6, 3, 2, 1, 0] rfl)
  have P_f_X9_function_28_s1 : ∀ (w : Mem) (v1 : Int32) (v2 : Int32), f_X9_function_28_s1 N w  v1 v2  = some (w', r) → WP p l e (rmk 1) s m [.ref (ad 9 0), .int x1, .int x2].toArray below meth c D ca ad PL A (MQ below (qcR D ca ad PL Z A w' (some (.int r))) [.ref (ad 9 0), .int x1, .int x2].toArray s 0 0 A) 7 28 [.ref (ad 9 0)] [(0, .ref (ad 9 0)), (1, .int v1), (2, .int v2)] w := by
    intro w v1 v2 hf _ _ ls hP hS hl
    unfold f_X9_function_28_s1 at hf
    refine lv_iconst (v := (0 : Int32)) hx hb dX9_function_28 (by decide) ?_
    obtain ⟨z3, q4, hf⟩ := bsp hf
    refine kc_S (As := [.int (0 : Int32)]) (rest := [.ref (ad 9 0)]) hok.2.2 C hP hS hl.1 cw_X9_unless ml_X9_306 (c_X9_unless l D ca ad PL Z A hok N w (0 : Int32) z3 q4) rfl ⟨rfl, rfl⟩ ⟨Nat.le_of_ble_eq_true rfl, Nat.le_of_ble_eq_true rfl⟩ ⟨Nat.zero_le _, Nat.zero_le _⟩ (Nat.le_of_ble_eq_true rfl) rfl dX9_function_29 (fun H locs hP hS => ?_)
    obtain ⟨z5, q6, hf⟩ := bsp hf
    refine kc_V (ci := 9) (i := 0) (As := [.int z3]) (rest := []) hok.2.2 C hP hS hl.1 (hok.2.1 9 0 (Nat.le_of_ble_eq_true rfl)) rfl rfl cw_X9_isRefused ml_X9_223 (c_X9_isRefused l D ca ad PL Z A hok N w z3 z5.1 z5.2 q6) rfl ⟨rfl, rfl⟩ ⟨Nat.le_of_ble_eq_true rfl, Nat.le_of_ble_eq_true rfl⟩ ⟨Nat.zero_le _, Nat.zero_le _⟩ (Nat.le_of_ble_eq_true rfl) rfl dX9_function_32 (fun H locs hP hS => ?_)
    refine lv_if_eq (tgt := 40) hx hb dX9_function_35 (by decide) (fun c15 => ?_) (fun c15 => ?_)
    · have hf := ifp hf c15
      refine lv_iconst (v := (0 : Int32)) hx hb dX9_function_40 (by decide) ?_
      refine lv_istore_n (lv' := [(3, .int (0 : Int32)), (0, .ref (ad 9 0)), (1, .int v1), (2, .int v2)]) hx hb dX9_function_41 rfl hl (by decide) rfl (fun ls hl => ?_)
      refine lv_iconst (v := (0 : Int32)) hx hb dX9_function_42 (by decide) ?_
      refine lv_istore (lv' := [(4, .int (0 : Int32)), (3, .int (0 : Int32)), (0, .ref (ad 9 0)), (1, .int v1), (2, .int v2)]) hx hb dX9_function_43 hl (by decide) rfl (fun ls hl => ?_)
      refine lv_iconst (v := (0 : Int32)) hx hb dX9_function_45 (by decide) ?_
      refine lv_istore (lv' := [(5, .int (0 : Int32)), (4, .int (0 : Int32)), (3, .int (0 : Int32)), (0, .ref (ad 9 0)), (1, .int v1), (2, .int v2)]) hx hb dX9_function_46 hl (by decide) rfl (fun ls hl => ?_)
      refine lv_iconst (v := (0 : Int32)) hx hb dX9_function_48 (by decide) ?_
      refine lv_istore (lv' := [(6, .int (0 : Int32)), (5, .int (0 : Int32)), (4, .int (0 : Int32)), (3, .int (0 : Int32)), (0, .ref (ad 9 0)), (1, .int v1), (2, .int v2)]) hx hb dX9_function_49 hl (by decide) rfl (fun ls hl => ?_)
      exact L_lp_X9_function_51 z5.1 v1 v2 _ (fun u3_7 u4_7 hf H locs ls hP hS hl => P_f_X9_function_119 z5.1 v1 v2 u3_7 u4_7 hf _ _ ls hP hS (lv_sub hl [0, 1, 2, 3, 4] rfl)) N (0 : Int32) (0 : Int32) (0 : Int32) (0 : Int32) hf _ _ ls hP hS (lv_sub hl [4, 5, 6, 3, 2, 1, 0] rfl)
    · have hf := ifn hf c15
      refine lv_iconst (v := (-1 : Int32)) hx hb dX9_function_38 (by decide) ?_
      exact kr_i hok.2.2 C hlocks hr rfl hP hS (congrArg Prod.fst (Option.some.inj hf)) (congrArg Prod.snd (Option.some.inj hf)) dX9_function_39
  unfold f_X9_function at hf
  -- walk
  refine lv_aload_n hx hb dX9_function_0 rfl (lv_at hl 0 rfl) ?_
  refine lv_iload_n hx hb dX9_function_1 rfl (lv_at hl 1 rfl) ?_
  refine lv_iconst (v := (0 : Int32)) hx hb dX9_function_2 (by decide) ?_
  refine lv_aload_n hx hb dX9_function_3 rfl (lv_at hl 0 rfl) ?_
  refine gt_9_6 (i := 0) C hP (hok.2.1 9 0 (Nat.le_of_ble_eq_true rfl)) lk_X9_235 dX9_function_4 ?_
  refine lv_iconst (v := (1 : Int32)) hx hb dX9_function_7 (by decide) ?_
  refine lv_isub hx hb dX9_function_8 ?_
  obtain ⟨z1, q2, hf⟩ := bsp hf
  refine kc_S (As := [.int x1, .int (0 : Int32), .int ((gF w 9 6 0) - (1 : Int32))]) (rest := [.ref (ad 9 0)]) hok.2.2 C hP hS hl.1 cw_X9_in ml_X9_132 (c_X9_in l D ca ad PL Z A hok N w x1 (0 : Int32) ((gF w 9 6 0) - (1 : Int32)) z1 q2) rfl ⟨rfl, rfl⟩ ⟨Nat.le_of_ble_eq_true rfl, Nat.le_of_ble_eq_true rfl⟩ ⟨Nat.zero_le _, Nat.zero_le _⟩ (Nat.le_of_ble_eq_true rfl) rfl dX9_function_9 (fun H locs hP hS => ?_)
  refine lv_if_eq (tgt := 28) hx hb dX9_function_12 (by decide) (fun c25 => ?_) (fun c25 => ?_)
  · have hf := ifp hf c25
    exact P_f_X9_function_28_s1 w x1 x2 hf _ _ ls hP hS (lv_sub hl [0, 1, 2] rfl)
  · have hf := ifn hf c25
    refine lv_iload_n hx hb dX9_function_15 rfl (lv_at hl 2 rfl) ?_
    refine lv_iconst (v := (0 : Int32)) hx hb dX9_function_16 (by decide) ?_
    refine lv_iconst (v := (2 : Int32)) hx hb dX9_function_17 (by decide) ?_
    obtain ⟨z16, q17, hf⟩ := bsp hf
    refine kc_S (As := [.int x2, .int (0 : Int32), .int (2 : Int32)]) (rest := [.ref (ad 9 0)]) hok.2.2 C hP hS hl.1 cw_X9_in ml_X9_132 (c_X9_in l D ca ad PL Z A hok N w x2 (0 : Int32) (2 : Int32) z16 q17) rfl ⟨rfl, rfl⟩ ⟨Nat.le_of_ble_eq_true rfl, Nat.le_of_ble_eq_true rfl⟩ ⟨Nat.zero_le _, Nat.zero_le _⟩ (Nat.le_of_ble_eq_true rfl) rfl dX9_function_18 (fun H locs hP hS => ?_)
    refine lv_if_eq (tgt := 28) hx hb dX9_function_21 (by decide) (fun c24 => ?_) (fun c24 => ?_)
    · have hf := ifp hf c24
      exact P_f_X9_function_28_s1 w x1 x2 hf _ _ ls hP hS (lv_sub hl [0, 1, 2] rfl)
    · have hf := ifn hf c24
      refine lv_iconst (v := (1 : Int32)) hx hb dX9_function_24 (by decide) ?_
      refine lv_goto (tgt := 29) hx hb dX9_function_25 (by decide) ?_
      obtain ⟨z18, q19, hf⟩ := bsp hf
      refine kc_S (As := [.int (1 : Int32)]) (rest := [.ref (ad 9 0)]) hok.2.2 C hP hS hl.1 cw_X9_unless ml_X9_306 (c_X9_unless l D ca ad PL Z A hok N w (1 : Int32) z18 q19) rfl ⟨rfl, rfl⟩ ⟨Nat.le_of_ble_eq_true rfl, Nat.le_of_ble_eq_true rfl⟩ ⟨Nat.zero_le _, Nat.zero_le _⟩ (Nat.le_of_ble_eq_true rfl) rfl dX9_function_29 (fun H locs hP hS => ?_)
      obtain ⟨z20, q21, hf⟩ := bsp hf
      refine kc_V (ci := 9) (i := 0) (As := [.int z18]) (rest := []) hok.2.2 C hP hS hl.1 (hok.2.1 9 0 (Nat.le_of_ble_eq_true rfl)) rfl rfl cw_X9_isRefused ml_X9_223 (c_X9_isRefused l D ca ad PL Z A hok N w z18 z20.1 z20.2 q21) rfl ⟨rfl, rfl⟩ ⟨Nat.le_of_ble_eq_true rfl, Nat.le_of_ble_eq_true rfl⟩ ⟨Nat.zero_le _, Nat.zero_le _⟩ (Nat.le_of_ble_eq_true rfl) rfl dX9_function_32 (fun H locs hP hS => ?_)
      refine lv_if_eq (tgt := 40) hx hb dX9_function_35 (by decide) (fun c23 => ?_) (fun c23 => ?_)
      · have hf := ifp hf c23
        refine lv_iconst (v := (0 : Int32)) hx hb dX9_function_40 (by decide) ?_
        refine lv_istore_n (lv' := [(3, .int (0 : Int32)), (0, .ref (ad 9 0)), (1, .int x1), (2, .int x2)]) hx hb dX9_function_41 rfl hl (by decide) rfl (fun ls hl => ?_)
        refine lv_iconst (v := (0 : Int32)) hx hb dX9_function_42 (by decide) ?_
        refine lv_istore (lv' := [(4, .int (0 : Int32)), (3, .int (0 : Int32)), (0, .ref (ad 9 0)), (1, .int x1), (2, .int x2)]) hx hb dX9_function_43 hl (by decide) rfl (fun ls hl => ?_)
        refine lv_iconst (v := (0 : Int32)) hx hb dX9_function_45 (by decide) ?_
        refine lv_istore (lv' := [(5, .int (0 : Int32)), (4, .int (0 : Int32)), (3, .int (0 : Int32)), (0, .ref (ad 9 0)), (1, .int x1), (2, .int x2)]) hx hb dX9_function_46 hl (by decide) rfl (fun ls hl => ?_)
        refine lv_iconst (v := (0 : Int32)) hx hb dX9_function_48 (by decide) ?_
        refine lv_istore (lv' := [(6, .int (0 : Int32)), (5, .int (0 : Int32)), (4, .int (0 : Int32)), (3, .int (0 : Int32)), (0, .ref (ad 9 0)), (1, .int x1), (2, .int x2)]) hx hb dX9_function_49 hl (by decide) rfl (fun ls hl => ?_)
        exact L_lp_X9_function_51 z20.1 x1 x2 _ (fun u3_22 u4_22 hf H locs ls hP hS hl => P_f_X9_function_119 z20.1 x1 x2 u3_22 u4_22 hf _ _ ls hP hS (lv_sub hl [0, 1, 2, 3, 4] rfl)) N (0 : Int32) (0 : Int32) (0 : Int32) (0 : Int32) hf _ _ ls hP hS (lv_sub hl [4, 5, 6, 3, 2, 1, 0] rfl)
      · have hf := ifn hf c23
        refine lv_iconst (v := (-1 : Int32)) hx hb dX9_function_38 (by decide) ?_
        exact kr_i hok.2.2 C hlocks hr rfl hP hS (congrArg Prod.fst (Option.some.inj hf)) (congrArg Prod.snd (Option.some.inj hf)) dX9_function_39
def f_X9_groupMany_41 (N : Nat) (w : Mem)  (v2 : Int32) : Option (Int32) :=
  some v2
def lp_X9_groupMany_4 (k : Int32 → Option (Int32)) (N : Nat) (w : Mem)  (v1 : Int32) : Nat → Int32 → Int32 → Option (Int32)
  | 0, _, _ => none
  | n + 1, v2, v3 => (if (gF w 9 27 0) ≤ v3 then
(k v2)
else
(if inb v3 24 = true then (if inb v1 24 = true then (if (gA w 52 0 v3.toNatClampNeg) = (gA w 52 0 v1.toNatClampNeg) then
(lp_X9_groupMany_4 k N w  v1 n (v2 + (1 : Int32)) (v3 + (1 : Int32)))
else
(lp_X9_groupMany_4 k N w  v1 n (v2 + (0 : Int32)) (v3 + (1 : Int32)))) else none) else none))
def f_X9_groupMany (N : Nat) (w : Mem) (x1 : Int32) : Option (Int32) :=
  (lp_X9_groupMany_4 (fun (u2_1 : Int32) => (f_X9_groupMany_41 N w  u2_1 )) N w  x1 N (0 : Int32) (0 : Int32))
set_option maxRecDepth 100000 in
set_option maxHeartbeats 4000000 in
theorem c_X9_groupMany (l : Launch) (D : va_G) (ca : Nat → ClassId) (ad : Nat → Nat → Nat) (PL : List (Nat × Nat)) (Z : State → Prop) (A : Nat → Prop) (hok : okc bM Z A ad PL) (N : Nat) (w : Mem) (x1 : Int32) (r : Int32) (hf : f_X9_groupMany N w x1 = some r) : CT l yX9_groupMany (wsy yX9_groupMany cX9_groupMany 4 (some .int)) (rmk 0) D ca ad PL Z A [.ref (ad 9 0), .int x1] w w (some (.int r)) := by
  refine Met.ofW (cc := cX9_groupMany) (maxL := 4) (ret := (some .int)) (by decide +kernel) rfl ?_
  intro p e s m args below meth c s₁ B hml hv
  obtain ⟨rfl, hP, hK, hZ⟩ := hv
  have hx := B.exec
  have hb := B.bytes
  have hr := B.returns
  have hlocks := B.notSynchronized
  have hts : ∀ w ∈ ALL, w.before _ s = true := fun w hw => atoms_spec (ws := wsy yX9_groupMany cX9_groupMany 4 (some .int)) B.pre w (List.mem_cons_of_mem _ hw)
  have hown : s.vm.findClass RX9 = some m.cls := findClass_of_methodNamed B.named
  have C : CX p s m _ c cX9_groupMany RX9 4 D ca Z := ⟨hx, hb, hml, hown, hts, hK, hZ⟩
  have hS : va_S A s.heap s.heap [] := va_S.rf
  have hl := lv_entry ([.ref (ad 9 0), .int x1]) (n := 4) (Nat.le_of_ble_eq_true rfl)
  rw [lg_entry_eq]
  generalize (lg_sl ([.ref (ad 9 0), .int x1]) ++ List.replicate (4 - (lg_sl ([.ref (ad 9 0), .int x1])).length) Slot.unset).toArray = ls at hl ⊢
  have hl : lv_has ls 4 [(0, .ref (ad 9 0)), (1, .int x1)] := hl
  show W p l e (rmk 0) s m _ below meth c s.heap [] 0 0 _ _
  have P_f_X9_groupMany_41 : ∀ (v2 : Int32), f_X9_groupMany_41 N w  v2  = some r → WP p l e (rmk 0) s m [.ref (ad 9 0), .int x1].toArray below meth c D ca ad PL A (MQ below (qcR D ca ad PL Z A w (some (.int r))) [.ref (ad 9 0), .int x1].toArray s 0 0 A) 4 41 [] [(2, .int v2)] w := by
    intro v2 hf _ _ ls hP hS hl
    unfold f_X9_groupMany_41 at hf
    refine lv_iload_n hx hb dX9_groupMany_41 rfl (lv_at hl 0 rfl) ?_
    exact kr_i hok.2.2 C hlocks hr rfl hP hS rfl (Option.some.inj hf) dX9_groupMany_42
  have L_lp_X9_groupMany_4 : ∀ (v1 : Int32) (k : Int32 → Option (Int32)) (hk : ∀ (v2 : Int32), k v2 = some r → WP p l e (rmk 0) s m [.ref (ad 9 0), .int x1].toArray below meth c D ca ad PL A (MQ below (qcR D ca ad PL Z A w (some (.int r))) [.ref (ad 9 0), .int x1].toArray s 0 0 A) 4 41 [] [(2, .int v2)] w) (n : Nat) (v2 : Int32) (v3 : Int32), lp_X9_groupMany_4 k N w  v1 n v2 v3 = some r → WP p l e (rmk 0) s m [.ref (ad 9 0), .int x1].toArray below meth c D ca ad PL A (MQ below (qcR D ca ad PL Z A w (some (.int r))) [.ref (ad 9 0), .int x1].toArray s 0 0 A) 4 4 [] [(0, .ref (ad 9 0)), (1, .int v1), (2, .int v2), (3, .int v3)] w := by
    intro v1 k hk n
    induction n with
    | zero => intro v2 v3 hf; rw [lp_X9_groupMany_4] at hf; cases hf
    | succ n ih =>
      intro v2 v3 hf _ _ ls hP hS hl
      rw [lp_X9_groupMany_4] at hf
      refine lv_iload_n hx hb dX9_groupMany_4 rfl (lv_at hl 3 rfl) ?_
      refine lv_aload_n hx hb dX9_groupMany_5 rfl (lv_at hl 0 rfl) ?_
      refine gt_9_27 (i := 0) C hP (hok.2.1 9 0 (Nat.le_of_ble_eq_true rfl)) lk_X9_250 dX9_groupMany_6 ?_
      refine lv_icmp_ge (tgt := 41) hx hb dX9_groupMany_9 (by decide) (fun c5 => ?_) (fun c5 => ?_)
      · have hf := ifp hf c5
        exact hk v2 hf _ _ ls hP hS (lv_sub hl [2] rfl)
      · have hf := ifn hf c5
        refine lv_iload_n hx hb dX9_groupMany_12 rfl (lv_at hl 2 rfl) ?_
        refine lv_aload_n hx hb dX9_groupMany_13 rfl (lv_at hl 0 rfl) ?_
        refine gt_9_36 (i := 0) C hP (hok.2.1 9 0 (Nat.le_of_ble_eq_true rfl)) lk_X9_50 dX9_groupMany_14 ?_
        refine lv_iload_n hx hb dX9_groupMany_17 rfl (lv_at hl 3 rfl) ?_
        obtain ⟨b2, hf⟩ := gsp hf
        refine ra_ild (k := 52) (i := 0) (n := 24) (f := (gA w 52 0)) C hP (hok.2.1 52 0 (Nat.le_of_ble_eq_true rfl)) rfl b2 dX9_groupMany_18 ?_
        refine lv_aload_n hx hb dX9_groupMany_19 rfl (lv_at hl 0 rfl) ?_
        refine gt_9_36 (i := 0) C hP (hok.2.1 9 0 (Nat.le_of_ble_eq_true rfl)) lk_X9_50 dX9_groupMany_20 ?_
        refine lv_iload_n hx hb dX9_groupMany_23 rfl (lv_at hl 1 rfl) ?_
        obtain ⟨b3, hf⟩ := gsp hf
        refine ra_ild (k := 52) (i := 0) (n := 24) (f := (gA w 52 0)) C hP (hok.2.1 52 0 (Nat.le_of_ble_eq_true rfl)) rfl b3 dX9_groupMany_24 ?_
        refine lv_icmp_ne (tgt := 32) hx hb dX9_groupMany_25 (by decide) (fun c4 => ?_) (fun c4 => ?_)
        · have hf := ifn hf c4
          refine lv_iconst (v := (0 : Int32)) hx hb dX9_groupMany_32 (by decide) ?_
          refine lv_iadd hx hb dX9_groupMany_33 ?_
          refine lv_istore_n (lv' := [(2, .int (v2 + (0 : Int32))), (0, .ref (ad 9 0)), (1, .int v1), (3, .int v3)]) hx hb dX9_groupMany_34 rfl hl (by decide) rfl (fun ls hl => ?_)
          refine lv_iinc (v := (v3 + (1 : Int32))) (lv' := [(3, .int (v3 + (1 : Int32))), (2, .int (v2 + (0 : Int32))), (0, .ref (ad 9 0)), (1, .int v1)]) hx hb dX9_groupMany_35 hl (k := 3) rfl rfl (by decide) rfl (fun ls hl => ?_)
          refine lv_goto (tgt := 4) hx hb dX9_groupMany_38 (by decide) ?_
          exact ih (v2 + (0 : Int32)) (v3 + (1 : Int32)) hf _ _ ls hP hS (lv_sub hl [2, 3, 1, 0] rfl)
        · have hf := ifp hf c4
          refine lv_iconst (v := (1 : Int32)) hx hb dX9_groupMany_28 (by decide) ?_
          refine lv_goto (tgt := 33) hx hb dX9_groupMany_29 (by decide) ?_
          refine lv_iadd hx hb dX9_groupMany_33 ?_
          refine lv_istore_n (lv' := [(2, .int (v2 + (1 : Int32))), (0, .ref (ad 9 0)), (1, .int v1), (3, .int v3)]) hx hb dX9_groupMany_34 rfl hl (by decide) rfl (fun ls hl => ?_)
          refine lv_iinc (v := (v3 + (1 : Int32))) (lv' := [(3, .int (v3 + (1 : Int32))), (2, .int (v2 + (1 : Int32))), (0, .ref (ad 9 0)), (1, .int v1)]) hx hb dX9_groupMany_35 hl (k := 3) rfl rfl (by decide) rfl (fun ls hl => ?_)
          refine lv_goto (tgt := 4) hx hb dX9_groupMany_38 (by decide) ?_
          exact ih (v2 + (1 : Int32)) (v3 + (1 : Int32)) hf _ _ ls hP hS (lv_sub hl [2, 3, 1, 0] rfl)
  unfold f_X9_groupMany at hf
  -- walk
  refine lv_iconst (v := (0 : Int32)) hx hb dX9_groupMany_0 (by decide) ?_
  refine lv_istore_n (lv' := [(2, .int (0 : Int32)), (0, .ref (ad 9 0)), (1, .int x1)]) hx hb dX9_groupMany_1 rfl hl (by decide) rfl (fun ls hl => ?_)
  refine lv_iconst (v := (0 : Int32)) hx hb dX9_groupMany_2 (by decide) ?_
  refine lv_istore_n (lv' := [(3, .int (0 : Int32)), (2, .int (0 : Int32)), (0, .ref (ad 9 0)), (1, .int x1)]) hx hb dX9_groupMany_3 rfl hl (by decide) rfl (fun ls hl => ?_)
  exact L_lp_X9_groupMany_4 x1 _ (fun u2_1 hf H locs ls hP hS hl => P_f_X9_groupMany_41 u2_1 hf _ _ ls hP hS (lv_sub hl [0] rfl)) N (0 : Int32) (0 : Int32) hf _ _ ls hP hS (lv_sub hl [2, 3, 1, 0] rfl)
def f_X9_usersOf_90 (N : Nat) (w : Mem)  (v2 : Int32) : Option (Int32) :=
  some v2
def f_X9_usersOf_71_4 (rc : Int32 → Int32 → Option (Int32)) (k : Int32 → Option (Int32)) (N : Nat) (w : Mem)  (v1 : Int32) (v2 : Int32) (v3 : Int32) (v4 : Int32) : Option (Int32) :=
  (if v4 = (0 : Int32) then
(rc (v2 + (0 : Int32)) (v3 + (1 : Int32)))
else
(rc (v2 + (1 : Int32)) (v3 + (1 : Int32))))
def lp_X9_usersOf_18 (k : Int32 → Option (Int32)) (N : Nat) (w : Mem)  (v1 : Int32) (v2 : Int32) (v3 : Int32) : Nat → Int32 → Int32 → Option (Int32)
  | 0, _, _ => none
  | n + 1, v4, v5 => (Option.bind (f_X9_takesOf N w v3) (fun z4 => (if z4 ≤ v5 then
(k v4)
else
(if v4 = (0 : Int32) then
(if inb (((3 : Int32) * v3) + v5) 72 = true then (if inb (gA w 47 0 (((3 : Int32) * v3) + v5).toNatClampNeg) 24 = true then (if inb v1 24 = true then (if (gA w 52 0 (gA w 47 0 (((3 : Int32) * v3) + v5).toNatClampNeg).toNatClampNeg) = (gA w 52 0 v1.toNatClampNeg) then
(lp_X9_usersOf_18 k N w  v1 v2 v3 n (1 : Int32) (v5 + (1 : Int32)))
else
(lp_X9_usersOf_18 k N w  v1 v2 v3 n (0 : Int32) (v5 + (1 : Int32)))) else none) else none) else none)
else
(lp_X9_usersOf_18 k N w  v1 v2 v3 n (1 : Int32) (v5 + (1 : Int32)))))))
def lp_X9_usersOf_4 (k : Int32 → Option (Int32)) (N : Nat) (w : Mem)  (v1 : Int32) : Nat → Int32 → Int32 → Option (Int32)
  | 0, _, _ => none
  | n + 1, v2, v3 => (if (gF w 9 27 0) ≤ v3 then
(k v2)
else
(lp_X9_usersOf_18 (fun (u4_2 : Int32) => (f_X9_usersOf_71_4 (fun (v2 : Int32) (v3 : Int32) => lp_X9_usersOf_4 k N w  v1 n v2 v3) k N w  v1 v2 v3 u4_2 )) N w  v1 v2 v3 N (0 : Int32) (0 : Int32)))
def f_X9_usersOf (N : Nat) (w : Mem) (x1 : Int32) : Option (Int32) :=
  (lp_X9_usersOf_4 (fun (u2_1 : Int32) => (f_X9_usersOf_90 N w  u2_1 )) N w  x1 N (0 : Int32) (0 : Int32))
set_option maxRecDepth 100000 in
set_option maxHeartbeats 4000000 in
theorem c_X9_usersOf (l : Launch) (D : va_G) (ca : Nat → ClassId) (ad : Nat → Nat → Nat) (PL : List (Nat × Nat)) (Z : State → Prop) (A : Nat → Prop) (hok : okc bM Z A ad PL) (N : Nat) (w : Mem) (x1 : Int32) (r : Int32) (hf : f_X9_usersOf N w x1 = some r) : CT l yX9_usersOf (wsy yX9_usersOf cX9_usersOf 6 (some .int)) (rmk 1) D ca ad PL Z A [.ref (ad 9 0), .int x1] w w (some (.int r)) := by
  refine Met.ofW (cc := cX9_usersOf) (maxL := 6) (ret := (some .int)) (by decide +kernel) rfl ?_
  intro p e s m args below meth c s₁ B hml hv
  obtain ⟨rfl, hP, hK, hZ⟩ := hv
  have hx := B.exec
  have hb := B.bytes
  have hr := B.returns
  have hlocks := B.notSynchronized
  have hts : ∀ w ∈ ALL, w.before _ s = true := fun w hw => atoms_spec (ws := wsy yX9_usersOf cX9_usersOf 6 (some .int)) B.pre w (List.mem_cons_of_mem _ hw)
  have hown : s.vm.findClass RX9 = some m.cls := findClass_of_methodNamed B.named
  have C : CX p s m _ c cX9_usersOf RX9 6 D ca Z := ⟨hx, hb, hml, hown, hts, hK, hZ⟩
  have hS : va_S A s.heap s.heap [] := va_S.rf
  have hl := lv_entry ([.ref (ad 9 0), .int x1]) (n := 6) (Nat.le_of_ble_eq_true rfl)
  rw [lg_entry_eq]
  generalize (lg_sl ([.ref (ad 9 0), .int x1]) ++ List.replicate (6 - (lg_sl ([.ref (ad 9 0), .int x1])).length) Slot.unset).toArray = ls at hl ⊢
  have hl : lv_has ls 6 [(0, .ref (ad 9 0)), (1, .int x1)] := hl
  show W p l e (rmk 1) s m _ below meth c s.heap [] 0 0 _ _
  have P_f_X9_usersOf_90 : ∀ (v2 : Int32), f_X9_usersOf_90 N w  v2  = some r → WP p l e (rmk 1) s m [.ref (ad 9 0), .int x1].toArray below meth c D ca ad PL A (MQ below (qcR D ca ad PL Z A w (some (.int r))) [.ref (ad 9 0), .int x1].toArray s 0 0 A) 6 90 [] [(2, .int v2)] w := by
    intro v2 hf _ _ ls hP hS hl
    unfold f_X9_usersOf_90 at hf
    refine lv_iload_n hx hb dX9_usersOf_90 rfl (lv_at hl 0 rfl) ?_
    exact kr_i hok.2.2 C hlocks hr rfl hP hS rfl (Option.some.inj hf) dX9_usersOf_91
  have P_f_X9_usersOf_71_4 : ∀ (v1 : Int32) (rc : Int32 → Int32 → Option (Int32)) (hrc : ∀ (v2 : Int32) (v3 : Int32), rc v2 v3 = some r → WP p l e (rmk 1) s m [.ref (ad 9 0), .int x1].toArray below meth c D ca ad PL A (MQ below (qcR D ca ad PL Z A w (some (.int r))) [.ref (ad 9 0), .int x1].toArray s 0 0 A) 6 4 [] [(0, .ref (ad 9 0)), (1, .int v1), (2, .int v2), (3, .int v3)] w) (k : Int32 → Option (Int32)) (hk : ∀ (v2 : Int32), k v2 = some r → WP p l e (rmk 1) s m [.ref (ad 9 0), .int x1].toArray below meth c D ca ad PL A (MQ below (qcR D ca ad PL Z A w (some (.int r))) [.ref (ad 9 0), .int x1].toArray s 0 0 A) 6 90 [] [(2, .int v2)] w) (v2 : Int32) (v3 : Int32) (v4 : Int32), f_X9_usersOf_71_4 rc k N w  v1 v2 v3 v4  = some r → WP p l e (rmk 1) s m [.ref (ad 9 0), .int x1].toArray below meth c D ca ad PL A (MQ below (qcR D ca ad PL Z A w (some (.int r))) [.ref (ad 9 0), .int x1].toArray s 0 0 A) 6 71 [] [(0, .ref (ad 9 0)), (1, .int v1), (2, .int v2), (3, .int v3), (4, .int v4)] w := by
    intro v1 rc hrc k hk v2 v3 v4 hf _ _ ls hP hS hl
    unfold f_X9_usersOf_71_4 at hf
    refine lv_iload_n hx hb dX9_usersOf_71 rfl (lv_at hl 2 rfl) ?_
    refine lv_iload hx hb dX9_usersOf_72 (lv_at hl 4 rfl) ?_
    refine lv_if_eq (tgt := 81) hx hb dX9_usersOf_74 (by decide) (fun c3 => ?_) (fun c3 => ?_)
    · have hf := ifp hf c3
      refine lv_iconst (v := (0 : Int32)) hx hb dX9_usersOf_81 (by decide) ?_
      refine lv_iadd hx hb dX9_usersOf_82 ?_
      refine lv_istore_n (lv' := [(2, .int (v2 + (0 : Int32))), (0, .ref (ad 9 0)), (1, .int v1), (3, .int v3), (4, .int v4)]) hx hb dX9_usersOf_83 rfl hl (by decide) rfl (fun ls hl => ?_)
      refine lv_iinc (v := (v3 + (1 : Int32))) (lv' := [(3, .int (v3 + (1 : Int32))), (2, .int (v2 + (0 : Int32))), (0, .ref (ad 9 0)), (1, .int v1), (4, .int v4)]) hx hb dX9_usersOf_84 hl (k := 3) rfl rfl (by decide) rfl (fun ls hl => ?_)
      refine lv_goto (tgt := 4) hx hb dX9_usersOf_87 (by decide) ?_
      exact hrc (v2 + (0 : Int32)) (v3 + (1 : Int32)) hf _ _ ls hP hS (lv_sub hl [2, 3, 1, 0] rfl)
    · have hf := ifn hf c3
      refine lv_iconst (v := (1 : Int32)) hx hb dX9_usersOf_77 (by decide) ?_
      refine lv_goto (tgt := 82) hx hb dX9_usersOf_78 (by decide) ?_
      refine lv_iadd hx hb dX9_usersOf_82 ?_
      refine lv_istore_n (lv' := [(2, .int (v2 + (1 : Int32))), (0, .ref (ad 9 0)), (1, .int v1), (3, .int v3), (4, .int v4)]) hx hb dX9_usersOf_83 rfl hl (by decide) rfl (fun ls hl => ?_)
      refine lv_iinc (v := (v3 + (1 : Int32))) (lv' := [(3, .int (v3 + (1 : Int32))), (2, .int (v2 + (1 : Int32))), (0, .ref (ad 9 0)), (1, .int v1), (4, .int v4)]) hx hb dX9_usersOf_84 hl (k := 3) rfl rfl (by decide) rfl (fun ls hl => ?_)
      refine lv_goto (tgt := 4) hx hb dX9_usersOf_87 (by decide) ?_
      exact hrc (v2 + (1 : Int32)) (v3 + (1 : Int32)) hf _ _ ls hP hS (lv_sub hl [2, 3, 1, 0] rfl)
  have L_lp_X9_usersOf_18 : ∀ (v1 : Int32) (v2 : Int32) (v3 : Int32) (k : Int32 → Option (Int32)) (hk : ∀ (v4 : Int32), k v4 = some r → WP p l e (rmk 1) s m [.ref (ad 9 0), .int x1].toArray below meth c D ca ad PL A (MQ below (qcR D ca ad PL Z A w (some (.int r))) [.ref (ad 9 0), .int x1].toArray s 0 0 A) 6 71 [] [(0, .ref (ad 9 0)), (1, .int v1), (2, .int v2), (3, .int v3), (4, .int v4)] w) (n : Nat) (v4 : Int32) (v5 : Int32), lp_X9_usersOf_18 k N w  v1 v2 v3 n v4 v5 = some r → WP p l e (rmk 1) s m [.ref (ad 9 0), .int x1].toArray below meth c D ca ad PL A (MQ below (qcR D ca ad PL Z A w (some (.int r))) [.ref (ad 9 0), .int x1].toArray s 0 0 A) 6 18 [] [(0, .ref (ad 9 0)), (1, .int v1), (2, .int v2), (3, .int v3), (4, .int v4), (5, .int v5)] w := by
    intro v1 v2 v3 k hk n
    induction n with
    | zero => intro v4 v5 hf; rw [lp_X9_usersOf_18] at hf; cases hf
    | succ n ih =>
      intro v4 v5 hf _ _ ls hP hS hl
      rw [lp_X9_usersOf_18] at hf
      refine lv_iload hx hb dX9_usersOf_18 (lv_at hl 5 rfl) ?_
      refine lv_aload_n hx hb dX9_usersOf_20 rfl (lv_at hl 0 rfl) ?_
      refine lv_iload_n hx hb dX9_usersOf_21 rfl (lv_at hl 3 rfl) ?_
      obtain ⟨z4, q5, hf⟩ := bsp hf
      refine kc_V (ci := 9) (i := 0) (As := [.int v3]) (rest := [.int v5]) hok.2.2 C hP hS hl.1 (hok.2.1 9 0 (Nat.le_of_ble_eq_true rfl)) rfl rfl cw_X9_takesOf ml_X9_253 (c_X9_takesOf l D ca ad PL Z A hok N w v3 z4 q5) rfl ⟨rfl, rfl⟩ ⟨Nat.le_of_ble_eq_true rfl, Nat.le_of_ble_eq_true rfl⟩ ⟨Nat.zero_le _, Nat.zero_le _⟩ (Nat.le_of_ble_eq_true rfl) rfl dX9_usersOf_22 (fun H locs hP hS => ?_)
      refine lv_icmp_ge (tgt := 71) hx hb dX9_usersOf_25 (by decide) (fun c11 => ?_) (fun c11 => ?_)
      · have hf := ifp hf c11
        exact hk v4 hf _ _ ls hP hS (lv_sub hl [0, 1, 2, 3, 4] rfl)
      · have hf := ifn hf c11
        refine lv_iload hx hb dX9_usersOf_28 (lv_at hl 4 rfl) ?_
        refine lv_if_ne (tgt := 58) hx hb dX9_usersOf_30 (by decide) (fun c10 => ?_) (fun c10 => ?_)
        · have hf := ifn hf c10
          refine lv_iconst (v := (1 : Int32)) hx hb dX9_usersOf_58 (by decide) ?_
          refine lv_goto (tgt := 63) hx hb dX9_usersOf_59 (by decide) ?_
          refine lv_istore (lv' := [(4, .int (1 : Int32)), (0, .ref (ad 9 0)), (1, .int v1), (2, .int v2), (3, .int v3), (5, .int v5)]) hx hb dX9_usersOf_63 hl (by decide) rfl (fun ls hl => ?_)
          refine lv_iinc (v := (v5 + (1 : Int32))) (lv' := [(5, .int (v5 + (1 : Int32))), (4, .int (1 : Int32)), (0, .ref (ad 9 0)), (1, .int v1), (2, .int v2), (3, .int v3)]) hx hb dX9_usersOf_65 hl (k := 5) rfl rfl (by decide) rfl (fun ls hl => ?_)
          refine lv_goto (tgt := 18) hx hb dX9_usersOf_68 (by decide) ?_
          exact ih (1 : Int32) (v5 + (1 : Int32)) hf _ _ ls hP hS (lv_sub hl [2, 3, 4, 5, 1, 0] rfl)
        · have hf := ifp hf c10
          refine lv_aload_n hx hb dX9_usersOf_33 rfl (lv_at hl 0 rfl) ?_
          refine gt_9_36 (i := 0) C hP (hok.2.1 9 0 (Nat.le_of_ble_eq_true rfl)) lk_X9_50 dX9_usersOf_34 ?_
          refine lv_aload_n hx hb dX9_usersOf_37 rfl (lv_at hl 0 rfl) ?_
          refine gt_9_29 (i := 0) C hP (hok.2.1 9 0 (Nat.le_of_ble_eq_true rfl)) lk_X9_35 dX9_usersOf_38 ?_
          refine lv_iconst (v := (3 : Int32)) hx hb dX9_usersOf_41 (by decide) ?_
          refine lv_iload_n hx hb dX9_usersOf_42 rfl (lv_at hl 3 rfl) ?_
          refine lv_imul hx hb dX9_usersOf_43 ?_
          refine lv_iload hx hb dX9_usersOf_44 (lv_at hl 5 rfl) ?_
          refine lv_iadd hx hb dX9_usersOf_46 ?_
          obtain ⟨b6, hf⟩ := gsp hf
          refine ra_ild (k := 47) (i := 0) (n := 72) (f := (gA w 47 0)) C hP (hok.2.1 47 0 (Nat.le_of_ble_eq_true rfl)) rfl b6 dX9_usersOf_47 ?_
          obtain ⟨b7, hf⟩ := gsp hf
          refine ra_ild (k := 52) (i := 0) (n := 24) (f := (gA w 52 0)) C hP (hok.2.1 52 0 (Nat.le_of_ble_eq_true rfl)) rfl b7 dX9_usersOf_48 ?_
          refine lv_aload_n hx hb dX9_usersOf_49 rfl (lv_at hl 0 rfl) ?_
          refine gt_9_36 (i := 0) C hP (hok.2.1 9 0 (Nat.le_of_ble_eq_true rfl)) lk_X9_50 dX9_usersOf_50 ?_
          refine lv_iload_n hx hb dX9_usersOf_53 rfl (lv_at hl 1 rfl) ?_
          obtain ⟨b8, hf⟩ := gsp hf
          refine ra_ild (k := 52) (i := 0) (n := 24) (f := (gA w 52 0)) C hP (hok.2.1 52 0 (Nat.le_of_ble_eq_true rfl)) rfl b8 dX9_usersOf_54 ?_
          refine lv_icmp_ne (tgt := 62) hx hb dX9_usersOf_55 (by decide) (fun c9 => ?_) (fun c9 => ?_)
          · have hf := ifn hf c9
            refine lv_iconst (v := (0 : Int32)) hx hb dX9_usersOf_62 (by decide) ?_
            refine lv_istore (lv' := [(4, .int (0 : Int32)), (0, .ref (ad 9 0)), (1, .int v1), (2, .int v2), (3, .int v3), (5, .int v5)]) hx hb dX9_usersOf_63 hl (by decide) rfl (fun ls hl => ?_)
            refine lv_iinc (v := (v5 + (1 : Int32))) (lv' := [(5, .int (v5 + (1 : Int32))), (4, .int (0 : Int32)), (0, .ref (ad 9 0)), (1, .int v1), (2, .int v2), (3, .int v3)]) hx hb dX9_usersOf_65 hl (k := 5) rfl rfl (by decide) rfl (fun ls hl => ?_)
            refine lv_goto (tgt := 18) hx hb dX9_usersOf_68 (by decide) ?_
            exact ih (0 : Int32) (v5 + (1 : Int32)) hf _ _ ls hP hS (lv_sub hl [2, 3, 4, 5, 1, 0] rfl)
          · have hf := ifp hf c9
            refine lv_iconst (v := (1 : Int32)) hx hb dX9_usersOf_58 (by decide) ?_
            refine lv_goto (tgt := 63) hx hb dX9_usersOf_59 (by decide) ?_
            refine lv_istore (lv' := [(4, .int (1 : Int32)), (0, .ref (ad 9 0)), (1, .int v1), (2, .int v2), (3, .int v3), (5, .int v5)]) hx hb dX9_usersOf_63 hl (by decide) rfl (fun ls hl => ?_)
            refine lv_iinc (v := (v5 + (1 : Int32))) (lv' := [(5, .int (v5 + (1 : Int32))), (4, .int (1 : Int32)), (0, .ref (ad 9 0)), (1, .int v1), (2, .int v2), (3, .int v3)]) hx hb dX9_usersOf_65 hl (k := 5) rfl rfl (by decide) rfl (fun ls hl => ?_)
            refine lv_goto (tgt := 18) hx hb dX9_usersOf_68 (by decide) ?_
            exact ih (1 : Int32) (v5 + (1 : Int32)) hf _ _ ls hP hS (lv_sub hl [2, 3, 4, 5, 1, 0] rfl)
  have L_lp_X9_usersOf_4 : ∀ (v1 : Int32) (k : Int32 → Option (Int32)) (hk : ∀ (v2 : Int32), k v2 = some r → WP p l e (rmk 1) s m [.ref (ad 9 0), .int x1].toArray below meth c D ca ad PL A (MQ below (qcR D ca ad PL Z A w (some (.int r))) [.ref (ad 9 0), .int x1].toArray s 0 0 A) 6 90 [] [(2, .int v2)] w) (n : Nat) (v2 : Int32) (v3 : Int32), lp_X9_usersOf_4 k N w  v1 n v2 v3 = some r → WP p l e (rmk 1) s m [.ref (ad 9 0), .int x1].toArray below meth c D ca ad PL A (MQ below (qcR D ca ad PL Z A w (some (.int r))) [.ref (ad 9 0), .int x1].toArray s 0 0 A) 6 4 [] [(0, .ref (ad 9 0)), (1, .int v1), (2, .int v2), (3, .int v3)] w := by
    intro v1 k hk n
    induction n with
    | zero => intro v2 v3 hf; rw [lp_X9_usersOf_4] at hf; cases hf
    | succ n ih =>
      intro v2 v3 hf _ _ ls hP hS hl
      rw [lp_X9_usersOf_4] at hf
      refine lv_iload_n hx hb dX9_usersOf_4 rfl (lv_at hl 3 rfl) ?_
      refine lv_aload_n hx hb dX9_usersOf_5 rfl (lv_at hl 0 rfl) ?_
      refine gt_9_27 (i := 0) C hP (hok.2.1 9 0 (Nat.le_of_ble_eq_true rfl)) lk_X9_250 dX9_usersOf_6 ?_
      refine lv_icmp_ge (tgt := 90) hx hb dX9_usersOf_9 (by decide) (fun c12 => ?_) (fun c12 => ?_)
      · have hf := ifp hf c12
        exact hk v2 hf _ _ ls hP hS (lv_sub hl [2] rfl)
      · have hf := ifn hf c12
        refine lv_iconst (v := (0 : Int32)) hx hb dX9_usersOf_12 (by decide) ?_
        refine lv_istore (lv' := [(4, .int (0 : Int32)), (0, .ref (ad 9 0)), (1, .int v1), (2, .int v2), (3, .int v3)]) hx hb dX9_usersOf_13 hl (by decide) rfl (fun ls hl => ?_)
        refine lv_iconst (v := (0 : Int32)) hx hb dX9_usersOf_15 (by decide) ?_
        refine lv_istore (lv' := [(5, .int (0 : Int32)), (4, .int (0 : Int32)), (0, .ref (ad 9 0)), (1, .int v1), (2, .int v2), (3, .int v3)]) hx hb dX9_usersOf_16 hl (by decide) rfl (fun ls hl => ?_)
        exact L_lp_X9_usersOf_18 v1 v2 v3 _ (fun u4_2 hf H locs ls hP hS hl => P_f_X9_usersOf_71_4 v1 _ ih _ hk v2 v3 u4_2 hf _ _ ls hP hS (lv_sub hl [0, 1, 2, 3, 4] rfl)) N (0 : Int32) (0 : Int32) hf _ _ ls hP hS (lv_sub hl [2, 3, 4, 5, 1, 0] rfl)
  unfold f_X9_usersOf at hf
  -- walk
  refine lv_iconst (v := (0 : Int32)) hx hb dX9_usersOf_0 (by decide) ?_
  refine lv_istore_n (lv' := [(2, .int (0 : Int32)), (0, .ref (ad 9 0)), (1, .int x1)]) hx hb dX9_usersOf_1 rfl hl (by decide) rfl (fun ls hl => ?_)
  refine lv_iconst (v := (0 : Int32)) hx hb dX9_usersOf_2 (by decide) ?_
  refine lv_istore_n (lv' := [(3, .int (0 : Int32)), (2, .int (0 : Int32)), (0, .ref (ad 9 0)), (1, .int x1)]) hx hb dX9_usersOf_3 rfl hl (by decide) rfl (fun ls hl => ?_)
  exact L_lp_X9_usersOf_4 x1 _ (fun u2_1 hf H locs ls hP hS hl => P_f_X9_usersOf_90 u2_1 hf _ _ ls hP hS (lv_sub hl [0] rfl)) N (0 : Int32) (0 : Int32) hf _ _ ls hP hS (lv_sub hl [2, 3, 1, 0] rfl)
def f_X9_deepOf_84 (N : Nat) (w : Mem)  (v1 : Int32) : Option (Mem × Int32) :=
  (if inb v1 24 = true then some (w, (gA w 60 0 v1.toNatClampNeg)) else none)
def f_X9_deepOf_78_2 (rc : Mem → Int32 → Option (Mem × Int32)) (k : Mem → Option (Mem × Int32)) (N : Nat) (w : Mem)  (v1 : Int32) (v2 : Int32) : Option (Mem × Int32) :=
  (rc w (v2 + (1 : Int32)))
def lp_X9_deepOf_16 (k : Mem → Option (Mem × Int32)) (N : Nat)  (v1 : Int32) (v2 : Int32) : Nat → Mem → Int32 → Option (Mem × Int32)
  | 0, _, _ => none
  | n + 1, w, v3 => (Option.bind (f_X9_takesOf N w v2) (fun z5 => (if z5 ≤ v3 then
(k w)
else
(if inb (((3 : Int32) * v2) + v3) 72 = true then (if inb (gA w 47 0 (((3 : Int32) * v2) + v3).toNatClampNeg) 24 = true then (if inb v2 24 = true then (if ((gA w 60 0 (gA w 47 0 (((3 : Int32) * v2) + v3).toNatClampNeg).toNatClampNeg) + (1 : Int32)) ≤ (gA w 60 0 v2.toNatClampNeg) then
(lp_X9_deepOf_16 k N   v1 v2 n (sA w 60 0 v2.toNatClampNeg (gA w 60 0 v2.toNatClampNeg)) (v3 + (1 : Int32)))
else
(lp_X9_deepOf_16 k N   v1 v2 n (sA w 60 0 v2.toNatClampNeg ((gA w 60 0 (gA w 47 0 (((3 : Int32) * v2) + v3).toNatClampNeg).toNatClampNeg) + (1 : Int32))) (v3 + (1 : Int32)))) else none) else none) else none))))
def lp_X9_deepOf_2 (k : Mem → Option (Mem × Int32)) (N : Nat)  (v1 : Int32) : Nat → Mem → Int32 → Option (Mem × Int32)
  | 0, _, _ => none
  | n + 1, w, v2 => (if v1 < v2 then
(k w)
else
(if inb v2 24 = true then (lp_X9_deepOf_16 (fun (w_4 : Mem) => (f_X9_deepOf_78_2 (fun (w : Mem) (v2 : Int32) => lp_X9_deepOf_2 k N   v1 n w v2) k N w_4  v1 v2 )) N   v1 v2 N (sA w 60 0 v2.toNatClampNeg (0 : Int32)) (0 : Int32)) else none))
def f_X9_deepOf (N : Nat) (w : Mem) (x1 : Int32) : Option (Mem × Int32) :=
  (lp_X9_deepOf_2 (fun (w_1 : Mem) => (f_X9_deepOf_84 N w_1  x1 )) N   x1 N w (0 : Int32))
set_option maxRecDepth 100000 in
set_option maxHeartbeats 4000000 in
theorem c_X9_deepOf (l : Launch) (D : va_G) (ca : Nat → ClassId) (ad : Nat → Nat → Nat) (PL : List (Nat × Nat)) (Z : State → Prop) (A : Nat → Prop) (hok : okc bM Z A ad PL) (N : Nat) (w : Mem) (x1 : Int32) (w' : Mem) (r : Int32) (hf : f_X9_deepOf N w x1 = some (w', r)) : CT l yX9_deepOf (wsy yX9_deepOf cX9_deepOf 5 (some .int)) (rmk 1) D ca ad PL Z A [.ref (ad 9 0), .int x1] w w' (some (.int r)) := by
  refine Met.ofW (cc := cX9_deepOf) (maxL := 5) (ret := (some .int)) (by decide +kernel) rfl ?_
  intro p e s m args below meth c s₁ B hml hv
  obtain ⟨rfl, hP, hK, hZ⟩ := hv
  have hx := B.exec
  have hb := B.bytes
  have hr := B.returns
  have hlocks := B.notSynchronized
  have hts : ∀ w ∈ ALL, w.before _ s = true := fun w hw => atoms_spec (ws := wsy yX9_deepOf cX9_deepOf 5 (some .int)) B.pre w (List.mem_cons_of_mem _ hw)
  have hown : s.vm.findClass RX9 = some m.cls := findClass_of_methodNamed B.named
  have C : CX p s m _ c cX9_deepOf RX9 5 D ca Z := ⟨hx, hb, hml, hown, hts, hK, hZ⟩
  have hS : va_S A s.heap s.heap [] := va_S.rf
  have hl := lv_entry ([.ref (ad 9 0), .int x1]) (n := 5) (Nat.le_of_ble_eq_true rfl)
  rw [lg_entry_eq]
  generalize (lg_sl ([.ref (ad 9 0), .int x1]) ++ List.replicate (5 - (lg_sl ([.ref (ad 9 0), .int x1])).length) Slot.unset).toArray = ls at hl ⊢
  have hl : lv_has ls 5 [(0, .ref (ad 9 0)), (1, .int x1)] := hl
  show W p l e (rmk 1) s m _ below meth c s.heap [] 0 0 _ _
  have P_f_X9_deepOf_84 : ∀ (w : Mem) (v1 : Int32), f_X9_deepOf_84 N w  v1  = some (w', r) → WP p l e (rmk 1) s m [.ref (ad 9 0), .int x1].toArray below meth c D ca ad PL A (MQ below (qcR D ca ad PL Z A w' (some (.int r))) [.ref (ad 9 0), .int x1].toArray s 0 0 A) 5 84 [] [(0, .ref (ad 9 0)), (1, .int v1)] w := by
    intro w v1 hf _ _ ls hP hS hl
    unfold f_X9_deepOf_84 at hf
    refine lv_aload_n hx hb dX9_deepOf_84 rfl (lv_at hl 0 rfl) ?_
    refine gt_9_45 (i := 0) C hP (hok.2.1 9 0 (Nat.le_of_ble_eq_true rfl)) lk_X9_74 dX9_deepOf_85 ?_
    refine lv_iload_n hx hb dX9_deepOf_88 rfl (lv_at hl 1 rfl) ?_
    obtain ⟨b2, hf⟩ := gsp hf
    refine ra_ild (k := 60) (i := 0) (n := 24) (f := (gA w 60 0)) C hP (hok.2.1 60 0 (Nat.le_of_ble_eq_true rfl)) rfl b2 dX9_deepOf_89 ?_
    exact kr_i hok.2.2 C hlocks hr rfl hP hS (congrArg Prod.fst (Option.some.inj hf)) (congrArg Prod.snd (Option.some.inj hf)) dX9_deepOf_90
  have P_f_X9_deepOf_78_2 : ∀ (v1 : Int32) (rc : Mem → Int32 → Option (Mem × Int32)) (hrc : ∀ (w : Mem) (v2 : Int32), rc w v2 = some (w', r) → WP p l e (rmk 1) s m [.ref (ad 9 0), .int x1].toArray below meth c D ca ad PL A (MQ below (qcR D ca ad PL Z A w' (some (.int r))) [.ref (ad 9 0), .int x1].toArray s 0 0 A) 5 2 [] [(0, .ref (ad 9 0)), (1, .int v1), (2, .int v2)] w) (k : Mem → Option (Mem × Int32)) (hk : ∀ (w : Mem), k w = some (w', r) → WP p l e (rmk 1) s m [.ref (ad 9 0), .int x1].toArray below meth c D ca ad PL A (MQ below (qcR D ca ad PL Z A w' (some (.int r))) [.ref (ad 9 0), .int x1].toArray s 0 0 A) 5 84 [] [(0, .ref (ad 9 0)), (1, .int v1)] w) (w : Mem) (v2 : Int32), f_X9_deepOf_78_2 rc k N w  v1 v2  = some (w', r) → WP p l e (rmk 1) s m [.ref (ad 9 0), .int x1].toArray below meth c D ca ad PL A (MQ below (qcR D ca ad PL Z A w' (some (.int r))) [.ref (ad 9 0), .int x1].toArray s 0 0 A) 5 78 [] [(0, .ref (ad 9 0)), (1, .int v1), (2, .int v2)] w := by
    intro v1 rc hrc k hk w v2 hf _ _ ls hP hS hl
    unfold f_X9_deepOf_78_2 at hf
    refine lv_iinc (v := (v2 + (1 : Int32))) (lv' := [(2, .int (v2 + (1 : Int32))), (0, .ref (ad 9 0)), (1, .int v1)]) hx hb dX9_deepOf_78 hl (k := 2) rfl rfl (by decide) rfl (fun ls hl => ?_)
    refine lv_goto (tgt := 2) hx hb dX9_deepOf_81 (by decide) ?_
    exact hrc w (v2 + (1 : Int32)) hf _ _ ls hP hS (lv_sub hl [1, 2, 0] rfl)
  have L_lp_X9_deepOf_16 : ∀ (v1 : Int32) (v2 : Int32) (k : Mem → Option (Mem × Int32)) (hk : ∀ (w : Mem), k w = some (w', r) → WP p l e (rmk 1) s m [.ref (ad 9 0), .int x1].toArray below meth c D ca ad PL A (MQ below (qcR D ca ad PL Z A w' (some (.int r))) [.ref (ad 9 0), .int x1].toArray s 0 0 A) 5 78 [] [(0, .ref (ad 9 0)), (1, .int v1), (2, .int v2)] w) (n : Nat) (w : Mem) (v3 : Int32), lp_X9_deepOf_16 k N   v1 v2 n w v3 = some (w', r) → WP p l e (rmk 1) s m [.ref (ad 9 0), .int x1].toArray below meth c D ca ad PL A (MQ below (qcR D ca ad PL Z A w' (some (.int r))) [.ref (ad 9 0), .int x1].toArray s 0 0 A) 5 16 [] [(0, .ref (ad 9 0)), (1, .int v1), (2, .int v2), (3, .int v3)] w := by
    intro v1 v2 k hk n
    induction n with
    | zero => intro w v3 hf; rw [lp_X9_deepOf_16] at hf; cases hf
    | succ n ih =>
      intro w v3 hf _ _ ls hP hS hl
      rw [lp_X9_deepOf_16] at hf
      refine lv_iload_n hx hb dX9_deepOf_16 rfl (lv_at hl 3 rfl) ?_
      refine lv_aload_n hx hb dX9_deepOf_17 rfl (lv_at hl 0 rfl) ?_
      refine lv_iload_n hx hb dX9_deepOf_18 rfl (lv_at hl 2 rfl) ?_
      obtain ⟨z5, q6, hf⟩ := bsp hf
      refine kc_V (ci := 9) (i := 0) (As := [.int v2]) (rest := [.int v3]) hok.2.2 C hP hS hl.1 (hok.2.1 9 0 (Nat.le_of_ble_eq_true rfl)) rfl rfl cw_X9_takesOf ml_X9_253 (c_X9_takesOf l D ca ad PL Z A hok N w v2 z5 q6) rfl ⟨rfl, rfl⟩ ⟨Nat.le_of_ble_eq_true rfl, Nat.le_of_ble_eq_true rfl⟩ ⟨Nat.zero_le _, Nat.zero_le _⟩ (Nat.le_of_ble_eq_true rfl) rfl dX9_deepOf_19 (fun H locs hP hS => ?_)
      refine lv_icmp_ge (tgt := 78) hx hb dX9_deepOf_22 (by decide) (fun c11 => ?_) (fun c11 => ?_)
      · have hf := ifp hf c11
        exact hk w hf _ _ ls hP hS (lv_sub hl [0, 1, 2] rfl)
      · have hf := ifn hf c11
        refine lv_aload_n hx hb dX9_deepOf_25 rfl (lv_at hl 0 rfl) ?_
        refine gt_9_45 (i := 0) C hP (hok.2.1 9 0 (Nat.le_of_ble_eq_true rfl)) lk_X9_74 dX9_deepOf_26 ?_
        refine lv_aload_n hx hb dX9_deepOf_29 rfl (lv_at hl 0 rfl) ?_
        refine gt_9_29 (i := 0) C hP (hok.2.1 9 0 (Nat.le_of_ble_eq_true rfl)) lk_X9_35 dX9_deepOf_30 ?_
        refine lv_iconst (v := (3 : Int32)) hx hb dX9_deepOf_33 (by decide) ?_
        refine lv_iload_n hx hb dX9_deepOf_34 rfl (lv_at hl 2 rfl) ?_
        refine lv_imul hx hb dX9_deepOf_35 ?_
        refine lv_iload_n hx hb dX9_deepOf_36 rfl (lv_at hl 3 rfl) ?_
        refine lv_iadd hx hb dX9_deepOf_37 ?_
        obtain ⟨b7, hf⟩ := gsp hf
        refine ra_ild (k := 47) (i := 0) (n := 72) (f := (gA w 47 0)) C hP (hok.2.1 47 0 (Nat.le_of_ble_eq_true rfl)) rfl b7 dX9_deepOf_38 ?_
        obtain ⟨b8, hf⟩ := gsp hf
        refine ra_ild (k := 60) (i := 0) (n := 24) (f := (gA w 60 0)) C hP (hok.2.1 60 0 (Nat.le_of_ble_eq_true rfl)) rfl b8 dX9_deepOf_39 ?_
        refine lv_iconst (v := (1 : Int32)) hx hb dX9_deepOf_40 (by decide) ?_
        refine lv_iadd hx hb dX9_deepOf_41 ?_
        refine lv_istore (lv' := [(4, .int ((gA w 60 0 (gA w 47 0 (((3 : Int32) * v2) + v3).toNatClampNeg).toNatClampNeg) + (1 : Int32))), (0, .ref (ad 9 0)), (1, .int v1), (2, .int v2), (3, .int v3)]) hx hb dX9_deepOf_42 hl (by decide) rfl (fun ls hl => ?_)
        refine lv_aload_n hx hb dX9_deepOf_44 rfl (lv_at hl 1 rfl) ?_
        refine gt_9_45 (i := 0) C hP (hok.2.1 9 0 (Nat.le_of_ble_eq_true rfl)) lk_X9_74 dX9_deepOf_45 ?_
        refine lv_iload_n hx hb dX9_deepOf_48 rfl (lv_at hl 3 rfl) ?_
        refine lv_iload hx hb dX9_deepOf_49 (lv_at hl 0 rfl) ?_
        refine lv_aload_n hx hb dX9_deepOf_51 rfl (lv_at hl 1 rfl) ?_
        refine gt_9_45 (i := 0) C hP (hok.2.1 9 0 (Nat.le_of_ble_eq_true rfl)) lk_X9_74 dX9_deepOf_52 ?_
        refine lv_iload_n hx hb dX9_deepOf_55 rfl (lv_at hl 3 rfl) ?_
        obtain ⟨b9, hf⟩ := gsp hf
        refine ra_ild (k := 60) (i := 0) (n := 24) (f := (gA w 60 0)) C hP (hok.2.1 60 0 (Nat.le_of_ble_eq_true rfl)) rfl b9 dX9_deepOf_56 ?_
        refine lv_icmp_le (tgt := 65) hx hb dX9_deepOf_57 (by decide) (fun c10 => ?_) (fun c10 => ?_)
        · have hf := ifp hf c10
          refine lv_aload_n hx hb dX9_deepOf_65 rfl (lv_at hl 1 rfl) ?_
          refine gt_9_45 (i := 0) C hP (hok.2.1 9 0 (Nat.le_of_ble_eq_true rfl)) lk_X9_74 dX9_deepOf_66 ?_
          refine lv_iload_n hx hb dX9_deepOf_69 rfl (lv_at hl 3 rfl) ?_
          refine ra_ild (k := 60) (i := 0) (n := 24) (f := (gA w 60 0)) C hP (hok.2.1 60 0 (Nat.le_of_ble_eq_true rfl)) rfl b9 dX9_deepOf_70 ?_
          refine ra_ist (k := 60) (i := 0) (n := 24) C hok.1 hP hS (hok.2.1 60 0 (Nat.le_of_ble_eq_true rfl)) (fun _ => rfl) b9 dX9_deepOf_71 (fun H locs hP hS => ?_)
          refine lv_iinc (v := (v3 + (1 : Int32))) (lv' := [(3, .int (v3 + (1 : Int32))), (4, .int ((gA w 60 0 (gA w 47 0 (((3 : Int32) * v2) + v3).toNatClampNeg).toNatClampNeg) + (1 : Int32))), (0, .ref (ad 9 0)), (1, .int v1), (2, .int v2)]) hx hb dX9_deepOf_72 hl (k := 4) rfl rfl (by decide) rfl (fun ls hl => ?_)
          refine lv_goto (tgt := 16) hx hb dX9_deepOf_75 (by decide) ?_
          exact ih (sA w 60 0 v2.toNatClampNeg (gA w 60 0 v2.toNatClampNeg)) (v3 + (1 : Int32)) hf _ _ ls hP hS (lv_sub hl [2, 3, 4, 0] rfl)
        · have hf := ifn hf c10
          refine lv_iload hx hb dX9_deepOf_60 (lv_at hl 0 rfl) ?_
          refine lv_goto (tgt := 71) hx hb dX9_deepOf_62 (by decide) ?_
          refine ra_ist (k := 60) (i := 0) (n := 24) C hok.1 hP hS (hok.2.1 60 0 (Nat.le_of_ble_eq_true rfl)) (fun _ => rfl) b9 dX9_deepOf_71 (fun H locs hP hS => ?_)
          refine lv_iinc (v := (v3 + (1 : Int32))) (lv' := [(3, .int (v3 + (1 : Int32))), (4, .int ((gA w 60 0 (gA w 47 0 (((3 : Int32) * v2) + v3).toNatClampNeg).toNatClampNeg) + (1 : Int32))), (0, .ref (ad 9 0)), (1, .int v1), (2, .int v2)]) hx hb dX9_deepOf_72 hl (k := 4) rfl rfl (by decide) rfl (fun ls hl => ?_)
          refine lv_goto (tgt := 16) hx hb dX9_deepOf_75 (by decide) ?_
          exact ih (sA w 60 0 v2.toNatClampNeg ((gA w 60 0 (gA w 47 0 (((3 : Int32) * v2) + v3).toNatClampNeg).toNatClampNeg) + (1 : Int32))) (v3 + (1 : Int32)) hf _ _ ls hP hS (lv_sub hl [2, 3, 4, 0] rfl)
  have L_lp_X9_deepOf_2 : ∀ (v1 : Int32) (k : Mem → Option (Mem × Int32)) (hk : ∀ (w : Mem), k w = some (w', r) → WP p l e (rmk 1) s m [.ref (ad 9 0), .int x1].toArray below meth c D ca ad PL A (MQ below (qcR D ca ad PL Z A w' (some (.int r))) [.ref (ad 9 0), .int x1].toArray s 0 0 A) 5 84 [] [(0, .ref (ad 9 0)), (1, .int v1)] w) (n : Nat) (w : Mem) (v2 : Int32), lp_X9_deepOf_2 k N   v1 n w v2 = some (w', r) → WP p l e (rmk 1) s m [.ref (ad 9 0), .int x1].toArray below meth c D ca ad PL A (MQ below (qcR D ca ad PL Z A w' (some (.int r))) [.ref (ad 9 0), .int x1].toArray s 0 0 A) 5 2 [] [(0, .ref (ad 9 0)), (1, .int v1), (2, .int v2)] w := by
    intro v1 k hk n
    induction n with
    | zero => intro w v2 hf; rw [lp_X9_deepOf_2] at hf; cases hf
    | succ n ih =>
      intro w v2 hf _ _ ls hP hS hl
      rw [lp_X9_deepOf_2] at hf
      refine lv_iload_n hx hb dX9_deepOf_2 rfl (lv_at hl 2 rfl) ?_
      refine lv_iload_n hx hb dX9_deepOf_3 rfl (lv_at hl 1 rfl) ?_
      refine lv_icmp_gt (tgt := 84) hx hb dX9_deepOf_4 (by decide) (fun c12 => ?_) (fun c12 => ?_)
      · have hf := ifp hf c12
        exact hk w hf _ _ ls hP hS (lv_sub hl [0, 1] rfl)
      · have hf := ifn hf c12
        refine lv_aload_n hx hb dX9_deepOf_7 rfl (lv_at hl 0 rfl) ?_
        refine gt_9_45 (i := 0) C hP (hok.2.1 9 0 (Nat.le_of_ble_eq_true rfl)) lk_X9_74 dX9_deepOf_8 ?_
        refine lv_iload_n hx hb dX9_deepOf_11 rfl (lv_at hl 2 rfl) ?_
        refine lv_iconst (v := (0 : Int32)) hx hb dX9_deepOf_12 (by decide) ?_
        obtain ⟨b3, hf⟩ := gsp hf
        refine ra_ist (k := 60) (i := 0) (n := 24) C hok.1 hP hS (hok.2.1 60 0 (Nat.le_of_ble_eq_true rfl)) (fun _ => rfl) b3 dX9_deepOf_13 (fun H locs hP hS => ?_)
        refine lv_iconst (v := (0 : Int32)) hx hb dX9_deepOf_14 (by decide) ?_
        refine lv_istore_n (lv' := [(3, .int (0 : Int32)), (0, .ref (ad 9 0)), (1, .int v1), (2, .int v2)]) hx hb dX9_deepOf_15 rfl hl (by decide) rfl (fun ls hl => ?_)
        exact L_lp_X9_deepOf_16 v1 v2 _ (fun w_4 hf H locs ls hP hS hl => P_f_X9_deepOf_78_2 v1 _ ih _ hk w_4 v2 hf _ _ ls hP hS (lv_sub hl [0, 1, 2] rfl)) N (sA w 60 0 v2.toNatClampNeg (0 : Int32)) (0 : Int32) hf _ _ ls hP hS (lv_sub hl [1, 2, 3, 0] rfl)
  unfold f_X9_deepOf at hf
  -- walk
  refine lv_iconst (v := (0 : Int32)) hx hb dX9_deepOf_0 (by decide) ?_
  refine lv_istore_n (lv' := [(2, .int (0 : Int32)), (0, .ref (ad 9 0)), (1, .int x1)]) hx hb dX9_deepOf_1 rfl hl (by decide) rfl (fun ls hl => ?_)
  exact L_lp_X9_deepOf_2 x1 _ (fun w_1 hf H locs ls hP hS hl => P_f_X9_deepOf_84 w_1 x1 hf _ _ ls hP hS (lv_sub hl [0, 1] rfl)) N w (0 : Int32) hf _ _ ls hP hS (lv_sub hl [1, 2, 0] rfl)
def f_X9_term_23_s2 (N : Nat) (w : Mem)  (v1 : Int32) (v2 : Int32) (s0 : Int32) : Option (Mem × Int32) :=
  (Option.bind (f_X9_unless N w s0) (fun z3 => (Option.bind (f_X9_isRefused N w z3) (fun z5 => (if z5.2 = (0 : Int32) then
(if v2 = (0 : Int32) then
(if inb v1 24 = true then some (z5.1, (gA z5.1 46 0 v1.toNatClampNeg)) else none)
else
(if v2 = (1 : Int32) then
(if inb v1 24 = true then some (z5.1, (gA z5.1 52 0 v1.toNatClampNeg)) else none)
else
(if v2 = (2 : Int32) then
(Option.bind (f_X9_groupMany N z5.1 v1) (fun z11 => some (z5.1, z11)))
else
(if v2 = (3 : Int32) then
(Option.bind (f_X9_usersOf N z5.1 v1) (fun z14 => some (z5.1, z14)))
else
(if v2 = (4 : Int32) then
(Option.bind (f_X9_deepOf N z5.1 v1) (fun z17 => some (z17.1, z17.2)))
else
(if inb v1 24 = true then some (z5.1, (gA z5.1 53 0 v1.toNatClampNeg)) else none))))))
else
some (z5.1, (-1 : Int32)))))))
def f_X9_term (N : Nat) (w : Mem) (x1 : Int32) (x2 : Int32) : Option (Mem × Int32) :=
  (Option.bind (f_X9_isTerm N w x1) (fun z1 => (if z1 = (0 : Int32) then
(f_X9_term_23_s2 N w  x1 x2 (0 : Int32))
else
(Option.bind (f_X9_in N w x2 (0 : Int32) (5 : Int32)) (fun z22 => (if z22 = (0 : Int32) then
(f_X9_term_23_s2 N w  x1 x2 (0 : Int32))
else
(f_X9_term_23_s2 N w  x1 x2 (1 : Int32))))))))
set_option maxRecDepth 100000 in
set_option maxHeartbeats 4000000 in
theorem c_X9_term (l : Launch) (D : va_G) (ca : Nat → ClassId) (ad : Nat → Nat → Nat) (PL : List (Nat × Nat)) (Z : State → Prop) (A : Nat → Prop) (hok : okc bM Z A ad PL) (N : Nat) (w : Mem) (x1 : Int32) (x2 : Int32) (w' : Mem) (r : Int32) (hf : f_X9_term N w x1 x2 = some (w', r)) : CT l yX9_term (wsy yX9_term cX9_term 3 (some .int)) (rmk 2) D ca ad PL Z A [.ref (ad 9 0), .int x1, .int x2] w w' (some (.int r)) := by
  refine Met.ofW (cc := cX9_term) (maxL := 3) (ret := (some .int)) (by decide +kernel) rfl ?_
  intro p e s m args below meth c s₁ B hml hv
  obtain ⟨rfl, hP, hK, hZ⟩ := hv
  have hx := B.exec
  have hb := B.bytes
  have hr := B.returns
  have hlocks := B.notSynchronized
  have hts : ∀ w ∈ ALL, w.before _ s = true := fun w hw => atoms_spec (ws := wsy yX9_term cX9_term 3 (some .int)) B.pre w (List.mem_cons_of_mem _ hw)
  have hown : s.vm.findClass RX9 = some m.cls := findClass_of_methodNamed B.named
  have C : CX p s m _ c cX9_term RX9 3 D ca Z := ⟨hx, hb, hml, hown, hts, hK, hZ⟩
  have hS : va_S A s.heap s.heap [] := va_S.rf
  have hl := lv_entry ([.ref (ad 9 0), .int x1, .int x2]) (n := 3) (Nat.le_of_ble_eq_true rfl)
  rw [lg_entry_eq]
  generalize (lg_sl ([.ref (ad 9 0), .int x1, .int x2]) ++ List.replicate (3 - (lg_sl ([.ref (ad 9 0), .int x1, .int x2])).length) Slot.unset).toArray = ls at hl ⊢
  have hl : lv_has ls 3 [(0, .ref (ad 9 0)), (1, .int x1), (2, .int x2)] := hl
  show W p l e (rmk 2) s m _ below meth c s.heap [] 0 0 _ _
  have P_f_X9_term_23_s2 : ∀ (w : Mem) (v1 : Int32) (v2 : Int32) (s0 : Int32), f_X9_term_23_s2 N w  v1 v2 s0 = some (w', r) → WP p l e (rmk 2) s m [.ref (ad 9 0), .int x1, .int x2].toArray below meth c D ca ad PL A (MQ below (qcR D ca ad PL Z A w' (some (.int r))) [.ref (ad 9 0), .int x1, .int x2].toArray s 0 0 A) 3 23 [.int s0, .ref (ad 9 0)] [(0, .ref (ad 9 0)), (1, .int v1), (2, .int v2)] w := by
    intro w v1 v2 s0 hf _ _ ls hP hS hl
    unfold f_X9_term_23_s2 at hf
    obtain ⟨z3, q4, hf⟩ := bsp hf
    refine kc_S (As := [.int s0]) (rest := [.ref (ad 9 0)]) hok.2.2 C hP hS hl.1 cw_X9_unless ml_X9_306 (c_X9_unless l D ca ad PL Z A hok N w s0 z3 q4) rfl ⟨rfl, rfl⟩ ⟨Nat.le_of_ble_eq_true rfl, Nat.le_of_ble_eq_true rfl⟩ ⟨Nat.zero_le _, Nat.zero_le _⟩ (Nat.le_of_ble_eq_true rfl) rfl dX9_term_23 (fun H locs hP hS => ?_)
    obtain ⟨z5, q6, hf⟩ := bsp hf
    refine kc_V (ci := 9) (i := 0) (As := [.int z3]) (rest := []) hok.2.2 C hP hS hl.1 (hok.2.1 9 0 (Nat.le_of_ble_eq_true rfl)) rfl rfl cw_X9_isRefused ml_X9_223 (c_X9_isRefused l D ca ad PL Z A hok N w z3 z5.1 z5.2 q6) rfl ⟨rfl, rfl⟩ ⟨Nat.le_of_ble_eq_true rfl, Nat.le_of_ble_eq_true rfl⟩ ⟨Nat.zero_le _, Nat.zero_le _⟩ (Nat.le_of_ble_eq_true rfl) rfl dX9_term_26 (fun H locs hP hS => ?_)
    refine lv_if_eq (tgt := 34) hx hb dX9_term_29 (by decide) (fun c21 => ?_) (fun c21 => ?_)
    · have hf := ifp hf c21
      refine lv_iload_n hx hb dX9_term_34 rfl (lv_at hl 2 rfl) ?_
      by_cases c8 : v2 = (0 : Int32)
      · refine lv_tableIn (tgt := 68) hx hb dX9_term_35 (by rw [c8]; decide) (by rw [c8]; decide) (by rw [c8] <;> rfl) (by decide) ?_
        have hf := ifp hf c8
        refine lv_aload_n hx hb dX9_term_68 rfl (lv_at hl 0 rfl) ?_
        refine gt_9_28 (i := 0) C hP (hok.2.1 9 0 (Nat.le_of_ble_eq_true rfl)) lk_X9_32 dX9_term_69 ?_
        refine lv_iload_n hx hb dX9_term_72 rfl (lv_at hl 1 rfl) ?_
        obtain ⟨b7, hf⟩ := gsp hf
        refine ra_ild (k := 46) (i := 0) (n := 24) (f := (gA z5.1 46 0)) C hP (hok.2.1 46 0 (Nat.le_of_ble_eq_true rfl)) rfl b7 dX9_term_73 ?_
        exact kr_i hok.2.2 C hlocks hr rfl hP hS (congrArg Prod.fst (Option.some.inj hf)) (congrArg Prod.snd (Option.some.inj hf)) dX9_term_74
      have hf := ifn hf c8
      by_cases c10 : v2 = (1 : Int32)
      · refine lv_tableIn (tgt := 75) hx hb dX9_term_35 (by rw [c10]; decide) (by rw [c10]; decide) (by rw [c10] <;> rfl) (by decide) ?_
        have hf := ifp hf c10
        refine lv_aload_n hx hb dX9_term_75 rfl (lv_at hl 0 rfl) ?_
        refine gt_9_36 (i := 0) C hP (hok.2.1 9 0 (Nat.le_of_ble_eq_true rfl)) lk_X9_50 dX9_term_76 ?_
        refine lv_iload_n hx hb dX9_term_79 rfl (lv_at hl 1 rfl) ?_
        obtain ⟨b9, hf⟩ := gsp hf
        refine ra_ild (k := 52) (i := 0) (n := 24) (f := (gA z5.1 52 0)) C hP (hok.2.1 52 0 (Nat.le_of_ble_eq_true rfl)) rfl b9 dX9_term_80 ?_
        exact kr_i hok.2.2 C hlocks hr rfl hP hS (congrArg Prod.fst (Option.some.inj hf)) (congrArg Prod.snd (Option.some.inj hf)) dX9_term_81
      have hf := ifn hf c10
      by_cases c13 : v2 = (2 : Int32)
      · refine lv_tableIn (tgt := 82) hx hb dX9_term_35 (by rw [c13]; decide) (by rw [c13]; decide) (by rw [c13] <;> rfl) (by decide) ?_
        have hf := ifp hf c13
        refine lv_aload_n hx hb dX9_term_82 rfl (lv_at hl 0 rfl) ?_
        refine lv_iload_n hx hb dX9_term_83 rfl (lv_at hl 1 rfl) ?_
        obtain ⟨z11, q12, hf⟩ := bsp hf
        refine kc_V (ci := 9) (i := 0) (As := [.int v1]) (rest := []) hok.2.2 C hP hS hl.1 (hok.2.1 9 0 (Nat.le_of_ble_eq_true rfl)) rfl rfl cw_X9_groupMany ml_X9_320 (c_X9_groupMany l D ca ad PL Z A hok N z5.1 v1 z11 q12) rfl ⟨rfl, rfl⟩ ⟨Nat.le_of_ble_eq_true rfl, Nat.le_of_ble_eq_true rfl⟩ ⟨Nat.zero_le _, Nat.zero_le _⟩ (Nat.le_of_ble_eq_true rfl) rfl dX9_term_84 (fun H locs hP hS => ?_)
        exact kr_i hok.2.2 C hlocks hr rfl hP hS (congrArg Prod.fst (Option.some.inj hf)) (congrArg Prod.snd (Option.some.inj hf)) dX9_term_87
      have hf := ifn hf c13
      by_cases c16 : v2 = (3 : Int32)
      · refine lv_tableIn (tgt := 88) hx hb dX9_term_35 (by rw [c16]; decide) (by rw [c16]; decide) (by rw [c16] <;> rfl) (by decide) ?_
        have hf := ifp hf c16
        refine lv_aload_n hx hb dX9_term_88 rfl (lv_at hl 0 rfl) ?_
        refine lv_iload_n hx hb dX9_term_89 rfl (lv_at hl 1 rfl) ?_
        obtain ⟨z14, q15, hf⟩ := bsp hf
        refine kc_V (ci := 9) (i := 0) (As := [.int v1]) (rest := []) hok.2.2 C hP hS hl.1 (hok.2.1 9 0 (Nat.le_of_ble_eq_true rfl)) rfl rfl cw_X9_usersOf ml_X9_323 (c_X9_usersOf l D ca ad PL Z A hok N z5.1 v1 z14 q15) rfl ⟨rfl, rfl⟩ ⟨Nat.le_of_ble_eq_true rfl, Nat.le_of_ble_eq_true rfl⟩ ⟨Nat.zero_le _, Nat.zero_le _⟩ (Nat.le_of_ble_eq_true rfl) rfl dX9_term_90 (fun H locs hP hS => ?_)
        exact kr_i hok.2.2 C hlocks hr rfl hP hS (congrArg Prod.fst (Option.some.inj hf)) (congrArg Prod.snd (Option.some.inj hf)) dX9_term_93
      have hf := ifn hf c16
      by_cases c19 : v2 = (4 : Int32)
      · refine lv_tableIn (tgt := 94) hx hb dX9_term_35 (by rw [c19]; decide) (by rw [c19]; decide) (by rw [c19] <;> rfl) (by decide) ?_
        have hf := ifp hf c19
        refine lv_aload_n hx hb dX9_term_94 rfl (lv_at hl 0 rfl) ?_
        refine lv_iload_n hx hb dX9_term_95 rfl (lv_at hl 1 rfl) ?_
        obtain ⟨z17, q18, hf⟩ := bsp hf
        refine kc_V (ci := 9) (i := 0) (As := [.int v1]) (rest := []) hok.2.2 C hP hS hl.1 (hok.2.1 9 0 (Nat.le_of_ble_eq_true rfl)) rfl rfl cw_X9_deepOf ml_X9_326 (c_X9_deepOf l D ca ad PL Z A hok N z5.1 v1 z17.1 z17.2 q18) rfl ⟨rfl, rfl⟩ ⟨Nat.le_of_ble_eq_true rfl, Nat.le_of_ble_eq_true rfl⟩ ⟨Nat.zero_le _, Nat.zero_le _⟩ (Nat.le_of_ble_eq_true rfl) rfl dX9_term_96 (fun H locs hP hS => ?_)
        exact kr_i hok.2.2 C hlocks hr rfl hP hS (congrArg Prod.fst (Option.some.inj hf)) (congrArg Prod.snd (Option.some.inj hf)) dX9_term_99
      have hf := ifn hf c19
      have t_c8 : ¬ (v2).toInt = 0 := fun h => c8 (Int32.toInt_inj.mp (h.trans (by decide)))
      have t_c10 : ¬ (v2).toInt = 1 := fun h => c10 (Int32.toInt_inj.mp (h.trans (by decide)))
      have t_c13 : ¬ (v2).toInt = 2 := fun h => c13 (Int32.toInt_inj.mp (h.trans (by decide)))
      have t_c16 : ¬ (v2).toInt = 3 := fun h => c16 (Int32.toInt_inj.mp (h.trans (by decide)))
      have t_c19 : ¬ (v2).toInt = 4 := fun h => c19 (Int32.toInt_inj.mp (h.trans (by decide)))
      refine lv_tableOut (tgt := 100) hx hb dX9_term_35 (by omega) (by decide) ?_
      refine lv_aload_n hx hb dX9_term_100 rfl (lv_at hl 0 rfl) ?_
      refine gt_9_37 (i := 0) C hP (hok.2.1 9 0 (Nat.le_of_ble_eq_true rfl)) lk_X9_53 dX9_term_101 ?_
      refine lv_iload_n hx hb dX9_term_104 rfl (lv_at hl 1 rfl) ?_
      obtain ⟨b20, hf⟩ := gsp hf
      refine ra_ild (k := 53) (i := 0) (n := 24) (f := (gA z5.1 53 0)) C hP (hok.2.1 53 0 (Nat.le_of_ble_eq_true rfl)) rfl b20 dX9_term_105 ?_
      exact kr_i hok.2.2 C hlocks hr rfl hP hS (congrArg Prod.fst (Option.some.inj hf)) (congrArg Prod.snd (Option.some.inj hf)) dX9_term_106
    · have hf := ifn hf c21
      refine lv_iconst (v := (-1 : Int32)) hx hb dX9_term_32 (by decide) ?_
      exact kr_i hok.2.2 C hlocks hr rfl hP hS (congrArg Prod.fst (Option.some.inj hf)) (congrArg Prod.snd (Option.some.inj hf)) dX9_term_33
  unfold f_X9_term at hf
  -- walk
  refine lv_aload_n hx hb dX9_term_0 rfl (lv_at hl 0 rfl) ?_
  refine lv_aload_n hx hb dX9_term_1 rfl (lv_at hl 0 rfl) ?_
  refine lv_iload_n hx hb dX9_term_2 rfl (lv_at hl 1 rfl) ?_
  obtain ⟨z1, q2, hf⟩ := bsp hf
  refine kc_V (ci := 9) (i := 0) (As := [.int x1]) (rest := [.ref (ad 9 0)]) hok.2.2 C hP hS hl.1 (hok.2.1 9 0 (Nat.le_of_ble_eq_true rfl)) rfl rfl cw_X9_isTerm ml_X9_317 (c_X9_isTerm l D ca ad PL Z A hok N w x1 z1 q2) rfl ⟨rfl, rfl⟩ ⟨Nat.le_of_ble_eq_true rfl, Nat.le_of_ble_eq_true rfl⟩ ⟨Nat.zero_le _, Nat.zero_le _⟩ (Nat.le_of_ble_eq_true rfl) rfl dX9_term_3 (fun H locs hP hS => ?_)
  refine lv_if_eq (tgt := 22) hx hb dX9_term_6 (by decide) (fun c25 => ?_) (fun c25 => ?_)
  · have hf := ifp hf c25
    refine lv_iconst (v := (0 : Int32)) hx hb dX9_term_22 (by decide) ?_
    exact P_f_X9_term_23_s2 w x1 x2 (0 : Int32) hf _ _ ls hP hS (lv_sub hl [0, 1, 2] rfl)
  · have hf := ifn hf c25
    refine lv_iload_n hx hb dX9_term_9 rfl (lv_at hl 2 rfl) ?_
    refine lv_iconst (v := (0 : Int32)) hx hb dX9_term_10 (by decide) ?_
    refine lv_iconst (v := (5 : Int32)) hx hb dX9_term_11 (by decide) ?_
    obtain ⟨z22, q23, hf⟩ := bsp hf
    refine kc_S (As := [.int x2, .int (0 : Int32), .int (5 : Int32)]) (rest := [.ref (ad 9 0)]) hok.2.2 C hP hS hl.1 cw_X9_in ml_X9_132 (c_X9_in l D ca ad PL Z A hok N w x2 (0 : Int32) (5 : Int32) z22 q23) rfl ⟨rfl, rfl⟩ ⟨Nat.le_of_ble_eq_true rfl, Nat.le_of_ble_eq_true rfl⟩ ⟨Nat.zero_le _, Nat.zero_le _⟩ (Nat.le_of_ble_eq_true rfl) rfl dX9_term_12 (fun H locs hP hS => ?_)
    refine lv_if_eq (tgt := 22) hx hb dX9_term_15 (by decide) (fun c24 => ?_) (fun c24 => ?_)
    · have hf := ifp hf c24
      refine lv_iconst (v := (0 : Int32)) hx hb dX9_term_22 (by decide) ?_
      exact P_f_X9_term_23_s2 w x1 x2 (0 : Int32) hf _ _ ls hP hS (lv_sub hl [0, 1, 2] rfl)
    · have hf := ifn hf c24
      refine lv_iconst (v := (1 : Int32)) hx hb dX9_term_18 (by decide) ?_
      refine lv_goto (tgt := 23) hx hb dX9_term_19 (by decide) ?_
      exact P_f_X9_term_23_s2 w x1 x2 (1 : Int32) hf _ _ ls hP hS (lv_sub hl [0, 1, 2] rfl)
def f_X9_height (N : Nat) (w : Mem) (x1 : Int32) : Option (Mem × Int32) :=
  (Option.bind (f_X9_isTerm N w x1) (fun z1 => (Option.bind (f_X9_unless N w z1) (fun z3 => (Option.bind (f_X9_isRefused N w z3) (fun z5 => (if z5.2 = (0 : Int32) then
(Option.bind (f_X9_depthOf N z5.1 x1) (fun z7 => some (z5.1, z7)))
else
some (z5.1, (-1 : Int32)))))))))
set_option maxRecDepth 100000 in
set_option maxHeartbeats 4000000 in
theorem c_X9_height (l : Launch) (D : va_G) (ca : Nat → ClassId) (ad : Nat → Nat → Nat) (PL : List (Nat × Nat)) (Z : State → Prop) (A : Nat → Prop) (hok : okc bM Z A ad PL) (N : Nat) (w : Mem) (x1 : Int32) (w' : Mem) (r : Int32) (hf : f_X9_height N w x1 = some (w', r)) : CT l yX9_height (wsy yX9_height cX9_height 2 (some .int)) (rmk 2) D ca ad PL Z A [.ref (ad 9 0), .int x1] w w' (some (.int r)) := by
  refine Met.ofW (cc := cX9_height) (maxL := 2) (ret := (some .int)) (by decide +kernel) rfl ?_
  intro p e s m args below meth c s₁ B hml hv
  obtain ⟨rfl, hP, hK, hZ⟩ := hv
  have hx := B.exec
  have hb := B.bytes
  have hr := B.returns
  have hlocks := B.notSynchronized
  have hts : ∀ w ∈ ALL, w.before _ s = true := fun w hw => atoms_spec (ws := wsy yX9_height cX9_height 2 (some .int)) B.pre w (List.mem_cons_of_mem _ hw)
  have hown : s.vm.findClass RX9 = some m.cls := findClass_of_methodNamed B.named
  have C : CX p s m _ c cX9_height RX9 2 D ca Z := ⟨hx, hb, hml, hown, hts, hK, hZ⟩
  have hS : va_S A s.heap s.heap [] := va_S.rf
  have hl := lv_entry ([.ref (ad 9 0), .int x1]) (n := 2) (Nat.le_of_ble_eq_true rfl)
  rw [lg_entry_eq]
  generalize (lg_sl ([.ref (ad 9 0), .int x1]) ++ List.replicate (2 - (lg_sl ([.ref (ad 9 0), .int x1])).length) Slot.unset).toArray = ls at hl ⊢
  have hl : lv_has ls 2 [(0, .ref (ad 9 0)), (1, .int x1)] := hl
  show W p l e (rmk 2) s m _ below meth c s.heap [] 0 0 _ _
  unfold f_X9_height at hf
  -- walk
  refine lv_aload_n hx hb dX9_height_0 rfl (lv_at hl 0 rfl) ?_
  refine lv_aload_n hx hb dX9_height_1 rfl (lv_at hl 0 rfl) ?_
  refine lv_iload_n hx hb dX9_height_2 rfl (lv_at hl 1 rfl) ?_
  obtain ⟨z1, q2, hf⟩ := bsp hf
  refine kc_V (ci := 9) (i := 0) (As := [.int x1]) (rest := [.ref (ad 9 0)]) hok.2.2 C hP hS hl.1 (hok.2.1 9 0 (Nat.le_of_ble_eq_true rfl)) rfl rfl cw_X9_isTerm ml_X9_317 (c_X9_isTerm l D ca ad PL Z A hok N w x1 z1 q2) rfl ⟨rfl, rfl⟩ ⟨Nat.le_of_ble_eq_true rfl, Nat.le_of_ble_eq_true rfl⟩ ⟨Nat.zero_le _, Nat.zero_le _⟩ (Nat.le_of_ble_eq_true rfl) rfl dX9_height_3 (fun H locs hP hS => ?_)
  obtain ⟨z3, q4, hf⟩ := bsp hf
  refine kc_S (As := [.int z1]) (rest := [.ref (ad 9 0)]) hok.2.2 C hP hS hl.1 cw_X9_unless ml_X9_306 (c_X9_unless l D ca ad PL Z A hok N w z1 z3 q4) rfl ⟨rfl, rfl⟩ ⟨Nat.le_of_ble_eq_true rfl, Nat.le_of_ble_eq_true rfl⟩ ⟨Nat.zero_le _, Nat.zero_le _⟩ (Nat.le_of_ble_eq_true rfl) rfl dX9_height_6 (fun H locs hP hS => ?_)
  obtain ⟨z5, q6, hf⟩ := bsp hf
  refine kc_V (ci := 9) (i := 0) (As := [.int z3]) (rest := []) hok.2.2 C hP hS hl.1 (hok.2.1 9 0 (Nat.le_of_ble_eq_true rfl)) rfl rfl cw_X9_isRefused ml_X9_223 (c_X9_isRefused l D ca ad PL Z A hok N w z3 z5.1 z5.2 q6) rfl ⟨rfl, rfl⟩ ⟨Nat.le_of_ble_eq_true rfl, Nat.le_of_ble_eq_true rfl⟩ ⟨Nat.zero_le _, Nat.zero_le _⟩ (Nat.le_of_ble_eq_true rfl) rfl dX9_height_9 (fun H locs hP hS => ?_)
  refine lv_if_eq (tgt := 19) hx hb dX9_height_12 (by decide) (fun c9 => ?_) (fun c9 => ?_)
  · have hf := ifp hf c9
    refine lv_aload_n hx hb dX9_height_19 rfl (lv_at hl 0 rfl) ?_
    refine lv_iload_n hx hb dX9_height_20 rfl (lv_at hl 1 rfl) ?_
    obtain ⟨z7, q8, hf⟩ := bsp hf
    refine kc_V (ci := 9) (i := 0) (As := [.int x1]) (rest := []) hok.2.2 C hP hS hl.1 (hok.2.1 9 0 (Nat.le_of_ble_eq_true rfl)) rfl rfl cw_X9_depthOf ml_X9_256 (c_X9_depthOf l D ca ad PL Z A hok N z5.1 x1 z7 q8) rfl ⟨rfl, rfl⟩ ⟨Nat.le_of_ble_eq_true rfl, Nat.le_of_ble_eq_true rfl⟩ ⟨Nat.zero_le _, Nat.zero_le _⟩ (Nat.le_of_ble_eq_true rfl) rfl dX9_height_21 (fun H locs hP hS => ?_)
    exact kr_i hok.2.2 C hlocks hr rfl hP hS (congrArg Prod.fst (Option.some.inj hf)) (congrArg Prod.snd (Option.some.inj hf)) dX9_height_24
  · have hf := ifn hf c9
    refine lv_iconst (v := (-1 : Int32)) hx hb dX9_height_15 (by decide) ?_
    refine lv_goto (tgt := 24) hx hb dX9_height_16 (by decide) ?_
    exact kr_i hok.2.2 C hlocks hr rfl hP hS (congrArg Prod.fst (Option.some.inj hf)) (congrArg Prod.snd (Option.some.inj hf)) dX9_height_24
def f_X9_hung_70 (N : Nat) (w : Mem)  : Option (Mem × Int32) :=
  some (w, (-2 : Int32))
def lp_X9_hung_34 (k : Option (Mem × Int32)) (N : Nat) (w : Mem)  (v1 : Int32) : Nat → Int32 → Int32 → Option (Mem × Int32)
  | 0, _, _ => none
  | n + 1, v3, v4 => (if (gF w 9 27 0) ≤ v4 then
(k )
else
(if inb v4 24 = true then (if (gA w 53 0 v4.toNatClampNeg) = v1 then
(if v3 = (0 : Int32) then
some (w, v4)
else
(lp_X9_hung_34 k N w  v1 n (v3 + (-1 : Int32)) (v4 + (1 : Int32))))
else
(lp_X9_hung_34 k N w  v1 n v3 (v4 + (1 : Int32)))) else none))
def f_X9_hung (N : Nat) (w : Mem) (x1 : Int32) (x2 : Int32) : Option (Mem × Int32) :=
  (Option.bind (f_X9_isTerm N w x1) (fun z1 => (if z1 = (0 : Int32) then
(Option.bind (f_X9_unless N w (0 : Int32)) (fun z3 => (Option.bind (f_X9_isRefused N w z3) (fun z5 => (if z5.2 = (0 : Int32) then
(lp_X9_hung_34 (f_X9_hung_70 N z5.1   ) N z5.1  x1 N x2 (0 : Int32))
else
some (z5.1, (-1 : Int32)))))))
else
(if x2 < (0 : Int32) then
(Option.bind (f_X9_unless N w (0 : Int32)) (fun z13 => (Option.bind (f_X9_isRefused N w z13) (fun z15 => (if z15.2 = (0 : Int32) then
(lp_X9_hung_34 (f_X9_hung_70 N z15.1   ) N z15.1  x1 N x2 (0 : Int32))
else
some (z15.1, (-1 : Int32)))))))
else
(Option.bind (f_X9_unless N w (1 : Int32)) (fun z19 => (Option.bind (f_X9_isRefused N w z19) (fun z21 => (if z21.2 = (0 : Int32) then
(lp_X9_hung_34 (f_X9_hung_70 N z21.1   ) N z21.1  x1 N x2 (0 : Int32))
else
some (z21.1, (-1 : Int32)))))))))))
set_option maxRecDepth 100000 in
set_option maxHeartbeats 4000000 in
theorem c_X9_hung (l : Launch) (D : va_G) (ca : Nat → ClassId) (ad : Nat → Nat → Nat) (PL : List (Nat × Nat)) (Z : State → Prop) (A : Nat → Prop) (hok : okc bM Z A ad PL) (N : Nat) (w : Mem) (x1 : Int32) (x2 : Int32) (w' : Mem) (r : Int32) (hf : f_X9_hung N w x1 x2 = some (w', r)) : CT l yX9_hung (wsy yX9_hung cX9_hung 5 (some .int)) (rmk 2) D ca ad PL Z A [.ref (ad 9 0), .int x1, .int x2] w w' (some (.int r)) := by
  refine Met.ofW (cc := cX9_hung) (maxL := 5) (ret := (some .int)) (by decide +kernel) rfl ?_
  intro p e s m args below meth c s₁ B hml hv
  obtain ⟨rfl, hP, hK, hZ⟩ := hv
  have hx := B.exec
  have hb := B.bytes
  have hr := B.returns
  have hlocks := B.notSynchronized
  have hts : ∀ w ∈ ALL, w.before _ s = true := fun w hw => atoms_spec (ws := wsy yX9_hung cX9_hung 5 (some .int)) B.pre w (List.mem_cons_of_mem _ hw)
  have hown : s.vm.findClass RX9 = some m.cls := findClass_of_methodNamed B.named
  have C : CX p s m _ c cX9_hung RX9 5 D ca Z := ⟨hx, hb, hml, hown, hts, hK, hZ⟩
  have hS : va_S A s.heap s.heap [] := va_S.rf
  have hl := lv_entry ([.ref (ad 9 0), .int x1, .int x2]) (n := 5) (Nat.le_of_ble_eq_true rfl)
  rw [lg_entry_eq]
  generalize (lg_sl ([.ref (ad 9 0), .int x1, .int x2]) ++ List.replicate (5 - (lg_sl ([.ref (ad 9 0), .int x1, .int x2])).length) Slot.unset).toArray = ls at hl ⊢
  have hl : lv_has ls 5 [(0, .ref (ad 9 0)), (1, .int x1), (2, .int x2)] := hl
  show W p l e (rmk 2) s m _ below meth c s.heap [] 0 0 _ _
  have P_f_X9_hung_70 : ∀ (w : Mem), f_X9_hung_70 N w    = some (w', r) → WP p l e (rmk 2) s m [.ref (ad 9 0), .int x1, .int x2].toArray below meth c D ca ad PL A (MQ below (qcR D ca ad PL Z A w' (some (.int r))) [.ref (ad 9 0), .int x1, .int x2].toArray s 0 0 A) 5 70 [] [] w := by
    intro w hf _ _ ls hP hS hl
    unfold f_X9_hung_70 at hf
    refine lv_bipush (v := (-2 : Int32)) hx hb dX9_hung_70 (by decide) ?_
    exact kr_i hok.2.2 C hlocks hr rfl hP hS (congrArg Prod.fst (Option.some.inj hf)) (congrArg Prod.snd (Option.some.inj hf)) dX9_hung_72
  have L_lp_X9_hung_34 : ∀ (w : Mem) (v1 : Int32) (k : Option (Mem × Int32)) (hk : k = some (w', r) → WP p l e (rmk 2) s m [.ref (ad 9 0), .int x1, .int x2].toArray below meth c D ca ad PL A (MQ below (qcR D ca ad PL Z A w' (some (.int r))) [.ref (ad 9 0), .int x1, .int x2].toArray s 0 0 A) 5 70 [] [] w) (n : Nat) (v3 : Int32) (v4 : Int32), lp_X9_hung_34 k N w  v1 n v3 v4 = some (w', r) → WP p l e (rmk 2) s m [.ref (ad 9 0), .int x1, .int x2].toArray below meth c D ca ad PL A (MQ below (qcR D ca ad PL Z A w' (some (.int r))) [.ref (ad 9 0), .int x1, .int x2].toArray s 0 0 A) 5 34 [] [(0, .ref (ad 9 0)), (1, .int v1), (3, .int v3), (4, .int v4)] w := by
    intro w v1 k hk n
    induction n with
    | zero => intro v3 v4 hf; rw [lp_X9_hung_34] at hf; cases hf
    | succ n ih =>
      intro v3 v4 hf _ _ ls hP hS hl
      rw [lp_X9_hung_34] at hf
      refine lv_iload hx hb dX9_hung_34 (lv_at hl 3 rfl) ?_
      refine lv_aload_n hx hb dX9_hung_36 rfl (lv_at hl 0 rfl) ?_
      refine gt_9_27 (i := 0) C hP (hok.2.1 9 0 (Nat.le_of_ble_eq_true rfl)) lk_X9_250 dX9_hung_37 ?_
      refine lv_icmp_ge (tgt := 70) hx hb dX9_hung_40 (by decide) (fun c11 => ?_) (fun c11 => ?_)
      · have hf := ifp hf c11
        exact hk  hf _ _ ls hP hS (lv_sub hl [] rfl)
      · have hf := ifn hf c11
        refine lv_aload_n hx hb dX9_hung_43 rfl (lv_at hl 0 rfl) ?_
        refine gt_9_37 (i := 0) C hP (hok.2.1 9 0 (Nat.le_of_ble_eq_true rfl)) lk_X9_53 dX9_hung_44 ?_
        refine lv_iload hx hb dX9_hung_47 (lv_at hl 3 rfl) ?_
        obtain ⟨b8, hf⟩ := gsp hf
        refine ra_ild (k := 53) (i := 0) (n := 24) (f := (gA w 53 0)) C hP (hok.2.1 53 0 (Nat.le_of_ble_eq_true rfl)) rfl b8 dX9_hung_49 ?_
        refine lv_iload_n hx hb dX9_hung_50 rfl (lv_at hl 1 rfl) ?_
        refine lv_icmp_ne (tgt := 64) hx hb dX9_hung_51 (by decide) (fun c10 => ?_) (fun c10 => ?_)
        · have hf := ifn hf c10
          refine lv_iinc (v := (v4 + (1 : Int32))) (lv' := [(4, .int (v4 + (1 : Int32))), (0, .ref (ad 9 0)), (1, .int v1), (3, .int v3)]) hx hb dX9_hung_64 hl (k := 3) rfl rfl (by decide) rfl (fun ls hl => ?_)
          refine lv_goto (tgt := 34) hx hb dX9_hung_67 (by decide) ?_
          exact ih v3 (v4 + (1 : Int32)) hf _ _ ls hP hS (lv_sub hl [1, 2, 3, 0] rfl)
        · have hf := ifp hf c10
          refine lv_iload_n hx hb dX9_hung_54 rfl (lv_at hl 2 rfl) ?_
          refine lv_if_ne (tgt := 61) hx hb dX9_hung_55 (by decide) (fun c9 => ?_) (fun c9 => ?_)
          · have hf := ifn hf c9
            refine lv_iinc (v := (v3 + (-1 : Int32))) (lv' := [(3, .int (v3 + (-1 : Int32))), (0, .ref (ad 9 0)), (1, .int v1), (4, .int v4)]) hx hb dX9_hung_61 hl (k := 2) rfl rfl (by decide) rfl (fun ls hl => ?_)
            refine lv_iinc (v := (v4 + (1 : Int32))) (lv' := [(4, .int (v4 + (1 : Int32))), (3, .int (v3 + (-1 : Int32))), (0, .ref (ad 9 0)), (1, .int v1)]) hx hb dX9_hung_64 hl (k := 3) rfl rfl (by decide) rfl (fun ls hl => ?_)
            refine lv_goto (tgt := 34) hx hb dX9_hung_67 (by decide) ?_
            exact ih (v3 + (-1 : Int32)) (v4 + (1 : Int32)) hf _ _ ls hP hS (lv_sub hl [2, 3, 1, 0] rfl)
          · have hf := ifp hf c9
            refine lv_iload hx hb dX9_hung_58 (lv_at hl 3 rfl) ?_
            exact kr_i hok.2.2 C hlocks hr rfl hP hS (congrArg Prod.fst (Option.some.inj hf)) (congrArg Prod.snd (Option.some.inj hf)) dX9_hung_60
  unfold f_X9_hung at hf
  -- walk
  refine lv_aload_n hx hb dX9_hung_0 rfl (lv_at hl 0 rfl) ?_
  refine lv_aload_n hx hb dX9_hung_1 rfl (lv_at hl 0 rfl) ?_
  refine lv_iload_n hx hb dX9_hung_2 rfl (lv_at hl 1 rfl) ?_
  obtain ⟨z1, q2, hf⟩ := bsp hf
  refine kc_V (ci := 9) (i := 0) (As := [.int x1]) (rest := [.ref (ad 9 0)]) hok.2.2 C hP hS hl.1 (hok.2.1 9 0 (Nat.le_of_ble_eq_true rfl)) rfl rfl cw_X9_isTerm ml_X9_317 (c_X9_isTerm l D ca ad PL Z A hok N w x1 z1 q2) rfl ⟨rfl, rfl⟩ ⟨Nat.le_of_ble_eq_true rfl, Nat.le_of_ble_eq_true rfl⟩ ⟨Nat.zero_le _, Nat.zero_le _⟩ (Nat.le_of_ble_eq_true rfl) rfl dX9_hung_3 (fun H locs hP hS => ?_)
  refine lv_if_eq (tgt := 17) hx hb dX9_hung_6 (by decide) (fun c26 => ?_) (fun c26 => ?_)
  · have hf := ifp hf c26
    refine lv_iconst (v := (0 : Int32)) hx hb dX9_hung_17 (by decide) ?_
    obtain ⟨z3, q4, hf⟩ := bsp hf
    refine kc_S (As := [.int (0 : Int32)]) (rest := [.ref (ad 9 0)]) hok.2.2 C hP hS hl.1 cw_X9_unless ml_X9_306 (c_X9_unless l D ca ad PL Z A hok N w (0 : Int32) z3 q4) rfl ⟨rfl, rfl⟩ ⟨Nat.le_of_ble_eq_true rfl, Nat.le_of_ble_eq_true rfl⟩ ⟨Nat.zero_le _, Nat.zero_le _⟩ (Nat.le_of_ble_eq_true rfl) rfl dX9_hung_18 (fun H locs hP hS => ?_)
    obtain ⟨z5, q6, hf⟩ := bsp hf
    refine kc_V (ci := 9) (i := 0) (As := [.int z3]) (rest := []) hok.2.2 C hP hS hl.1 (hok.2.1 9 0 (Nat.le_of_ble_eq_true rfl)) rfl rfl cw_X9_isRefused ml_X9_223 (c_X9_isRefused l D ca ad PL Z A hok N w z3 z5.1 z5.2 q6) rfl ⟨rfl, rfl⟩ ⟨Nat.le_of_ble_eq_true rfl, Nat.le_of_ble_eq_true rfl⟩ ⟨Nat.zero_le _, Nat.zero_le _⟩ (Nat.le_of_ble_eq_true rfl) rfl dX9_hung_21 (fun H locs hP hS => ?_)
    refine lv_if_eq (tgt := 29) hx hb dX9_hung_24 (by decide) (fun c12 => ?_) (fun c12 => ?_)
    · have hf := ifp hf c12
      refine lv_iload_n hx hb dX9_hung_29 rfl (lv_at hl 2 rfl) ?_
      refine lv_istore_n (lv' := [(3, .int x2), (0, .ref (ad 9 0)), (1, .int x1), (2, .int x2)]) hx hb dX9_hung_30 rfl hl (by decide) rfl (fun ls hl => ?_)
      refine lv_iconst (v := (0 : Int32)) hx hb dX9_hung_31 (by decide) ?_
      refine lv_istore (lv' := [(4, .int (0 : Int32)), (3, .int x2), (0, .ref (ad 9 0)), (1, .int x1), (2, .int x2)]) hx hb dX9_hung_32 hl (by decide) rfl (fun ls hl => ?_)
      exact L_lp_X9_hung_34 z5.1 x1 _ (fun hf H locs ls hP hS hl => P_f_X9_hung_70 z5.1 hf _ _ ls hP hS (lv_sub hl [] rfl)) N x2 (0 : Int32) hf _ _ ls hP hS (lv_sub hl [2, 3, 1, 0] rfl)
    · have hf := ifn hf c12
      refine lv_iconst (v := (-1 : Int32)) hx hb dX9_hung_27 (by decide) ?_
      exact kr_i hok.2.2 C hlocks hr rfl hP hS (congrArg Prod.fst (Option.some.inj hf)) (congrArg Prod.snd (Option.some.inj hf)) dX9_hung_28
  · have hf := ifn hf c26
    refine lv_iload_n hx hb dX9_hung_9 rfl (lv_at hl 2 rfl) ?_
    refine lv_if_lt (tgt := 17) hx hb dX9_hung_10 (by decide) (fun c25 => ?_) (fun c25 => ?_)
    · have hf := ifp hf c25
      refine lv_iconst (v := (0 : Int32)) hx hb dX9_hung_17 (by decide) ?_
      obtain ⟨z13, q14, hf⟩ := bsp hf
      refine kc_S (As := [.int (0 : Int32)]) (rest := [.ref (ad 9 0)]) hok.2.2 C hP hS hl.1 cw_X9_unless ml_X9_306 (c_X9_unless l D ca ad PL Z A hok N w (0 : Int32) z13 q14) rfl ⟨rfl, rfl⟩ ⟨Nat.le_of_ble_eq_true rfl, Nat.le_of_ble_eq_true rfl⟩ ⟨Nat.zero_le _, Nat.zero_le _⟩ (Nat.le_of_ble_eq_true rfl) rfl dX9_hung_18 (fun H locs hP hS => ?_)
      obtain ⟨z15, q16, hf⟩ := bsp hf
      refine kc_V (ci := 9) (i := 0) (As := [.int z13]) (rest := []) hok.2.2 C hP hS hl.1 (hok.2.1 9 0 (Nat.le_of_ble_eq_true rfl)) rfl rfl cw_X9_isRefused ml_X9_223 (c_X9_isRefused l D ca ad PL Z A hok N w z13 z15.1 z15.2 q16) rfl ⟨rfl, rfl⟩ ⟨Nat.le_of_ble_eq_true rfl, Nat.le_of_ble_eq_true rfl⟩ ⟨Nat.zero_le _, Nat.zero_le _⟩ (Nat.le_of_ble_eq_true rfl) rfl dX9_hung_21 (fun H locs hP hS => ?_)
      refine lv_if_eq (tgt := 29) hx hb dX9_hung_24 (by decide) (fun c18 => ?_) (fun c18 => ?_)
      · have hf := ifp hf c18
        refine lv_iload_n hx hb dX9_hung_29 rfl (lv_at hl 2 rfl) ?_
        refine lv_istore_n (lv' := [(3, .int x2), (0, .ref (ad 9 0)), (1, .int x1), (2, .int x2)]) hx hb dX9_hung_30 rfl hl (by decide) rfl (fun ls hl => ?_)
        refine lv_iconst (v := (0 : Int32)) hx hb dX9_hung_31 (by decide) ?_
        refine lv_istore (lv' := [(4, .int (0 : Int32)), (3, .int x2), (0, .ref (ad 9 0)), (1, .int x1), (2, .int x2)]) hx hb dX9_hung_32 hl (by decide) rfl (fun ls hl => ?_)
        exact L_lp_X9_hung_34 z15.1 x1 _ (fun hf H locs ls hP hS hl => P_f_X9_hung_70 z15.1 hf _ _ ls hP hS (lv_sub hl [] rfl)) N x2 (0 : Int32) hf _ _ ls hP hS (lv_sub hl [2, 3, 1, 0] rfl)
      · have hf := ifn hf c18
        refine lv_iconst (v := (-1 : Int32)) hx hb dX9_hung_27 (by decide) ?_
        exact kr_i hok.2.2 C hlocks hr rfl hP hS (congrArg Prod.fst (Option.some.inj hf)) (congrArg Prod.snd (Option.some.inj hf)) dX9_hung_28
    · have hf := ifn hf c25
      refine lv_iconst (v := (1 : Int32)) hx hb dX9_hung_13 (by decide) ?_
      refine lv_goto (tgt := 18) hx hb dX9_hung_14 (by decide) ?_
      obtain ⟨z19, q20, hf⟩ := bsp hf
      refine kc_S (As := [.int (1 : Int32)]) (rest := [.ref (ad 9 0)]) hok.2.2 C hP hS hl.1 cw_X9_unless ml_X9_306 (c_X9_unless l D ca ad PL Z A hok N w (1 : Int32) z19 q20) rfl ⟨rfl, rfl⟩ ⟨Nat.le_of_ble_eq_true rfl, Nat.le_of_ble_eq_true rfl⟩ ⟨Nat.zero_le _, Nat.zero_le _⟩ (Nat.le_of_ble_eq_true rfl) rfl dX9_hung_18 (fun H locs hP hS => ?_)
      obtain ⟨z21, q22, hf⟩ := bsp hf
      refine kc_V (ci := 9) (i := 0) (As := [.int z19]) (rest := []) hok.2.2 C hP hS hl.1 (hok.2.1 9 0 (Nat.le_of_ble_eq_true rfl)) rfl rfl cw_X9_isRefused ml_X9_223 (c_X9_isRefused l D ca ad PL Z A hok N w z19 z21.1 z21.2 q22) rfl ⟨rfl, rfl⟩ ⟨Nat.le_of_ble_eq_true rfl, Nat.le_of_ble_eq_true rfl⟩ ⟨Nat.zero_le _, Nat.zero_le _⟩ (Nat.le_of_ble_eq_true rfl) rfl dX9_hung_21 (fun H locs hP hS => ?_)
      refine lv_if_eq (tgt := 29) hx hb dX9_hung_24 (by decide) (fun c24 => ?_) (fun c24 => ?_)
      · have hf := ifp hf c24
        refine lv_iload_n hx hb dX9_hung_29 rfl (lv_at hl 2 rfl) ?_
        refine lv_istore_n (lv' := [(3, .int x2), (0, .ref (ad 9 0)), (1, .int x1), (2, .int x2)]) hx hb dX9_hung_30 rfl hl (by decide) rfl (fun ls hl => ?_)
        refine lv_iconst (v := (0 : Int32)) hx hb dX9_hung_31 (by decide) ?_
        refine lv_istore (lv' := [(4, .int (0 : Int32)), (3, .int x2), (0, .ref (ad 9 0)), (1, .int x1), (2, .int x2)]) hx hb dX9_hung_32 hl (by decide) rfl (fun ls hl => ?_)
        exact L_lp_X9_hung_34 z21.1 x1 _ (fun hf H locs ls hP hS hl => P_f_X9_hung_70 z21.1 hf _ _ ls hP hS (lv_sub hl [] rfl)) N x2 (0 : Int32) hf _ _ ls hP hS (lv_sub hl [2, 3, 1, 0] rfl)
      · have hf := ifn hf c24
        refine lv_iconst (v := (-1 : Int32)) hx hb dX9_hung_27 (by decide) ?_
        exact kr_i hok.2.2 C hlocks hr rfl hP hS (congrArg Prod.fst (Option.some.inj hf)) (congrArg Prod.snd (Option.some.inj hf)) dX9_hung_28
def f_X9_partOf_18_s2 (N : Nat) (w : Mem)  (v1 : Int32) (v2 : Int32) (s0 : Int32) : Option (Mem × Int32) :=
  (Option.bind (f_X9_unless N w s0) (fun z3 => (Option.bind (f_X9_isRefused N w z3) (fun z5 => (if z5.2 = (0 : Int32) then
(Option.bind (f_X9_takesOf N z5.1 v1) (fun z7 => (if z7 ≤ v2 then
some (z5.1, (-2 : Int32))
else
(if inb (((3 : Int32) * v1) + v2) 72 = true then some (z5.1, (gA z5.1 47 0 (((3 : Int32) * v1) + v2).toNatClampNeg)) else none))))
else
some (z5.1, (-1 : Int32)))))))
def f_X9_partOf (N : Nat) (w : Mem) (x1 : Int32) (x2 : Int32) : Option (Mem × Int32) :=
  (Option.bind (f_X9_isTerm N w x1) (fun z1 => (if z1 = (0 : Int32) then
(f_X9_partOf_18_s2 N w  x1 x2 (0 : Int32))
else
(if x2 < (0 : Int32) then
(f_X9_partOf_18_s2 N w  x1 x2 (0 : Int32))
else
(f_X9_partOf_18_s2 N w  x1 x2 (1 : Int32))))))
set_option maxRecDepth 100000 in
set_option maxHeartbeats 4000000 in
theorem c_X9_partOf (l : Launch) (D : va_G) (ca : Nat → ClassId) (ad : Nat → Nat → Nat) (PL : List (Nat × Nat)) (Z : State → Prop) (A : Nat → Prop) (hok : okc bM Z A ad PL) (N : Nat) (w : Mem) (x1 : Int32) (x2 : Int32) (w' : Mem) (r : Int32) (hf : f_X9_partOf N w x1 x2 = some (w', r)) : CT l yX9_partOf (wsy yX9_partOf cX9_partOf 3 (some .int)) (rmk 2) D ca ad PL Z A [.ref (ad 9 0), .int x1, .int x2] w w' (some (.int r)) := by
  refine Met.ofW (cc := cX9_partOf) (maxL := 3) (ret := (some .int)) (by decide +kernel) rfl ?_
  intro p e s m args below meth c s₁ B hml hv
  obtain ⟨rfl, hP, hK, hZ⟩ := hv
  have hx := B.exec
  have hb := B.bytes
  have hr := B.returns
  have hlocks := B.notSynchronized
  have hts : ∀ w ∈ ALL, w.before _ s = true := fun w hw => atoms_spec (ws := wsy yX9_partOf cX9_partOf 3 (some .int)) B.pre w (List.mem_cons_of_mem _ hw)
  have hown : s.vm.findClass RX9 = some m.cls := findClass_of_methodNamed B.named
  have C : CX p s m _ c cX9_partOf RX9 3 D ca Z := ⟨hx, hb, hml, hown, hts, hK, hZ⟩
  have hS : va_S A s.heap s.heap [] := va_S.rf
  have hl := lv_entry ([.ref (ad 9 0), .int x1, .int x2]) (n := 3) (Nat.le_of_ble_eq_true rfl)
  rw [lg_entry_eq]
  generalize (lg_sl ([.ref (ad 9 0), .int x1, .int x2]) ++ List.replicate (3 - (lg_sl ([.ref (ad 9 0), .int x1, .int x2])).length) Slot.unset).toArray = ls at hl ⊢
  have hl : lv_has ls 3 [(0, .ref (ad 9 0)), (1, .int x1), (2, .int x2)] := hl
  show W p l e (rmk 2) s m _ below meth c s.heap [] 0 0 _ _
  have P_f_X9_partOf_18_s2 : ∀ (w : Mem) (v1 : Int32) (v2 : Int32) (s0 : Int32), f_X9_partOf_18_s2 N w  v1 v2 s0 = some (w', r) → WP p l e (rmk 2) s m [.ref (ad 9 0), .int x1, .int x2].toArray below meth c D ca ad PL A (MQ below (qcR D ca ad PL Z A w' (some (.int r))) [.ref (ad 9 0), .int x1, .int x2].toArray s 0 0 A) 3 18 [.int s0, .ref (ad 9 0)] [(0, .ref (ad 9 0)), (1, .int v1), (2, .int v2)] w := by
    intro w v1 v2 s0 hf _ _ ls hP hS hl
    unfold f_X9_partOf_18_s2 at hf
    obtain ⟨z3, q4, hf⟩ := bsp hf
    refine kc_S (As := [.int s0]) (rest := [.ref (ad 9 0)]) hok.2.2 C hP hS hl.1 cw_X9_unless ml_X9_306 (c_X9_unless l D ca ad PL Z A hok N w s0 z3 q4) rfl ⟨rfl, rfl⟩ ⟨Nat.le_of_ble_eq_true rfl, Nat.le_of_ble_eq_true rfl⟩ ⟨Nat.zero_le _, Nat.zero_le _⟩ (Nat.le_of_ble_eq_true rfl) rfl dX9_partOf_18 (fun H locs hP hS => ?_)
    obtain ⟨z5, q6, hf⟩ := bsp hf
    refine kc_V (ci := 9) (i := 0) (As := [.int z3]) (rest := []) hok.2.2 C hP hS hl.1 (hok.2.1 9 0 (Nat.le_of_ble_eq_true rfl)) rfl rfl cw_X9_isRefused ml_X9_223 (c_X9_isRefused l D ca ad PL Z A hok N w z3 z5.1 z5.2 q6) rfl ⟨rfl, rfl⟩ ⟨Nat.le_of_ble_eq_true rfl, Nat.le_of_ble_eq_true rfl⟩ ⟨Nat.zero_le _, Nat.zero_le _⟩ (Nat.le_of_ble_eq_true rfl) rfl dX9_partOf_21 (fun H locs hP hS => ?_)
    refine lv_if_eq (tgt := 29) hx hb dX9_partOf_24 (by decide) (fun c11 => ?_) (fun c11 => ?_)
    · have hf := ifp hf c11
      refine lv_iload_n hx hb dX9_partOf_29 rfl (lv_at hl 2 rfl) ?_
      refine lv_aload_n hx hb dX9_partOf_30 rfl (lv_at hl 0 rfl) ?_
      refine lv_iload_n hx hb dX9_partOf_31 rfl (lv_at hl 1 rfl) ?_
      obtain ⟨z7, q8, hf⟩ := bsp hf
      refine kc_V (ci := 9) (i := 0) (As := [.int v1]) (rest := [.int v2]) hok.2.2 C hP hS hl.1 (hok.2.1 9 0 (Nat.le_of_ble_eq_true rfl)) rfl rfl cw_X9_takesOf ml_X9_253 (c_X9_takesOf l D ca ad PL Z A hok N z5.1 v1 z7 q8) rfl ⟨rfl, rfl⟩ ⟨Nat.le_of_ble_eq_true rfl, Nat.le_of_ble_eq_true rfl⟩ ⟨Nat.zero_le _, Nat.zero_le _⟩ (Nat.le_of_ble_eq_true rfl) rfl dX9_partOf_32 (fun H locs hP hS => ?_)
      refine lv_icmp_ge (tgt := 51) hx hb dX9_partOf_35 (by decide) (fun c10 => ?_) (fun c10 => ?_)
      · have hf := ifp hf c10
        refine lv_bipush (v := (-2 : Int32)) hx hb dX9_partOf_51 (by decide) ?_
        exact kr_i hok.2.2 C hlocks hr rfl hP hS (congrArg Prod.fst (Option.some.inj hf)) (congrArg Prod.snd (Option.some.inj hf)) dX9_partOf_53
      · have hf := ifn hf c10
        refine lv_aload_n hx hb dX9_partOf_38 rfl (lv_at hl 0 rfl) ?_
        refine gt_9_29 (i := 0) C hP (hok.2.1 9 0 (Nat.le_of_ble_eq_true rfl)) lk_X9_35 dX9_partOf_39 ?_
        refine lv_iconst (v := (3 : Int32)) hx hb dX9_partOf_42 (by decide) ?_
        refine lv_iload_n hx hb dX9_partOf_43 rfl (lv_at hl 1 rfl) ?_
        refine lv_imul hx hb dX9_partOf_44 ?_
        refine lv_iload_n hx hb dX9_partOf_45 rfl (lv_at hl 2 rfl) ?_
        refine lv_iadd hx hb dX9_partOf_46 ?_
        obtain ⟨b9, hf⟩ := gsp hf
        refine ra_ild (k := 47) (i := 0) (n := 72) (f := (gA z5.1 47 0)) C hP (hok.2.1 47 0 (Nat.le_of_ble_eq_true rfl)) rfl b9 dX9_partOf_47 ?_
        refine lv_goto (tgt := 53) hx hb dX9_partOf_48 (by decide) ?_
        exact kr_i hok.2.2 C hlocks hr rfl hP hS (congrArg Prod.fst (Option.some.inj hf)) (congrArg Prod.snd (Option.some.inj hf)) dX9_partOf_53
    · have hf := ifn hf c11
      refine lv_iconst (v := (-1 : Int32)) hx hb dX9_partOf_27 (by decide) ?_
      exact kr_i hok.2.2 C hlocks hr rfl hP hS (congrArg Prod.fst (Option.some.inj hf)) (congrArg Prod.snd (Option.some.inj hf)) dX9_partOf_28
  unfold f_X9_partOf at hf
  -- walk
  refine lv_aload_n hx hb dX9_partOf_0 rfl (lv_at hl 0 rfl) ?_
  refine lv_aload_n hx hb dX9_partOf_1 rfl (lv_at hl 0 rfl) ?_
  refine lv_iload_n hx hb dX9_partOf_2 rfl (lv_at hl 1 rfl) ?_
  obtain ⟨z1, q2, hf⟩ := bsp hf
  refine kc_V (ci := 9) (i := 0) (As := [.int x1]) (rest := [.ref (ad 9 0)]) hok.2.2 C hP hS hl.1 (hok.2.1 9 0 (Nat.le_of_ble_eq_true rfl)) rfl rfl cw_X9_isTerm ml_X9_317 (c_X9_isTerm l D ca ad PL Z A hok N w x1 z1 q2) rfl ⟨rfl, rfl⟩ ⟨Nat.le_of_ble_eq_true rfl, Nat.le_of_ble_eq_true rfl⟩ ⟨Nat.zero_le _, Nat.zero_le _⟩ (Nat.le_of_ble_eq_true rfl) rfl dX9_partOf_3 (fun H locs hP hS => ?_)
  refine lv_if_eq (tgt := 17) hx hb dX9_partOf_6 (by decide) (fun c13 => ?_) (fun c13 => ?_)
  · have hf := ifp hf c13
    refine lv_iconst (v := (0 : Int32)) hx hb dX9_partOf_17 (by decide) ?_
    exact P_f_X9_partOf_18_s2 w x1 x2 (0 : Int32) hf _ _ ls hP hS (lv_sub hl [0, 1, 2] rfl)
  · have hf := ifn hf c13
    refine lv_iload_n hx hb dX9_partOf_9 rfl (lv_at hl 2 rfl) ?_
    refine lv_if_lt (tgt := 17) hx hb dX9_partOf_10 (by decide) (fun c12 => ?_) (fun c12 => ?_)
    · have hf := ifp hf c12
      refine lv_iconst (v := (0 : Int32)) hx hb dX9_partOf_17 (by decide) ?_
      exact P_f_X9_partOf_18_s2 w x1 x2 (0 : Int32) hf _ _ ls hP hS (lv_sub hl [0, 1, 2] rfl)
    · have hf := ifn hf c12
      refine lv_iconst (v := (1 : Int32)) hx hb dX9_partOf_13 (by decide) ?_
      refine lv_goto (tgt := 18) hx hb dX9_partOf_14 (by decide) ?_
      exact P_f_X9_partOf_18_s2 w x1 x2 (1 : Int32) hf _ _ ls hP hS (lv_sub hl [0, 1, 2] rfl)
def f_X9_sameOf_29_s2 (N : Nat) (w : Mem)  (v1 : Int32) (v2 : Int32) (s0 : Int32) : Option (Mem × Int32) :=
  (Option.bind (f_X9_unless N w s0) (fun z3 => (Option.bind (f_X9_isRefused N w z3) (fun z5 => (if z5.2 = (0 : Int32) then
(if (2 : Int32) ≤ v2 then
(Option.bind (f_X9_allSames N z5.1 ) (fun z7 => (if inb v1 13 = true then (Option.bind (f_X9_isOneBy N z5.1 (z7 &&& (((1 : Int32) <<< (v1 &&& 31)) ^^^ (-1 : Int32))) (gA z5.1 48 0 v1.toNatClampNeg) (gA z5.1 49 0 v1.toNatClampNeg)) (fun z10 => (if z10.2 = (0 : Int32) then
some (z10.1, (0 : Int32))
else
some (z10.1, (1 : Int32))))) else none)))
else
(if v2 = (0 : Int32) then
(if inb v1 13 = true then some (z5.1, (gA z5.1 48 0 v1.toNatClampNeg)) else none)
else
(if inb v1 13 = true then some (z5.1, (gA z5.1 49 0 v1.toNatClampNeg)) else none)))
else
some (z5.1, (-1 : Int32)))))))
def f_X9_sameOf (N : Nat) (w : Mem) (x1 : Int32) (x2 : Int32) : Option (Mem × Int32) :=
  (Option.bind (f_X9_in N w x1 (0 : Int32) ((gF w 9 30 0) - (1 : Int32))) (fun z1 => (if z1 = (0 : Int32) then
(f_X9_sameOf_29_s2 N w  x1 x2 (0 : Int32))
else
(Option.bind (f_X9_in N w x2 (0 : Int32) (2 : Int32)) (fun z18 => (if z18 = (0 : Int32) then
(f_X9_sameOf_29_s2 N w  x1 x2 (0 : Int32))
else
(f_X9_sameOf_29_s2 N w  x1 x2 (1 : Int32))))))))
set_option maxRecDepth 100000 in
set_option maxHeartbeats 4000000 in
theorem c_X9_sameOf (l : Launch) (D : va_G) (ca : Nat → ClassId) (ad : Nat → Nat → Nat) (PL : List (Nat × Nat)) (Z : State → Prop) (A : Nat → Prop) (hok : okc bM Z A ad PL) (N : Nat) (w : Mem) (x1 : Int32) (x2 : Int32) (w' : Mem) (r : Int32) (hf : f_X9_sameOf N w x1 x2 = some (w', r)) : CT l yX9_sameOf (wsy yX9_sameOf cX9_sameOf 3 (some .int)) (rmk 4) D ca ad PL Z A [.ref (ad 9 0), .int x1, .int x2] w w' (some (.int r)) := by
  refine Met.ofW (cc := cX9_sameOf) (maxL := 3) (ret := (some .int)) (by decide +kernel) rfl ?_
  intro p e s m args below meth c s₁ B hml hv
  obtain ⟨rfl, hP, hK, hZ⟩ := hv
  have hx := B.exec
  have hb := B.bytes
  have hr := B.returns
  have hlocks := B.notSynchronized
  have hts : ∀ w ∈ ALL, w.before _ s = true := fun w hw => atoms_spec (ws := wsy yX9_sameOf cX9_sameOf 3 (some .int)) B.pre w (List.mem_cons_of_mem _ hw)
  have hown : s.vm.findClass RX9 = some m.cls := findClass_of_methodNamed B.named
  have C : CX p s m _ c cX9_sameOf RX9 3 D ca Z := ⟨hx, hb, hml, hown, hts, hK, hZ⟩
  have hS : va_S A s.heap s.heap [] := va_S.rf
  have hl := lv_entry ([.ref (ad 9 0), .int x1, .int x2]) (n := 3) (Nat.le_of_ble_eq_true rfl)
  rw [lg_entry_eq]
  generalize (lg_sl ([.ref (ad 9 0), .int x1, .int x2]) ++ List.replicate (3 - (lg_sl ([.ref (ad 9 0), .int x1, .int x2])).length) Slot.unset).toArray = ls at hl ⊢
  have hl : lv_has ls 3 [(0, .ref (ad 9 0)), (1, .int x1), (2, .int x2)] := hl
  show W p l e (rmk 4) s m _ below meth c s.heap [] 0 0 _ _
  have P_f_X9_sameOf_29_s2 : ∀ (w : Mem) (v1 : Int32) (v2 : Int32) (s0 : Int32), f_X9_sameOf_29_s2 N w  v1 v2 s0 = some (w', r) → WP p l e (rmk 4) s m [.ref (ad 9 0), .int x1, .int x2].toArray below meth c D ca ad PL A (MQ below (qcR D ca ad PL Z A w' (some (.int r))) [.ref (ad 9 0), .int x1, .int x2].toArray s 0 0 A) 3 29 [.int s0, .ref (ad 9 0)] [(0, .ref (ad 9 0)), (1, .int v1), (2, .int v2)] w := by
    intro w v1 v2 s0 hf _ _ ls hP hS hl
    unfold f_X9_sameOf_29_s2 at hf
    obtain ⟨z3, q4, hf⟩ := bsp hf
    refine kc_S (As := [.int s0]) (rest := [.ref (ad 9 0)]) hok.2.2 C hP hS hl.1 cw_X9_unless ml_X9_306 (c_X9_unless l D ca ad PL Z A hok N w s0 z3 q4) rfl ⟨rfl, rfl⟩ ⟨Nat.le_of_ble_eq_true rfl, Nat.le_of_ble_eq_true rfl⟩ ⟨Nat.zero_le _, Nat.zero_le _⟩ (Nat.le_of_ble_eq_true rfl) rfl dX9_sameOf_29 (fun H locs hP hS => ?_)
    obtain ⟨z5, q6, hf⟩ := bsp hf
    refine kc_V (ci := 9) (i := 0) (As := [.int z3]) (rest := []) hok.2.2 C hP hS hl.1 (hok.2.1 9 0 (Nat.le_of_ble_eq_true rfl)) rfl rfl cw_X9_isRefused ml_X9_223 (c_X9_isRefused l D ca ad PL Z A hok N w z3 z5.1 z5.2 q6) rfl ⟨rfl, rfl⟩ ⟨Nat.le_of_ble_eq_true rfl, Nat.le_of_ble_eq_true rfl⟩ ⟨Nat.zero_le _, Nat.zero_le _⟩ (Nat.le_of_ble_eq_true rfl) rfl dX9_sameOf_32 (fun H locs hP hS => ?_)
    refine lv_if_eq (tgt := 40) hx hb dX9_sameOf_35 (by decide) (fun c17 => ?_) (fun c17 => ?_)
    · have hf := ifp hf c17
      refine lv_iload_n hx hb dX9_sameOf_40 rfl (lv_at hl 2 rfl) ?_
      refine lv_iconst (v := (2 : Int32)) hx hb dX9_sameOf_41 (by decide) ?_
      refine lv_icmp_ge (tgt := 65) hx hb dX9_sameOf_42 (by decide) (fun c16 => ?_) (fun c16 => ?_)
      · have hf := ifp hf c16
        refine lv_aload_n hx hb dX9_sameOf_65 rfl (lv_at hl 0 rfl) ?_
        refine lv_aload_n hx hb dX9_sameOf_66 rfl (lv_at hl 0 rfl) ?_
        obtain ⟨z7, q8, hf⟩ := bsp hf
        refine kc_V (ci := 9) (i := 0) (As := []) (rest := [.ref (ad 9 0)]) hok.2.2 C hP hS hl.1 (hok.2.1 9 0 (Nat.le_of_ble_eq_true rfl)) rfl rfl cw_X9_allSames ml_X9_329 (c_X9_allSames l D ca ad PL Z A hok N z5.1  z7 q8) rfl ⟨rfl, rfl⟩ ⟨Nat.le_of_ble_eq_true rfl, Nat.le_of_ble_eq_true rfl⟩ ⟨Nat.zero_le _, Nat.zero_le _⟩ (Nat.le_of_ble_eq_true rfl) rfl dX9_sameOf_67 (fun H locs hP hS => ?_)
        refine lv_iconst (v := (1 : Int32)) hx hb dX9_sameOf_70 (by decide) ?_
        refine lv_iload_n hx hb dX9_sameOf_71 rfl (lv_at hl 1 rfl) ?_
        refine lv_ishl hx hb dX9_sameOf_72 ?_
        refine lv_iconst (v := (-1 : Int32)) hx hb dX9_sameOf_73 (by decide) ?_
        refine lv_ixor hx hb dX9_sameOf_74 ?_
        refine lv_iand hx hb dX9_sameOf_75 ?_
        refine lv_aload_n hx hb dX9_sameOf_76 rfl (lv_at hl 0 rfl) ?_
        refine gt_9_31 (i := 0) C hP (hok.2.1 9 0 (Nat.le_of_ble_eq_true rfl)) lk_X9_38 dX9_sameOf_77 ?_
        refine lv_iload_n hx hb dX9_sameOf_80 rfl (lv_at hl 1 rfl) ?_
        obtain ⟨b9, hf⟩ := gsp hf
        refine ra_ild (k := 48) (i := 0) (n := 13) (f := (gA z5.1 48 0)) C hP (hok.2.1 48 0 (Nat.le_of_ble_eq_true rfl)) rfl b9 dX9_sameOf_81 ?_
        refine lv_aload_n hx hb dX9_sameOf_82 rfl (lv_at hl 0 rfl) ?_
        refine gt_9_32 (i := 0) C hP (hok.2.1 9 0 (Nat.le_of_ble_eq_true rfl)) lk_X9_41 dX9_sameOf_83 ?_
        refine lv_iload_n hx hb dX9_sameOf_86 rfl (lv_at hl 1 rfl) ?_
        refine ra_ild (k := 49) (i := 0) (n := 13) (f := (gA z5.1 49 0)) C hP (hok.2.1 49 0 (Nat.le_of_ble_eq_true rfl)) rfl b9 dX9_sameOf_87 ?_
        obtain ⟨z10, q11, hf⟩ := bsp hf
        refine kc_V (ci := 9) (i := 0) (As := [.int (z7 &&& (((1 : Int32) <<< (v1 &&& 31)) ^^^ (-1 : Int32))), .int (gA z5.1 48 0 v1.toNatClampNeg), .int (gA z5.1 49 0 v1.toNatClampNeg)]) (rest := []) hok.2.2 C hP hS hl.1 (hok.2.1 9 0 (Nat.le_of_ble_eq_true rfl)) rfl rfl cw_X9_isOneBy ml_X9_332 (c_X9_isOneBy l D ca ad PL Z A hok N z5.1 (z7 &&& (((1 : Int32) <<< (v1 &&& 31)) ^^^ (-1 : Int32))) (gA z5.1 48 0 v1.toNatClampNeg) (gA z5.1 49 0 v1.toNatClampNeg) z10.1 z10.2 q11) rfl ⟨rfl, rfl⟩ ⟨Nat.le_of_ble_eq_true rfl, Nat.le_of_ble_eq_true rfl⟩ ⟨Nat.zero_le _, Nat.zero_le _⟩ (Nat.le_of_ble_eq_true rfl) rfl dX9_sameOf_88 (fun H locs hP hS => ?_)
        refine lv_if_eq (tgt := 98) hx hb dX9_sameOf_91 (by decide) (fun c12 => ?_) (fun c12 => ?_)
        · have hf := ifp hf c12
          refine lv_iconst (v := (0 : Int32)) hx hb dX9_sameOf_98 (by decide) ?_
          exact kr_i hok.2.2 C hlocks hr rfl hP hS (congrArg Prod.fst (Option.some.inj hf)) (congrArg Prod.snd (Option.some.inj hf)) dX9_sameOf_99
        · have hf := ifn hf c12
          refine lv_iconst (v := (1 : Int32)) hx hb dX9_sameOf_94 (by decide) ?_
          refine lv_goto (tgt := 99) hx hb dX9_sameOf_95 (by decide) ?_
          exact kr_i hok.2.2 C hlocks hr rfl hP hS (congrArg Prod.fst (Option.some.inj hf)) (congrArg Prod.snd (Option.some.inj hf)) dX9_sameOf_99
      · have hf := ifn hf c16
        refine lv_iload_n hx hb dX9_sameOf_45 rfl (lv_at hl 2 rfl) ?_
        refine lv_if_ne (tgt := 58) hx hb dX9_sameOf_46 (by decide) (fun c15 => ?_) (fun c15 => ?_)
        · have hf := ifn hf c15
          refine lv_aload_n hx hb dX9_sameOf_58 rfl (lv_at hl 0 rfl) ?_
          refine gt_9_32 (i := 0) C hP (hok.2.1 9 0 (Nat.le_of_ble_eq_true rfl)) lk_X9_41 dX9_sameOf_59 ?_
          refine lv_iload_n hx hb dX9_sameOf_62 rfl (lv_at hl 1 rfl) ?_
          obtain ⟨b13, hf⟩ := gsp hf
          refine ra_ild (k := 49) (i := 0) (n := 13) (f := (gA z5.1 49 0)) C hP (hok.2.1 49 0 (Nat.le_of_ble_eq_true rfl)) rfl b13 dX9_sameOf_63 ?_
          exact kr_i hok.2.2 C hlocks hr rfl hP hS (congrArg Prod.fst (Option.some.inj hf)) (congrArg Prod.snd (Option.some.inj hf)) dX9_sameOf_64
        · have hf := ifp hf c15
          refine lv_aload_n hx hb dX9_sameOf_49 rfl (lv_at hl 0 rfl) ?_
          refine gt_9_31 (i := 0) C hP (hok.2.1 9 0 (Nat.le_of_ble_eq_true rfl)) lk_X9_38 dX9_sameOf_50 ?_
          refine lv_iload_n hx hb dX9_sameOf_53 rfl (lv_at hl 1 rfl) ?_
          obtain ⟨b14, hf⟩ := gsp hf
          refine ra_ild (k := 48) (i := 0) (n := 13) (f := (gA z5.1 48 0)) C hP (hok.2.1 48 0 (Nat.le_of_ble_eq_true rfl)) rfl b14 dX9_sameOf_54 ?_
          refine lv_goto (tgt := 64) hx hb dX9_sameOf_55 (by decide) ?_
          exact kr_i hok.2.2 C hlocks hr rfl hP hS (congrArg Prod.fst (Option.some.inj hf)) (congrArg Prod.snd (Option.some.inj hf)) dX9_sameOf_64
    · have hf := ifn hf c17
      refine lv_iconst (v := (-1 : Int32)) hx hb dX9_sameOf_38 (by decide) ?_
      exact kr_i hok.2.2 C hlocks hr rfl hP hS (congrArg Prod.fst (Option.some.inj hf)) (congrArg Prod.snd (Option.some.inj hf)) dX9_sameOf_39
  unfold f_X9_sameOf at hf
  -- walk
  refine lv_aload_n hx hb dX9_sameOf_0 rfl (lv_at hl 0 rfl) ?_
  refine lv_iload_n hx hb dX9_sameOf_1 rfl (lv_at hl 1 rfl) ?_
  refine lv_iconst (v := (0 : Int32)) hx hb dX9_sameOf_2 (by decide) ?_
  refine lv_aload_n hx hb dX9_sameOf_3 rfl (lv_at hl 0 rfl) ?_
  refine gt_9_30 (i := 0) C hP (hok.2.1 9 0 (Nat.le_of_ble_eq_true rfl)) lk_X9_287 dX9_sameOf_4 ?_
  refine lv_iconst (v := (1 : Int32)) hx hb dX9_sameOf_7 (by decide) ?_
  refine lv_isub hx hb dX9_sameOf_8 ?_
  obtain ⟨z1, q2, hf⟩ := bsp hf
  refine kc_S (As := [.int x1, .int (0 : Int32), .int ((gF w 9 30 0) - (1 : Int32))]) (rest := [.ref (ad 9 0)]) hok.2.2 C hP hS hl.1 cw_X9_in ml_X9_132 (c_X9_in l D ca ad PL Z A hok N w x1 (0 : Int32) ((gF w 9 30 0) - (1 : Int32)) z1 q2) rfl ⟨rfl, rfl⟩ ⟨Nat.le_of_ble_eq_true rfl, Nat.le_of_ble_eq_true rfl⟩ ⟨Nat.zero_le _, Nat.zero_le _⟩ (Nat.le_of_ble_eq_true rfl) rfl dX9_sameOf_9 (fun H locs hP hS => ?_)
  refine lv_if_eq (tgt := 28) hx hb dX9_sameOf_12 (by decide) (fun c21 => ?_) (fun c21 => ?_)
  · have hf := ifp hf c21
    refine lv_iconst (v := (0 : Int32)) hx hb dX9_sameOf_28 (by decide) ?_
    exact P_f_X9_sameOf_29_s2 w x1 x2 (0 : Int32) hf _ _ ls hP hS (lv_sub hl [0, 1, 2] rfl)
  · have hf := ifn hf c21
    refine lv_iload_n hx hb dX9_sameOf_15 rfl (lv_at hl 2 rfl) ?_
    refine lv_iconst (v := (0 : Int32)) hx hb dX9_sameOf_16 (by decide) ?_
    refine lv_iconst (v := (2 : Int32)) hx hb dX9_sameOf_17 (by decide) ?_
    obtain ⟨z18, q19, hf⟩ := bsp hf
    refine kc_S (As := [.int x2, .int (0 : Int32), .int (2 : Int32)]) (rest := [.ref (ad 9 0)]) hok.2.2 C hP hS hl.1 cw_X9_in ml_X9_132 (c_X9_in l D ca ad PL Z A hok N w x2 (0 : Int32) (2 : Int32) z18 q19) rfl ⟨rfl, rfl⟩ ⟨Nat.le_of_ble_eq_true rfl, Nat.le_of_ble_eq_true rfl⟩ ⟨Nat.zero_le _, Nat.zero_le _⟩ (Nat.le_of_ble_eq_true rfl) rfl dX9_sameOf_18 (fun H locs hP hS => ?_)
    refine lv_if_eq (tgt := 28) hx hb dX9_sameOf_21 (by decide) (fun c20 => ?_) (fun c20 => ?_)
    · have hf := ifp hf c20
      refine lv_iconst (v := (0 : Int32)) hx hb dX9_sameOf_28 (by decide) ?_
      exact P_f_X9_sameOf_29_s2 w x1 x2 (0 : Int32) hf _ _ ls hP hS (lv_sub hl [0, 1, 2] rfl)
    · have hf := ifn hf c20
      refine lv_iconst (v := (1 : Int32)) hx hb dX9_sameOf_24 (by decide) ?_
      refine lv_goto (tgt := 29) hx hb dX9_sameOf_25 (by decide) ?_
      exact P_f_X9_sameOf_29_s2 w x1 x2 (1 : Int32) hf _ _ ls hP hS (lv_sub hl [0, 1, 2] rfl)
def f_X9_diffOf_29_s2 (N : Nat) (w : Mem)  (v1 : Int32) (v2 : Int32) (s0 : Int32) : Option (Mem × Int32) :=
  (Option.bind (f_X9_unless N w s0) (fun z3 => (Option.bind (f_X9_isRefused N w z3) (fun z5 => (if z5.2 = (0 : Int32) then
(if (2 : Int32) ≤ v2 then
(if inb v1 8 = true then (if inb (gA z5.1 50 0 v1.toNatClampNeg) 24 = true then (if inb (gA z5.1 51 0 v1.toNatClampNeg) 24 = true then (if (gA z5.1 52 0 (gA z5.1 50 0 v1.toNatClampNeg).toNatClampNeg) = (gA z5.1 52 0 (gA z5.1 51 0 v1.toNatClampNeg).toNatClampNeg) then
some (z5.1, (1 : Int32))
else
some (z5.1, (0 : Int32))) else none) else none) else none)
else
(if v2 = (0 : Int32) then
(if inb v1 8 = true then some (z5.1, (gA z5.1 50 0 v1.toNatClampNeg)) else none)
else
(if inb v1 8 = true then some (z5.1, (gA z5.1 51 0 v1.toNatClampNeg)) else none)))
else
some (z5.1, (-1 : Int32)))))))
def f_X9_diffOf (N : Nat) (w : Mem) (x1 : Int32) (x2 : Int32) : Option (Mem × Int32) :=
  (Option.bind (f_X9_in N w x1 (0 : Int32) ((gF w 9 33 0) - (1 : Int32))) (fun z1 => (if z1 = (0 : Int32) then
(f_X9_diffOf_29_s2 N w  x1 x2 (0 : Int32))
else
(Option.bind (f_X9_in N w x2 (0 : Int32) (2 : Int32)) (fun z16 => (if z16 = (0 : Int32) then
(f_X9_diffOf_29_s2 N w  x1 x2 (0 : Int32))
else
(f_X9_diffOf_29_s2 N w  x1 x2 (1 : Int32))))))))
set_option maxRecDepth 100000 in
set_option maxHeartbeats 4000000 in
theorem c_X9_diffOf (l : Launch) (D : va_G) (ca : Nat → ClassId) (ad : Nat → Nat → Nat) (PL : List (Nat × Nat)) (Z : State → Prop) (A : Nat → Prop) (hok : okc bM Z A ad PL) (N : Nat) (w : Mem) (x1 : Int32) (x2 : Int32) (w' : Mem) (r : Int32) (hf : f_X9_diffOf N w x1 x2 = some (w', r)) : CT l yX9_diffOf (wsy yX9_diffOf cX9_diffOf 3 (some .int)) (rmk 1) D ca ad PL Z A [.ref (ad 9 0), .int x1, .int x2] w w' (some (.int r)) := by
  refine Met.ofW (cc := cX9_diffOf) (maxL := 3) (ret := (some .int)) (by decide +kernel) rfl ?_
  intro p e s m args below meth c s₁ B hml hv
  obtain ⟨rfl, hP, hK, hZ⟩ := hv
  have hx := B.exec
  have hb := B.bytes
  have hr := B.returns
  have hlocks := B.notSynchronized
  have hts : ∀ w ∈ ALL, w.before _ s = true := fun w hw => atoms_spec (ws := wsy yX9_diffOf cX9_diffOf 3 (some .int)) B.pre w (List.mem_cons_of_mem _ hw)
  have hown : s.vm.findClass RX9 = some m.cls := findClass_of_methodNamed B.named
  have C : CX p s m _ c cX9_diffOf RX9 3 D ca Z := ⟨hx, hb, hml, hown, hts, hK, hZ⟩
  have hS : va_S A s.heap s.heap [] := va_S.rf
  have hl := lv_entry ([.ref (ad 9 0), .int x1, .int x2]) (n := 3) (Nat.le_of_ble_eq_true rfl)
  rw [lg_entry_eq]
  generalize (lg_sl ([.ref (ad 9 0), .int x1, .int x2]) ++ List.replicate (3 - (lg_sl ([.ref (ad 9 0), .int x1, .int x2])).length) Slot.unset).toArray = ls at hl ⊢
  have hl : lv_has ls 3 [(0, .ref (ad 9 0)), (1, .int x1), (2, .int x2)] := hl
  show W p l e (rmk 1) s m _ below meth c s.heap [] 0 0 _ _
  have P_f_X9_diffOf_29_s2 : ∀ (w : Mem) (v1 : Int32) (v2 : Int32) (s0 : Int32), f_X9_diffOf_29_s2 N w  v1 v2 s0 = some (w', r) → WP p l e (rmk 1) s m [.ref (ad 9 0), .int x1, .int x2].toArray below meth c D ca ad PL A (MQ below (qcR D ca ad PL Z A w' (some (.int r))) [.ref (ad 9 0), .int x1, .int x2].toArray s 0 0 A) 3 29 [.int s0, .ref (ad 9 0)] [(0, .ref (ad 9 0)), (1, .int v1), (2, .int v2)] w := by
    intro w v1 v2 s0 hf _ _ ls hP hS hl
    unfold f_X9_diffOf_29_s2 at hf
    obtain ⟨z3, q4, hf⟩ := bsp hf
    refine kc_S (As := [.int s0]) (rest := [.ref (ad 9 0)]) hok.2.2 C hP hS hl.1 cw_X9_unless ml_X9_306 (c_X9_unless l D ca ad PL Z A hok N w s0 z3 q4) rfl ⟨rfl, rfl⟩ ⟨Nat.le_of_ble_eq_true rfl, Nat.le_of_ble_eq_true rfl⟩ ⟨Nat.zero_le _, Nat.zero_le _⟩ (Nat.le_of_ble_eq_true rfl) rfl dX9_diffOf_29 (fun H locs hP hS => ?_)
    obtain ⟨z5, q6, hf⟩ := bsp hf
    refine kc_V (ci := 9) (i := 0) (As := [.int z3]) (rest := []) hok.2.2 C hP hS hl.1 (hok.2.1 9 0 (Nat.le_of_ble_eq_true rfl)) rfl rfl cw_X9_isRefused ml_X9_223 (c_X9_isRefused l D ca ad PL Z A hok N w z3 z5.1 z5.2 q6) rfl ⟨rfl, rfl⟩ ⟨Nat.le_of_ble_eq_true rfl, Nat.le_of_ble_eq_true rfl⟩ ⟨Nat.zero_le _, Nat.zero_le _⟩ (Nat.le_of_ble_eq_true rfl) rfl dX9_diffOf_32 (fun H locs hP hS => ?_)
    refine lv_if_eq (tgt := 40) hx hb dX9_diffOf_35 (by decide) (fun c15 => ?_) (fun c15 => ?_)
    · have hf := ifp hf c15
      refine lv_iload_n hx hb dX9_diffOf_40 rfl (lv_at hl 2 rfl) ?_
      refine lv_iconst (v := (2 : Int32)) hx hb dX9_diffOf_41 (by decide) ?_
      refine lv_icmp_ge (tgt := 65) hx hb dX9_diffOf_42 (by decide) (fun c14 => ?_) (fun c14 => ?_)
      · have hf := ifp hf c14
        refine lv_aload_n hx hb dX9_diffOf_65 rfl (lv_at hl 0 rfl) ?_
        refine gt_9_36 (i := 0) C hP (hok.2.1 9 0 (Nat.le_of_ble_eq_true rfl)) lk_X9_50 dX9_diffOf_66 ?_
        refine lv_aload_n hx hb dX9_diffOf_69 rfl (lv_at hl 0 rfl) ?_
        refine gt_9_34 (i := 0) C hP (hok.2.1 9 0 (Nat.le_of_ble_eq_true rfl)) lk_X9_44 dX9_diffOf_70 ?_
        refine lv_iload_n hx hb dX9_diffOf_73 rfl (lv_at hl 1 rfl) ?_
        obtain ⟨b7, hf⟩ := gsp hf
        refine ra_ild (k := 50) (i := 0) (n := 8) (f := (gA z5.1 50 0)) C hP (hok.2.1 50 0 (Nat.le_of_ble_eq_true rfl)) rfl b7 dX9_diffOf_74 ?_
        obtain ⟨b8, hf⟩ := gsp hf
        refine ra_ild (k := 52) (i := 0) (n := 24) (f := (gA z5.1 52 0)) C hP (hok.2.1 52 0 (Nat.le_of_ble_eq_true rfl)) rfl b8 dX9_diffOf_75 ?_
        refine lv_aload_n hx hb dX9_diffOf_76 rfl (lv_at hl 0 rfl) ?_
        refine gt_9_36 (i := 0) C hP (hok.2.1 9 0 (Nat.le_of_ble_eq_true rfl)) lk_X9_50 dX9_diffOf_77 ?_
        refine lv_aload_n hx hb dX9_diffOf_80 rfl (lv_at hl 0 rfl) ?_
        refine gt_9_35 (i := 0) C hP (hok.2.1 9 0 (Nat.le_of_ble_eq_true rfl)) lk_X9_47 dX9_diffOf_81 ?_
        refine lv_iload_n hx hb dX9_diffOf_84 rfl (lv_at hl 1 rfl) ?_
        refine ra_ild (k := 51) (i := 0) (n := 8) (f := (gA z5.1 51 0)) C hP (hok.2.1 51 0 (Nat.le_of_ble_eq_true rfl)) rfl b7 dX9_diffOf_85 ?_
        obtain ⟨b9, hf⟩ := gsp hf
        refine ra_ild (k := 52) (i := 0) (n := 24) (f := (gA z5.1 52 0)) C hP (hok.2.1 52 0 (Nat.le_of_ble_eq_true rfl)) rfl b9 dX9_diffOf_86 ?_
        refine lv_icmp_ne (tgt := 94) hx hb dX9_diffOf_87 (by decide) (fun c10 => ?_) (fun c10 => ?_)
        · have hf := ifn hf c10
          refine lv_iconst (v := (0 : Int32)) hx hb dX9_diffOf_94 (by decide) ?_
          exact kr_i hok.2.2 C hlocks hr rfl hP hS (congrArg Prod.fst (Option.some.inj hf)) (congrArg Prod.snd (Option.some.inj hf)) dX9_diffOf_95
        · have hf := ifp hf c10
          refine lv_iconst (v := (1 : Int32)) hx hb dX9_diffOf_90 (by decide) ?_
          refine lv_goto (tgt := 95) hx hb dX9_diffOf_91 (by decide) ?_
          exact kr_i hok.2.2 C hlocks hr rfl hP hS (congrArg Prod.fst (Option.some.inj hf)) (congrArg Prod.snd (Option.some.inj hf)) dX9_diffOf_95
      · have hf := ifn hf c14
        refine lv_iload_n hx hb dX9_diffOf_45 rfl (lv_at hl 2 rfl) ?_
        refine lv_if_ne (tgt := 58) hx hb dX9_diffOf_46 (by decide) (fun c13 => ?_) (fun c13 => ?_)
        · have hf := ifn hf c13
          refine lv_aload_n hx hb dX9_diffOf_58 rfl (lv_at hl 0 rfl) ?_
          refine gt_9_35 (i := 0) C hP (hok.2.1 9 0 (Nat.le_of_ble_eq_true rfl)) lk_X9_47 dX9_diffOf_59 ?_
          refine lv_iload_n hx hb dX9_diffOf_62 rfl (lv_at hl 1 rfl) ?_
          obtain ⟨b11, hf⟩ := gsp hf
          refine ra_ild (k := 51) (i := 0) (n := 8) (f := (gA z5.1 51 0)) C hP (hok.2.1 51 0 (Nat.le_of_ble_eq_true rfl)) rfl b11 dX9_diffOf_63 ?_
          exact kr_i hok.2.2 C hlocks hr rfl hP hS (congrArg Prod.fst (Option.some.inj hf)) (congrArg Prod.snd (Option.some.inj hf)) dX9_diffOf_64
        · have hf := ifp hf c13
          refine lv_aload_n hx hb dX9_diffOf_49 rfl (lv_at hl 0 rfl) ?_
          refine gt_9_34 (i := 0) C hP (hok.2.1 9 0 (Nat.le_of_ble_eq_true rfl)) lk_X9_44 dX9_diffOf_50 ?_
          refine lv_iload_n hx hb dX9_diffOf_53 rfl (lv_at hl 1 rfl) ?_
          obtain ⟨b12, hf⟩ := gsp hf
          refine ra_ild (k := 50) (i := 0) (n := 8) (f := (gA z5.1 50 0)) C hP (hok.2.1 50 0 (Nat.le_of_ble_eq_true rfl)) rfl b12 dX9_diffOf_54 ?_
          refine lv_goto (tgt := 64) hx hb dX9_diffOf_55 (by decide) ?_
          exact kr_i hok.2.2 C hlocks hr rfl hP hS (congrArg Prod.fst (Option.some.inj hf)) (congrArg Prod.snd (Option.some.inj hf)) dX9_diffOf_64
    · have hf := ifn hf c15
      refine lv_iconst (v := (-1 : Int32)) hx hb dX9_diffOf_38 (by decide) ?_
      exact kr_i hok.2.2 C hlocks hr rfl hP hS (congrArg Prod.fst (Option.some.inj hf)) (congrArg Prod.snd (Option.some.inj hf)) dX9_diffOf_39
  unfold f_X9_diffOf at hf
  -- walk
  refine lv_aload_n hx hb dX9_diffOf_0 rfl (lv_at hl 0 rfl) ?_
  refine lv_iload_n hx hb dX9_diffOf_1 rfl (lv_at hl 1 rfl) ?_
  refine lv_iconst (v := (0 : Int32)) hx hb dX9_diffOf_2 (by decide) ?_
  refine lv_aload_n hx hb dX9_diffOf_3 rfl (lv_at hl 0 rfl) ?_
  refine gt_9_33 (i := 0) C hP (hok.2.1 9 0 (Nat.le_of_ble_eq_true rfl)) lk_X9_297 dX9_diffOf_4 ?_
  refine lv_iconst (v := (1 : Int32)) hx hb dX9_diffOf_7 (by decide) ?_
  refine lv_isub hx hb dX9_diffOf_8 ?_
  obtain ⟨z1, q2, hf⟩ := bsp hf
  refine kc_S (As := [.int x1, .int (0 : Int32), .int ((gF w 9 33 0) - (1 : Int32))]) (rest := [.ref (ad 9 0)]) hok.2.2 C hP hS hl.1 cw_X9_in ml_X9_132 (c_X9_in l D ca ad PL Z A hok N w x1 (0 : Int32) ((gF w 9 33 0) - (1 : Int32)) z1 q2) rfl ⟨rfl, rfl⟩ ⟨Nat.le_of_ble_eq_true rfl, Nat.le_of_ble_eq_true rfl⟩ ⟨Nat.zero_le _, Nat.zero_le _⟩ (Nat.le_of_ble_eq_true rfl) rfl dX9_diffOf_9 (fun H locs hP hS => ?_)
  refine lv_if_eq (tgt := 28) hx hb dX9_diffOf_12 (by decide) (fun c19 => ?_) (fun c19 => ?_)
  · have hf := ifp hf c19
    refine lv_iconst (v := (0 : Int32)) hx hb dX9_diffOf_28 (by decide) ?_
    exact P_f_X9_diffOf_29_s2 w x1 x2 (0 : Int32) hf _ _ ls hP hS (lv_sub hl [0, 1, 2] rfl)
  · have hf := ifn hf c19
    refine lv_iload_n hx hb dX9_diffOf_15 rfl (lv_at hl 2 rfl) ?_
    refine lv_iconst (v := (0 : Int32)) hx hb dX9_diffOf_16 (by decide) ?_
    refine lv_iconst (v := (2 : Int32)) hx hb dX9_diffOf_17 (by decide) ?_
    obtain ⟨z16, q17, hf⟩ := bsp hf
    refine kc_S (As := [.int x2, .int (0 : Int32), .int (2 : Int32)]) (rest := [.ref (ad 9 0)]) hok.2.2 C hP hS hl.1 cw_X9_in ml_X9_132 (c_X9_in l D ca ad PL Z A hok N w x2 (0 : Int32) (2 : Int32) z16 q17) rfl ⟨rfl, rfl⟩ ⟨Nat.le_of_ble_eq_true rfl, Nat.le_of_ble_eq_true rfl⟩ ⟨Nat.zero_le _, Nat.zero_le _⟩ (Nat.le_of_ble_eq_true rfl) rfl dX9_diffOf_18 (fun H locs hP hS => ?_)
    refine lv_if_eq (tgt := 28) hx hb dX9_diffOf_21 (by decide) (fun c18 => ?_) (fun c18 => ?_)
    · have hf := ifp hf c18
      refine lv_iconst (v := (0 : Int32)) hx hb dX9_diffOf_28 (by decide) ?_
      exact P_f_X9_diffOf_29_s2 w x1 x2 (0 : Int32) hf _ _ ls hP hS (lv_sub hl [0, 1, 2] rfl)
    · have hf := ifn hf c18
      refine lv_iconst (v := (1 : Int32)) hx hb dX9_diffOf_24 (by decide) ?_
      refine lv_goto (tgt := 29) hx hb dX9_diffOf_25 (by decide) ?_
      exact P_f_X9_diffOf_29_s2 w x1 x2 (1 : Int32) hf _ _ ls hP hS (lv_sub hl [0, 1, 2] rfl)
def f_X9_joinOf_29_s2 (N : Nat) (w : Mem)  (v1 : Int32) (v2 : Int32) (s0 : Int32) : Option (Mem × Int32) :=
  (Option.bind (f_X9_unless N w s0) (fun z3 => (Option.bind (f_X9_isRefused N w z3) (fun z5 => (if z5.2 = (0 : Int32) then
(if v2 = (0 : Int32) then
(if inb v1 24 = true then some (z5.1, (gA z5.1 55 0 v1.toNatClampNeg)) else none)
else
(if v2 = (1 : Int32) then
(if inb v1 24 = true then some (z5.1, (gA z5.1 56 0 v1.toNatClampNeg)) else none)
else
(if inb v1 24 = true then some (z5.1, (gA z5.1 57 0 v1.toNatClampNeg)) else none)))
else
some (z5.1, (-1 : Int32)))))))
def f_X9_joinOf (N : Nat) (w : Mem) (x1 : Int32) (x2 : Int32) : Option (Mem × Int32) :=
  (Option.bind (f_X9_in N w x1 (0 : Int32) ((gF w 9 39 0) - (1 : Int32))) (fun z1 => (if z1 = (0 : Int32) then
(f_X9_joinOf_29_s2 N w  x1 x2 (0 : Int32))
else
(Option.bind (f_X9_in N w x2 (0 : Int32) (2 : Int32)) (fun z13 => (if z13 = (0 : Int32) then
(f_X9_joinOf_29_s2 N w  x1 x2 (0 : Int32))
else
(f_X9_joinOf_29_s2 N w  x1 x2 (1 : Int32))))))))
set_option maxRecDepth 100000 in
set_option maxHeartbeats 4000000 in
theorem c_X9_joinOf (l : Launch) (D : va_G) (ca : Nat → ClassId) (ad : Nat → Nat → Nat) (PL : List (Nat × Nat)) (Z : State → Prop) (A : Nat → Prop) (hok : okc bM Z A ad PL) (N : Nat) (w : Mem) (x1 : Int32) (x2 : Int32) (w' : Mem) (r : Int32) (hf : f_X9_joinOf N w x1 x2 = some (w', r)) : CT l yX9_joinOf (wsy yX9_joinOf cX9_joinOf 3 (some .int)) (rmk 1) D ca ad PL Z A [.ref (ad 9 0), .int x1, .int x2] w w' (some (.int r)) := by
  refine Met.ofW (cc := cX9_joinOf) (maxL := 3) (ret := (some .int)) (by decide +kernel) rfl ?_
  intro p e s m args below meth c s₁ B hml hv
  obtain ⟨rfl, hP, hK, hZ⟩ := hv
  have hx := B.exec
  have hb := B.bytes
  have hr := B.returns
  have hlocks := B.notSynchronized
  have hts : ∀ w ∈ ALL, w.before _ s = true := fun w hw => atoms_spec (ws := wsy yX9_joinOf cX9_joinOf 3 (some .int)) B.pre w (List.mem_cons_of_mem _ hw)
  have hown : s.vm.findClass RX9 = some m.cls := findClass_of_methodNamed B.named
  have C : CX p s m _ c cX9_joinOf RX9 3 D ca Z := ⟨hx, hb, hml, hown, hts, hK, hZ⟩
  have hS : va_S A s.heap s.heap [] := va_S.rf
  have hl := lv_entry ([.ref (ad 9 0), .int x1, .int x2]) (n := 3) (Nat.le_of_ble_eq_true rfl)
  rw [lg_entry_eq]
  generalize (lg_sl ([.ref (ad 9 0), .int x1, .int x2]) ++ List.replicate (3 - (lg_sl ([.ref (ad 9 0), .int x1, .int x2])).length) Slot.unset).toArray = ls at hl ⊢
  have hl : lv_has ls 3 [(0, .ref (ad 9 0)), (1, .int x1), (2, .int x2)] := hl
  show W p l e (rmk 1) s m _ below meth c s.heap [] 0 0 _ _
  have P_f_X9_joinOf_29_s2 : ∀ (w : Mem) (v1 : Int32) (v2 : Int32) (s0 : Int32), f_X9_joinOf_29_s2 N w  v1 v2 s0 = some (w', r) → WP p l e (rmk 1) s m [.ref (ad 9 0), .int x1, .int x2].toArray below meth c D ca ad PL A (MQ below (qcR D ca ad PL Z A w' (some (.int r))) [.ref (ad 9 0), .int x1, .int x2].toArray s 0 0 A) 3 29 [.int s0, .ref (ad 9 0)] [(0, .ref (ad 9 0)), (1, .int v1), (2, .int v2)] w := by
    intro w v1 v2 s0 hf _ _ ls hP hS hl
    unfold f_X9_joinOf_29_s2 at hf
    obtain ⟨z3, q4, hf⟩ := bsp hf
    refine kc_S (As := [.int s0]) (rest := [.ref (ad 9 0)]) hok.2.2 C hP hS hl.1 cw_X9_unless ml_X9_306 (c_X9_unless l D ca ad PL Z A hok N w s0 z3 q4) rfl ⟨rfl, rfl⟩ ⟨Nat.le_of_ble_eq_true rfl, Nat.le_of_ble_eq_true rfl⟩ ⟨Nat.zero_le _, Nat.zero_le _⟩ (Nat.le_of_ble_eq_true rfl) rfl dX9_joinOf_29 (fun H locs hP hS => ?_)
    obtain ⟨z5, q6, hf⟩ := bsp hf
    refine kc_V (ci := 9) (i := 0) (As := [.int z3]) (rest := []) hok.2.2 C hP hS hl.1 (hok.2.1 9 0 (Nat.le_of_ble_eq_true rfl)) rfl rfl cw_X9_isRefused ml_X9_223 (c_X9_isRefused l D ca ad PL Z A hok N w z3 z5.1 z5.2 q6) rfl ⟨rfl, rfl⟩ ⟨Nat.le_of_ble_eq_true rfl, Nat.le_of_ble_eq_true rfl⟩ ⟨Nat.zero_le _, Nat.zero_le _⟩ (Nat.le_of_ble_eq_true rfl) rfl dX9_joinOf_32 (fun H locs hP hS => ?_)
    refine lv_if_eq (tgt := 40) hx hb dX9_joinOf_35 (by decide) (fun c12 => ?_) (fun c12 => ?_)
    · have hf := ifp hf c12
      refine lv_iload_n hx hb dX9_joinOf_40 rfl (lv_at hl 2 rfl) ?_
      refine lv_if_ne (tgt := 53) hx hb dX9_joinOf_41 (by decide) (fun c11 => ?_) (fun c11 => ?_)
      · have hf := ifn hf c11
        refine lv_iload_n hx hb dX9_joinOf_53 rfl (lv_at hl 2 rfl) ?_
        refine lv_iconst (v := (1 : Int32)) hx hb dX9_joinOf_54 (by decide) ?_
        refine lv_icmp_ne (tgt := 67) hx hb dX9_joinOf_55 (by decide) (fun c9 => ?_) (fun c9 => ?_)
        · have hf := ifn hf c9
          refine lv_aload_n hx hb dX9_joinOf_67 rfl (lv_at hl 0 rfl) ?_
          refine gt_9_42 (i := 0) C hP (hok.2.1 9 0 (Nat.le_of_ble_eq_true rfl)) lk_X9_65 dX9_joinOf_68 ?_
          refine lv_iload_n hx hb dX9_joinOf_71 rfl (lv_at hl 1 rfl) ?_
          obtain ⟨b7, hf⟩ := gsp hf
          refine ra_ild (k := 57) (i := 0) (n := 24) (f := (gA z5.1 57 0)) C hP (hok.2.1 57 0 (Nat.le_of_ble_eq_true rfl)) rfl b7 dX9_joinOf_72 ?_
          exact kr_i hok.2.2 C hlocks hr rfl hP hS (congrArg Prod.fst (Option.some.inj hf)) (congrArg Prod.snd (Option.some.inj hf)) dX9_joinOf_73
        · have hf := ifp hf c9
          refine lv_aload_n hx hb dX9_joinOf_58 rfl (lv_at hl 0 rfl) ?_
          refine gt_9_41 (i := 0) C hP (hok.2.1 9 0 (Nat.le_of_ble_eq_true rfl)) lk_X9_62 dX9_joinOf_59 ?_
          refine lv_iload_n hx hb dX9_joinOf_62 rfl (lv_at hl 1 rfl) ?_
          obtain ⟨b8, hf⟩ := gsp hf
          refine ra_ild (k := 56) (i := 0) (n := 24) (f := (gA z5.1 56 0)) C hP (hok.2.1 56 0 (Nat.le_of_ble_eq_true rfl)) rfl b8 dX9_joinOf_63 ?_
          refine lv_goto (tgt := 73) hx hb dX9_joinOf_64 (by decide) ?_
          exact kr_i hok.2.2 C hlocks hr rfl hP hS (congrArg Prod.fst (Option.some.inj hf)) (congrArg Prod.snd (Option.some.inj hf)) dX9_joinOf_73
      · have hf := ifp hf c11
        refine lv_aload_n hx hb dX9_joinOf_44 rfl (lv_at hl 0 rfl) ?_
        refine gt_9_40 (i := 0) C hP (hok.2.1 9 0 (Nat.le_of_ble_eq_true rfl)) lk_X9_59 dX9_joinOf_45 ?_
        refine lv_iload_n hx hb dX9_joinOf_48 rfl (lv_at hl 1 rfl) ?_
        obtain ⟨b10, hf⟩ := gsp hf
        refine ra_ild (k := 55) (i := 0) (n := 24) (f := (gA z5.1 55 0)) C hP (hok.2.1 55 0 (Nat.le_of_ble_eq_true rfl)) rfl b10 dX9_joinOf_49 ?_
        refine lv_goto (tgt := 73) hx hb dX9_joinOf_50 (by decide) ?_
        exact kr_i hok.2.2 C hlocks hr rfl hP hS (congrArg Prod.fst (Option.some.inj hf)) (congrArg Prod.snd (Option.some.inj hf)) dX9_joinOf_73
    · have hf := ifn hf c12
      refine lv_iconst (v := (-1 : Int32)) hx hb dX9_joinOf_38 (by decide) ?_
      exact kr_i hok.2.2 C hlocks hr rfl hP hS (congrArg Prod.fst (Option.some.inj hf)) (congrArg Prod.snd (Option.some.inj hf)) dX9_joinOf_39
  unfold f_X9_joinOf at hf
  -- walk
  refine lv_aload_n hx hb dX9_joinOf_0 rfl (lv_at hl 0 rfl) ?_
  refine lv_iload_n hx hb dX9_joinOf_1 rfl (lv_at hl 1 rfl) ?_
  refine lv_iconst (v := (0 : Int32)) hx hb dX9_joinOf_2 (by decide) ?_
  refine lv_aload_n hx hb dX9_joinOf_3 rfl (lv_at hl 0 rfl) ?_
  refine gt_9_39 (i := 0) C hP (hok.2.1 9 0 (Nat.le_of_ble_eq_true rfl)) lk_X9_259 dX9_joinOf_4 ?_
  refine lv_iconst (v := (1 : Int32)) hx hb dX9_joinOf_7 (by decide) ?_
  refine lv_isub hx hb dX9_joinOf_8 ?_
  obtain ⟨z1, q2, hf⟩ := bsp hf
  refine kc_S (As := [.int x1, .int (0 : Int32), .int ((gF w 9 39 0) - (1 : Int32))]) (rest := [.ref (ad 9 0)]) hok.2.2 C hP hS hl.1 cw_X9_in ml_X9_132 (c_X9_in l D ca ad PL Z A hok N w x1 (0 : Int32) ((gF w 9 39 0) - (1 : Int32)) z1 q2) rfl ⟨rfl, rfl⟩ ⟨Nat.le_of_ble_eq_true rfl, Nat.le_of_ble_eq_true rfl⟩ ⟨Nat.zero_le _, Nat.zero_le _⟩ (Nat.le_of_ble_eq_true rfl) rfl dX9_joinOf_9 (fun H locs hP hS => ?_)
  refine lv_if_eq (tgt := 28) hx hb dX9_joinOf_12 (by decide) (fun c16 => ?_) (fun c16 => ?_)
  · have hf := ifp hf c16
    refine lv_iconst (v := (0 : Int32)) hx hb dX9_joinOf_28 (by decide) ?_
    exact P_f_X9_joinOf_29_s2 w x1 x2 (0 : Int32) hf _ _ ls hP hS (lv_sub hl [0, 1, 2] rfl)
  · have hf := ifn hf c16
    refine lv_iload_n hx hb dX9_joinOf_15 rfl (lv_at hl 2 rfl) ?_
    refine lv_iconst (v := (0 : Int32)) hx hb dX9_joinOf_16 (by decide) ?_
    refine lv_iconst (v := (2 : Int32)) hx hb dX9_joinOf_17 (by decide) ?_
    obtain ⟨z13, q14, hf⟩ := bsp hf
    refine kc_S (As := [.int x2, .int (0 : Int32), .int (2 : Int32)]) (rest := [.ref (ad 9 0)]) hok.2.2 C hP hS hl.1 cw_X9_in ml_X9_132 (c_X9_in l D ca ad PL Z A hok N w x2 (0 : Int32) (2 : Int32) z13 q14) rfl ⟨rfl, rfl⟩ ⟨Nat.le_of_ble_eq_true rfl, Nat.le_of_ble_eq_true rfl⟩ ⟨Nat.zero_le _, Nat.zero_le _⟩ (Nat.le_of_ble_eq_true rfl) rfl dX9_joinOf_18 (fun H locs hP hS => ?_)
    refine lv_if_eq (tgt := 28) hx hb dX9_joinOf_21 (by decide) (fun c15 => ?_) (fun c15 => ?_)
    · have hf := ifp hf c15
      refine lv_iconst (v := (0 : Int32)) hx hb dX9_joinOf_28 (by decide) ?_
      exact P_f_X9_joinOf_29_s2 w x1 x2 (0 : Int32) hf _ _ ls hP hS (lv_sub hl [0, 1, 2] rfl)
    · have hf := ifn hf c15
      refine lv_iconst (v := (1 : Int32)) hx hb dX9_joinOf_24 (by decide) ?_
      refine lv_goto (tgt := 29) hx hb dX9_joinOf_25 (by decide) ?_
      exact P_f_X9_joinOf_29_s2 w x1 x2 (1 : Int32) hf _ _ ls hP hS (lv_sub hl [0, 1, 2] rfl)
def f_X9_equal_22_s2 (N : Nat) (w : Mem)  (v1 : Int32) (v2 : Int32) (s0 : Int32) : Option (Mem × Int32) :=
  (Option.bind (f_X9_unless N w s0) (fun z3 => (Option.bind (f_X9_isRefused N w z3) (fun z5 => (if z5.2 = (0 : Int32) then
(if inb v1 24 = true then (if inb v2 24 = true then (if (gA z5.1 52 0 v1.toNatClampNeg) = (gA z5.1 52 0 v2.toNatClampNeg) then
some (z5.1, (1 : Int32))
else
some (z5.1, (0 : Int32))) else none) else none)
else
some (z5.1, (-1 : Int32)))))))
def f_X9_equal (N : Nat) (w : Mem) (x1 : Int32) (x2 : Int32) : Option (Mem × Int32) :=
  (Option.bind (f_X9_isTerm N w x1) (fun z1 => (if z1 = (0 : Int32) then
(f_X9_equal_22_s2 N w  x1 x2 (0 : Int32))
else
(Option.bind (f_X9_isTerm N w x2) (fun z11 => (if z11 = (0 : Int32) then
(f_X9_equal_22_s2 N w  x1 x2 (0 : Int32))
else
(f_X9_equal_22_s2 N w  x1 x2 (1 : Int32))))))))
set_option maxRecDepth 100000 in
set_option maxHeartbeats 4000000 in
theorem c_X9_equal (l : Launch) (D : va_G) (ca : Nat → ClassId) (ad : Nat → Nat → Nat) (PL : List (Nat × Nat)) (Z : State → Prop) (A : Nat → Prop) (hok : okc bM Z A ad PL) (N : Nat) (w : Mem) (x1 : Int32) (x2 : Int32) (w' : Mem) (r : Int32) (hf : f_X9_equal N w x1 x2 = some (w', r)) : CT l yX9_equal (wsy yX9_equal cX9_equal 3 (some .int)) (rmk 2) D ca ad PL Z A [.ref (ad 9 0), .int x1, .int x2] w w' (some (.int r)) := by
  refine Met.ofW (cc := cX9_equal) (maxL := 3) (ret := (some .int)) (by decide +kernel) rfl ?_
  intro p e s m args below meth c s₁ B hml hv
  obtain ⟨rfl, hP, hK, hZ⟩ := hv
  have hx := B.exec
  have hb := B.bytes
  have hr := B.returns
  have hlocks := B.notSynchronized
  have hts : ∀ w ∈ ALL, w.before _ s = true := fun w hw => atoms_spec (ws := wsy yX9_equal cX9_equal 3 (some .int)) B.pre w (List.mem_cons_of_mem _ hw)
  have hown : s.vm.findClass RX9 = some m.cls := findClass_of_methodNamed B.named
  have C : CX p s m _ c cX9_equal RX9 3 D ca Z := ⟨hx, hb, hml, hown, hts, hK, hZ⟩
  have hS : va_S A s.heap s.heap [] := va_S.rf
  have hl := lv_entry ([.ref (ad 9 0), .int x1, .int x2]) (n := 3) (Nat.le_of_ble_eq_true rfl)
  rw [lg_entry_eq]
  generalize (lg_sl ([.ref (ad 9 0), .int x1, .int x2]) ++ List.replicate (3 - (lg_sl ([.ref (ad 9 0), .int x1, .int x2])).length) Slot.unset).toArray = ls at hl ⊢
  have hl : lv_has ls 3 [(0, .ref (ad 9 0)), (1, .int x1), (2, .int x2)] := hl
  show W p l e (rmk 2) s m _ below meth c s.heap [] 0 0 _ _
  have P_f_X9_equal_22_s2 : ∀ (w : Mem) (v1 : Int32) (v2 : Int32) (s0 : Int32), f_X9_equal_22_s2 N w  v1 v2 s0 = some (w', r) → WP p l e (rmk 2) s m [.ref (ad 9 0), .int x1, .int x2].toArray below meth c D ca ad PL A (MQ below (qcR D ca ad PL Z A w' (some (.int r))) [.ref (ad 9 0), .int x1, .int x2].toArray s 0 0 A) 3 22 [.int s0, .ref (ad 9 0)] [(0, .ref (ad 9 0)), (1, .int v1), (2, .int v2)] w := by
    intro w v1 v2 s0 hf _ _ ls hP hS hl
    unfold f_X9_equal_22_s2 at hf
    obtain ⟨z3, q4, hf⟩ := bsp hf
    refine kc_S (As := [.int s0]) (rest := [.ref (ad 9 0)]) hok.2.2 C hP hS hl.1 cw_X9_unless ml_X9_306 (c_X9_unless l D ca ad PL Z A hok N w s0 z3 q4) rfl ⟨rfl, rfl⟩ ⟨Nat.le_of_ble_eq_true rfl, Nat.le_of_ble_eq_true rfl⟩ ⟨Nat.zero_le _, Nat.zero_le _⟩ (Nat.le_of_ble_eq_true rfl) rfl dX9_equal_22 (fun H locs hP hS => ?_)
    obtain ⟨z5, q6, hf⟩ := bsp hf
    refine kc_V (ci := 9) (i := 0) (As := [.int z3]) (rest := []) hok.2.2 C hP hS hl.1 (hok.2.1 9 0 (Nat.le_of_ble_eq_true rfl)) rfl rfl cw_X9_isRefused ml_X9_223 (c_X9_isRefused l D ca ad PL Z A hok N w z3 z5.1 z5.2 q6) rfl ⟨rfl, rfl⟩ ⟨Nat.le_of_ble_eq_true rfl, Nat.le_of_ble_eq_true rfl⟩ ⟨Nat.zero_le _, Nat.zero_le _⟩ (Nat.le_of_ble_eq_true rfl) rfl dX9_equal_25 (fun H locs hP hS => ?_)
    refine lv_if_eq (tgt := 33) hx hb dX9_equal_28 (by decide) (fun c10 => ?_) (fun c10 => ?_)
    · have hf := ifp hf c10
      refine lv_aload_n hx hb dX9_equal_33 rfl (lv_at hl 0 rfl) ?_
      refine gt_9_36 (i := 0) C hP (hok.2.1 9 0 (Nat.le_of_ble_eq_true rfl)) lk_X9_50 dX9_equal_34 ?_
      refine lv_iload_n hx hb dX9_equal_37 rfl (lv_at hl 1 rfl) ?_
      obtain ⟨b7, hf⟩ := gsp hf
      refine ra_ild (k := 52) (i := 0) (n := 24) (f := (gA z5.1 52 0)) C hP (hok.2.1 52 0 (Nat.le_of_ble_eq_true rfl)) rfl b7 dX9_equal_38 ?_
      refine lv_aload_n hx hb dX9_equal_39 rfl (lv_at hl 0 rfl) ?_
      refine gt_9_36 (i := 0) C hP (hok.2.1 9 0 (Nat.le_of_ble_eq_true rfl)) lk_X9_50 dX9_equal_40 ?_
      refine lv_iload_n hx hb dX9_equal_43 rfl (lv_at hl 2 rfl) ?_
      obtain ⟨b8, hf⟩ := gsp hf
      refine ra_ild (k := 52) (i := 0) (n := 24) (f := (gA z5.1 52 0)) C hP (hok.2.1 52 0 (Nat.le_of_ble_eq_true rfl)) rfl b8 dX9_equal_44 ?_
      refine lv_icmp_ne (tgt := 52) hx hb dX9_equal_45 (by decide) (fun c9 => ?_) (fun c9 => ?_)
      · have hf := ifn hf c9
        refine lv_iconst (v := (0 : Int32)) hx hb dX9_equal_52 (by decide) ?_
        exact kr_i hok.2.2 C hlocks hr rfl hP hS (congrArg Prod.fst (Option.some.inj hf)) (congrArg Prod.snd (Option.some.inj hf)) dX9_equal_53
      · have hf := ifp hf c9
        refine lv_iconst (v := (1 : Int32)) hx hb dX9_equal_48 (by decide) ?_
        refine lv_goto (tgt := 53) hx hb dX9_equal_49 (by decide) ?_
        exact kr_i hok.2.2 C hlocks hr rfl hP hS (congrArg Prod.fst (Option.some.inj hf)) (congrArg Prod.snd (Option.some.inj hf)) dX9_equal_53
    · have hf := ifn hf c10
      refine lv_iconst (v := (-1 : Int32)) hx hb dX9_equal_31 (by decide) ?_
      exact kr_i hok.2.2 C hlocks hr rfl hP hS (congrArg Prod.fst (Option.some.inj hf)) (congrArg Prod.snd (Option.some.inj hf)) dX9_equal_32
  unfold f_X9_equal at hf
  -- walk
  refine lv_aload_n hx hb dX9_equal_0 rfl (lv_at hl 0 rfl) ?_
  refine lv_aload_n hx hb dX9_equal_1 rfl (lv_at hl 0 rfl) ?_
  refine lv_iload_n hx hb dX9_equal_2 rfl (lv_at hl 1 rfl) ?_
  obtain ⟨z1, q2, hf⟩ := bsp hf
  refine kc_V (ci := 9) (i := 0) (As := [.int x1]) (rest := [.ref (ad 9 0)]) hok.2.2 C hP hS hl.1 (hok.2.1 9 0 (Nat.le_of_ble_eq_true rfl)) rfl rfl cw_X9_isTerm ml_X9_317 (c_X9_isTerm l D ca ad PL Z A hok N w x1 z1 q2) rfl ⟨rfl, rfl⟩ ⟨Nat.le_of_ble_eq_true rfl, Nat.le_of_ble_eq_true rfl⟩ ⟨Nat.zero_le _, Nat.zero_le _⟩ (Nat.le_of_ble_eq_true rfl) rfl dX9_equal_3 (fun H locs hP hS => ?_)
  refine lv_if_eq (tgt := 21) hx hb dX9_equal_6 (by decide) (fun c14 => ?_) (fun c14 => ?_)
  · have hf := ifp hf c14
    refine lv_iconst (v := (0 : Int32)) hx hb dX9_equal_21 (by decide) ?_
    exact P_f_X9_equal_22_s2 w x1 x2 (0 : Int32) hf _ _ ls hP hS (lv_sub hl [0, 1, 2] rfl)
  · have hf := ifn hf c14
    refine lv_aload_n hx hb dX9_equal_9 rfl (lv_at hl 0 rfl) ?_
    refine lv_iload_n hx hb dX9_equal_10 rfl (lv_at hl 2 rfl) ?_
    obtain ⟨z11, q12, hf⟩ := bsp hf
    refine kc_V (ci := 9) (i := 0) (As := [.int x2]) (rest := [.ref (ad 9 0)]) hok.2.2 C hP hS hl.1 (hok.2.1 9 0 (Nat.le_of_ble_eq_true rfl)) rfl rfl cw_X9_isTerm ml_X9_317 (c_X9_isTerm l D ca ad PL Z A hok N w x2 z11 q12) rfl ⟨rfl, rfl⟩ ⟨Nat.le_of_ble_eq_true rfl, Nat.le_of_ble_eq_true rfl⟩ ⟨Nat.zero_le _, Nat.zero_le _⟩ (Nat.le_of_ble_eq_true rfl) rfl dX9_equal_11 (fun H locs hP hS => ?_)
    refine lv_if_eq (tgt := 21) hx hb dX9_equal_14 (by decide) (fun c13 => ?_) (fun c13 => ?_)
    · have hf := ifp hf c13
      refine lv_iconst (v := (0 : Int32)) hx hb dX9_equal_21 (by decide) ?_
      exact P_f_X9_equal_22_s2 w x1 x2 (0 : Int32) hf _ _ ls hP hS (lv_sub hl [0, 1, 2] rfl)
    · have hf := ifn hf c13
      refine lv_iconst (v := (1 : Int32)) hx hb dX9_equal_17 (by decide) ?_
      refine lv_goto (tgt := 22) hx hb dX9_equal_18 (by decide) ?_
      exact P_f_X9_equal_22_s2 w x1 x2 (1 : Int32) hf _ _ ls hP hS (lv_sub hl [0, 1, 2] rfl)
def f_X9_apart_121 (N : Nat) (w : Mem)  : Option (Mem × Int32) :=
  some (w, (0 : Int32))
def f_X9_apart_91_35 (rc : Int32 → Option (Mem × Int32)) (k : Option (Mem × Int32)) (N : Nat) (w : Mem)  (v1 : Int32) (v2 : Int32) (v3 : Int32) (v4 : Int32) (v5 : Int32) : Option (Mem × Int32) :=
  (if inb v2 24 = true then (if v4 = (gA w 52 0 v2.toNatClampNeg) then
(if inb v1 24 = true then (if v5 = (gA w 52 0 v1.toNatClampNeg) then
some (w, (1 : Int32))
else
(rc (v3 + (1 : Int32)))) else none)
else
(rc (v3 + (1 : Int32)))) else none)
def lp_X9_apart_35 (k : Option (Mem × Int32)) (N : Nat) (w : Mem)  (v1 : Int32) (v2 : Int32) : Nat → Int32 → Option (Mem × Int32)
  | 0, _ => none
  | n + 1, v3 => (if (gF w 9 33 0) ≤ v3 then
(k )
else
(if inb v3 8 = true then (if inb (gA w 50 0 v3.toNatClampNeg) 24 = true then (if inb (gA w 51 0 v3.toNatClampNeg) 24 = true then (if inb v1 24 = true then (if (gA w 52 0 (gA w 50 0 v3.toNatClampNeg).toNatClampNeg) = (gA w 52 0 v1.toNatClampNeg) then
(if inb v2 24 = true then (if (gA w 52 0 (gA w 51 0 v3.toNatClampNeg).toNatClampNeg) = (gA w 52 0 v2.toNatClampNeg) then
some (w, (1 : Int32))
else
(f_X9_apart_91_35 (fun (v3 : Int32) => lp_X9_apart_35 k N w  v1 v2 n v3) k N w  v1 v2 v3 (gA w 52 0 (gA w 50 0 v3.toNatClampNeg).toNatClampNeg) (gA w 52 0 (gA w 51 0 v3.toNatClampNeg).toNatClampNeg) )) else none)
else
(f_X9_apart_91_35 (fun (v3 : Int32) => lp_X9_apart_35 k N w  v1 v2 n v3) k N w  v1 v2 v3 (gA w 52 0 (gA w 50 0 v3.toNatClampNeg).toNatClampNeg) (gA w 52 0 (gA w 51 0 v3.toNatClampNeg).toNatClampNeg) )) else none) else none) else none) else none))
def f_X9_apart (N : Nat) (w : Mem) (x1 : Int32) (x2 : Int32) : Option (Mem × Int32) :=
  (Option.bind (f_X9_isTerm N w x1) (fun z1 => (if z1 = (0 : Int32) then
(Option.bind (f_X9_unless N w (0 : Int32)) (fun z3 => (Option.bind (f_X9_isRefused N w z3) (fun z5 => (if z5.2 = (0 : Int32) then
(lp_X9_apart_35 (f_X9_apart_121 N z5.1   ) N z5.1  x1 x2 N (0 : Int32))
else
some (z5.1, (-1 : Int32)))))))
else
(Option.bind (f_X9_isTerm N w x2) (fun z21 => (if z21 = (0 : Int32) then
(Option.bind (f_X9_unless N w (0 : Int32)) (fun z23 => (Option.bind (f_X9_isRefused N w z23) (fun z25 => (if z25.2 = (0 : Int32) then
(lp_X9_apart_35 (f_X9_apart_121 N z25.1   ) N z25.1  x1 x2 N (0 : Int32))
else
some (z25.1, (-1 : Int32)))))))
else
(Option.bind (f_X9_unless N w (1 : Int32)) (fun z29 => (Option.bind (f_X9_isRefused N w z29) (fun z31 => (if z31.2 = (0 : Int32) then
(lp_X9_apart_35 (f_X9_apart_121 N z31.1   ) N z31.1  x1 x2 N (0 : Int32))
else
some (z31.1, (-1 : Int32)))))))))))))
set_option maxRecDepth 100000 in
set_option maxHeartbeats 4000000 in
theorem c_X9_apart (l : Launch) (D : va_G) (ca : Nat → ClassId) (ad : Nat → Nat → Nat) (PL : List (Nat × Nat)) (Z : State → Prop) (A : Nat → Prop) (hok : okc bM Z A ad PL) (N : Nat) (w : Mem) (x1 : Int32) (x2 : Int32) (w' : Mem) (r : Int32) (hf : f_X9_apart N w x1 x2 = some (w', r)) : CT l yX9_apart (wsy yX9_apart cX9_apart 6 (some .int)) (rmk 2) D ca ad PL Z A [.ref (ad 9 0), .int x1, .int x2] w w' (some (.int r)) := by
  refine Met.ofW (cc := cX9_apart) (maxL := 6) (ret := (some .int)) (by decide +kernel) rfl ?_
  intro p e s m args below meth c s₁ B hml hv
  obtain ⟨rfl, hP, hK, hZ⟩ := hv
  have hx := B.exec
  have hb := B.bytes
  have hr := B.returns
  have hlocks := B.notSynchronized
  have hts : ∀ w ∈ ALL, w.before _ s = true := fun w hw => atoms_spec (ws := wsy yX9_apart cX9_apart 6 (some .int)) B.pre w (List.mem_cons_of_mem _ hw)
  have hown : s.vm.findClass RX9 = some m.cls := findClass_of_methodNamed B.named
  have C : CX p s m _ c cX9_apart RX9 6 D ca Z := ⟨hx, hb, hml, hown, hts, hK, hZ⟩
  have hS : va_S A s.heap s.heap [] := va_S.rf
  have hl := lv_entry ([.ref (ad 9 0), .int x1, .int x2]) (n := 6) (Nat.le_of_ble_eq_true rfl)
  rw [lg_entry_eq]
  generalize (lg_sl ([.ref (ad 9 0), .int x1, .int x2]) ++ List.replicate (6 - (lg_sl ([.ref (ad 9 0), .int x1, .int x2])).length) Slot.unset).toArray = ls at hl ⊢
  have hl : lv_has ls 6 [(0, .ref (ad 9 0)), (1, .int x1), (2, .int x2)] := hl
  show W p l e (rmk 2) s m _ below meth c s.heap [] 0 0 _ _
  have P_f_X9_apart_121 : ∀ (w : Mem), f_X9_apart_121 N w    = some (w', r) → WP p l e (rmk 2) s m [.ref (ad 9 0), .int x1, .int x2].toArray below meth c D ca ad PL A (MQ below (qcR D ca ad PL Z A w' (some (.int r))) [.ref (ad 9 0), .int x1, .int x2].toArray s 0 0 A) 6 121 [] [] w := by
    intro w hf _ _ ls hP hS hl
    unfold f_X9_apart_121 at hf
    refine lv_iconst (v := (0 : Int32)) hx hb dX9_apart_121 (by decide) ?_
    exact kr_i hok.2.2 C hlocks hr rfl hP hS (congrArg Prod.fst (Option.some.inj hf)) (congrArg Prod.snd (Option.some.inj hf)) dX9_apart_122
  have P_f_X9_apart_91_35 : ∀ (w : Mem) (v1 : Int32) (v2 : Int32) (rc : Int32 → Option (Mem × Int32)) (hrc : ∀ (v3 : Int32), rc v3 = some (w', r) → WP p l e (rmk 2) s m [.ref (ad 9 0), .int x1, .int x2].toArray below meth c D ca ad PL A (MQ below (qcR D ca ad PL Z A w' (some (.int r))) [.ref (ad 9 0), .int x1, .int x2].toArray s 0 0 A) 6 35 [] [(0, .ref (ad 9 0)), (1, .int v1), (2, .int v2), (3, .int v3)] w) (k : Option (Mem × Int32)) (hk : k = some (w', r) → WP p l e (rmk 2) s m [.ref (ad 9 0), .int x1, .int x2].toArray below meth c D ca ad PL A (MQ below (qcR D ca ad PL Z A w' (some (.int r))) [.ref (ad 9 0), .int x1, .int x2].toArray s 0 0 A) 6 121 [] [] w) (v3 : Int32) (v4 : Int32) (v5 : Int32), f_X9_apart_91_35 rc k N w  v1 v2 v3 v4 v5  = some (w', r) → WP p l e (rmk 2) s m [.ref (ad 9 0), .int x1, .int x2].toArray below meth c D ca ad PL A (MQ below (qcR D ca ad PL Z A w' (some (.int r))) [.ref (ad 9 0), .int x1, .int x2].toArray s 0 0 A) 6 91 [] [(0, .ref (ad 9 0)), (1, .int v1), (2, .int v2), (3, .int v3), (4, .int v4), (5, .int v5)] w := by
    intro w v1 v2 rc hrc k hk v3 v4 v5 hf _ _ ls hP hS hl
    unfold f_X9_apart_91_35 at hf
    refine lv_iload hx hb dX9_apart_91 (lv_at hl 4 rfl) ?_
    refine lv_aload_n hx hb dX9_apart_93 rfl (lv_at hl 0 rfl) ?_
    refine gt_9_36 (i := 0) C hP (hok.2.1 9 0 (Nat.le_of_ble_eq_true rfl)) lk_X9_50 dX9_apart_94 ?_
    refine lv_iload_n hx hb dX9_apart_97 rfl (lv_at hl 2 rfl) ?_
    obtain ⟨b12, hf⟩ := gsp hf
    refine ra_ild (k := 52) (i := 0) (n := 24) (f := (gA w 52 0)) C hP (hok.2.1 52 0 (Nat.le_of_ble_eq_true rfl)) rfl b12 dX9_apart_98 ?_
    refine lv_icmp_ne (tgt := 115) hx hb dX9_apart_99 (by decide) (fun c15 => ?_) (fun c15 => ?_)
    · have hf := ifn hf c15
      refine lv_iinc (v := (v3 + (1 : Int32))) (lv' := [(3, .int (v3 + (1 : Int32))), (0, .ref (ad 9 0)), (1, .int v1), (2, .int v2), (4, .int v4), (5, .int v5)]) hx hb dX9_apart_115 hl (k := 3) rfl rfl (by decide) rfl (fun ls hl => ?_)
      refine lv_goto (tgt := 35) hx hb dX9_apart_118 (by decide) ?_
      exact hrc (v3 + (1 : Int32)) hf _ _ ls hP hS (lv_sub hl [1, 2, 3, 0] rfl)
    · have hf := ifp hf c15
      refine lv_iload hx hb dX9_apart_102 (lv_at hl 5 rfl) ?_
      refine lv_aload_n hx hb dX9_apart_104 rfl (lv_at hl 0 rfl) ?_
      refine gt_9_36 (i := 0) C hP (hok.2.1 9 0 (Nat.le_of_ble_eq_true rfl)) lk_X9_50 dX9_apart_105 ?_
      refine lv_iload_n hx hb dX9_apart_108 rfl (lv_at hl 1 rfl) ?_
      obtain ⟨b13, hf⟩ := gsp hf
      refine ra_ild (k := 52) (i := 0) (n := 24) (f := (gA w 52 0)) C hP (hok.2.1 52 0 (Nat.le_of_ble_eq_true rfl)) rfl b13 dX9_apart_109 ?_
      refine lv_icmp_ne (tgt := 115) hx hb dX9_apart_110 (by decide) (fun c14 => ?_) (fun c14 => ?_)
      · have hf := ifn hf c14
        refine lv_iinc (v := (v3 + (1 : Int32))) (lv' := [(3, .int (v3 + (1 : Int32))), (0, .ref (ad 9 0)), (1, .int v1), (2, .int v2), (4, .int v4), (5, .int v5)]) hx hb dX9_apart_115 hl (k := 3) rfl rfl (by decide) rfl (fun ls hl => ?_)
        refine lv_goto (tgt := 35) hx hb dX9_apart_118 (by decide) ?_
        exact hrc (v3 + (1 : Int32)) hf _ _ ls hP hS (lv_sub hl [1, 2, 3, 0] rfl)
      · have hf := ifp hf c14
        refine lv_iconst (v := (1 : Int32)) hx hb dX9_apart_113 (by decide) ?_
        exact kr_i hok.2.2 C hlocks hr rfl hP hS (congrArg Prod.fst (Option.some.inj hf)) (congrArg Prod.snd (Option.some.inj hf)) dX9_apart_114
  have L_lp_X9_apart_35 : ∀ (w : Mem) (v1 : Int32) (v2 : Int32) (k : Option (Mem × Int32)) (hk : k = some (w', r) → WP p l e (rmk 2) s m [.ref (ad 9 0), .int x1, .int x2].toArray below meth c D ca ad PL A (MQ below (qcR D ca ad PL Z A w' (some (.int r))) [.ref (ad 9 0), .int x1, .int x2].toArray s 0 0 A) 6 121 [] [] w) (n : Nat) (v3 : Int32), lp_X9_apart_35 k N w  v1 v2 n v3 = some (w', r) → WP p l e (rmk 2) s m [.ref (ad 9 0), .int x1, .int x2].toArray below meth c D ca ad PL A (MQ below (qcR D ca ad PL Z A w' (some (.int r))) [.ref (ad 9 0), .int x1, .int x2].toArray s 0 0 A) 6 35 [] [(0, .ref (ad 9 0)), (1, .int v1), (2, .int v2), (3, .int v3)] w := by
    intro w v1 v2 k hk n
    induction n with
    | zero => intro v3 hf; rw [lp_X9_apart_35] at hf; cases hf
    | succ n ih =>
      intro v3 hf _ _ ls hP hS hl
      rw [lp_X9_apart_35] at hf
      refine lv_iload_n hx hb dX9_apart_35 rfl (lv_at hl 3 rfl) ?_
      refine lv_aload_n hx hb dX9_apart_36 rfl (lv_at hl 0 rfl) ?_
      refine gt_9_33 (i := 0) C hP (hok.2.1 9 0 (Nat.le_of_ble_eq_true rfl)) lk_X9_297 dX9_apart_37 ?_
      refine lv_icmp_ge (tgt := 121) hx hb dX9_apart_40 (by decide) (fun c19 => ?_) (fun c19 => ?_)
      · have hf := ifp hf c19
        exact hk  hf _ _ ls hP hS (lv_sub hl [] rfl)
      · have hf := ifn hf c19
        refine lv_aload_n hx hb dX9_apart_43 rfl (lv_at hl 0 rfl) ?_
        refine gt_9_36 (i := 0) C hP (hok.2.1 9 0 (Nat.le_of_ble_eq_true rfl)) lk_X9_50 dX9_apart_44 ?_
        refine lv_aload_n hx hb dX9_apart_47 rfl (lv_at hl 0 rfl) ?_
        refine gt_9_34 (i := 0) C hP (hok.2.1 9 0 (Nat.le_of_ble_eq_true rfl)) lk_X9_44 dX9_apart_48 ?_
        refine lv_iload_n hx hb dX9_apart_51 rfl (lv_at hl 3 rfl) ?_
        obtain ⟨b8, hf⟩ := gsp hf
        refine ra_ild (k := 50) (i := 0) (n := 8) (f := (gA w 50 0)) C hP (hok.2.1 50 0 (Nat.le_of_ble_eq_true rfl)) rfl b8 dX9_apart_52 ?_
        obtain ⟨b9, hf⟩ := gsp hf
        refine ra_ild (k := 52) (i := 0) (n := 24) (f := (gA w 52 0)) C hP (hok.2.1 52 0 (Nat.le_of_ble_eq_true rfl)) rfl b9 dX9_apart_53 ?_
        refine lv_istore (lv' := [(4, .int (gA w 52 0 (gA w 50 0 v3.toNatClampNeg).toNatClampNeg)), (0, .ref (ad 9 0)), (1, .int v1), (2, .int v2), (3, .int v3)]) hx hb dX9_apart_54 hl (by decide) rfl (fun ls hl => ?_)
        refine lv_aload_n hx hb dX9_apart_56 rfl (lv_at hl 1 rfl) ?_
        refine gt_9_36 (i := 0) C hP (hok.2.1 9 0 (Nat.le_of_ble_eq_true rfl)) lk_X9_50 dX9_apart_57 ?_
        refine lv_aload_n hx hb dX9_apart_60 rfl (lv_at hl 1 rfl) ?_
        refine gt_9_35 (i := 0) C hP (hok.2.1 9 0 (Nat.le_of_ble_eq_true rfl)) lk_X9_47 dX9_apart_61 ?_
        refine lv_iload_n hx hb dX9_apart_64 rfl (lv_at hl 4 rfl) ?_
        refine ra_ild (k := 51) (i := 0) (n := 8) (f := (gA w 51 0)) C hP (hok.2.1 51 0 (Nat.le_of_ble_eq_true rfl)) rfl b8 dX9_apart_65 ?_
        obtain ⟨b10, hf⟩ := gsp hf
        refine ra_ild (k := 52) (i := 0) (n := 24) (f := (gA w 52 0)) C hP (hok.2.1 52 0 (Nat.le_of_ble_eq_true rfl)) rfl b10 dX9_apart_66 ?_
        refine lv_istore (lv' := [(5, .int (gA w 52 0 (gA w 51 0 v3.toNatClampNeg).toNatClampNeg)), (4, .int (gA w 52 0 (gA w 50 0 v3.toNatClampNeg).toNatClampNeg)), (0, .ref (ad 9 0)), (1, .int v1), (2, .int v2), (3, .int v3)]) hx hb dX9_apart_67 hl (by decide) rfl (fun ls hl => ?_)
        refine lv_iload hx hb dX9_apart_69 (lv_at hl 1 rfl) ?_
        refine lv_aload_n hx hb dX9_apart_71 rfl (lv_at hl 2 rfl) ?_
        refine gt_9_36 (i := 0) C hP (hok.2.1 9 0 (Nat.le_of_ble_eq_true rfl)) lk_X9_50 dX9_apart_72 ?_
        refine lv_iload_n hx hb dX9_apart_75 rfl (lv_at hl 3 rfl) ?_
        obtain ⟨b11, hf⟩ := gsp hf
        refine ra_ild (k := 52) (i := 0) (n := 24) (f := (gA w 52 0)) C hP (hok.2.1 52 0 (Nat.le_of_ble_eq_true rfl)) rfl b11 dX9_apart_76 ?_
        refine lv_icmp_ne (tgt := 91) hx hb dX9_apart_77 (by decide) (fun c18 => ?_) (fun c18 => ?_)
        · have hf := ifn hf c18
          exact P_f_X9_apart_91_35 w v1 v2 _ ih _ hk v3 (gA w 52 0 (gA w 50 0 v3.toNatClampNeg).toNatClampNeg) (gA w 52 0 (gA w 51 0 v3.toNatClampNeg).toNatClampNeg) hf _ _ ls hP hS (lv_sub hl [2, 3, 4, 5, 1, 0] rfl)
        · have hf := ifp hf c18
          refine lv_iload hx hb dX9_apart_80 (lv_at hl 0 rfl) ?_
          refine lv_aload_n hx hb dX9_apart_82 rfl (lv_at hl 2 rfl) ?_
          refine gt_9_36 (i := 0) C hP (hok.2.1 9 0 (Nat.le_of_ble_eq_true rfl)) lk_X9_50 dX9_apart_83 ?_
          refine lv_iload_n hx hb dX9_apart_86 rfl (lv_at hl 4 rfl) ?_
          obtain ⟨b16, hf⟩ := gsp hf
          refine ra_ild (k := 52) (i := 0) (n := 24) (f := (gA w 52 0)) C hP (hok.2.1 52 0 (Nat.le_of_ble_eq_true rfl)) rfl b16 dX9_apart_87 ?_
          refine lv_icmp_eq (tgt := 113) hx hb dX9_apart_88 (by decide) (fun c17 => ?_) (fun c17 => ?_)
          · have hf := ifp hf c17
            refine lv_iconst (v := (1 : Int32)) hx hb dX9_apart_113 (by decide) ?_
            exact kr_i hok.2.2 C hlocks hr rfl hP hS (congrArg Prod.fst (Option.some.inj hf)) (congrArg Prod.snd (Option.some.inj hf)) dX9_apart_114
          · have hf := ifn hf c17
            exact P_f_X9_apart_91_35 w v1 v2 _ ih _ hk v3 (gA w 52 0 (gA w 50 0 v3.toNatClampNeg).toNatClampNeg) (gA w 52 0 (gA w 51 0 v3.toNatClampNeg).toNatClampNeg) hf _ _ ls hP hS (lv_sub hl [2, 3, 4, 5, 1, 0] rfl)
  unfold f_X9_apart at hf
  -- walk
  refine lv_aload_n hx hb dX9_apart_0 rfl (lv_at hl 0 rfl) ?_
  refine lv_aload_n hx hb dX9_apart_1 rfl (lv_at hl 0 rfl) ?_
  refine lv_iload_n hx hb dX9_apart_2 rfl (lv_at hl 1 rfl) ?_
  obtain ⟨z1, q2, hf⟩ := bsp hf
  refine kc_V (ci := 9) (i := 0) (As := [.int x1]) (rest := [.ref (ad 9 0)]) hok.2.2 C hP hS hl.1 (hok.2.1 9 0 (Nat.le_of_ble_eq_true rfl)) rfl rfl cw_X9_isTerm ml_X9_317 (c_X9_isTerm l D ca ad PL Z A hok N w x1 z1 q2) rfl ⟨rfl, rfl⟩ ⟨Nat.le_of_ble_eq_true rfl, Nat.le_of_ble_eq_true rfl⟩ ⟨Nat.zero_le _, Nat.zero_le _⟩ (Nat.le_of_ble_eq_true rfl) rfl dX9_apart_3 (fun H locs hP hS => ?_)
  refine lv_if_eq (tgt := 21) hx hb dX9_apart_6 (by decide) (fun c36 => ?_) (fun c36 => ?_)
  · have hf := ifp hf c36
    refine lv_iconst (v := (0 : Int32)) hx hb dX9_apart_21 (by decide) ?_
    obtain ⟨z3, q4, hf⟩ := bsp hf
    refine kc_S (As := [.int (0 : Int32)]) (rest := [.ref (ad 9 0)]) hok.2.2 C hP hS hl.1 cw_X9_unless ml_X9_306 (c_X9_unless l D ca ad PL Z A hok N w (0 : Int32) z3 q4) rfl ⟨rfl, rfl⟩ ⟨Nat.le_of_ble_eq_true rfl, Nat.le_of_ble_eq_true rfl⟩ ⟨Nat.zero_le _, Nat.zero_le _⟩ (Nat.le_of_ble_eq_true rfl) rfl dX9_apart_22 (fun H locs hP hS => ?_)
    obtain ⟨z5, q6, hf⟩ := bsp hf
    refine kc_V (ci := 9) (i := 0) (As := [.int z3]) (rest := []) hok.2.2 C hP hS hl.1 (hok.2.1 9 0 (Nat.le_of_ble_eq_true rfl)) rfl rfl cw_X9_isRefused ml_X9_223 (c_X9_isRefused l D ca ad PL Z A hok N w z3 z5.1 z5.2 q6) rfl ⟨rfl, rfl⟩ ⟨Nat.le_of_ble_eq_true rfl, Nat.le_of_ble_eq_true rfl⟩ ⟨Nat.zero_le _, Nat.zero_le _⟩ (Nat.le_of_ble_eq_true rfl) rfl dX9_apart_25 (fun H locs hP hS => ?_)
    refine lv_if_eq (tgt := 33) hx hb dX9_apart_28 (by decide) (fun c20 => ?_) (fun c20 => ?_)
    · have hf := ifp hf c20
      refine lv_iconst (v := (0 : Int32)) hx hb dX9_apart_33 (by decide) ?_
      refine lv_istore_n (lv' := [(3, .int (0 : Int32)), (0, .ref (ad 9 0)), (1, .int x1), (2, .int x2)]) hx hb dX9_apart_34 rfl hl (by decide) rfl (fun ls hl => ?_)
      exact L_lp_X9_apart_35 z5.1 x1 x2 _ (fun hf H locs ls hP hS hl => P_f_X9_apart_121 z5.1 hf _ _ ls hP hS (lv_sub hl [] rfl)) N (0 : Int32) hf _ _ ls hP hS (lv_sub hl [1, 2, 3, 0] rfl)
    · have hf := ifn hf c20
      refine lv_iconst (v := (-1 : Int32)) hx hb dX9_apart_31 (by decide) ?_
      exact kr_i hok.2.2 C hlocks hr rfl hP hS (congrArg Prod.fst (Option.some.inj hf)) (congrArg Prod.snd (Option.some.inj hf)) dX9_apart_32
  · have hf := ifn hf c36
    refine lv_aload_n hx hb dX9_apart_9 rfl (lv_at hl 0 rfl) ?_
    refine lv_iload_n hx hb dX9_apart_10 rfl (lv_at hl 2 rfl) ?_
    obtain ⟨z21, q22, hf⟩ := bsp hf
    refine kc_V (ci := 9) (i := 0) (As := [.int x2]) (rest := [.ref (ad 9 0)]) hok.2.2 C hP hS hl.1 (hok.2.1 9 0 (Nat.le_of_ble_eq_true rfl)) rfl rfl cw_X9_isTerm ml_X9_317 (c_X9_isTerm l D ca ad PL Z A hok N w x2 z21 q22) rfl ⟨rfl, rfl⟩ ⟨Nat.le_of_ble_eq_true rfl, Nat.le_of_ble_eq_true rfl⟩ ⟨Nat.zero_le _, Nat.zero_le _⟩ (Nat.le_of_ble_eq_true rfl) rfl dX9_apart_11 (fun H locs hP hS => ?_)
    refine lv_if_eq (tgt := 21) hx hb dX9_apart_14 (by decide) (fun c35 => ?_) (fun c35 => ?_)
    · have hf := ifp hf c35
      refine lv_iconst (v := (0 : Int32)) hx hb dX9_apart_21 (by decide) ?_
      obtain ⟨z23, q24, hf⟩ := bsp hf
      refine kc_S (As := [.int (0 : Int32)]) (rest := [.ref (ad 9 0)]) hok.2.2 C hP hS hl.1 cw_X9_unless ml_X9_306 (c_X9_unless l D ca ad PL Z A hok N w (0 : Int32) z23 q24) rfl ⟨rfl, rfl⟩ ⟨Nat.le_of_ble_eq_true rfl, Nat.le_of_ble_eq_true rfl⟩ ⟨Nat.zero_le _, Nat.zero_le _⟩ (Nat.le_of_ble_eq_true rfl) rfl dX9_apart_22 (fun H locs hP hS => ?_)
      obtain ⟨z25, q26, hf⟩ := bsp hf
      refine kc_V (ci := 9) (i := 0) (As := [.int z23]) (rest := []) hok.2.2 C hP hS hl.1 (hok.2.1 9 0 (Nat.le_of_ble_eq_true rfl)) rfl rfl cw_X9_isRefused ml_X9_223 (c_X9_isRefused l D ca ad PL Z A hok N w z23 z25.1 z25.2 q26) rfl ⟨rfl, rfl⟩ ⟨Nat.le_of_ble_eq_true rfl, Nat.le_of_ble_eq_true rfl⟩ ⟨Nat.zero_le _, Nat.zero_le _⟩ (Nat.le_of_ble_eq_true rfl) rfl dX9_apart_25 (fun H locs hP hS => ?_)
      refine lv_if_eq (tgt := 33) hx hb dX9_apart_28 (by decide) (fun c28 => ?_) (fun c28 => ?_)
      · have hf := ifp hf c28
        refine lv_iconst (v := (0 : Int32)) hx hb dX9_apart_33 (by decide) ?_
        refine lv_istore_n (lv' := [(3, .int (0 : Int32)), (0, .ref (ad 9 0)), (1, .int x1), (2, .int x2)]) hx hb dX9_apart_34 rfl hl (by decide) rfl (fun ls hl => ?_)
        exact L_lp_X9_apart_35 z25.1 x1 x2 _ (fun hf H locs ls hP hS hl => P_f_X9_apart_121 z25.1 hf _ _ ls hP hS (lv_sub hl [] rfl)) N (0 : Int32) hf _ _ ls hP hS (lv_sub hl [1, 2, 3, 0] rfl)
      · have hf := ifn hf c28
        refine lv_iconst (v := (-1 : Int32)) hx hb dX9_apart_31 (by decide) ?_
        exact kr_i hok.2.2 C hlocks hr rfl hP hS (congrArg Prod.fst (Option.some.inj hf)) (congrArg Prod.snd (Option.some.inj hf)) dX9_apart_32
    · have hf := ifn hf c35
      refine lv_iconst (v := (1 : Int32)) hx hb dX9_apart_17 (by decide) ?_
      refine lv_goto (tgt := 22) hx hb dX9_apart_18 (by decide) ?_
      obtain ⟨z29, q30, hf⟩ := bsp hf
      refine kc_S (As := [.int (1 : Int32)]) (rest := [.ref (ad 9 0)]) hok.2.2 C hP hS hl.1 cw_X9_unless ml_X9_306 (c_X9_unless l D ca ad PL Z A hok N w (1 : Int32) z29 q30) rfl ⟨rfl, rfl⟩ ⟨Nat.le_of_ble_eq_true rfl, Nat.le_of_ble_eq_true rfl⟩ ⟨Nat.zero_le _, Nat.zero_le _⟩ (Nat.le_of_ble_eq_true rfl) rfl dX9_apart_22 (fun H locs hP hS => ?_)
      obtain ⟨z31, q32, hf⟩ := bsp hf
      refine kc_V (ci := 9) (i := 0) (As := [.int z29]) (rest := []) hok.2.2 C hP hS hl.1 (hok.2.1 9 0 (Nat.le_of_ble_eq_true rfl)) rfl rfl cw_X9_isRefused ml_X9_223 (c_X9_isRefused l D ca ad PL Z A hok N w z29 z31.1 z31.2 q32) rfl ⟨rfl, rfl⟩ ⟨Nat.le_of_ble_eq_true rfl, Nat.le_of_ble_eq_true rfl⟩ ⟨Nat.zero_le _, Nat.zero_le _⟩ (Nat.le_of_ble_eq_true rfl) rfl dX9_apart_25 (fun H locs hP hS => ?_)
      refine lv_if_eq (tgt := 33) hx hb dX9_apart_28 (by decide) (fun c34 => ?_) (fun c34 => ?_)
      · have hf := ifp hf c34
        refine lv_iconst (v := (0 : Int32)) hx hb dX9_apart_33 (by decide) ?_
        refine lv_istore_n (lv' := [(3, .int (0 : Int32)), (0, .ref (ad 9 0)), (1, .int x1), (2, .int x2)]) hx hb dX9_apart_34 rfl hl (by decide) rfl (fun ls hl => ?_)
        exact L_lp_X9_apart_35 z31.1 x1 x2 _ (fun hf H locs ls hP hS hl => P_f_X9_apart_121 z31.1 hf _ _ ls hP hS (lv_sub hl [] rfl)) N (0 : Int32) hf _ _ ls hP hS (lv_sub hl [1, 2, 3, 0] rfl)
      · have hf := ifn hf c34
        refine lv_iconst (v := (-1 : Int32)) hx hb dX9_apart_31 (by decide) ?_
        exact kr_i hok.2.2 C hlocks hr rfl hP hS (congrArg Prod.fst (Option.some.inj hf)) (congrArg Prod.snd (Option.some.inj hf)) dX9_apart_32
def f_X9_whyNotOne (N : Nat) (w : Mem) (x1 : Int32) (x2 : Int32) : Option (Int32) :=
  (Option.bind (f_X9_isTerm N w x1) (fun z1 => (if z1 = (0 : Int32) then
some (1 : Int32)
else
(Option.bind (f_X9_isTerm N w x2) (fun z3 => (if z3 = (0 : Int32) then
some (1 : Int32)
else
(if inb x1 24 = true then (if inb x2 24 = true then (if (gA w 52 0 x1.toNatClampNeg) = (gA w 52 0 x2.toNatClampNeg) then
some (0 : Int32)
else
some (5 : Int32)) else none) else none)))))))
set_option maxRecDepth 100000 in
set_option maxHeartbeats 4000000 in
theorem c_X9_whyNotOne (l : Launch) (D : va_G) (ca : Nat → ClassId) (ad : Nat → Nat → Nat) (PL : List (Nat × Nat)) (Z : State → Prop) (A : Nat → Prop) (hok : okc bM Z A ad PL) (N : Nat) (w : Mem) (x1 : Int32) (x2 : Int32) (r : Int32) (hf : f_X9_whyNotOne N w x1 x2 = some r) : CT l yX9_whyNotOne (wsy yX9_whyNotOne cX9_whyNotOne 3 (some .int)) (rmk 2) D ca ad PL Z A [.ref (ad 9 0), .int x1, .int x2] w w (some (.int r)) := by
  refine Met.ofW (cc := cX9_whyNotOne) (maxL := 3) (ret := (some .int)) (by decide +kernel) rfl ?_
  intro p e s m args below meth c s₁ B hml hv
  obtain ⟨rfl, hP, hK, hZ⟩ := hv
  have hx := B.exec
  have hb := B.bytes
  have hr := B.returns
  have hlocks := B.notSynchronized
  have hts : ∀ w ∈ ALL, w.before _ s = true := fun w hw => atoms_spec (ws := wsy yX9_whyNotOne cX9_whyNotOne 3 (some .int)) B.pre w (List.mem_cons_of_mem _ hw)
  have hown : s.vm.findClass RX9 = some m.cls := findClass_of_methodNamed B.named
  have C : CX p s m _ c cX9_whyNotOne RX9 3 D ca Z := ⟨hx, hb, hml, hown, hts, hK, hZ⟩
  have hS : va_S A s.heap s.heap [] := va_S.rf
  have hl := lv_entry ([.ref (ad 9 0), .int x1, .int x2]) (n := 3) (Nat.le_of_ble_eq_true rfl)
  rw [lg_entry_eq]
  generalize (lg_sl ([.ref (ad 9 0), .int x1, .int x2]) ++ List.replicate (3 - (lg_sl ([.ref (ad 9 0), .int x1, .int x2])).length) Slot.unset).toArray = ls at hl ⊢
  have hl : lv_has ls 3 [(0, .ref (ad 9 0)), (1, .int x1), (2, .int x2)] := hl
  show W p l e (rmk 2) s m _ below meth c s.heap [] 0 0 _ _
  unfold f_X9_whyNotOne at hf
  -- walk
  refine lv_aload_n hx hb dX9_whyNotOne_0 rfl (lv_at hl 0 rfl) ?_
  refine lv_iload_n hx hb dX9_whyNotOne_1 rfl (lv_at hl 1 rfl) ?_
  obtain ⟨z1, q2, hf⟩ := bsp hf
  refine kc_V (ci := 9) (i := 0) (As := [.int x1]) (rest := []) hok.2.2 C hP hS hl.1 (hok.2.1 9 0 (Nat.le_of_ble_eq_true rfl)) rfl rfl cw_X9_isTerm ml_X9_317 (c_X9_isTerm l D ca ad PL Z A hok N w x1 z1 q2) rfl ⟨rfl, rfl⟩ ⟨Nat.le_of_ble_eq_true rfl, Nat.le_of_ble_eq_true rfl⟩ ⟨Nat.zero_le _, Nat.zero_le _⟩ (Nat.le_of_ble_eq_true rfl) rfl dX9_whyNotOne_2 (fun H locs hP hS => ?_)
  refine lv_if_eq (tgt := 16) hx hb dX9_whyNotOne_5 (by decide) (fun c9 => ?_) (fun c9 => ?_)
  · have hf := ifp hf c9
    refine lv_iconst (v := (1 : Int32)) hx hb dX9_whyNotOne_16 (by decide) ?_
    refine lv_goto (tgt := 40) hx hb dX9_whyNotOne_17 (by decide) ?_
    exact kr_i hok.2.2 C hlocks hr rfl hP hS rfl (Option.some.inj hf) dX9_whyNotOne_40
  · have hf := ifn hf c9
    refine lv_aload_n hx hb dX9_whyNotOne_8 rfl (lv_at hl 0 rfl) ?_
    refine lv_iload_n hx hb dX9_whyNotOne_9 rfl (lv_at hl 2 rfl) ?_
    obtain ⟨z3, q4, hf⟩ := bsp hf
    refine kc_V (ci := 9) (i := 0) (As := [.int x2]) (rest := []) hok.2.2 C hP hS hl.1 (hok.2.1 9 0 (Nat.le_of_ble_eq_true rfl)) rfl rfl cw_X9_isTerm ml_X9_317 (c_X9_isTerm l D ca ad PL Z A hok N w x2 z3 q4) rfl ⟨rfl, rfl⟩ ⟨Nat.le_of_ble_eq_true rfl, Nat.le_of_ble_eq_true rfl⟩ ⟨Nat.zero_le _, Nat.zero_le _⟩ (Nat.le_of_ble_eq_true rfl) rfl dX9_whyNotOne_10 (fun H locs hP hS => ?_)
    refine lv_if_ne (tgt := 20) hx hb dX9_whyNotOne_13 (by decide) (fun c8 => ?_) (fun c8 => ?_)
    · have hf := ifn hf c8
      refine lv_aload_n hx hb dX9_whyNotOne_20 rfl (lv_at hl 0 rfl) ?_
      refine gt_9_36 (i := 0) C hP (hok.2.1 9 0 (Nat.le_of_ble_eq_true rfl)) lk_X9_50 dX9_whyNotOne_21 ?_
      refine lv_iload_n hx hb dX9_whyNotOne_24 rfl (lv_at hl 1 rfl) ?_
      obtain ⟨b5, hf⟩ := gsp hf
      refine ra_ild (k := 52) (i := 0) (n := 24) (f := (gA w 52 0)) C hP (hok.2.1 52 0 (Nat.le_of_ble_eq_true rfl)) rfl b5 dX9_whyNotOne_25 ?_
      refine lv_aload_n hx hb dX9_whyNotOne_26 rfl (lv_at hl 0 rfl) ?_
      refine gt_9_36 (i := 0) C hP (hok.2.1 9 0 (Nat.le_of_ble_eq_true rfl)) lk_X9_50 dX9_whyNotOne_27 ?_
      refine lv_iload_n hx hb dX9_whyNotOne_30 rfl (lv_at hl 2 rfl) ?_
      obtain ⟨b6, hf⟩ := gsp hf
      refine ra_ild (k := 52) (i := 0) (n := 24) (f := (gA w 52 0)) C hP (hok.2.1 52 0 (Nat.le_of_ble_eq_true rfl)) rfl b6 dX9_whyNotOne_31 ?_
      refine lv_icmp_ne (tgt := 39) hx hb dX9_whyNotOne_32 (by decide) (fun c7 => ?_) (fun c7 => ?_)
      · have hf := ifn hf c7
        refine lv_iconst (v := (5 : Int32)) hx hb dX9_whyNotOne_39 (by decide) ?_
        exact kr_i hok.2.2 C hlocks hr rfl hP hS rfl (Option.some.inj hf) dX9_whyNotOne_40
      · have hf := ifp hf c7
        refine lv_iconst (v := (0 : Int32)) hx hb dX9_whyNotOne_35 (by decide) ?_
        refine lv_goto (tgt := 40) hx hb dX9_whyNotOne_36 (by decide) ?_
        exact kr_i hok.2.2 C hlocks hr rfl hP hS rfl (Option.some.inj hf) dX9_whyNotOne_40
    · have hf := ifp hf c8
      refine lv_iconst (v := (1 : Int32)) hx hb dX9_whyNotOne_16 (by decide) ?_
      refine lv_goto (tgt := 40) hx hb dX9_whyNotOne_17 (by decide) ?_
      exact kr_i hok.2.2 C hlocks hr rfl hP hS rfl (Option.some.inj hf) dX9_whyNotOne_40
def f_X9_reasons (N : Nat) (w : Mem) (x1 : Int32) (x2 : Int32) : Option (Mem × Int32) :=
  (Option.bind (f_X9_whyNotOne N w x1 x2) (fun z1 => (Option.bind (f_X9_isRefused N w z1) (fun z3 => (if z3.2 = (0 : Int32) then
(Option.bind (f_X9_reasonsOf N z3.1 x1 x2) (fun z5 => some (z3.1, z5)))
else
some (z3.1, (-1 : Int32)))))))
set_option maxRecDepth 100000 in
set_option maxHeartbeats 4000000 in
theorem c_X9_reasons (l : Launch) (D : va_G) (ca : Nat → ClassId) (ad : Nat → Nat → Nat) (PL : List (Nat × Nat)) (Z : State → Prop) (A : Nat → Prop) (hok : okc bM Z A ad PL) (N : Nat) (w : Mem) (x1 : Int32) (x2 : Int32) (w' : Mem) (r : Int32) (hf : f_X9_reasons N w x1 x2 = some (w', r)) : CT l yX9_reasons (wsy yX9_reasons cX9_reasons 3 (some .int)) (rmk 3) D ca ad PL Z A [.ref (ad 9 0), .int x1, .int x2] w w' (some (.int r)) := by
  refine Met.ofW (cc := cX9_reasons) (maxL := 3) (ret := (some .int)) (by decide +kernel) rfl ?_
  intro p e s m args below meth c s₁ B hml hv
  obtain ⟨rfl, hP, hK, hZ⟩ := hv
  have hx := B.exec
  have hb := B.bytes
  have hr := B.returns
  have hlocks := B.notSynchronized
  have hts : ∀ w ∈ ALL, w.before _ s = true := fun w hw => atoms_spec (ws := wsy yX9_reasons cX9_reasons 3 (some .int)) B.pre w (List.mem_cons_of_mem _ hw)
  have hown : s.vm.findClass RX9 = some m.cls := findClass_of_methodNamed B.named
  have C : CX p s m _ c cX9_reasons RX9 3 D ca Z := ⟨hx, hb, hml, hown, hts, hK, hZ⟩
  have hS : va_S A s.heap s.heap [] := va_S.rf
  have hl := lv_entry ([.ref (ad 9 0), .int x1, .int x2]) (n := 3) (Nat.le_of_ble_eq_true rfl)
  rw [lg_entry_eq]
  generalize (lg_sl ([.ref (ad 9 0), .int x1, .int x2]) ++ List.replicate (3 - (lg_sl ([.ref (ad 9 0), .int x1, .int x2])).length) Slot.unset).toArray = ls at hl ⊢
  have hl : lv_has ls 3 [(0, .ref (ad 9 0)), (1, .int x1), (2, .int x2)] := hl
  show W p l e (rmk 3) s m _ below meth c s.heap [] 0 0 _ _
  unfold f_X9_reasons at hf
  -- walk
  refine lv_aload_n hx hb dX9_reasons_0 rfl (lv_at hl 0 rfl) ?_
  refine lv_aload_n hx hb dX9_reasons_1 rfl (lv_at hl 0 rfl) ?_
  refine lv_iload_n hx hb dX9_reasons_2 rfl (lv_at hl 1 rfl) ?_
  refine lv_iload_n hx hb dX9_reasons_3 rfl (lv_at hl 2 rfl) ?_
  obtain ⟨z1, q2, hf⟩ := bsp hf
  refine kc_V (ci := 9) (i := 0) (As := [.int x1, .int x2]) (rest := [.ref (ad 9 0)]) hok.2.2 C hP hS hl.1 (hok.2.1 9 0 (Nat.le_of_ble_eq_true rfl)) rfl rfl cw_X9_whyNotOne ml_X9_335 (c_X9_whyNotOne l D ca ad PL Z A hok N w x1 x2 z1 q2) rfl ⟨rfl, rfl⟩ ⟨Nat.le_of_ble_eq_true rfl, Nat.le_of_ble_eq_true rfl⟩ ⟨Nat.zero_le _, Nat.zero_le _⟩ (Nat.le_of_ble_eq_true rfl) rfl dX9_reasons_4 (fun H locs hP hS => ?_)
  obtain ⟨z3, q4, hf⟩ := bsp hf
  refine kc_V (ci := 9) (i := 0) (As := [.int z1]) (rest := []) hok.2.2 C hP hS hl.1 (hok.2.1 9 0 (Nat.le_of_ble_eq_true rfl)) rfl rfl cw_X9_isRefused ml_X9_223 (c_X9_isRefused l D ca ad PL Z A hok N w z1 z3.1 z3.2 q4) rfl ⟨rfl, rfl⟩ ⟨Nat.le_of_ble_eq_true rfl, Nat.le_of_ble_eq_true rfl⟩ ⟨Nat.zero_le _, Nat.zero_le _⟩ (Nat.le_of_ble_eq_true rfl) rfl dX9_reasons_7 (fun H locs hP hS => ?_)
  refine lv_if_eq (tgt := 17) hx hb dX9_reasons_10 (by decide) (fun c7 => ?_) (fun c7 => ?_)
  · have hf := ifp hf c7
    refine lv_aload_n hx hb dX9_reasons_17 rfl (lv_at hl 0 rfl) ?_
    refine lv_iload_n hx hb dX9_reasons_18 rfl (lv_at hl 1 rfl) ?_
    refine lv_iload_n hx hb dX9_reasons_19 rfl (lv_at hl 2 rfl) ?_
    obtain ⟨z5, q6, hf⟩ := bsp hf
    refine kc_V (ci := 9) (i := 0) (As := [.int x1, .int x2]) (rest := []) hok.2.2 C hP hS hl.1 (hok.2.1 9 0 (Nat.le_of_ble_eq_true rfl)) rfl rfl cw_X9_reasonsOf ml_X9_262 (c_X9_reasonsOf l D ca ad PL Z A hok N z3.1 x1 x2 z5 q6) rfl ⟨rfl, rfl⟩ ⟨Nat.le_of_ble_eq_true rfl, Nat.le_of_ble_eq_true rfl⟩ ⟨Nat.zero_le _, Nat.zero_le _⟩ (Nat.le_of_ble_eq_true rfl) rfl dX9_reasons_20 (fun H locs hP hS => ?_)
    exact kr_i hok.2.2 C hlocks hr rfl hP hS (congrArg Prod.fst (Option.some.inj hf)) (congrArg Prod.snd (Option.some.inj hf)) dX9_reasons_23
  · have hf := ifn hf c7
    refine lv_iconst (v := (-1 : Int32)) hx hb dX9_reasons_13 (by decide) ?_
    refine lv_goto (tgt := 23) hx hb dX9_reasons_14 (by decide) ?_
    exact kr_i hok.2.2 C hlocks hr rfl hP hS (congrArg Prod.fst (Option.some.inj hf)) (congrArg Prod.snd (Option.some.inj hf)) dX9_reasons_23
def f_X9_pruned_69 (N : Nat) (w : Mem)  (v3 : Int32) : Option (Mem × Int32) :=
  some (w, v3)
def lp_X9_pruned_28 (k : Mem → Int32 → Option (Mem × Int32)) (N : Nat)  (v1 : Int32) (v2 : Int32) : Nat → Mem → Int32 → Int32 → Option (Mem × Int32)
  | 0, _, _, _ => none
  | n + 1, w, v3, v4 => (if v4 < (0 : Int32) then
(k w v3)
else
(Option.bind (f_X9_isOneBy N w (v3 &&& (((1 : Int32) <<< (v4 &&& 31)) ^^^ (-1 : Int32))) v1 v2) (fun z8 => (if z8.2 = (0 : Int32) then
(lp_X9_pruned_28 k N   v1 v2 n z8.1 v3 (v4 + (-1 : Int32)))
else
(lp_X9_pruned_28 k N   v1 v2 n z8.1 (v3 &&& (((1 : Int32) <<< (v4 &&& 31)) ^^^ (-1 : Int32))) (v4 + (-1 : Int32)))))))
def f_X9_pruned (N : Nat) (w : Mem) (x1 : Int32) (x2 : Int32) : Option (Mem × Int32) :=
  (Option.bind (f_X9_whyNotOne N w x1 x2) (fun z1 => (Option.bind (f_X9_isRefused N w z1) (fun z3 => (if z3.2 = (0 : Int32) then
(Option.bind (f_X9_allSames N z3.1 ) (fun z5 => (lp_X9_pruned_28 (fun (w_7 : Mem) (u3_7 : Int32) => (f_X9_pruned_69 N w_7  u3_7 )) N   x1 x2 N z3.1 z5 ((gF z3.1 9 30 0) - (1 : Int32)))))
else
some (z3.1, (-1 : Int32)))))))
set_option maxRecDepth 100000 in
set_option maxHeartbeats 4000000 in
theorem c_X9_pruned (l : Launch) (D : va_G) (ca : Nat → ClassId) (ad : Nat → Nat → Nat) (PL : List (Nat × Nat)) (Z : State → Prop) (A : Nat → Prop) (hok : okc bM Z A ad PL) (N : Nat) (w : Mem) (x1 : Int32) (x2 : Int32) (w' : Mem) (r : Int32) (hf : f_X9_pruned N w x1 x2 = some (w', r)) : CT l yX9_pruned (wsy yX9_pruned cX9_pruned 5 (some .int)) (rmk 4) D ca ad PL Z A [.ref (ad 9 0), .int x1, .int x2] w w' (some (.int r)) := by
  refine Met.ofW (cc := cX9_pruned) (maxL := 5) (ret := (some .int)) (by decide +kernel) rfl ?_
  intro p e s m args below meth c s₁ B hml hv
  obtain ⟨rfl, hP, hK, hZ⟩ := hv
  have hx := B.exec
  have hb := B.bytes
  have hr := B.returns
  have hlocks := B.notSynchronized
  have hts : ∀ w ∈ ALL, w.before _ s = true := fun w hw => atoms_spec (ws := wsy yX9_pruned cX9_pruned 5 (some .int)) B.pre w (List.mem_cons_of_mem _ hw)
  have hown : s.vm.findClass RX9 = some m.cls := findClass_of_methodNamed B.named
  have C : CX p s m _ c cX9_pruned RX9 5 D ca Z := ⟨hx, hb, hml, hown, hts, hK, hZ⟩
  have hS : va_S A s.heap s.heap [] := va_S.rf
  have hl := lv_entry ([.ref (ad 9 0), .int x1, .int x2]) (n := 5) (Nat.le_of_ble_eq_true rfl)
  rw [lg_entry_eq]
  generalize (lg_sl ([.ref (ad 9 0), .int x1, .int x2]) ++ List.replicate (5 - (lg_sl ([.ref (ad 9 0), .int x1, .int x2])).length) Slot.unset).toArray = ls at hl ⊢
  have hl : lv_has ls 5 [(0, .ref (ad 9 0)), (1, .int x1), (2, .int x2)] := hl
  show W p l e (rmk 4) s m _ below meth c s.heap [] 0 0 _ _
  have P_f_X9_pruned_69 : ∀ (w : Mem) (v3 : Int32), f_X9_pruned_69 N w  v3  = some (w', r) → WP p l e (rmk 4) s m [.ref (ad 9 0), .int x1, .int x2].toArray below meth c D ca ad PL A (MQ below (qcR D ca ad PL Z A w' (some (.int r))) [.ref (ad 9 0), .int x1, .int x2].toArray s 0 0 A) 5 69 [] [(3, .int v3)] w := by
    intro w v3 hf _ _ ls hP hS hl
    unfold f_X9_pruned_69 at hf
    refine lv_iload_n hx hb dX9_pruned_69 rfl (lv_at hl 0 rfl) ?_
    exact kr_i hok.2.2 C hlocks hr rfl hP hS (congrArg Prod.fst (Option.some.inj hf)) (congrArg Prod.snd (Option.some.inj hf)) dX9_pruned_70
  have L_lp_X9_pruned_28 : ∀ (v1 : Int32) (v2 : Int32) (k : Mem → Int32 → Option (Mem × Int32)) (hk : ∀ (w : Mem) (v3 : Int32), k w v3 = some (w', r) → WP p l e (rmk 4) s m [.ref (ad 9 0), .int x1, .int x2].toArray below meth c D ca ad PL A (MQ below (qcR D ca ad PL Z A w' (some (.int r))) [.ref (ad 9 0), .int x1, .int x2].toArray s 0 0 A) 5 69 [] [(3, .int v3)] w) (n : Nat) (w : Mem) (v3 : Int32) (v4 : Int32), lp_X9_pruned_28 k N   v1 v2 n w v3 v4 = some (w', r) → WP p l e (rmk 4) s m [.ref (ad 9 0), .int x1, .int x2].toArray below meth c D ca ad PL A (MQ below (qcR D ca ad PL Z A w' (some (.int r))) [.ref (ad 9 0), .int x1, .int x2].toArray s 0 0 A) 5 28 [] [(0, .ref (ad 9 0)), (1, .int v1), (2, .int v2), (3, .int v3), (4, .int v4)] w := by
    intro v1 v2 k hk n
    induction n with
    | zero => intro w v3 v4 hf; rw [lp_X9_pruned_28] at hf; cases hf
    | succ n ih =>
      intro w v3 v4 hf _ _ ls hP hS hl
      rw [lp_X9_pruned_28] at hf
      refine lv_iload hx hb dX9_pruned_28 (lv_at hl 4 rfl) ?_
      refine lv_if_lt (tgt := 69) hx hb dX9_pruned_30 (by decide) (fun c11 => ?_) (fun c11 => ?_)
      · have hf := ifp hf c11
        exact hk w v3 hf _ _ ls hP hS (lv_sub hl [3] rfl)
      · have hf := ifn hf c11
        refine lv_aload_n hx hb dX9_pruned_33 rfl (lv_at hl 0 rfl) ?_
        refine lv_iload_n hx hb dX9_pruned_34 rfl (lv_at hl 3 rfl) ?_
        refine lv_iconst (v := (1 : Int32)) hx hb dX9_pruned_35 (by decide) ?_
        refine lv_iload hx hb dX9_pruned_36 (lv_at hl 4 rfl) ?_
        refine lv_ishl hx hb dX9_pruned_38 ?_
        refine lv_iconst (v := (-1 : Int32)) hx hb dX9_pruned_39 (by decide) ?_
        refine lv_ixor hx hb dX9_pruned_40 ?_
        refine lv_iand hx hb dX9_pruned_41 ?_
        refine lv_iload_n hx hb dX9_pruned_42 rfl (lv_at hl 1 rfl) ?_
        refine lv_iload_n hx hb dX9_pruned_43 rfl (lv_at hl 2 rfl) ?_
        obtain ⟨z8, q9, hf⟩ := bsp hf
        refine kc_V (ci := 9) (i := 0) (As := [.int (v3 &&& (((1 : Int32) <<< (v4 &&& 31)) ^^^ (-1 : Int32))), .int v1, .int v2]) (rest := []) hok.2.2 C hP hS hl.1 (hok.2.1 9 0 (Nat.le_of_ble_eq_true rfl)) rfl rfl cw_X9_isOneBy ml_X9_332 (c_X9_isOneBy l D ca ad PL Z A hok N w (v3 &&& (((1 : Int32) <<< (v4 &&& 31)) ^^^ (-1 : Int32))) v1 v2 z8.1 z8.2 q9) rfl ⟨rfl, rfl⟩ ⟨Nat.le_of_ble_eq_true rfl, Nat.le_of_ble_eq_true rfl⟩ ⟨Nat.zero_le _, Nat.zero_le _⟩ (Nat.le_of_ble_eq_true rfl) rfl dX9_pruned_44 (fun H locs hP hS => ?_)
        refine lv_if_eq (tgt := 61) hx hb dX9_pruned_47 (by decide) (fun c10 => ?_) (fun c10 => ?_)
        · have hf := ifp hf c10
          refine lv_iload_n hx hb dX9_pruned_61 rfl (lv_at hl 3 rfl) ?_
          refine lv_istore_n (lv' := [(3, .int v3), (0, .ref (ad 9 0)), (1, .int v1), (2, .int v2), (4, .int v4)]) hx hb dX9_pruned_62 rfl hl (by decide) rfl (fun ls hl => ?_)
          refine lv_iinc (v := (v4 + (-1 : Int32))) (lv' := [(4, .int (v4 + (-1 : Int32))), (3, .int v3), (0, .ref (ad 9 0)), (1, .int v1), (2, .int v2)]) hx hb dX9_pruned_63 hl (k := 4) rfl rfl (by decide) rfl (fun ls hl => ?_)
          refine lv_goto (tgt := 28) hx hb dX9_pruned_66 (by decide) ?_
          exact ih z8.1 v3 (v4 + (-1 : Int32)) hf _ _ ls hP hS (lv_sub hl [2, 3, 4, 1, 0] rfl)
        · have hf := ifn hf c10
          refine lv_iload_n hx hb dX9_pruned_50 rfl (lv_at hl 3 rfl) ?_
          refine lv_iconst (v := (1 : Int32)) hx hb dX9_pruned_51 (by decide) ?_
          refine lv_iload hx hb dX9_pruned_52 (lv_at hl 4 rfl) ?_
          refine lv_ishl hx hb dX9_pruned_54 ?_
          refine lv_iconst (v := (-1 : Int32)) hx hb dX9_pruned_55 (by decide) ?_
          refine lv_ixor hx hb dX9_pruned_56 ?_
          refine lv_iand hx hb dX9_pruned_57 ?_
          refine lv_goto (tgt := 62) hx hb dX9_pruned_58 (by decide) ?_
          refine lv_istore_n (lv' := [(3, .int (v3 &&& (((1 : Int32) <<< (v4 &&& 31)) ^^^ (-1 : Int32)))), (0, .ref (ad 9 0)), (1, .int v1), (2, .int v2), (4, .int v4)]) hx hb dX9_pruned_62 rfl hl (by decide) rfl (fun ls hl => ?_)
          refine lv_iinc (v := (v4 + (-1 : Int32))) (lv' := [(4, .int (v4 + (-1 : Int32))), (3, .int (v3 &&& (((1 : Int32) <<< (v4 &&& 31)) ^^^ (-1 : Int32)))), (0, .ref (ad 9 0)), (1, .int v1), (2, .int v2)]) hx hb dX9_pruned_63 hl (k := 4) rfl rfl (by decide) rfl (fun ls hl => ?_)
          refine lv_goto (tgt := 28) hx hb dX9_pruned_66 (by decide) ?_
          exact ih z8.1 (v3 &&& (((1 : Int32) <<< (v4 &&& 31)) ^^^ (-1 : Int32))) (v4 + (-1 : Int32)) hf _ _ ls hP hS (lv_sub hl [2, 3, 4, 1, 0] rfl)
  unfold f_X9_pruned at hf
  -- walk
  refine lv_aload_n hx hb dX9_pruned_0 rfl (lv_at hl 0 rfl) ?_
  refine lv_aload_n hx hb dX9_pruned_1 rfl (lv_at hl 0 rfl) ?_
  refine lv_iload_n hx hb dX9_pruned_2 rfl (lv_at hl 1 rfl) ?_
  refine lv_iload_n hx hb dX9_pruned_3 rfl (lv_at hl 2 rfl) ?_
  obtain ⟨z1, q2, hf⟩ := bsp hf
  refine kc_V (ci := 9) (i := 0) (As := [.int x1, .int x2]) (rest := [.ref (ad 9 0)]) hok.2.2 C hP hS hl.1 (hok.2.1 9 0 (Nat.le_of_ble_eq_true rfl)) rfl rfl cw_X9_whyNotOne ml_X9_335 (c_X9_whyNotOne l D ca ad PL Z A hok N w x1 x2 z1 q2) rfl ⟨rfl, rfl⟩ ⟨Nat.le_of_ble_eq_true rfl, Nat.le_of_ble_eq_true rfl⟩ ⟨Nat.zero_le _, Nat.zero_le _⟩ (Nat.le_of_ble_eq_true rfl) rfl dX9_pruned_4 (fun H locs hP hS => ?_)
  obtain ⟨z3, q4, hf⟩ := bsp hf
  refine kc_V (ci := 9) (i := 0) (As := [.int z1]) (rest := []) hok.2.2 C hP hS hl.1 (hok.2.1 9 0 (Nat.le_of_ble_eq_true rfl)) rfl rfl cw_X9_isRefused ml_X9_223 (c_X9_isRefused l D ca ad PL Z A hok N w z1 z3.1 z3.2 q4) rfl ⟨rfl, rfl⟩ ⟨Nat.le_of_ble_eq_true rfl, Nat.le_of_ble_eq_true rfl⟩ ⟨Nat.zero_le _, Nat.zero_le _⟩ (Nat.le_of_ble_eq_true rfl) rfl dX9_pruned_7 (fun H locs hP hS => ?_)
  refine lv_if_eq (tgt := 15) hx hb dX9_pruned_10 (by decide) (fun c12 => ?_) (fun c12 => ?_)
  · have hf := ifp hf c12
    refine lv_aload_n hx hb dX9_pruned_15 rfl (lv_at hl 0 rfl) ?_
    obtain ⟨z5, q6, hf⟩ := bsp hf
    refine kc_V (ci := 9) (i := 0) (As := []) (rest := []) hok.2.2 C hP hS hl.1 (hok.2.1 9 0 (Nat.le_of_ble_eq_true rfl)) rfl rfl cw_X9_allSames ml_X9_329 (c_X9_allSames l D ca ad PL Z A hok N z3.1  z5 q6) rfl ⟨rfl, rfl⟩ ⟨Nat.le_of_ble_eq_true rfl, Nat.le_of_ble_eq_true rfl⟩ ⟨Nat.zero_le _, Nat.zero_le _⟩ (Nat.le_of_ble_eq_true rfl) rfl dX9_pruned_16 (fun H locs hP hS => ?_)
    refine lv_istore_n (lv' := [(3, .int z5), (0, .ref (ad 9 0)), (1, .int x1), (2, .int x2)]) hx hb dX9_pruned_19 rfl hl (by decide) rfl (fun ls hl => ?_)
    refine lv_aload_n hx hb dX9_pruned_20 rfl (lv_at hl 1 rfl) ?_
    refine gt_9_30 (i := 0) C hP (hok.2.1 9 0 (Nat.le_of_ble_eq_true rfl)) lk_X9_287 dX9_pruned_21 ?_
    refine lv_iconst (v := (1 : Int32)) hx hb dX9_pruned_24 (by decide) ?_
    refine lv_isub hx hb dX9_pruned_25 ?_
    refine lv_istore (lv' := [(4, .int ((gF z3.1 9 30 0) - (1 : Int32))), (3, .int z5), (0, .ref (ad 9 0)), (1, .int x1), (2, .int x2)]) hx hb dX9_pruned_26 hl (by decide) rfl (fun ls hl => ?_)
    exact L_lp_X9_pruned_28 x1 x2 _ (fun w_7 u3_7 hf H locs ls hP hS hl => P_f_X9_pruned_69 w_7 u3_7 hf _ _ ls hP hS (lv_sub hl [0] rfl)) N z3.1 z5 ((gF z3.1 9 30 0) - (1 : Int32)) hf _ _ ls hP hS (lv_sub hl [2, 3, 4, 1, 0] rfl)
  · have hf := ifn hf c12
    refine lv_iconst (v := (-1 : Int32)) hx hb dX9_pruned_13 (by decide) ?_
    exact kr_i hok.2.2 C hlocks hr rfl hP hS (congrArg Prod.fst (Option.some.inj hf)) (congrArg Prod.snd (Option.some.inj hf)) dX9_pruned_14
def f_X9_ones_24 (N : Nat) (w : Mem)  (v1 : Int32) : Option (Int32) :=
  some v1
def lp_X9_ones_4 (k : Int32 → Option (Int32)) (N : Nat) (w : Mem)  (v0 : Int32) : Nat → Int32 → Int32 → Option (Int32)
  | 0, _, _ => none
  | n + 1, v1, v2 => (if (12 : Int32) < v2 then
(k v1)
else
(lp_X9_ones_4 k N w  v0 n (v1 + ((v0 >>> (v2 &&& 31)) &&& (1 : Int32))) (v2 + (1 : Int32))))
def f_X9_ones (N : Nat) (w : Mem) (x0 : Int32) : Option (Int32) :=
  (lp_X9_ones_4 (fun (u1_1 : Int32) => (f_X9_ones_24 N w  u1_1 )) N w  x0 N (0 : Int32) (0 : Int32))
set_option maxRecDepth 100000 in
set_option maxHeartbeats 4000000 in
theorem c_X9_ones (l : Launch) (D : va_G) (ca : Nat → ClassId) (ad : Nat → Nat → Nat) (PL : List (Nat × Nat)) (Z : State → Prop) (A : Nat → Prop) (hok : okc bM Z A ad PL) (N : Nat) (w : Mem) (x0 : Int32) (r : Int32) (hf : f_X9_ones N w x0 = some r) : CT l yX9_ones (wsy yX9_ones cX9_ones 3 (some .int)) (rmk 0) D ca ad PL Z A [.int x0] w w (some (.int r)) := by
  refine Met.ofW (cc := cX9_ones) (maxL := 3) (ret := (some .int)) (by decide +kernel) rfl ?_
  intro p e s m args below meth c s₁ B hml hv
  obtain ⟨rfl, hP, hK, hZ⟩ := hv
  have hx := B.exec
  have hb := B.bytes
  have hr := B.returns
  have hlocks := B.notSynchronized
  have hts : ∀ w ∈ ALL, w.before _ s = true := fun w hw => atoms_spec (ws := wsy yX9_ones cX9_ones 3 (some .int)) B.pre w (List.mem_cons_of_mem _ hw)
  have hown : s.vm.findClass RX9 = some m.cls := findClass_of_methodNamed B.named
  have C : CX p s m _ c cX9_ones RX9 3 D ca Z := ⟨hx, hb, hml, hown, hts, hK, hZ⟩
  have hS : va_S A s.heap s.heap [] := va_S.rf
  have hl := lv_entry ([.int x0]) (n := 3) (Nat.le_of_ble_eq_true rfl)
  rw [lg_entry_eq]
  generalize (lg_sl ([.int x0]) ++ List.replicate (3 - (lg_sl ([.int x0])).length) Slot.unset).toArray = ls at hl ⊢
  have hl : lv_has ls 3 [(0, .int x0)] := hl
  show W p l e (rmk 0) s m _ below meth c s.heap [] 0 0 _ _
  have P_f_X9_ones_24 : ∀ (v1 : Int32), f_X9_ones_24 N w  v1  = some r → WP p l e (rmk 0) s m [.int x0].toArray below meth c D ca ad PL A (MQ below (qcR D ca ad PL Z A w (some (.int r))) [.int x0].toArray s 0 0 A) 3 24 [] [(1, .int v1)] w := by
    intro v1 hf _ _ ls hP hS hl
    unfold f_X9_ones_24 at hf
    refine lv_iload_n hx hb dX9_ones_24 rfl (lv_at hl 0 rfl) ?_
    exact kr_i hok.2.2 C hlocks hr rfl hP hS rfl (Option.some.inj hf) dX9_ones_25
  have L_lp_X9_ones_4 : ∀ (v0 : Int32) (k : Int32 → Option (Int32)) (hk : ∀ (v1 : Int32), k v1 = some r → WP p l e (rmk 0) s m [.int x0].toArray below meth c D ca ad PL A (MQ below (qcR D ca ad PL Z A w (some (.int r))) [.int x0].toArray s 0 0 A) 3 24 [] [(1, .int v1)] w) (n : Nat) (v1 : Int32) (v2 : Int32), lp_X9_ones_4 k N w  v0 n v1 v2 = some r → WP p l e (rmk 0) s m [.int x0].toArray below meth c D ca ad PL A (MQ below (qcR D ca ad PL Z A w (some (.int r))) [.int x0].toArray s 0 0 A) 3 4 [] [(0, .int v0), (1, .int v1), (2, .int v2)] w := by
    intro v0 k hk n
    induction n with
    | zero => intro v1 v2 hf; rw [lp_X9_ones_4] at hf; cases hf
    | succ n ih =>
      intro v1 v2 hf _ _ ls hP hS hl
      rw [lp_X9_ones_4] at hf
      refine lv_iload_n hx hb dX9_ones_4 rfl (lv_at hl 2 rfl) ?_
      refine lv_bipush (v := (12 : Int32)) hx hb dX9_ones_5 (by decide) ?_
      refine lv_icmp_gt (tgt := 24) hx hb dX9_ones_7 (by decide) (fun c2 => ?_) (fun c2 => ?_)
      · have hf := ifp hf c2
        exact hk v1 hf _ _ ls hP hS (lv_sub hl [1] rfl)
      · have hf := ifn hf c2
        refine lv_iload_n hx hb dX9_ones_10 rfl (lv_at hl 1 rfl) ?_
        refine lv_iload_n hx hb dX9_ones_11 rfl (lv_at hl 0 rfl) ?_
        refine lv_iload_n hx hb dX9_ones_12 rfl (lv_at hl 2 rfl) ?_
        refine lv_ishr hx hb dX9_ones_13 ?_
        refine lv_iconst (v := (1 : Int32)) hx hb dX9_ones_14 (by decide) ?_
        refine lv_iand hx hb dX9_ones_15 ?_
        refine lv_iadd hx hb dX9_ones_16 ?_
        refine lv_istore_n (lv' := [(1, .int (v1 + ((v0 >>> (v2 &&& 31)) &&& (1 : Int32)))), (0, .int v0), (2, .int v2)]) hx hb dX9_ones_17 rfl hl (by decide) rfl (fun ls hl => ?_)
        refine lv_iinc (v := (v2 + (1 : Int32))) (lv' := [(2, .int (v2 + (1 : Int32))), (1, .int (v1 + ((v0 >>> (v2 &&& 31)) &&& (1 : Int32)))), (0, .int v0)]) hx hb dX9_ones_18 hl (k := 2) rfl rfl (by decide) rfl (fun ls hl => ?_)
        refine lv_goto (tgt := 4) hx hb dX9_ones_21 (by decide) ?_
        exact ih (v1 + ((v0 >>> (v2 &&& 31)) &&& (1 : Int32))) (v2 + (1 : Int32)) hf _ _ ls hP hS (lv_sub hl [2, 1, 0] rfl)
  unfold f_X9_ones at hf
  -- walk
  refine lv_iconst (v := (0 : Int32)) hx hb dX9_ones_0 (by decide) ?_
  refine lv_istore_n (lv' := [(1, .int (0 : Int32)), (0, .int x0)]) hx hb dX9_ones_1 rfl hl (by decide) rfl (fun ls hl => ?_)
  refine lv_iconst (v := (0 : Int32)) hx hb dX9_ones_2 (by decide) ?_
  refine lv_istore_n (lv' := [(2, .int (0 : Int32)), (1, .int (0 : Int32)), (0, .int x0)]) hx hb dX9_ones_3 rfl hl (by decide) rfl (fun ls hl => ?_)
  exact L_lp_X9_ones_4 x0 _ (fun u1_1 hf H locs ls hP hS hl => P_f_X9_ones_24 u1_1 hf _ _ ls hP hS (lv_sub hl [0] rfl)) N (0 : Int32) (0 : Int32) hf _ _ ls hP hS (lv_sub hl [2, 1, 0] rfl)
def f_X9_fewest_66 (N : Nat) (w : Mem)  (v3 : Int32) : Option (Mem × Int32) :=
  some (w, v3)
def lp_X9_fewest_20 (k : Mem → Int32 → Option (Mem × Int32)) (N : Nat)  (v1 : Int32) (v2 : Int32) : Nat → Mem → Int32 → Int32 → Option (Mem × Int32)
  | 0, _, _, _ => none
  | n + 1, w, v3, v4 => (Option.bind (f_X9_allSames N w ) (fun z6 => (if z6 < v4 then
(k w v3)
else
(if v3 = (-1 : Int32) then
(Option.bind (f_X9_isOneBy N w v4 v1 v2) (fun z8 => (if z8.2 = (0 : Int32) then
(lp_X9_fewest_20 k N   v1 v2 n z8.1 v3 (v4 + (1 : Int32)))
else
(lp_X9_fewest_20 k N   v1 v2 n z8.1 v4 (v4 + (1 : Int32))))))
else
(Option.bind (f_X9_ones N w v4) (fun z11 => (Option.bind (f_X9_ones N w v3) (fun z13 => (if z13 ≤ z11 then
(lp_X9_fewest_20 k N   v1 v2 n w v3 (v4 + (1 : Int32)))
else
(Option.bind (f_X9_isOneBy N w v4 v1 v2) (fun z15 => (if z15.2 = (0 : Int32) then
(lp_X9_fewest_20 k N   v1 v2 n z15.1 v3 (v4 + (1 : Int32)))
else
(lp_X9_fewest_20 k N   v1 v2 n z15.1 v4 (v4 + (1 : Int32)))))))))))))))
def f_X9_fewest (N : Nat) (w : Mem) (x1 : Int32) (x2 : Int32) : Option (Mem × Int32) :=
  (Option.bind (f_X9_whyNotOne N w x1 x2) (fun z1 => (Option.bind (f_X9_isRefused N w z1) (fun z3 => (if z3.2 = (0 : Int32) then
(lp_X9_fewest_20 (fun (w_5 : Mem) (u3_5 : Int32) => (f_X9_fewest_66 N w_5  u3_5 )) N   x1 x2 N z3.1 (-1 : Int32) (0 : Int32))
else
some (z3.1, (-1 : Int32)))))))
set_option maxRecDepth 100000 in
set_option maxHeartbeats 4000000 in
theorem c_X9_fewest (l : Launch) (D : va_G) (ca : Nat → ClassId) (ad : Nat → Nat → Nat) (PL : List (Nat × Nat)) (Z : State → Prop) (A : Nat → Prop) (hok : okc bM Z A ad PL) (N : Nat) (w : Mem) (x1 : Int32) (x2 : Int32) (w' : Mem) (r : Int32) (hf : f_X9_fewest N w x1 x2 = some (w', r)) : CT l yX9_fewest (wsy yX9_fewest cX9_fewest 5 (some .int)) (rmk 4) D ca ad PL Z A [.ref (ad 9 0), .int x1, .int x2] w w' (some (.int r)) := by
  refine Met.ofW (cc := cX9_fewest) (maxL := 5) (ret := (some .int)) (by decide +kernel) rfl ?_
  intro p e s m args below meth c s₁ B hml hv
  obtain ⟨rfl, hP, hK, hZ⟩ := hv
  have hx := B.exec
  have hb := B.bytes
  have hr := B.returns
  have hlocks := B.notSynchronized
  have hts : ∀ w ∈ ALL, w.before _ s = true := fun w hw => atoms_spec (ws := wsy yX9_fewest cX9_fewest 5 (some .int)) B.pre w (List.mem_cons_of_mem _ hw)
  have hown : s.vm.findClass RX9 = some m.cls := findClass_of_methodNamed B.named
  have C : CX p s m _ c cX9_fewest RX9 5 D ca Z := ⟨hx, hb, hml, hown, hts, hK, hZ⟩
  have hS : va_S A s.heap s.heap [] := va_S.rf
  have hl := lv_entry ([.ref (ad 9 0), .int x1, .int x2]) (n := 5) (Nat.le_of_ble_eq_true rfl)
  rw [lg_entry_eq]
  generalize (lg_sl ([.ref (ad 9 0), .int x1, .int x2]) ++ List.replicate (5 - (lg_sl ([.ref (ad 9 0), .int x1, .int x2])).length) Slot.unset).toArray = ls at hl ⊢
  have hl : lv_has ls 5 [(0, .ref (ad 9 0)), (1, .int x1), (2, .int x2)] := hl
  show W p l e (rmk 4) s m _ below meth c s.heap [] 0 0 _ _
  have P_f_X9_fewest_66 : ∀ (w : Mem) (v3 : Int32), f_X9_fewest_66 N w  v3  = some (w', r) → WP p l e (rmk 4) s m [.ref (ad 9 0), .int x1, .int x2].toArray below meth c D ca ad PL A (MQ below (qcR D ca ad PL Z A w' (some (.int r))) [.ref (ad 9 0), .int x1, .int x2].toArray s 0 0 A) 5 66 [] [(3, .int v3)] w := by
    intro w v3 hf _ _ ls hP hS hl
    unfold f_X9_fewest_66 at hf
    refine lv_iload_n hx hb dX9_fewest_66 rfl (lv_at hl 0 rfl) ?_
    exact kr_i hok.2.2 C hlocks hr rfl hP hS (congrArg Prod.fst (Option.some.inj hf)) (congrArg Prod.snd (Option.some.inj hf)) dX9_fewest_67
  have L_lp_X9_fewest_20 : ∀ (v1 : Int32) (v2 : Int32) (k : Mem → Int32 → Option (Mem × Int32)) (hk : ∀ (w : Mem) (v3 : Int32), k w v3 = some (w', r) → WP p l e (rmk 4) s m [.ref (ad 9 0), .int x1, .int x2].toArray below meth c D ca ad PL A (MQ below (qcR D ca ad PL Z A w' (some (.int r))) [.ref (ad 9 0), .int x1, .int x2].toArray s 0 0 A) 5 66 [] [(3, .int v3)] w) (n : Nat) (w : Mem) (v3 : Int32) (v4 : Int32), lp_X9_fewest_20 k N   v1 v2 n w v3 v4 = some (w', r) → WP p l e (rmk 4) s m [.ref (ad 9 0), .int x1, .int x2].toArray below meth c D ca ad PL A (MQ below (qcR D ca ad PL Z A w' (some (.int r))) [.ref (ad 9 0), .int x1, .int x2].toArray s 0 0 A) 5 20 [] [(0, .ref (ad 9 0)), (1, .int v1), (2, .int v2), (3, .int v3), (4, .int v4)] w := by
    intro v1 v2 k hk n
    induction n with
    | zero => intro w v3 v4 hf; rw [lp_X9_fewest_20] at hf; cases hf
    | succ n ih =>
      intro w v3 v4 hf _ _ ls hP hS hl
      rw [lp_X9_fewest_20] at hf
      refine lv_iload hx hb dX9_fewest_20 (lv_at hl 4 rfl) ?_
      refine lv_aload_n hx hb dX9_fewest_22 rfl (lv_at hl 0 rfl) ?_
      obtain ⟨z6, q7, hf⟩ := bsp hf
      refine kc_V (ci := 9) (i := 0) (As := []) (rest := [.int v4]) hok.2.2 C hP hS hl.1 (hok.2.1 9 0 (Nat.le_of_ble_eq_true rfl)) rfl rfl cw_X9_allSames ml_X9_329 (c_X9_allSames l D ca ad PL Z A hok N w  z6 q7) rfl ⟨rfl, rfl⟩ ⟨Nat.le_of_ble_eq_true rfl, Nat.le_of_ble_eq_true rfl⟩ ⟨Nat.zero_le _, Nat.zero_le _⟩ (Nat.le_of_ble_eq_true rfl) rfl dX9_fewest_23 (fun H locs hP hS => ?_)
      refine lv_icmp_gt (tgt := 66) hx hb dX9_fewest_26 (by decide) (fun c20 => ?_) (fun c20 => ?_)
      · have hf := ifp hf c20
        exact hk w v3 hf _ _ ls hP hS (lv_sub hl [3] rfl)
      · have hf := ifn hf c20
        refine lv_iload_n hx hb dX9_fewest_29 rfl (lv_at hl 3 rfl) ?_
        refine lv_iconst (v := (-1 : Int32)) hx hb dX9_fewest_30 (by decide) ?_
        refine lv_icmp_eq (tgt := 46) hx hb dX9_fewest_31 (by decide) (fun c19 => ?_) (fun c19 => ?_)
        · have hf := ifp hf c19
          refine lv_aload_n hx hb dX9_fewest_46 rfl (lv_at hl 0 rfl) ?_
          refine lv_iload hx hb dX9_fewest_47 (lv_at hl 4 rfl) ?_
          refine lv_iload_n hx hb dX9_fewest_49 rfl (lv_at hl 1 rfl) ?_
          refine lv_iload_n hx hb dX9_fewest_50 rfl (lv_at hl 2 rfl) ?_
          obtain ⟨z8, q9, hf⟩ := bsp hf
          refine kc_V (ci := 9) (i := 0) (As := [.int v4, .int v1, .int v2]) (rest := []) hok.2.2 C hP hS hl.1 (hok.2.1 9 0 (Nat.le_of_ble_eq_true rfl)) rfl rfl cw_X9_isOneBy ml_X9_332 (c_X9_isOneBy l D ca ad PL Z A hok N w v4 v1 v2 z8.1 z8.2 q9) rfl ⟨rfl, rfl⟩ ⟨Nat.le_of_ble_eq_true rfl, Nat.le_of_ble_eq_true rfl⟩ ⟨Nat.zero_le _, Nat.zero_le _⟩ (Nat.le_of_ble_eq_true rfl) rfl dX9_fewest_51 (fun H locs hP hS => ?_)
          refine lv_if_eq (tgt := 60) hx hb dX9_fewest_54 (by decide) (fun c10 => ?_) (fun c10 => ?_)
          · have hf := ifp hf c10
            refine lv_iinc (v := (v4 + (1 : Int32))) (lv' := [(4, .int (v4 + (1 : Int32))), (0, .ref (ad 9 0)), (1, .int v1), (2, .int v2), (3, .int v3)]) hx hb dX9_fewest_60 hl (k := 4) rfl rfl (by decide) rfl (fun ls hl => ?_)
            refine lv_goto (tgt := 20) hx hb dX9_fewest_63 (by decide) ?_
            exact ih z8.1 v3 (v4 + (1 : Int32)) hf _ _ ls hP hS (lv_sub hl [1, 2, 3, 4, 0] rfl)
          · have hf := ifn hf c10
            refine lv_iload hx hb dX9_fewest_57 (lv_at hl 4 rfl) ?_
            refine lv_istore_n (lv' := [(3, .int v4), (0, .ref (ad 9 0)), (1, .int v1), (2, .int v2), (4, .int v4)]) hx hb dX9_fewest_59 rfl hl (by decide) rfl (fun ls hl => ?_)
            refine lv_iinc (v := (v4 + (1 : Int32))) (lv' := [(4, .int (v4 + (1 : Int32))), (3, .int v4), (0, .ref (ad 9 0)), (1, .int v1), (2, .int v2)]) hx hb dX9_fewest_60 hl (k := 4) rfl rfl (by decide) rfl (fun ls hl => ?_)
            refine lv_goto (tgt := 20) hx hb dX9_fewest_63 (by decide) ?_
            exact ih z8.1 v4 (v4 + (1 : Int32)) hf _ _ ls hP hS (lv_sub hl [2, 3, 4, 1, 0] rfl)
        · have hf := ifn hf c19
          refine lv_iload hx hb dX9_fewest_34 (lv_at hl 4 rfl) ?_
          obtain ⟨z11, q12, hf⟩ := bsp hf
          refine kc_S (As := [.int v4]) (rest := []) hok.2.2 C hP hS hl.1 cw_X9_ones ml_X9_338 (c_X9_ones l D ca ad PL Z A hok N w v4 z11 q12) rfl ⟨rfl, rfl⟩ ⟨Nat.le_of_ble_eq_true rfl, Nat.le_of_ble_eq_true rfl⟩ ⟨Nat.zero_le _, Nat.zero_le _⟩ (Nat.le_of_ble_eq_true rfl) rfl dX9_fewest_36 (fun H locs hP hS => ?_)
          refine lv_iload_n hx hb dX9_fewest_39 rfl (lv_at hl 3 rfl) ?_
          obtain ⟨z13, q14, hf⟩ := bsp hf
          refine kc_S (As := [.int v3]) (rest := [.int z11]) hok.2.2 C hP hS hl.1 cw_X9_ones ml_X9_338 (c_X9_ones l D ca ad PL Z A hok N w v3 z13 q14) rfl ⟨rfl, rfl⟩ ⟨Nat.le_of_ble_eq_true rfl, Nat.le_of_ble_eq_true rfl⟩ ⟨Nat.zero_le _, Nat.zero_le _⟩ (Nat.le_of_ble_eq_true rfl) rfl dX9_fewest_40 (fun H locs hP hS => ?_)
          refine lv_icmp_ge (tgt := 60) hx hb dX9_fewest_43 (by decide) (fun c18 => ?_) (fun c18 => ?_)
          · have hf := ifp hf c18
            refine lv_iinc (v := (v4 + (1 : Int32))) (lv' := [(4, .int (v4 + (1 : Int32))), (0, .ref (ad 9 0)), (1, .int v1), (2, .int v2), (3, .int v3)]) hx hb dX9_fewest_60 hl (k := 4) rfl rfl (by decide) rfl (fun ls hl => ?_)
            refine lv_goto (tgt := 20) hx hb dX9_fewest_63 (by decide) ?_
            exact ih w v3 (v4 + (1 : Int32)) hf _ _ ls hP hS (lv_sub hl [1, 2, 3, 4, 0] rfl)
          · have hf := ifn hf c18
            refine lv_aload_n hx hb dX9_fewest_46 rfl (lv_at hl 0 rfl) ?_
            refine lv_iload hx hb dX9_fewest_47 (lv_at hl 4 rfl) ?_
            refine lv_iload_n hx hb dX9_fewest_49 rfl (lv_at hl 1 rfl) ?_
            refine lv_iload_n hx hb dX9_fewest_50 rfl (lv_at hl 2 rfl) ?_
            obtain ⟨z15, q16, hf⟩ := bsp hf
            refine kc_V (ci := 9) (i := 0) (As := [.int v4, .int v1, .int v2]) (rest := []) hok.2.2 C hP hS hl.1 (hok.2.1 9 0 (Nat.le_of_ble_eq_true rfl)) rfl rfl cw_X9_isOneBy ml_X9_332 (c_X9_isOneBy l D ca ad PL Z A hok N w v4 v1 v2 z15.1 z15.2 q16) rfl ⟨rfl, rfl⟩ ⟨Nat.le_of_ble_eq_true rfl, Nat.le_of_ble_eq_true rfl⟩ ⟨Nat.zero_le _, Nat.zero_le _⟩ (Nat.le_of_ble_eq_true rfl) rfl dX9_fewest_51 (fun H locs hP hS => ?_)
            refine lv_if_eq (tgt := 60) hx hb dX9_fewest_54 (by decide) (fun c17 => ?_) (fun c17 => ?_)
            · have hf := ifp hf c17
              refine lv_iinc (v := (v4 + (1 : Int32))) (lv' := [(4, .int (v4 + (1 : Int32))), (0, .ref (ad 9 0)), (1, .int v1), (2, .int v2), (3, .int v3)]) hx hb dX9_fewest_60 hl (k := 4) rfl rfl (by decide) rfl (fun ls hl => ?_)
              refine lv_goto (tgt := 20) hx hb dX9_fewest_63 (by decide) ?_
              exact ih z15.1 v3 (v4 + (1 : Int32)) hf _ _ ls hP hS (lv_sub hl [1, 2, 3, 4, 0] rfl)
            · have hf := ifn hf c17
              refine lv_iload hx hb dX9_fewest_57 (lv_at hl 4 rfl) ?_
              refine lv_istore_n (lv' := [(3, .int v4), (0, .ref (ad 9 0)), (1, .int v1), (2, .int v2), (4, .int v4)]) hx hb dX9_fewest_59 rfl hl (by decide) rfl (fun ls hl => ?_)
              refine lv_iinc (v := (v4 + (1 : Int32))) (lv' := [(4, .int (v4 + (1 : Int32))), (3, .int v4), (0, .ref (ad 9 0)), (1, .int v1), (2, .int v2)]) hx hb dX9_fewest_60 hl (k := 4) rfl rfl (by decide) rfl (fun ls hl => ?_)
              refine lv_goto (tgt := 20) hx hb dX9_fewest_63 (by decide) ?_
              exact ih z15.1 v4 (v4 + (1 : Int32)) hf _ _ ls hP hS (lv_sub hl [2, 3, 4, 1, 0] rfl)
  unfold f_X9_fewest at hf
  -- walk
  refine lv_aload_n hx hb dX9_fewest_0 rfl (lv_at hl 0 rfl) ?_
  refine lv_aload_n hx hb dX9_fewest_1 rfl (lv_at hl 0 rfl) ?_
  refine lv_iload_n hx hb dX9_fewest_2 rfl (lv_at hl 1 rfl) ?_
  refine lv_iload_n hx hb dX9_fewest_3 rfl (lv_at hl 2 rfl) ?_
  obtain ⟨z1, q2, hf⟩ := bsp hf
  refine kc_V (ci := 9) (i := 0) (As := [.int x1, .int x2]) (rest := [.ref (ad 9 0)]) hok.2.2 C hP hS hl.1 (hok.2.1 9 0 (Nat.le_of_ble_eq_true rfl)) rfl rfl cw_X9_whyNotOne ml_X9_335 (c_X9_whyNotOne l D ca ad PL Z A hok N w x1 x2 z1 q2) rfl ⟨rfl, rfl⟩ ⟨Nat.le_of_ble_eq_true rfl, Nat.le_of_ble_eq_true rfl⟩ ⟨Nat.zero_le _, Nat.zero_le _⟩ (Nat.le_of_ble_eq_true rfl) rfl dX9_fewest_4 (fun H locs hP hS => ?_)
  obtain ⟨z3, q4, hf⟩ := bsp hf
  refine kc_V (ci := 9) (i := 0) (As := [.int z1]) (rest := []) hok.2.2 C hP hS hl.1 (hok.2.1 9 0 (Nat.le_of_ble_eq_true rfl)) rfl rfl cw_X9_isRefused ml_X9_223 (c_X9_isRefused l D ca ad PL Z A hok N w z1 z3.1 z3.2 q4) rfl ⟨rfl, rfl⟩ ⟨Nat.le_of_ble_eq_true rfl, Nat.le_of_ble_eq_true rfl⟩ ⟨Nat.zero_le _, Nat.zero_le _⟩ (Nat.le_of_ble_eq_true rfl) rfl dX9_fewest_7 (fun H locs hP hS => ?_)
  refine lv_if_eq (tgt := 15) hx hb dX9_fewest_10 (by decide) (fun c21 => ?_) (fun c21 => ?_)
  · have hf := ifp hf c21
    refine lv_iconst (v := (-1 : Int32)) hx hb dX9_fewest_15 (by decide) ?_
    refine lv_istore_n (lv' := [(3, .int (-1 : Int32)), (0, .ref (ad 9 0)), (1, .int x1), (2, .int x2)]) hx hb dX9_fewest_16 rfl hl (by decide) rfl (fun ls hl => ?_)
    refine lv_iconst (v := (0 : Int32)) hx hb dX9_fewest_17 (by decide) ?_
    refine lv_istore (lv' := [(4, .int (0 : Int32)), (3, .int (-1 : Int32)), (0, .ref (ad 9 0)), (1, .int x1), (2, .int x2)]) hx hb dX9_fewest_18 hl (by decide) rfl (fun ls hl => ?_)
    exact L_lp_X9_fewest_20 x1 x2 _ (fun w_5 u3_5 hf H locs ls hP hS hl => P_f_X9_fewest_66 w_5 u3_5 hf _ _ ls hP hS (lv_sub hl [0] rfl)) N z3.1 (-1 : Int32) (0 : Int32) hf _ _ ls hP hS (lv_sub hl [2, 3, 4, 1, 0] rfl)
  · have hf := ifn hf c21
    refine lv_iconst (v := (-1 : Int32)) hx hb dX9_fewest_13 (by decide) ?_
    exact kr_i hok.2.2 C hlocks hr rfl hP hS (congrArg Prod.fst (Option.some.inj hf)) (congrArg Prod.snd (Option.some.inj hf)) dX9_fewest_14
def f_X9_needed_66 (N : Nat) (w : Mem)  (v3 : Int32) : Option (Mem × Int32) :=
  some (w, v3)
def lp_X9_needed_20 (k : Mem → Int32 → Option (Mem × Int32)) (N : Nat)  (v1 : Int32) (v2 : Int32) : Nat → Mem → Int32 → Int32 → Option (Mem × Int32)
  | 0, _, _, _ => none
  | n + 1, w, v3, v4 => (if (gF w 9 30 0) ≤ v4 then
(k w v3)
else
(Option.bind (f_X9_allSames N w ) (fun z6 => (Option.bind (f_X9_isOneBy N w (z6 &&& (((1 : Int32) <<< (v4 &&& 31)) ^^^ (-1 : Int32))) v1 v2) (fun z8 => (if z8.2 = (0 : Int32) then
(lp_X9_needed_20 k N   v1 v2 n z8.1 (v3 ||| ((1 : Int32) <<< (v4 &&& 31))) (v4 + (1 : Int32)))
else
(lp_X9_needed_20 k N   v1 v2 n z8.1 (v3 ||| (0 : Int32)) (v4 + (1 : Int32)))))))))
def f_X9_needed (N : Nat) (w : Mem) (x1 : Int32) (x2 : Int32) : Option (Mem × Int32) :=
  (Option.bind (f_X9_whyNotOne N w x1 x2) (fun z1 => (Option.bind (f_X9_isRefused N w z1) (fun z3 => (if z3.2 = (0 : Int32) then
(lp_X9_needed_20 (fun (w_5 : Mem) (u3_5 : Int32) => (f_X9_needed_66 N w_5  u3_5 )) N   x1 x2 N z3.1 (0 : Int32) (0 : Int32))
else
some (z3.1, (-1 : Int32)))))))
set_option maxRecDepth 100000 in
set_option maxHeartbeats 4000000 in
theorem c_X9_needed (l : Launch) (D : va_G) (ca : Nat → ClassId) (ad : Nat → Nat → Nat) (PL : List (Nat × Nat)) (Z : State → Prop) (A : Nat → Prop) (hok : okc bM Z A ad PL) (N : Nat) (w : Mem) (x1 : Int32) (x2 : Int32) (w' : Mem) (r : Int32) (hf : f_X9_needed N w x1 x2 = some (w', r)) : CT l yX9_needed (wsy yX9_needed cX9_needed 5 (some .int)) (rmk 4) D ca ad PL Z A [.ref (ad 9 0), .int x1, .int x2] w w' (some (.int r)) := by
  refine Met.ofW (cc := cX9_needed) (maxL := 5) (ret := (some .int)) (by decide +kernel) rfl ?_
  intro p e s m args below meth c s₁ B hml hv
  obtain ⟨rfl, hP, hK, hZ⟩ := hv
  have hx := B.exec
  have hb := B.bytes
  have hr := B.returns
  have hlocks := B.notSynchronized
  have hts : ∀ w ∈ ALL, w.before _ s = true := fun w hw => atoms_spec (ws := wsy yX9_needed cX9_needed 5 (some .int)) B.pre w (List.mem_cons_of_mem _ hw)
  have hown : s.vm.findClass RX9 = some m.cls := findClass_of_methodNamed B.named
  have C : CX p s m _ c cX9_needed RX9 5 D ca Z := ⟨hx, hb, hml, hown, hts, hK, hZ⟩
  have hS : va_S A s.heap s.heap [] := va_S.rf
  have hl := lv_entry ([.ref (ad 9 0), .int x1, .int x2]) (n := 5) (Nat.le_of_ble_eq_true rfl)
  rw [lg_entry_eq]
  generalize (lg_sl ([.ref (ad 9 0), .int x1, .int x2]) ++ List.replicate (5 - (lg_sl ([.ref (ad 9 0), .int x1, .int x2])).length) Slot.unset).toArray = ls at hl ⊢
  have hl : lv_has ls 5 [(0, .ref (ad 9 0)), (1, .int x1), (2, .int x2)] := hl
  show W p l e (rmk 4) s m _ below meth c s.heap [] 0 0 _ _
  have P_f_X9_needed_66 : ∀ (w : Mem) (v3 : Int32), f_X9_needed_66 N w  v3  = some (w', r) → WP p l e (rmk 4) s m [.ref (ad 9 0), .int x1, .int x2].toArray below meth c D ca ad PL A (MQ below (qcR D ca ad PL Z A w' (some (.int r))) [.ref (ad 9 0), .int x1, .int x2].toArray s 0 0 A) 5 66 [] [(3, .int v3)] w := by
    intro w v3 hf _ _ ls hP hS hl
    unfold f_X9_needed_66 at hf
    refine lv_iload_n hx hb dX9_needed_66 rfl (lv_at hl 0 rfl) ?_
    exact kr_i hok.2.2 C hlocks hr rfl hP hS (congrArg Prod.fst (Option.some.inj hf)) (congrArg Prod.snd (Option.some.inj hf)) dX9_needed_67
  have L_lp_X9_needed_20 : ∀ (v1 : Int32) (v2 : Int32) (k : Mem → Int32 → Option (Mem × Int32)) (hk : ∀ (w : Mem) (v3 : Int32), k w v3 = some (w', r) → WP p l e (rmk 4) s m [.ref (ad 9 0), .int x1, .int x2].toArray below meth c D ca ad PL A (MQ below (qcR D ca ad PL Z A w' (some (.int r))) [.ref (ad 9 0), .int x1, .int x2].toArray s 0 0 A) 5 66 [] [(3, .int v3)] w) (n : Nat) (w : Mem) (v3 : Int32) (v4 : Int32), lp_X9_needed_20 k N   v1 v2 n w v3 v4 = some (w', r) → WP p l e (rmk 4) s m [.ref (ad 9 0), .int x1, .int x2].toArray below meth c D ca ad PL A (MQ below (qcR D ca ad PL Z A w' (some (.int r))) [.ref (ad 9 0), .int x1, .int x2].toArray s 0 0 A) 5 20 [] [(0, .ref (ad 9 0)), (1, .int v1), (2, .int v2), (3, .int v3), (4, .int v4)] w := by
    intro v1 v2 k hk n
    induction n with
    | zero => intro w v3 v4 hf; rw [lp_X9_needed_20] at hf; cases hf
    | succ n ih =>
      intro w v3 v4 hf _ _ ls hP hS hl
      rw [lp_X9_needed_20] at hf
      refine lv_iload hx hb dX9_needed_20 (lv_at hl 4 rfl) ?_
      refine lv_aload_n hx hb dX9_needed_22 rfl (lv_at hl 0 rfl) ?_
      refine gt_9_30 (i := 0) C hP (hok.2.1 9 0 (Nat.le_of_ble_eq_true rfl)) lk_X9_287 dX9_needed_23 ?_
      refine lv_icmp_ge (tgt := 66) hx hb dX9_needed_26 (by decide) (fun c11 => ?_) (fun c11 => ?_)
      · have hf := ifp hf c11
        exact hk w v3 hf _ _ ls hP hS (lv_sub hl [3] rfl)
      · have hf := ifn hf c11
        refine lv_iload_n hx hb dX9_needed_29 rfl (lv_at hl 3 rfl) ?_
        refine lv_aload_n hx hb dX9_needed_30 rfl (lv_at hl 0 rfl) ?_
        refine lv_aload_n hx hb dX9_needed_31 rfl (lv_at hl 0 rfl) ?_
        obtain ⟨z6, q7, hf⟩ := bsp hf
        refine kc_V (ci := 9) (i := 0) (As := []) (rest := [.ref (ad 9 0), .int v3]) hok.2.2 C hP hS hl.1 (hok.2.1 9 0 (Nat.le_of_ble_eq_true rfl)) rfl rfl cw_X9_allSames ml_X9_329 (c_X9_allSames l D ca ad PL Z A hok N w  z6 q7) rfl ⟨rfl, rfl⟩ ⟨Nat.le_of_ble_eq_true rfl, Nat.le_of_ble_eq_true rfl⟩ ⟨Nat.zero_le _, Nat.zero_le _⟩ (Nat.le_of_ble_eq_true rfl) rfl dX9_needed_32 (fun H locs hP hS => ?_)
        refine lv_iconst (v := (1 : Int32)) hx hb dX9_needed_35 (by decide) ?_
        refine lv_iload hx hb dX9_needed_36 (lv_at hl 4 rfl) ?_
        refine lv_ishl hx hb dX9_needed_38 ?_
        refine lv_iconst (v := (-1 : Int32)) hx hb dX9_needed_39 (by decide) ?_
        refine lv_ixor hx hb dX9_needed_40 ?_
        refine lv_iand hx hb dX9_needed_41 ?_
        refine lv_iload_n hx hb dX9_needed_42 rfl (lv_at hl 1 rfl) ?_
        refine lv_iload_n hx hb dX9_needed_43 rfl (lv_at hl 2 rfl) ?_
        obtain ⟨z8, q9, hf⟩ := bsp hf
        refine kc_V (ci := 9) (i := 0) (As := [.int (z6 &&& (((1 : Int32) <<< (v4 &&& 31)) ^^^ (-1 : Int32))), .int v1, .int v2]) (rest := [.int v3]) hok.2.2 C hP hS hl.1 (hok.2.1 9 0 (Nat.le_of_ble_eq_true rfl)) rfl rfl cw_X9_isOneBy ml_X9_332 (c_X9_isOneBy l D ca ad PL Z A hok N w (z6 &&& (((1 : Int32) <<< (v4 &&& 31)) ^^^ (-1 : Int32))) v1 v2 z8.1 z8.2 q9) rfl ⟨rfl, rfl⟩ ⟨Nat.le_of_ble_eq_true rfl, Nat.le_of_ble_eq_true rfl⟩ ⟨Nat.zero_le _, Nat.zero_le _⟩ (Nat.le_of_ble_eq_true rfl) rfl dX9_needed_44 (fun H locs hP hS => ?_)
        refine lv_if_eq (tgt := 54) hx hb dX9_needed_47 (by decide) (fun c10 => ?_) (fun c10 => ?_)
        · have hf := ifp hf c10
          refine lv_iconst (v := (1 : Int32)) hx hb dX9_needed_54 (by decide) ?_
          refine lv_iload hx hb dX9_needed_55 (lv_at hl 4 rfl) ?_
          refine lv_ishl hx hb dX9_needed_57 ?_
          refine lv_ior hx hb dX9_needed_58 ?_
          refine lv_istore_n (lv' := [(3, .int (v3 ||| ((1 : Int32) <<< (v4 &&& 31)))), (0, .ref (ad 9 0)), (1, .int v1), (2, .int v2), (4, .int v4)]) hx hb dX9_needed_59 rfl hl (by decide) rfl (fun ls hl => ?_)
          refine lv_iinc (v := (v4 + (1 : Int32))) (lv' := [(4, .int (v4 + (1 : Int32))), (3, .int (v3 ||| ((1 : Int32) <<< (v4 &&& 31)))), (0, .ref (ad 9 0)), (1, .int v1), (2, .int v2)]) hx hb dX9_needed_60 hl (k := 4) rfl rfl (by decide) rfl (fun ls hl => ?_)
          refine lv_goto (tgt := 20) hx hb dX9_needed_63 (by decide) ?_
          exact ih z8.1 (v3 ||| ((1 : Int32) <<< (v4 &&& 31))) (v4 + (1 : Int32)) hf _ _ ls hP hS (lv_sub hl [2, 3, 4, 1, 0] rfl)
        · have hf := ifn hf c10
          refine lv_iconst (v := (0 : Int32)) hx hb dX9_needed_50 (by decide) ?_
          refine lv_goto (tgt := 58) hx hb dX9_needed_51 (by decide) ?_
          refine lv_ior hx hb dX9_needed_58 ?_
          refine lv_istore_n (lv' := [(3, .int (v3 ||| (0 : Int32))), (0, .ref (ad 9 0)), (1, .int v1), (2, .int v2), (4, .int v4)]) hx hb dX9_needed_59 rfl hl (by decide) rfl (fun ls hl => ?_)
          refine lv_iinc (v := (v4 + (1 : Int32))) (lv' := [(4, .int (v4 + (1 : Int32))), (3, .int (v3 ||| (0 : Int32))), (0, .ref (ad 9 0)), (1, .int v1), (2, .int v2)]) hx hb dX9_needed_60 hl (k := 4) rfl rfl (by decide) rfl (fun ls hl => ?_)
          refine lv_goto (tgt := 20) hx hb dX9_needed_63 (by decide) ?_
          exact ih z8.1 (v3 ||| (0 : Int32)) (v4 + (1 : Int32)) hf _ _ ls hP hS (lv_sub hl [2, 3, 4, 1, 0] rfl)
  unfold f_X9_needed at hf
  -- walk
  refine lv_aload_n hx hb dX9_needed_0 rfl (lv_at hl 0 rfl) ?_
  refine lv_aload_n hx hb dX9_needed_1 rfl (lv_at hl 0 rfl) ?_
  refine lv_iload_n hx hb dX9_needed_2 rfl (lv_at hl 1 rfl) ?_
  refine lv_iload_n hx hb dX9_needed_3 rfl (lv_at hl 2 rfl) ?_
  obtain ⟨z1, q2, hf⟩ := bsp hf
  refine kc_V (ci := 9) (i := 0) (As := [.int x1, .int x2]) (rest := [.ref (ad 9 0)]) hok.2.2 C hP hS hl.1 (hok.2.1 9 0 (Nat.le_of_ble_eq_true rfl)) rfl rfl cw_X9_whyNotOne ml_X9_335 (c_X9_whyNotOne l D ca ad PL Z A hok N w x1 x2 z1 q2) rfl ⟨rfl, rfl⟩ ⟨Nat.le_of_ble_eq_true rfl, Nat.le_of_ble_eq_true rfl⟩ ⟨Nat.zero_le _, Nat.zero_le _⟩ (Nat.le_of_ble_eq_true rfl) rfl dX9_needed_4 (fun H locs hP hS => ?_)
  obtain ⟨z3, q4, hf⟩ := bsp hf
  refine kc_V (ci := 9) (i := 0) (As := [.int z1]) (rest := []) hok.2.2 C hP hS hl.1 (hok.2.1 9 0 (Nat.le_of_ble_eq_true rfl)) rfl rfl cw_X9_isRefused ml_X9_223 (c_X9_isRefused l D ca ad PL Z A hok N w z1 z3.1 z3.2 q4) rfl ⟨rfl, rfl⟩ ⟨Nat.le_of_ble_eq_true rfl, Nat.le_of_ble_eq_true rfl⟩ ⟨Nat.zero_le _, Nat.zero_le _⟩ (Nat.le_of_ble_eq_true rfl) rfl dX9_needed_7 (fun H locs hP hS => ?_)
  refine lv_if_eq (tgt := 15) hx hb dX9_needed_10 (by decide) (fun c12 => ?_) (fun c12 => ?_)
  · have hf := ifp hf c12
    refine lv_iconst (v := (0 : Int32)) hx hb dX9_needed_15 (by decide) ?_
    refine lv_istore_n (lv' := [(3, .int (0 : Int32)), (0, .ref (ad 9 0)), (1, .int x1), (2, .int x2)]) hx hb dX9_needed_16 rfl hl (by decide) rfl (fun ls hl => ?_)
    refine lv_iconst (v := (0 : Int32)) hx hb dX9_needed_17 (by decide) ?_
    refine lv_istore (lv' := [(4, .int (0 : Int32)), (3, .int (0 : Int32)), (0, .ref (ad 9 0)), (1, .int x1), (2, .int x2)]) hx hb dX9_needed_18 hl (by decide) rfl (fun ls hl => ?_)
    exact L_lp_X9_needed_20 x1 x2 _ (fun w_5 u3_5 hf H locs ls hP hS hl => P_f_X9_needed_66 w_5 u3_5 hf _ _ ls hP hS (lv_sub hl [0] rfl)) N z3.1 (0 : Int32) (0 : Int32) hf _ _ ls hP hS (lv_sub hl [2, 3, 4, 1, 0] rfl)
  · have hf := ifn hf c12
    refine lv_iconst (v := (-1 : Int32)) hx hb dX9_needed_13 (by decide) ?_
    exact kr_i hok.2.2 C hlocks hr rfl hP hS (congrArg Prod.fst (Option.some.inj hf)) (congrArg Prod.snd (Option.some.inj hf)) dX9_needed_14
def f_X9_many_129 (N : Nat) (w : Mem)  (v3 : Int32) : Option (Mem × Int32) :=
  some (w, v3)
def f_X9_many_110_20 (rc : Mem → Int32 → Int32 → Option (Mem × Int32)) (k : Mem → Int32 → Option (Mem × Int32)) (N : Nat) (w : Mem)  (v1 : Int32) (v2 : Int32) (v3 : Int32) (v4 : Int32) (v5 : Int32) : Option (Mem × Int32) :=
  (if v5 = (0 : Int32) then
(rc w (v3 + (0 : Int32)) (v4 + (1 : Int32)))
else
(rc w (v3 + (1 : Int32)) (v4 + (1 : Int32))))
def lp_X9_many_56 (k : Int32 → Option (Mem × Int32)) (N : Nat) (w : Mem)  (v1 : Int32) (v2 : Int32) (v3 : Int32) (v4 : Int32) : Nat → Int32 → Int32 → Option (Mem × Int32)
  | 0, _, _ => none
  | n + 1, v5, v6 => (if (gF w 9 30 0) ≤ v6 then
(k v5)
else
(if v5 = (0 : Int32) then
(lp_X9_many_56 k N w  v1 v2 v3 v4 n (0 : Int32) (v6 + (1 : Int32)))
else
(if ((v4 >>> (v6 &&& 31)) &&& (1 : Int32)) = (0 : Int32) then
(lp_X9_many_56 k N w  v1 v2 v3 v4 n (1 : Int32) (v6 + (1 : Int32)))
else
(if inb (v4 &&& (((1 : Int32) <<< (v6 &&& 31)) ^^^ (-1 : Int32))) 4096 = true then (if (gA w 61 0 (v4 &&& (((1 : Int32) <<< (v6 &&& 31)) ^^^ (-1 : Int32))).toNatClampNeg) = (0 : Int32) then
(lp_X9_many_56 k N w  v1 v2 v3 v4 n (1 : Int32) (v6 + (1 : Int32)))
else
(lp_X9_many_56 k N w  v1 v2 v3 v4 n (0 : Int32) (v6 + (1 : Int32)))) else none))))
def lp_X9_many_20 (k : Mem → Int32 → Option (Mem × Int32)) (N : Nat)  (v1 : Int32) (v2 : Int32) : Nat → Mem → Int32 → Int32 → Option (Mem × Int32)
  | 0, _, _, _ => none
  | n + 1, w, v3, v4 => (Option.bind (f_X9_allSames N w ) (fun z6 => (if z6 < v4 then
(k w v3)
else
(Option.bind (f_X9_isOneBy N w v4 v1 v2) (fun z8 => (if inb v4 4096 = true then (lp_X9_many_56 (fun (u5_11 : Int32) => (f_X9_many_110_20 (fun (w : Mem) (v3 : Int32) (v4 : Int32) => lp_X9_many_20 k N   v1 v2 n w v3 v4) k N (sA z8.1 61 0 v4.toNatClampNeg (vp_nar .boolean z8.2))  v1 v2 v3 v4 u5_11 )) N (sA z8.1 61 0 v4.toNatClampNeg (vp_nar .boolean z8.2))  v1 v2 v3 v4 N (gA (sA z8.1 61 0 v4.toNatClampNeg (vp_nar .boolean z8.2)) 61 0 v4.toNatClampNeg) (0 : Int32)) else none))))))
def f_X9_many (N : Nat) (w : Mem) (x1 : Int32) (x2 : Int32) : Option (Mem × Int32) :=
  (Option.bind (f_X9_whyNotOne N w x1 x2) (fun z1 => (Option.bind (f_X9_isRefused N w z1) (fun z3 => (if z3.2 = (0 : Int32) then
(lp_X9_many_20 (fun (w_5 : Mem) (u3_5 : Int32) => (f_X9_many_129 N w_5  u3_5 )) N   x1 x2 N z3.1 (0 : Int32) (0 : Int32))
else
some (z3.1, (-1 : Int32)))))))
set_option maxRecDepth 100000 in
set_option maxHeartbeats 4000000 in
theorem c_X9_many (l : Launch) (D : va_G) (ca : Nat → ClassId) (ad : Nat → Nat → Nat) (PL : List (Nat × Nat)) (Z : State → Prop) (A : Nat → Prop) (hok : okc bM Z A ad PL) (N : Nat) (w : Mem) (x1 : Int32) (x2 : Int32) (w' : Mem) (r : Int32) (hf : f_X9_many N w x1 x2 = some (w', r)) : CT l yX9_many (wsy yX9_many cX9_many 7 (some .int)) (rmk 4) D ca ad PL Z A [.ref (ad 9 0), .int x1, .int x2] w w' (some (.int r)) := by
  refine Met.ofW (cc := cX9_many) (maxL := 7) (ret := (some .int)) (by decide +kernel) rfl ?_
  intro p e s m args below meth c s₁ B hml hv
  obtain ⟨rfl, hP, hK, hZ⟩ := hv
  have hx := B.exec
  have hb := B.bytes
  have hr := B.returns
  have hlocks := B.notSynchronized
  have hts : ∀ w ∈ ALL, w.before _ s = true := fun w hw => atoms_spec (ws := wsy yX9_many cX9_many 7 (some .int)) B.pre w (List.mem_cons_of_mem _ hw)
  have hown : s.vm.findClass RX9 = some m.cls := findClass_of_methodNamed B.named
  have C : CX p s m _ c cX9_many RX9 7 D ca Z := ⟨hx, hb, hml, hown, hts, hK, hZ⟩
  have hS : va_S A s.heap s.heap [] := va_S.rf
  have hl := lv_entry ([.ref (ad 9 0), .int x1, .int x2]) (n := 7) (Nat.le_of_ble_eq_true rfl)
  rw [lg_entry_eq]
  generalize (lg_sl ([.ref (ad 9 0), .int x1, .int x2]) ++ List.replicate (7 - (lg_sl ([.ref (ad 9 0), .int x1, .int x2])).length) Slot.unset).toArray = ls at hl ⊢
  have hl : lv_has ls 7 [(0, .ref (ad 9 0)), (1, .int x1), (2, .int x2)] := hl
  show W p l e (rmk 4) s m _ below meth c s.heap [] 0 0 _ _
  have P_f_X9_many_129 : ∀ (w : Mem) (v3 : Int32), f_X9_many_129 N w  v3  = some (w', r) → WP p l e (rmk 4) s m [.ref (ad 9 0), .int x1, .int x2].toArray below meth c D ca ad PL A (MQ below (qcR D ca ad PL Z A w' (some (.int r))) [.ref (ad 9 0), .int x1, .int x2].toArray s 0 0 A) 7 129 [] [(3, .int v3)] w := by
    intro w v3 hf _ _ ls hP hS hl
    unfold f_X9_many_129 at hf
    refine lv_iload_n hx hb dX9_many_129 rfl (lv_at hl 0 rfl) ?_
    exact kr_i hok.2.2 C hlocks hr rfl hP hS (congrArg Prod.fst (Option.some.inj hf)) (congrArg Prod.snd (Option.some.inj hf)) dX9_many_130
  have P_f_X9_many_110_20 : ∀ (v1 : Int32) (v2 : Int32) (rc : Mem → Int32 → Int32 → Option (Mem × Int32)) (hrc : ∀ (w : Mem) (v3 : Int32) (v4 : Int32), rc w v3 v4 = some (w', r) → WP p l e (rmk 4) s m [.ref (ad 9 0), .int x1, .int x2].toArray below meth c D ca ad PL A (MQ below (qcR D ca ad PL Z A w' (some (.int r))) [.ref (ad 9 0), .int x1, .int x2].toArray s 0 0 A) 7 20 [] [(0, .ref (ad 9 0)), (1, .int v1), (2, .int v2), (3, .int v3), (4, .int v4)] w) (k : Mem → Int32 → Option (Mem × Int32)) (hk : ∀ (w : Mem) (v3 : Int32), k w v3 = some (w', r) → WP p l e (rmk 4) s m [.ref (ad 9 0), .int x1, .int x2].toArray below meth c D ca ad PL A (MQ below (qcR D ca ad PL Z A w' (some (.int r))) [.ref (ad 9 0), .int x1, .int x2].toArray s 0 0 A) 7 129 [] [(3, .int v3)] w) (w : Mem) (v3 : Int32) (v4 : Int32) (v5 : Int32), f_X9_many_110_20 rc k N w  v1 v2 v3 v4 v5  = some (w', r) → WP p l e (rmk 4) s m [.ref (ad 9 0), .int x1, .int x2].toArray below meth c D ca ad PL A (MQ below (qcR D ca ad PL Z A w' (some (.int r))) [.ref (ad 9 0), .int x1, .int x2].toArray s 0 0 A) 7 110 [] [(0, .ref (ad 9 0)), (1, .int v1), (2, .int v2), (3, .int v3), (4, .int v4), (5, .int v5)] w := by
    intro v1 v2 rc hrc k hk w v3 v4 v5 hf _ _ ls hP hS hl
    unfold f_X9_many_110_20 at hf
    refine lv_iload_n hx hb dX9_many_110 rfl (lv_at hl 3 rfl) ?_
    refine lv_iload hx hb dX9_many_111 (lv_at hl 5 rfl) ?_
    refine lv_if_eq (tgt := 120) hx hb dX9_many_113 (by decide) (fun c12 => ?_) (fun c12 => ?_)
    · have hf := ifp hf c12
      refine lv_iconst (v := (0 : Int32)) hx hb dX9_many_120 (by decide) ?_
      refine lv_iadd hx hb dX9_many_121 ?_
      refine lv_istore_n (lv' := [(3, .int (v3 + (0 : Int32))), (0, .ref (ad 9 0)), (1, .int v1), (2, .int v2), (4, .int v4), (5, .int v5)]) hx hb dX9_many_122 rfl hl (by decide) rfl (fun ls hl => ?_)
      refine lv_iinc (v := (v4 + (1 : Int32))) (lv' := [(4, .int (v4 + (1 : Int32))), (3, .int (v3 + (0 : Int32))), (0, .ref (ad 9 0)), (1, .int v1), (2, .int v2), (5, .int v5)]) hx hb dX9_many_123 hl (k := 4) rfl rfl (by decide) rfl (fun ls hl => ?_)
      refine lv_goto (tgt := 20) hx hb dX9_many_126 (by decide) ?_
      exact hrc w (v3 + (0 : Int32)) (v4 + (1 : Int32)) hf _ _ ls hP hS (lv_sub hl [2, 3, 4, 1, 0] rfl)
    · have hf := ifn hf c12
      refine lv_iconst (v := (1 : Int32)) hx hb dX9_many_116 (by decide) ?_
      refine lv_goto (tgt := 121) hx hb dX9_many_117 (by decide) ?_
      refine lv_iadd hx hb dX9_many_121 ?_
      refine lv_istore_n (lv' := [(3, .int (v3 + (1 : Int32))), (0, .ref (ad 9 0)), (1, .int v1), (2, .int v2), (4, .int v4), (5, .int v5)]) hx hb dX9_many_122 rfl hl (by decide) rfl (fun ls hl => ?_)
      refine lv_iinc (v := (v4 + (1 : Int32))) (lv' := [(4, .int (v4 + (1 : Int32))), (3, .int (v3 + (1 : Int32))), (0, .ref (ad 9 0)), (1, .int v1), (2, .int v2), (5, .int v5)]) hx hb dX9_many_123 hl (k := 4) rfl rfl (by decide) rfl (fun ls hl => ?_)
      refine lv_goto (tgt := 20) hx hb dX9_many_126 (by decide) ?_
      exact hrc w (v3 + (1 : Int32)) (v4 + (1 : Int32)) hf _ _ ls hP hS (lv_sub hl [2, 3, 4, 1, 0] rfl)
  have L_lp_X9_many_56 : ∀ (w : Mem) (v1 : Int32) (v2 : Int32) (v3 : Int32) (v4 : Int32) (k : Int32 → Option (Mem × Int32)) (hk : ∀ (v5 : Int32), k v5 = some (w', r) → WP p l e (rmk 4) s m [.ref (ad 9 0), .int x1, .int x2].toArray below meth c D ca ad PL A (MQ below (qcR D ca ad PL Z A w' (some (.int r))) [.ref (ad 9 0), .int x1, .int x2].toArray s 0 0 A) 7 110 [] [(0, .ref (ad 9 0)), (1, .int v1), (2, .int v2), (3, .int v3), (4, .int v4), (5, .int v5)] w) (n : Nat) (v5 : Int32) (v6 : Int32), lp_X9_many_56 k N w  v1 v2 v3 v4 n v5 v6 = some (w', r) → WP p l e (rmk 4) s m [.ref (ad 9 0), .int x1, .int x2].toArray below meth c D ca ad PL A (MQ below (qcR D ca ad PL Z A w' (some (.int r))) [.ref (ad 9 0), .int x1, .int x2].toArray s 0 0 A) 7 56 [] [(0, .ref (ad 9 0)), (1, .int v1), (2, .int v2), (3, .int v3), (4, .int v4), (5, .int v5), (6, .int v6)] w := by
    intro w v1 v2 v3 v4 k hk n
    induction n with
    | zero => intro v5 v6 hf; rw [lp_X9_many_56] at hf; cases hf
    | succ n ih =>
      intro v5 v6 hf _ _ ls hP hS hl
      rw [lp_X9_many_56] at hf
      refine lv_iload hx hb dX9_many_56 (lv_at hl 6 rfl) ?_
      refine lv_aload_n hx hb dX9_many_58 rfl (lv_at hl 0 rfl) ?_
      refine gt_9_30 (i := 0) C hP (hok.2.1 9 0 (Nat.le_of_ble_eq_true rfl)) lk_X9_287 dX9_many_59 ?_
      refine lv_icmp_ge (tgt := 110) hx hb dX9_many_62 (by decide) (fun c17 => ?_) (fun c17 => ?_)
      · have hf := ifp hf c17
        exact hk v5 hf _ _ ls hP hS (lv_sub hl [0, 1, 2, 3, 4, 5] rfl)
      · have hf := ifn hf c17
        refine lv_iload hx hb dX9_many_65 (lv_at hl 5 rfl) ?_
        refine lv_if_eq (tgt := 101) hx hb dX9_many_67 (by decide) (fun c16 => ?_) (fun c16 => ?_)
        · have hf := ifp hf c16
          refine lv_iconst (v := (0 : Int32)) hx hb dX9_many_101 (by decide) ?_
          refine lv_istore (lv' := [(5, .int (0 : Int32)), (0, .ref (ad 9 0)), (1, .int v1), (2, .int v2), (3, .int v3), (4, .int v4), (6, .int v6)]) hx hb dX9_many_102 hl (by decide) rfl (fun ls hl => ?_)
          refine lv_iinc (v := (v6 + (1 : Int32))) (lv' := [(6, .int (v6 + (1 : Int32))), (5, .int (0 : Int32)), (0, .ref (ad 9 0)), (1, .int v1), (2, .int v2), (3, .int v3), (4, .int v4)]) hx hb dX9_many_104 hl (k := 6) rfl rfl (by decide) rfl (fun ls hl => ?_)
          refine lv_goto (tgt := 56) hx hb dX9_many_107 (by decide) ?_
          exact ih (0 : Int32) (v6 + (1 : Int32)) hf _ _ ls hP hS (lv_sub hl [2, 3, 4, 5, 6, 1, 0] rfl)
        · have hf := ifn hf c16
          refine lv_iload hx hb dX9_many_70 (lv_at hl 4 rfl) ?_
          refine lv_iload hx hb dX9_many_72 (lv_at hl 6 rfl) ?_
          refine lv_ishr hx hb dX9_many_74 ?_
          refine lv_iconst (v := (1 : Int32)) hx hb dX9_many_75 (by decide) ?_
          refine lv_iand hx hb dX9_many_76 ?_
          refine lv_if_eq (tgt := 97) hx hb dX9_many_77 (by decide) (fun c15 => ?_) (fun c15 => ?_)
          · have hf := ifp hf c15
            refine lv_iconst (v := (1 : Int32)) hx hb dX9_many_97 (by decide) ?_
            refine lv_goto (tgt := 102) hx hb dX9_many_98 (by decide) ?_
            refine lv_istore (lv' := [(5, .int (1 : Int32)), (0, .ref (ad 9 0)), (1, .int v1), (2, .int v2), (3, .int v3), (4, .int v4), (6, .int v6)]) hx hb dX9_many_102 hl (by decide) rfl (fun ls hl => ?_)
            refine lv_iinc (v := (v6 + (1 : Int32))) (lv' := [(6, .int (v6 + (1 : Int32))), (5, .int (1 : Int32)), (0, .ref (ad 9 0)), (1, .int v1), (2, .int v2), (3, .int v3), (4, .int v4)]) hx hb dX9_many_104 hl (k := 6) rfl rfl (by decide) rfl (fun ls hl => ?_)
            refine lv_goto (tgt := 56) hx hb dX9_many_107 (by decide) ?_
            exact ih (1 : Int32) (v6 + (1 : Int32)) hf _ _ ls hP hS (lv_sub hl [2, 3, 4, 5, 6, 1, 0] rfl)
          · have hf := ifn hf c15
            refine lv_aload_n hx hb dX9_many_80 rfl (lv_at hl 0 rfl) ?_
            refine gt_9_46 (i := 0) C hP (hok.2.1 9 0 (Nat.le_of_ble_eq_true rfl)) lk_X9_77 dX9_many_81 ?_
            refine lv_iload hx hb dX9_many_84 (lv_at hl 4 rfl) ?_
            refine lv_iconst (v := (1 : Int32)) hx hb dX9_many_86 (by decide) ?_
            refine lv_iload hx hb dX9_many_87 (lv_at hl 6 rfl) ?_
            refine lv_ishl hx hb dX9_many_89 ?_
            refine lv_iconst (v := (-1 : Int32)) hx hb dX9_many_90 (by decide) ?_
            refine lv_ixor hx hb dX9_many_91 ?_
            refine lv_iand hx hb dX9_many_92 ?_
            obtain ⟨b13, hf⟩ := gsp hf
            refine ra_zld (k := 61) (i := 0) (n := 4096) (f := (gA w 61 0)) C hP (hok.2.1 61 0 (Nat.le_of_ble_eq_true rfl)) rfl b13 dX9_many_93 ?_
            refine lv_if_ne (tgt := 101) hx hb dX9_many_94 (by decide) (fun c14 => ?_) (fun c14 => ?_)
            · have hf := ifn hf c14
              refine lv_iconst (v := (0 : Int32)) hx hb dX9_many_101 (by decide) ?_
              refine lv_istore (lv' := [(5, .int (0 : Int32)), (0, .ref (ad 9 0)), (1, .int v1), (2, .int v2), (3, .int v3), (4, .int v4), (6, .int v6)]) hx hb dX9_many_102 hl (by decide) rfl (fun ls hl => ?_)
              refine lv_iinc (v := (v6 + (1 : Int32))) (lv' := [(6, .int (v6 + (1 : Int32))), (5, .int (0 : Int32)), (0, .ref (ad 9 0)), (1, .int v1), (2, .int v2), (3, .int v3), (4, .int v4)]) hx hb dX9_many_104 hl (k := 6) rfl rfl (by decide) rfl (fun ls hl => ?_)
              refine lv_goto (tgt := 56) hx hb dX9_many_107 (by decide) ?_
              exact ih (0 : Int32) (v6 + (1 : Int32)) hf _ _ ls hP hS (lv_sub hl [2, 3, 4, 5, 6, 1, 0] rfl)
            · have hf := ifp hf c14
              refine lv_iconst (v := (1 : Int32)) hx hb dX9_many_97 (by decide) ?_
              refine lv_goto (tgt := 102) hx hb dX9_many_98 (by decide) ?_
              refine lv_istore (lv' := [(5, .int (1 : Int32)), (0, .ref (ad 9 0)), (1, .int v1), (2, .int v2), (3, .int v3), (4, .int v4), (6, .int v6)]) hx hb dX9_many_102 hl (by decide) rfl (fun ls hl => ?_)
              refine lv_iinc (v := (v6 + (1 : Int32))) (lv' := [(6, .int (v6 + (1 : Int32))), (5, .int (1 : Int32)), (0, .ref (ad 9 0)), (1, .int v1), (2, .int v2), (3, .int v3), (4, .int v4)]) hx hb dX9_many_104 hl (k := 6) rfl rfl (by decide) rfl (fun ls hl => ?_)
              refine lv_goto (tgt := 56) hx hb dX9_many_107 (by decide) ?_
              exact ih (1 : Int32) (v6 + (1 : Int32)) hf _ _ ls hP hS (lv_sub hl [2, 3, 4, 5, 6, 1, 0] rfl)
  have L_lp_X9_many_20 : ∀ (v1 : Int32) (v2 : Int32) (k : Mem → Int32 → Option (Mem × Int32)) (hk : ∀ (w : Mem) (v3 : Int32), k w v3 = some (w', r) → WP p l e (rmk 4) s m [.ref (ad 9 0), .int x1, .int x2].toArray below meth c D ca ad PL A (MQ below (qcR D ca ad PL Z A w' (some (.int r))) [.ref (ad 9 0), .int x1, .int x2].toArray s 0 0 A) 7 129 [] [(3, .int v3)] w) (n : Nat) (w : Mem) (v3 : Int32) (v4 : Int32), lp_X9_many_20 k N   v1 v2 n w v3 v4 = some (w', r) → WP p l e (rmk 4) s m [.ref (ad 9 0), .int x1, .int x2].toArray below meth c D ca ad PL A (MQ below (qcR D ca ad PL Z A w' (some (.int r))) [.ref (ad 9 0), .int x1, .int x2].toArray s 0 0 A) 7 20 [] [(0, .ref (ad 9 0)), (1, .int v1), (2, .int v2), (3, .int v3), (4, .int v4)] w := by
    intro v1 v2 k hk n
    induction n with
    | zero => intro w v3 v4 hf; rw [lp_X9_many_20] at hf; cases hf
    | succ n ih =>
      intro w v3 v4 hf _ _ ls hP hS hl
      rw [lp_X9_many_20] at hf
      refine lv_iload hx hb dX9_many_20 (lv_at hl 4 rfl) ?_
      refine lv_aload_n hx hb dX9_many_22 rfl (lv_at hl 0 rfl) ?_
      obtain ⟨z6, q7, hf⟩ := bsp hf
      refine kc_V (ci := 9) (i := 0) (As := []) (rest := [.int v4]) hok.2.2 C hP hS hl.1 (hok.2.1 9 0 (Nat.le_of_ble_eq_true rfl)) rfl rfl cw_X9_allSames ml_X9_329 (c_X9_allSames l D ca ad PL Z A hok N w  z6 q7) rfl ⟨rfl, rfl⟩ ⟨Nat.le_of_ble_eq_true rfl, Nat.le_of_ble_eq_true rfl⟩ ⟨Nat.zero_le _, Nat.zero_le _⟩ (Nat.le_of_ble_eq_true rfl) rfl dX9_many_23 (fun H locs hP hS => ?_)
      refine lv_icmp_gt (tgt := 129) hx hb dX9_many_26 (by decide) (fun c18 => ?_) (fun c18 => ?_)
      · have hf := ifp hf c18
        exact hk w v3 hf _ _ ls hP hS (lv_sub hl [3] rfl)
      · have hf := ifn hf c18
        refine lv_aload_n hx hb dX9_many_29 rfl (lv_at hl 0 rfl) ?_
        refine gt_9_46 (i := 0) C hP (hok.2.1 9 0 (Nat.le_of_ble_eq_true rfl)) lk_X9_77 dX9_many_30 ?_
        refine lv_iload hx hb dX9_many_33 (lv_at hl 4 rfl) ?_
        refine lv_aload_n hx hb dX9_many_35 rfl (lv_at hl 0 rfl) ?_
        refine lv_iload hx hb dX9_many_36 (lv_at hl 4 rfl) ?_
        refine lv_iload_n hx hb dX9_many_38 rfl (lv_at hl 1 rfl) ?_
        refine lv_iload_n hx hb dX9_many_39 rfl (lv_at hl 2 rfl) ?_
        obtain ⟨z8, q9, hf⟩ := bsp hf
        refine kc_V (ci := 9) (i := 0) (As := [.int v4, .int v1, .int v2]) (rest := [.int v4, .ref (ad 61 0)]) hok.2.2 C hP hS hl.1 (hok.2.1 9 0 (Nat.le_of_ble_eq_true rfl)) rfl rfl cw_X9_isOneBy ml_X9_332 (c_X9_isOneBy l D ca ad PL Z A hok N w v4 v1 v2 z8.1 z8.2 q9) rfl ⟨rfl, rfl⟩ ⟨Nat.le_of_ble_eq_true rfl, Nat.le_of_ble_eq_true rfl⟩ ⟨Nat.zero_le _, Nat.zero_le _⟩ (Nat.le_of_ble_eq_true rfl) rfl dX9_many_40 (fun H locs hP hS => ?_)
        obtain ⟨b10, hf⟩ := gsp hf
        refine ra_zst (k := 61) (i := 0) (n := 4096) C hok.1 hP hS (hok.2.1 61 0 (Nat.le_of_ble_eq_true rfl)) (fun _ => rfl) b10 dX9_many_43 (fun H locs hP hS => ?_)
        refine lv_aload_n hx hb dX9_many_44 rfl (lv_at hl 0 rfl) ?_
        refine gt_9_46 (i := 0) C hP (hok.2.1 9 0 (Nat.le_of_ble_eq_true rfl)) lk_X9_77 dX9_many_45 ?_
        refine lv_iload hx hb dX9_many_48 (lv_at hl 4 rfl) ?_
        refine ra_zld (k := 61) (i := 0) (n := 4096) (f := (gA (sA z8.1 61 0 v4.toNatClampNeg (vp_nar .boolean z8.2)) 61 0)) C hP (hok.2.1 61 0 (Nat.le_of_ble_eq_true rfl)) rfl b10 dX9_many_50 ?_
        refine lv_istore (lv' := [(5, .int (gA (sA z8.1 61 0 v4.toNatClampNeg (vp_nar .boolean z8.2)) 61 0 v4.toNatClampNeg)), (0, .ref (ad 9 0)), (1, .int v1), (2, .int v2), (3, .int v3), (4, .int v4)]) hx hb dX9_many_51 hl (by decide) rfl (fun ls hl => ?_)
        refine lv_iconst (v := (0 : Int32)) hx hb dX9_many_53 (by decide) ?_
        refine lv_istore (lv' := [(6, .int (0 : Int32)), (5, .int (gA (sA z8.1 61 0 v4.toNatClampNeg (vp_nar .boolean z8.2)) 61 0 v4.toNatClampNeg)), (0, .ref (ad 9 0)), (1, .int v1), (2, .int v2), (3, .int v3), (4, .int v4)]) hx hb dX9_many_54 hl (by decide) rfl (fun ls hl => ?_)
        exact L_lp_X9_many_56 (sA z8.1 61 0 v4.toNatClampNeg (vp_nar .boolean z8.2)) v1 v2 v3 v4 _ (fun u5_11 hf H locs ls hP hS hl => P_f_X9_many_110_20 v1 v2 _ ih _ hk (sA z8.1 61 0 v4.toNatClampNeg (vp_nar .boolean z8.2)) v3 v4 u5_11 hf _ _ ls hP hS (lv_sub hl [0, 1, 2, 3, 4, 5] rfl)) N (gA (sA z8.1 61 0 v4.toNatClampNeg (vp_nar .boolean z8.2)) 61 0 v4.toNatClampNeg) (0 : Int32) hf _ _ ls hP hS (lv_sub hl [2, 3, 4, 5, 6, 1, 0] rfl)
  unfold f_X9_many at hf
  -- walk
  refine lv_aload_n hx hb dX9_many_0 rfl (lv_at hl 0 rfl) ?_
  refine lv_aload_n hx hb dX9_many_1 rfl (lv_at hl 0 rfl) ?_
  refine lv_iload_n hx hb dX9_many_2 rfl (lv_at hl 1 rfl) ?_
  refine lv_iload_n hx hb dX9_many_3 rfl (lv_at hl 2 rfl) ?_
  obtain ⟨z1, q2, hf⟩ := bsp hf
  refine kc_V (ci := 9) (i := 0) (As := [.int x1, .int x2]) (rest := [.ref (ad 9 0)]) hok.2.2 C hP hS hl.1 (hok.2.1 9 0 (Nat.le_of_ble_eq_true rfl)) rfl rfl cw_X9_whyNotOne ml_X9_335 (c_X9_whyNotOne l D ca ad PL Z A hok N w x1 x2 z1 q2) rfl ⟨rfl, rfl⟩ ⟨Nat.le_of_ble_eq_true rfl, Nat.le_of_ble_eq_true rfl⟩ ⟨Nat.zero_le _, Nat.zero_le _⟩ (Nat.le_of_ble_eq_true rfl) rfl dX9_many_4 (fun H locs hP hS => ?_)
  obtain ⟨z3, q4, hf⟩ := bsp hf
  refine kc_V (ci := 9) (i := 0) (As := [.int z1]) (rest := []) hok.2.2 C hP hS hl.1 (hok.2.1 9 0 (Nat.le_of_ble_eq_true rfl)) rfl rfl cw_X9_isRefused ml_X9_223 (c_X9_isRefused l D ca ad PL Z A hok N w z1 z3.1 z3.2 q4) rfl ⟨rfl, rfl⟩ ⟨Nat.le_of_ble_eq_true rfl, Nat.le_of_ble_eq_true rfl⟩ ⟨Nat.zero_le _, Nat.zero_le _⟩ (Nat.le_of_ble_eq_true rfl) rfl dX9_many_7 (fun H locs hP hS => ?_)
  refine lv_if_eq (tgt := 15) hx hb dX9_many_10 (by decide) (fun c19 => ?_) (fun c19 => ?_)
  · have hf := ifp hf c19
    refine lv_iconst (v := (0 : Int32)) hx hb dX9_many_15 (by decide) ?_
    refine lv_istore_n (lv' := [(3, .int (0 : Int32)), (0, .ref (ad 9 0)), (1, .int x1), (2, .int x2)]) hx hb dX9_many_16 rfl hl (by decide) rfl (fun ls hl => ?_)
    refine lv_iconst (v := (0 : Int32)) hx hb dX9_many_17 (by decide) ?_
    refine lv_istore (lv' := [(4, .int (0 : Int32)), (3, .int (0 : Int32)), (0, .ref (ad 9 0)), (1, .int x1), (2, .int x2)]) hx hb dX9_many_18 hl (by decide) rfl (fun ls hl => ?_)
    exact L_lp_X9_many_20 x1 x2 _ (fun w_5 u3_5 hf H locs ls hP hS hl => P_f_X9_many_129 w_5 u3_5 hf _ _ ls hP hS (lv_sub hl [0] rfl)) N z3.1 (0 : Int32) (0 : Int32) hf _ _ ls hP hS (lv_sub hl [2, 3, 4, 1, 0] rfl)
  · have hf := ifn hf c19
    refine lv_iconst (v := (-1 : Int32)) hx hb dX9_many_13 (by decide) ?_
    exact kr_i hok.2.2 C hlocks hr rfl hP hS (congrArg Prod.fst (Option.some.inj hf)) (congrArg Prod.snd (Option.some.inj hf)) dX9_many_14
def f_X9_base_65 (N : Nat) (w : Mem)  (v1 : Int32) : Option (Mem × Int32) :=
  some (w, v1)
def lp_X9_base_17 (k : Mem → Int32 → Option (Mem × Int32)) (N : Nat)  : Nat → Mem → Int32 → Int32 → Option (Mem × Int32)
  | 0, _, _, _ => none
  | n + 1, w, v1, v2 => (if v2 < (0 : Int32) then
(k w v1)
else
(if inb v2 13 = true then (Option.bind (f_X9_isOneBy N w (v1 &&& (((1 : Int32) <<< (v2 &&& 31)) ^^^ (-1 : Int32))) (gA w 48 0 v2.toNatClampNeg) (gA w 49 0 v2.toNatClampNeg)) (fun z5 => (if z5.2 = (0 : Int32) then
(lp_X9_base_17 k N    n z5.1 v1 (v2 + (-1 : Int32)))
else
(lp_X9_base_17 k N    n z5.1 (v1 &&& (((1 : Int32) <<< (v2 &&& 31)) ^^^ (-1 : Int32))) (v2 + (-1 : Int32)))))) else none))
def f_X9_base (N : Nat) (w : Mem)  : Option (Mem × Int32) :=
  (Option.bind (f_X9_allSames N (sF w 9 0 0 (0 : Int32)) ) (fun z1 => (lp_X9_base_17 (fun (w_3 : Mem) (u1_3 : Int32) => (f_X9_base_65 N w_3  u1_3 )) N    N (sF w 9 0 0 (0 : Int32)) z1 ((gF (sF w 9 0 0 (0 : Int32)) 9 30 0) - (1 : Int32)))))
set_option maxRecDepth 100000 in
set_option maxHeartbeats 4000000 in
theorem c_X9_base (l : Launch) (D : va_G) (ca : Nat → ClassId) (ad : Nat → Nat → Nat) (PL : List (Nat × Nat)) (Z : State → Prop) (A : Nat → Prop) (hok : okc bM Z A ad PL) (N : Nat) (w : Mem)  (w' : Mem) (r : Int32) (hf : f_X9_base N w  = some (w', r)) : CT l yX9_base (wsy yX9_base cX9_base 3 (some .int)) (rmk 4) D ca ad PL Z A [.ref (ad 9 0)] w w' (some (.int r)) := by
  refine Met.ofW (cc := cX9_base) (maxL := 3) (ret := (some .int)) (by decide +kernel) rfl ?_
  intro p e s m args below meth c s₁ B hml hv
  obtain ⟨rfl, hP, hK, hZ⟩ := hv
  have hx := B.exec
  have hb := B.bytes
  have hr := B.returns
  have hlocks := B.notSynchronized
  have hts : ∀ w ∈ ALL, w.before _ s = true := fun w hw => atoms_spec (ws := wsy yX9_base cX9_base 3 (some .int)) B.pre w (List.mem_cons_of_mem _ hw)
  have hown : s.vm.findClass RX9 = some m.cls := findClass_of_methodNamed B.named
  have C : CX p s m _ c cX9_base RX9 3 D ca Z := ⟨hx, hb, hml, hown, hts, hK, hZ⟩
  have hS : va_S A s.heap s.heap [] := va_S.rf
  have hl := lv_entry ([.ref (ad 9 0)]) (n := 3) (Nat.le_of_ble_eq_true rfl)
  rw [lg_entry_eq]
  generalize (lg_sl ([.ref (ad 9 0)]) ++ List.replicate (3 - (lg_sl ([.ref (ad 9 0)])).length) Slot.unset).toArray = ls at hl ⊢
  have hl : lv_has ls 3 [(0, .ref (ad 9 0))] := hl
  show W p l e (rmk 4) s m _ below meth c s.heap [] 0 0 _ _
  have P_f_X9_base_65 : ∀ (w : Mem) (v1 : Int32), f_X9_base_65 N w  v1  = some (w', r) → WP p l e (rmk 4) s m [.ref (ad 9 0)].toArray below meth c D ca ad PL A (MQ below (qcR D ca ad PL Z A w' (some (.int r))) [.ref (ad 9 0)].toArray s 0 0 A) 3 65 [] [(1, .int v1)] w := by
    intro w v1 hf _ _ ls hP hS hl
    unfold f_X9_base_65 at hf
    refine lv_iload_n hx hb dX9_base_65 rfl (lv_at hl 0 rfl) ?_
    exact kr_i hok.2.2 C hlocks hr rfl hP hS (congrArg Prod.fst (Option.some.inj hf)) (congrArg Prod.snd (Option.some.inj hf)) dX9_base_66
  have L_lp_X9_base_17 : ∀ (k : Mem → Int32 → Option (Mem × Int32)) (hk : ∀ (w : Mem) (v1 : Int32), k w v1 = some (w', r) → WP p l e (rmk 4) s m [.ref (ad 9 0)].toArray below meth c D ca ad PL A (MQ below (qcR D ca ad PL Z A w' (some (.int r))) [.ref (ad 9 0)].toArray s 0 0 A) 3 65 [] [(1, .int v1)] w) (n : Nat) (w : Mem) (v1 : Int32) (v2 : Int32), lp_X9_base_17 k N    n w v1 v2 = some (w', r) → WP p l e (rmk 4) s m [.ref (ad 9 0)].toArray below meth c D ca ad PL A (MQ below (qcR D ca ad PL Z A w' (some (.int r))) [.ref (ad 9 0)].toArray s 0 0 A) 3 17 [] [(0, .ref (ad 9 0)), (1, .int v1), (2, .int v2)] w := by
    intro k hk n
    induction n with
    | zero => intro w v1 v2 hf; rw [lp_X9_base_17] at hf; cases hf
    | succ n ih =>
      intro w v1 v2 hf _ _ ls hP hS hl
      rw [lp_X9_base_17] at hf
      refine lv_iload_n hx hb dX9_base_17 rfl (lv_at hl 2 rfl) ?_
      refine lv_if_lt (tgt := 65) hx hb dX9_base_18 (by decide) (fun c8 => ?_) (fun c8 => ?_)
      · have hf := ifp hf c8
        exact hk w v1 hf _ _ ls hP hS (lv_sub hl [1] rfl)
      · have hf := ifn hf c8
        refine lv_aload_n hx hb dX9_base_21 rfl (lv_at hl 0 rfl) ?_
        refine lv_iload_n hx hb dX9_base_22 rfl (lv_at hl 1 rfl) ?_
        refine lv_iconst (v := (1 : Int32)) hx hb dX9_base_23 (by decide) ?_
        refine lv_iload_n hx hb dX9_base_24 rfl (lv_at hl 2 rfl) ?_
        refine lv_ishl hx hb dX9_base_25 ?_
        refine lv_iconst (v := (-1 : Int32)) hx hb dX9_base_26 (by decide) ?_
        refine lv_ixor hx hb dX9_base_27 ?_
        refine lv_iand hx hb dX9_base_28 ?_
        refine lv_aload_n hx hb dX9_base_29 rfl (lv_at hl 0 rfl) ?_
        refine gt_9_31 (i := 0) C hP (hok.2.1 9 0 (Nat.le_of_ble_eq_true rfl)) lk_X9_38 dX9_base_30 ?_
        refine lv_iload_n hx hb dX9_base_33 rfl (lv_at hl 2 rfl) ?_
        obtain ⟨b4, hf⟩ := gsp hf
        refine ra_ild (k := 48) (i := 0) (n := 13) (f := (gA w 48 0)) C hP (hok.2.1 48 0 (Nat.le_of_ble_eq_true rfl)) rfl b4 dX9_base_34 ?_
        refine lv_aload_n hx hb dX9_base_35 rfl (lv_at hl 0 rfl) ?_
        refine gt_9_32 (i := 0) C hP (hok.2.1 9 0 (Nat.le_of_ble_eq_true rfl)) lk_X9_41 dX9_base_36 ?_
        refine lv_iload_n hx hb dX9_base_39 rfl (lv_at hl 2 rfl) ?_
        refine ra_ild (k := 49) (i := 0) (n := 13) (f := (gA w 49 0)) C hP (hok.2.1 49 0 (Nat.le_of_ble_eq_true rfl)) rfl b4 dX9_base_40 ?_
        obtain ⟨z5, q6, hf⟩ := bsp hf
        refine kc_V (ci := 9) (i := 0) (As := [.int (v1 &&& (((1 : Int32) <<< (v2 &&& 31)) ^^^ (-1 : Int32))), .int (gA w 48 0 v2.toNatClampNeg), .int (gA w 49 0 v2.toNatClampNeg)]) (rest := []) hok.2.2 C hP hS hl.1 (hok.2.1 9 0 (Nat.le_of_ble_eq_true rfl)) rfl rfl cw_X9_isOneBy ml_X9_332 (c_X9_isOneBy l D ca ad PL Z A hok N w (v1 &&& (((1 : Int32) <<< (v2 &&& 31)) ^^^ (-1 : Int32))) (gA w 48 0 v2.toNatClampNeg) (gA w 49 0 v2.toNatClampNeg) z5.1 z5.2 q6) rfl ⟨rfl, rfl⟩ ⟨Nat.le_of_ble_eq_true rfl, Nat.le_of_ble_eq_true rfl⟩ ⟨Nat.zero_le _, Nat.zero_le _⟩ (Nat.le_of_ble_eq_true rfl) rfl dX9_base_41 (fun H locs hP hS => ?_)
        refine lv_if_eq (tgt := 57) hx hb dX9_base_44 (by decide) (fun c7 => ?_) (fun c7 => ?_)
        · have hf := ifp hf c7
          refine lv_iload_n hx hb dX9_base_57 rfl (lv_at hl 1 rfl) ?_
          refine lv_istore_n (lv' := [(1, .int v1), (0, .ref (ad 9 0)), (2, .int v2)]) hx hb dX9_base_58 rfl hl (by decide) rfl (fun ls hl => ?_)
          refine lv_iinc (v := (v2 + (-1 : Int32))) (lv' := [(2, .int (v2 + (-1 : Int32))), (1, .int v1), (0, .ref (ad 9 0))]) hx hb dX9_base_59 hl (k := 2) rfl rfl (by decide) rfl (fun ls hl => ?_)
          refine lv_goto (tgt := 17) hx hb dX9_base_62 (by decide) ?_
          exact ih z5.1 v1 (v2 + (-1 : Int32)) hf _ _ ls hP hS (lv_sub hl [2, 1, 0] rfl)
        · have hf := ifn hf c7
          refine lv_iload_n hx hb dX9_base_47 rfl (lv_at hl 1 rfl) ?_
          refine lv_iconst (v := (1 : Int32)) hx hb dX9_base_48 (by decide) ?_
          refine lv_iload_n hx hb dX9_base_49 rfl (lv_at hl 2 rfl) ?_
          refine lv_ishl hx hb dX9_base_50 ?_
          refine lv_iconst (v := (-1 : Int32)) hx hb dX9_base_51 (by decide) ?_
          refine lv_ixor hx hb dX9_base_52 ?_
          refine lv_iand hx hb dX9_base_53 ?_
          refine lv_goto (tgt := 58) hx hb dX9_base_54 (by decide) ?_
          refine lv_istore_n (lv' := [(1, .int (v1 &&& (((1 : Int32) <<< (v2 &&& 31)) ^^^ (-1 : Int32)))), (0, .ref (ad 9 0)), (2, .int v2)]) hx hb dX9_base_58 rfl hl (by decide) rfl (fun ls hl => ?_)
          refine lv_iinc (v := (v2 + (-1 : Int32))) (lv' := [(2, .int (v2 + (-1 : Int32))), (1, .int (v1 &&& (((1 : Int32) <<< (v2 &&& 31)) ^^^ (-1 : Int32)))), (0, .ref (ad 9 0))]) hx hb dX9_base_59 hl (k := 2) rfl rfl (by decide) rfl (fun ls hl => ?_)
          refine lv_goto (tgt := 17) hx hb dX9_base_62 (by decide) ?_
          exact ih z5.1 (v1 &&& (((1 : Int32) <<< (v2 &&& 31)) ^^^ (-1 : Int32))) (v2 + (-1 : Int32)) hf _ _ ls hP hS (lv_sub hl [2, 1, 0] rfl)
  unfold f_X9_base at hf
  -- walk
  refine lv_aload_n hx hb dX9_base_0 rfl (lv_at hl 0 rfl) ?_
  refine lv_iconst (v := (0 : Int32)) hx hb dX9_base_1 (by decide) ?_
  refine pt_9_0 (i := 0) (v := (0 : Int32)) C hok.1 hP hS (hok.2.1 9 0 (Nat.le_of_ble_eq_true rfl)) lk_X9_103 dX9_base_2 (fun H locs hP hS => ?_)
  refine lv_aload_n hx hb dX9_base_5 rfl (lv_at hl 0 rfl) ?_
  obtain ⟨z1, q2, hf⟩ := bsp hf
  refine kc_V (ci := 9) (i := 0) (As := []) (rest := []) hok.2.2 C hP hS hl.1 (hok.2.1 9 0 (Nat.le_of_ble_eq_true rfl)) rfl rfl cw_X9_allSames ml_X9_329 (c_X9_allSames l D ca ad PL Z A hok N (sF w 9 0 0 (0 : Int32))  z1 q2) rfl ⟨rfl, rfl⟩ ⟨Nat.le_of_ble_eq_true rfl, Nat.le_of_ble_eq_true rfl⟩ ⟨Nat.zero_le _, Nat.zero_le _⟩ (Nat.le_of_ble_eq_true rfl) rfl dX9_base_6 (fun H locs hP hS => ?_)
  refine lv_istore_n (lv' := [(1, .int z1), (0, .ref (ad 9 0))]) hx hb dX9_base_9 rfl hl (by decide) rfl (fun ls hl => ?_)
  refine lv_aload_n hx hb dX9_base_10 rfl (lv_at hl 1 rfl) ?_
  refine gt_9_30 (i := 0) C hP (hok.2.1 9 0 (Nat.le_of_ble_eq_true rfl)) lk_X9_287 dX9_base_11 ?_
  refine lv_iconst (v := (1 : Int32)) hx hb dX9_base_14 (by decide) ?_
  refine lv_isub hx hb dX9_base_15 ?_
  refine lv_istore_n (lv' := [(2, .int ((gF (sF w 9 0 0 (0 : Int32)) 9 30 0) - (1 : Int32))), (1, .int z1), (0, .ref (ad 9 0))]) hx hb dX9_base_16 rfl hl (by decide) rfl (fun ls hl => ?_)
  exact L_lp_X9_base_17 _ (fun w_3 u1_3 hf H locs ls hP hS hl => P_f_X9_base_65 w_3 u1_3 hf _ _ ls hP hS (lv_sub hl [0] rfl)) N (sF w 9 0 0 (0 : Int32)) z1 ((gF (sF w 9 0 0 (0 : Int32)) 9 30 0) - (1 : Int32)) hf _ _ ls hP hS (lv_sub hl [2, 1, 0] rfl)
def f_X9_proves_50_s2 (N : Nat) (w : Mem)  (v1 : Int32) (v2 : Int32) (v3 : Int32) (s0 : Int32) : Option (Mem × Int32) :=
  (Option.bind (f_X9_isRefused N w s0) (fun z7 => (if z7.2 = (0 : Int32) then
(Option.bind (f_X9_isOneBy N z7.1 v1 v2 v3) (fun z9 => (if z9.2 = (0 : Int32) then
some (z9.1, (0 : Int32))
else
some (z9.1, (1 : Int32)))))
else
some (z7.1, (-1 : Int32)))))
def f_X9_proves_21_s1 (N : Nat) (w : Mem)  (v1 : Int32) (v2 : Int32) (v3 : Int32) (s0 : Int32) : Option (Mem × Int32) :=
  (if s0 = (0 : Int32) then
(f_X9_proves_50_s2 N w  v1 v2 v3 (1 : Int32))
else
(Option.bind (f_X9_allSames N w ) (fun z3 => (Option.bind (f_X9_in N w v1 (0 : Int32) z3) (fun z5 => (if z5 = (0 : Int32) then
(f_X9_proves_50_s2 N w  v1 v2 v3 (2 : Int32))
else
(f_X9_proves_50_s2 N w  v1 v2 v3 (0 : Int32))))))))
def f_X9_proves (N : Nat) (w : Mem) (x1 : Int32) (x2 : Int32) (x3 : Int32) : Option (Mem × Int32) :=
  (Option.bind (f_X9_isTerm N w x2) (fun z1 => (if z1 = (0 : Int32) then
(f_X9_proves_21_s1 N w  x1 x2 x3 (0 : Int32))
else
(Option.bind (f_X9_isTerm N w x3) (fun z15 => (if z15 = (0 : Int32) then
(f_X9_proves_21_s1 N w  x1 x2 x3 (0 : Int32))
else
(f_X9_proves_21_s1 N w  x1 x2 x3 (1 : Int32))))))))
set_option maxRecDepth 100000 in
set_option maxHeartbeats 4000000 in
theorem c_X9_proves (l : Launch) (D : va_G) (ca : Nat → ClassId) (ad : Nat → Nat → Nat) (PL : List (Nat × Nat)) (Z : State → Prop) (A : Nat → Prop) (hok : okc bM Z A ad PL) (N : Nat) (w : Mem) (x1 : Int32) (x2 : Int32) (x3 : Int32) (w' : Mem) (r : Int32) (hf : f_X9_proves N w x1 x2 x3 = some (w', r)) : CT l yX9_proves (wsy yX9_proves cX9_proves 5 (some .int)) (rmk 4) D ca ad PL Z A [.ref (ad 9 0), .int x1, .int x2, .int x3] w w' (some (.int r)) := by
  refine Met.ofW (cc := cX9_proves) (maxL := 5) (ret := (some .int)) (by decide +kernel) rfl ?_
  intro p e s m args below meth c s₁ B hml hv
  obtain ⟨rfl, hP, hK, hZ⟩ := hv
  have hx := B.exec
  have hb := B.bytes
  have hr := B.returns
  have hlocks := B.notSynchronized
  have hts : ∀ w ∈ ALL, w.before _ s = true := fun w hw => atoms_spec (ws := wsy yX9_proves cX9_proves 5 (some .int)) B.pre w (List.mem_cons_of_mem _ hw)
  have hown : s.vm.findClass RX9 = some m.cls := findClass_of_methodNamed B.named
  have C : CX p s m _ c cX9_proves RX9 5 D ca Z := ⟨hx, hb, hml, hown, hts, hK, hZ⟩
  have hS : va_S A s.heap s.heap [] := va_S.rf
  have hl := lv_entry ([.ref (ad 9 0), .int x1, .int x2, .int x3]) (n := 5) (Nat.le_of_ble_eq_true rfl)
  rw [lg_entry_eq]
  generalize (lg_sl ([.ref (ad 9 0), .int x1, .int x2, .int x3]) ++ List.replicate (5 - (lg_sl ([.ref (ad 9 0), .int x1, .int x2, .int x3])).length) Slot.unset).toArray = ls at hl ⊢
  have hl : lv_has ls 5 [(0, .ref (ad 9 0)), (1, .int x1), (2, .int x2), (3, .int x3)] := hl
  show W p l e (rmk 4) s m _ below meth c s.heap [] 0 0 _ _
  have P_f_X9_proves_50_s2 : ∀ (w : Mem) (v1 : Int32) (v2 : Int32) (v3 : Int32) (s0 : Int32), f_X9_proves_50_s2 N w  v1 v2 v3 s0 = some (w', r) → WP p l e (rmk 4) s m [.ref (ad 9 0), .int x1, .int x2, .int x3].toArray below meth c D ca ad PL A (MQ below (qcR D ca ad PL Z A w' (some (.int r))) [.ref (ad 9 0), .int x1, .int x2, .int x3].toArray s 0 0 A) 5 50 [.int s0, .ref (ad 9 0)] [(0, .ref (ad 9 0)), (1, .int v1), (2, .int v2), (3, .int v3)] w := by
    intro w v1 v2 v3 s0 hf _ _ ls hP hS hl
    unfold f_X9_proves_50_s2 at hf
    obtain ⟨z7, q8, hf⟩ := bsp hf
    refine kc_V (ci := 9) (i := 0) (As := [.int s0]) (rest := []) hok.2.2 C hP hS hl.1 (hok.2.1 9 0 (Nat.le_of_ble_eq_true rfl)) rfl rfl cw_X9_isRefused ml_X9_223 (c_X9_isRefused l D ca ad PL Z A hok N w s0 z7.1 z7.2 q8) rfl ⟨rfl, rfl⟩ ⟨Nat.le_of_ble_eq_true rfl, Nat.le_of_ble_eq_true rfl⟩ ⟨Nat.zero_le _, Nat.zero_le _⟩ (Nat.le_of_ble_eq_true rfl) rfl dX9_proves_50 (fun H locs hP hS => ?_)
    refine lv_if_eq (tgt := 58) hx hb dX9_proves_53 (by decide) (fun c12 => ?_) (fun c12 => ?_)
    · have hf := ifp hf c12
      refine lv_aload_n hx hb dX9_proves_58 rfl (lv_at hl 0 rfl) ?_
      refine lv_iload_n hx hb dX9_proves_59 rfl (lv_at hl 1 rfl) ?_
      refine lv_iload_n hx hb dX9_proves_60 rfl (lv_at hl 2 rfl) ?_
      refine lv_iload_n hx hb dX9_proves_61 rfl (lv_at hl 3 rfl) ?_
      obtain ⟨z9, q10, hf⟩ := bsp hf
      refine kc_V (ci := 9) (i := 0) (As := [.int v1, .int v2, .int v3]) (rest := []) hok.2.2 C hP hS hl.1 (hok.2.1 9 0 (Nat.le_of_ble_eq_true rfl)) rfl rfl cw_X9_isOneBy ml_X9_332 (c_X9_isOneBy l D ca ad PL Z A hok N z7.1 v1 v2 v3 z9.1 z9.2 q10) rfl ⟨rfl, rfl⟩ ⟨Nat.le_of_ble_eq_true rfl, Nat.le_of_ble_eq_true rfl⟩ ⟨Nat.zero_le _, Nat.zero_le _⟩ (Nat.le_of_ble_eq_true rfl) rfl dX9_proves_62 (fun H locs hP hS => ?_)
      refine lv_if_eq (tgt := 72) hx hb dX9_proves_65 (by decide) (fun c11 => ?_) (fun c11 => ?_)
      · have hf := ifp hf c11
        refine lv_iconst (v := (0 : Int32)) hx hb dX9_proves_72 (by decide) ?_
        exact kr_i hok.2.2 C hlocks hr rfl hP hS (congrArg Prod.fst (Option.some.inj hf)) (congrArg Prod.snd (Option.some.inj hf)) dX9_proves_73
      · have hf := ifn hf c11
        refine lv_iconst (v := (1 : Int32)) hx hb dX9_proves_68 (by decide) ?_
        refine lv_goto (tgt := 73) hx hb dX9_proves_69 (by decide) ?_
        exact kr_i hok.2.2 C hlocks hr rfl hP hS (congrArg Prod.fst (Option.some.inj hf)) (congrArg Prod.snd (Option.some.inj hf)) dX9_proves_73
    · have hf := ifn hf c12
      refine lv_iconst (v := (-1 : Int32)) hx hb dX9_proves_56 (by decide) ?_
      exact kr_i hok.2.2 C hlocks hr rfl hP hS (congrArg Prod.fst (Option.some.inj hf)) (congrArg Prod.snd (Option.some.inj hf)) dX9_proves_57
  have P_f_X9_proves_21_s1 : ∀ (w : Mem) (v1 : Int32) (v2 : Int32) (v3 : Int32) (s0 : Int32), f_X9_proves_21_s1 N w  v1 v2 v3 s0 = some (w', r) → WP p l e (rmk 4) s m [.ref (ad 9 0), .int x1, .int x2, .int x3].toArray below meth c D ca ad PL A (MQ below (qcR D ca ad PL Z A w' (some (.int r))) [.ref (ad 9 0), .int x1, .int x2, .int x3].toArray s 0 0 A) 5 21 [.int s0] [(0, .ref (ad 9 0)), (1, .int v1), (2, .int v2), (3, .int v3)] w := by
    intro w v1 v2 v3 s0 hf _ _ ls hP hS hl
    unfold f_X9_proves_21_s1 at hf
    refine lv_istore (lv' := [(4, .int s0), (0, .ref (ad 9 0)), (1, .int v1), (2, .int v2), (3, .int v3)]) hx hb dX9_proves_21 hl (by decide) rfl (fun ls hl => ?_)
    refine lv_aload_n hx hb dX9_proves_23 rfl (lv_at hl 1 rfl) ?_
    refine lv_iload hx hb dX9_proves_24 (lv_at hl 0 rfl) ?_
    refine lv_if_ne (tgt := 33) hx hb dX9_proves_26 (by decide) (fun c14 => ?_) (fun c14 => ?_)
    · have hf := ifn hf c14
      refine lv_iload_n hx hb dX9_proves_33 rfl (lv_at hl 2 rfl) ?_
      refine lv_iconst (v := (0 : Int32)) hx hb dX9_proves_34 (by decide) ?_
      refine lv_aload_n hx hb dX9_proves_35 rfl (lv_at hl 1 rfl) ?_
      obtain ⟨z3, q4, hf⟩ := bsp hf
      refine kc_V (ci := 9) (i := 0) (As := []) (rest := [.int (0 : Int32), .int v1, .ref (ad 9 0)]) hok.2.2 C hP hS hl.1 (hok.2.1 9 0 (Nat.le_of_ble_eq_true rfl)) rfl rfl cw_X9_allSames ml_X9_329 (c_X9_allSames l D ca ad PL Z A hok N w  z3 q4) rfl ⟨rfl, rfl⟩ ⟨Nat.le_of_ble_eq_true rfl, Nat.le_of_ble_eq_true rfl⟩ ⟨Nat.zero_le _, Nat.zero_le _⟩ (Nat.le_of_ble_eq_true rfl) rfl dX9_proves_36 (fun H locs hP hS => ?_)
      obtain ⟨z5, q6, hf⟩ := bsp hf
      refine kc_S (As := [.int v1, .int (0 : Int32), .int z3]) (rest := [.ref (ad 9 0)]) hok.2.2 C hP hS hl.1 cw_X9_in ml_X9_132 (c_X9_in l D ca ad PL Z A hok N w v1 (0 : Int32) z3 z5 q6) rfl ⟨rfl, rfl⟩ ⟨Nat.le_of_ble_eq_true rfl, Nat.le_of_ble_eq_true rfl⟩ ⟨Nat.zero_le _, Nat.zero_le _⟩ (Nat.le_of_ble_eq_true rfl) rfl dX9_proves_39 (fun H locs hP hS => ?_)
      refine lv_if_eq (tgt := 49) hx hb dX9_proves_42 (by decide) (fun c13 => ?_) (fun c13 => ?_)
      · have hf := ifp hf c13
        refine lv_iconst (v := (2 : Int32)) hx hb dX9_proves_49 (by decide) ?_
        exact P_f_X9_proves_50_s2 w v1 v2 v3 (2 : Int32) hf _ _ ls hP hS (lv_sub hl [1, 2, 3, 4] rfl)
      · have hf := ifn hf c13
        refine lv_iconst (v := (0 : Int32)) hx hb dX9_proves_45 (by decide) ?_
        refine lv_goto (tgt := 50) hx hb dX9_proves_46 (by decide) ?_
        exact P_f_X9_proves_50_s2 w v1 v2 v3 (0 : Int32) hf _ _ ls hP hS (lv_sub hl [1, 2, 3, 4] rfl)
    · have hf := ifp hf c14
      refine lv_iconst (v := (1 : Int32)) hx hb dX9_proves_29 (by decide) ?_
      refine lv_goto (tgt := 50) hx hb dX9_proves_30 (by decide) ?_
      exact P_f_X9_proves_50_s2 w v1 v2 v3 (1 : Int32) hf _ _ ls hP hS (lv_sub hl [1, 2, 3, 4] rfl)
  unfold f_X9_proves at hf
  -- walk
  refine lv_aload_n hx hb dX9_proves_0 rfl (lv_at hl 0 rfl) ?_
  refine lv_iload_n hx hb dX9_proves_1 rfl (lv_at hl 2 rfl) ?_
  obtain ⟨z1, q2, hf⟩ := bsp hf
  refine kc_V (ci := 9) (i := 0) (As := [.int x2]) (rest := []) hok.2.2 C hP hS hl.1 (hok.2.1 9 0 (Nat.le_of_ble_eq_true rfl)) rfl rfl cw_X9_isTerm ml_X9_317 (c_X9_isTerm l D ca ad PL Z A hok N w x2 z1 q2) rfl ⟨rfl, rfl⟩ ⟨Nat.le_of_ble_eq_true rfl, Nat.le_of_ble_eq_true rfl⟩ ⟨Nat.zero_le _, Nat.zero_le _⟩ (Nat.le_of_ble_eq_true rfl) rfl dX9_proves_2 (fun H locs hP hS => ?_)
  refine lv_if_eq (tgt := 20) hx hb dX9_proves_5 (by decide) (fun c18 => ?_) (fun c18 => ?_)
  · have hf := ifp hf c18
    refine lv_iconst (v := (0 : Int32)) hx hb dX9_proves_20 (by decide) ?_
    exact P_f_X9_proves_21_s1 w x1 x2 x3 (0 : Int32) hf _ _ ls hP hS (lv_sub hl [0, 1, 2, 3] rfl)
  · have hf := ifn hf c18
    refine lv_aload_n hx hb dX9_proves_8 rfl (lv_at hl 0 rfl) ?_
    refine lv_iload_n hx hb dX9_proves_9 rfl (lv_at hl 3 rfl) ?_
    obtain ⟨z15, q16, hf⟩ := bsp hf
    refine kc_V (ci := 9) (i := 0) (As := [.int x3]) (rest := []) hok.2.2 C hP hS hl.1 (hok.2.1 9 0 (Nat.le_of_ble_eq_true rfl)) rfl rfl cw_X9_isTerm ml_X9_317 (c_X9_isTerm l D ca ad PL Z A hok N w x3 z15 q16) rfl ⟨rfl, rfl⟩ ⟨Nat.le_of_ble_eq_true rfl, Nat.le_of_ble_eq_true rfl⟩ ⟨Nat.zero_le _, Nat.zero_le _⟩ (Nat.le_of_ble_eq_true rfl) rfl dX9_proves_10 (fun H locs hP hS => ?_)
    refine lv_if_eq (tgt := 20) hx hb dX9_proves_13 (by decide) (fun c17 => ?_) (fun c17 => ?_)
    · have hf := ifp hf c17
      refine lv_iconst (v := (0 : Int32)) hx hb dX9_proves_20 (by decide) ?_
      exact P_f_X9_proves_21_s1 w x1 x2 x3 (0 : Int32) hf _ _ ls hP hS (lv_sub hl [0, 1, 2, 3] rfl)
    · have hf := ifn hf c17
      refine lv_iconst (v := (1 : Int32)) hx hb dX9_proves_16 (by decide) ?_
      refine lv_goto (tgt := 21) hx hb dX9_proves_17 (by decide) ?_
      exact P_f_X9_proves_21_s1 w x1 x2 x3 (1 : Int32) hf _ _ ls hP hS (lv_sub hl [0, 1, 2, 3] rfl)
def f_X9_since_37 (N : Nat) (w : Mem)  (v3 : Int32) : Option (Mem × Int32) :=
  some (w, v3)
def lp_X9_since_17 (k : Mem → Int32 → Option (Mem × Int32)) (N : Nat)  (v1 : Int32) (v2 : Int32) : Nat → Mem → Int32 → Option (Mem × Int32)
  | 0, _, _ => none
  | n + 1, w, v3 => (Option.bind (f_X9_isOneBy N w (((1 : Int32) <<< (v3 &&& 31)) - (1 : Int32)) v1 v2) (fun z6 => (if z6.2 = (0 : Int32) then
(lp_X9_since_17 k N   v1 v2 n z6.1 (v3 + (1 : Int32)))
else
(k z6.1 v3))))
def f_X9_since (N : Nat) (w : Mem) (x1 : Int32) (x2 : Int32) : Option (Mem × Int32) :=
  (Option.bind (f_X9_whyNotOne N w x1 x2) (fun z1 => (Option.bind (f_X9_isRefused N w z1) (fun z3 => (if z3.2 = (0 : Int32) then
(lp_X9_since_17 (fun (w_5 : Mem) (u3_5 : Int32) => (f_X9_since_37 N w_5  u3_5 )) N   x1 x2 N z3.1 (0 : Int32))
else
some (z3.1, (-1 : Int32)))))))
set_option maxRecDepth 100000 in
set_option maxHeartbeats 4000000 in
theorem c_X9_since (l : Launch) (D : va_G) (ca : Nat → ClassId) (ad : Nat → Nat → Nat) (PL : List (Nat × Nat)) (Z : State → Prop) (A : Nat → Prop) (hok : okc bM Z A ad PL) (N : Nat) (w : Mem) (x1 : Int32) (x2 : Int32) (w' : Mem) (r : Int32) (hf : f_X9_since N w x1 x2 = some (w', r)) : CT l yX9_since (wsy yX9_since cX9_since 4 (some .int)) (rmk 4) D ca ad PL Z A [.ref (ad 9 0), .int x1, .int x2] w w' (some (.int r)) := by
  refine Met.ofW (cc := cX9_since) (maxL := 4) (ret := (some .int)) (by decide +kernel) rfl ?_
  intro p e s m args below meth c s₁ B hml hv
  obtain ⟨rfl, hP, hK, hZ⟩ := hv
  have hx := B.exec
  have hb := B.bytes
  have hr := B.returns
  have hlocks := B.notSynchronized
  have hts : ∀ w ∈ ALL, w.before _ s = true := fun w hw => atoms_spec (ws := wsy yX9_since cX9_since 4 (some .int)) B.pre w (List.mem_cons_of_mem _ hw)
  have hown : s.vm.findClass RX9 = some m.cls := findClass_of_methodNamed B.named
  have C : CX p s m _ c cX9_since RX9 4 D ca Z := ⟨hx, hb, hml, hown, hts, hK, hZ⟩
  have hS : va_S A s.heap s.heap [] := va_S.rf
  have hl := lv_entry ([.ref (ad 9 0), .int x1, .int x2]) (n := 4) (Nat.le_of_ble_eq_true rfl)
  rw [lg_entry_eq]
  generalize (lg_sl ([.ref (ad 9 0), .int x1, .int x2]) ++ List.replicate (4 - (lg_sl ([.ref (ad 9 0), .int x1, .int x2])).length) Slot.unset).toArray = ls at hl ⊢
  have hl : lv_has ls 4 [(0, .ref (ad 9 0)), (1, .int x1), (2, .int x2)] := hl
  show W p l e (rmk 4) s m _ below meth c s.heap [] 0 0 _ _
  have P_f_X9_since_37 : ∀ (w : Mem) (v3 : Int32), f_X9_since_37 N w  v3  = some (w', r) → WP p l e (rmk 4) s m [.ref (ad 9 0), .int x1, .int x2].toArray below meth c D ca ad PL A (MQ below (qcR D ca ad PL Z A w' (some (.int r))) [.ref (ad 9 0), .int x1, .int x2].toArray s 0 0 A) 4 37 [] [(3, .int v3)] w := by
    intro w v3 hf _ _ ls hP hS hl
    unfold f_X9_since_37 at hf
    refine lv_iload_n hx hb dX9_since_37 rfl (lv_at hl 0 rfl) ?_
    exact kr_i hok.2.2 C hlocks hr rfl hP hS (congrArg Prod.fst (Option.some.inj hf)) (congrArg Prod.snd (Option.some.inj hf)) dX9_since_38
  have L_lp_X9_since_17 : ∀ (v1 : Int32) (v2 : Int32) (k : Mem → Int32 → Option (Mem × Int32)) (hk : ∀ (w : Mem) (v3 : Int32), k w v3 = some (w', r) → WP p l e (rmk 4) s m [.ref (ad 9 0), .int x1, .int x2].toArray below meth c D ca ad PL A (MQ below (qcR D ca ad PL Z A w' (some (.int r))) [.ref (ad 9 0), .int x1, .int x2].toArray s 0 0 A) 4 37 [] [(3, .int v3)] w) (n : Nat) (w : Mem) (v3 : Int32), lp_X9_since_17 k N   v1 v2 n w v3 = some (w', r) → WP p l e (rmk 4) s m [.ref (ad 9 0), .int x1, .int x2].toArray below meth c D ca ad PL A (MQ below (qcR D ca ad PL Z A w' (some (.int r))) [.ref (ad 9 0), .int x1, .int x2].toArray s 0 0 A) 4 17 [] [(0, .ref (ad 9 0)), (1, .int v1), (2, .int v2), (3, .int v3)] w := by
    intro v1 v2 k hk n
    induction n with
    | zero => intro w v3 hf; rw [lp_X9_since_17] at hf; cases hf
    | succ n ih =>
      intro w v3 hf _ _ ls hP hS hl
      rw [lp_X9_since_17] at hf
      refine lv_aload_n hx hb dX9_since_17 rfl (lv_at hl 0 rfl) ?_
      refine lv_iconst (v := (1 : Int32)) hx hb dX9_since_18 (by decide) ?_
      refine lv_iload_n hx hb dX9_since_19 rfl (lv_at hl 3 rfl) ?_
      refine lv_ishl hx hb dX9_since_20 ?_
      refine lv_iconst (v := (1 : Int32)) hx hb dX9_since_21 (by decide) ?_
      refine lv_isub hx hb dX9_since_22 ?_
      refine lv_iload_n hx hb dX9_since_23 rfl (lv_at hl 1 rfl) ?_
      refine lv_iload_n hx hb dX9_since_24 rfl (lv_at hl 2 rfl) ?_
      obtain ⟨z6, q7, hf⟩ := bsp hf
      refine kc_V (ci := 9) (i := 0) (As := [.int (((1 : Int32) <<< (v3 &&& 31)) - (1 : Int32)), .int v1, .int v2]) (rest := []) hok.2.2 C hP hS hl.1 (hok.2.1 9 0 (Nat.le_of_ble_eq_true rfl)) rfl rfl cw_X9_isOneBy ml_X9_332 (c_X9_isOneBy l D ca ad PL Z A hok N w (((1 : Int32) <<< (v3 &&& 31)) - (1 : Int32)) v1 v2 z6.1 z6.2 q7) rfl ⟨rfl, rfl⟩ ⟨Nat.le_of_ble_eq_true rfl, Nat.le_of_ble_eq_true rfl⟩ ⟨Nat.zero_le _, Nat.zero_le _⟩ (Nat.le_of_ble_eq_true rfl) rfl dX9_since_25 (fun H locs hP hS => ?_)
      refine lv_if_ne (tgt := 37) hx hb dX9_since_28 (by decide) (fun c8 => ?_) (fun c8 => ?_)
      · have hf := ifn hf c8
        exact hk z6.1 v3 hf _ _ ls hP hS (lv_sub hl [3] rfl)
      · have hf := ifp hf c8
        refine lv_iinc (v := (v3 + (1 : Int32))) (lv' := [(3, .int (v3 + (1 : Int32))), (0, .ref (ad 9 0)), (1, .int v1), (2, .int v2)]) hx hb dX9_since_31 hl (k := 3) rfl rfl (by decide) rfl (fun ls hl => ?_)
        refine lv_goto (tgt := 17) hx hb dX9_since_34 (by decide) ?_
        exact ih z6.1 (v3 + (1 : Int32)) hf _ _ ls hP hS (lv_sub hl [1, 2, 3, 0] rfl)
  unfold f_X9_since at hf
  -- walk
  refine lv_aload_n hx hb dX9_since_0 rfl (lv_at hl 0 rfl) ?_
  refine lv_aload_n hx hb dX9_since_1 rfl (lv_at hl 0 rfl) ?_
  refine lv_iload_n hx hb dX9_since_2 rfl (lv_at hl 1 rfl) ?_
  refine lv_iload_n hx hb dX9_since_3 rfl (lv_at hl 2 rfl) ?_
  obtain ⟨z1, q2, hf⟩ := bsp hf
  refine kc_V (ci := 9) (i := 0) (As := [.int x1, .int x2]) (rest := [.ref (ad 9 0)]) hok.2.2 C hP hS hl.1 (hok.2.1 9 0 (Nat.le_of_ble_eq_true rfl)) rfl rfl cw_X9_whyNotOne ml_X9_335 (c_X9_whyNotOne l D ca ad PL Z A hok N w x1 x2 z1 q2) rfl ⟨rfl, rfl⟩ ⟨Nat.le_of_ble_eq_true rfl, Nat.le_of_ble_eq_true rfl⟩ ⟨Nat.zero_le _, Nat.zero_le _⟩ (Nat.le_of_ble_eq_true rfl) rfl dX9_since_4 (fun H locs hP hS => ?_)
  obtain ⟨z3, q4, hf⟩ := bsp hf
  refine kc_V (ci := 9) (i := 0) (As := [.int z1]) (rest := []) hok.2.2 C hP hS hl.1 (hok.2.1 9 0 (Nat.le_of_ble_eq_true rfl)) rfl rfl cw_X9_isRefused ml_X9_223 (c_X9_isRefused l D ca ad PL Z A hok N w z1 z3.1 z3.2 q4) rfl ⟨rfl, rfl⟩ ⟨Nat.le_of_ble_eq_true rfl, Nat.le_of_ble_eq_true rfl⟩ ⟨Nat.zero_le _, Nat.zero_le _⟩ (Nat.le_of_ble_eq_true rfl) rfl dX9_since_7 (fun H locs hP hS => ?_)
  refine lv_if_eq (tgt := 15) hx hb dX9_since_10 (by decide) (fun c9 => ?_) (fun c9 => ?_)
  · have hf := ifp hf c9
    refine lv_iconst (v := (0 : Int32)) hx hb dX9_since_15 (by decide) ?_
    refine lv_istore_n (lv' := [(3, .int (0 : Int32)), (0, .ref (ad 9 0)), (1, .int x1), (2, .int x2)]) hx hb dX9_since_16 rfl hl (by decide) rfl (fun ls hl => ?_)
    exact L_lp_X9_since_17 x1 x2 _ (fun w_5 u3_5 hf H locs ls hP hS hl => P_f_X9_since_37 w_5 u3_5 hf _ _ ls hP hS (lv_sub hl [0] rfl)) N z3.1 (0 : Int32) hf _ _ ls hP hS (lv_sub hl [1, 2, 3, 0] rfl)
  · have hf := ifn hf c9
    refine lv_iconst (v := (-1 : Int32)) hx hb dX9_since_13 (by decide) ?_
    exact kr_i hok.2.2 C hlocks hr rfl hP hS (congrArg Prod.fst (Option.some.inj hf)) (congrArg Prod.snd (Option.some.inj hf)) dX9_since_14
def f_X9_level_195 (N : Nat) (w : Mem)  (v3 : Int32) : Option (Mem × Int32) :=
  some (w, v3)
def f_X9_level_189_76 (rc : Mem → Int32 → Option (Mem × Int32)) (k : Mem → Int32 → Option (Mem × Int32)) (N : Nat) (w : Mem)  (v1 : Int32) (v2 : Int32) (v3 : Int32) : Option (Mem × Int32) :=
  (rc w (v3 + (1 : Int32)))
def f_X9_level_183_126 (rc : Mem → Int32 → Option (Mem × Int32)) (k : Mem → Option (Mem × Int32)) (N : Nat) (w : Mem)  (v1 : Int32) (v2 : Int32) (v3 : Int32) (v4 : Int32) : Option (Mem × Int32) :=
  (rc w (v4 + (1 : Int32)))
def lp_X9_level_141 (k : Mem → Option (Mem × Int32)) (N : Nat)  (v1 : Int32) (v2 : Int32) (v3 : Int32) (v4 : Int32) : Nat → Mem → Int32 → Option (Mem × Int32)
  | 0, _, _ => none
  | n + 1, w, v5 => (if (gF w 9 27 0) ≤ v5 then
(k w)
else
(Option.bind (f_X9_isAlike N w 63 v4 v5) (fun z13 => (if z13 = (0 : Int32) then
(lp_X9_level_141 k N   v1 v2 v3 v4 n w (v5 + (1 : Int32)))
else
(Option.bind (f_X9_unites N w 62 v4 v5) (fun z15 => (lp_X9_level_141 k N   v1 v2 v3 v4 n z15 (v5 + (1 : Int32)))))))))
def lp_X9_level_126 (k : Mem → Option (Mem × Int32)) (N : Nat)  (v1 : Int32) (v2 : Int32) (v3 : Int32) : Nat → Mem → Int32 → Option (Mem × Int32)
  | 0, _, _ => none
  | n + 1, w, v4 => (if (gF w 9 27 0) ≤ v4 then
(k w)
else
(lp_X9_level_141 (fun (w_12 : Mem) => (f_X9_level_183_126 (fun (w : Mem) (v4 : Int32) => lp_X9_level_126 k N   v1 v2 v3 n w v4) k N w_12  v1 v2 v3 v4 )) N   v1 v2 v3 v4 N w (v4 + (1 : Int32))))
def f_X9_level_123_76 (rc : Mem → Int32 → Option (Mem × Int32)) (k : Mem → Int32 → Option (Mem × Int32)) (N : Nat) (w : Mem)  (v1 : Int32) (v2 : Int32) (v3 : Int32) : Option (Mem × Int32) :=
  (lp_X9_level_126 (fun (w_11 : Mem) => (f_X9_level_189_76 rc k N w_11  v1 v2 v3 )) N   v1 v2 v3 N w (0 : Int32))
def lp_X9_level_94 (k : Mem → Option (Mem × Int32)) (N : Nat)  (v1 : Int32) (v2 : Int32) (v3 : Int32) : Nat → Mem → Int32 → Option (Mem × Int32)
  | 0, _, _ => none
  | n + 1, w, v4 => (if (gF w 9 27 0) ≤ v4 then
(k w)
else
(if inb v4 24 = true then (lp_X9_level_94 k N   v1 v2 v3 n (sA w 63 0 v4.toNatClampNeg (gA w 62 0 v4.toNatClampNeg)) (v4 + (1 : Int32))) else none))
def lp_X9_level_76 (k : Mem → Int32 → Option (Mem × Int32)) (N : Nat)  (v1 : Int32) (v2 : Int32) : Nat → Mem → Int32 → Option (Mem × Int32)
  | 0, _, _ => none
  | n + 1, w, v3 => (if inb v1 24 = true then (if inb v2 24 = true then (if (gA w 62 0 v1.toNatClampNeg) = (gA w 62 0 v2.toNatClampNeg) then
(k w v3)
else
(lp_X9_level_94 (fun (w_10 : Mem) => (f_X9_level_123_76 (fun (w : Mem) (v3 : Int32) => lp_X9_level_76 k N   v1 v2 n w v3) k N w_10  v1 v2 v3 )) N   v1 v2 v3 N w (0 : Int32))) else none) else none)
def f_X9_level_74 (N : Nat) (w : Mem)  (v1 : Int32) (v2 : Int32) : Option (Mem × Int32) :=
  (lp_X9_level_76 (fun (w_7 : Mem) (u3_7 : Int32) => (f_X9_level_195 N w_7  u3_7 )) N   v1 v2 N w (0 : Int32))
def lp_X9_level_40 (k : Mem → Option (Mem × Int32)) (N : Nat)  (v1 : Int32) (v2 : Int32) : Nat → Mem → Int32 → Option (Mem × Int32)
  | 0, _, _ => none
  | n + 1, w, v3 => (if (gF w 9 30 0) ≤ v3 then
(k w)
else
(if inb v3 13 = true then (Option.bind (f_X9_unites N w 62 (gA w 48 0 v3.toNatClampNeg) (gA w 49 0 v3.toNatClampNeg)) (fun z24 => (lp_X9_level_40 k N   v1 v2 n z24 (v3 + (1 : Int32))))) else none))
def f_X9_level_38 (N : Nat) (w : Mem)  (v1 : Int32) (v2 : Int32) : Option (Mem × Int32) :=
  (lp_X9_level_40 (fun (w_6 : Mem) => (f_X9_level_74 N w_6  v1 v2 )) N   v1 v2 N w (0 : Int32))
def lp_X9_level_17 (k : Mem → Option (Mem × Int32)) (N : Nat)  (v1 : Int32) (v2 : Int32) : Nat → Mem → Int32 → Option (Mem × Int32)
  | 0, _, _ => none
  | n + 1, w, v3 => (if (gF w 9 27 0) ≤ v3 then
(k w)
else
(if inb v3 24 = true then (lp_X9_level_17 k N   v1 v2 n (sA w 62 0 v3.toNatClampNeg v3) (v3 + (1 : Int32))) else none))
def f_X9_level (N : Nat) (w : Mem) (x1 : Int32) (x2 : Int32) : Option (Mem × Int32) :=
  (Option.bind (f_X9_whyNotOne N w x1 x2) (fun z1 => (Option.bind (f_X9_isRefused N w z1) (fun z3 => (if z3.2 = (0 : Int32) then
(lp_X9_level_17 (fun (w_5 : Mem) => (f_X9_level_38 N w_5  x1 x2 )) N   x1 x2 N z3.1 (0 : Int32))
else
some (z3.1, (-1 : Int32)))))))
set_option maxRecDepth 100000 in
set_option maxHeartbeats 4000000 in
theorem c_X9_level (l : Launch) (D : va_G) (ca : Nat → ClassId) (ad : Nat → Nat → Nat) (PL : List (Nat × Nat)) (Z : State → Prop) (A : Nat → Prop) (hok : okc bM Z A ad PL) (N : Nat) (w : Mem) (x1 : Int32) (x2 : Int32) (w' : Mem) (r : Int32) (hf : f_X9_level N w x1 x2 = some (w', r)) : CT l yX9_level (wsy yX9_level cX9_level 6 (some .int)) (rmk 3) D ca ad PL Z A [.ref (ad 9 0), .int x1, .int x2] w w' (some (.int r)) := by
  refine Met.ofW (cc := cX9_level) (maxL := 6) (ret := (some .int)) (by decide +kernel) rfl ?_
  intro p e s m args below meth c s₁ B hml hv
  obtain ⟨rfl, hP, hK, hZ⟩ := hv
  have hx := B.exec
  have hb := B.bytes
  have hr := B.returns
  have hlocks := B.notSynchronized
  have hts : ∀ w ∈ ALL, w.before _ s = true := fun w hw => atoms_spec (ws := wsy yX9_level cX9_level 6 (some .int)) B.pre w (List.mem_cons_of_mem _ hw)
  have hown : s.vm.findClass RX9 = some m.cls := findClass_of_methodNamed B.named
  have C : CX p s m _ c cX9_level RX9 6 D ca Z := ⟨hx, hb, hml, hown, hts, hK, hZ⟩
  have hS : va_S A s.heap s.heap [] := va_S.rf
  have hl := lv_entry ([.ref (ad 9 0), .int x1, .int x2]) (n := 6) (Nat.le_of_ble_eq_true rfl)
  rw [lg_entry_eq]
  generalize (lg_sl ([.ref (ad 9 0), .int x1, .int x2]) ++ List.replicate (6 - (lg_sl ([.ref (ad 9 0), .int x1, .int x2])).length) Slot.unset).toArray = ls at hl ⊢
  have hl : lv_has ls 6 [(0, .ref (ad 9 0)), (1, .int x1), (2, .int x2)] := hl
  show W p l e (rmk 3) s m _ below meth c s.heap [] 0 0 _ _
  have P_f_X9_level_195 : ∀ (w : Mem) (v3 : Int32), f_X9_level_195 N w  v3  = some (w', r) → WP p l e (rmk 3) s m [.ref (ad 9 0), .int x1, .int x2].toArray below meth c D ca ad PL A (MQ below (qcR D ca ad PL Z A w' (some (.int r))) [.ref (ad 9 0), .int x1, .int x2].toArray s 0 0 A) 6 195 [] [(3, .int v3)] w := by
    intro w v3 hf _ _ ls hP hS hl
    unfold f_X9_level_195 at hf
    refine lv_iload_n hx hb dX9_level_195 rfl (lv_at hl 0 rfl) ?_
    exact kr_i hok.2.2 C hlocks hr rfl hP hS (congrArg Prod.fst (Option.some.inj hf)) (congrArg Prod.snd (Option.some.inj hf)) dX9_level_196
  have P_f_X9_level_189_76 : ∀ (v1 : Int32) (v2 : Int32) (rc : Mem → Int32 → Option (Mem × Int32)) (hrc : ∀ (w : Mem) (v3 : Int32), rc w v3 = some (w', r) → WP p l e (rmk 3) s m [.ref (ad 9 0), .int x1, .int x2].toArray below meth c D ca ad PL A (MQ below (qcR D ca ad PL Z A w' (some (.int r))) [.ref (ad 9 0), .int x1, .int x2].toArray s 0 0 A) 6 76 [] [(0, .ref (ad 9 0)), (1, .int v1), (2, .int v2), (3, .int v3)] w) (k : Mem → Int32 → Option (Mem × Int32)) (hk : ∀ (w : Mem) (v3 : Int32), k w v3 = some (w', r) → WP p l e (rmk 3) s m [.ref (ad 9 0), .int x1, .int x2].toArray below meth c D ca ad PL A (MQ below (qcR D ca ad PL Z A w' (some (.int r))) [.ref (ad 9 0), .int x1, .int x2].toArray s 0 0 A) 6 195 [] [(3, .int v3)] w) (w : Mem) (v3 : Int32), f_X9_level_189_76 rc k N w  v1 v2 v3  = some (w', r) → WP p l e (rmk 3) s m [.ref (ad 9 0), .int x1, .int x2].toArray below meth c D ca ad PL A (MQ below (qcR D ca ad PL Z A w' (some (.int r))) [.ref (ad 9 0), .int x1, .int x2].toArray s 0 0 A) 6 189 [] [(0, .ref (ad 9 0)), (1, .int v1), (2, .int v2), (3, .int v3)] w := by
    intro v1 v2 rc hrc k hk w v3 hf _ _ ls hP hS hl
    unfold f_X9_level_189_76 at hf
    refine lv_iinc (v := (v3 + (1 : Int32))) (lv' := [(3, .int (v3 + (1 : Int32))), (0, .ref (ad 9 0)), (1, .int v1), (2, .int v2)]) hx hb dX9_level_189 hl (k := 3) rfl rfl (by decide) rfl (fun ls hl => ?_)
    refine lv_goto (tgt := 76) hx hb dX9_level_192 (by decide) ?_
    exact hrc w (v3 + (1 : Int32)) hf _ _ ls hP hS (lv_sub hl [1, 2, 3, 0] rfl)
  have P_f_X9_level_183_126 : ∀ (v1 : Int32) (v2 : Int32) (v3 : Int32) (rc : Mem → Int32 → Option (Mem × Int32)) (hrc : ∀ (w : Mem) (v4 : Int32), rc w v4 = some (w', r) → WP p l e (rmk 3) s m [.ref (ad 9 0), .int x1, .int x2].toArray below meth c D ca ad PL A (MQ below (qcR D ca ad PL Z A w' (some (.int r))) [.ref (ad 9 0), .int x1, .int x2].toArray s 0 0 A) 6 126 [] [(0, .ref (ad 9 0)), (1, .int v1), (2, .int v2), (3, .int v3), (4, .int v4)] w) (k : Mem → Option (Mem × Int32)) (hk : ∀ (w : Mem), k w = some (w', r) → WP p l e (rmk 3) s m [.ref (ad 9 0), .int x1, .int x2].toArray below meth c D ca ad PL A (MQ below (qcR D ca ad PL Z A w' (some (.int r))) [.ref (ad 9 0), .int x1, .int x2].toArray s 0 0 A) 6 189 [] [(0, .ref (ad 9 0)), (1, .int v1), (2, .int v2), (3, .int v3)] w) (w : Mem) (v4 : Int32), f_X9_level_183_126 rc k N w  v1 v2 v3 v4  = some (w', r) → WP p l e (rmk 3) s m [.ref (ad 9 0), .int x1, .int x2].toArray below meth c D ca ad PL A (MQ below (qcR D ca ad PL Z A w' (some (.int r))) [.ref (ad 9 0), .int x1, .int x2].toArray s 0 0 A) 6 183 [] [(0, .ref (ad 9 0)), (1, .int v1), (2, .int v2), (3, .int v3), (4, .int v4)] w := by
    intro v1 v2 v3 rc hrc k hk w v4 hf _ _ ls hP hS hl
    unfold f_X9_level_183_126 at hf
    refine lv_iinc (v := (v4 + (1 : Int32))) (lv' := [(4, .int (v4 + (1 : Int32))), (0, .ref (ad 9 0)), (1, .int v1), (2, .int v2), (3, .int v3)]) hx hb dX9_level_183 hl (k := 4) rfl rfl (by decide) rfl (fun ls hl => ?_)
    refine lv_goto (tgt := 126) hx hb dX9_level_186 (by decide) ?_
    exact hrc w (v4 + (1 : Int32)) hf _ _ ls hP hS (lv_sub hl [1, 2, 3, 4, 0] rfl)
  have L_lp_X9_level_141 : ∀ (v1 : Int32) (v2 : Int32) (v3 : Int32) (v4 : Int32) (k : Mem → Option (Mem × Int32)) (hk : ∀ (w : Mem), k w = some (w', r) → WP p l e (rmk 3) s m [.ref (ad 9 0), .int x1, .int x2].toArray below meth c D ca ad PL A (MQ below (qcR D ca ad PL Z A w' (some (.int r))) [.ref (ad 9 0), .int x1, .int x2].toArray s 0 0 A) 6 183 [] [(0, .ref (ad 9 0)), (1, .int v1), (2, .int v2), (3, .int v3), (4, .int v4)] w) (n : Nat) (w : Mem) (v5 : Int32), lp_X9_level_141 k N   v1 v2 v3 v4 n w v5 = some (w', r) → WP p l e (rmk 3) s m [.ref (ad 9 0), .int x1, .int x2].toArray below meth c D ca ad PL A (MQ below (qcR D ca ad PL Z A w' (some (.int r))) [.ref (ad 9 0), .int x1, .int x2].toArray s 0 0 A) 6 141 [] [(0, .ref (ad 9 0)), (1, .int v1), (2, .int v2), (3, .int v3), (4, .int v4), (5, .int v5)] w := by
    intro v1 v2 v3 v4 k hk n
    induction n with
    | zero => intro w v5 hf; rw [lp_X9_level_141] at hf; cases hf
    | succ n ih =>
      intro w v5 hf _ _ ls hP hS hl
      rw [lp_X9_level_141] at hf
      refine lv_iload hx hb dX9_level_141 (lv_at hl 5 rfl) ?_
      refine lv_aload_n hx hb dX9_level_143 rfl (lv_at hl 0 rfl) ?_
      refine gt_9_27 (i := 0) C hP (hok.2.1 9 0 (Nat.le_of_ble_eq_true rfl)) lk_X9_250 dX9_level_144 ?_
      refine lv_icmp_ge (tgt := 183) hx hb dX9_level_147 (by decide) (fun c18 => ?_) (fun c18 => ?_)
      · have hf := ifp hf c18
        exact hk w hf _ _ ls hP hS (lv_sub hl [0, 1, 2, 3, 4] rfl)
      · have hf := ifn hf c18
        refine lv_aload_n hx hb dX9_level_150 rfl (lv_at hl 0 rfl) ?_
        refine lv_aload_n hx hb dX9_level_151 rfl (lv_at hl 0 rfl) ?_
        refine gt_9_48 (i := 0) C hP (hok.2.1 9 0 (Nat.le_of_ble_eq_true rfl)) lk_X9_84 dX9_level_152 ?_
        refine lv_iload hx hb dX9_level_155 (lv_at hl 4 rfl) ?_
        refine lv_iload hx hb dX9_level_157 (lv_at hl 5 rfl) ?_
        obtain ⟨z13, q14, hf⟩ := bsp hf
        refine kc_V (ci := 9) (i := 0) (As := [.ref (ad 63 0), .int v4, .int v5]) (rest := []) hok.2.2 C hP hS hl.1 (hok.2.1 9 0 (Nat.le_of_ble_eq_true rfl)) rfl rfl cw_X9_isAlike ml_X9_273 (c_X9_isAlike l D ca ad PL Z A hok N w 63 (Nat.le_of_ble_eq_true rfl) rfl rfl v4 v5 z13 q14) rfl ⟨rfl, rfl⟩ ⟨Nat.le_of_ble_eq_true rfl, Nat.le_of_ble_eq_true rfl⟩ ⟨Nat.zero_le _, Nat.zero_le _⟩ (Nat.le_of_ble_eq_true rfl) rfl dX9_level_159 (fun H locs hP hS => ?_)
        refine lv_if_eq (tgt := 177) hx hb dX9_level_162 (by decide) (fun c17 => ?_) (fun c17 => ?_)
        · have hf := ifp hf c17
          refine lv_iinc (v := (v5 + (1 : Int32))) (lv' := [(5, .int (v5 + (1 : Int32))), (0, .ref (ad 9 0)), (1, .int v1), (2, .int v2), (3, .int v3), (4, .int v4)]) hx hb dX9_level_177 hl (k := 5) rfl rfl (by decide) rfl (fun ls hl => ?_)
          refine lv_goto (tgt := 141) hx hb dX9_level_180 (by decide) ?_
          exact ih w (v5 + (1 : Int32)) hf _ _ ls hP hS (lv_sub hl [1, 2, 3, 4, 5, 0] rfl)
        · have hf := ifn hf c17
          refine lv_aload_n hx hb dX9_level_165 rfl (lv_at hl 0 rfl) ?_
          refine lv_aload_n hx hb dX9_level_166 rfl (lv_at hl 0 rfl) ?_
          refine gt_9_47 (i := 0) C hP (hok.2.1 9 0 (Nat.le_of_ble_eq_true rfl)) lk_X9_81 dX9_level_167 ?_
          refine lv_iload hx hb dX9_level_170 (lv_at hl 4 rfl) ?_
          refine lv_iload hx hb dX9_level_172 (lv_at hl 5 rfl) ?_
          obtain ⟨z15, q16, hf⟩ := bsp hf
          refine kc_V (ci := 9) (i := 0) (As := [.ref (ad 62 0), .int v4, .int v5]) (rest := []) hok.2.2 C hP hS hl.1 (hok.2.1 9 0 (Nat.le_of_ble_eq_true rfl)) rfl rfl cw_X9_unites ml_X9_269 (c_X9_unites l D ca ad PL Z A hok N w 62 (Nat.le_of_ble_eq_true rfl) rfl rfl v4 v5 z15 q16) rfl ⟨rfl, rfl⟩ ⟨Nat.le_of_ble_eq_true rfl, Nat.le_of_ble_eq_true rfl⟩ ⟨Nat.zero_le _, Nat.zero_le _⟩ (Nat.le_of_ble_eq_true rfl) rfl dX9_level_174 (fun H locs hP hS => ?_)
          refine lv_iinc (v := (v5 + (1 : Int32))) (lv' := [(5, .int (v5 + (1 : Int32))), (0, .ref (ad 9 0)), (1, .int v1), (2, .int v2), (3, .int v3), (4, .int v4)]) hx hb dX9_level_177 hl (k := 5) rfl rfl (by decide) rfl (fun ls hl => ?_)
          refine lv_goto (tgt := 141) hx hb dX9_level_180 (by decide) ?_
          exact ih z15 (v5 + (1 : Int32)) hf _ _ ls hP hS (lv_sub hl [1, 2, 3, 4, 5, 0] rfl)
  have L_lp_X9_level_126 : ∀ (v1 : Int32) (v2 : Int32) (v3 : Int32) (k : Mem → Option (Mem × Int32)) (hk : ∀ (w : Mem), k w = some (w', r) → WP p l e (rmk 3) s m [.ref (ad 9 0), .int x1, .int x2].toArray below meth c D ca ad PL A (MQ below (qcR D ca ad PL Z A w' (some (.int r))) [.ref (ad 9 0), .int x1, .int x2].toArray s 0 0 A) 6 189 [] [(0, .ref (ad 9 0)), (1, .int v1), (2, .int v2), (3, .int v3)] w) (n : Nat) (w : Mem) (v4 : Int32), lp_X9_level_126 k N   v1 v2 v3 n w v4 = some (w', r) → WP p l e (rmk 3) s m [.ref (ad 9 0), .int x1, .int x2].toArray below meth c D ca ad PL A (MQ below (qcR D ca ad PL Z A w' (some (.int r))) [.ref (ad 9 0), .int x1, .int x2].toArray s 0 0 A) 6 126 [] [(0, .ref (ad 9 0)), (1, .int v1), (2, .int v2), (3, .int v3), (4, .int v4)] w := by
    intro v1 v2 v3 k hk n
    induction n with
    | zero => intro w v4 hf; rw [lp_X9_level_126] at hf; cases hf
    | succ n ih =>
      intro w v4 hf _ _ ls hP hS hl
      rw [lp_X9_level_126] at hf
      refine lv_iload hx hb dX9_level_126 (lv_at hl 4 rfl) ?_
      refine lv_aload_n hx hb dX9_level_128 rfl (lv_at hl 0 rfl) ?_
      refine gt_9_27 (i := 0) C hP (hok.2.1 9 0 (Nat.le_of_ble_eq_true rfl)) lk_X9_250 dX9_level_129 ?_
      refine lv_icmp_ge (tgt := 189) hx hb dX9_level_132 (by decide) (fun c19 => ?_) (fun c19 => ?_)
      · have hf := ifp hf c19
        exact hk w hf _ _ ls hP hS (lv_sub hl [0, 1, 2, 3] rfl)
      · have hf := ifn hf c19
        refine lv_iload hx hb dX9_level_135 (lv_at hl 4 rfl) ?_
        refine lv_iconst (v := (1 : Int32)) hx hb dX9_level_137 (by decide) ?_
        refine lv_iadd hx hb dX9_level_138 ?_
        refine lv_istore (lv' := [(5, .int (v4 + (1 : Int32))), (0, .ref (ad 9 0)), (1, .int v1), (2, .int v2), (3, .int v3), (4, .int v4)]) hx hb dX9_level_139 hl (by decide) rfl (fun ls hl => ?_)
        exact L_lp_X9_level_141 v1 v2 v3 v4 _ (fun w_12 hf H locs ls hP hS hl => P_f_X9_level_183_126 v1 v2 v3 _ ih _ hk w_12 v4 hf _ _ ls hP hS (lv_sub hl [0, 1, 2, 3, 4] rfl)) N w (v4 + (1 : Int32)) hf _ _ ls hP hS (lv_sub hl [1, 2, 3, 4, 5, 0] rfl)
  have P_f_X9_level_123_76 : ∀ (v1 : Int32) (v2 : Int32) (rc : Mem → Int32 → Option (Mem × Int32)) (hrc : ∀ (w : Mem) (v3 : Int32), rc w v3 = some (w', r) → WP p l e (rmk 3) s m [.ref (ad 9 0), .int x1, .int x2].toArray below meth c D ca ad PL A (MQ below (qcR D ca ad PL Z A w' (some (.int r))) [.ref (ad 9 0), .int x1, .int x2].toArray s 0 0 A) 6 76 [] [(0, .ref (ad 9 0)), (1, .int v1), (2, .int v2), (3, .int v3)] w) (k : Mem → Int32 → Option (Mem × Int32)) (hk : ∀ (w : Mem) (v3 : Int32), k w v3 = some (w', r) → WP p l e (rmk 3) s m [.ref (ad 9 0), .int x1, .int x2].toArray below meth c D ca ad PL A (MQ below (qcR D ca ad PL Z A w' (some (.int r))) [.ref (ad 9 0), .int x1, .int x2].toArray s 0 0 A) 6 195 [] [(3, .int v3)] w) (w : Mem) (v3 : Int32), f_X9_level_123_76 rc k N w  v1 v2 v3  = some (w', r) → WP p l e (rmk 3) s m [.ref (ad 9 0), .int x1, .int x2].toArray below meth c D ca ad PL A (MQ below (qcR D ca ad PL Z A w' (some (.int r))) [.ref (ad 9 0), .int x1, .int x2].toArray s 0 0 A) 6 123 [] [(0, .ref (ad 9 0)), (1, .int v1), (2, .int v2), (3, .int v3)] w := by
    intro v1 v2 rc hrc k hk w v3 hf _ _ ls hP hS hl
    unfold f_X9_level_123_76 at hf
    refine lv_iconst (v := (0 : Int32)) hx hb dX9_level_123 (by decide) ?_
    refine lv_istore (lv' := [(4, .int (0 : Int32)), (0, .ref (ad 9 0)), (1, .int v1), (2, .int v2), (3, .int v3)]) hx hb dX9_level_124 hl (by decide) rfl (fun ls hl => ?_)
    exact L_lp_X9_level_126 v1 v2 v3 _ (fun w_11 hf H locs ls hP hS hl => P_f_X9_level_189_76 v1 v2 _ hrc _ hk w_11 v3 hf _ _ ls hP hS (lv_sub hl [0, 1, 2, 3] rfl)) N w (0 : Int32) hf _ _ ls hP hS (lv_sub hl [1, 2, 3, 4, 0] rfl)
  have L_lp_X9_level_94 : ∀ (v1 : Int32) (v2 : Int32) (v3 : Int32) (k : Mem → Option (Mem × Int32)) (hk : ∀ (w : Mem), k w = some (w', r) → WP p l e (rmk 3) s m [.ref (ad 9 0), .int x1, .int x2].toArray below meth c D ca ad PL A (MQ below (qcR D ca ad PL Z A w' (some (.int r))) [.ref (ad 9 0), .int x1, .int x2].toArray s 0 0 A) 6 123 [] [(0, .ref (ad 9 0)), (1, .int v1), (2, .int v2), (3, .int v3)] w) (n : Nat) (w : Mem) (v4 : Int32), lp_X9_level_94 k N   v1 v2 v3 n w v4 = some (w', r) → WP p l e (rmk 3) s m [.ref (ad 9 0), .int x1, .int x2].toArray below meth c D ca ad PL A (MQ below (qcR D ca ad PL Z A w' (some (.int r))) [.ref (ad 9 0), .int x1, .int x2].toArray s 0 0 A) 6 94 [] [(0, .ref (ad 9 0)), (1, .int v1), (2, .int v2), (3, .int v3), (4, .int v4)] w := by
    intro v1 v2 v3 k hk n
    induction n with
    | zero => intro w v4 hf; rw [lp_X9_level_94] at hf; cases hf
    | succ n ih =>
      intro w v4 hf _ _ ls hP hS hl
      rw [lp_X9_level_94] at hf
      refine lv_iload hx hb dX9_level_94 (lv_at hl 4 rfl) ?_
      refine lv_aload_n hx hb dX9_level_96 rfl (lv_at hl 0 rfl) ?_
      refine gt_9_27 (i := 0) C hP (hok.2.1 9 0 (Nat.le_of_ble_eq_true rfl)) lk_X9_250 dX9_level_97 ?_
      refine lv_icmp_ge (tgt := 123) hx hb dX9_level_100 (by decide) (fun c21 => ?_) (fun c21 => ?_)
      · have hf := ifp hf c21
        exact hk w hf _ _ ls hP hS (lv_sub hl [0, 1, 2, 3] rfl)
      · have hf := ifn hf c21
        refine lv_aload_n hx hb dX9_level_103 rfl (lv_at hl 0 rfl) ?_
        refine gt_9_48 (i := 0) C hP (hok.2.1 9 0 (Nat.le_of_ble_eq_true rfl)) lk_X9_84 dX9_level_104 ?_
        refine lv_iload hx hb dX9_level_107 (lv_at hl 4 rfl) ?_
        refine lv_aload_n hx hb dX9_level_109 rfl (lv_at hl 0 rfl) ?_
        refine gt_9_47 (i := 0) C hP (hok.2.1 9 0 (Nat.le_of_ble_eq_true rfl)) lk_X9_81 dX9_level_110 ?_
        refine lv_iload hx hb dX9_level_113 (lv_at hl 4 rfl) ?_
        obtain ⟨b20, hf⟩ := gsp hf
        refine ra_ild (k := 62) (i := 0) (n := 24) (f := (gA w 62 0)) C hP (hok.2.1 62 0 (Nat.le_of_ble_eq_true rfl)) rfl b20 dX9_level_115 ?_
        refine ra_ist (k := 63) (i := 0) (n := 24) C hok.1 hP hS (hok.2.1 63 0 (Nat.le_of_ble_eq_true rfl)) (fun _ => rfl) b20 dX9_level_116 (fun H locs hP hS => ?_)
        refine lv_iinc (v := (v4 + (1 : Int32))) (lv' := [(4, .int (v4 + (1 : Int32))), (0, .ref (ad 9 0)), (1, .int v1), (2, .int v2), (3, .int v3)]) hx hb dX9_level_117 hl (k := 4) rfl rfl (by decide) rfl (fun ls hl => ?_)
        refine lv_goto (tgt := 94) hx hb dX9_level_120 (by decide) ?_
        exact ih (sA w 63 0 v4.toNatClampNeg (gA w 62 0 v4.toNatClampNeg)) (v4 + (1 : Int32)) hf _ _ ls hP hS (lv_sub hl [1, 2, 3, 4, 0] rfl)
  have L_lp_X9_level_76 : ∀ (v1 : Int32) (v2 : Int32) (k : Mem → Int32 → Option (Mem × Int32)) (hk : ∀ (w : Mem) (v3 : Int32), k w v3 = some (w', r) → WP p l e (rmk 3) s m [.ref (ad 9 0), .int x1, .int x2].toArray below meth c D ca ad PL A (MQ below (qcR D ca ad PL Z A w' (some (.int r))) [.ref (ad 9 0), .int x1, .int x2].toArray s 0 0 A) 6 195 [] [(3, .int v3)] w) (n : Nat) (w : Mem) (v3 : Int32), lp_X9_level_76 k N   v1 v2 n w v3 = some (w', r) → WP p l e (rmk 3) s m [.ref (ad 9 0), .int x1, .int x2].toArray below meth c D ca ad PL A (MQ below (qcR D ca ad PL Z A w' (some (.int r))) [.ref (ad 9 0), .int x1, .int x2].toArray s 0 0 A) 6 76 [] [(0, .ref (ad 9 0)), (1, .int v1), (2, .int v2), (3, .int v3)] w := by
    intro v1 v2 k hk n
    induction n with
    | zero => intro w v3 hf; rw [lp_X9_level_76] at hf; cases hf
    | succ n ih =>
      intro w v3 hf _ _ ls hP hS hl
      rw [lp_X9_level_76] at hf
      refine lv_aload_n hx hb dX9_level_76 rfl (lv_at hl 0 rfl) ?_
      refine gt_9_47 (i := 0) C hP (hok.2.1 9 0 (Nat.le_of_ble_eq_true rfl)) lk_X9_81 dX9_level_77 ?_
      refine lv_iload_n hx hb dX9_level_80 rfl (lv_at hl 1 rfl) ?_
      obtain ⟨b8, hf⟩ := gsp hf
      refine ra_ild (k := 62) (i := 0) (n := 24) (f := (gA w 62 0)) C hP (hok.2.1 62 0 (Nat.le_of_ble_eq_true rfl)) rfl b8 dX9_level_81 ?_
      refine lv_aload_n hx hb dX9_level_82 rfl (lv_at hl 0 rfl) ?_
      refine gt_9_47 (i := 0) C hP (hok.2.1 9 0 (Nat.le_of_ble_eq_true rfl)) lk_X9_81 dX9_level_83 ?_
      refine lv_iload_n hx hb dX9_level_86 rfl (lv_at hl 2 rfl) ?_
      obtain ⟨b9, hf⟩ := gsp hf
      refine ra_ild (k := 62) (i := 0) (n := 24) (f := (gA w 62 0)) C hP (hok.2.1 62 0 (Nat.le_of_ble_eq_true rfl)) rfl b9 dX9_level_87 ?_
      refine lv_icmp_eq (tgt := 195) hx hb dX9_level_88 (by decide) (fun c22 => ?_) (fun c22 => ?_)
      · have hf := ifp hf c22
        exact hk w v3 hf _ _ ls hP hS (lv_sub hl [3] rfl)
      · have hf := ifn hf c22
        refine lv_iconst (v := (0 : Int32)) hx hb dX9_level_91 (by decide) ?_
        refine lv_istore (lv' := [(4, .int (0 : Int32)), (0, .ref (ad 9 0)), (1, .int v1), (2, .int v2), (3, .int v3)]) hx hb dX9_level_92 hl (by decide) rfl (fun ls hl => ?_)
        exact L_lp_X9_level_94 v1 v2 v3 _ (fun w_10 hf H locs ls hP hS hl => P_f_X9_level_123_76 v1 v2 _ ih _ hk w_10 v3 hf _ _ ls hP hS (lv_sub hl [0, 1, 2, 3] rfl)) N w (0 : Int32) hf _ _ ls hP hS (lv_sub hl [1, 2, 3, 4, 0] rfl)
  have P_f_X9_level_74 : ∀ (w : Mem) (v1 : Int32) (v2 : Int32), f_X9_level_74 N w  v1 v2  = some (w', r) → WP p l e (rmk 3) s m [.ref (ad 9 0), .int x1, .int x2].toArray below meth c D ca ad PL A (MQ below (qcR D ca ad PL Z A w' (some (.int r))) [.ref (ad 9 0), .int x1, .int x2].toArray s 0 0 A) 6 74 [] [(0, .ref (ad 9 0)), (1, .int v1), (2, .int v2)] w := by
    intro w v1 v2 hf _ _ ls hP hS hl
    unfold f_X9_level_74 at hf
    refine lv_iconst (v := (0 : Int32)) hx hb dX9_level_74 (by decide) ?_
    refine lv_istore_n (lv' := [(3, .int (0 : Int32)), (0, .ref (ad 9 0)), (1, .int v1), (2, .int v2)]) hx hb dX9_level_75 rfl hl (by decide) rfl (fun ls hl => ?_)
    exact L_lp_X9_level_76 v1 v2 _ (fun w_7 u3_7 hf H locs ls hP hS hl => P_f_X9_level_195 w_7 u3_7 hf _ _ ls hP hS (lv_sub hl [0] rfl)) N w (0 : Int32) hf _ _ ls hP hS (lv_sub hl [1, 2, 3, 0] rfl)
  have L_lp_X9_level_40 : ∀ (v1 : Int32) (v2 : Int32) (k : Mem → Option (Mem × Int32)) (hk : ∀ (w : Mem), k w = some (w', r) → WP p l e (rmk 3) s m [.ref (ad 9 0), .int x1, .int x2].toArray below meth c D ca ad PL A (MQ below (qcR D ca ad PL Z A w' (some (.int r))) [.ref (ad 9 0), .int x1, .int x2].toArray s 0 0 A) 6 74 [] [(0, .ref (ad 9 0)), (1, .int v1), (2, .int v2)] w) (n : Nat) (w : Mem) (v3 : Int32), lp_X9_level_40 k N   v1 v2 n w v3 = some (w', r) → WP p l e (rmk 3) s m [.ref (ad 9 0), .int x1, .int x2].toArray below meth c D ca ad PL A (MQ below (qcR D ca ad PL Z A w' (some (.int r))) [.ref (ad 9 0), .int x1, .int x2].toArray s 0 0 A) 6 40 [] [(0, .ref (ad 9 0)), (1, .int v1), (2, .int v2), (3, .int v3)] w := by
    intro v1 v2 k hk n
    induction n with
    | zero => intro w v3 hf; rw [lp_X9_level_40] at hf; cases hf
    | succ n ih =>
      intro w v3 hf _ _ ls hP hS hl
      rw [lp_X9_level_40] at hf
      refine lv_iload_n hx hb dX9_level_40 rfl (lv_at hl 3 rfl) ?_
      refine lv_aload_n hx hb dX9_level_41 rfl (lv_at hl 0 rfl) ?_
      refine gt_9_30 (i := 0) C hP (hok.2.1 9 0 (Nat.le_of_ble_eq_true rfl)) lk_X9_287 dX9_level_42 ?_
      refine lv_icmp_ge (tgt := 74) hx hb dX9_level_45 (by decide) (fun c26 => ?_) (fun c26 => ?_)
      · have hf := ifp hf c26
        exact hk w hf _ _ ls hP hS (lv_sub hl [0, 1, 2] rfl)
      · have hf := ifn hf c26
        refine lv_aload_n hx hb dX9_level_48 rfl (lv_at hl 0 rfl) ?_
        refine lv_aload_n hx hb dX9_level_49 rfl (lv_at hl 0 rfl) ?_
        refine gt_9_47 (i := 0) C hP (hok.2.1 9 0 (Nat.le_of_ble_eq_true rfl)) lk_X9_81 dX9_level_50 ?_
        refine lv_aload_n hx hb dX9_level_53 rfl (lv_at hl 0 rfl) ?_
        refine gt_9_31 (i := 0) C hP (hok.2.1 9 0 (Nat.le_of_ble_eq_true rfl)) lk_X9_38 dX9_level_54 ?_
        refine lv_iload_n hx hb dX9_level_57 rfl (lv_at hl 3 rfl) ?_
        obtain ⟨b23, hf⟩ := gsp hf
        refine ra_ild (k := 48) (i := 0) (n := 13) (f := (gA w 48 0)) C hP (hok.2.1 48 0 (Nat.le_of_ble_eq_true rfl)) rfl b23 dX9_level_58 ?_
        refine lv_aload_n hx hb dX9_level_59 rfl (lv_at hl 0 rfl) ?_
        refine gt_9_32 (i := 0) C hP (hok.2.1 9 0 (Nat.le_of_ble_eq_true rfl)) lk_X9_41 dX9_level_60 ?_
        refine lv_iload_n hx hb dX9_level_63 rfl (lv_at hl 3 rfl) ?_
        refine ra_ild (k := 49) (i := 0) (n := 13) (f := (gA w 49 0)) C hP (hok.2.1 49 0 (Nat.le_of_ble_eq_true rfl)) rfl b23 dX9_level_64 ?_
        obtain ⟨z24, q25, hf⟩ := bsp hf
        refine kc_V (ci := 9) (i := 0) (As := [.ref (ad 62 0), .int (gA w 48 0 v3.toNatClampNeg), .int (gA w 49 0 v3.toNatClampNeg)]) (rest := []) hok.2.2 C hP hS hl.1 (hok.2.1 9 0 (Nat.le_of_ble_eq_true rfl)) rfl rfl cw_X9_unites ml_X9_269 (c_X9_unites l D ca ad PL Z A hok N w 62 (Nat.le_of_ble_eq_true rfl) rfl rfl (gA w 48 0 v3.toNatClampNeg) (gA w 49 0 v3.toNatClampNeg) z24 q25) rfl ⟨rfl, rfl⟩ ⟨Nat.le_of_ble_eq_true rfl, Nat.le_of_ble_eq_true rfl⟩ ⟨Nat.zero_le _, Nat.zero_le _⟩ (Nat.le_of_ble_eq_true rfl) rfl dX9_level_65 (fun H locs hP hS => ?_)
        refine lv_iinc (v := (v3 + (1 : Int32))) (lv' := [(3, .int (v3 + (1 : Int32))), (0, .ref (ad 9 0)), (1, .int v1), (2, .int v2)]) hx hb dX9_level_68 hl (k := 3) rfl rfl (by decide) rfl (fun ls hl => ?_)
        refine lv_goto (tgt := 40) hx hb dX9_level_71 (by decide) ?_
        exact ih z24 (v3 + (1 : Int32)) hf _ _ ls hP hS (lv_sub hl [1, 2, 3, 0] rfl)
  have P_f_X9_level_38 : ∀ (w : Mem) (v1 : Int32) (v2 : Int32), f_X9_level_38 N w  v1 v2  = some (w', r) → WP p l e (rmk 3) s m [.ref (ad 9 0), .int x1, .int x2].toArray below meth c D ca ad PL A (MQ below (qcR D ca ad PL Z A w' (some (.int r))) [.ref (ad 9 0), .int x1, .int x2].toArray s 0 0 A) 6 38 [] [(0, .ref (ad 9 0)), (1, .int v1), (2, .int v2)] w := by
    intro w v1 v2 hf _ _ ls hP hS hl
    unfold f_X9_level_38 at hf
    refine lv_iconst (v := (0 : Int32)) hx hb dX9_level_38 (by decide) ?_
    refine lv_istore_n (lv' := [(3, .int (0 : Int32)), (0, .ref (ad 9 0)), (1, .int v1), (2, .int v2)]) hx hb dX9_level_39 rfl hl (by decide) rfl (fun ls hl => ?_)
    exact L_lp_X9_level_40 v1 v2 _ (fun w_6 hf H locs ls hP hS hl => P_f_X9_level_74 w_6 v1 v2 hf _ _ ls hP hS (lv_sub hl [0, 1, 2] rfl)) N w (0 : Int32) hf _ _ ls hP hS (lv_sub hl [1, 2, 3, 0] rfl)
  have L_lp_X9_level_17 : ∀ (v1 : Int32) (v2 : Int32) (k : Mem → Option (Mem × Int32)) (hk : ∀ (w : Mem), k w = some (w', r) → WP p l e (rmk 3) s m [.ref (ad 9 0), .int x1, .int x2].toArray below meth c D ca ad PL A (MQ below (qcR D ca ad PL Z A w' (some (.int r))) [.ref (ad 9 0), .int x1, .int x2].toArray s 0 0 A) 6 38 [] [(0, .ref (ad 9 0)), (1, .int v1), (2, .int v2)] w) (n : Nat) (w : Mem) (v3 : Int32), lp_X9_level_17 k N   v1 v2 n w v3 = some (w', r) → WP p l e (rmk 3) s m [.ref (ad 9 0), .int x1, .int x2].toArray below meth c D ca ad PL A (MQ below (qcR D ca ad PL Z A w' (some (.int r))) [.ref (ad 9 0), .int x1, .int x2].toArray s 0 0 A) 6 17 [] [(0, .ref (ad 9 0)), (1, .int v1), (2, .int v2), (3, .int v3)] w := by
    intro v1 v2 k hk n
    induction n with
    | zero => intro w v3 hf; rw [lp_X9_level_17] at hf; cases hf
    | succ n ih =>
      intro w v3 hf _ _ ls hP hS hl
      rw [lp_X9_level_17] at hf
      refine lv_iload_n hx hb dX9_level_17 rfl (lv_at hl 3 rfl) ?_
      refine lv_aload_n hx hb dX9_level_18 rfl (lv_at hl 0 rfl) ?_
      refine gt_9_27 (i := 0) C hP (hok.2.1 9 0 (Nat.le_of_ble_eq_true rfl)) lk_X9_250 dX9_level_19 ?_
      refine lv_icmp_ge (tgt := 38) hx hb dX9_level_22 (by decide) (fun c28 => ?_) (fun c28 => ?_)
      · have hf := ifp hf c28
        exact hk w hf _ _ ls hP hS (lv_sub hl [0, 1, 2] rfl)
      · have hf := ifn hf c28
        refine lv_aload_n hx hb dX9_level_25 rfl (lv_at hl 0 rfl) ?_
        refine gt_9_47 (i := 0) C hP (hok.2.1 9 0 (Nat.le_of_ble_eq_true rfl)) lk_X9_81 dX9_level_26 ?_
        refine lv_iload_n hx hb dX9_level_29 rfl (lv_at hl 3 rfl) ?_
        refine lv_iload_n hx hb dX9_level_30 rfl (lv_at hl 3 rfl) ?_
        obtain ⟨b27, hf⟩ := gsp hf
        refine ra_ist (k := 62) (i := 0) (n := 24) C hok.1 hP hS (hok.2.1 62 0 (Nat.le_of_ble_eq_true rfl)) (fun _ => rfl) b27 dX9_level_31 (fun H locs hP hS => ?_)
        refine lv_iinc (v := (v3 + (1 : Int32))) (lv' := [(3, .int (v3 + (1 : Int32))), (0, .ref (ad 9 0)), (1, .int v1), (2, .int v2)]) hx hb dX9_level_32 hl (k := 3) rfl rfl (by decide) rfl (fun ls hl => ?_)
        refine lv_goto (tgt := 17) hx hb dX9_level_35 (by decide) ?_
        exact ih (sA w 62 0 v3.toNatClampNeg v3) (v3 + (1 : Int32)) hf _ _ ls hP hS (lv_sub hl [1, 2, 3, 0] rfl)
  unfold f_X9_level at hf
  -- walk
  refine lv_aload_n hx hb dX9_level_0 rfl (lv_at hl 0 rfl) ?_
  refine lv_aload_n hx hb dX9_level_1 rfl (lv_at hl 0 rfl) ?_
  refine lv_iload_n hx hb dX9_level_2 rfl (lv_at hl 1 rfl) ?_
  refine lv_iload_n hx hb dX9_level_3 rfl (lv_at hl 2 rfl) ?_
  obtain ⟨z1, q2, hf⟩ := bsp hf
  refine kc_V (ci := 9) (i := 0) (As := [.int x1, .int x2]) (rest := [.ref (ad 9 0)]) hok.2.2 C hP hS hl.1 (hok.2.1 9 0 (Nat.le_of_ble_eq_true rfl)) rfl rfl cw_X9_whyNotOne ml_X9_335 (c_X9_whyNotOne l D ca ad PL Z A hok N w x1 x2 z1 q2) rfl ⟨rfl, rfl⟩ ⟨Nat.le_of_ble_eq_true rfl, Nat.le_of_ble_eq_true rfl⟩ ⟨Nat.zero_le _, Nat.zero_le _⟩ (Nat.le_of_ble_eq_true rfl) rfl dX9_level_4 (fun H locs hP hS => ?_)
  obtain ⟨z3, q4, hf⟩ := bsp hf
  refine kc_V (ci := 9) (i := 0) (As := [.int z1]) (rest := []) hok.2.2 C hP hS hl.1 (hok.2.1 9 0 (Nat.le_of_ble_eq_true rfl)) rfl rfl cw_X9_isRefused ml_X9_223 (c_X9_isRefused l D ca ad PL Z A hok N w z1 z3.1 z3.2 q4) rfl ⟨rfl, rfl⟩ ⟨Nat.le_of_ble_eq_true rfl, Nat.le_of_ble_eq_true rfl⟩ ⟨Nat.zero_le _, Nat.zero_le _⟩ (Nat.le_of_ble_eq_true rfl) rfl dX9_level_7 (fun H locs hP hS => ?_)
  refine lv_if_eq (tgt := 15) hx hb dX9_level_10 (by decide) (fun c29 => ?_) (fun c29 => ?_)
  · have hf := ifp hf c29
    refine lv_iconst (v := (0 : Int32)) hx hb dX9_level_15 (by decide) ?_
    refine lv_istore_n (lv' := [(3, .int (0 : Int32)), (0, .ref (ad 9 0)), (1, .int x1), (2, .int x2)]) hx hb dX9_level_16 rfl hl (by decide) rfl (fun ls hl => ?_)
    exact L_lp_X9_level_17 x1 x2 _ (fun w_5 hf H locs ls hP hS hl => P_f_X9_level_38 w_5 x1 x2 hf _ _ ls hP hS (lv_sub hl [0, 1, 2] rfl)) N z3.1 (0 : Int32) hf _ _ ls hP hS (lv_sub hl [1, 2, 3, 0] rfl)
  · have hf := ifn hf c29
    refine lv_iconst (v := (-1 : Int32)) hx hb dX9_level_13 (by decide) ?_
    exact kr_i hok.2.2 C hlocks hr rfl hP hS (congrArg Prod.fst (Option.some.inj hf)) (congrArg Prod.snd (Option.some.inj hf)) dX9_level_14
def f_X9_pair (N : Nat) (w : Mem) (x0 : Int32) (x1 : Int32) : Option (Int32) :=
  some (((24 : Int32) * x0) + x1)
set_option maxRecDepth 100000 in
set_option maxHeartbeats 4000000 in
theorem c_X9_pair (l : Launch) (D : va_G) (ca : Nat → ClassId) (ad : Nat → Nat → Nat) (PL : List (Nat × Nat)) (Z : State → Prop) (A : Nat → Prop) (hok : okc bM Z A ad PL) (N : Nat) (w : Mem) (x0 : Int32) (x1 : Int32) (r : Int32) (hf : f_X9_pair N w x0 x1 = some r) : CT l yX9_pair (wsy yX9_pair cX9_pair 2 (some .int)) (rmk 0) D ca ad PL Z A [.int x0, .int x1] w w (some (.int r)) := by
  refine Met.ofW (cc := cX9_pair) (maxL := 2) (ret := (some .int)) (by decide +kernel) rfl ?_
  intro p e s m args below meth c s₁ B hml hv
  obtain ⟨rfl, hP, hK, hZ⟩ := hv
  have hx := B.exec
  have hb := B.bytes
  have hr := B.returns
  have hlocks := B.notSynchronized
  have hts : ∀ w ∈ ALL, w.before _ s = true := fun w hw => atoms_spec (ws := wsy yX9_pair cX9_pair 2 (some .int)) B.pre w (List.mem_cons_of_mem _ hw)
  have hown : s.vm.findClass RX9 = some m.cls := findClass_of_methodNamed B.named
  have C : CX p s m _ c cX9_pair RX9 2 D ca Z := ⟨hx, hb, hml, hown, hts, hK, hZ⟩
  have hS : va_S A s.heap s.heap [] := va_S.rf
  have hl := lv_entry ([.int x0, .int x1]) (n := 2) (Nat.le_of_ble_eq_true rfl)
  rw [lg_entry_eq]
  generalize (lg_sl ([.int x0, .int x1]) ++ List.replicate (2 - (lg_sl ([.int x0, .int x1])).length) Slot.unset).toArray = ls at hl ⊢
  have hl : lv_has ls 2 [(0, .int x0), (1, .int x1)] := hl
  show W p l e (rmk 0) s m _ below meth c s.heap [] 0 0 _ _
  unfold f_X9_pair at hf
  -- walk
  refine lv_bipush (v := (24 : Int32)) hx hb dX9_pair_0 (by decide) ?_
  refine lv_iload_n hx hb dX9_pair_2 rfl (lv_at hl 0 rfl) ?_
  refine lv_imul hx hb dX9_pair_3 ?_
  refine lv_iload_n hx hb dX9_pair_4 rfl (lv_at hl 1 rfl) ?_
  refine lv_iadd hx hb dX9_pair_5 ?_
  exact kr_i hok.2.2 C hlocks hr rfl hP hS rfl (Option.some.inj hf) dX9_pair_6
def f_X9_held (N : Nat) (w : Mem) (x0 : Int64) : Option (Int64) :=
  (if (lg_cmp x0 (4000000000 : Int64)) < (0 : Int32) then
(if (lg_cmp x0 (1000000000 : Int64)) ≤ (0 : Int32) then
some x0
else
some (1000000000 : Int64))
else
some (4000000000 : Int64))
set_option maxRecDepth 100000 in
set_option maxHeartbeats 4000000 in
theorem c_X9_held (l : Launch) (D : va_G) (ca : Nat → ClassId) (ad : Nat → Nat → Nat) (PL : List (Nat × Nat)) (Z : State → Prop) (A : Nat → Prop) (hok : okc bM Z A ad PL) (N : Nat) (w : Mem) (x0 : Int64) (r : Int64) (hf : f_X9_held N w x0 = some r) : CT l yX9_held (wsy yX9_held cX9_held 2 (some .long)) (rmk 0) D ca ad PL Z A [.long x0] w w (some (.long r)) := by
  refine Met.ofW (cc := cX9_held) (maxL := 2) (ret := (some .long)) (by decide +kernel) rfl ?_
  intro p e s m args below meth c s₁ B hml hv
  obtain ⟨rfl, hP, hK, hZ⟩ := hv
  have hx := B.exec
  have hb := B.bytes
  have hr := B.returns
  have hlocks := B.notSynchronized
  have hts : ∀ w ∈ ALL, w.before _ s = true := fun w hw => atoms_spec (ws := wsy yX9_held cX9_held 2 (some .long)) B.pre w (List.mem_cons_of_mem _ hw)
  have hown : s.vm.findClass RX9 = some m.cls := findClass_of_methodNamed B.named
  have C : CX p s m _ c cX9_held RX9 2 D ca Z := ⟨hx, hb, hml, hown, hts, hK, hZ⟩
  have hS : va_S A s.heap s.heap [] := va_S.rf
  have hl := lv_entry ([.long x0]) (n := 2) (Nat.le_of_ble_eq_true rfl)
  rw [lg_entry_eq]
  generalize (lg_sl ([.long x0]) ++ List.replicate (2 - (lg_sl ([.long x0])).length) Slot.unset).toArray = ls at hl ⊢
  have hl : lv_has ls 2 [(0, .long x0)] := hl
  show W p l e (rmk 0) s m _ below meth c s.heap [] 0 0 _ _
  unfold f_X9_held at hf
  -- walk
  refine lv_lload_n hx hb dX9_held_0 rfl (lv_at hl 0 rfl) ?_
  refine lv_ldc2 (v := (4000000000 : Int64)) hx hb hown (hts _ kc_X9_341) dX9_held_1 ?_
  refine W.lcmp hx hb dX9_held_4 ?_
  refine lv_if_lt (tgt := 14) hx hb dX9_held_5 (by decide) (fun c2 => ?_) (fun c2 => ?_)
  · have hf := ifp hf c2
    refine lv_lload_n hx hb dX9_held_14 rfl (lv_at hl 0 rfl) ?_
    refine lv_ldc2 (v := (1000000000 : Int64)) hx hb hown (hts _ kc_X9_343) dX9_held_15 ?_
    refine W.lcmp hx hb dX9_held_18 ?_
    refine lv_if_le (tgt := 28) hx hb dX9_held_19 (by decide) (fun c1 => ?_) (fun c1 => ?_)
    · have hf := ifp hf c1
      refine lv_lload_n hx hb dX9_held_28 rfl (lv_at hl 0 rfl) ?_
      exact kr_l hok.2.2 C hlocks hr hP hS rfl (Option.some.inj hf) dX9_held_29
    · have hf := ifn hf c1
      refine lv_ldc2 (v := (1000000000 : Int64)) hx hb hown (hts _ kc_X9_343) dX9_held_22 ?_
      refine lv_goto (tgt := 29) hx hb dX9_held_25 (by decide) ?_
      exact kr_l hok.2.2 C hlocks hr hP hS rfl (Option.some.inj hf) dX9_held_29
  · have hf := ifn hf c2
    refine lv_ldc2 (v := (4000000000 : Int64)) hx hb hown (hts _ kc_X9_341) dX9_held_8 ?_
    refine lv_goto (tgt := 29) hx hb dX9_held_11 (by decide) ?_
    exact kr_l hok.2.2 C hlocks hr hP hS rfl (Option.some.inj hf) dX9_held_29
def f_X9_sideOf_189 (N : Nat) (w : Mem)  (v3 : Int64) (v5 : Int64) : Option (Int64) :=
  (if (0 : Int32) ≤ (lg_cmp v5 v3) then
some v3
else
some v5)
def lp_X9_sideOf_107 (k : Int64 → Option (Int64)) (N : Nat) (w : Mem)  (v1 : Int32) (v2 : Int32) (v3 : Int64) : Nat → Int64 → Int32 → Option (Int64)
  | 0, _, _ => none
  | n + 1, v5, v7 => (Option.bind (f_X9_takesOf N w v1) (fun z6 => (if z6 ≤ v7 then
(k v5)
else
(if (0 : Int32) ≤ (lg_cmp v5 (4000000000 : Int64)) then
(k v5)
else
(if inb (((3 : Int32) * v1) + v7) 72 = true then (if inb (((3 : Int32) * v2) + v7) 72 = true then (Option.bind (f_X9_pair N w (gA w 47 0 (((3 : Int32) * v1) + v7).toNatClampNeg) (gA w 47 0 (((3 : Int32) * v2) + v7).toNatClampNeg)) (fun z10 => (if inb z10 576 = true then (if (lg_cmp (gL w 64 0 z10.toNatClampNeg) (4000000000 : Int64)) < (0 : Int32) then
(Option.bind (f_X9_held N w (v5 + (gL w 64 0 z10.toNatClampNeg))) (fun z13 => (lp_X9_sideOf_107 k N w  v1 v2 v3 n z13 (v7 + (1 : Int32)))))
else
(lp_X9_sideOf_107 k N w  v1 v2 v3 n (4000000000 : Int64) (v7 + (1 : Int32)))) else none))) else none) else none)))))
def f_X9_sideOf_84 (N : Nat) (w : Mem)  (v1 : Int32) (v2 : Int32) (v3 : Int64) : Option (Int64) :=
  (if inb v1 24 = true then (if inb v2 24 = true then (if (gA w 46 0 v1.toNatClampNeg) = (gA w 46 0 v2.toNatClampNeg) then
(lp_X9_sideOf_107 (fun (u5_4 : Int64) => (f_X9_sideOf_189 N w  v3 u5_4 )) N w  v1 v2 v3 N (0 : Int64) (0 : Int32))
else
some v3) else none) else none)
def f_X9_sideOf_64_7 (rc : Int64 → Int32 → Option (Int64)) (k : Int64 → Option (Int64)) (N : Nat) (w : Mem)  (v1 : Int32) (v2 : Int32) (v3 : Int64) (v5 : Int32) : Option (Int64) :=
  (if (0 : Int32) = (0 : Int32) then
(rc v3 (v5 + (1 : Int32)))
else
(rc (1 : Int64) (v5 + (1 : Int32))))
def f_X9_sideOf_60_7 (rc : Int64 → Int32 → Option (Int64)) (k : Int64 → Option (Int64)) (N : Nat) (w : Mem)  (v1 : Int32) (v2 : Int32) (v3 : Int64) (v5 : Int32) : Option (Int64) :=
  (if (1 : Int32) = (0 : Int32) then
(rc v3 (v5 + (1 : Int32)))
else
(rc (1 : Int64) (v5 + (1 : Int32))))
def f_X9_sideOf_38_7 (rc : Int64 → Int32 → Option (Int64)) (k : Int64 → Option (Int64)) (N : Nat) (w : Mem)  (v1 : Int32) (v2 : Int32) (v3 : Int64) (v5 : Int32) : Option (Int64) :=
  (if inb v5 13 = true then (if (gA w 48 0 v5.toNatClampNeg) = v2 then
(if (gA w 49 0 v5.toNatClampNeg) = v1 then
(f_X9_sideOf_60_7 rc k N w  v1 v2 v3 v5 )
else
(f_X9_sideOf_64_7 rc k N w  v1 v2 v3 v5 ))
else
(f_X9_sideOf_64_7 rc k N w  v1 v2 v3 v5 )) else none)
def lp_X9_sideOf_7 (k : Int64 → Option (Int64)) (N : Nat) (w : Mem)  (v1 : Int32) (v2 : Int32) : Nat → Int64 → Int32 → Option (Int64)
  | 0, _, _ => none
  | n + 1, v3, v5 => (if (gF w 9 30 0) ≤ v5 then
(k v3)
else
(if inb v5 13 = true then (if (gA w 48 0 v5.toNatClampNeg) = v1 then
(if (gA w 49 0 v5.toNatClampNeg) = v2 then
(f_X9_sideOf_60_7 (fun (v3 : Int64) (v5 : Int32) => lp_X9_sideOf_7 k N w  v1 v2 n v3 v5) k N w  v1 v2 v3 v5 )
else
(f_X9_sideOf_38_7 (fun (v3 : Int64) (v5 : Int32) => lp_X9_sideOf_7 k N w  v1 v2 n v3 v5) k N w  v1 v2 v3 v5 ))
else
(f_X9_sideOf_38_7 (fun (v3 : Int64) (v5 : Int32) => lp_X9_sideOf_7 k N w  v1 v2 n v3 v5) k N w  v1 v2 v3 v5 )) else none))
def f_X9_sideOf (N : Nat) (w : Mem) (x1 : Int32) (x2 : Int32) : Option (Int64) :=
  (lp_X9_sideOf_7 (fun (u3_1 : Int64) => (f_X9_sideOf_84 N w  x1 x2 u3_1 )) N w  x1 x2 N (4000000000 : Int64) (0 : Int32))
set_option maxRecDepth 100000 in
set_option maxHeartbeats 4000000 in
theorem c_X9_sideOf (l : Launch) (D : va_G) (ca : Nat → ClassId) (ad : Nat → Nat → Nat) (PL : List (Nat × Nat)) (Z : State → Prop) (A : Nat → Prop) (hok : okc bM Z A ad PL) (N : Nat) (w : Mem) (x1 : Int32) (x2 : Int32) (r : Int64) (hf : f_X9_sideOf N w x1 x2 = some r) : CT l yX9_sideOf (wsy yX9_sideOf cX9_sideOf 10 (some .long)) (rmk 1) D ca ad PL Z A [.ref (ad 9 0), .int x1, .int x2] w w (some (.long r)) := by
  refine Met.ofW (cc := cX9_sideOf) (maxL := 10) (ret := (some .long)) (by decide +kernel) rfl ?_
  intro p e s m args below meth c s₁ B hml hv
  obtain ⟨rfl, hP, hK, hZ⟩ := hv
  have hx := B.exec
  have hb := B.bytes
  have hr := B.returns
  have hlocks := B.notSynchronized
  have hts : ∀ w ∈ ALL, w.before _ s = true := fun w hw => atoms_spec (ws := wsy yX9_sideOf cX9_sideOf 10 (some .long)) B.pre w (List.mem_cons_of_mem _ hw)
  have hown : s.vm.findClass RX9 = some m.cls := findClass_of_methodNamed B.named
  have C : CX p s m _ c cX9_sideOf RX9 10 D ca Z := ⟨hx, hb, hml, hown, hts, hK, hZ⟩
  have hS : va_S A s.heap s.heap [] := va_S.rf
  have hl := lv_entry ([.ref (ad 9 0), .int x1, .int x2]) (n := 10) (Nat.le_of_ble_eq_true rfl)
  rw [lg_entry_eq]
  generalize (lg_sl ([.ref (ad 9 0), .int x1, .int x2]) ++ List.replicate (10 - (lg_sl ([.ref (ad 9 0), .int x1, .int x2])).length) Slot.unset).toArray = ls at hl ⊢
  have hl : lv_has ls 10 [(0, .ref (ad 9 0)), (1, .int x1), (2, .int x2)] := hl
  show W p l e (rmk 1) s m _ below meth c s.heap [] 0 0 _ _
  have P_f_X9_sideOf_189 : ∀ (v3 : Int64) (v5 : Int64), f_X9_sideOf_189 N w  v3 v5  = some r → WP p l e (rmk 1) s m [.ref (ad 9 0), .int x1, .int x2].toArray below meth c D ca ad PL A (MQ below (qcR D ca ad PL Z A w (some (.long r))) [.ref (ad 9 0), .int x1, .int x2].toArray s 0 0 A) 10 189 [] [(3, .long v3), (5, .long v5)] w := by
    intro v3 v5 hf _ _ ls hP hS hl
    unfold f_X9_sideOf_189 at hf
    refine lv_lload hx hb dX9_sideOf_189 (lv_at hl 1 rfl) ?_
    refine lv_lload_n hx hb dX9_sideOf_191 rfl (lv_at hl 0 rfl) ?_
    refine W.lcmp hx hb dX9_sideOf_192 ?_
    refine lv_if_ge (tgt := 201) hx hb dX9_sideOf_193 (by decide) (fun c5 => ?_) (fun c5 => ?_)
    · have hf := ifp hf c5
      refine lv_lload_n hx hb dX9_sideOf_201 rfl (lv_at hl 0 rfl) ?_
      exact kr_l hok.2.2 C hlocks hr hP hS rfl (Option.some.inj hf) dX9_sideOf_202
    · have hf := ifn hf c5
      refine lv_lload hx hb dX9_sideOf_196 (lv_at hl 1 rfl) ?_
      refine lv_goto (tgt := 202) hx hb dX9_sideOf_198 (by decide) ?_
      exact kr_l hok.2.2 C hlocks hr hP hS rfl (Option.some.inj hf) dX9_sideOf_202
  have L_lp_X9_sideOf_107 : ∀ (v1 : Int32) (v2 : Int32) (v3 : Int64) (k : Int64 → Option (Int64)) (hk : ∀ (v5 : Int64), k v5 = some r → WP p l e (rmk 1) s m [.ref (ad 9 0), .int x1, .int x2].toArray below meth c D ca ad PL A (MQ below (qcR D ca ad PL Z A w (some (.long r))) [.ref (ad 9 0), .int x1, .int x2].toArray s 0 0 A) 10 189 [] [(3, .long v3), (5, .long v5)] w) (n : Nat) (v5 : Int64) (v7 : Int32), lp_X9_sideOf_107 k N w  v1 v2 v3 n v5 v7 = some r → WP p l e (rmk 1) s m [.ref (ad 9 0), .int x1, .int x2].toArray below meth c D ca ad PL A (MQ below (qcR D ca ad PL Z A w (some (.long r))) [.ref (ad 9 0), .int x1, .int x2].toArray s 0 0 A) 10 107 [] [(0, .ref (ad 9 0)), (1, .int v1), (2, .int v2), (3, .long v3), (5, .long v5), (7, .int v7)] w := by
    intro v1 v2 v3 k hk n
    induction n with
    | zero => intro v5 v7 hf; rw [lp_X9_sideOf_107] at hf; cases hf
    | succ n ih =>
      intro v5 v7 hf _ _ ls hP hS hl
      rw [lp_X9_sideOf_107] at hf
      refine lv_iload hx hb dX9_sideOf_107 (lv_at hl 5 rfl) ?_
      refine lv_aload_n hx hb dX9_sideOf_109 rfl (lv_at hl 0 rfl) ?_
      refine lv_iload_n hx hb dX9_sideOf_110 rfl (lv_at hl 1 rfl) ?_
      obtain ⟨z6, q7, hf⟩ := bsp hf
      refine kc_V (ci := 9) (i := 0) (As := [.int v1]) (rest := [.int v7]) hok.2.2 C hP hS hl.1 (hok.2.1 9 0 (Nat.le_of_ble_eq_true rfl)) rfl rfl cw_X9_takesOf ml_X9_253 (c_X9_takesOf l D ca ad PL Z A hok N w v1 z6 q7) rfl ⟨rfl, rfl⟩ ⟨Nat.le_of_ble_eq_true rfl, Nat.le_of_ble_eq_true rfl⟩ ⟨Nat.zero_le _, Nat.zero_le _⟩ (Nat.le_of_ble_eq_true rfl) rfl dX9_sideOf_111 (fun H locs hP hS => ?_)
      refine lv_icmp_ge (tgt := 189) hx hb dX9_sideOf_114 (by decide) (fun c17 => ?_) (fun c17 => ?_)
      · have hf := ifp hf c17
        exact hk v5 hf _ _ ls hP hS (lv_sub hl [3, 4] rfl)
      · have hf := ifn hf c17
        refine lv_lload hx hb dX9_sideOf_117 (lv_at hl 4 rfl) ?_
        refine lv_ldc2 (v := (4000000000 : Int64)) hx hb hown (hts _ kc_X9_341) dX9_sideOf_119 ?_
        refine W.lcmp hx hb dX9_sideOf_122 ?_
        refine lv_if_ge (tgt := 189) hx hb dX9_sideOf_123 (by decide) (fun c16 => ?_) (fun c16 => ?_)
        · have hf := ifp hf c16
          exact hk v5 hf _ _ ls hP hS (lv_sub hl [3, 4] rfl)
        · have hf := ifn hf c16
          refine lv_aload_n hx hb dX9_sideOf_126 rfl (lv_at hl 0 rfl) ?_
          refine gt_9_49 (i := 0) C hP (hok.2.1 9 0 (Nat.le_of_ble_eq_true rfl)) lk_X9_87 dX9_sideOf_127 ?_
          refine lv_aload_n hx hb dX9_sideOf_130 rfl (lv_at hl 0 rfl) ?_
          refine gt_9_29 (i := 0) C hP (hok.2.1 9 0 (Nat.le_of_ble_eq_true rfl)) lk_X9_35 dX9_sideOf_131 ?_
          refine lv_iconst (v := (3 : Int32)) hx hb dX9_sideOf_134 (by decide) ?_
          refine lv_iload_n hx hb dX9_sideOf_135 rfl (lv_at hl 1 rfl) ?_
          refine lv_imul hx hb dX9_sideOf_136 ?_
          refine lv_iload hx hb dX9_sideOf_137 (lv_at hl 5 rfl) ?_
          refine lv_iadd hx hb dX9_sideOf_139 ?_
          obtain ⟨b8, hf⟩ := gsp hf
          refine ra_ild (k := 47) (i := 0) (n := 72) (f := (gA w 47 0)) C hP (hok.2.1 47 0 (Nat.le_of_ble_eq_true rfl)) rfl b8 dX9_sideOf_140 ?_
          refine lv_aload_n hx hb dX9_sideOf_141 rfl (lv_at hl 0 rfl) ?_
          refine gt_9_29 (i := 0) C hP (hok.2.1 9 0 (Nat.le_of_ble_eq_true rfl)) lk_X9_35 dX9_sideOf_142 ?_
          refine lv_iconst (v := (3 : Int32)) hx hb dX9_sideOf_145 (by decide) ?_
          refine lv_iload_n hx hb dX9_sideOf_146 rfl (lv_at hl 2 rfl) ?_
          refine lv_imul hx hb dX9_sideOf_147 ?_
          refine lv_iload hx hb dX9_sideOf_148 (lv_at hl 5 rfl) ?_
          refine lv_iadd hx hb dX9_sideOf_150 ?_
          obtain ⟨b9, hf⟩ := gsp hf
          refine ra_ild (k := 47) (i := 0) (n := 72) (f := (gA w 47 0)) C hP (hok.2.1 47 0 (Nat.le_of_ble_eq_true rfl)) rfl b9 dX9_sideOf_151 ?_
          obtain ⟨z10, q11, hf⟩ := bsp hf
          refine kc_S (As := [.int (gA w 47 0 (((3 : Int32) * v1) + v7).toNatClampNeg), .int (gA w 47 0 (((3 : Int32) * v2) + v7).toNatClampNeg)]) (rest := [.ref (ad 64 0)]) hok.2.2 C hP hS hl.1 cw_X9_pair ml_X9_345 (c_X9_pair l D ca ad PL Z A hok N w (gA w 47 0 (((3 : Int32) * v1) + v7).toNatClampNeg) (gA w 47 0 (((3 : Int32) * v2) + v7).toNatClampNeg) z10 q11) rfl ⟨rfl, rfl⟩ ⟨Nat.le_of_ble_eq_true rfl, Nat.le_of_ble_eq_true rfl⟩ ⟨Nat.zero_le _, Nat.zero_le _⟩ (Nat.le_of_ble_eq_true rfl) rfl dX9_sideOf_152 (fun H locs hP hS => ?_)
          obtain ⟨b12, hf⟩ := gsp hf
          refine ra_lld (k := 64) (i := 0) (n := 576) (f := (gL w 64 0)) C hP (hok.2.1 64 0 (Nat.le_of_ble_eq_true rfl)) rfl b12 dX9_sideOf_155 ?_
          refine lv_lstore (lv' := [(8, .long (gL w 64 0 z10.toNatClampNeg)), (0, .ref (ad 9 0)), (1, .int v1), (2, .int v2), (3, .long v3), (5, .long v5), (7, .int v7)]) hx hb dX9_sideOf_156 hl (by decide) rfl (fun ls hl => ?_)
          refine lv_lload hx hb dX9_sideOf_158 (lv_at hl 0 rfl) ?_
          refine lv_ldc2 (v := (4000000000 : Int64)) hx hb hown (hts _ kc_X9_341) dX9_sideOf_160 ?_
          refine W.lcmp hx hb dX9_sideOf_163 ?_
          refine lv_if_lt (tgt := 173) hx hb dX9_sideOf_164 (by decide) (fun c15 => ?_) (fun c15 => ?_)
          · have hf := ifp hf c15
            refine lv_lload hx hb dX9_sideOf_173 (lv_at hl 5 rfl) ?_
            refine lv_lload hx hb dX9_sideOf_175 (lv_at hl 0 rfl) ?_
            refine lv_ladd hx hb dX9_sideOf_177 ?_
            obtain ⟨z13, q14, hf⟩ := bsp hf
            refine kc_S (As := [.long (v5 + (gL w 64 0 z10.toNatClampNeg))]) (rest := []) hok.2.2 C hP hS hl.1 cw_X9_held ml_X9_348 (c_X9_held l D ca ad PL Z A hok N w (v5 + (gL w 64 0 z10.toNatClampNeg)) z13 q14) rfl ⟨rfl, rfl⟩ ⟨Nat.le_of_ble_eq_true rfl, Nat.le_of_ble_eq_true rfl⟩ ⟨Nat.zero_le _, Nat.zero_le _⟩ (Nat.le_of_ble_eq_true rfl) rfl dX9_sideOf_178 (fun H locs hP hS => ?_)
            refine lv_lstore (lv' := [(5, .long z13), (8, .long (gL w 64 0 z10.toNatClampNeg)), (0, .ref (ad 9 0)), (1, .int v1), (2, .int v2), (3, .long v3), (7, .int v7)]) hx hb dX9_sideOf_181 hl (by decide) rfl (fun ls hl => ?_)
            refine lv_iinc (v := (v7 + (1 : Int32))) (lv' := [(7, .int (v7 + (1 : Int32))), (5, .long z13), (8, .long (gL w 64 0 z10.toNatClampNeg)), (0, .ref (ad 9 0)), (1, .int v1), (2, .int v2), (3, .long v3)]) hx hb dX9_sideOf_183 hl (k := 6) rfl rfl (by decide) rfl (fun ls hl => ?_)
            refine lv_goto (tgt := 107) hx hb dX9_sideOf_186 (by decide) ?_
            exact ih z13 (v7 + (1 : Int32)) hf _ _ ls hP hS (lv_sub hl [3, 4, 5, 6, 1, 0] rfl)
          · have hf := ifn hf c15
            refine lv_ldc2 (v := (4000000000 : Int64)) hx hb hown (hts _ kc_X9_341) dX9_sideOf_167 ?_
            refine lv_goto (tgt := 181) hx hb dX9_sideOf_170 (by decide) ?_
            refine lv_lstore (lv' := [(5, .long (4000000000 : Int64)), (8, .long (gL w 64 0 z10.toNatClampNeg)), (0, .ref (ad 9 0)), (1, .int v1), (2, .int v2), (3, .long v3), (7, .int v7)]) hx hb dX9_sideOf_181 hl (by decide) rfl (fun ls hl => ?_)
            refine lv_iinc (v := (v7 + (1 : Int32))) (lv' := [(7, .int (v7 + (1 : Int32))), (5, .long (4000000000 : Int64)), (8, .long (gL w 64 0 z10.toNatClampNeg)), (0, .ref (ad 9 0)), (1, .int v1), (2, .int v2), (3, .long v3)]) hx hb dX9_sideOf_183 hl (k := 6) rfl rfl (by decide) rfl (fun ls hl => ?_)
            refine lv_goto (tgt := 107) hx hb dX9_sideOf_186 (by decide) ?_
            exact ih (4000000000 : Int64) (v7 + (1 : Int32)) hf _ _ ls hP hS (lv_sub hl [3, 4, 5, 6, 1, 0] rfl)
  have P_f_X9_sideOf_84 : ∀ (v1 : Int32) (v2 : Int32) (v3 : Int64), f_X9_sideOf_84 N w  v1 v2 v3  = some r → WP p l e (rmk 1) s m [.ref (ad 9 0), .int x1, .int x2].toArray below meth c D ca ad PL A (MQ below (qcR D ca ad PL Z A w (some (.long r))) [.ref (ad 9 0), .int x1, .int x2].toArray s 0 0 A) 10 84 [] [(0, .ref (ad 9 0)), (1, .int v1), (2, .int v2), (3, .long v3)] w := by
    intro v1 v2 v3 hf _ _ ls hP hS hl
    unfold f_X9_sideOf_84 at hf
    refine lv_aload_n hx hb dX9_sideOf_84 rfl (lv_at hl 0 rfl) ?_
    refine gt_9_28 (i := 0) C hP (hok.2.1 9 0 (Nat.le_of_ble_eq_true rfl)) lk_X9_32 dX9_sideOf_85 ?_
    refine lv_iload_n hx hb dX9_sideOf_88 rfl (lv_at hl 1 rfl) ?_
    obtain ⟨b2, hf⟩ := gsp hf
    refine ra_ild (k := 46) (i := 0) (n := 24) (f := (gA w 46 0)) C hP (hok.2.1 46 0 (Nat.le_of_ble_eq_true rfl)) rfl b2 dX9_sideOf_89 ?_
    refine lv_aload_n hx hb dX9_sideOf_90 rfl (lv_at hl 0 rfl) ?_
    refine gt_9_28 (i := 0) C hP (hok.2.1 9 0 (Nat.le_of_ble_eq_true rfl)) lk_X9_32 dX9_sideOf_91 ?_
    refine lv_iload_n hx hb dX9_sideOf_94 rfl (lv_at hl 2 rfl) ?_
    obtain ⟨b3, hf⟩ := gsp hf
    refine ra_ild (k := 46) (i := 0) (n := 24) (f := (gA w 46 0)) C hP (hok.2.1 46 0 (Nat.le_of_ble_eq_true rfl)) rfl b3 dX9_sideOf_95 ?_
    refine lv_icmp_eq (tgt := 101) hx hb dX9_sideOf_96 (by decide) (fun c18 => ?_) (fun c18 => ?_)
    · have hf := ifp hf c18
      refine lv_lconst (v := (0 : Int64)) hx hb dX9_sideOf_101 (by decide) ?_
      refine lv_lstore (lv' := [(5, .long (0 : Int64)), (0, .ref (ad 9 0)), (1, .int v1), (2, .int v2), (3, .long v3)]) hx hb dX9_sideOf_102 hl (by decide) rfl (fun ls hl => ?_)
      refine lv_iconst (v := (0 : Int32)) hx hb dX9_sideOf_104 (by decide) ?_
      refine lv_istore (lv' := [(7, .int (0 : Int32)), (5, .long (0 : Int64)), (0, .ref (ad 9 0)), (1, .int v1), (2, .int v2), (3, .long v3)]) hx hb dX9_sideOf_105 hl (by decide) rfl (fun ls hl => ?_)
      exact L_lp_X9_sideOf_107 v1 v2 v3 _ (fun u5_4 hf H locs ls hP hS hl => P_f_X9_sideOf_189 v3 u5_4 hf _ _ ls hP hS (lv_sub hl [0, 1] rfl)) N (0 : Int64) (0 : Int32) hf _ _ ls hP hS (lv_sub hl [2, 3, 4, 5, 1, 0] rfl)
    · have hf := ifn hf c18
      refine lv_lload_n hx hb dX9_sideOf_99 rfl (lv_at hl 3 rfl) ?_
      exact kr_l hok.2.2 C hlocks hr hP hS rfl (Option.some.inj hf) dX9_sideOf_100
  have P_f_X9_sideOf_64_7 : ∀ (v1 : Int32) (v2 : Int32) (rc : Int64 → Int32 → Option (Int64)) (hrc : ∀ (v3 : Int64) (v5 : Int32), rc v3 v5 = some r → WP p l e (rmk 1) s m [.ref (ad 9 0), .int x1, .int x2].toArray below meth c D ca ad PL A (MQ below (qcR D ca ad PL Z A w (some (.long r))) [.ref (ad 9 0), .int x1, .int x2].toArray s 0 0 A) 10 7 [] [(0, .ref (ad 9 0)), (1, .int v1), (2, .int v2), (3, .long v3), (5, .int v5)] w) (k : Int64 → Option (Int64)) (hk : ∀ (v3 : Int64), k v3 = some r → WP p l e (rmk 1) s m [.ref (ad 9 0), .int x1, .int x2].toArray below meth c D ca ad PL A (MQ below (qcR D ca ad PL Z A w (some (.long r))) [.ref (ad 9 0), .int x1, .int x2].toArray s 0 0 A) 10 84 [] [(0, .ref (ad 9 0)), (1, .int v1), (2, .int v2), (3, .long v3)] w) (v3 : Int64) (v5 : Int32), f_X9_sideOf_64_7 rc k N w  v1 v2 v3 v5  = some r → WP p l e (rmk 1) s m [.ref (ad 9 0), .int x1, .int x2].toArray below meth c D ca ad PL A (MQ below (qcR D ca ad PL Z A w (some (.long r))) [.ref (ad 9 0), .int x1, .int x2].toArray s 0 0 A) 10 64 [] [(0, .ref (ad 9 0)), (1, .int v1), (2, .int v2), (3, .long v3), (5, .int v5)] w := by
    intro v1 v2 rc hrc k hk v3 v5 hf _ _ ls hP hS hl
    unfold f_X9_sideOf_64_7 at hf
    refine lv_iconst (v := (0 : Int32)) hx hb dX9_sideOf_64 (by decide) ?_
    refine lv_istore (lv' := [(6, .int (0 : Int32)), (0, .ref (ad 9 0)), (1, .int v1), (2, .int v2), (3, .long v3), (5, .int v5)]) hx hb dX9_sideOf_65 hl (by decide) rfl (fun ls hl => ?_)
    refine lv_iload hx hb dX9_sideOf_67 (lv_at hl 0 rfl) ?_
    refine lv_if_eq (tgt := 76) hx hb dX9_sideOf_69 (by decide) (fun c21 => ?_) (fun c21 => ?_)
    · have hf := ifp hf c21
      refine lv_lload_n hx hb dX9_sideOf_76 rfl (lv_at hl 4 rfl) ?_
      refine lv_lstore_n (lv' := [(3, .long v3), (6, .int (0 : Int32)), (0, .ref (ad 9 0)), (1, .int v1), (2, .int v2), (5, .int v5)]) hx hb dX9_sideOf_77 rfl hl (by decide) rfl (fun ls hl => ?_)
      refine lv_iinc (v := (v5 + (1 : Int32))) (lv' := [(5, .int (v5 + (1 : Int32))), (3, .long v3), (6, .int (0 : Int32)), (0, .ref (ad 9 0)), (1, .int v1), (2, .int v2)]) hx hb dX9_sideOf_78 hl (k := 5) rfl rfl (by decide) rfl (fun ls hl => ?_)
      refine lv_goto (tgt := 7) hx hb dX9_sideOf_81 (by decide) ?_
      exact hrc v3 (v5 + (1 : Int32)) hf _ _ ls hP hS (lv_sub hl [3, 4, 5, 1, 0] rfl)
    · have hf := ifn hf c21
      refine lv_lconst (v := (1 : Int64)) hx hb dX9_sideOf_72 (by decide) ?_
      refine lv_goto (tgt := 77) hx hb dX9_sideOf_73 (by decide) ?_
      refine lv_lstore_n (lv' := [(3, .long (1 : Int64)), (6, .int (0 : Int32)), (0, .ref (ad 9 0)), (1, .int v1), (2, .int v2), (5, .int v5)]) hx hb dX9_sideOf_77 rfl hl (by decide) rfl (fun ls hl => ?_)
      refine lv_iinc (v := (v5 + (1 : Int32))) (lv' := [(5, .int (v5 + (1 : Int32))), (3, .long (1 : Int64)), (6, .int (0 : Int32)), (0, .ref (ad 9 0)), (1, .int v1), (2, .int v2)]) hx hb dX9_sideOf_78 hl (k := 5) rfl rfl (by decide) rfl (fun ls hl => ?_)
      refine lv_goto (tgt := 7) hx hb dX9_sideOf_81 (by decide) ?_
      exact hrc (1 : Int64) (v5 + (1 : Int32)) hf _ _ ls hP hS (lv_sub hl [3, 4, 5, 1, 0] rfl)
  have P_f_X9_sideOf_60_7 : ∀ (v1 : Int32) (v2 : Int32) (rc : Int64 → Int32 → Option (Int64)) (hrc : ∀ (v3 : Int64) (v5 : Int32), rc v3 v5 = some r → WP p l e (rmk 1) s m [.ref (ad 9 0), .int x1, .int x2].toArray below meth c D ca ad PL A (MQ below (qcR D ca ad PL Z A w (some (.long r))) [.ref (ad 9 0), .int x1, .int x2].toArray s 0 0 A) 10 7 [] [(0, .ref (ad 9 0)), (1, .int v1), (2, .int v2), (3, .long v3), (5, .int v5)] w) (k : Int64 → Option (Int64)) (hk : ∀ (v3 : Int64), k v3 = some r → WP p l e (rmk 1) s m [.ref (ad 9 0), .int x1, .int x2].toArray below meth c D ca ad PL A (MQ below (qcR D ca ad PL Z A w (some (.long r))) [.ref (ad 9 0), .int x1, .int x2].toArray s 0 0 A) 10 84 [] [(0, .ref (ad 9 0)), (1, .int v1), (2, .int v2), (3, .long v3)] w) (v3 : Int64) (v5 : Int32), f_X9_sideOf_60_7 rc k N w  v1 v2 v3 v5  = some r → WP p l e (rmk 1) s m [.ref (ad 9 0), .int x1, .int x2].toArray below meth c D ca ad PL A (MQ below (qcR D ca ad PL Z A w (some (.long r))) [.ref (ad 9 0), .int x1, .int x2].toArray s 0 0 A) 10 60 [] [(0, .ref (ad 9 0)), (1, .int v1), (2, .int v2), (3, .long v3), (5, .int v5)] w := by
    intro v1 v2 rc hrc k hk v3 v5 hf _ _ ls hP hS hl
    unfold f_X9_sideOf_60_7 at hf
    refine lv_iconst (v := (1 : Int32)) hx hb dX9_sideOf_60 (by decide) ?_
    refine lv_goto (tgt := 65) hx hb dX9_sideOf_61 (by decide) ?_
    refine lv_istore (lv' := [(6, .int (1 : Int32)), (0, .ref (ad 9 0)), (1, .int v1), (2, .int v2), (3, .long v3), (5, .int v5)]) hx hb dX9_sideOf_65 hl (by decide) rfl (fun ls hl => ?_)
    refine lv_iload hx hb dX9_sideOf_67 (lv_at hl 0 rfl) ?_
    refine lv_if_eq (tgt := 76) hx hb dX9_sideOf_69 (by decide) (fun c22 => ?_) (fun c22 => ?_)
    · have hf := ifp hf c22
      refine lv_lload_n hx hb dX9_sideOf_76 rfl (lv_at hl 4 rfl) ?_
      refine lv_lstore_n (lv' := [(3, .long v3), (6, .int (1 : Int32)), (0, .ref (ad 9 0)), (1, .int v1), (2, .int v2), (5, .int v5)]) hx hb dX9_sideOf_77 rfl hl (by decide) rfl (fun ls hl => ?_)
      refine lv_iinc (v := (v5 + (1 : Int32))) (lv' := [(5, .int (v5 + (1 : Int32))), (3, .long v3), (6, .int (1 : Int32)), (0, .ref (ad 9 0)), (1, .int v1), (2, .int v2)]) hx hb dX9_sideOf_78 hl (k := 5) rfl rfl (by decide) rfl (fun ls hl => ?_)
      refine lv_goto (tgt := 7) hx hb dX9_sideOf_81 (by decide) ?_
      exact hrc v3 (v5 + (1 : Int32)) hf _ _ ls hP hS (lv_sub hl [3, 4, 5, 1, 0] rfl)
    · have hf := ifn hf c22
      refine lv_lconst (v := (1 : Int64)) hx hb dX9_sideOf_72 (by decide) ?_
      refine lv_goto (tgt := 77) hx hb dX9_sideOf_73 (by decide) ?_
      refine lv_lstore_n (lv' := [(3, .long (1 : Int64)), (6, .int (1 : Int32)), (0, .ref (ad 9 0)), (1, .int v1), (2, .int v2), (5, .int v5)]) hx hb dX9_sideOf_77 rfl hl (by decide) rfl (fun ls hl => ?_)
      refine lv_iinc (v := (v5 + (1 : Int32))) (lv' := [(5, .int (v5 + (1 : Int32))), (3, .long (1 : Int64)), (6, .int (1 : Int32)), (0, .ref (ad 9 0)), (1, .int v1), (2, .int v2)]) hx hb dX9_sideOf_78 hl (k := 5) rfl rfl (by decide) rfl (fun ls hl => ?_)
      refine lv_goto (tgt := 7) hx hb dX9_sideOf_81 (by decide) ?_
      exact hrc (1 : Int64) (v5 + (1 : Int32)) hf _ _ ls hP hS (lv_sub hl [3, 4, 5, 1, 0] rfl)
  have P_f_X9_sideOf_38_7 : ∀ (v1 : Int32) (v2 : Int32) (rc : Int64 → Int32 → Option (Int64)) (hrc : ∀ (v3 : Int64) (v5 : Int32), rc v3 v5 = some r → WP p l e (rmk 1) s m [.ref (ad 9 0), .int x1, .int x2].toArray below meth c D ca ad PL A (MQ below (qcR D ca ad PL Z A w (some (.long r))) [.ref (ad 9 0), .int x1, .int x2].toArray s 0 0 A) 10 7 [] [(0, .ref (ad 9 0)), (1, .int v1), (2, .int v2), (3, .long v3), (5, .int v5)] w) (k : Int64 → Option (Int64)) (hk : ∀ (v3 : Int64), k v3 = some r → WP p l e (rmk 1) s m [.ref (ad 9 0), .int x1, .int x2].toArray below meth c D ca ad PL A (MQ below (qcR D ca ad PL Z A w (some (.long r))) [.ref (ad 9 0), .int x1, .int x2].toArray s 0 0 A) 10 84 [] [(0, .ref (ad 9 0)), (1, .int v1), (2, .int v2), (3, .long v3)] w) (v3 : Int64) (v5 : Int32), f_X9_sideOf_38_7 rc k N w  v1 v2 v3 v5  = some r → WP p l e (rmk 1) s m [.ref (ad 9 0), .int x1, .int x2].toArray below meth c D ca ad PL A (MQ below (qcR D ca ad PL Z A w (some (.long r))) [.ref (ad 9 0), .int x1, .int x2].toArray s 0 0 A) 10 38 [] [(0, .ref (ad 9 0)), (1, .int v1), (2, .int v2), (3, .long v3), (5, .int v5)] w := by
    intro v1 v2 rc hrc k hk v3 v5 hf _ _ ls hP hS hl
    unfold f_X9_sideOf_38_7 at hf
    refine lv_aload_n hx hb dX9_sideOf_38 rfl (lv_at hl 0 rfl) ?_
    refine gt_9_31 (i := 0) C hP (hok.2.1 9 0 (Nat.le_of_ble_eq_true rfl)) lk_X9_38 dX9_sideOf_39 ?_
    refine lv_iload hx hb dX9_sideOf_42 (lv_at hl 4 rfl) ?_
    obtain ⟨b20, hf⟩ := gsp hf
    refine ra_ild (k := 48) (i := 0) (n := 13) (f := (gA w 48 0)) C hP (hok.2.1 48 0 (Nat.le_of_ble_eq_true rfl)) rfl b20 dX9_sideOf_44 ?_
    refine lv_iload_n hx hb dX9_sideOf_45 rfl (lv_at hl 2 rfl) ?_
    refine lv_icmp_ne (tgt := 64) hx hb dX9_sideOf_46 (by decide) (fun c24 => ?_) (fun c24 => ?_)
    · have hf := ifn hf c24
      exact P_f_X9_sideOf_64_7 v1 v2 _ hrc _ hk v3 v5 hf _ _ ls hP hS (lv_sub hl [0, 1, 2, 3, 4] rfl)
    · have hf := ifp hf c24
      refine lv_aload_n hx hb dX9_sideOf_49 rfl (lv_at hl 0 rfl) ?_
      refine gt_9_32 (i := 0) C hP (hok.2.1 9 0 (Nat.le_of_ble_eq_true rfl)) lk_X9_41 dX9_sideOf_50 ?_
      refine lv_iload hx hb dX9_sideOf_53 (lv_at hl 4 rfl) ?_
      refine ra_ild (k := 49) (i := 0) (n := 13) (f := (gA w 49 0)) C hP (hok.2.1 49 0 (Nat.le_of_ble_eq_true rfl)) rfl b20 dX9_sideOf_55 ?_
      refine lv_iload_n hx hb dX9_sideOf_56 rfl (lv_at hl 1 rfl) ?_
      refine lv_icmp_ne (tgt := 64) hx hb dX9_sideOf_57 (by decide) (fun c23 => ?_) (fun c23 => ?_)
      · have hf := ifn hf c23
        exact P_f_X9_sideOf_64_7 v1 v2 _ hrc _ hk v3 v5 hf _ _ ls hP hS (lv_sub hl [0, 1, 2, 3, 4] rfl)
      · have hf := ifp hf c23
        exact P_f_X9_sideOf_60_7 v1 v2 _ hrc _ hk v3 v5 hf _ _ ls hP hS (lv_sub hl [0, 1, 2, 3, 4] rfl)
  have L_lp_X9_sideOf_7 : ∀ (v1 : Int32) (v2 : Int32) (k : Int64 → Option (Int64)) (hk : ∀ (v3 : Int64), k v3 = some r → WP p l e (rmk 1) s m [.ref (ad 9 0), .int x1, .int x2].toArray below meth c D ca ad PL A (MQ below (qcR D ca ad PL Z A w (some (.long r))) [.ref (ad 9 0), .int x1, .int x2].toArray s 0 0 A) 10 84 [] [(0, .ref (ad 9 0)), (1, .int v1), (2, .int v2), (3, .long v3)] w) (n : Nat) (v3 : Int64) (v5 : Int32), lp_X9_sideOf_7 k N w  v1 v2 n v3 v5 = some r → WP p l e (rmk 1) s m [.ref (ad 9 0), .int x1, .int x2].toArray below meth c D ca ad PL A (MQ below (qcR D ca ad PL Z A w (some (.long r))) [.ref (ad 9 0), .int x1, .int x2].toArray s 0 0 A) 10 7 [] [(0, .ref (ad 9 0)), (1, .int v1), (2, .int v2), (3, .long v3), (5, .int v5)] w := by
    intro v1 v2 k hk n
    induction n with
    | zero => intro v3 v5 hf; rw [lp_X9_sideOf_7] at hf; cases hf
    | succ n ih =>
      intro v3 v5 hf _ _ ls hP hS hl
      rw [lp_X9_sideOf_7] at hf
      refine lv_iload hx hb dX9_sideOf_7 (lv_at hl 4 rfl) ?_
      refine lv_aload_n hx hb dX9_sideOf_9 rfl (lv_at hl 0 rfl) ?_
      refine gt_9_30 (i := 0) C hP (hok.2.1 9 0 (Nat.le_of_ble_eq_true rfl)) lk_X9_287 dX9_sideOf_10 ?_
      refine lv_icmp_ge (tgt := 84) hx hb dX9_sideOf_13 (by decide) (fun c27 => ?_) (fun c27 => ?_)
      · have hf := ifp hf c27
        exact hk v3 hf _ _ ls hP hS (lv_sub hl [0, 1, 2, 3] rfl)
      · have hf := ifn hf c27
        refine lv_aload_n hx hb dX9_sideOf_16 rfl (lv_at hl 0 rfl) ?_
        refine gt_9_31 (i := 0) C hP (hok.2.1 9 0 (Nat.le_of_ble_eq_true rfl)) lk_X9_38 dX9_sideOf_17 ?_
        refine lv_iload hx hb dX9_sideOf_20 (lv_at hl 4 rfl) ?_
        obtain ⟨b19, hf⟩ := gsp hf
        refine ra_ild (k := 48) (i := 0) (n := 13) (f := (gA w 48 0)) C hP (hok.2.1 48 0 (Nat.le_of_ble_eq_true rfl)) rfl b19 dX9_sideOf_22 ?_
        refine lv_iload_n hx hb dX9_sideOf_23 rfl (lv_at hl 1 rfl) ?_
        refine lv_icmp_ne (tgt := 38) hx hb dX9_sideOf_24 (by decide) (fun c26 => ?_) (fun c26 => ?_)
        · have hf := ifn hf c26
          exact P_f_X9_sideOf_38_7 v1 v2 _ ih _ hk v3 v5 hf _ _ ls hP hS (lv_sub hl [0, 1, 2, 3, 4] rfl)
        · have hf := ifp hf c26
          refine lv_aload_n hx hb dX9_sideOf_27 rfl (lv_at hl 0 rfl) ?_
          refine gt_9_32 (i := 0) C hP (hok.2.1 9 0 (Nat.le_of_ble_eq_true rfl)) lk_X9_41 dX9_sideOf_28 ?_
          refine lv_iload hx hb dX9_sideOf_31 (lv_at hl 4 rfl) ?_
          refine ra_ild (k := 49) (i := 0) (n := 13) (f := (gA w 49 0)) C hP (hok.2.1 49 0 (Nat.le_of_ble_eq_true rfl)) rfl b19 dX9_sideOf_33 ?_
          refine lv_iload_n hx hb dX9_sideOf_34 rfl (lv_at hl 2 rfl) ?_
          refine lv_icmp_eq (tgt := 60) hx hb dX9_sideOf_35 (by decide) (fun c25 => ?_) (fun c25 => ?_)
          · have hf := ifp hf c25
            exact P_f_X9_sideOf_60_7 v1 v2 _ ih _ hk v3 v5 hf _ _ ls hP hS (lv_sub hl [0, 1, 2, 3, 4] rfl)
          · have hf := ifn hf c25
            exact P_f_X9_sideOf_38_7 v1 v2 _ ih _ hk v3 v5 hf _ _ ls hP hS (lv_sub hl [0, 1, 2, 3, 4] rfl)
  unfold f_X9_sideOf at hf
  -- walk
  refine lv_ldc2 (v := (4000000000 : Int64)) hx hb hown (hts _ kc_X9_341) dX9_sideOf_0 ?_
  refine lv_lstore_n (lv' := [(3, .long (4000000000 : Int64)), (0, .ref (ad 9 0)), (1, .int x1), (2, .int x2)]) hx hb dX9_sideOf_3 rfl hl (by decide) rfl (fun ls hl => ?_)
  refine lv_iconst (v := (0 : Int32)) hx hb dX9_sideOf_4 (by decide) ?_
  refine lv_istore (lv' := [(5, .int (0 : Int32)), (3, .long (4000000000 : Int64)), (0, .ref (ad 9 0)), (1, .int x1), (2, .int x2)]) hx hb dX9_sideOf_5 hl (by decide) rfl (fun ls hl => ?_)
  exact L_lp_X9_sideOf_7 x1 x2 _ (fun u3_1 hf H locs ls hP hS hl => P_f_X9_sideOf_84 x1 x2 u3_1 hf _ _ ls hP hS (lv_sub hl [0, 1, 2, 3] rfl)) N (4000000000 : Int64) (0 : Int32) hf _ _ ls hP hS (lv_sub hl [2, 3, 4, 1, 0] rfl)
def f_X9_lessens_246 (N : Nat) (w : Mem)  (v1 : Int32) : Option (Mem × Int32) :=
  (if v1 = 0 ∨ v1 = 1 then some (w, v1) else none)
def f_X9_lessens_240_107 (rc : Mem → Int32 → Int32 → Option (Mem × Int32)) (k : Mem → Int32 → Option (Mem × Int32)) (N : Nat) (w : Mem)  (v1 : Int32) (v2 : Int32) : Option (Mem × Int32) :=
  (rc w v1 (v2 + (1 : Int32)))
def f_X9_lessens_234_117 (rc : Mem → Int32 → Int32 → Option (Mem × Int32)) (k : Mem → Int32 → Option (Mem × Int32)) (N : Nat) (w : Mem)  (v1 : Int32) (v2 : Int32) (v3 : Int32) : Option (Mem × Int32) :=
  (rc w v1 (v3 + (1 : Int32)))
def f_X9_lessens_194_128_s1 (rc : Mem → Int32 → Int32 → Option (Mem × Int32)) (k : Mem → Int32 → Option (Mem × Int32)) (N : Nat) (w : Mem)  (v1 : Int32) (v2 : Int32) (v3 : Int32) (v4 : Int32) (s0 : Int64) : Option (Mem × Int32) :=
  (Option.bind (f_X9_pair N w v3 v4) (fun z12 => (if inb z12 576 = true then (if (0 : Int32) ≤ (lg_cmp s0 (gL w 64 0 z12.toNatClampNeg)) then
(rc w v1 (v4 + (1 : Int32)))
else
(Option.bind (f_X9_pair N w v3 v4) (fun z15 => (if inb z15 576 = true then (rc (sL w 64 0 z15.toNatClampNeg s0) (1 : Int32) (v4 + (1 : Int32))) else none)))) else none)))
def lp_X9_lessens_128 (k : Mem → Int32 → Option (Mem × Int32)) (N : Nat)  (v2 : Int32) (v3 : Int32) : Nat → Mem → Int32 → Int32 → Option (Mem × Int32)
  | 0, _, _, _ => none
  | n + 1, w, v1, v4 => (if (gF w 9 27 0) ≤ v4 then
(k w v1)
else
(Option.bind (f_X9_pair N w v3 v2) (fun z6 => (if inb z6 576 = true then (Option.bind (f_X9_pair N w v2 v4) (fun z9 => (if inb z9 576 = true then (if (0 : Int32) ≤ (lg_cmp (gL w 64 0 z6.toNatClampNeg) (4000000000 : Int64)) then
(f_X9_lessens_194_128_s1 (fun (w : Mem) (v1 : Int32) (v4 : Int32) => lp_X9_lessens_128 k N   v2 v3 n w v1 v4) k N w  v1 v2 v3 v4 (4000000000 : Int64))
else
(if (lg_cmp (gL w 64 0 z9.toNatClampNeg) (4000000000 : Int64)) < (0 : Int32) then
(Option.bind (f_X9_held N w ((gL w 64 0 z6.toNatClampNeg) + (gL w 64 0 z9.toNatClampNeg))) (fun z19 => (f_X9_lessens_194_128_s1 (fun (w : Mem) (v1 : Int32) (v4 : Int32) => lp_X9_lessens_128 k N   v2 v3 n w v1 v4) k N w  v1 v2 v3 v4 z19)))
else
(f_X9_lessens_194_128_s1 (fun (w : Mem) (v1 : Int32) (v4 : Int32) => lp_X9_lessens_128 k N   v2 v3 n w v1 v4) k N w  v1 v2 v3 v4 (4000000000 : Int64)))) else none))) else none))))
def lp_X9_lessens_117 (k : Mem → Int32 → Option (Mem × Int32)) (N : Nat)  (v2 : Int32) : Nat → Mem → Int32 → Int32 → Option (Mem × Int32)
  | 0, _, _, _ => none
  | n + 1, w, v1, v3 => (if (gF w 9 27 0) ≤ v3 then
(k w v1)
else
(lp_X9_lessens_128 (fun (w_5 : Mem) (u1_5 : Int32) => (f_X9_lessens_234_117 (fun (w : Mem) (v1 : Int32) (v3 : Int32) => lp_X9_lessens_117 k N   v2 n w v1 v3) k N w_5  u1_5 v2 v3 )) N   v2 v3 N w v1 (0 : Int32)))
def lp_X9_lessens_107 (k : Mem → Int32 → Option (Mem × Int32)) (N : Nat)  : Nat → Mem → Int32 → Int32 → Option (Mem × Int32)
  | 0, _, _, _ => none
  | n + 1, w, v1, v2 => (if (gF w 9 27 0) ≤ v2 then
(k w v1)
else
(lp_X9_lessens_117 (fun (w_4 : Mem) (u1_4 : Int32) => (f_X9_lessens_240_107 (fun (w : Mem) (v1 : Int32) (v2 : Int32) => lp_X9_lessens_107 k N    n w v1 v2) k N w_4  u1_4 v2 )) N   v2 N w v1 (0 : Int32)))
def f_X9_lessens_105 (N : Nat) (w : Mem)  (v1 : Int32) : Option (Mem × Int32) :=
  (lp_X9_lessens_107 (fun (w_2 : Mem) (u1_2 : Int32) => (f_X9_lessens_246 N w_2  u1_2 )) N    N w v1 (0 : Int32))
def f_X9_lessens_99_4 (rc : Mem → Int32 → Int32 → Option (Mem × Int32)) (k : Mem → Int32 → Option (Mem × Int32)) (N : Nat) (w : Mem)  (v1 : Int32) (v2 : Int32) : Option (Mem × Int32) :=
  (rc w v1 (v2 + (1 : Int32)))
def f_X9_lessens_46_14_s3 (rc : Mem → Int32 → Int32 → Option (Mem × Int32)) (k : Mem → Int32 → Option (Mem × Int32)) (N : Nat) (w : Mem)  (v1 : Int32) (v2 : Int32) (v3 : Int32) (s0 : Int64) (s1 : Int32) : Option (Mem × Int32) :=
  (if inb s1 576 = true then (Option.bind (f_X9_pair N (sL w 65 0 s1.toNatClampNeg s0) v2 v3) (fun z32 => (if inb z32 576 = true then (Option.bind (f_X9_pair N (sL w 65 0 s1.toNatClampNeg s0) v2 v3) (fun z35 => (if inb z35 576 = true then (if (0 : Int32) ≤ (lg_cmp (gL (sL w 65 0 s1.toNatClampNeg s0) 65 0 z32.toNatClampNeg) (gL (sL w 65 0 s1.toNatClampNeg s0) 64 0 z35.toNatClampNeg)) then
(rc (sL w 65 0 s1.toNatClampNeg s0) v1 (v3 + (1 : Int32)))
else
(Option.bind (f_X9_pair N (sL w 65 0 s1.toNatClampNeg s0) v2 v3) (fun z38 => (Option.bind (f_X9_pair N (sL w 65 0 s1.toNatClampNeg s0) v2 v3) (fun z40 => (if inb z40 576 = true then (if inb z38 576 = true then (rc (sL (sL w 65 0 s1.toNatClampNeg s0) 64 0 z38.toNatClampNeg (gL (sL w 65 0 s1.toNatClampNeg s0) 65 0 z40.toNatClampNeg)) (1 : Int32) (v3 + (1 : Int32))) else none) else none)))))) else none))) else none))) else none)
def lp_X9_lessens_14 (k : Mem → Int32 → Option (Mem × Int32)) (N : Nat)  (v2 : Int32) : Nat → Mem → Int32 → Int32 → Option (Mem × Int32)
  | 0, _, _, _ => none
  | n + 1, w, v1, v3 => (if (gF w 9 27 0) ≤ v3 then
(k w v1)
else
(Option.bind (f_X9_pair N w v2 v3) (fun z27 => (if v2 = v3 then
(f_X9_lessens_46_14_s3 (fun (w : Mem) (v1 : Int32) (v3 : Int32) => lp_X9_lessens_14 k N   v2 n w v1 v3) k N w  v1 v2 v3 (0 : Int64) z27)
else
(Option.bind (f_X9_sideOf N w v2 v3) (fun z29 => (f_X9_lessens_46_14_s3 (fun (w : Mem) (v1 : Int32) (v3 : Int32) => lp_X9_lessens_14 k N   v2 n w v1 v3) k N w  v1 v2 v3 z29 z27)))))))
def lp_X9_lessens_4 (k : Mem → Int32 → Option (Mem × Int32)) (N : Nat)  : Nat → Mem → Int32 → Int32 → Option (Mem × Int32)
  | 0, _, _, _ => none
  | n + 1, w, v1, v2 => (if (gF w 9 27 0) ≤ v2 then
(k w v1)
else
(lp_X9_lessens_14 (fun (w_26 : Mem) (u1_26 : Int32) => (f_X9_lessens_99_4 (fun (w : Mem) (v1 : Int32) (v2 : Int32) => lp_X9_lessens_4 k N    n w v1 v2) k N w_26  u1_26 v2 )) N   v2 N w v1 (0 : Int32)))
def f_X9_lessens (N : Nat) (w : Mem)  : Option (Mem × Int32) :=
  (lp_X9_lessens_4 (fun (w_1 : Mem) (u1_1 : Int32) => (f_X9_lessens_105 N w_1  u1_1 )) N    N w (0 : Int32) (0 : Int32))
set_option maxRecDepth 100000 in
set_option maxHeartbeats 4000000 in
theorem c_X9_lessens (l : Launch) (D : va_G) (ca : Nat → ClassId) (ad : Nat → Nat → Nat) (PL : List (Nat × Nat)) (Z : State → Prop) (A : Nat → Prop) (hok : okc bM Z A ad PL) (N : Nat) (w : Mem)  (w' : Mem) (r : Int32) (hf : f_X9_lessens N w  = some (w', r)) : CT l yX9_lessens (wsy yX9_lessens cX9_lessens 11 (some .boolean)) (rmk 2) D ca ad PL Z A [.ref (ad 9 0)] w w' (some (.int r)) := by
  refine Met.ofW (cc := cX9_lessens) (maxL := 11) (ret := (some .boolean)) (by decide +kernel) rfl ?_
  intro p e s m args below meth c s₁ B hml hv
  obtain ⟨rfl, hP, hK, hZ⟩ := hv
  have hx := B.exec
  have hb := B.bytes
  have hr := B.returns
  have hlocks := B.notSynchronized
  have hts : ∀ w ∈ ALL, w.before _ s = true := fun w hw => atoms_spec (ws := wsy yX9_lessens cX9_lessens 11 (some .boolean)) B.pre w (List.mem_cons_of_mem _ hw)
  have hown : s.vm.findClass RX9 = some m.cls := findClass_of_methodNamed B.named
  have C : CX p s m _ c cX9_lessens RX9 11 D ca Z := ⟨hx, hb, hml, hown, hts, hK, hZ⟩
  have hS : va_S A s.heap s.heap [] := va_S.rf
  have hl := lv_entry ([.ref (ad 9 0)]) (n := 11) (Nat.le_of_ble_eq_true rfl)
  rw [lg_entry_eq]
  generalize (lg_sl ([.ref (ad 9 0)]) ++ List.replicate (11 - (lg_sl ([.ref (ad 9 0)])).length) Slot.unset).toArray = ls at hl ⊢
  have hl : lv_has ls 11 [(0, .ref (ad 9 0))] := hl
  show W p l e (rmk 2) s m _ below meth c s.heap [] 0 0 _ _
  have P_f_X9_lessens_246 : ∀ (w : Mem) (v1 : Int32), f_X9_lessens_246 N w  v1  = some (w', r) → WP p l e (rmk 2) s m [.ref (ad 9 0)].toArray below meth c D ca ad PL A (MQ below (qcR D ca ad PL Z A w' (some (.int r))) [.ref (ad 9 0)].toArray s 0 0 A) 11 246 [] [(1, .int v1)] w := by
    intro w v1 hf _ _ ls hP hS hl
    unfold f_X9_lessens_246 at hf
    refine lv_iload_n hx hb dX9_lessens_246 rfl (lv_at hl 0 rfl) ?_
    obtain ⟨b3, hf⟩ := gsp hf
    exact kr_i hok.2.2 C hlocks hr (nar_z b3) hP hS (congrArg Prod.fst (Option.some.inj hf)) (congrArg Prod.snd (Option.some.inj hf)) dX9_lessens_247
  have P_f_X9_lessens_240_107 : ∀ (rc : Mem → Int32 → Int32 → Option (Mem × Int32)) (hrc : ∀ (w : Mem) (v1 : Int32) (v2 : Int32), rc w v1 v2 = some (w', r) → WP p l e (rmk 2) s m [.ref (ad 9 0)].toArray below meth c D ca ad PL A (MQ below (qcR D ca ad PL Z A w' (some (.int r))) [.ref (ad 9 0)].toArray s 0 0 A) 11 107 [] [(0, .ref (ad 9 0)), (1, .int v1), (2, .int v2)] w) (k : Mem → Int32 → Option (Mem × Int32)) (hk : ∀ (w : Mem) (v1 : Int32), k w v1 = some (w', r) → WP p l e (rmk 2) s m [.ref (ad 9 0)].toArray below meth c D ca ad PL A (MQ below (qcR D ca ad PL Z A w' (some (.int r))) [.ref (ad 9 0)].toArray s 0 0 A) 11 246 [] [(1, .int v1)] w) (w : Mem) (v1 : Int32) (v2 : Int32), f_X9_lessens_240_107 rc k N w  v1 v2  = some (w', r) → WP p l e (rmk 2) s m [.ref (ad 9 0)].toArray below meth c D ca ad PL A (MQ below (qcR D ca ad PL Z A w' (some (.int r))) [.ref (ad 9 0)].toArray s 0 0 A) 11 240 [] [(0, .ref (ad 9 0)), (1, .int v1), (2, .int v2)] w := by
    intro rc hrc k hk w v1 v2 hf _ _ ls hP hS hl
    unfold f_X9_lessens_240_107 at hf
    refine lv_iinc (v := (v2 + (1 : Int32))) (lv' := [(2, .int (v2 + (1 : Int32))), (0, .ref (ad 9 0)), (1, .int v1)]) hx hb dX9_lessens_240 hl (k := 2) rfl rfl (by decide) rfl (fun ls hl => ?_)
    refine lv_goto (tgt := 107) hx hb dX9_lessens_243 (by decide) ?_
    exact hrc w v1 (v2 + (1 : Int32)) hf _ _ ls hP hS (lv_sub hl [1, 2, 0] rfl)
  have P_f_X9_lessens_234_117 : ∀ (v2 : Int32) (rc : Mem → Int32 → Int32 → Option (Mem × Int32)) (hrc : ∀ (w : Mem) (v1 : Int32) (v3 : Int32), rc w v1 v3 = some (w', r) → WP p l e (rmk 2) s m [.ref (ad 9 0)].toArray below meth c D ca ad PL A (MQ below (qcR D ca ad PL Z A w' (some (.int r))) [.ref (ad 9 0)].toArray s 0 0 A) 11 117 [] [(0, .ref (ad 9 0)), (1, .int v1), (2, .int v2), (3, .int v3)] w) (k : Mem → Int32 → Option (Mem × Int32)) (hk : ∀ (w : Mem) (v1 : Int32), k w v1 = some (w', r) → WP p l e (rmk 2) s m [.ref (ad 9 0)].toArray below meth c D ca ad PL A (MQ below (qcR D ca ad PL Z A w' (some (.int r))) [.ref (ad 9 0)].toArray s 0 0 A) 11 240 [] [(0, .ref (ad 9 0)), (1, .int v1), (2, .int v2)] w) (w : Mem) (v1 : Int32) (v3 : Int32), f_X9_lessens_234_117 rc k N w  v1 v2 v3  = some (w', r) → WP p l e (rmk 2) s m [.ref (ad 9 0)].toArray below meth c D ca ad PL A (MQ below (qcR D ca ad PL Z A w' (some (.int r))) [.ref (ad 9 0)].toArray s 0 0 A) 11 234 [] [(0, .ref (ad 9 0)), (1, .int v1), (2, .int v2), (3, .int v3)] w := by
    intro v2 rc hrc k hk w v1 v3 hf _ _ ls hP hS hl
    unfold f_X9_lessens_234_117 at hf
    refine lv_iinc (v := (v3 + (1 : Int32))) (lv' := [(3, .int (v3 + (1 : Int32))), (0, .ref (ad 9 0)), (1, .int v1), (2, .int v2)]) hx hb dX9_lessens_234 hl (k := 3) rfl rfl (by decide) rfl (fun ls hl => ?_)
    refine lv_goto (tgt := 117) hx hb dX9_lessens_237 (by decide) ?_
    exact hrc w v1 (v3 + (1 : Int32)) hf _ _ ls hP hS (lv_sub hl [1, 2, 3, 0] rfl)
  have P_f_X9_lessens_194_128_s1 : ∀ (v2 : Int32) (v3 : Int32) (rc : Mem → Int32 → Int32 → Option (Mem × Int32)) (hrc : ∀ (w : Mem) (v1 : Int32) (v4 : Int32), rc w v1 v4 = some (w', r) → WP p l e (rmk 2) s m [.ref (ad 9 0)].toArray below meth c D ca ad PL A (MQ below (qcR D ca ad PL Z A w' (some (.int r))) [.ref (ad 9 0)].toArray s 0 0 A) 11 128 [] [(0, .ref (ad 9 0)), (1, .int v1), (2, .int v2), (3, .int v3), (4, .int v4)] w) (k : Mem → Int32 → Option (Mem × Int32)) (hk : ∀ (w : Mem) (v1 : Int32), k w v1 = some (w', r) → WP p l e (rmk 2) s m [.ref (ad 9 0)].toArray below meth c D ca ad PL A (MQ below (qcR D ca ad PL Z A w' (some (.int r))) [.ref (ad 9 0)].toArray s 0 0 A) 11 234 [] [(0, .ref (ad 9 0)), (1, .int v1), (2, .int v2), (3, .int v3)] w) (w : Mem) (v1 : Int32) (v4 : Int32) (s0 : Int64), f_X9_lessens_194_128_s1 rc k N w  v1 v2 v3 v4 s0 = some (w', r) → WP p l e (rmk 2) s m [.ref (ad 9 0)].toArray below meth c D ca ad PL A (MQ below (qcR D ca ad PL Z A w' (some (.int r))) [.ref (ad 9 0)].toArray s 0 0 A) 11 194 [.long s0] [(0, .ref (ad 9 0)), (1, .int v1), (2, .int v2), (3, .int v3), (4, .int v4)] w := by
    intro v2 v3 rc hrc k hk w v1 v4 s0 hf _ _ ls hP hS hl
    unfold f_X9_lessens_194_128_s1 at hf
    refine lv_lstore (lv' := [(9, .long s0), (0, .ref (ad 9 0)), (1, .int v1), (2, .int v2), (3, .int v3), (4, .int v4)]) hx hb dX9_lessens_194 hl (by decide) rfl (fun ls hl => ?_)
    refine lv_lload hx hb dX9_lessens_196 (lv_at hl 0 rfl) ?_
    refine lv_aload_n hx hb dX9_lessens_198 rfl (lv_at hl 1 rfl) ?_
    refine gt_9_49 (i := 0) C hP (hok.2.1 9 0 (Nat.le_of_ble_eq_true rfl)) lk_X9_87 dX9_lessens_199 ?_
    refine lv_iload_n hx hb dX9_lessens_202 rfl (lv_at hl 4 rfl) ?_
    refine lv_iload hx hb dX9_lessens_203 (lv_at hl 5 rfl) ?_
    obtain ⟨z12, q13, hf⟩ := bsp hf
    refine kc_S (As := [.int v3, .int v4]) (rest := [.ref (ad 64 0), .long s0]) hok.2.2 C hP hS hl.1 cw_X9_pair ml_X9_345 (c_X9_pair l D ca ad PL Z A hok N w v3 v4 z12 q13) rfl ⟨rfl, rfl⟩ ⟨Nat.le_of_ble_eq_true rfl, Nat.le_of_ble_eq_true rfl⟩ ⟨Nat.zero_le _, Nat.zero_le _⟩ (Nat.le_of_ble_eq_true rfl) rfl dX9_lessens_205 (fun H locs hP hS => ?_)
    obtain ⟨b14, hf⟩ := gsp hf
    refine ra_lld (k := 64) (i := 0) (n := 576) (f := (gL w 64 0)) C hP (hok.2.1 64 0 (Nat.le_of_ble_eq_true rfl)) rfl b14 dX9_lessens_208 ?_
    refine W.lcmp hx hb dX9_lessens_209 ?_
    refine lv_if_ge (tgt := 228) hx hb dX9_lessens_210 (by decide) (fun c18 => ?_) (fun c18 => ?_)
    · have hf := ifp hf c18
      refine lv_iinc (v := (v4 + (1 : Int32))) (lv' := [(4, .int (v4 + (1 : Int32))), (9, .long s0), (0, .ref (ad 9 0)), (1, .int v1), (2, .int v2), (3, .int v3)]) hx hb dX9_lessens_228 hl (k := 5) rfl rfl (by decide) rfl (fun ls hl => ?_)
      refine lv_goto (tgt := 128) hx hb dX9_lessens_231 (by decide) ?_
      exact hrc w v1 (v4 + (1 : Int32)) hf _ _ ls hP hS (lv_sub hl [2, 3, 4, 5, 0] rfl)
    · have hf := ifn hf c18
      refine lv_aload_n hx hb dX9_lessens_213 rfl (lv_at hl 1 rfl) ?_
      refine gt_9_49 (i := 0) C hP (hok.2.1 9 0 (Nat.le_of_ble_eq_true rfl)) lk_X9_87 dX9_lessens_214 ?_
      refine lv_iload_n hx hb dX9_lessens_217 rfl (lv_at hl 4 rfl) ?_
      refine lv_iload hx hb dX9_lessens_218 (lv_at hl 5 rfl) ?_
      obtain ⟨z15, q16, hf⟩ := bsp hf
      refine kc_S (As := [.int v3, .int v4]) (rest := [.ref (ad 64 0)]) hok.2.2 C hP hS hl.1 cw_X9_pair ml_X9_345 (c_X9_pair l D ca ad PL Z A hok N w v3 v4 z15 q16) rfl ⟨rfl, rfl⟩ ⟨Nat.le_of_ble_eq_true rfl, Nat.le_of_ble_eq_true rfl⟩ ⟨Nat.zero_le _, Nat.zero_le _⟩ (Nat.le_of_ble_eq_true rfl) rfl dX9_lessens_220 (fun H locs hP hS => ?_)
      refine lv_lload hx hb dX9_lessens_223 (lv_at hl 0 rfl) ?_
      obtain ⟨b17, hf⟩ := gsp hf
      refine ra_lst (k := 64) (i := 0) (n := 576) C hok.1 hP hS (hok.2.1 64 0 (Nat.le_of_ble_eq_true rfl)) (fun _ => rfl) b17 dX9_lessens_225 (fun H locs hP hS => ?_)
      refine lv_iconst (v := (1 : Int32)) hx hb dX9_lessens_226 (by decide) ?_
      refine lv_istore_n (lv' := [(1, .int (1 : Int32)), (9, .long s0), (0, .ref (ad 9 0)), (2, .int v2), (3, .int v3), (4, .int v4)]) hx hb dX9_lessens_227 rfl hl (by decide) rfl (fun ls hl => ?_)
      refine lv_iinc (v := (v4 + (1 : Int32))) (lv' := [(4, .int (v4 + (1 : Int32))), (1, .int (1 : Int32)), (9, .long s0), (0, .ref (ad 9 0)), (2, .int v2), (3, .int v3)]) hx hb dX9_lessens_228 hl (k := 5) rfl rfl (by decide) rfl (fun ls hl => ?_)
      refine lv_goto (tgt := 128) hx hb dX9_lessens_231 (by decide) ?_
      exact hrc (sL w 64 0 z15.toNatClampNeg s0) (1 : Int32) (v4 + (1 : Int32)) hf _ _ ls hP hS (lv_sub hl [3, 1, 4, 5, 0] rfl)
  have L_lp_X9_lessens_128 : ∀ (v2 : Int32) (v3 : Int32) (k : Mem → Int32 → Option (Mem × Int32)) (hk : ∀ (w : Mem) (v1 : Int32), k w v1 = some (w', r) → WP p l e (rmk 2) s m [.ref (ad 9 0)].toArray below meth c D ca ad PL A (MQ below (qcR D ca ad PL Z A w' (some (.int r))) [.ref (ad 9 0)].toArray s 0 0 A) 11 234 [] [(0, .ref (ad 9 0)), (1, .int v1), (2, .int v2), (3, .int v3)] w) (n : Nat) (w : Mem) (v1 : Int32) (v4 : Int32), lp_X9_lessens_128 k N   v2 v3 n w v1 v4 = some (w', r) → WP p l e (rmk 2) s m [.ref (ad 9 0)].toArray below meth c D ca ad PL A (MQ below (qcR D ca ad PL Z A w' (some (.int r))) [.ref (ad 9 0)].toArray s 0 0 A) 11 128 [] [(0, .ref (ad 9 0)), (1, .int v1), (2, .int v2), (3, .int v3), (4, .int v4)] w := by
    intro v2 v3 k hk n
    induction n with
    | zero => intro w v1 v4 hf; rw [lp_X9_lessens_128] at hf; cases hf
    | succ n ih =>
      intro w v1 v4 hf _ _ ls hP hS hl
      rw [lp_X9_lessens_128] at hf
      refine lv_iload hx hb dX9_lessens_128 (lv_at hl 4 rfl) ?_
      refine lv_aload_n hx hb dX9_lessens_130 rfl (lv_at hl 0 rfl) ?_
      refine gt_9_27 (i := 0) C hP (hok.2.1 9 0 (Nat.le_of_ble_eq_true rfl)) lk_X9_250 dX9_lessens_131 ?_
      refine lv_icmp_ge (tgt := 234) hx hb dX9_lessens_134 (by decide) (fun c23 => ?_) (fun c23 => ?_)
      · have hf := ifp hf c23
        exact hk w v1 hf _ _ ls hP hS (lv_sub hl [0, 1, 2, 3] rfl)
      · have hf := ifn hf c23
        refine lv_aload_n hx hb dX9_lessens_137 rfl (lv_at hl 0 rfl) ?_
        refine gt_9_49 (i := 0) C hP (hok.2.1 9 0 (Nat.le_of_ble_eq_true rfl)) lk_X9_87 dX9_lessens_138 ?_
        refine lv_iload_n hx hb dX9_lessens_141 rfl (lv_at hl 3 rfl) ?_
        refine lv_iload_n hx hb dX9_lessens_142 rfl (lv_at hl 2 rfl) ?_
        obtain ⟨z6, q7, hf⟩ := bsp hf
        refine kc_S (As := [.int v3, .int v2]) (rest := [.ref (ad 64 0)]) hok.2.2 C hP hS hl.1 cw_X9_pair ml_X9_345 (c_X9_pair l D ca ad PL Z A hok N w v3 v2 z6 q7) rfl ⟨rfl, rfl⟩ ⟨Nat.le_of_ble_eq_true rfl, Nat.le_of_ble_eq_true rfl⟩ ⟨Nat.zero_le _, Nat.zero_le _⟩ (Nat.le_of_ble_eq_true rfl) rfl dX9_lessens_143 (fun H locs hP hS => ?_)
        obtain ⟨b8, hf⟩ := gsp hf
        refine ra_lld (k := 64) (i := 0) (n := 576) (f := (gL w 64 0)) C hP (hok.2.1 64 0 (Nat.le_of_ble_eq_true rfl)) rfl b8 dX9_lessens_146 ?_
        refine lv_lstore (lv' := [(5, .long (gL w 64 0 z6.toNatClampNeg)), (0, .ref (ad 9 0)), (1, .int v1), (2, .int v2), (3, .int v3), (4, .int v4)]) hx hb dX9_lessens_147 hl (by decide) rfl (fun ls hl => ?_)
        refine lv_aload_n hx hb dX9_lessens_149 rfl (lv_at hl 1 rfl) ?_
        refine gt_9_49 (i := 0) C hP (hok.2.1 9 0 (Nat.le_of_ble_eq_true rfl)) lk_X9_87 dX9_lessens_150 ?_
        refine lv_iload_n hx hb dX9_lessens_153 rfl (lv_at hl 3 rfl) ?_
        refine lv_iload hx hb dX9_lessens_154 (lv_at hl 5 rfl) ?_
        obtain ⟨z9, q10, hf⟩ := bsp hf
        refine kc_S (As := [.int v2, .int v4]) (rest := [.ref (ad 64 0)]) hok.2.2 C hP hS hl.1 cw_X9_pair ml_X9_345 (c_X9_pair l D ca ad PL Z A hok N w v2 v4 z9 q10) rfl ⟨rfl, rfl⟩ ⟨Nat.le_of_ble_eq_true rfl, Nat.le_of_ble_eq_true rfl⟩ ⟨Nat.zero_le _, Nat.zero_le _⟩ (Nat.le_of_ble_eq_true rfl) rfl dX9_lessens_156 (fun H locs hP hS => ?_)
        obtain ⟨b11, hf⟩ := gsp hf
        refine ra_lld (k := 64) (i := 0) (n := 576) (f := (gL w 64 0)) C hP (hok.2.1 64 0 (Nat.le_of_ble_eq_true rfl)) rfl b11 dX9_lessens_159 ?_
        refine lv_lstore (lv' := [(7, .long (gL w 64 0 z9.toNatClampNeg)), (5, .long (gL w 64 0 z6.toNatClampNeg)), (0, .ref (ad 9 0)), (1, .int v1), (2, .int v2), (3, .int v3), (4, .int v4)]) hx hb dX9_lessens_160 hl (by decide) rfl (fun ls hl => ?_)
        refine lv_lload hx hb dX9_lessens_162 (lv_at hl 1 rfl) ?_
        refine lv_ldc2 (v := (4000000000 : Int64)) hx hb hown (hts _ kc_X9_341) dX9_lessens_164 ?_
        refine W.lcmp hx hb dX9_lessens_167 ?_
        refine lv_if_ge (tgt := 180) hx hb dX9_lessens_168 (by decide) (fun c22 => ?_) (fun c22 => ?_)
        · have hf := ifp hf c22
          refine lv_ldc2 (v := (4000000000 : Int64)) hx hb hown (hts _ kc_X9_341) dX9_lessens_180 ?_
          refine lv_goto (tgt := 194) hx hb dX9_lessens_183 (by decide) ?_
          exact P_f_X9_lessens_194_128_s1 v2 v3 _ ih _ hk w v1 v4 (4000000000 : Int64) hf _ _ ls hP hS (lv_sub hl [2, 3, 4, 5, 6] rfl)
        · have hf := ifn hf c22
          refine lv_lload hx hb dX9_lessens_171 (lv_at hl 0 rfl) ?_
          refine lv_ldc2 (v := (4000000000 : Int64)) hx hb hown (hts _ kc_X9_341) dX9_lessens_173 ?_
          refine W.lcmp hx hb dX9_lessens_176 ?_
          refine lv_if_lt (tgt := 186) hx hb dX9_lessens_177 (by decide) (fun c21 => ?_) (fun c21 => ?_)
          · have hf := ifp hf c21
            refine lv_lload hx hb dX9_lessens_186 (lv_at hl 1 rfl) ?_
            refine lv_lload hx hb dX9_lessens_188 (lv_at hl 0 rfl) ?_
            refine lv_ladd hx hb dX9_lessens_190 ?_
            obtain ⟨z19, q20, hf⟩ := bsp hf
            refine kc_S (As := [.long ((gL w 64 0 z6.toNatClampNeg) + (gL w 64 0 z9.toNatClampNeg))]) (rest := []) hok.2.2 C hP hS hl.1 cw_X9_held ml_X9_348 (c_X9_held l D ca ad PL Z A hok N w ((gL w 64 0 z6.toNatClampNeg) + (gL w 64 0 z9.toNatClampNeg)) z19 q20) rfl ⟨rfl, rfl⟩ ⟨Nat.le_of_ble_eq_true rfl, Nat.le_of_ble_eq_true rfl⟩ ⟨Nat.zero_le _, Nat.zero_le _⟩ (Nat.le_of_ble_eq_true rfl) rfl dX9_lessens_191 (fun H locs hP hS => ?_)
            exact P_f_X9_lessens_194_128_s1 v2 v3 _ ih _ hk w v1 v4 z19 hf _ _ ls hP hS (lv_sub hl [2, 3, 4, 5, 6] rfl)
          · have hf := ifn hf c21
            refine lv_ldc2 (v := (4000000000 : Int64)) hx hb hown (hts _ kc_X9_341) dX9_lessens_180 ?_
            refine lv_goto (tgt := 194) hx hb dX9_lessens_183 (by decide) ?_
            exact P_f_X9_lessens_194_128_s1 v2 v3 _ ih _ hk w v1 v4 (4000000000 : Int64) hf _ _ ls hP hS (lv_sub hl [2, 3, 4, 5, 6] rfl)
  have L_lp_X9_lessens_117 : ∀ (v2 : Int32) (k : Mem → Int32 → Option (Mem × Int32)) (hk : ∀ (w : Mem) (v1 : Int32), k w v1 = some (w', r) → WP p l e (rmk 2) s m [.ref (ad 9 0)].toArray below meth c D ca ad PL A (MQ below (qcR D ca ad PL Z A w' (some (.int r))) [.ref (ad 9 0)].toArray s 0 0 A) 11 240 [] [(0, .ref (ad 9 0)), (1, .int v1), (2, .int v2)] w) (n : Nat) (w : Mem) (v1 : Int32) (v3 : Int32), lp_X9_lessens_117 k N   v2 n w v1 v3 = some (w', r) → WP p l e (rmk 2) s m [.ref (ad 9 0)].toArray below meth c D ca ad PL A (MQ below (qcR D ca ad PL Z A w' (some (.int r))) [.ref (ad 9 0)].toArray s 0 0 A) 11 117 [] [(0, .ref (ad 9 0)), (1, .int v1), (2, .int v2), (3, .int v3)] w := by
    intro v2 k hk n
    induction n with
    | zero => intro w v1 v3 hf; rw [lp_X9_lessens_117] at hf; cases hf
    | succ n ih =>
      intro w v1 v3 hf _ _ ls hP hS hl
      rw [lp_X9_lessens_117] at hf
      refine lv_iload_n hx hb dX9_lessens_117 rfl (lv_at hl 3 rfl) ?_
      refine lv_aload_n hx hb dX9_lessens_118 rfl (lv_at hl 0 rfl) ?_
      refine gt_9_27 (i := 0) C hP (hok.2.1 9 0 (Nat.le_of_ble_eq_true rfl)) lk_X9_250 dX9_lessens_119 ?_
      refine lv_icmp_ge (tgt := 240) hx hb dX9_lessens_122 (by decide) (fun c24 => ?_) (fun c24 => ?_)
      · have hf := ifp hf c24
        exact hk w v1 hf _ _ ls hP hS (lv_sub hl [0, 1, 2] rfl)
      · have hf := ifn hf c24
        refine lv_iconst (v := (0 : Int32)) hx hb dX9_lessens_125 (by decide) ?_
        refine lv_istore (lv' := [(4, .int (0 : Int32)), (0, .ref (ad 9 0)), (1, .int v1), (2, .int v2), (3, .int v3)]) hx hb dX9_lessens_126 hl (by decide) rfl (fun ls hl => ?_)
        exact L_lp_X9_lessens_128 v2 v3 _ (fun w_5 u1_5 hf H locs ls hP hS hl => P_f_X9_lessens_234_117 v2 _ ih _ hk w_5 u1_5 v3 hf _ _ ls hP hS (lv_sub hl [0, 1, 2, 3] rfl)) N w v1 (0 : Int32) hf _ _ ls hP hS (lv_sub hl [1, 2, 3, 4, 0] rfl)
  have L_lp_X9_lessens_107 : ∀ (k : Mem → Int32 → Option (Mem × Int32)) (hk : ∀ (w : Mem) (v1 : Int32), k w v1 = some (w', r) → WP p l e (rmk 2) s m [.ref (ad 9 0)].toArray below meth c D ca ad PL A (MQ below (qcR D ca ad PL Z A w' (some (.int r))) [.ref (ad 9 0)].toArray s 0 0 A) 11 246 [] [(1, .int v1)] w) (n : Nat) (w : Mem) (v1 : Int32) (v2 : Int32), lp_X9_lessens_107 k N    n w v1 v2 = some (w', r) → WP p l e (rmk 2) s m [.ref (ad 9 0)].toArray below meth c D ca ad PL A (MQ below (qcR D ca ad PL Z A w' (some (.int r))) [.ref (ad 9 0)].toArray s 0 0 A) 11 107 [] [(0, .ref (ad 9 0)), (1, .int v1), (2, .int v2)] w := by
    intro k hk n
    induction n with
    | zero => intro w v1 v2 hf; rw [lp_X9_lessens_107] at hf; cases hf
    | succ n ih =>
      intro w v1 v2 hf _ _ ls hP hS hl
      rw [lp_X9_lessens_107] at hf
      refine lv_iload_n hx hb dX9_lessens_107 rfl (lv_at hl 2 rfl) ?_
      refine lv_aload_n hx hb dX9_lessens_108 rfl (lv_at hl 0 rfl) ?_
      refine gt_9_27 (i := 0) C hP (hok.2.1 9 0 (Nat.le_of_ble_eq_true rfl)) lk_X9_250 dX9_lessens_109 ?_
      refine lv_icmp_ge (tgt := 246) hx hb dX9_lessens_112 (by decide) (fun c25 => ?_) (fun c25 => ?_)
      · have hf := ifp hf c25
        exact hk w v1 hf _ _ ls hP hS (lv_sub hl [1] rfl)
      · have hf := ifn hf c25
        refine lv_iconst (v := (0 : Int32)) hx hb dX9_lessens_115 (by decide) ?_
        refine lv_istore_n (lv' := [(3, .int (0 : Int32)), (0, .ref (ad 9 0)), (1, .int v1), (2, .int v2)]) hx hb dX9_lessens_116 rfl hl (by decide) rfl (fun ls hl => ?_)
        exact L_lp_X9_lessens_117 v2 _ (fun w_4 u1_4 hf H locs ls hP hS hl => P_f_X9_lessens_240_107 _ ih _ hk w_4 u1_4 v2 hf _ _ ls hP hS (lv_sub hl [0, 1, 2] rfl)) N w v1 (0 : Int32) hf _ _ ls hP hS (lv_sub hl [1, 2, 3, 0] rfl)
  have P_f_X9_lessens_105 : ∀ (w : Mem) (v1 : Int32), f_X9_lessens_105 N w  v1  = some (w', r) → WP p l e (rmk 2) s m [.ref (ad 9 0)].toArray below meth c D ca ad PL A (MQ below (qcR D ca ad PL Z A w' (some (.int r))) [.ref (ad 9 0)].toArray s 0 0 A) 11 105 [] [(0, .ref (ad 9 0)), (1, .int v1)] w := by
    intro w v1 hf _ _ ls hP hS hl
    unfold f_X9_lessens_105 at hf
    refine lv_iconst (v := (0 : Int32)) hx hb dX9_lessens_105 (by decide) ?_
    refine lv_istore_n (lv' := [(2, .int (0 : Int32)), (0, .ref (ad 9 0)), (1, .int v1)]) hx hb dX9_lessens_106 rfl hl (by decide) rfl (fun ls hl => ?_)
    exact L_lp_X9_lessens_107 _ (fun w_2 u1_2 hf H locs ls hP hS hl => P_f_X9_lessens_246 w_2 u1_2 hf _ _ ls hP hS (lv_sub hl [0] rfl)) N w v1 (0 : Int32) hf _ _ ls hP hS (lv_sub hl [1, 2, 0] rfl)
  have P_f_X9_lessens_99_4 : ∀ (rc : Mem → Int32 → Int32 → Option (Mem × Int32)) (hrc : ∀ (w : Mem) (v1 : Int32) (v2 : Int32), rc w v1 v2 = some (w', r) → WP p l e (rmk 2) s m [.ref (ad 9 0)].toArray below meth c D ca ad PL A (MQ below (qcR D ca ad PL Z A w' (some (.int r))) [.ref (ad 9 0)].toArray s 0 0 A) 11 4 [] [(0, .ref (ad 9 0)), (1, .int v1), (2, .int v2)] w) (k : Mem → Int32 → Option (Mem × Int32)) (hk : ∀ (w : Mem) (v1 : Int32), k w v1 = some (w', r) → WP p l e (rmk 2) s m [.ref (ad 9 0)].toArray below meth c D ca ad PL A (MQ below (qcR D ca ad PL Z A w' (some (.int r))) [.ref (ad 9 0)].toArray s 0 0 A) 11 105 [] [(0, .ref (ad 9 0)), (1, .int v1)] w) (w : Mem) (v1 : Int32) (v2 : Int32), f_X9_lessens_99_4 rc k N w  v1 v2  = some (w', r) → WP p l e (rmk 2) s m [.ref (ad 9 0)].toArray below meth c D ca ad PL A (MQ below (qcR D ca ad PL Z A w' (some (.int r))) [.ref (ad 9 0)].toArray s 0 0 A) 11 99 [] [(0, .ref (ad 9 0)), (1, .int v1), (2, .int v2)] w := by
    intro rc hrc k hk w v1 v2 hf _ _ ls hP hS hl
    unfold f_X9_lessens_99_4 at hf
    refine lv_iinc (v := (v2 + (1 : Int32))) (lv' := [(2, .int (v2 + (1 : Int32))), (0, .ref (ad 9 0)), (1, .int v1)]) hx hb dX9_lessens_99 hl (k := 2) rfl rfl (by decide) rfl (fun ls hl => ?_)
    refine lv_goto (tgt := 4) hx hb dX9_lessens_102 (by decide) ?_
    exact hrc w v1 (v2 + (1 : Int32)) hf _ _ ls hP hS (lv_sub hl [1, 2, 0] rfl)
  have P_f_X9_lessens_46_14_s3 : ∀ (v2 : Int32) (rc : Mem → Int32 → Int32 → Option (Mem × Int32)) (hrc : ∀ (w : Mem) (v1 : Int32) (v3 : Int32), rc w v1 v3 = some (w', r) → WP p l e (rmk 2) s m [.ref (ad 9 0)].toArray below meth c D ca ad PL A (MQ below (qcR D ca ad PL Z A w' (some (.int r))) [.ref (ad 9 0)].toArray s 0 0 A) 11 14 [] [(0, .ref (ad 9 0)), (1, .int v1), (2, .int v2), (3, .int v3)] w) (k : Mem → Int32 → Option (Mem × Int32)) (hk : ∀ (w : Mem) (v1 : Int32), k w v1 = some (w', r) → WP p l e (rmk 2) s m [.ref (ad 9 0)].toArray below meth c D ca ad PL A (MQ below (qcR D ca ad PL Z A w' (some (.int r))) [.ref (ad 9 0)].toArray s 0 0 A) 11 99 [] [(0, .ref (ad 9 0)), (1, .int v1), (2, .int v2)] w) (w : Mem) (v1 : Int32) (v3 : Int32) (s0 : Int64) (s1 : Int32), f_X9_lessens_46_14_s3 rc k N w  v1 v2 v3 s0 s1 = some (w', r) → WP p l e (rmk 2) s m [.ref (ad 9 0)].toArray below meth c D ca ad PL A (MQ below (qcR D ca ad PL Z A w' (some (.int r))) [.ref (ad 9 0)].toArray s 0 0 A) 11 46 [.long s0, .int s1, .ref (ad 65 0)] [(0, .ref (ad 9 0)), (1, .int v1), (2, .int v2), (3, .int v3)] w := by
    intro v2 rc hrc k hk w v1 v3 s0 s1 hf _ _ ls hP hS hl
    unfold f_X9_lessens_46_14_s3 at hf
    obtain ⟨b31, hf⟩ := gsp hf
    refine ra_lst (k := 65) (i := 0) (n := 576) C hok.1 hP hS (hok.2.1 65 0 (Nat.le_of_ble_eq_true rfl)) (fun _ => rfl) b31 dX9_lessens_46 (fun H locs hP hS => ?_)
    refine lv_aload_n hx hb dX9_lessens_47 rfl (lv_at hl 0 rfl) ?_
    refine gt_9_50 (i := 0) C hP (hok.2.1 9 0 (Nat.le_of_ble_eq_true rfl)) lk_X9_91 dX9_lessens_48 ?_
    refine lv_iload_n hx hb dX9_lessens_51 rfl (lv_at hl 2 rfl) ?_
    refine lv_iload_n hx hb dX9_lessens_52 rfl (lv_at hl 3 rfl) ?_
    obtain ⟨z32, q33, hf⟩ := bsp hf
    refine kc_S (As := [.int v2, .int v3]) (rest := [.ref (ad 65 0)]) hok.2.2 C hP hS hl.1 cw_X9_pair ml_X9_345 (c_X9_pair l D ca ad PL Z A hok N (sL w 65 0 s1.toNatClampNeg s0) v2 v3 z32 q33) rfl ⟨rfl, rfl⟩ ⟨Nat.le_of_ble_eq_true rfl, Nat.le_of_ble_eq_true rfl⟩ ⟨Nat.zero_le _, Nat.zero_le _⟩ (Nat.le_of_ble_eq_true rfl) rfl dX9_lessens_53 (fun H locs hP hS => ?_)
    obtain ⟨b34, hf⟩ := gsp hf
    refine ra_lld (k := 65) (i := 0) (n := 576) (f := (gL (sL w 65 0 s1.toNatClampNeg s0) 65 0)) C hP (hok.2.1 65 0 (Nat.le_of_ble_eq_true rfl)) rfl b34 dX9_lessens_56 ?_
    refine lv_aload_n hx hb dX9_lessens_57 rfl (lv_at hl 0 rfl) ?_
    refine gt_9_49 (i := 0) C hP (hok.2.1 9 0 (Nat.le_of_ble_eq_true rfl)) lk_X9_87 dX9_lessens_58 ?_
    refine lv_iload_n hx hb dX9_lessens_61 rfl (lv_at hl 2 rfl) ?_
    refine lv_iload_n hx hb dX9_lessens_62 rfl (lv_at hl 3 rfl) ?_
    obtain ⟨z35, q36, hf⟩ := bsp hf
    refine kc_S (As := [.int v2, .int v3]) (rest := [.ref (ad 64 0), .long (gL (sL w 65 0 s1.toNatClampNeg s0) 65 0 z32.toNatClampNeg)]) hok.2.2 C hP hS hl.1 cw_X9_pair ml_X9_345 (c_X9_pair l D ca ad PL Z A hok N (sL w 65 0 s1.toNatClampNeg s0) v2 v3 z35 q36) rfl ⟨rfl, rfl⟩ ⟨Nat.le_of_ble_eq_true rfl, Nat.le_of_ble_eq_true rfl⟩ ⟨Nat.zero_le _, Nat.zero_le _⟩ (Nat.le_of_ble_eq_true rfl) rfl dX9_lessens_63 (fun H locs hP hS => ?_)
    obtain ⟨b37, hf⟩ := gsp hf
    refine ra_lld (k := 64) (i := 0) (n := 576) (f := (gL (sL w 65 0 s1.toNatClampNeg s0) 64 0)) C hP (hok.2.1 64 0 (Nat.le_of_ble_eq_true rfl)) rfl b37 dX9_lessens_66 ?_
    refine W.lcmp hx hb dX9_lessens_67 ?_
    refine lv_if_ge (tgt := 93) hx hb dX9_lessens_68 (by decide) (fun c44 => ?_) (fun c44 => ?_)
    · have hf := ifp hf c44
      refine lv_iinc (v := (v3 + (1 : Int32))) (lv' := [(3, .int (v3 + (1 : Int32))), (0, .ref (ad 9 0)), (1, .int v1), (2, .int v2)]) hx hb dX9_lessens_93 hl (k := 3) rfl rfl (by decide) rfl (fun ls hl => ?_)
      refine lv_goto (tgt := 14) hx hb dX9_lessens_96 (by decide) ?_
      exact hrc (sL w 65 0 s1.toNatClampNeg s0) v1 (v3 + (1 : Int32)) hf _ _ ls hP hS (lv_sub hl [1, 2, 3, 0] rfl)
    · have hf := ifn hf c44
      refine lv_aload_n hx hb dX9_lessens_71 rfl (lv_at hl 0 rfl) ?_
      refine gt_9_49 (i := 0) C hP (hok.2.1 9 0 (Nat.le_of_ble_eq_true rfl)) lk_X9_87 dX9_lessens_72 ?_
      refine lv_iload_n hx hb dX9_lessens_75 rfl (lv_at hl 2 rfl) ?_
      refine lv_iload_n hx hb dX9_lessens_76 rfl (lv_at hl 3 rfl) ?_
      obtain ⟨z38, q39, hf⟩ := bsp hf
      refine kc_S (As := [.int v2, .int v3]) (rest := [.ref (ad 64 0)]) hok.2.2 C hP hS hl.1 cw_X9_pair ml_X9_345 (c_X9_pair l D ca ad PL Z A hok N (sL w 65 0 s1.toNatClampNeg s0) v2 v3 z38 q39) rfl ⟨rfl, rfl⟩ ⟨Nat.le_of_ble_eq_true rfl, Nat.le_of_ble_eq_true rfl⟩ ⟨Nat.zero_le _, Nat.zero_le _⟩ (Nat.le_of_ble_eq_true rfl) rfl dX9_lessens_77 (fun H locs hP hS => ?_)
      refine lv_aload_n hx hb dX9_lessens_80 rfl (lv_at hl 0 rfl) ?_
      refine gt_9_50 (i := 0) C hP (hok.2.1 9 0 (Nat.le_of_ble_eq_true rfl)) lk_X9_91 dX9_lessens_81 ?_
      refine lv_iload_n hx hb dX9_lessens_84 rfl (lv_at hl 2 rfl) ?_
      refine lv_iload_n hx hb dX9_lessens_85 rfl (lv_at hl 3 rfl) ?_
      obtain ⟨z40, q41, hf⟩ := bsp hf
      refine kc_S (As := [.int v2, .int v3]) (rest := [.ref (ad 65 0), .int z38, .ref (ad 64 0)]) hok.2.2 C hP hS hl.1 cw_X9_pair ml_X9_345 (c_X9_pair l D ca ad PL Z A hok N (sL w 65 0 s1.toNatClampNeg s0) v2 v3 z40 q41) rfl ⟨rfl, rfl⟩ ⟨Nat.le_of_ble_eq_true rfl, Nat.le_of_ble_eq_true rfl⟩ ⟨Nat.zero_le _, Nat.zero_le _⟩ (Nat.le_of_ble_eq_true rfl) rfl dX9_lessens_86 (fun H locs hP hS => ?_)
      obtain ⟨b42, hf⟩ := gsp hf
      refine ra_lld (k := 65) (i := 0) (n := 576) (f := (gL (sL w 65 0 s1.toNatClampNeg s0) 65 0)) C hP (hok.2.1 65 0 (Nat.le_of_ble_eq_true rfl)) rfl b42 dX9_lessens_89 ?_
      obtain ⟨b43, hf⟩ := gsp hf
      refine ra_lst (k := 64) (i := 0) (n := 576) C hok.1 hP hS (hok.2.1 64 0 (Nat.le_of_ble_eq_true rfl)) (fun _ => rfl) b43 dX9_lessens_90 (fun H locs hP hS => ?_)
      refine lv_iconst (v := (1 : Int32)) hx hb dX9_lessens_91 (by decide) ?_
      refine lv_istore_n (lv' := [(1, .int (1 : Int32)), (0, .ref (ad 9 0)), (2, .int v2), (3, .int v3)]) hx hb dX9_lessens_92 rfl hl (by decide) rfl (fun ls hl => ?_)
      refine lv_iinc (v := (v3 + (1 : Int32))) (lv' := [(3, .int (v3 + (1 : Int32))), (1, .int (1 : Int32)), (0, .ref (ad 9 0)), (2, .int v2)]) hx hb dX9_lessens_93 hl (k := 3) rfl rfl (by decide) rfl (fun ls hl => ?_)
      refine lv_goto (tgt := 14) hx hb dX9_lessens_96 (by decide) ?_
      exact hrc (sL (sL w 65 0 s1.toNatClampNeg s0) 64 0 z38.toNatClampNeg (gL (sL w 65 0 s1.toNatClampNeg s0) 65 0 z40.toNatClampNeg)) (1 : Int32) (v3 + (1 : Int32)) hf _ _ ls hP hS (lv_sub hl [2, 1, 3, 0] rfl)
  have L_lp_X9_lessens_14 : ∀ (v2 : Int32) (k : Mem → Int32 → Option (Mem × Int32)) (hk : ∀ (w : Mem) (v1 : Int32), k w v1 = some (w', r) → WP p l e (rmk 2) s m [.ref (ad 9 0)].toArray below meth c D ca ad PL A (MQ below (qcR D ca ad PL Z A w' (some (.int r))) [.ref (ad 9 0)].toArray s 0 0 A) 11 99 [] [(0, .ref (ad 9 0)), (1, .int v1), (2, .int v2)] w) (n : Nat) (w : Mem) (v1 : Int32) (v3 : Int32), lp_X9_lessens_14 k N   v2 n w v1 v3 = some (w', r) → WP p l e (rmk 2) s m [.ref (ad 9 0)].toArray below meth c D ca ad PL A (MQ below (qcR D ca ad PL Z A w' (some (.int r))) [.ref (ad 9 0)].toArray s 0 0 A) 11 14 [] [(0, .ref (ad 9 0)), (1, .int v1), (2, .int v2), (3, .int v3)] w := by
    intro v2 k hk n
    induction n with
    | zero => intro w v1 v3 hf; rw [lp_X9_lessens_14] at hf; cases hf
    | succ n ih =>
      intro w v1 v3 hf _ _ ls hP hS hl
      rw [lp_X9_lessens_14] at hf
      refine lv_iload_n hx hb dX9_lessens_14 rfl (lv_at hl 3 rfl) ?_
      refine lv_aload_n hx hb dX9_lessens_15 rfl (lv_at hl 0 rfl) ?_
      refine gt_9_27 (i := 0) C hP (hok.2.1 9 0 (Nat.le_of_ble_eq_true rfl)) lk_X9_250 dX9_lessens_16 ?_
      refine lv_icmp_ge (tgt := 99) hx hb dX9_lessens_19 (by decide) (fun c46 => ?_) (fun c46 => ?_)
      · have hf := ifp hf c46
        exact hk w v1 hf _ _ ls hP hS (lv_sub hl [0, 1, 2] rfl)
      · have hf := ifn hf c46
        refine lv_aload_n hx hb dX9_lessens_22 rfl (lv_at hl 0 rfl) ?_
        refine gt_9_50 (i := 0) C hP (hok.2.1 9 0 (Nat.le_of_ble_eq_true rfl)) lk_X9_91 dX9_lessens_23 ?_
        refine lv_iload_n hx hb dX9_lessens_26 rfl (lv_at hl 2 rfl) ?_
        refine lv_iload_n hx hb dX9_lessens_27 rfl (lv_at hl 3 rfl) ?_
        obtain ⟨z27, q28, hf⟩ := bsp hf
        refine kc_S (As := [.int v2, .int v3]) (rest := [.ref (ad 65 0)]) hok.2.2 C hP hS hl.1 cw_X9_pair ml_X9_345 (c_X9_pair l D ca ad PL Z A hok N w v2 v3 z27 q28) rfl ⟨rfl, rfl⟩ ⟨Nat.le_of_ble_eq_true rfl, Nat.le_of_ble_eq_true rfl⟩ ⟨Nat.zero_le _, Nat.zero_le _⟩ (Nat.le_of_ble_eq_true rfl) rfl dX9_lessens_28 (fun H locs hP hS => ?_)
        refine lv_iload_n hx hb dX9_lessens_31 rfl (lv_at hl 2 rfl) ?_
        refine lv_iload_n hx hb dX9_lessens_32 rfl (lv_at hl 3 rfl) ?_
        refine lv_icmp_ne (tgt := 40) hx hb dX9_lessens_33 (by decide) (fun c45 => ?_) (fun c45 => ?_)
        · have hf := ifn hf c45
          refine lv_aload_n hx hb dX9_lessens_40 rfl (lv_at hl 0 rfl) ?_
          refine lv_iload_n hx hb dX9_lessens_41 rfl (lv_at hl 2 rfl) ?_
          refine lv_iload_n hx hb dX9_lessens_42 rfl (lv_at hl 3 rfl) ?_
          obtain ⟨z29, q30, hf⟩ := bsp hf
          refine kc_V (ci := 9) (i := 0) (As := [.int v2, .int v3]) (rest := [.int z27, .ref (ad 65 0)]) hok.2.2 C hP hS hl.1 (hok.2.1 9 0 (Nat.le_of_ble_eq_true rfl)) rfl rfl cw_X9_sideOf ml_X9_352 (c_X9_sideOf l D ca ad PL Z A hok N w v2 v3 z29 q30) rfl ⟨rfl, rfl⟩ ⟨Nat.le_of_ble_eq_true rfl, Nat.le_of_ble_eq_true rfl⟩ ⟨Nat.zero_le _, Nat.zero_le _⟩ (Nat.le_of_ble_eq_true rfl) rfl dX9_lessens_43 (fun H locs hP hS => ?_)
          exact P_f_X9_lessens_46_14_s3 v2 _ ih _ hk w v1 v3 z29 z27 hf _ _ ls hP hS (lv_sub hl [0, 1, 2, 3] rfl)
        · have hf := ifp hf c45
          refine lv_lconst (v := (0 : Int64)) hx hb dX9_lessens_36 (by decide) ?_
          refine lv_goto (tgt := 46) hx hb dX9_lessens_37 (by decide) ?_
          exact P_f_X9_lessens_46_14_s3 v2 _ ih _ hk w v1 v3 (0 : Int64) z27 hf _ _ ls hP hS (lv_sub hl [0, 1, 2, 3] rfl)
  have L_lp_X9_lessens_4 : ∀ (k : Mem → Int32 → Option (Mem × Int32)) (hk : ∀ (w : Mem) (v1 : Int32), k w v1 = some (w', r) → WP p l e (rmk 2) s m [.ref (ad 9 0)].toArray below meth c D ca ad PL A (MQ below (qcR D ca ad PL Z A w' (some (.int r))) [.ref (ad 9 0)].toArray s 0 0 A) 11 105 [] [(0, .ref (ad 9 0)), (1, .int v1)] w) (n : Nat) (w : Mem) (v1 : Int32) (v2 : Int32), lp_X9_lessens_4 k N    n w v1 v2 = some (w', r) → WP p l e (rmk 2) s m [.ref (ad 9 0)].toArray below meth c D ca ad PL A (MQ below (qcR D ca ad PL Z A w' (some (.int r))) [.ref (ad 9 0)].toArray s 0 0 A) 11 4 [] [(0, .ref (ad 9 0)), (1, .int v1), (2, .int v2)] w := by
    intro k hk n
    induction n with
    | zero => intro w v1 v2 hf; rw [lp_X9_lessens_4] at hf; cases hf
    | succ n ih =>
      intro w v1 v2 hf _ _ ls hP hS hl
      rw [lp_X9_lessens_4] at hf
      refine lv_iload_n hx hb dX9_lessens_4 rfl (lv_at hl 2 rfl) ?_
      refine lv_aload_n hx hb dX9_lessens_5 rfl (lv_at hl 0 rfl) ?_
      refine gt_9_27 (i := 0) C hP (hok.2.1 9 0 (Nat.le_of_ble_eq_true rfl)) lk_X9_250 dX9_lessens_6 ?_
      refine lv_icmp_ge (tgt := 105) hx hb dX9_lessens_9 (by decide) (fun c47 => ?_) (fun c47 => ?_)
      · have hf := ifp hf c47
        exact hk w v1 hf _ _ ls hP hS (lv_sub hl [0, 1] rfl)
      · have hf := ifn hf c47
        refine lv_iconst (v := (0 : Int32)) hx hb dX9_lessens_12 (by decide) ?_
        refine lv_istore_n (lv' := [(3, .int (0 : Int32)), (0, .ref (ad 9 0)), (1, .int v1), (2, .int v2)]) hx hb dX9_lessens_13 rfl hl (by decide) rfl (fun ls hl => ?_)
        exact L_lp_X9_lessens_14 v2 _ (fun w_26 u1_26 hf H locs ls hP hS hl => P_f_X9_lessens_99_4 _ ih _ hk w_26 u1_26 v2 hf _ _ ls hP hS (lv_sub hl [0, 1, 2] rfl)) N w v1 (0 : Int32) hf _ _ ls hP hS (lv_sub hl [1, 2, 3, 0] rfl)
  unfold f_X9_lessens at hf
  -- walk
  refine lv_iconst (v := (0 : Int32)) hx hb dX9_lessens_0 (by decide) ?_
  refine lv_istore_n (lv' := [(1, .int (0 : Int32)), (0, .ref (ad 9 0))]) hx hb dX9_lessens_1 rfl hl (by decide) rfl (fun ls hl => ?_)
  refine lv_iconst (v := (0 : Int32)) hx hb dX9_lessens_2 (by decide) ?_
  refine lv_istore_n (lv' := [(2, .int (0 : Int32)), (1, .int (0 : Int32)), (0, .ref (ad 9 0))]) hx hb dX9_lessens_3 rfl hl (by decide) rfl (fun ls hl => ?_)
  exact L_lp_X9_lessens_4 _ (fun w_1 u1_1 hf H locs ls hP hS hl => P_f_X9_lessens_105 w_1 u1_1 hf _ _ ls hP hS (lv_sub hl [0, 1] rfl)) N w (0 : Int32) (0 : Int32) hf _ _ ls hP hS (lv_sub hl [2, 1, 0] rfl)
def f_X9_laysCosts_68 (N : Nat) (w : Mem)  : Option (Mem) :=
  some w
def lp_X9_laysCosts_56 (k : Mem → Option (Mem)) (N : Nat)  : Nat → Mem → Int32 → Option (Mem)
  | 0, _, _ => none
  | n + 1, w, v1 => (if v1 = (0 : Int32) then
(k w)
else
(Option.bind (f_X9_lessens N w ) (fun z3 => (lp_X9_laysCosts_56 k N    n z3.1 z3.2))))
def f_X9_laysCosts_54 (N : Nat) (w : Mem)  : Option (Mem) :=
  (lp_X9_laysCosts_56 (fun (w_2 : Mem) => (f_X9_laysCosts_68 N w_2   )) N    N w (1 : Int32))
def f_X9_laysCosts_48_2 (rc : Mem → Int32 → Option (Mem)) (k : Mem → Option (Mem)) (N : Nat) (w : Mem)  (v1 : Int32) : Option (Mem) :=
  (rc w (v1 + (1 : Int32)))
def lp_X9_laysCosts_12 (k : Mem → Option (Mem)) (N : Nat)  (v1 : Int32) : Nat → Mem → Int32 → Option (Mem)
  | 0, _, _ => none
  | n + 1, w, v2 => (if (gF w 9 27 0) ≤ v2 then
(k w)
else
(Option.bind (f_X9_pair N w v1 v2) (fun z7 => (if v1 = v2 then
(if inb z7 576 = true then (lp_X9_laysCosts_12 k N   v1 n (sL w 64 0 z7.toNatClampNeg (0 : Int64)) (v2 + (1 : Int32))) else none)
else
(if inb z7 576 = true then (lp_X9_laysCosts_12 k N   v1 n (sL w 64 0 z7.toNatClampNeg (4000000000 : Int64)) (v2 + (1 : Int32))) else none)))))
def lp_X9_laysCosts_2 (k : Mem → Option (Mem)) (N : Nat)  : Nat → Mem → Int32 → Option (Mem)
  | 0, _, _ => none
  | n + 1, w, v1 => (if (gF w 9 27 0) ≤ v1 then
(k w)
else
(lp_X9_laysCosts_12 (fun (w_6 : Mem) => (f_X9_laysCosts_48_2 (fun (w : Mem) (v1 : Int32) => lp_X9_laysCosts_2 k N    n w v1) k N w_6  v1 )) N   v1 N w (0 : Int32)))
def f_X9_laysCosts (N : Nat) (w : Mem)  : Option (Mem) :=
  (lp_X9_laysCosts_2 (fun (w_1 : Mem) => (f_X9_laysCosts_54 N w_1   )) N    N w (0 : Int32))
set_option maxRecDepth 100000 in
set_option maxHeartbeats 4000000 in
theorem c_X9_laysCosts (l : Launch) (D : va_G) (ca : Nat → ClassId) (ad : Nat → Nat → Nat) (PL : List (Nat × Nat)) (Z : State → Prop) (A : Nat → Prop) (hok : okc bM Z A ad PL) (N : Nat) (w : Mem)  (w' : Mem) (hf : f_X9_laysCosts N w  = some w') : CT l yX9_laysCosts (wsy yX9_laysCosts cX9_laysCosts 3 none) (rmk 3) D ca ad PL Z A [.ref (ad 9 0)] w w' none := by
  refine Met.ofW (cc := cX9_laysCosts) (maxL := 3) (ret := none) (by decide +kernel) rfl ?_
  intro p e s m args below meth c s₁ B hml hv
  obtain ⟨rfl, hP, hK, hZ⟩ := hv
  have hx := B.exec
  have hb := B.bytes
  have hr := B.returns
  have hlocks := B.notSynchronized
  have hts : ∀ w ∈ ALL, w.before _ s = true := fun w hw => atoms_spec (ws := wsy yX9_laysCosts cX9_laysCosts 3 none) B.pre w (List.mem_cons_of_mem _ hw)
  have hown : s.vm.findClass RX9 = some m.cls := findClass_of_methodNamed B.named
  have C : CX p s m _ c cX9_laysCosts RX9 3 D ca Z := ⟨hx, hb, hml, hown, hts, hK, hZ⟩
  have hS : va_S A s.heap s.heap [] := va_S.rf
  have hl := lv_entry ([.ref (ad 9 0)]) (n := 3) (Nat.le_of_ble_eq_true rfl)
  rw [lg_entry_eq]
  generalize (lg_sl ([.ref (ad 9 0)]) ++ List.replicate (3 - (lg_sl ([.ref (ad 9 0)])).length) Slot.unset).toArray = ls at hl ⊢
  have hl : lv_has ls 3 [(0, .ref (ad 9 0))] := hl
  show W p l e (rmk 3) s m _ below meth c s.heap [] 0 0 _ _
  have P_f_X9_laysCosts_68 : ∀ (w : Mem), f_X9_laysCosts_68 N w    = some w' → WP p l e (rmk 3) s m [.ref (ad 9 0)].toArray below meth c D ca ad PL A (MQ below (qcR D ca ad PL Z A w' none) [.ref (ad 9 0)].toArray s 0 0 A) 3 68 [] [] w := by
    intro w hf _ _ ls hP hS hl
    unfold f_X9_laysCosts_68 at hf
    exact kr_v hok.2.2 C hlocks hr hP hS (Option.some.inj hf) dX9_laysCosts_68
  have L_lp_X9_laysCosts_56 : ∀ (k : Mem → Option (Mem)) (hk : ∀ (w : Mem), k w = some w' → WP p l e (rmk 3) s m [.ref (ad 9 0)].toArray below meth c D ca ad PL A (MQ below (qcR D ca ad PL Z A w' none) [.ref (ad 9 0)].toArray s 0 0 A) 3 68 [] [] w) (n : Nat) (w : Mem) (v1 : Int32), lp_X9_laysCosts_56 k N    n w v1 = some w' → WP p l e (rmk 3) s m [.ref (ad 9 0)].toArray below meth c D ca ad PL A (MQ below (qcR D ca ad PL Z A w' none) [.ref (ad 9 0)].toArray s 0 0 A) 3 56 [] [(0, .ref (ad 9 0)), (1, .int v1)] w := by
    intro k hk n
    induction n with
    | zero => intro w v1 hf; rw [lp_X9_laysCosts_56] at hf; cases hf
    | succ n ih =>
      intro w v1 hf _ _ ls hP hS hl
      rw [lp_X9_laysCosts_56] at hf
      refine lv_iload_n hx hb dX9_laysCosts_56 rfl (lv_at hl 1 rfl) ?_
      refine lv_if_eq (tgt := 68) hx hb dX9_laysCosts_57 (by decide) (fun c5 => ?_) (fun c5 => ?_)
      · have hf := ifp hf c5
        exact hk w hf _ _ ls hP hS (lv_sub hl [] rfl)
      · have hf := ifn hf c5
        refine lv_aload_n hx hb dX9_laysCosts_60 rfl (lv_at hl 0 rfl) ?_
        obtain ⟨z3, q4, hf⟩ := bsp hf
        refine kc_V (ci := 9) (i := 0) (As := []) (rest := []) hok.2.2 C hP hS hl.1 (hok.2.1 9 0 (Nat.le_of_ble_eq_true rfl)) rfl rfl cw_X9_lessens ml_X9_356 (c_X9_lessens l D ca ad PL Z A hok N w  z3.1 z3.2 q4) rfl ⟨rfl, rfl⟩ ⟨Nat.le_of_ble_eq_true rfl, Nat.le_of_ble_eq_true rfl⟩ ⟨Nat.zero_le _, Nat.zero_le _⟩ (Nat.le_of_ble_eq_true rfl) rfl dX9_laysCosts_61 (fun H locs hP hS => ?_)
        refine lv_istore_n (lv' := [(1, .int z3.2), (0, .ref (ad 9 0))]) hx hb dX9_laysCosts_64 rfl hl (by decide) rfl (fun ls hl => ?_)
        refine lv_goto (tgt := 56) hx hb dX9_laysCosts_65 (by decide) ?_
        exact ih z3.1 z3.2 hf _ _ ls hP hS (lv_sub hl [1, 0] rfl)
  have P_f_X9_laysCosts_54 : ∀ (w : Mem), f_X9_laysCosts_54 N w    = some w' → WP p l e (rmk 3) s m [.ref (ad 9 0)].toArray below meth c D ca ad PL A (MQ below (qcR D ca ad PL Z A w' none) [.ref (ad 9 0)].toArray s 0 0 A) 3 54 [] [(0, .ref (ad 9 0))] w := by
    intro w hf _ _ ls hP hS hl
    unfold f_X9_laysCosts_54 at hf
    refine lv_iconst (v := (1 : Int32)) hx hb dX9_laysCosts_54 (by decide) ?_
    refine lv_istore_n (lv' := [(1, .int (1 : Int32)), (0, .ref (ad 9 0))]) hx hb dX9_laysCosts_55 rfl hl (by decide) rfl (fun ls hl => ?_)
    exact L_lp_X9_laysCosts_56 _ (fun w_2 hf H locs ls hP hS hl => P_f_X9_laysCosts_68 w_2 hf _ _ ls hP hS (lv_sub hl [] rfl)) N w (1 : Int32) hf _ _ ls hP hS (lv_sub hl [1, 0] rfl)
  have P_f_X9_laysCosts_48_2 : ∀ (rc : Mem → Int32 → Option (Mem)) (hrc : ∀ (w : Mem) (v1 : Int32), rc w v1 = some w' → WP p l e (rmk 3) s m [.ref (ad 9 0)].toArray below meth c D ca ad PL A (MQ below (qcR D ca ad PL Z A w' none) [.ref (ad 9 0)].toArray s 0 0 A) 3 2 [] [(0, .ref (ad 9 0)), (1, .int v1)] w) (k : Mem → Option (Mem)) (hk : ∀ (w : Mem), k w = some w' → WP p l e (rmk 3) s m [.ref (ad 9 0)].toArray below meth c D ca ad PL A (MQ below (qcR D ca ad PL Z A w' none) [.ref (ad 9 0)].toArray s 0 0 A) 3 54 [] [(0, .ref (ad 9 0))] w) (w : Mem) (v1 : Int32), f_X9_laysCosts_48_2 rc k N w  v1  = some w' → WP p l e (rmk 3) s m [.ref (ad 9 0)].toArray below meth c D ca ad PL A (MQ below (qcR D ca ad PL Z A w' none) [.ref (ad 9 0)].toArray s 0 0 A) 3 48 [] [(0, .ref (ad 9 0)), (1, .int v1)] w := by
    intro rc hrc k hk w v1 hf _ _ ls hP hS hl
    unfold f_X9_laysCosts_48_2 at hf
    refine lv_iinc (v := (v1 + (1 : Int32))) (lv' := [(1, .int (v1 + (1 : Int32))), (0, .ref (ad 9 0))]) hx hb dX9_laysCosts_48 hl (k := 1) rfl rfl (by decide) rfl (fun ls hl => ?_)
    refine lv_goto (tgt := 2) hx hb dX9_laysCosts_51 (by decide) ?_
    exact hrc w (v1 + (1 : Int32)) hf _ _ ls hP hS (lv_sub hl [1, 0] rfl)
  have L_lp_X9_laysCosts_12 : ∀ (v1 : Int32) (k : Mem → Option (Mem)) (hk : ∀ (w : Mem), k w = some w' → WP p l e (rmk 3) s m [.ref (ad 9 0)].toArray below meth c D ca ad PL A (MQ below (qcR D ca ad PL Z A w' none) [.ref (ad 9 0)].toArray s 0 0 A) 3 48 [] [(0, .ref (ad 9 0)), (1, .int v1)] w) (n : Nat) (w : Mem) (v2 : Int32), lp_X9_laysCosts_12 k N   v1 n w v2 = some w' → WP p l e (rmk 3) s m [.ref (ad 9 0)].toArray below meth c D ca ad PL A (MQ below (qcR D ca ad PL Z A w' none) [.ref (ad 9 0)].toArray s 0 0 A) 3 12 [] [(0, .ref (ad 9 0)), (1, .int v1), (2, .int v2)] w := by
    intro v1 k hk n
    induction n with
    | zero => intro w v2 hf; rw [lp_X9_laysCosts_12] at hf; cases hf
    | succ n ih =>
      intro w v2 hf _ _ ls hP hS hl
      rw [lp_X9_laysCosts_12] at hf
      refine lv_iload_n hx hb dX9_laysCosts_12 rfl (lv_at hl 2 rfl) ?_
      refine lv_aload_n hx hb dX9_laysCosts_13 rfl (lv_at hl 0 rfl) ?_
      refine gt_9_27 (i := 0) C hP (hok.2.1 9 0 (Nat.le_of_ble_eq_true rfl)) lk_X9_250 dX9_laysCosts_14 ?_
      refine lv_icmp_ge (tgt := 48) hx hb dX9_laysCosts_17 (by decide) (fun c12 => ?_) (fun c12 => ?_)
      · have hf := ifp hf c12
        exact hk w hf _ _ ls hP hS (lv_sub hl [0, 1] rfl)
      · have hf := ifn hf c12
        refine lv_aload_n hx hb dX9_laysCosts_20 rfl (lv_at hl 0 rfl) ?_
        refine gt_9_49 (i := 0) C hP (hok.2.1 9 0 (Nat.le_of_ble_eq_true rfl)) lk_X9_87 dX9_laysCosts_21 ?_
        refine lv_iload_n hx hb dX9_laysCosts_24 rfl (lv_at hl 1 rfl) ?_
        refine lv_iload_n hx hb dX9_laysCosts_25 rfl (lv_at hl 2 rfl) ?_
        obtain ⟨z7, q8, hf⟩ := bsp hf
        refine kc_S (As := [.int v1, .int v2]) (rest := [.ref (ad 64 0)]) hok.2.2 C hP hS hl.1 cw_X9_pair ml_X9_345 (c_X9_pair l D ca ad PL Z A hok N w v1 v2 z7 q8) rfl ⟨rfl, rfl⟩ ⟨Nat.le_of_ble_eq_true rfl, Nat.le_of_ble_eq_true rfl⟩ ⟨Nat.zero_le _, Nat.zero_le _⟩ (Nat.le_of_ble_eq_true rfl) rfl dX9_laysCosts_26 (fun H locs hP hS => ?_)
        refine lv_iload_n hx hb dX9_laysCosts_29 rfl (lv_at hl 1 rfl) ?_
        refine lv_iload_n hx hb dX9_laysCosts_30 rfl (lv_at hl 2 rfl) ?_
        refine lv_icmp_ne (tgt := 38) hx hb dX9_laysCosts_31 (by decide) (fun c11 => ?_) (fun c11 => ?_)
        · have hf := ifn hf c11
          refine lv_ldc2 (v := (4000000000 : Int64)) hx hb hown (hts _ kc_X9_341) dX9_laysCosts_38 ?_
          obtain ⟨b9, hf⟩ := gsp hf
          refine ra_lst (k := 64) (i := 0) (n := 576) C hok.1 hP hS (hok.2.1 64 0 (Nat.le_of_ble_eq_true rfl)) (fun _ => rfl) b9 dX9_laysCosts_41 (fun H locs hP hS => ?_)
          refine lv_iinc (v := (v2 + (1 : Int32))) (lv' := [(2, .int (v2 + (1 : Int32))), (0, .ref (ad 9 0)), (1, .int v1)]) hx hb dX9_laysCosts_42 hl (k := 2) rfl rfl (by decide) rfl (fun ls hl => ?_)
          refine lv_goto (tgt := 12) hx hb dX9_laysCosts_45 (by decide) ?_
          exact ih (sL w 64 0 z7.toNatClampNeg (4000000000 : Int64)) (v2 + (1 : Int32)) hf _ _ ls hP hS (lv_sub hl [1, 2, 0] rfl)
        · have hf := ifp hf c11
          refine lv_lconst (v := (0 : Int64)) hx hb dX9_laysCosts_34 (by decide) ?_
          refine lv_goto (tgt := 41) hx hb dX9_laysCosts_35 (by decide) ?_
          obtain ⟨b10, hf⟩ := gsp hf
          refine ra_lst (k := 64) (i := 0) (n := 576) C hok.1 hP hS (hok.2.1 64 0 (Nat.le_of_ble_eq_true rfl)) (fun _ => rfl) b10 dX9_laysCosts_41 (fun H locs hP hS => ?_)
          refine lv_iinc (v := (v2 + (1 : Int32))) (lv' := [(2, .int (v2 + (1 : Int32))), (0, .ref (ad 9 0)), (1, .int v1)]) hx hb dX9_laysCosts_42 hl (k := 2) rfl rfl (by decide) rfl (fun ls hl => ?_)
          refine lv_goto (tgt := 12) hx hb dX9_laysCosts_45 (by decide) ?_
          exact ih (sL w 64 0 z7.toNatClampNeg (0 : Int64)) (v2 + (1 : Int32)) hf _ _ ls hP hS (lv_sub hl [1, 2, 0] rfl)
  have L_lp_X9_laysCosts_2 : ∀ (k : Mem → Option (Mem)) (hk : ∀ (w : Mem), k w = some w' → WP p l e (rmk 3) s m [.ref (ad 9 0)].toArray below meth c D ca ad PL A (MQ below (qcR D ca ad PL Z A w' none) [.ref (ad 9 0)].toArray s 0 0 A) 3 54 [] [(0, .ref (ad 9 0))] w) (n : Nat) (w : Mem) (v1 : Int32), lp_X9_laysCosts_2 k N    n w v1 = some w' → WP p l e (rmk 3) s m [.ref (ad 9 0)].toArray below meth c D ca ad PL A (MQ below (qcR D ca ad PL Z A w' none) [.ref (ad 9 0)].toArray s 0 0 A) 3 2 [] [(0, .ref (ad 9 0)), (1, .int v1)] w := by
    intro k hk n
    induction n with
    | zero => intro w v1 hf; rw [lp_X9_laysCosts_2] at hf; cases hf
    | succ n ih =>
      intro w v1 hf _ _ ls hP hS hl
      rw [lp_X9_laysCosts_2] at hf
      refine lv_iload_n hx hb dX9_laysCosts_2 rfl (lv_at hl 1 rfl) ?_
      refine lv_aload_n hx hb dX9_laysCosts_3 rfl (lv_at hl 0 rfl) ?_
      refine gt_9_27 (i := 0) C hP (hok.2.1 9 0 (Nat.le_of_ble_eq_true rfl)) lk_X9_250 dX9_laysCosts_4 ?_
      refine lv_icmp_ge (tgt := 54) hx hb dX9_laysCosts_7 (by decide) (fun c13 => ?_) (fun c13 => ?_)
      · have hf := ifp hf c13
        exact hk w hf _ _ ls hP hS (lv_sub hl [0] rfl)
      · have hf := ifn hf c13
        refine lv_iconst (v := (0 : Int32)) hx hb dX9_laysCosts_10 (by decide) ?_
        refine lv_istore_n (lv' := [(2, .int (0 : Int32)), (0, .ref (ad 9 0)), (1, .int v1)]) hx hb dX9_laysCosts_11 rfl hl (by decide) rfl (fun ls hl => ?_)
        exact L_lp_X9_laysCosts_12 v1 _ (fun w_6 hf H locs ls hP hS hl => P_f_X9_laysCosts_48_2 _ ih _ hk w_6 v1 hf _ _ ls hP hS (lv_sub hl [0, 1] rfl)) N w (0 : Int32) hf _ _ ls hP hS (lv_sub hl [1, 2, 0] rfl)
  unfold f_X9_laysCosts at hf
  -- walk
  refine lv_iconst (v := (0 : Int32)) hx hb dX9_laysCosts_0 (by decide) ?_
  refine lv_istore_n (lv' := [(1, .int (0 : Int32)), (0, .ref (ad 9 0))]) hx hb dX9_laysCosts_1 rfl hl (by decide) rfl (fun ls hl => ?_)
  exact L_lp_X9_laysCosts_2 _ (fun w_1 hf H locs ls hP hS hl => P_f_X9_laysCosts_54 w_1 hf _ _ ls hP hS (lv_sub hl [0] rfl)) N w (0 : Int32) hf _ _ ls hP hS (lv_sub hl [1, 0] rfl)
def f_X9_cost (N : Nat) (w : Mem) (x1 : Int32) (x2 : Int32) : Option (Mem × Int32) :=
  (Option.bind (f_X9_whyNotOne N w x1 x2) (fun z1 => (Option.bind (f_X9_isRefused N w z1) (fun z3 => (if z3.2 = (0 : Int32) then
(Option.bind (f_X9_laysCosts N z3.1 ) (fun z5 => (Option.bind (f_X9_pair N z5 x1 x2) (fun z7 => (if inb z7 576 = true then some (z5, ((gL z5 64 0 z7.toNatClampNeg).toInt32)) else none)))))
else
some (z3.1, (-1 : Int32)))))))
set_option maxRecDepth 100000 in
set_option maxHeartbeats 4000000 in
theorem c_X9_cost (l : Launch) (D : va_G) (ca : Nat → ClassId) (ad : Nat → Nat → Nat) (PL : List (Nat × Nat)) (Z : State → Prop) (A : Nat → Prop) (hok : okc bM Z A ad PL) (N : Nat) (w : Mem) (x1 : Int32) (x2 : Int32) (w' : Mem) (r : Int32) (hf : f_X9_cost N w x1 x2 = some (w', r)) : CT l yX9_cost (wsy yX9_cost cX9_cost 3 (some .int)) (rmk 4) D ca ad PL Z A [.ref (ad 9 0), .int x1, .int x2] w w' (some (.int r)) := by
  refine Met.ofW (cc := cX9_cost) (maxL := 3) (ret := (some .int)) (by decide +kernel) rfl ?_
  intro p e s m args below meth c s₁ B hml hv
  obtain ⟨rfl, hP, hK, hZ⟩ := hv
  have hx := B.exec
  have hb := B.bytes
  have hr := B.returns
  have hlocks := B.notSynchronized
  have hts : ∀ w ∈ ALL, w.before _ s = true := fun w hw => atoms_spec (ws := wsy yX9_cost cX9_cost 3 (some .int)) B.pre w (List.mem_cons_of_mem _ hw)
  have hown : s.vm.findClass RX9 = some m.cls := findClass_of_methodNamed B.named
  have C : CX p s m _ c cX9_cost RX9 3 D ca Z := ⟨hx, hb, hml, hown, hts, hK, hZ⟩
  have hS : va_S A s.heap s.heap [] := va_S.rf
  have hl := lv_entry ([.ref (ad 9 0), .int x1, .int x2]) (n := 3) (Nat.le_of_ble_eq_true rfl)
  rw [lg_entry_eq]
  generalize (lg_sl ([.ref (ad 9 0), .int x1, .int x2]) ++ List.replicate (3 - (lg_sl ([.ref (ad 9 0), .int x1, .int x2])).length) Slot.unset).toArray = ls at hl ⊢
  have hl : lv_has ls 3 [(0, .ref (ad 9 0)), (1, .int x1), (2, .int x2)] := hl
  show W p l e (rmk 4) s m _ below meth c s.heap [] 0 0 _ _
  unfold f_X9_cost at hf
  -- walk
  refine lv_aload_n hx hb dX9_cost_0 rfl (lv_at hl 0 rfl) ?_
  refine lv_aload_n hx hb dX9_cost_1 rfl (lv_at hl 0 rfl) ?_
  refine lv_iload_n hx hb dX9_cost_2 rfl (lv_at hl 1 rfl) ?_
  refine lv_iload_n hx hb dX9_cost_3 rfl (lv_at hl 2 rfl) ?_
  obtain ⟨z1, q2, hf⟩ := bsp hf
  refine kc_V (ci := 9) (i := 0) (As := [.int x1, .int x2]) (rest := [.ref (ad 9 0)]) hok.2.2 C hP hS hl.1 (hok.2.1 9 0 (Nat.le_of_ble_eq_true rfl)) rfl rfl cw_X9_whyNotOne ml_X9_335 (c_X9_whyNotOne l D ca ad PL Z A hok N w x1 x2 z1 q2) rfl ⟨rfl, rfl⟩ ⟨Nat.le_of_ble_eq_true rfl, Nat.le_of_ble_eq_true rfl⟩ ⟨Nat.zero_le _, Nat.zero_le _⟩ (Nat.le_of_ble_eq_true rfl) rfl dX9_cost_4 (fun H locs hP hS => ?_)
  obtain ⟨z3, q4, hf⟩ := bsp hf
  refine kc_V (ci := 9) (i := 0) (As := [.int z1]) (rest := []) hok.2.2 C hP hS hl.1 (hok.2.1 9 0 (Nat.le_of_ble_eq_true rfl)) rfl rfl cw_X9_isRefused ml_X9_223 (c_X9_isRefused l D ca ad PL Z A hok N w z1 z3.1 z3.2 q4) rfl ⟨rfl, rfl⟩ ⟨Nat.le_of_ble_eq_true rfl, Nat.le_of_ble_eq_true rfl⟩ ⟨Nat.zero_le _, Nat.zero_le _⟩ (Nat.le_of_ble_eq_true rfl) rfl dX9_cost_7 (fun H locs hP hS => ?_)
  refine lv_if_eq (tgt := 15) hx hb dX9_cost_10 (by decide) (fun c10 => ?_) (fun c10 => ?_)
  · have hf := ifp hf c10
    refine lv_aload_n hx hb dX9_cost_15 rfl (lv_at hl 0 rfl) ?_
    obtain ⟨z5, q6, hf⟩ := bsp hf
    refine kc_V (ci := 9) (i := 0) (As := []) (rest := []) hok.2.2 C hP hS hl.1 (hok.2.1 9 0 (Nat.le_of_ble_eq_true rfl)) rfl rfl cw_X9_laysCosts ml_X9_359 (c_X9_laysCosts l D ca ad PL Z A hok N z3.1  z5 q6) rfl ⟨rfl, rfl⟩ ⟨Nat.le_of_ble_eq_true rfl, Nat.le_of_ble_eq_true rfl⟩ ⟨Nat.zero_le _, Nat.zero_le _⟩ (Nat.le_of_ble_eq_true rfl) rfl dX9_cost_16 (fun H locs hP hS => ?_)
    refine lv_aload_n hx hb dX9_cost_19 rfl (lv_at hl 0 rfl) ?_
    refine gt_9_49 (i := 0) C hP (hok.2.1 9 0 (Nat.le_of_ble_eq_true rfl)) lk_X9_87 dX9_cost_20 ?_
    refine lv_iload_n hx hb dX9_cost_23 rfl (lv_at hl 1 rfl) ?_
    refine lv_iload_n hx hb dX9_cost_24 rfl (lv_at hl 2 rfl) ?_
    obtain ⟨z7, q8, hf⟩ := bsp hf
    refine kc_S (As := [.int x1, .int x2]) (rest := [.ref (ad 64 0)]) hok.2.2 C hP hS hl.1 cw_X9_pair ml_X9_345 (c_X9_pair l D ca ad PL Z A hok N z5 x1 x2 z7 q8) rfl ⟨rfl, rfl⟩ ⟨Nat.le_of_ble_eq_true rfl, Nat.le_of_ble_eq_true rfl⟩ ⟨Nat.zero_le _, Nat.zero_le _⟩ (Nat.le_of_ble_eq_true rfl) rfl dX9_cost_25 (fun H locs hP hS => ?_)
    obtain ⟨b9, hf⟩ := gsp hf
    refine ra_lld (k := 64) (i := 0) (n := 576) (f := (gL z5 64 0)) C hP (hok.2.1 64 0 (Nat.le_of_ble_eq_true rfl)) rfl b9 dX9_cost_28 ?_
    refine lv_l2i (v := ((gL z5 64 0 z7.toNatClampNeg).toInt32)) hx hb dX9_cost_29 rfl ?_
    exact kr_i hok.2.2 C hlocks hr rfl hP hS (congrArg Prod.fst (Option.some.inj hf)) (congrArg Prod.snd (Option.some.inj hf)) dX9_cost_30
  · have hf := ifn hf c10
    refine lv_iconst (v := (-1 : Int32)) hx hb dX9_cost_13 (by decide) ?_
    exact kr_i hok.2.2 C hlocks hr rfl hP hS (congrArg Prod.fst (Option.some.inj hf)) (congrArg Prod.snd (Option.some.inj hf)) dX9_cost_14
def f_X9_isNext (N : Nat) (w : Mem) (x1 : Int32) (x2 : Int32) (x3 : Int32) : Option (Int32) :=
  (Option.bind (f_X9_pair N w x1 x2) (fun z1 => (if inb z1 576 = true then (Option.bind (f_X9_pair N w x2 x3) (fun z4 => (if inb z4 576 = true then (if x1 = x2 then
some (0 : Int32)
else
(if (0 : Int32) ≤ (lg_cmp (gL w 65 0 z1.toNatClampNeg) (4000000000 : Int64)) then
some (0 : Int32)
else
(if (0 : Int32) ≤ (lg_cmp (gL w 64 0 z4.toNatClampNeg) (4000000000 : Int64)) then
some (0 : Int32)
else
(if (gF w 9 52 0) = (0 : Int32) then
(Option.bind (f_X9_pair N w x1 x3) (fun z7 => (if inb z7 576 = true then (if (lg_cmp ((gL w 65 0 z1.toNatClampNeg) + (gL w 64 0 z4.toNatClampNeg)) (gL w 64 0 z7.toNatClampNeg)) = (0 : Int32) then
some (1 : Int32)
else
some (0 : Int32)) else none)))
else
some (1 : Int32))))) else none))) else none)))
set_option maxRecDepth 100000 in
set_option maxHeartbeats 4000000 in
theorem c_X9_isNext (l : Launch) (D : va_G) (ca : Nat → ClassId) (ad : Nat → Nat → Nat) (PL : List (Nat × Nat)) (Z : State → Prop) (A : Nat → Prop) (hok : okc bM Z A ad PL) (N : Nat) (w : Mem) (x1 : Int32) (x2 : Int32) (x3 : Int32) (r : Int32) (hf : f_X9_isNext N w x1 x2 x3 = some r) : CT l yX9_isNext (wsy yX9_isNext cX9_isNext 8 (some .boolean)) (rmk 1) D ca ad PL Z A [.ref (ad 9 0), .int x1, .int x2, .int x3] w w (some (.int r)) := by
  refine Met.ofW (cc := cX9_isNext) (maxL := 8) (ret := (some .boolean)) (by decide +kernel) rfl ?_
  intro p e s m args below meth c s₁ B hml hv
  obtain ⟨rfl, hP, hK, hZ⟩ := hv
  have hx := B.exec
  have hb := B.bytes
  have hr := B.returns
  have hlocks := B.notSynchronized
  have hts : ∀ w ∈ ALL, w.before _ s = true := fun w hw => atoms_spec (ws := wsy yX9_isNext cX9_isNext 8 (some .boolean)) B.pre w (List.mem_cons_of_mem _ hw)
  have hown : s.vm.findClass RX9 = some m.cls := findClass_of_methodNamed B.named
  have C : CX p s m _ c cX9_isNext RX9 8 D ca Z := ⟨hx, hb, hml, hown, hts, hK, hZ⟩
  have hS : va_S A s.heap s.heap [] := va_S.rf
  have hl := lv_entry ([.ref (ad 9 0), .int x1, .int x2, .int x3]) (n := 8) (Nat.le_of_ble_eq_true rfl)
  rw [lg_entry_eq]
  generalize (lg_sl ([.ref (ad 9 0), .int x1, .int x2, .int x3]) ++ List.replicate (8 - (lg_sl ([.ref (ad 9 0), .int x1, .int x2, .int x3])).length) Slot.unset).toArray = ls at hl ⊢
  have hl : lv_has ls 8 [(0, .ref (ad 9 0)), (1, .int x1), (2, .int x2), (3, .int x3)] := hl
  show W p l e (rmk 1) s m _ below meth c s.heap [] 0 0 _ _
  unfold f_X9_isNext at hf
  -- walk
  refine lv_aload_n hx hb dX9_isNext_0 rfl (lv_at hl 0 rfl) ?_
  refine gt_9_50 (i := 0) C hP (hok.2.1 9 0 (Nat.le_of_ble_eq_true rfl)) lk_X9_91 dX9_isNext_1 ?_
  refine lv_iload_n hx hb dX9_isNext_4 rfl (lv_at hl 1 rfl) ?_
  refine lv_iload_n hx hb dX9_isNext_5 rfl (lv_at hl 2 rfl) ?_
  obtain ⟨z1, q2, hf⟩ := bsp hf
  refine kc_S (As := [.int x1, .int x2]) (rest := [.ref (ad 65 0)]) hok.2.2 C hP hS hl.1 cw_X9_pair ml_X9_345 (c_X9_pair l D ca ad PL Z A hok N w x1 x2 z1 q2) rfl ⟨rfl, rfl⟩ ⟨Nat.le_of_ble_eq_true rfl, Nat.le_of_ble_eq_true rfl⟩ ⟨Nat.zero_le _, Nat.zero_le _⟩ (Nat.le_of_ble_eq_true rfl) rfl dX9_isNext_6 (fun H locs hP hS => ?_)
  obtain ⟨b3, hf⟩ := gsp hf
  refine ra_lld (k := 65) (i := 0) (n := 576) (f := (gL w 65 0)) C hP (hok.2.1 65 0 (Nat.le_of_ble_eq_true rfl)) rfl b3 dX9_isNext_9 ?_
  refine lv_lstore (lv' := [(4, .long (gL w 65 0 z1.toNatClampNeg)), (0, .ref (ad 9 0)), (1, .int x1), (2, .int x2), (3, .int x3)]) hx hb dX9_isNext_10 hl (by decide) rfl (fun ls hl => ?_)
  refine lv_aload_n hx hb dX9_isNext_12 rfl (lv_at hl 1 rfl) ?_
  refine gt_9_49 (i := 0) C hP (hok.2.1 9 0 (Nat.le_of_ble_eq_true rfl)) lk_X9_87 dX9_isNext_13 ?_
  refine lv_iload_n hx hb dX9_isNext_16 rfl (lv_at hl 3 rfl) ?_
  refine lv_iload_n hx hb dX9_isNext_17 rfl (lv_at hl 4 rfl) ?_
  obtain ⟨z4, q5, hf⟩ := bsp hf
  refine kc_S (As := [.int x2, .int x3]) (rest := [.ref (ad 64 0)]) hok.2.2 C hP hS hl.1 cw_X9_pair ml_X9_345 (c_X9_pair l D ca ad PL Z A hok N w x2 x3 z4 q5) rfl ⟨rfl, rfl⟩ ⟨Nat.le_of_ble_eq_true rfl, Nat.le_of_ble_eq_true rfl⟩ ⟨Nat.zero_le _, Nat.zero_le _⟩ (Nat.le_of_ble_eq_true rfl) rfl dX9_isNext_18 (fun H locs hP hS => ?_)
  obtain ⟨b6, hf⟩ := gsp hf
  refine ra_lld (k := 64) (i := 0) (n := 576) (f := (gL w 64 0)) C hP (hok.2.1 64 0 (Nat.le_of_ble_eq_true rfl)) rfl b6 dX9_isNext_21 ?_
  refine lv_lstore (lv' := [(6, .long (gL w 64 0 z4.toNatClampNeg)), (4, .long (gL w 65 0 z1.toNatClampNeg)), (0, .ref (ad 9 0)), (1, .int x1), (2, .int x2), (3, .int x3)]) hx hb dX9_isNext_22 hl (by decide) rfl (fun ls hl => ?_)
  refine lv_iload_n hx hb dX9_isNext_24 rfl (lv_at hl 3 rfl) ?_
  refine lv_iload_n hx hb dX9_isNext_25 rfl (lv_at hl 4 rfl) ?_
  refine lv_icmp_eq (tgt := 77) hx hb dX9_isNext_26 (by decide) (fun c14 => ?_) (fun c14 => ?_)
  · have hf := ifp hf c14
    refine lv_iconst (v := (0 : Int32)) hx hb dX9_isNext_77 (by decide) ?_
    exact kr_i hok.2.2 C hlocks hr rfl hP hS rfl (Option.some.inj hf) dX9_isNext_78
  · have hf := ifn hf c14
    refine lv_lload hx hb dX9_isNext_29 (lv_at hl 1 rfl) ?_
    refine lv_ldc2 (v := (4000000000 : Int64)) hx hb hown (hts _ kc_X9_341) dX9_isNext_31 ?_
    refine W.lcmp hx hb dX9_isNext_34 ?_
    refine lv_if_ge (tgt := 77) hx hb dX9_isNext_35 (by decide) (fun c13 => ?_) (fun c13 => ?_)
    · have hf := ifp hf c13
      refine lv_iconst (v := (0 : Int32)) hx hb dX9_isNext_77 (by decide) ?_
      exact kr_i hok.2.2 C hlocks hr rfl hP hS rfl (Option.some.inj hf) dX9_isNext_78
    · have hf := ifn hf c13
      refine lv_lload hx hb dX9_isNext_38 (lv_at hl 0 rfl) ?_
      refine lv_ldc2 (v := (4000000000 : Int64)) hx hb hown (hts _ kc_X9_341) dX9_isNext_40 ?_
      refine W.lcmp hx hb dX9_isNext_43 ?_
      refine lv_if_ge (tgt := 77) hx hb dX9_isNext_44 (by decide) (fun c12 => ?_) (fun c12 => ?_)
      · have hf := ifp hf c12
        refine lv_iconst (v := (0 : Int32)) hx hb dX9_isNext_77 (by decide) ?_
        exact kr_i hok.2.2 C hlocks hr rfl hP hS rfl (Option.some.inj hf) dX9_isNext_78
      · have hf := ifn hf c12
        refine lv_aload_n hx hb dX9_isNext_47 rfl (lv_at hl 2 rfl) ?_
        refine gt_9_52 (i := 0) C hP (hok.2.1 9 0 (Nat.le_of_ble_eq_true rfl)) lk_X9_362 dX9_isNext_48 ?_
        refine lv_if_ne (tgt := 73) hx hb dX9_isNext_51 (by decide) (fun c11 => ?_) (fun c11 => ?_)
        · have hf := ifn hf c11
          refine lv_iconst (v := (1 : Int32)) hx hb dX9_isNext_73 (by decide) ?_
          refine lv_goto (tgt := 78) hx hb dX9_isNext_74 (by decide) ?_
          exact kr_i hok.2.2 C hlocks hr rfl hP hS rfl (Option.some.inj hf) dX9_isNext_78
        · have hf := ifp hf c11
          refine lv_lload hx hb dX9_isNext_54 (lv_at hl 1 rfl) ?_
          refine lv_lload hx hb dX9_isNext_56 (lv_at hl 0 rfl) ?_
          refine lv_ladd hx hb dX9_isNext_58 ?_
          refine lv_aload_n hx hb dX9_isNext_59 rfl (lv_at hl 2 rfl) ?_
          refine gt_9_49 (i := 0) C hP (hok.2.1 9 0 (Nat.le_of_ble_eq_true rfl)) lk_X9_87 dX9_isNext_60 ?_
          refine lv_iload_n hx hb dX9_isNext_63 rfl (lv_at hl 3 rfl) ?_
          refine lv_iload_n hx hb dX9_isNext_64 rfl (lv_at hl 5 rfl) ?_
          obtain ⟨z7, q8, hf⟩ := bsp hf
          refine kc_S (As := [.int x1, .int x3]) (rest := [.ref (ad 64 0), .long ((gL w 65 0 z1.toNatClampNeg) + (gL w 64 0 z4.toNatClampNeg))]) hok.2.2 C hP hS hl.1 cw_X9_pair ml_X9_345 (c_X9_pair l D ca ad PL Z A hok N w x1 x3 z7 q8) rfl ⟨rfl, rfl⟩ ⟨Nat.le_of_ble_eq_true rfl, Nat.le_of_ble_eq_true rfl⟩ ⟨Nat.zero_le _, Nat.zero_le _⟩ (Nat.le_of_ble_eq_true rfl) rfl dX9_isNext_65 (fun H locs hP hS => ?_)
          obtain ⟨b9, hf⟩ := gsp hf
          refine ra_lld (k := 64) (i := 0) (n := 576) (f := (gL w 64 0)) C hP (hok.2.1 64 0 (Nat.le_of_ble_eq_true rfl)) rfl b9 dX9_isNext_68 ?_
          refine W.lcmp hx hb dX9_isNext_69 ?_
          refine lv_if_ne (tgt := 77) hx hb dX9_isNext_70 (by decide) (fun c10 => ?_) (fun c10 => ?_)
          · have hf := ifn hf c10
            refine lv_iconst (v := (0 : Int32)) hx hb dX9_isNext_77 (by decide) ?_
            exact kr_i hok.2.2 C hlocks hr rfl hP hS rfl (Option.some.inj hf) dX9_isNext_78
          · have hf := ifp hf c10
            refine lv_iconst (v := (1 : Int32)) hx hb dX9_isNext_73 (by decide) ?_
            refine lv_goto (tgt := 78) hx hb dX9_isNext_74 (by decide) ?_
            exact kr_i hok.2.2 C hlocks hr rfl hP hS rfl (Option.some.inj hf) dX9_isNext_78
def f_X9_laysHops_127 (N : Nat) (w : Mem)  : Option (Mem) :=
  some w
def f_X9_laysHops_121_35 (rc : Mem → Int32 → Option (Mem)) (k : Mem → Option (Mem)) (N : Nat) (w : Mem)  (v1 : Int32) (v2 : Int32) : Option (Mem) :=
  (rc w (v2 + (1 : Int32)))
def f_X9_laysHops_115_45 (rc : Mem → Int32 → Option (Mem)) (k : Mem → Option (Mem)) (N : Nat) (w : Mem)  (v1 : Int32) (v2 : Int32) (v3 : Int32) : Option (Mem) :=
  (rc w (v3 + (1 : Int32)))
def lp_X9_laysHops_56 (k : Mem → Option (Mem)) (N : Nat)  (v1 : Int32) (v2 : Int32) (v3 : Int32) : Nat → Mem → Int32 → Option (Mem)
  | 0, _, _ => none
  | n + 1, w, v4 => (if (gF w 9 27 0) ≤ v4 then
(k w)
else
(if inb v4 24 = true then (if inb v3 24 = true then (if (gA w 66 0 v3.toNatClampNeg) ≤ ((gA w 66 0 v4.toNatClampNeg) + (1 : Int32)) then
(lp_X9_laysHops_56 k N   v1 v2 v3 n w (v4 + (1 : Int32)))
else
(Option.bind (f_X9_isNext N w v3 v4 v1) (fun z7 => (if z7 = (0 : Int32) then
(lp_X9_laysHops_56 k N   v1 v2 v3 n w (v4 + (1 : Int32)))
else
(lp_X9_laysHops_56 k N   v1 v2 v3 n (sA w 66 0 v3.toNatClampNeg ((gA w 66 0 v4.toNatClampNeg) + (1 : Int32))) (v4 + (1 : Int32))))))) else none) else none))
def lp_X9_laysHops_45 (k : Mem → Option (Mem)) (N : Nat)  (v1 : Int32) (v2 : Int32) : Nat → Mem → Int32 → Option (Mem)
  | 0, _, _ => none
  | n + 1, w, v3 => (if (gF w 9 27 0) ≤ v3 then
(k w)
else
(lp_X9_laysHops_56 (fun (w_4 : Mem) => (f_X9_laysHops_115_45 (fun (w : Mem) (v3 : Int32) => lp_X9_laysHops_45 k N   v1 v2 n w v3) k N w_4  v1 v2 v3 )) N   v1 v2 v3 N w (0 : Int32)))
def lp_X9_laysHops_35 (k : Mem → Option (Mem)) (N : Nat)  (v1 : Int32) : Nat → Mem → Int32 → Option (Mem)
  | 0, _, _ => none
  | n + 1, w, v2 => (if (gF w 9 27 0) ≤ v2 then
(k w)
else
(lp_X9_laysHops_45 (fun (w_3 : Mem) => (f_X9_laysHops_121_35 (fun (w : Mem) (v2 : Int32) => lp_X9_laysHops_35 k N   v1 n w v2) k N w_3  v1 v2 )) N   v1 v2 N w (0 : Int32)))
def f_X9_laysHops_33 (N : Nat) (w : Mem)  (v1 : Int32) : Option (Mem) :=
  (lp_X9_laysHops_35 (fun (w_2 : Mem) => (f_X9_laysHops_127 N w_2   )) N   v1 N w (0 : Int32))
def lp_X9_laysHops_2 (k : Mem → Option (Mem)) (N : Nat)  (v1 : Int32) : Nat → Mem → Int32 → Option (Mem)
  | 0, _, _ => none
  | n + 1, w, v2 => (if (gF w 9 27 0) ≤ v2 then
(k w)
else
(if v2 = v1 then
(if inb v2 24 = true then (lp_X9_laysHops_2 k N   v1 n (sA w 66 0 v2.toNatClampNeg (0 : Int32)) (v2 + (1 : Int32))) else none)
else
(if inb v2 24 = true then (lp_X9_laysHops_2 k N   v1 n (sA w 66 0 v2.toNatClampNeg (24 : Int32)) (v2 + (1 : Int32))) else none)))
def f_X9_laysHops (N : Nat) (w : Mem) (x1 : Int32) : Option (Mem) :=
  (lp_X9_laysHops_2 (fun (w_1 : Mem) => (f_X9_laysHops_33 N w_1  x1 )) N   x1 N w (0 : Int32))
set_option maxRecDepth 100000 in
set_option maxHeartbeats 4000000 in
theorem c_X9_laysHops (l : Launch) (D : va_G) (ca : Nat → ClassId) (ad : Nat → Nat → Nat) (PL : List (Nat × Nat)) (Z : State → Prop) (A : Nat → Prop) (hok : okc bM Z A ad PL) (N : Nat) (w : Mem) (x1 : Int32) (w' : Mem) (hf : f_X9_laysHops N w x1 = some w') : CT l yX9_laysHops (wsy yX9_laysHops cX9_laysHops 5 none) (rmk 2) D ca ad PL Z A [.ref (ad 9 0), .int x1] w w' none := by
  refine Met.ofW (cc := cX9_laysHops) (maxL := 5) (ret := none) (by decide +kernel) rfl ?_
  intro p e s m args below meth c s₁ B hml hv
  obtain ⟨rfl, hP, hK, hZ⟩ := hv
  have hx := B.exec
  have hb := B.bytes
  have hr := B.returns
  have hlocks := B.notSynchronized
  have hts : ∀ w ∈ ALL, w.before _ s = true := fun w hw => atoms_spec (ws := wsy yX9_laysHops cX9_laysHops 5 none) B.pre w (List.mem_cons_of_mem _ hw)
  have hown : s.vm.findClass RX9 = some m.cls := findClass_of_methodNamed B.named
  have C : CX p s m _ c cX9_laysHops RX9 5 D ca Z := ⟨hx, hb, hml, hown, hts, hK, hZ⟩
  have hS : va_S A s.heap s.heap [] := va_S.rf
  have hl := lv_entry ([.ref (ad 9 0), .int x1]) (n := 5) (Nat.le_of_ble_eq_true rfl)
  rw [lg_entry_eq]
  generalize (lg_sl ([.ref (ad 9 0), .int x1]) ++ List.replicate (5 - (lg_sl ([.ref (ad 9 0), .int x1])).length) Slot.unset).toArray = ls at hl ⊢
  have hl : lv_has ls 5 [(0, .ref (ad 9 0)), (1, .int x1)] := hl
  show W p l e (rmk 2) s m _ below meth c s.heap [] 0 0 _ _
  have P_f_X9_laysHops_127 : ∀ (w : Mem), f_X9_laysHops_127 N w    = some w' → WP p l e (rmk 2) s m [.ref (ad 9 0), .int x1].toArray below meth c D ca ad PL A (MQ below (qcR D ca ad PL Z A w' none) [.ref (ad 9 0), .int x1].toArray s 0 0 A) 5 127 [] [] w := by
    intro w hf _ _ ls hP hS hl
    unfold f_X9_laysHops_127 at hf
    exact kr_v hok.2.2 C hlocks hr hP hS (Option.some.inj hf) dX9_laysHops_127
  have P_f_X9_laysHops_121_35 : ∀ (v1 : Int32) (rc : Mem → Int32 → Option (Mem)) (hrc : ∀ (w : Mem) (v2 : Int32), rc w v2 = some w' → WP p l e (rmk 2) s m [.ref (ad 9 0), .int x1].toArray below meth c D ca ad PL A (MQ below (qcR D ca ad PL Z A w' none) [.ref (ad 9 0), .int x1].toArray s 0 0 A) 5 35 [] [(0, .ref (ad 9 0)), (1, .int v1), (2, .int v2)] w) (k : Mem → Option (Mem)) (hk : ∀ (w : Mem), k w = some w' → WP p l e (rmk 2) s m [.ref (ad 9 0), .int x1].toArray below meth c D ca ad PL A (MQ below (qcR D ca ad PL Z A w' none) [.ref (ad 9 0), .int x1].toArray s 0 0 A) 5 127 [] [] w) (w : Mem) (v2 : Int32), f_X9_laysHops_121_35 rc k N w  v1 v2  = some w' → WP p l e (rmk 2) s m [.ref (ad 9 0), .int x1].toArray below meth c D ca ad PL A (MQ below (qcR D ca ad PL Z A w' none) [.ref (ad 9 0), .int x1].toArray s 0 0 A) 5 121 [] [(0, .ref (ad 9 0)), (1, .int v1), (2, .int v2)] w := by
    intro v1 rc hrc k hk w v2 hf _ _ ls hP hS hl
    unfold f_X9_laysHops_121_35 at hf
    refine lv_iinc (v := (v2 + (1 : Int32))) (lv' := [(2, .int (v2 + (1 : Int32))), (0, .ref (ad 9 0)), (1, .int v1)]) hx hb dX9_laysHops_121 hl (k := 2) rfl rfl (by decide) rfl (fun ls hl => ?_)
    refine lv_goto (tgt := 35) hx hb dX9_laysHops_124 (by decide) ?_
    exact hrc w (v2 + (1 : Int32)) hf _ _ ls hP hS (lv_sub hl [1, 2, 0] rfl)
  have P_f_X9_laysHops_115_45 : ∀ (v1 : Int32) (v2 : Int32) (rc : Mem → Int32 → Option (Mem)) (hrc : ∀ (w : Mem) (v3 : Int32), rc w v3 = some w' → WP p l e (rmk 2) s m [.ref (ad 9 0), .int x1].toArray below meth c D ca ad PL A (MQ below (qcR D ca ad PL Z A w' none) [.ref (ad 9 0), .int x1].toArray s 0 0 A) 5 45 [] [(0, .ref (ad 9 0)), (1, .int v1), (2, .int v2), (3, .int v3)] w) (k : Mem → Option (Mem)) (hk : ∀ (w : Mem), k w = some w' → WP p l e (rmk 2) s m [.ref (ad 9 0), .int x1].toArray below meth c D ca ad PL A (MQ below (qcR D ca ad PL Z A w' none) [.ref (ad 9 0), .int x1].toArray s 0 0 A) 5 121 [] [(0, .ref (ad 9 0)), (1, .int v1), (2, .int v2)] w) (w : Mem) (v3 : Int32), f_X9_laysHops_115_45 rc k N w  v1 v2 v3  = some w' → WP p l e (rmk 2) s m [.ref (ad 9 0), .int x1].toArray below meth c D ca ad PL A (MQ below (qcR D ca ad PL Z A w' none) [.ref (ad 9 0), .int x1].toArray s 0 0 A) 5 115 [] [(0, .ref (ad 9 0)), (1, .int v1), (2, .int v2), (3, .int v3)] w := by
    intro v1 v2 rc hrc k hk w v3 hf _ _ ls hP hS hl
    unfold f_X9_laysHops_115_45 at hf
    refine lv_iinc (v := (v3 + (1 : Int32))) (lv' := [(3, .int (v3 + (1 : Int32))), (0, .ref (ad 9 0)), (1, .int v1), (2, .int v2)]) hx hb dX9_laysHops_115 hl (k := 3) rfl rfl (by decide) rfl (fun ls hl => ?_)
    refine lv_goto (tgt := 45) hx hb dX9_laysHops_118 (by decide) ?_
    exact hrc w (v3 + (1 : Int32)) hf _ _ ls hP hS (lv_sub hl [1, 2, 3, 0] rfl)
  have L_lp_X9_laysHops_56 : ∀ (v1 : Int32) (v2 : Int32) (v3 : Int32) (k : Mem → Option (Mem)) (hk : ∀ (w : Mem), k w = some w' → WP p l e (rmk 2) s m [.ref (ad 9 0), .int x1].toArray below meth c D ca ad PL A (MQ below (qcR D ca ad PL Z A w' none) [.ref (ad 9 0), .int x1].toArray s 0 0 A) 5 115 [] [(0, .ref (ad 9 0)), (1, .int v1), (2, .int v2), (3, .int v3)] w) (n : Nat) (w : Mem) (v4 : Int32), lp_X9_laysHops_56 k N   v1 v2 v3 n w v4 = some w' → WP p l e (rmk 2) s m [.ref (ad 9 0), .int x1].toArray below meth c D ca ad PL A (MQ below (qcR D ca ad PL Z A w' none) [.ref (ad 9 0), .int x1].toArray s 0 0 A) 5 56 [] [(0, .ref (ad 9 0)), (1, .int v1), (2, .int v2), (3, .int v3), (4, .int v4)] w := by
    intro v1 v2 v3 k hk n
    induction n with
    | zero => intro w v4 hf; rw [lp_X9_laysHops_56] at hf; cases hf
    | succ n ih =>
      intro w v4 hf _ _ ls hP hS hl
      rw [lp_X9_laysHops_56] at hf
      refine lv_iload hx hb dX9_laysHops_56 (lv_at hl 4 rfl) ?_
      refine lv_aload_n hx hb dX9_laysHops_58 rfl (lv_at hl 0 rfl) ?_
      refine gt_9_27 (i := 0) C hP (hok.2.1 9 0 (Nat.le_of_ble_eq_true rfl)) lk_X9_250 dX9_laysHops_59 ?_
      refine lv_icmp_ge (tgt := 115) hx hb dX9_laysHops_62 (by decide) (fun c11 => ?_) (fun c11 => ?_)
      · have hf := ifp hf c11
        exact hk w hf _ _ ls hP hS (lv_sub hl [0, 1, 2, 3] rfl)
      · have hf := ifn hf c11
        refine lv_aload_n hx hb dX9_laysHops_65 rfl (lv_at hl 0 rfl) ?_
        refine gt_9_51 (i := 0) C hP (hok.2.1 9 0 (Nat.le_of_ble_eq_true rfl)) lk_X9_94 dX9_laysHops_66 ?_
        refine lv_iload hx hb dX9_laysHops_69 (lv_at hl 4 rfl) ?_
        obtain ⟨b5, hf⟩ := gsp hf
        refine ra_ild (k := 66) (i := 0) (n := 24) (f := (gA w 66 0)) C hP (hok.2.1 66 0 (Nat.le_of_ble_eq_true rfl)) rfl b5 dX9_laysHops_71 ?_
        refine lv_iconst (v := (1 : Int32)) hx hb dX9_laysHops_72 (by decide) ?_
        refine lv_iadd hx hb dX9_laysHops_73 ?_
        refine lv_aload_n hx hb dX9_laysHops_74 rfl (lv_at hl 0 rfl) ?_
        refine gt_9_51 (i := 0) C hP (hok.2.1 9 0 (Nat.le_of_ble_eq_true rfl)) lk_X9_94 dX9_laysHops_75 ?_
        refine lv_iload_n hx hb dX9_laysHops_78 rfl (lv_at hl 3 rfl) ?_
        obtain ⟨b6, hf⟩ := gsp hf
        refine ra_ild (k := 66) (i := 0) (n := 24) (f := (gA w 66 0)) C hP (hok.2.1 66 0 (Nat.le_of_ble_eq_true rfl)) rfl b6 dX9_laysHops_79 ?_
        refine lv_icmp_ge (tgt := 109) hx hb dX9_laysHops_80 (by decide) (fun c10 => ?_) (fun c10 => ?_)
        · have hf := ifp hf c10
          refine lv_iinc (v := (v4 + (1 : Int32))) (lv' := [(4, .int (v4 + (1 : Int32))), (0, .ref (ad 9 0)), (1, .int v1), (2, .int v2), (3, .int v3)]) hx hb dX9_laysHops_109 hl (k := 4) rfl rfl (by decide) rfl (fun ls hl => ?_)
          refine lv_goto (tgt := 56) hx hb dX9_laysHops_112 (by decide) ?_
          exact ih w (v4 + (1 : Int32)) hf _ _ ls hP hS (lv_sub hl [1, 2, 3, 4, 0] rfl)
        · have hf := ifn hf c10
          refine lv_aload_n hx hb dX9_laysHops_83 rfl (lv_at hl 0 rfl) ?_
          refine lv_iload_n hx hb dX9_laysHops_84 rfl (lv_at hl 3 rfl) ?_
          refine lv_iload hx hb dX9_laysHops_85 (lv_at hl 4 rfl) ?_
          refine lv_iload_n hx hb dX9_laysHops_87 rfl (lv_at hl 1 rfl) ?_
          obtain ⟨z7, q8, hf⟩ := bsp hf
          refine kc_V (ci := 9) (i := 0) (As := [.int v3, .int v4, .int v1]) (rest := []) hok.2.2 C hP hS hl.1 (hok.2.1 9 0 (Nat.le_of_ble_eq_true rfl)) rfl rfl cw_X9_isNext ml_X9_366 (c_X9_isNext l D ca ad PL Z A hok N w v3 v4 v1 z7 q8) rfl ⟨rfl, rfl⟩ ⟨Nat.le_of_ble_eq_true rfl, Nat.le_of_ble_eq_true rfl⟩ ⟨Nat.zero_le _, Nat.zero_le _⟩ (Nat.le_of_ble_eq_true rfl) rfl dX9_laysHops_88 (fun H locs hP hS => ?_)
          refine lv_if_eq (tgt := 109) hx hb dX9_laysHops_91 (by decide) (fun c9 => ?_) (fun c9 => ?_)
          · have hf := ifp hf c9
            refine lv_iinc (v := (v4 + (1 : Int32))) (lv' := [(4, .int (v4 + (1 : Int32))), (0, .ref (ad 9 0)), (1, .int v1), (2, .int v2), (3, .int v3)]) hx hb dX9_laysHops_109 hl (k := 4) rfl rfl (by decide) rfl (fun ls hl => ?_)
            refine lv_goto (tgt := 56) hx hb dX9_laysHops_112 (by decide) ?_
            exact ih w (v4 + (1 : Int32)) hf _ _ ls hP hS (lv_sub hl [1, 2, 3, 4, 0] rfl)
          · have hf := ifn hf c9
            refine lv_aload_n hx hb dX9_laysHops_94 rfl (lv_at hl 0 rfl) ?_
            refine gt_9_51 (i := 0) C hP (hok.2.1 9 0 (Nat.le_of_ble_eq_true rfl)) lk_X9_94 dX9_laysHops_95 ?_
            refine lv_iload_n hx hb dX9_laysHops_98 rfl (lv_at hl 3 rfl) ?_
            refine lv_aload_n hx hb dX9_laysHops_99 rfl (lv_at hl 0 rfl) ?_
            refine gt_9_51 (i := 0) C hP (hok.2.1 9 0 (Nat.le_of_ble_eq_true rfl)) lk_X9_94 dX9_laysHops_100 ?_
            refine lv_iload hx hb dX9_laysHops_103 (lv_at hl 4 rfl) ?_
            refine ra_ild (k := 66) (i := 0) (n := 24) (f := (gA w 66 0)) C hP (hok.2.1 66 0 (Nat.le_of_ble_eq_true rfl)) rfl b5 dX9_laysHops_105 ?_
            refine lv_iconst (v := (1 : Int32)) hx hb dX9_laysHops_106 (by decide) ?_
            refine lv_iadd hx hb dX9_laysHops_107 ?_
            refine ra_ist (k := 66) (i := 0) (n := 24) C hok.1 hP hS (hok.2.1 66 0 (Nat.le_of_ble_eq_true rfl)) (fun _ => rfl) b6 dX9_laysHops_108 (fun H locs hP hS => ?_)
            refine lv_iinc (v := (v4 + (1 : Int32))) (lv' := [(4, .int (v4 + (1 : Int32))), (0, .ref (ad 9 0)), (1, .int v1), (2, .int v2), (3, .int v3)]) hx hb dX9_laysHops_109 hl (k := 4) rfl rfl (by decide) rfl (fun ls hl => ?_)
            refine lv_goto (tgt := 56) hx hb dX9_laysHops_112 (by decide) ?_
            exact ih (sA w 66 0 v3.toNatClampNeg ((gA w 66 0 v4.toNatClampNeg) + (1 : Int32))) (v4 + (1 : Int32)) hf _ _ ls hP hS (lv_sub hl [1, 2, 3, 4, 0] rfl)
  have L_lp_X9_laysHops_45 : ∀ (v1 : Int32) (v2 : Int32) (k : Mem → Option (Mem)) (hk : ∀ (w : Mem), k w = some w' → WP p l e (rmk 2) s m [.ref (ad 9 0), .int x1].toArray below meth c D ca ad PL A (MQ below (qcR D ca ad PL Z A w' none) [.ref (ad 9 0), .int x1].toArray s 0 0 A) 5 121 [] [(0, .ref (ad 9 0)), (1, .int v1), (2, .int v2)] w) (n : Nat) (w : Mem) (v3 : Int32), lp_X9_laysHops_45 k N   v1 v2 n w v3 = some w' → WP p l e (rmk 2) s m [.ref (ad 9 0), .int x1].toArray below meth c D ca ad PL A (MQ below (qcR D ca ad PL Z A w' none) [.ref (ad 9 0), .int x1].toArray s 0 0 A) 5 45 [] [(0, .ref (ad 9 0)), (1, .int v1), (2, .int v2), (3, .int v3)] w := by
    intro v1 v2 k hk n
    induction n with
    | zero => intro w v3 hf; rw [lp_X9_laysHops_45] at hf; cases hf
    | succ n ih =>
      intro w v3 hf _ _ ls hP hS hl
      rw [lp_X9_laysHops_45] at hf
      refine lv_iload_n hx hb dX9_laysHops_45 rfl (lv_at hl 3 rfl) ?_
      refine lv_aload_n hx hb dX9_laysHops_46 rfl (lv_at hl 0 rfl) ?_
      refine gt_9_27 (i := 0) C hP (hok.2.1 9 0 (Nat.le_of_ble_eq_true rfl)) lk_X9_250 dX9_laysHops_47 ?_
      refine lv_icmp_ge (tgt := 121) hx hb dX9_laysHops_50 (by decide) (fun c12 => ?_) (fun c12 => ?_)
      · have hf := ifp hf c12
        exact hk w hf _ _ ls hP hS (lv_sub hl [0, 1, 2] rfl)
      · have hf := ifn hf c12
        refine lv_iconst (v := (0 : Int32)) hx hb dX9_laysHops_53 (by decide) ?_
        refine lv_istore (lv' := [(4, .int (0 : Int32)), (0, .ref (ad 9 0)), (1, .int v1), (2, .int v2), (3, .int v3)]) hx hb dX9_laysHops_54 hl (by decide) rfl (fun ls hl => ?_)
        exact L_lp_X9_laysHops_56 v1 v2 v3 _ (fun w_4 hf H locs ls hP hS hl => P_f_X9_laysHops_115_45 v1 v2 _ ih _ hk w_4 v3 hf _ _ ls hP hS (lv_sub hl [0, 1, 2, 3] rfl)) N w (0 : Int32) hf _ _ ls hP hS (lv_sub hl [1, 2, 3, 4, 0] rfl)
  have L_lp_X9_laysHops_35 : ∀ (v1 : Int32) (k : Mem → Option (Mem)) (hk : ∀ (w : Mem), k w = some w' → WP p l e (rmk 2) s m [.ref (ad 9 0), .int x1].toArray below meth c D ca ad PL A (MQ below (qcR D ca ad PL Z A w' none) [.ref (ad 9 0), .int x1].toArray s 0 0 A) 5 127 [] [] w) (n : Nat) (w : Mem) (v2 : Int32), lp_X9_laysHops_35 k N   v1 n w v2 = some w' → WP p l e (rmk 2) s m [.ref (ad 9 0), .int x1].toArray below meth c D ca ad PL A (MQ below (qcR D ca ad PL Z A w' none) [.ref (ad 9 0), .int x1].toArray s 0 0 A) 5 35 [] [(0, .ref (ad 9 0)), (1, .int v1), (2, .int v2)] w := by
    intro v1 k hk n
    induction n with
    | zero => intro w v2 hf; rw [lp_X9_laysHops_35] at hf; cases hf
    | succ n ih =>
      intro w v2 hf _ _ ls hP hS hl
      rw [lp_X9_laysHops_35] at hf
      refine lv_iload_n hx hb dX9_laysHops_35 rfl (lv_at hl 2 rfl) ?_
      refine lv_aload_n hx hb dX9_laysHops_36 rfl (lv_at hl 0 rfl) ?_
      refine gt_9_27 (i := 0) C hP (hok.2.1 9 0 (Nat.le_of_ble_eq_true rfl)) lk_X9_250 dX9_laysHops_37 ?_
      refine lv_icmp_ge (tgt := 127) hx hb dX9_laysHops_40 (by decide) (fun c13 => ?_) (fun c13 => ?_)
      · have hf := ifp hf c13
        exact hk w hf _ _ ls hP hS (lv_sub hl [] rfl)
      · have hf := ifn hf c13
        refine lv_iconst (v := (0 : Int32)) hx hb dX9_laysHops_43 (by decide) ?_
        refine lv_istore_n (lv' := [(3, .int (0 : Int32)), (0, .ref (ad 9 0)), (1, .int v1), (2, .int v2)]) hx hb dX9_laysHops_44 rfl hl (by decide) rfl (fun ls hl => ?_)
        exact L_lp_X9_laysHops_45 v1 v2 _ (fun w_3 hf H locs ls hP hS hl => P_f_X9_laysHops_121_35 v1 _ ih _ hk w_3 v2 hf _ _ ls hP hS (lv_sub hl [0, 1, 2] rfl)) N w (0 : Int32) hf _ _ ls hP hS (lv_sub hl [1, 2, 3, 0] rfl)
  have P_f_X9_laysHops_33 : ∀ (w : Mem) (v1 : Int32), f_X9_laysHops_33 N w  v1  = some w' → WP p l e (rmk 2) s m [.ref (ad 9 0), .int x1].toArray below meth c D ca ad PL A (MQ below (qcR D ca ad PL Z A w' none) [.ref (ad 9 0), .int x1].toArray s 0 0 A) 5 33 [] [(0, .ref (ad 9 0)), (1, .int v1)] w := by
    intro w v1 hf _ _ ls hP hS hl
    unfold f_X9_laysHops_33 at hf
    refine lv_iconst (v := (0 : Int32)) hx hb dX9_laysHops_33 (by decide) ?_
    refine lv_istore_n (lv' := [(2, .int (0 : Int32)), (0, .ref (ad 9 0)), (1, .int v1)]) hx hb dX9_laysHops_34 rfl hl (by decide) rfl (fun ls hl => ?_)
    exact L_lp_X9_laysHops_35 v1 _ (fun w_2 hf H locs ls hP hS hl => P_f_X9_laysHops_127 w_2 hf _ _ ls hP hS (lv_sub hl [] rfl)) N w (0 : Int32) hf _ _ ls hP hS (lv_sub hl [1, 2, 0] rfl)
  have L_lp_X9_laysHops_2 : ∀ (v1 : Int32) (k : Mem → Option (Mem)) (hk : ∀ (w : Mem), k w = some w' → WP p l e (rmk 2) s m [.ref (ad 9 0), .int x1].toArray below meth c D ca ad PL A (MQ below (qcR D ca ad PL Z A w' none) [.ref (ad 9 0), .int x1].toArray s 0 0 A) 5 33 [] [(0, .ref (ad 9 0)), (1, .int v1)] w) (n : Nat) (w : Mem) (v2 : Int32), lp_X9_laysHops_2 k N   v1 n w v2 = some w' → WP p l e (rmk 2) s m [.ref (ad 9 0), .int x1].toArray below meth c D ca ad PL A (MQ below (qcR D ca ad PL Z A w' none) [.ref (ad 9 0), .int x1].toArray s 0 0 A) 5 2 [] [(0, .ref (ad 9 0)), (1, .int v1), (2, .int v2)] w := by
    intro v1 k hk n
    induction n with
    | zero => intro w v2 hf; rw [lp_X9_laysHops_2] at hf; cases hf
    | succ n ih =>
      intro w v2 hf _ _ ls hP hS hl
      rw [lp_X9_laysHops_2] at hf
      refine lv_iload_n hx hb dX9_laysHops_2 rfl (lv_at hl 2 rfl) ?_
      refine lv_aload_n hx hb dX9_laysHops_3 rfl (lv_at hl 0 rfl) ?_
      refine gt_9_27 (i := 0) C hP (hok.2.1 9 0 (Nat.le_of_ble_eq_true rfl)) lk_X9_250 dX9_laysHops_4 ?_
      refine lv_icmp_ge (tgt := 33) hx hb dX9_laysHops_7 (by decide) (fun c17 => ?_) (fun c17 => ?_)
      · have hf := ifp hf c17
        exact hk w hf _ _ ls hP hS (lv_sub hl [0, 1] rfl)
      · have hf := ifn hf c17
        refine lv_aload_n hx hb dX9_laysHops_10 rfl (lv_at hl 0 rfl) ?_
        refine gt_9_51 (i := 0) C hP (hok.2.1 9 0 (Nat.le_of_ble_eq_true rfl)) lk_X9_94 dX9_laysHops_11 ?_
        refine lv_iload_n hx hb dX9_laysHops_14 rfl (lv_at hl 2 rfl) ?_
        refine lv_iload_n hx hb dX9_laysHops_15 rfl (lv_at hl 2 rfl) ?_
        refine lv_iload_n hx hb dX9_laysHops_16 rfl (lv_at hl 1 rfl) ?_
        refine lv_icmp_ne (tgt := 24) hx hb dX9_laysHops_17 (by decide) (fun c16 => ?_) (fun c16 => ?_)
        · have hf := ifn hf c16
          refine lv_bipush (v := (24 : Int32)) hx hb dX9_laysHops_24 (by decide) ?_
          obtain ⟨b14, hf⟩ := gsp hf
          refine ra_ist (k := 66) (i := 0) (n := 24) C hok.1 hP hS (hok.2.1 66 0 (Nat.le_of_ble_eq_true rfl)) (fun _ => rfl) b14 dX9_laysHops_26 (fun H locs hP hS => ?_)
          refine lv_iinc (v := (v2 + (1 : Int32))) (lv' := [(2, .int (v2 + (1 : Int32))), (0, .ref (ad 9 0)), (1, .int v1)]) hx hb dX9_laysHops_27 hl (k := 2) rfl rfl (by decide) rfl (fun ls hl => ?_)
          refine lv_goto (tgt := 2) hx hb dX9_laysHops_30 (by decide) ?_
          exact ih (sA w 66 0 v2.toNatClampNeg (24 : Int32)) (v2 + (1 : Int32)) hf _ _ ls hP hS (lv_sub hl [1, 2, 0] rfl)
        · have hf := ifp hf c16
          refine lv_iconst (v := (0 : Int32)) hx hb dX9_laysHops_20 (by decide) ?_
          refine lv_goto (tgt := 26) hx hb dX9_laysHops_21 (by decide) ?_
          obtain ⟨b15, hf⟩ := gsp hf
          refine ra_ist (k := 66) (i := 0) (n := 24) C hok.1 hP hS (hok.2.1 66 0 (Nat.le_of_ble_eq_true rfl)) (fun _ => rfl) b15 dX9_laysHops_26 (fun H locs hP hS => ?_)
          refine lv_iinc (v := (v2 + (1 : Int32))) (lv' := [(2, .int (v2 + (1 : Int32))), (0, .ref (ad 9 0)), (1, .int v1)]) hx hb dX9_laysHops_27 hl (k := 2) rfl rfl (by decide) rfl (fun ls hl => ?_)
          refine lv_goto (tgt := 2) hx hb dX9_laysHops_30 (by decide) ?_
          exact ih (sA w 66 0 v2.toNatClampNeg (0 : Int32)) (v2 + (1 : Int32)) hf _ _ ls hP hS (lv_sub hl [1, 2, 0] rfl)
  unfold f_X9_laysHops at hf
  -- walk
  refine lv_iconst (v := (0 : Int32)) hx hb dX9_laysHops_0 (by decide) ?_
  refine lv_istore_n (lv' := [(2, .int (0 : Int32)), (0, .ref (ad 9 0)), (1, .int x1)]) hx hb dX9_laysHops_1 rfl hl (by decide) rfl (fun ls hl => ?_)
  exact L_lp_X9_laysHops_2 x1 _ (fun w_1 hf H locs ls hP hS hl => P_f_X9_laysHops_33 w_1 x1 hf _ _ ls hP hS (lv_sub hl [0, 1] rfl)) N w (0 : Int32) hf _ _ ls hP hS (lv_sub hl [1, 2, 0] rfl)
def f_X9_way_161 (N : Nat) (w : Mem)  (v5 : Int32) : Option (Mem × Int32) :=
  some (w, v5)
def f_X9_way_151_105 (rc : Int32 → Int32 → Option (Mem × Int32)) (k : Int32 → Option (Mem × Int32)) (N : Nat) (w : Mem)  (v2 : Int32) (v3 : Int32) (v6 : Int32) (v7 : Int32) : Option (Mem × Int32) :=
  (rc v7 (v6 + (1 : Int32)))
def lp_X9_way_114 (k : Int32 → Option (Mem × Int32)) (N : Nat) (w : Mem)  (v2 : Int32) (v3 : Int32) (v5 : Int32) (v6 : Int32) : Nat → Int32 → Option (Mem × Int32)
  | 0, _ => none
  | n + 1, v7 => (if inb v7 24 = true then (if inb v5 24 = true then (if ((gA w 66 0 v7.toNatClampNeg) + (1 : Int32)) = (gA w 66 0 v5.toNatClampNeg) then
(Option.bind (f_X9_isNext N w v5 v7 v2) (fun z19 => (if z19 = (0 : Int32) then
(lp_X9_way_114 k N w  v2 v3 v5 v6 n (v7 + (1 : Int32)))
else
(k v7))))
else
(lp_X9_way_114 k N w  v2 v3 v5 v6 n (v7 + (1 : Int32)))) else none) else none)
def lp_X9_way_105 (k : Int32 → Option (Mem × Int32)) (N : Nat) (w : Mem)  (v2 : Int32) (v3 : Int32) : Nat → Int32 → Int32 → Option (Mem × Int32)
  | 0, _, _ => none
  | n + 1, v5, v6 => (if v3 ≤ v6 then
(k v5)
else
(lp_X9_way_114 (fun (u7_16 : Int32) => (f_X9_way_151_105 (fun (v5 : Int32) (v6 : Int32) => lp_X9_way_105 k N w  v2 v3 n v5 v6) k N w  v2 v3 v6 u7_16 )) N w  v2 v3 v5 v6 N (0 : Int32)))
def f_X9_way_78_s2 (N : Nat) (w : Mem)  (v1 : Int32) (v2 : Int32) (v3 : Int32) (s0 : Int32) : Option (Mem × Int32) :=
  (if s0 = 0 ∨ s0 = 1 then (Option.bind (f_X9_laysHops N (sF w 9 52 0 s0) v2) (fun z12 => (if inb v1 24 = true then (if v3 ≤ (gA z12 66 0 v1.toNatClampNeg) then
(lp_X9_way_105 (fun (u5_15 : Int32) => (f_X9_way_161 N z12  u5_15 )) N z12  v2 v3 N v1 (0 : Int32))
else
some (z12, (-2 : Int32))) else none))) else none)
def f_X9_way_43_s2 (N : Nat) (w : Mem)  (v1 : Int32) (v2 : Int32) (v3 : Int32) (s0 : Int32) : Option (Mem × Int32) :=
  (Option.bind (f_X9_isRefused N w s0) (fun z5 => (if z5.2 = (0 : Int32) then
(Option.bind (f_X9_laysCosts N z5.1 ) (fun z7 => (Option.bind (f_X9_pair N z7 v1 v2) (fun z9 => (if inb z9 576 = true then (if (lg_cmp (gL z7 64 0 z9.toNatClampNeg) (1000000000 : Int64)) < (0 : Int32) then
(f_X9_way_78_s2 N z7  v1 v2 v3 (0 : Int32))
else
(f_X9_way_78_s2 N z7  v1 v2 v3 (1 : Int32))) else none)))))
else
some (z5.1, (-1 : Int32)))))
def f_X9_way (N : Nat) (w : Mem) (x1 : Int32) (x2 : Int32) (x3 : Int32) : Option (Mem × Int32) :=
  (Option.bind (f_X9_isTerm N w x1) (fun z1 => (if z1 = (0 : Int32) then
(if (0 : Int32) = (0 : Int32) then
(f_X9_way_43_s2 N w  x1 x2 x3 (1 : Int32))
else
(Option.bind (f_X9_whyNotOne N w x1 x2) (fun z3 => (f_X9_way_43_s2 N w  x1 x2 x3 z3))))
else
(Option.bind (f_X9_isTerm N w x2) (fun z29 => (if z29 = (0 : Int32) then
(if (0 : Int32) = (0 : Int32) then
(f_X9_way_43_s2 N w  x1 x2 x3 (1 : Int32))
else
(Option.bind (f_X9_whyNotOne N w x1 x2) (fun z31 => (f_X9_way_43_s2 N w  x1 x2 x3 z31))))
else
(if x3 < (0 : Int32) then
(if (0 : Int32) = (0 : Int32) then
(f_X9_way_43_s2 N w  x1 x2 x3 (1 : Int32))
else
(Option.bind (f_X9_whyNotOne N w x1 x2) (fun z34 => (f_X9_way_43_s2 N w  x1 x2 x3 z34))))
else
(if (1 : Int32) = (0 : Int32) then
(f_X9_way_43_s2 N w  x1 x2 x3 (1 : Int32))
else
(Option.bind (f_X9_whyNotOne N w x1 x2) (fun z37 => (f_X9_way_43_s2 N w  x1 x2 x3 z37)))))))))))
set_option maxRecDepth 100000 in
set_option maxHeartbeats 4000000 in
theorem c_X9_way (l : Launch) (D : va_G) (ca : Nat → ClassId) (ad : Nat → Nat → Nat) (PL : List (Nat × Nat)) (Z : State → Prop) (A : Nat → Prop) (hok : okc bM Z A ad PL) (N : Nat) (w : Mem) (x1 : Int32) (x2 : Int32) (x3 : Int32) (w' : Mem) (r : Int32) (hf : f_X9_way N w x1 x2 x3 = some (w', r)) : CT l yX9_way (wsy yX9_way cX9_way 8 (some .int)) (rmk 4) D ca ad PL Z A [.ref (ad 9 0), .int x1, .int x2, .int x3] w w' (some (.int r)) := by
  refine Met.ofW (cc := cX9_way) (maxL := 8) (ret := (some .int)) (by decide +kernel) rfl ?_
  intro p e s m args below meth c s₁ B hml hv
  obtain ⟨rfl, hP, hK, hZ⟩ := hv
  have hx := B.exec
  have hb := B.bytes
  have hr := B.returns
  have hlocks := B.notSynchronized
  have hts : ∀ w ∈ ALL, w.before _ s = true := fun w hw => atoms_spec (ws := wsy yX9_way cX9_way 8 (some .int)) B.pre w (List.mem_cons_of_mem _ hw)
  have hown : s.vm.findClass RX9 = some m.cls := findClass_of_methodNamed B.named
  have C : CX p s m _ c cX9_way RX9 8 D ca Z := ⟨hx, hb, hml, hown, hts, hK, hZ⟩
  have hS : va_S A s.heap s.heap [] := va_S.rf
  have hl := lv_entry ([.ref (ad 9 0), .int x1, .int x2, .int x3]) (n := 8) (Nat.le_of_ble_eq_true rfl)
  rw [lg_entry_eq]
  generalize (lg_sl ([.ref (ad 9 0), .int x1, .int x2, .int x3]) ++ List.replicate (8 - (lg_sl ([.ref (ad 9 0), .int x1, .int x2, .int x3])).length) Slot.unset).toArray = ls at hl ⊢
  have hl : lv_has ls 8 [(0, .ref (ad 9 0)), (1, .int x1), (2, .int x2), (3, .int x3)] := hl
  show W p l e (rmk 4) s m _ below meth c s.heap [] 0 0 _ _
  have P_f_X9_way_161 : ∀ (w : Mem) (v5 : Int32), f_X9_way_161 N w  v5  = some (w', r) → WP p l e (rmk 4) s m [.ref (ad 9 0), .int x1, .int x2, .int x3].toArray below meth c D ca ad PL A (MQ below (qcR D ca ad PL Z A w' (some (.int r))) [.ref (ad 9 0), .int x1, .int x2, .int x3].toArray s 0 0 A) 8 161 [] [(5, .int v5)] w := by
    intro w v5 hf _ _ ls hP hS hl
    unfold f_X9_way_161 at hf
    refine lv_iload hx hb dX9_way_161 (lv_at hl 0 rfl) ?_
    exact kr_i hok.2.2 C hlocks hr rfl hP hS (congrArg Prod.fst (Option.some.inj hf)) (congrArg Prod.snd (Option.some.inj hf)) dX9_way_163
  have P_f_X9_way_151_105 : ∀ (w : Mem) (v2 : Int32) (v3 : Int32) (rc : Int32 → Int32 → Option (Mem × Int32)) (hrc : ∀ (v5 : Int32) (v6 : Int32), rc v5 v6 = some (w', r) → WP p l e (rmk 4) s m [.ref (ad 9 0), .int x1, .int x2, .int x3].toArray below meth c D ca ad PL A (MQ below (qcR D ca ad PL Z A w' (some (.int r))) [.ref (ad 9 0), .int x1, .int x2, .int x3].toArray s 0 0 A) 8 105 [] [(0, .ref (ad 9 0)), (2, .int v2), (3, .int v3), (5, .int v5), (6, .int v6)] w) (k : Int32 → Option (Mem × Int32)) (hk : ∀ (v5 : Int32), k v5 = some (w', r) → WP p l e (rmk 4) s m [.ref (ad 9 0), .int x1, .int x2, .int x3].toArray below meth c D ca ad PL A (MQ below (qcR D ca ad PL Z A w' (some (.int r))) [.ref (ad 9 0), .int x1, .int x2, .int x3].toArray s 0 0 A) 8 161 [] [(5, .int v5)] w) (v6 : Int32) (v7 : Int32), f_X9_way_151_105 rc k N w  v2 v3 v6 v7  = some (w', r) → WP p l e (rmk 4) s m [.ref (ad 9 0), .int x1, .int x2, .int x3].toArray below meth c D ca ad PL A (MQ below (qcR D ca ad PL Z A w' (some (.int r))) [.ref (ad 9 0), .int x1, .int x2, .int x3].toArray s 0 0 A) 8 151 [] [(0, .ref (ad 9 0)), (2, .int v2), (3, .int v3), (6, .int v6), (7, .int v7)] w := by
    intro w v2 v3 rc hrc k hk v6 v7 hf _ _ ls hP hS hl
    unfold f_X9_way_151_105 at hf
    refine lv_iload hx hb dX9_way_151 (lv_at hl 4 rfl) ?_
    refine lv_istore (lv' := [(5, .int v7), (0, .ref (ad 9 0)), (2, .int v2), (3, .int v3), (6, .int v6), (7, .int v7)]) hx hb dX9_way_153 hl (by decide) rfl (fun ls hl => ?_)
    refine lv_iinc (v := (v6 + (1 : Int32))) (lv' := [(6, .int (v6 + (1 : Int32))), (5, .int v7), (0, .ref (ad 9 0)), (2, .int v2), (3, .int v3), (7, .int v7)]) hx hb dX9_way_155 hl (k := 4) rfl rfl (by decide) rfl (fun ls hl => ?_)
    refine lv_goto (tgt := 105) hx hb dX9_way_158 (by decide) ?_
    exact hrc v7 (v6 + (1 : Int32)) hf _ _ ls hP hS (lv_sub hl [2, 3, 4, 1, 0] rfl)
  have L_lp_X9_way_114 : ∀ (w : Mem) (v2 : Int32) (v3 : Int32) (v5 : Int32) (v6 : Int32) (k : Int32 → Option (Mem × Int32)) (hk : ∀ (v7 : Int32), k v7 = some (w', r) → WP p l e (rmk 4) s m [.ref (ad 9 0), .int x1, .int x2, .int x3].toArray below meth c D ca ad PL A (MQ below (qcR D ca ad PL Z A w' (some (.int r))) [.ref (ad 9 0), .int x1, .int x2, .int x3].toArray s 0 0 A) 8 151 [] [(0, .ref (ad 9 0)), (2, .int v2), (3, .int v3), (6, .int v6), (7, .int v7)] w) (n : Nat) (v7 : Int32), lp_X9_way_114 k N w  v2 v3 v5 v6 n v7 = some (w', r) → WP p l e (rmk 4) s m [.ref (ad 9 0), .int x1, .int x2, .int x3].toArray below meth c D ca ad PL A (MQ below (qcR D ca ad PL Z A w' (some (.int r))) [.ref (ad 9 0), .int x1, .int x2, .int x3].toArray s 0 0 A) 8 114 [] [(0, .ref (ad 9 0)), (2, .int v2), (3, .int v3), (5, .int v5), (6, .int v6), (7, .int v7)] w := by
    intro w v2 v3 v5 v6 k hk n
    induction n with
    | zero => intro v7 hf; rw [lp_X9_way_114] at hf; cases hf
    | succ n ih =>
      intro v7 hf _ _ ls hP hS hl
      rw [lp_X9_way_114] at hf
      refine lv_aload_n hx hb dX9_way_114 rfl (lv_at hl 0 rfl) ?_
      refine gt_9_51 (i := 0) C hP (hok.2.1 9 0 (Nat.le_of_ble_eq_true rfl)) lk_X9_94 dX9_way_115 ?_
      refine lv_iload hx hb dX9_way_118 (lv_at hl 5 rfl) ?_
      obtain ⟨b17, hf⟩ := gsp hf
      refine ra_ild (k := 66) (i := 0) (n := 24) (f := (gA w 66 0)) C hP (hok.2.1 66 0 (Nat.le_of_ble_eq_true rfl)) rfl b17 dX9_way_120 ?_
      refine lv_iconst (v := (1 : Int32)) hx hb dX9_way_121 (by decide) ?_
      refine lv_iadd hx hb dX9_way_122 ?_
      refine lv_aload_n hx hb dX9_way_123 rfl (lv_at hl 0 rfl) ?_
      refine gt_9_51 (i := 0) C hP (hok.2.1 9 0 (Nat.le_of_ble_eq_true rfl)) lk_X9_94 dX9_way_124 ?_
      refine lv_iload hx hb dX9_way_127 (lv_at hl 3 rfl) ?_
      obtain ⟨b18, hf⟩ := gsp hf
      refine ra_ild (k := 66) (i := 0) (n := 24) (f := (gA w 66 0)) C hP (hok.2.1 66 0 (Nat.le_of_ble_eq_true rfl)) rfl b18 dX9_way_129 ?_
      refine lv_icmp_ne (tgt := 145) hx hb dX9_way_130 (by decide) (fun c22 => ?_) (fun c22 => ?_)
      · have hf := ifn hf c22
        refine lv_iinc (v := (v7 + (1 : Int32))) (lv' := [(7, .int (v7 + (1 : Int32))), (0, .ref (ad 9 0)), (2, .int v2), (3, .int v3), (5, .int v5), (6, .int v6)]) hx hb dX9_way_145 hl (k := 5) rfl rfl (by decide) rfl (fun ls hl => ?_)
        refine lv_goto (tgt := 114) hx hb dX9_way_148 (by decide) ?_
        exact ih (v7 + (1 : Int32)) hf _ _ ls hP hS (lv_sub hl [1, 2, 3, 4, 5, 0] rfl)
      · have hf := ifp hf c22
        refine lv_aload_n hx hb dX9_way_133 rfl (lv_at hl 0 rfl) ?_
        refine lv_iload hx hb dX9_way_134 (lv_at hl 3 rfl) ?_
        refine lv_iload hx hb dX9_way_136 (lv_at hl 5 rfl) ?_
        refine lv_iload_n hx hb dX9_way_138 rfl (lv_at hl 1 rfl) ?_
        obtain ⟨z19, q20, hf⟩ := bsp hf
        refine kc_V (ci := 9) (i := 0) (As := [.int v5, .int v7, .int v2]) (rest := []) hok.2.2 C hP hS hl.1 (hok.2.1 9 0 (Nat.le_of_ble_eq_true rfl)) rfl rfl cw_X9_isNext ml_X9_366 (c_X9_isNext l D ca ad PL Z A hok N w v5 v7 v2 z19 q20) rfl ⟨rfl, rfl⟩ ⟨Nat.le_of_ble_eq_true rfl, Nat.le_of_ble_eq_true rfl⟩ ⟨Nat.zero_le _, Nat.zero_le _⟩ (Nat.le_of_ble_eq_true rfl) rfl dX9_way_139 (fun H locs hP hS => ?_)
        refine lv_if_ne (tgt := 151) hx hb dX9_way_142 (by decide) (fun c21 => ?_) (fun c21 => ?_)
        · have hf := ifn hf c21
          exact hk v7 hf _ _ ls hP hS (lv_sub hl [0, 1, 2, 4, 5] rfl)
        · have hf := ifp hf c21
          refine lv_iinc (v := (v7 + (1 : Int32))) (lv' := [(7, .int (v7 + (1 : Int32))), (0, .ref (ad 9 0)), (2, .int v2), (3, .int v3), (5, .int v5), (6, .int v6)]) hx hb dX9_way_145 hl (k := 5) rfl rfl (by decide) rfl (fun ls hl => ?_)
          refine lv_goto (tgt := 114) hx hb dX9_way_148 (by decide) ?_
          exact ih (v7 + (1 : Int32)) hf _ _ ls hP hS (lv_sub hl [1, 2, 3, 4, 5, 0] rfl)
  have L_lp_X9_way_105 : ∀ (w : Mem) (v2 : Int32) (v3 : Int32) (k : Int32 → Option (Mem × Int32)) (hk : ∀ (v5 : Int32), k v5 = some (w', r) → WP p l e (rmk 4) s m [.ref (ad 9 0), .int x1, .int x2, .int x3].toArray below meth c D ca ad PL A (MQ below (qcR D ca ad PL Z A w' (some (.int r))) [.ref (ad 9 0), .int x1, .int x2, .int x3].toArray s 0 0 A) 8 161 [] [(5, .int v5)] w) (n : Nat) (v5 : Int32) (v6 : Int32), lp_X9_way_105 k N w  v2 v3 n v5 v6 = some (w', r) → WP p l e (rmk 4) s m [.ref (ad 9 0), .int x1, .int x2, .int x3].toArray below meth c D ca ad PL A (MQ below (qcR D ca ad PL Z A w' (some (.int r))) [.ref (ad 9 0), .int x1, .int x2, .int x3].toArray s 0 0 A) 8 105 [] [(0, .ref (ad 9 0)), (2, .int v2), (3, .int v3), (5, .int v5), (6, .int v6)] w := by
    intro w v2 v3 k hk n
    induction n with
    | zero => intro v5 v6 hf; rw [lp_X9_way_105] at hf; cases hf
    | succ n ih =>
      intro v5 v6 hf _ _ ls hP hS hl
      rw [lp_X9_way_105] at hf
      refine lv_iload hx hb dX9_way_105 (lv_at hl 4 rfl) ?_
      refine lv_iload_n hx hb dX9_way_107 rfl (lv_at hl 2 rfl) ?_
      refine lv_icmp_ge (tgt := 161) hx hb dX9_way_108 (by decide) (fun c23 => ?_) (fun c23 => ?_)
      · have hf := ifp hf c23
        exact hk v5 hf _ _ ls hP hS (lv_sub hl [3] rfl)
      · have hf := ifn hf c23
        refine lv_iconst (v := (0 : Int32)) hx hb dX9_way_111 (by decide) ?_
        refine lv_istore (lv' := [(7, .int (0 : Int32)), (0, .ref (ad 9 0)), (2, .int v2), (3, .int v3), (5, .int v5), (6, .int v6)]) hx hb dX9_way_112 hl (by decide) rfl (fun ls hl => ?_)
        exact L_lp_X9_way_114 w v2 v3 v5 v6 _ (fun u7_16 hf H locs ls hP hS hl => P_f_X9_way_151_105 w v2 v3 _ ih _ hk v6 u7_16 hf _ _ ls hP hS (lv_sub hl [0, 1, 2, 3, 4] rfl)) N (0 : Int32) hf _ _ ls hP hS (lv_sub hl [1, 2, 3, 4, 5, 0] rfl)
  have P_f_X9_way_78_s2 : ∀ (w : Mem) (v1 : Int32) (v2 : Int32) (v3 : Int32) (s0 : Int32), f_X9_way_78_s2 N w  v1 v2 v3 s0 = some (w', r) → WP p l e (rmk 4) s m [.ref (ad 9 0), .int x1, .int x2, .int x3].toArray below meth c D ca ad PL A (MQ below (qcR D ca ad PL Z A w' (some (.int r))) [.ref (ad 9 0), .int x1, .int x2, .int x3].toArray s 0 0 A) 8 78 [.int s0, .ref (ad 9 0)] [(0, .ref (ad 9 0)), (1, .int v1), (2, .int v2), (3, .int v3)] w := by
    intro w v1 v2 v3 s0 hf _ _ ls hP hS hl
    unfold f_X9_way_78_s2 at hf
    obtain ⟨b25, hf⟩ := gsp hf
    refine pt_9_52 (i := 0) (v := s0) C hok.1 hP hS (hok.2.1 9 0 (Nat.le_of_ble_eq_true rfl)) b25 lk_X9_362 dX9_way_78 (fun H locs hP hS => ?_)
    refine lv_aload_n hx hb dX9_way_81 rfl (lv_at hl 0 rfl) ?_
    refine lv_iload_n hx hb dX9_way_82 rfl (lv_at hl 2 rfl) ?_
    obtain ⟨z12, q13, hf⟩ := bsp hf
    refine kc_V (ci := 9) (i := 0) (As := [.int v2]) (rest := []) hok.2.2 C hP hS hl.1 (hok.2.1 9 0 (Nat.le_of_ble_eq_true rfl)) rfl rfl cw_X9_laysHops ml_X9_369 (c_X9_laysHops l D ca ad PL Z A hok N (sF w 9 52 0 s0) v2 z12 q13) rfl ⟨rfl, rfl⟩ ⟨Nat.le_of_ble_eq_true rfl, Nat.le_of_ble_eq_true rfl⟩ ⟨Nat.zero_le _, Nat.zero_le _⟩ (Nat.le_of_ble_eq_true rfl) rfl dX9_way_83 (fun H locs hP hS => ?_)
    refine lv_iload_n hx hb dX9_way_86 rfl (lv_at hl 3 rfl) ?_
    refine lv_aload_n hx hb dX9_way_87 rfl (lv_at hl 0 rfl) ?_
    refine gt_9_51 (i := 0) C hP (hok.2.1 9 0 (Nat.le_of_ble_eq_true rfl)) lk_X9_94 dX9_way_88 ?_
    refine lv_iload_n hx hb dX9_way_91 rfl (lv_at hl 1 rfl) ?_
    obtain ⟨b14, hf⟩ := gsp hf
    refine ra_ild (k := 66) (i := 0) (n := 24) (f := (gA z12 66 0)) C hP (hok.2.1 66 0 (Nat.le_of_ble_eq_true rfl)) rfl b14 dX9_way_92 ?_
    refine lv_icmp_le (tgt := 99) hx hb dX9_way_93 (by decide) (fun c24 => ?_) (fun c24 => ?_)
    · have hf := ifp hf c24
      refine lv_iload_n hx hb dX9_way_99 rfl (lv_at hl 1 rfl) ?_
      refine lv_istore (lv' := [(5, .int v1), (0, .ref (ad 9 0)), (1, .int v1), (2, .int v2), (3, .int v3)]) hx hb dX9_way_100 hl (by decide) rfl (fun ls hl => ?_)
      refine lv_iconst (v := (0 : Int32)) hx hb dX9_way_102 (by decide) ?_
      refine lv_istore (lv' := [(6, .int (0 : Int32)), (5, .int v1), (0, .ref (ad 9 0)), (1, .int v1), (2, .int v2), (3, .int v3)]) hx hb dX9_way_103 hl (by decide) rfl (fun ls hl => ?_)
      exact L_lp_X9_way_105 z12 v2 v3 _ (fun u5_15 hf H locs ls hP hS hl => P_f_X9_way_161 z12 u5_15 hf _ _ ls hP hS (lv_sub hl [0] rfl)) N v1 (0 : Int32) hf _ _ ls hP hS (lv_sub hl [2, 4, 5, 1, 0] rfl)
    · have hf := ifn hf c24
      refine lv_bipush (v := (-2 : Int32)) hx hb dX9_way_96 (by decide) ?_
      exact kr_i hok.2.2 C hlocks hr rfl hP hS (congrArg Prod.fst (Option.some.inj hf)) (congrArg Prod.snd (Option.some.inj hf)) dX9_way_98
  have P_f_X9_way_43_s2 : ∀ (w : Mem) (v1 : Int32) (v2 : Int32) (v3 : Int32) (s0 : Int32), f_X9_way_43_s2 N w  v1 v2 v3 s0 = some (w', r) → WP p l e (rmk 4) s m [.ref (ad 9 0), .int x1, .int x2, .int x3].toArray below meth c D ca ad PL A (MQ below (qcR D ca ad PL Z A w' (some (.int r))) [.ref (ad 9 0), .int x1, .int x2, .int x3].toArray s 0 0 A) 8 43 [.int s0, .ref (ad 9 0)] [(0, .ref (ad 9 0)), (1, .int v1), (2, .int v2), (3, .int v3)] w := by
    intro w v1 v2 v3 s0 hf _ _ ls hP hS hl
    unfold f_X9_way_43_s2 at hf
    obtain ⟨z5, q6, hf⟩ := bsp hf
    refine kc_V (ci := 9) (i := 0) (As := [.int s0]) (rest := []) hok.2.2 C hP hS hl.1 (hok.2.1 9 0 (Nat.le_of_ble_eq_true rfl)) rfl rfl cw_X9_isRefused ml_X9_223 (c_X9_isRefused l D ca ad PL Z A hok N w s0 z5.1 z5.2 q6) rfl ⟨rfl, rfl⟩ ⟨Nat.le_of_ble_eq_true rfl, Nat.le_of_ble_eq_true rfl⟩ ⟨Nat.zero_le _, Nat.zero_le _⟩ (Nat.le_of_ble_eq_true rfl) rfl dX9_way_43 (fun H locs hP hS => ?_)
    refine lv_if_eq (tgt := 51) hx hb dX9_way_46 (by decide) (fun c27 => ?_) (fun c27 => ?_)
    · have hf := ifp hf c27
      refine lv_aload_n hx hb dX9_way_51 rfl (lv_at hl 0 rfl) ?_
      obtain ⟨z7, q8, hf⟩ := bsp hf
      refine kc_V (ci := 9) (i := 0) (As := []) (rest := []) hok.2.2 C hP hS hl.1 (hok.2.1 9 0 (Nat.le_of_ble_eq_true rfl)) rfl rfl cw_X9_laysCosts ml_X9_359 (c_X9_laysCosts l D ca ad PL Z A hok N z5.1  z7 q8) rfl ⟨rfl, rfl⟩ ⟨Nat.le_of_ble_eq_true rfl, Nat.le_of_ble_eq_true rfl⟩ ⟨Nat.zero_le _, Nat.zero_le _⟩ (Nat.le_of_ble_eq_true rfl) rfl dX9_way_52 (fun H locs hP hS => ?_)
      refine lv_aload_n hx hb dX9_way_55 rfl (lv_at hl 0 rfl) ?_
      refine lv_aload_n hx hb dX9_way_56 rfl (lv_at hl 0 rfl) ?_
      refine gt_9_49 (i := 0) C hP (hok.2.1 9 0 (Nat.le_of_ble_eq_true rfl)) lk_X9_87 dX9_way_57 ?_
      refine lv_iload_n hx hb dX9_way_60 rfl (lv_at hl 1 rfl) ?_
      refine lv_iload_n hx hb dX9_way_61 rfl (lv_at hl 2 rfl) ?_
      obtain ⟨z9, q10, hf⟩ := bsp hf
      refine kc_S (As := [.int v1, .int v2]) (rest := [.ref (ad 64 0), .ref (ad 9 0)]) hok.2.2 C hP hS hl.1 cw_X9_pair ml_X9_345 (c_X9_pair l D ca ad PL Z A hok N z7 v1 v2 z9 q10) rfl ⟨rfl, rfl⟩ ⟨Nat.le_of_ble_eq_true rfl, Nat.le_of_ble_eq_true rfl⟩ ⟨Nat.zero_le _, Nat.zero_le _⟩ (Nat.le_of_ble_eq_true rfl) rfl dX9_way_62 (fun H locs hP hS => ?_)
      obtain ⟨b11, hf⟩ := gsp hf
      refine ra_lld (k := 64) (i := 0) (n := 576) (f := (gL z7 64 0)) C hP (hok.2.1 64 0 (Nat.le_of_ble_eq_true rfl)) rfl b11 dX9_way_65 ?_
      refine lv_ldc2 (v := (1000000000 : Int64)) hx hb hown (hts _ kc_X9_343) dX9_way_66 ?_
      refine W.lcmp hx hb dX9_way_69 ?_
      refine lv_if_lt (tgt := 77) hx hb dX9_way_70 (by decide) (fun c26 => ?_) (fun c26 => ?_)
      · have hf := ifp hf c26
        refine lv_iconst (v := (0 : Int32)) hx hb dX9_way_77 (by decide) ?_
        exact P_f_X9_way_78_s2 z7 v1 v2 v3 (0 : Int32) hf _ _ ls hP hS (lv_sub hl [0, 1, 2, 3] rfl)
      · have hf := ifn hf c26
        refine lv_iconst (v := (1 : Int32)) hx hb dX9_way_73 (by decide) ?_
        refine lv_goto (tgt := 78) hx hb dX9_way_74 (by decide) ?_
        exact P_f_X9_way_78_s2 z7 v1 v2 v3 (1 : Int32) hf _ _ ls hP hS (lv_sub hl [0, 1, 2, 3] rfl)
    · have hf := ifn hf c27
      refine lv_iconst (v := (-1 : Int32)) hx hb dX9_way_49 (by decide) ?_
      exact kr_i hok.2.2 C hlocks hr rfl hP hS (congrArg Prod.fst (Option.some.inj hf)) (congrArg Prod.snd (Option.some.inj hf)) dX9_way_50
  unfold f_X9_way at hf
  -- walk
  refine lv_aload_n hx hb dX9_way_0 rfl (lv_at hl 0 rfl) ?_
  refine lv_iload_n hx hb dX9_way_1 rfl (lv_at hl 1 rfl) ?_
  obtain ⟨z1, q2, hf⟩ := bsp hf
  refine kc_V (ci := 9) (i := 0) (As := [.int x1]) (rest := []) hok.2.2 C hP hS hl.1 (hok.2.1 9 0 (Nat.le_of_ble_eq_true rfl)) rfl rfl cw_X9_isTerm ml_X9_317 (c_X9_isTerm l D ca ad PL Z A hok N w x1 z1 q2) rfl ⟨rfl, rfl⟩ ⟨Nat.le_of_ble_eq_true rfl, Nat.le_of_ble_eq_true rfl⟩ ⟨Nat.zero_le _, Nat.zero_le _⟩ (Nat.le_of_ble_eq_true rfl) rfl dX9_way_2 (fun H locs hP hS => ?_)
  refine lv_if_eq (tgt := 24) hx hb dX9_way_5 (by decide) (fun c42 => ?_) (fun c42 => ?_)
  · have hf := ifp hf c42
    refine lv_iconst (v := (0 : Int32)) hx hb dX9_way_24 (by decide) ?_
    refine lv_istore (lv' := [(4, .int (0 : Int32)), (0, .ref (ad 9 0)), (1, .int x1), (2, .int x2), (3, .int x3)]) hx hb dX9_way_25 hl (by decide) rfl (fun ls hl => ?_)
    refine lv_aload_n hx hb dX9_way_27 rfl (lv_at hl 1 rfl) ?_
    refine lv_iload hx hb dX9_way_28 (lv_at hl 0 rfl) ?_
    refine lv_if_ne (tgt := 37) hx hb dX9_way_30 (by decide) (fun c28 => ?_) (fun c28 => ?_)
    · have hf := ifn hf c28
      refine lv_aload_n hx hb dX9_way_37 rfl (lv_at hl 1 rfl) ?_
      refine lv_iload_n hx hb dX9_way_38 rfl (lv_at hl 2 rfl) ?_
      refine lv_iload_n hx hb dX9_way_39 rfl (lv_at hl 3 rfl) ?_
      obtain ⟨z3, q4, hf⟩ := bsp hf
      refine kc_V (ci := 9) (i := 0) (As := [.int x1, .int x2]) (rest := [.ref (ad 9 0)]) hok.2.2 C hP hS hl.1 (hok.2.1 9 0 (Nat.le_of_ble_eq_true rfl)) rfl rfl cw_X9_whyNotOne ml_X9_335 (c_X9_whyNotOne l D ca ad PL Z A hok N w x1 x2 z3 q4) rfl ⟨rfl, rfl⟩ ⟨Nat.le_of_ble_eq_true rfl, Nat.le_of_ble_eq_true rfl⟩ ⟨Nat.zero_le _, Nat.zero_le _⟩ (Nat.le_of_ble_eq_true rfl) rfl dX9_way_40 (fun H locs hP hS => ?_)
      exact P_f_X9_way_43_s2 w x1 x2 x3 z3 hf _ _ ls hP hS (lv_sub hl [1, 2, 3, 4] rfl)
    · have hf := ifp hf c28
      refine lv_iconst (v := (1 : Int32)) hx hb dX9_way_33 (by decide) ?_
      refine lv_goto (tgt := 43) hx hb dX9_way_34 (by decide) ?_
      exact P_f_X9_way_43_s2 w x1 x2 x3 (1 : Int32) hf _ _ ls hP hS (lv_sub hl [1, 2, 3, 4] rfl)
  · have hf := ifn hf c42
    refine lv_aload_n hx hb dX9_way_8 rfl (lv_at hl 0 rfl) ?_
    refine lv_iload_n hx hb dX9_way_9 rfl (lv_at hl 2 rfl) ?_
    obtain ⟨z29, q30, hf⟩ := bsp hf
    refine kc_V (ci := 9) (i := 0) (As := [.int x2]) (rest := []) hok.2.2 C hP hS hl.1 (hok.2.1 9 0 (Nat.le_of_ble_eq_true rfl)) rfl rfl cw_X9_isTerm ml_X9_317 (c_X9_isTerm l D ca ad PL Z A hok N w x2 z29 q30) rfl ⟨rfl, rfl⟩ ⟨Nat.le_of_ble_eq_true rfl, Nat.le_of_ble_eq_true rfl⟩ ⟨Nat.zero_le _, Nat.zero_le _⟩ (Nat.le_of_ble_eq_true rfl) rfl dX9_way_10 (fun H locs hP hS => ?_)
    refine lv_if_eq (tgt := 24) hx hb dX9_way_13 (by decide) (fun c41 => ?_) (fun c41 => ?_)
    · have hf := ifp hf c41
      refine lv_iconst (v := (0 : Int32)) hx hb dX9_way_24 (by decide) ?_
      refine lv_istore (lv' := [(4, .int (0 : Int32)), (0, .ref (ad 9 0)), (1, .int x1), (2, .int x2), (3, .int x3)]) hx hb dX9_way_25 hl (by decide) rfl (fun ls hl => ?_)
      refine lv_aload_n hx hb dX9_way_27 rfl (lv_at hl 1 rfl) ?_
      refine lv_iload hx hb dX9_way_28 (lv_at hl 0 rfl) ?_
      refine lv_if_ne (tgt := 37) hx hb dX9_way_30 (by decide) (fun c33 => ?_) (fun c33 => ?_)
      · have hf := ifn hf c33
        refine lv_aload_n hx hb dX9_way_37 rfl (lv_at hl 1 rfl) ?_
        refine lv_iload_n hx hb dX9_way_38 rfl (lv_at hl 2 rfl) ?_
        refine lv_iload_n hx hb dX9_way_39 rfl (lv_at hl 3 rfl) ?_
        obtain ⟨z31, q32, hf⟩ := bsp hf
        refine kc_V (ci := 9) (i := 0) (As := [.int x1, .int x2]) (rest := [.ref (ad 9 0)]) hok.2.2 C hP hS hl.1 (hok.2.1 9 0 (Nat.le_of_ble_eq_true rfl)) rfl rfl cw_X9_whyNotOne ml_X9_335 (c_X9_whyNotOne l D ca ad PL Z A hok N w x1 x2 z31 q32) rfl ⟨rfl, rfl⟩ ⟨Nat.le_of_ble_eq_true rfl, Nat.le_of_ble_eq_true rfl⟩ ⟨Nat.zero_le _, Nat.zero_le _⟩ (Nat.le_of_ble_eq_true rfl) rfl dX9_way_40 (fun H locs hP hS => ?_)
        exact P_f_X9_way_43_s2 w x1 x2 x3 z31 hf _ _ ls hP hS (lv_sub hl [1, 2, 3, 4] rfl)
      · have hf := ifp hf c33
        refine lv_iconst (v := (1 : Int32)) hx hb dX9_way_33 (by decide) ?_
        refine lv_goto (tgt := 43) hx hb dX9_way_34 (by decide) ?_
        exact P_f_X9_way_43_s2 w x1 x2 x3 (1 : Int32) hf _ _ ls hP hS (lv_sub hl [1, 2, 3, 4] rfl)
    · have hf := ifn hf c41
      refine lv_iload_n hx hb dX9_way_16 rfl (lv_at hl 3 rfl) ?_
      refine lv_if_lt (tgt := 24) hx hb dX9_way_17 (by decide) (fun c40 => ?_) (fun c40 => ?_)
      · have hf := ifp hf c40
        refine lv_iconst (v := (0 : Int32)) hx hb dX9_way_24 (by decide) ?_
        refine lv_istore (lv' := [(4, .int (0 : Int32)), (0, .ref (ad 9 0)), (1, .int x1), (2, .int x2), (3, .int x3)]) hx hb dX9_way_25 hl (by decide) rfl (fun ls hl => ?_)
        refine lv_aload_n hx hb dX9_way_27 rfl (lv_at hl 1 rfl) ?_
        refine lv_iload hx hb dX9_way_28 (lv_at hl 0 rfl) ?_
        refine lv_if_ne (tgt := 37) hx hb dX9_way_30 (by decide) (fun c36 => ?_) (fun c36 => ?_)
        · have hf := ifn hf c36
          refine lv_aload_n hx hb dX9_way_37 rfl (lv_at hl 1 rfl) ?_
          refine lv_iload_n hx hb dX9_way_38 rfl (lv_at hl 2 rfl) ?_
          refine lv_iload_n hx hb dX9_way_39 rfl (lv_at hl 3 rfl) ?_
          obtain ⟨z34, q35, hf⟩ := bsp hf
          refine kc_V (ci := 9) (i := 0) (As := [.int x1, .int x2]) (rest := [.ref (ad 9 0)]) hok.2.2 C hP hS hl.1 (hok.2.1 9 0 (Nat.le_of_ble_eq_true rfl)) rfl rfl cw_X9_whyNotOne ml_X9_335 (c_X9_whyNotOne l D ca ad PL Z A hok N w x1 x2 z34 q35) rfl ⟨rfl, rfl⟩ ⟨Nat.le_of_ble_eq_true rfl, Nat.le_of_ble_eq_true rfl⟩ ⟨Nat.zero_le _, Nat.zero_le _⟩ (Nat.le_of_ble_eq_true rfl) rfl dX9_way_40 (fun H locs hP hS => ?_)
          exact P_f_X9_way_43_s2 w x1 x2 x3 z34 hf _ _ ls hP hS (lv_sub hl [1, 2, 3, 4] rfl)
        · have hf := ifp hf c36
          refine lv_iconst (v := (1 : Int32)) hx hb dX9_way_33 (by decide) ?_
          refine lv_goto (tgt := 43) hx hb dX9_way_34 (by decide) ?_
          exact P_f_X9_way_43_s2 w x1 x2 x3 (1 : Int32) hf _ _ ls hP hS (lv_sub hl [1, 2, 3, 4] rfl)
      · have hf := ifn hf c40
        refine lv_iconst (v := (1 : Int32)) hx hb dX9_way_20 (by decide) ?_
        refine lv_goto (tgt := 25) hx hb dX9_way_21 (by decide) ?_
        refine lv_istore (lv' := [(4, .int (1 : Int32)), (0, .ref (ad 9 0)), (1, .int x1), (2, .int x2), (3, .int x3)]) hx hb dX9_way_25 hl (by decide) rfl (fun ls hl => ?_)
        refine lv_aload_n hx hb dX9_way_27 rfl (lv_at hl 1 rfl) ?_
        refine lv_iload hx hb dX9_way_28 (lv_at hl 0 rfl) ?_
        refine lv_if_ne (tgt := 37) hx hb dX9_way_30 (by decide) (fun c39 => ?_) (fun c39 => ?_)
        · have hf := ifn hf c39
          refine lv_aload_n hx hb dX9_way_37 rfl (lv_at hl 1 rfl) ?_
          refine lv_iload_n hx hb dX9_way_38 rfl (lv_at hl 2 rfl) ?_
          refine lv_iload_n hx hb dX9_way_39 rfl (lv_at hl 3 rfl) ?_
          obtain ⟨z37, q38, hf⟩ := bsp hf
          refine kc_V (ci := 9) (i := 0) (As := [.int x1, .int x2]) (rest := [.ref (ad 9 0)]) hok.2.2 C hP hS hl.1 (hok.2.1 9 0 (Nat.le_of_ble_eq_true rfl)) rfl rfl cw_X9_whyNotOne ml_X9_335 (c_X9_whyNotOne l D ca ad PL Z A hok N w x1 x2 z37 q38) rfl ⟨rfl, rfl⟩ ⟨Nat.le_of_ble_eq_true rfl, Nat.le_of_ble_eq_true rfl⟩ ⟨Nat.zero_le _, Nat.zero_le _⟩ (Nat.le_of_ble_eq_true rfl) rfl dX9_way_40 (fun H locs hP hS => ?_)
          exact P_f_X9_way_43_s2 w x1 x2 x3 z37 hf _ _ ls hP hS (lv_sub hl [1, 2, 3, 4] rfl)
        · have hf := ifp hf c39
          refine lv_iconst (v := (1 : Int32)) hx hb dX9_way_33 (by decide) ?_
          refine lv_goto (tgt := 43) hx hb dX9_way_34 (by decide) ?_
          exact P_f_X9_way_43_s2 w x1 x2 x3 (1 : Int32) hf _ _ ls hP hS (lv_sub hl [1, 2, 3, 4] rfl)
def f_X9_core_65 (N : Nat) (w : Mem)  (v1 : Int32) : Option (Mem × Int32) :=
  some (w, v1)
def f_X9_core_35_10 (rc : Mem → Int32 → Int32 → Option (Mem × Int32)) (k : Mem → Int32 → Option (Mem × Int32)) (N : Nat) (w : Mem)  (v1 : Int32) (v2 : Int32) : Option (Mem × Int32) :=
  (Option.bind (f_X9_closesBy N w v2) (fun z4 => (Option.bind (f_X9_clashIn N z4 59) (fun z6 => (if z6 = (-2 : Int32) then
(rc z4 v1 (v2 + (1 : Int32)))
else
(rc z4 v2 (v2 + (1 : Int32))))))))
def lp_X9_core_10 (k : Mem → Int32 → Option (Mem × Int32)) (N : Nat)  : Nat → Mem → Int32 → Int32 → Option (Mem × Int32)
  | 0, _, _, _ => none
  | n + 1, w, v1, v2 => (Option.bind (f_X9_allSames N w ) (fun z2 => (if z2 < v2 then
(k w v1)
else
(if v1 = (-2 : Int32) then
(f_X9_core_35_10 (fun (w : Mem) (v1 : Int32) (v2 : Int32) => lp_X9_core_10 k N    n w v1 v2) k N w  v1 v2 )
else
(Option.bind (f_X9_ones N w v2) (fun z9 => (Option.bind (f_X9_ones N w v1) (fun z11 => (if z11 ≤ z9 then
(lp_X9_core_10 k N    n w v1 (v2 + (1 : Int32)))
else
(f_X9_core_35_10 (fun (w : Mem) (v1 : Int32) (v2 : Int32) => lp_X9_core_10 k N    n w v1 v2) k N w  v1 v2 ))))))))))
def f_X9_core (N : Nat) (w : Mem)  : Option (Mem × Int32) :=
  (lp_X9_core_10 (fun (w_1 : Mem) (u1_1 : Int32) => (f_X9_core_65 N w_1  u1_1 )) N    N (sF w 9 0 0 (0 : Int32)) (-2 : Int32) (0 : Int32))
set_option maxRecDepth 100000 in
set_option maxHeartbeats 4000000 in
theorem c_X9_core (l : Launch) (D : va_G) (ca : Nat → ClassId) (ad : Nat → Nat → Nat) (PL : List (Nat × Nat)) (Z : State → Prop) (A : Nat → Prop) (hok : okc bM Z A ad PL) (N : Nat) (w : Mem)  (w' : Mem) (r : Int32) (hf : f_X9_core N w  = some (w', r)) : CT l yX9_core (wsy yX9_core cX9_core 3 (some .int)) (rmk 3) D ca ad PL Z A [.ref (ad 9 0)] w w' (some (.int r)) := by
  refine Met.ofW (cc := cX9_core) (maxL := 3) (ret := (some .int)) (by decide +kernel) rfl ?_
  intro p e s m args below meth c s₁ B hml hv
  obtain ⟨rfl, hP, hK, hZ⟩ := hv
  have hx := B.exec
  have hb := B.bytes
  have hr := B.returns
  have hlocks := B.notSynchronized
  have hts : ∀ w ∈ ALL, w.before _ s = true := fun w hw => atoms_spec (ws := wsy yX9_core cX9_core 3 (some .int)) B.pre w (List.mem_cons_of_mem _ hw)
  have hown : s.vm.findClass RX9 = some m.cls := findClass_of_methodNamed B.named
  have C : CX p s m _ c cX9_core RX9 3 D ca Z := ⟨hx, hb, hml, hown, hts, hK, hZ⟩
  have hS : va_S A s.heap s.heap [] := va_S.rf
  have hl := lv_entry ([.ref (ad 9 0)]) (n := 3) (Nat.le_of_ble_eq_true rfl)
  rw [lg_entry_eq]
  generalize (lg_sl ([.ref (ad 9 0)]) ++ List.replicate (3 - (lg_sl ([.ref (ad 9 0)])).length) Slot.unset).toArray = ls at hl ⊢
  have hl : lv_has ls 3 [(0, .ref (ad 9 0))] := hl
  show W p l e (rmk 3) s m _ below meth c s.heap [] 0 0 _ _
  have P_f_X9_core_65 : ∀ (w : Mem) (v1 : Int32), f_X9_core_65 N w  v1  = some (w', r) → WP p l e (rmk 3) s m [.ref (ad 9 0)].toArray below meth c D ca ad PL A (MQ below (qcR D ca ad PL Z A w' (some (.int r))) [.ref (ad 9 0)].toArray s 0 0 A) 3 65 [] [(1, .int v1)] w := by
    intro w v1 hf _ _ ls hP hS hl
    unfold f_X9_core_65 at hf
    refine lv_iload_n hx hb dX9_core_65 rfl (lv_at hl 0 rfl) ?_
    exact kr_i hok.2.2 C hlocks hr rfl hP hS (congrArg Prod.fst (Option.some.inj hf)) (congrArg Prod.snd (Option.some.inj hf)) dX9_core_66
  have P_f_X9_core_35_10 : ∀ (rc : Mem → Int32 → Int32 → Option (Mem × Int32)) (hrc : ∀ (w : Mem) (v1 : Int32) (v2 : Int32), rc w v1 v2 = some (w', r) → WP p l e (rmk 3) s m [.ref (ad 9 0)].toArray below meth c D ca ad PL A (MQ below (qcR D ca ad PL Z A w' (some (.int r))) [.ref (ad 9 0)].toArray s 0 0 A) 3 10 [] [(0, .ref (ad 9 0)), (1, .int v1), (2, .int v2)] w) (k : Mem → Int32 → Option (Mem × Int32)) (hk : ∀ (w : Mem) (v1 : Int32), k w v1 = some (w', r) → WP p l e (rmk 3) s m [.ref (ad 9 0)].toArray below meth c D ca ad PL A (MQ below (qcR D ca ad PL Z A w' (some (.int r))) [.ref (ad 9 0)].toArray s 0 0 A) 3 65 [] [(1, .int v1)] w) (w : Mem) (v1 : Int32) (v2 : Int32), f_X9_core_35_10 rc k N w  v1 v2  = some (w', r) → WP p l e (rmk 3) s m [.ref (ad 9 0)].toArray below meth c D ca ad PL A (MQ below (qcR D ca ad PL Z A w' (some (.int r))) [.ref (ad 9 0)].toArray s 0 0 A) 3 35 [] [(0, .ref (ad 9 0)), (1, .int v1), (2, .int v2)] w := by
    intro rc hrc k hk w v1 v2 hf _ _ ls hP hS hl
    unfold f_X9_core_35_10 at hf
    refine lv_aload_n hx hb dX9_core_35 rfl (lv_at hl 0 rfl) ?_
    refine lv_iload_n hx hb dX9_core_36 rfl (lv_at hl 2 rfl) ?_
    obtain ⟨z4, q5, hf⟩ := bsp hf
    refine kc_V (ci := 9) (i := 0) (As := [.int v2]) (rest := []) hok.2.2 C hP hS hl.1 (hok.2.1 9 0 (Nat.le_of_ble_eq_true rfl)) rfl rfl cw_X9_closesBy ml_X9_303 (c_X9_closesBy l D ca ad PL Z A hok N w v2 z4 q5) rfl ⟨rfl, rfl⟩ ⟨Nat.le_of_ble_eq_true rfl, Nat.le_of_ble_eq_true rfl⟩ ⟨Nat.zero_le _, Nat.zero_le _⟩ (Nat.le_of_ble_eq_true rfl) rfl dX9_core_37 (fun H locs hP hS => ?_)
    refine lv_aload_n hx hb dX9_core_40 rfl (lv_at hl 0 rfl) ?_
    refine lv_aload_n hx hb dX9_core_41 rfl (lv_at hl 0 rfl) ?_
    refine gt_9_44 (i := 0) C hP (hok.2.1 9 0 (Nat.le_of_ble_eq_true rfl)) lk_X9_71 dX9_core_42 ?_
    obtain ⟨z6, q7, hf⟩ := bsp hf
    refine kc_V (ci := 9) (i := 0) (As := [.ref (ad 59 0)]) (rest := []) hok.2.2 C hP hS hl.1 (hok.2.1 9 0 (Nat.le_of_ble_eq_true rfl)) rfl rfl cw_X9_clashIn ml_X9_314 (c_X9_clashIn l D ca ad PL Z A hok N z4 59 (Nat.le_of_ble_eq_true rfl) rfl rfl z6 q7) rfl ⟨rfl, rfl⟩ ⟨Nat.le_of_ble_eq_true rfl, Nat.le_of_ble_eq_true rfl⟩ ⟨Nat.zero_le _, Nat.zero_le _⟩ (Nat.le_of_ble_eq_true rfl) rfl dX9_core_45 (fun H locs hP hS => ?_)
    refine lv_bipush (v := (-2 : Int32)) hx hb dX9_core_48 (by decide) ?_
    refine lv_icmp_eq (tgt := 57) hx hb dX9_core_50 (by decide) (fun c8 => ?_) (fun c8 => ?_)
    · have hf := ifp hf c8
      refine lv_iload_n hx hb dX9_core_57 rfl (lv_at hl 1 rfl) ?_
      refine lv_istore_n (lv' := [(1, .int v1), (0, .ref (ad 9 0)), (2, .int v2)]) hx hb dX9_core_58 rfl hl (by decide) rfl (fun ls hl => ?_)
      refine lv_iinc (v := (v2 + (1 : Int32))) (lv' := [(2, .int (v2 + (1 : Int32))), (1, .int v1), (0, .ref (ad 9 0))]) hx hb dX9_core_59 hl (k := 2) rfl rfl (by decide) rfl (fun ls hl => ?_)
      refine lv_goto (tgt := 10) hx hb dX9_core_62 (by decide) ?_
      exact hrc z4 v1 (v2 + (1 : Int32)) hf _ _ ls hP hS (lv_sub hl [2, 1, 0] rfl)
    · have hf := ifn hf c8
      refine lv_iload_n hx hb dX9_core_53 rfl (lv_at hl 2 rfl) ?_
      refine lv_goto (tgt := 58) hx hb dX9_core_54 (by decide) ?_
      refine lv_istore_n (lv' := [(1, .int v2), (0, .ref (ad 9 0)), (2, .int v2)]) hx hb dX9_core_58 rfl hl (by decide) rfl (fun ls hl => ?_)
      refine lv_iinc (v := (v2 + (1 : Int32))) (lv' := [(2, .int (v2 + (1 : Int32))), (1, .int v2), (0, .ref (ad 9 0))]) hx hb dX9_core_59 hl (k := 2) rfl rfl (by decide) rfl (fun ls hl => ?_)
      refine lv_goto (tgt := 10) hx hb dX9_core_62 (by decide) ?_
      exact hrc z4 v2 (v2 + (1 : Int32)) hf _ _ ls hP hS (lv_sub hl [2, 1, 0] rfl)
  have L_lp_X9_core_10 : ∀ (k : Mem → Int32 → Option (Mem × Int32)) (hk : ∀ (w : Mem) (v1 : Int32), k w v1 = some (w', r) → WP p l e (rmk 3) s m [.ref (ad 9 0)].toArray below meth c D ca ad PL A (MQ below (qcR D ca ad PL Z A w' (some (.int r))) [.ref (ad 9 0)].toArray s 0 0 A) 3 65 [] [(1, .int v1)] w) (n : Nat) (w : Mem) (v1 : Int32) (v2 : Int32), lp_X9_core_10 k N    n w v1 v2 = some (w', r) → WP p l e (rmk 3) s m [.ref (ad 9 0)].toArray below meth c D ca ad PL A (MQ below (qcR D ca ad PL Z A w' (some (.int r))) [.ref (ad 9 0)].toArray s 0 0 A) 3 10 [] [(0, .ref (ad 9 0)), (1, .int v1), (2, .int v2)] w := by
    intro k hk n
    induction n with
    | zero => intro w v1 v2 hf; rw [lp_X9_core_10] at hf; cases hf
    | succ n ih =>
      intro w v1 v2 hf _ _ ls hP hS hl
      rw [lp_X9_core_10] at hf
      refine lv_iload_n hx hb dX9_core_10 rfl (lv_at hl 2 rfl) ?_
      refine lv_aload_n hx hb dX9_core_11 rfl (lv_at hl 0 rfl) ?_
      obtain ⟨z2, q3, hf⟩ := bsp hf
      refine kc_V (ci := 9) (i := 0) (As := []) (rest := [.int v2]) hok.2.2 C hP hS hl.1 (hok.2.1 9 0 (Nat.le_of_ble_eq_true rfl)) rfl rfl cw_X9_allSames ml_X9_329 (c_X9_allSames l D ca ad PL Z A hok N w  z2 q3) rfl ⟨rfl, rfl⟩ ⟨Nat.le_of_ble_eq_true rfl, Nat.le_of_ble_eq_true rfl⟩ ⟨Nat.zero_le _, Nat.zero_le _⟩ (Nat.le_of_ble_eq_true rfl) rfl dX9_core_12 (fun H locs hP hS => ?_)
      refine lv_icmp_gt (tgt := 65) hx hb dX9_core_15 (by decide) (fun c15 => ?_) (fun c15 => ?_)
      · have hf := ifp hf c15
        exact hk w v1 hf _ _ ls hP hS (lv_sub hl [1] rfl)
      · have hf := ifn hf c15
        refine lv_iload_n hx hb dX9_core_18 rfl (lv_at hl 1 rfl) ?_
        refine lv_bipush (v := (-2 : Int32)) hx hb dX9_core_19 (by decide) ?_
        refine lv_icmp_eq (tgt := 35) hx hb dX9_core_21 (by decide) (fun c14 => ?_) (fun c14 => ?_)
        · have hf := ifp hf c14
          exact P_f_X9_core_35_10 _ ih _ hk w v1 v2 hf _ _ ls hP hS (lv_sub hl [0, 1, 2] rfl)
        · have hf := ifn hf c14
          refine lv_iload_n hx hb dX9_core_24 rfl (lv_at hl 2 rfl) ?_
          obtain ⟨z9, q10, hf⟩ := bsp hf
          refine kc_S (As := [.int v2]) (rest := []) hok.2.2 C hP hS hl.1 cw_X9_ones ml_X9_338 (c_X9_ones l D ca ad PL Z A hok N w v2 z9 q10) rfl ⟨rfl, rfl⟩ ⟨Nat.le_of_ble_eq_true rfl, Nat.le_of_ble_eq_true rfl⟩ ⟨Nat.zero_le _, Nat.zero_le _⟩ (Nat.le_of_ble_eq_true rfl) rfl dX9_core_25 (fun H locs hP hS => ?_)
          refine lv_iload_n hx hb dX9_core_28 rfl (lv_at hl 1 rfl) ?_
          obtain ⟨z11, q12, hf⟩ := bsp hf
          refine kc_S (As := [.int v1]) (rest := [.int z9]) hok.2.2 C hP hS hl.1 cw_X9_ones ml_X9_338 (c_X9_ones l D ca ad PL Z A hok N w v1 z11 q12) rfl ⟨rfl, rfl⟩ ⟨Nat.le_of_ble_eq_true rfl, Nat.le_of_ble_eq_true rfl⟩ ⟨Nat.zero_le _, Nat.zero_le _⟩ (Nat.le_of_ble_eq_true rfl) rfl dX9_core_29 (fun H locs hP hS => ?_)
          refine lv_icmp_ge (tgt := 59) hx hb dX9_core_32 (by decide) (fun c13 => ?_) (fun c13 => ?_)
          · have hf := ifp hf c13
            refine lv_iinc (v := (v2 + (1 : Int32))) (lv' := [(2, .int (v2 + (1 : Int32))), (0, .ref (ad 9 0)), (1, .int v1)]) hx hb dX9_core_59 hl (k := 2) rfl rfl (by decide) rfl (fun ls hl => ?_)
            refine lv_goto (tgt := 10) hx hb dX9_core_62 (by decide) ?_
            exact ih w v1 (v2 + (1 : Int32)) hf _ _ ls hP hS (lv_sub hl [1, 2, 0] rfl)
          · have hf := ifn hf c13
            exact P_f_X9_core_35_10 _ ih _ hk w v1 v2 hf _ _ ls hP hS (lv_sub hl [0, 1, 2] rfl)
  unfold f_X9_core at hf
  -- walk
  refine lv_aload_n hx hb dX9_core_0 rfl (lv_at hl 0 rfl) ?_
  refine lv_iconst (v := (0 : Int32)) hx hb dX9_core_1 (by decide) ?_
  refine pt_9_0 (i := 0) (v := (0 : Int32)) C hok.1 hP hS (hok.2.1 9 0 (Nat.le_of_ble_eq_true rfl)) lk_X9_103 dX9_core_2 (fun H locs hP hS => ?_)
  refine lv_bipush (v := (-2 : Int32)) hx hb dX9_core_5 (by decide) ?_
  refine lv_istore_n (lv' := [(1, .int (-2 : Int32)), (0, .ref (ad 9 0))]) hx hb dX9_core_7 rfl hl (by decide) rfl (fun ls hl => ?_)
  refine lv_iconst (v := (0 : Int32)) hx hb dX9_core_8 (by decide) ?_
  refine lv_istore_n (lv' := [(2, .int (0 : Int32)), (1, .int (-2 : Int32)), (0, .ref (ad 9 0))]) hx hb dX9_core_9 rfl hl (by decide) rfl (fun ls hl => ?_)
  exact L_lp_X9_core_10 _ (fun w_1 u1_1 hf H locs ls hP hS hl => P_f_X9_core_65 w_1 u1_1 hf _ _ ls hP hS (lv_sub hl [0] rfl)) N (sF w 9 0 0 (0 : Int32)) (-2 : Int32) (0 : Int32) hf _ _ ls hP hS (lv_sub hl [2, 1, 0] rfl)
def f_X9_closesWith (N : Nat) (w : Mem) (x1 : Int32) (x2 : Int32) : Option (Mem) :=
  (if inb (gF w 9 30 0) 13 = true then (if inb (gF (sA w 48 0 (gF w 9 30 0).toNatClampNeg x1) 9 30 0) 13 = true then (Option.bind (f_X9_allSames N (sA (sA w 48 0 (gF w 9 30 0).toNatClampNeg x1) 49 0 (gF (sA w 48 0 (gF w 9 30 0).toNatClampNeg x1) 9 30 0).toNatClampNeg x2) ) (fun z3 => (Option.bind (f_X9_closesBy N (sA (sA w 48 0 (gF w 9 30 0).toNatClampNeg x1) 49 0 (gF (sA w 48 0 (gF w 9 30 0).toNatClampNeg x1) 9 30 0).toNatClampNeg x2) (z3 ||| ((1 : Int32) <<< ((gF (sA (sA w 48 0 (gF w 9 30 0).toNatClampNeg x1) 49 0 (gF (sA w 48 0 (gF w 9 30 0).toNatClampNeg x1) 9 30 0).toNatClampNeg x2) 9 30 0) &&& 31)))) (fun z5 => some z5)))) else none) else none)
set_option maxRecDepth 100000 in
set_option maxHeartbeats 4000000 in
theorem c_X9_closesWith (l : Launch) (D : va_G) (ca : Nat → ClassId) (ad : Nat → Nat → Nat) (PL : List (Nat × Nat)) (Z : State → Prop) (A : Nat → Prop) (hok : okc bM Z A ad PL) (N : Nat) (w : Mem) (x1 : Int32) (x2 : Int32) (w' : Mem) (hf : f_X9_closesWith N w x1 x2 = some w') : CT l yX9_closesWith (wsy yX9_closesWith cX9_closesWith 3 none) (rmk 3) D ca ad PL Z A [.ref (ad 9 0), .int x1, .int x2] w w' none := by
  refine Met.ofW (cc := cX9_closesWith) (maxL := 3) (ret := none) (by decide +kernel) rfl ?_
  intro p e s m args below meth c s₁ B hml hv
  obtain ⟨rfl, hP, hK, hZ⟩ := hv
  have hx := B.exec
  have hb := B.bytes
  have hr := B.returns
  have hlocks := B.notSynchronized
  have hts : ∀ w ∈ ALL, w.before _ s = true := fun w hw => atoms_spec (ws := wsy yX9_closesWith cX9_closesWith 3 none) B.pre w (List.mem_cons_of_mem _ hw)
  have hown : s.vm.findClass RX9 = some m.cls := findClass_of_methodNamed B.named
  have C : CX p s m _ c cX9_closesWith RX9 3 D ca Z := ⟨hx, hb, hml, hown, hts, hK, hZ⟩
  have hS : va_S A s.heap s.heap [] := va_S.rf
  have hl := lv_entry ([.ref (ad 9 0), .int x1, .int x2]) (n := 3) (Nat.le_of_ble_eq_true rfl)
  rw [lg_entry_eq]
  generalize (lg_sl ([.ref (ad 9 0), .int x1, .int x2]) ++ List.replicate (3 - (lg_sl ([.ref (ad 9 0), .int x1, .int x2])).length) Slot.unset).toArray = ls at hl ⊢
  have hl : lv_has ls 3 [(0, .ref (ad 9 0)), (1, .int x1), (2, .int x2)] := hl
  show W p l e (rmk 3) s m _ below meth c s.heap [] 0 0 _ _
  unfold f_X9_closesWith at hf
  -- walk
  refine lv_aload_n hx hb dX9_closesWith_0 rfl (lv_at hl 0 rfl) ?_
  refine gt_9_31 (i := 0) C hP (hok.2.1 9 0 (Nat.le_of_ble_eq_true rfl)) lk_X9_38 dX9_closesWith_1 ?_
  refine lv_aload_n hx hb dX9_closesWith_4 rfl (lv_at hl 0 rfl) ?_
  refine gt_9_30 (i := 0) C hP (hok.2.1 9 0 (Nat.le_of_ble_eq_true rfl)) lk_X9_287 dX9_closesWith_5 ?_
  refine lv_iload_n hx hb dX9_closesWith_8 rfl (lv_at hl 1 rfl) ?_
  obtain ⟨b1, hf⟩ := gsp hf
  refine ra_ist (k := 48) (i := 0) (n := 13) C hok.1 hP hS (hok.2.1 48 0 (Nat.le_of_ble_eq_true rfl)) (fun _ => rfl) b1 dX9_closesWith_9 (fun H locs hP hS => ?_)
  refine lv_aload_n hx hb dX9_closesWith_10 rfl (lv_at hl 0 rfl) ?_
  refine gt_9_32 (i := 0) C hP (hok.2.1 9 0 (Nat.le_of_ble_eq_true rfl)) lk_X9_41 dX9_closesWith_11 ?_
  refine lv_aload_n hx hb dX9_closesWith_14 rfl (lv_at hl 0 rfl) ?_
  refine gt_9_30 (i := 0) C hP (hok.2.1 9 0 (Nat.le_of_ble_eq_true rfl)) lk_X9_287 dX9_closesWith_15 ?_
  refine lv_iload_n hx hb dX9_closesWith_18 rfl (lv_at hl 2 rfl) ?_
  obtain ⟨b2, hf⟩ := gsp hf
  refine ra_ist (k := 49) (i := 0) (n := 13) C hok.1 hP hS (hok.2.1 49 0 (Nat.le_of_ble_eq_true rfl)) (fun _ => rfl) b2 dX9_closesWith_19 (fun H locs hP hS => ?_)
  refine lv_aload_n hx hb dX9_closesWith_20 rfl (lv_at hl 0 rfl) ?_
  refine lv_aload_n hx hb dX9_closesWith_21 rfl (lv_at hl 0 rfl) ?_
  obtain ⟨z3, q4, hf⟩ := bsp hf
  refine kc_V (ci := 9) (i := 0) (As := []) (rest := [.ref (ad 9 0)]) hok.2.2 C hP hS hl.1 (hok.2.1 9 0 (Nat.le_of_ble_eq_true rfl)) rfl rfl cw_X9_allSames ml_X9_329 (c_X9_allSames l D ca ad PL Z A hok N (sA (sA w 48 0 (gF w 9 30 0).toNatClampNeg x1) 49 0 (gF (sA w 48 0 (gF w 9 30 0).toNatClampNeg x1) 9 30 0).toNatClampNeg x2)  z3 q4) rfl ⟨rfl, rfl⟩ ⟨Nat.le_of_ble_eq_true rfl, Nat.le_of_ble_eq_true rfl⟩ ⟨Nat.zero_le _, Nat.zero_le _⟩ (Nat.le_of_ble_eq_true rfl) rfl dX9_closesWith_22 (fun H locs hP hS => ?_)
  refine lv_iconst (v := (1 : Int32)) hx hb dX9_closesWith_25 (by decide) ?_
  refine lv_aload_n hx hb dX9_closesWith_26 rfl (lv_at hl 0 rfl) ?_
  refine gt_9_30 (i := 0) C hP (hok.2.1 9 0 (Nat.le_of_ble_eq_true rfl)) lk_X9_287 dX9_closesWith_27 ?_
  refine lv_ishl hx hb dX9_closesWith_30 ?_
  refine lv_ior hx hb dX9_closesWith_31 ?_
  obtain ⟨z5, q6, hf⟩ := bsp hf
  refine kc_V (ci := 9) (i := 0) (As := [.int (z3 ||| ((1 : Int32) <<< ((gF (sA (sA w 48 0 (gF w 9 30 0).toNatClampNeg x1) 49 0 (gF (sA w 48 0 (gF w 9 30 0).toNatClampNeg x1) 9 30 0).toNatClampNeg x2) 9 30 0) &&& 31)))]) (rest := []) hok.2.2 C hP hS hl.1 (hok.2.1 9 0 (Nat.le_of_ble_eq_true rfl)) rfl rfl cw_X9_closesBy ml_X9_303 (c_X9_closesBy l D ca ad PL Z A hok N (sA (sA w 48 0 (gF w 9 30 0).toNatClampNeg x1) 49 0 (gF (sA w 48 0 (gF w 9 30 0).toNatClampNeg x1) 9 30 0).toNatClampNeg x2) (z3 ||| ((1 : Int32) <<< ((gF (sA (sA w 48 0 (gF w 9 30 0).toNatClampNeg x1) 49 0 (gF (sA w 48 0 (gF w 9 30 0).toNatClampNeg x1) 9 30 0).toNatClampNeg x2) 9 30 0) &&& 31))) z5 q6) rfl ⟨rfl, rfl⟩ ⟨Nat.le_of_ble_eq_true rfl, Nat.le_of_ble_eq_true rfl⟩ ⟨Nat.zero_le _, Nat.zero_le _⟩ (Nat.le_of_ble_eq_true rfl) rfl dX9_closesWith_32 (fun H locs hP hS => ?_)
  exact kr_v hok.2.2 C hlocks hr hP hS (Option.some.inj hf) dX9_closesWith_35
def f_X9_would_31_s2 (N : Nat) (w : Mem)  (v1 : Int32) (v2 : Int32) (v3 : Int32) (s0 : Int32) : Option (Mem × Int32) :=
  (Option.bind (f_X9_unless N w s0) (fun z3 => (Option.bind (f_X9_isRefused N w z3) (fun z5 => (if z5.2 = (0 : Int32) then
(Option.bind (f_X9_closesWith N z5.1 v1 v2) (fun z7 => (if v3 = (0 : Int32) then
(Option.bind (f_X9_groupsIn N z7 59) (fun z16 => some (z7, z16)))
else
(if v3 = (1 : Int32) then
(Option.bind (f_X9_clashIn N z7 59) (fun z13 => some (z7, z13)))
else
(Option.bind (f_X9_groupsIn N z7 52) (fun z9 => (Option.bind (f_X9_groupsIn N z7 59) (fun z11 => some (z7, (z9 - z11))))))))))
else
some (z5.1, (-1 : Int32)))))))
def f_X9_would (N : Nat) (w : Mem) (x1 : Int32) (x2 : Int32) (x3 : Int32) : Option (Mem × Int32) :=
  (Option.bind (f_X9_isTerm N w x1) (fun z1 => (if z1 = (0 : Int32) then
(f_X9_would_31_s2 N w  x1 x2 x3 (0 : Int32))
else
(Option.bind (f_X9_isTerm N w x2) (fun z20 => (if z20 = (0 : Int32) then
(f_X9_would_31_s2 N w  x1 x2 x3 (0 : Int32))
else
(Option.bind (f_X9_in N w x3 (0 : Int32) (2 : Int32)) (fun z22 => (if z22 = (0 : Int32) then
(f_X9_would_31_s2 N w  x1 x2 x3 (0 : Int32))
else
(f_X9_would_31_s2 N w  x1 x2 x3 (1 : Int32)))))))))))
set_option maxRecDepth 100000 in
set_option maxHeartbeats 4000000 in
theorem c_X9_would (l : Launch) (D : va_G) (ca : Nat → ClassId) (ad : Nat → Nat → Nat) (PL : List (Nat × Nat)) (Z : State → Prop) (A : Nat → Prop) (hok : okc bM Z A ad PL) (N : Nat) (w : Mem) (x1 : Int32) (x2 : Int32) (x3 : Int32) (w' : Mem) (r : Int32) (hf : f_X9_would N w x1 x2 x3 = some (w', r)) : CT l yX9_would (wsy yX9_would cX9_would 4 (some .int)) (rmk 4) D ca ad PL Z A [.ref (ad 9 0), .int x1, .int x2, .int x3] w w' (some (.int r)) := by
  refine Met.ofW (cc := cX9_would) (maxL := 4) (ret := (some .int)) (by decide +kernel) rfl ?_
  intro p e s m args below meth c s₁ B hml hv
  obtain ⟨rfl, hP, hK, hZ⟩ := hv
  have hx := B.exec
  have hb := B.bytes
  have hr := B.returns
  have hlocks := B.notSynchronized
  have hts : ∀ w ∈ ALL, w.before _ s = true := fun w hw => atoms_spec (ws := wsy yX9_would cX9_would 4 (some .int)) B.pre w (List.mem_cons_of_mem _ hw)
  have hown : s.vm.findClass RX9 = some m.cls := findClass_of_methodNamed B.named
  have C : CX p s m _ c cX9_would RX9 4 D ca Z := ⟨hx, hb, hml, hown, hts, hK, hZ⟩
  have hS : va_S A s.heap s.heap [] := va_S.rf
  have hl := lv_entry ([.ref (ad 9 0), .int x1, .int x2, .int x3]) (n := 4) (Nat.le_of_ble_eq_true rfl)
  rw [lg_entry_eq]
  generalize (lg_sl ([.ref (ad 9 0), .int x1, .int x2, .int x3]) ++ List.replicate (4 - (lg_sl ([.ref (ad 9 0), .int x1, .int x2, .int x3])).length) Slot.unset).toArray = ls at hl ⊢
  have hl : lv_has ls 4 [(0, .ref (ad 9 0)), (1, .int x1), (2, .int x2), (3, .int x3)] := hl
  show W p l e (rmk 4) s m _ below meth c s.heap [] 0 0 _ _
  have P_f_X9_would_31_s2 : ∀ (w : Mem) (v1 : Int32) (v2 : Int32) (v3 : Int32) (s0 : Int32), f_X9_would_31_s2 N w  v1 v2 v3 s0 = some (w', r) → WP p l e (rmk 4) s m [.ref (ad 9 0), .int x1, .int x2, .int x3].toArray below meth c D ca ad PL A (MQ below (qcR D ca ad PL Z A w' (some (.int r))) [.ref (ad 9 0), .int x1, .int x2, .int x3].toArray s 0 0 A) 4 31 [.int s0, .ref (ad 9 0)] [(0, .ref (ad 9 0)), (1, .int v1), (2, .int v2), (3, .int v3)] w := by
    intro w v1 v2 v3 s0 hf _ _ ls hP hS hl
    unfold f_X9_would_31_s2 at hf
    obtain ⟨z3, q4, hf⟩ := bsp hf
    refine kc_S (As := [.int s0]) (rest := [.ref (ad 9 0)]) hok.2.2 C hP hS hl.1 cw_X9_unless ml_X9_306 (c_X9_unless l D ca ad PL Z A hok N w s0 z3 q4) rfl ⟨rfl, rfl⟩ ⟨Nat.le_of_ble_eq_true rfl, Nat.le_of_ble_eq_true rfl⟩ ⟨Nat.zero_le _, Nat.zero_le _⟩ (Nat.le_of_ble_eq_true rfl) rfl dX9_would_31 (fun H locs hP hS => ?_)
    obtain ⟨z5, q6, hf⟩ := bsp hf
    refine kc_V (ci := 9) (i := 0) (As := [.int z3]) (rest := []) hok.2.2 C hP hS hl.1 (hok.2.1 9 0 (Nat.le_of_ble_eq_true rfl)) rfl rfl cw_X9_isRefused ml_X9_223 (c_X9_isRefused l D ca ad PL Z A hok N w z3 z5.1 z5.2 q6) rfl ⟨rfl, rfl⟩ ⟨Nat.le_of_ble_eq_true rfl, Nat.le_of_ble_eq_true rfl⟩ ⟨Nat.zero_le _, Nat.zero_le _⟩ (Nat.le_of_ble_eq_true rfl) rfl dX9_would_34 (fun H locs hP hS => ?_)
    refine lv_if_eq (tgt := 42) hx hb dX9_would_37 (by decide) (fun c19 => ?_) (fun c19 => ?_)
    · have hf := ifp hf c19
      refine lv_aload_n hx hb dX9_would_42 rfl (lv_at hl 0 rfl) ?_
      refine lv_iload_n hx hb dX9_would_43 rfl (lv_at hl 1 rfl) ?_
      refine lv_iload_n hx hb dX9_would_44 rfl (lv_at hl 2 rfl) ?_
      obtain ⟨z7, q8, hf⟩ := bsp hf
      refine kc_V (ci := 9) (i := 0) (As := [.int v1, .int v2]) (rest := []) hok.2.2 C hP hS hl.1 (hok.2.1 9 0 (Nat.le_of_ble_eq_true rfl)) rfl rfl cw_X9_closesWith ml_X9_372 (c_X9_closesWith l D ca ad PL Z A hok N z5.1 v1 v2 z7 q8) rfl ⟨rfl, rfl⟩ ⟨Nat.le_of_ble_eq_true rfl, Nat.le_of_ble_eq_true rfl⟩ ⟨Nat.zero_le _, Nat.zero_le _⟩ (Nat.le_of_ble_eq_true rfl) rfl dX9_would_45 (fun H locs hP hS => ?_)
      refine lv_iload_n hx hb dX9_would_48 rfl (lv_at hl 3 rfl) ?_
      refine lv_if_ne (tgt := 63) hx hb dX9_would_49 (by decide) (fun c18 => ?_) (fun c18 => ?_)
      · have hf := ifn hf c18
        refine lv_iload_n hx hb dX9_would_63 rfl (lv_at hl 3 rfl) ?_
        refine lv_iconst (v := (1 : Int32)) hx hb dX9_would_64 (by decide) ?_
        refine lv_icmp_ne (tgt := 79) hx hb dX9_would_65 (by decide) (fun c15 => ?_) (fun c15 => ?_)
        · have hf := ifn hf c15
          refine lv_aload_n hx hb dX9_would_79 rfl (lv_at hl 0 rfl) ?_
          refine lv_aload_n hx hb dX9_would_80 rfl (lv_at hl 0 rfl) ?_
          refine gt_9_36 (i := 0) C hP (hok.2.1 9 0 (Nat.le_of_ble_eq_true rfl)) lk_X9_50 dX9_would_81 ?_
          obtain ⟨z9, q10, hf⟩ := bsp hf
          refine kc_V (ci := 9) (i := 0) (As := [.ref (ad 52 0)]) (rest := []) hok.2.2 C hP hS hl.1 (hok.2.1 9 0 (Nat.le_of_ble_eq_true rfl)) rfl rfl cw_X9_groupsIn ml_X9_310 (c_X9_groupsIn l D ca ad PL Z A hok N z7 52 (Nat.le_of_ble_eq_true rfl) rfl rfl z9 q10) rfl ⟨rfl, rfl⟩ ⟨Nat.le_of_ble_eq_true rfl, Nat.le_of_ble_eq_true rfl⟩ ⟨Nat.zero_le _, Nat.zero_le _⟩ (Nat.le_of_ble_eq_true rfl) rfl dX9_would_84 (fun H locs hP hS => ?_)
          refine lv_aload_n hx hb dX9_would_87 rfl (lv_at hl 0 rfl) ?_
          refine lv_aload_n hx hb dX9_would_88 rfl (lv_at hl 0 rfl) ?_
          refine gt_9_44 (i := 0) C hP (hok.2.1 9 0 (Nat.le_of_ble_eq_true rfl)) lk_X9_71 dX9_would_89 ?_
          obtain ⟨z11, q12, hf⟩ := bsp hf
          refine kc_V (ci := 9) (i := 0) (As := [.ref (ad 59 0)]) (rest := [.int z9]) hok.2.2 C hP hS hl.1 (hok.2.1 9 0 (Nat.le_of_ble_eq_true rfl)) rfl rfl cw_X9_groupsIn ml_X9_310 (c_X9_groupsIn l D ca ad PL Z A hok N z7 59 (Nat.le_of_ble_eq_true rfl) rfl rfl z11 q12) rfl ⟨rfl, rfl⟩ ⟨Nat.le_of_ble_eq_true rfl, Nat.le_of_ble_eq_true rfl⟩ ⟨Nat.zero_le _, Nat.zero_le _⟩ (Nat.le_of_ble_eq_true rfl) rfl dX9_would_92 (fun H locs hP hS => ?_)
          refine lv_isub hx hb dX9_would_95 ?_
          exact kr_i hok.2.2 C hlocks hr rfl hP hS (congrArg Prod.fst (Option.some.inj hf)) (congrArg Prod.snd (Option.some.inj hf)) dX9_would_96
        · have hf := ifp hf c15
          refine lv_aload_n hx hb dX9_would_68 rfl (lv_at hl 0 rfl) ?_
          refine lv_aload_n hx hb dX9_would_69 rfl (lv_at hl 0 rfl) ?_
          refine gt_9_44 (i := 0) C hP (hok.2.1 9 0 (Nat.le_of_ble_eq_true rfl)) lk_X9_71 dX9_would_70 ?_
          obtain ⟨z13, q14, hf⟩ := bsp hf
          refine kc_V (ci := 9) (i := 0) (As := [.ref (ad 59 0)]) (rest := []) hok.2.2 C hP hS hl.1 (hok.2.1 9 0 (Nat.le_of_ble_eq_true rfl)) rfl rfl cw_X9_clashIn ml_X9_314 (c_X9_clashIn l D ca ad PL Z A hok N z7 59 (Nat.le_of_ble_eq_true rfl) rfl rfl z13 q14) rfl ⟨rfl, rfl⟩ ⟨Nat.le_of_ble_eq_true rfl, Nat.le_of_ble_eq_true rfl⟩ ⟨Nat.zero_le _, Nat.zero_le _⟩ (Nat.le_of_ble_eq_true rfl) rfl dX9_would_73 (fun H locs hP hS => ?_)
          refine lv_goto (tgt := 96) hx hb dX9_would_76 (by decide) ?_
          exact kr_i hok.2.2 C hlocks hr rfl hP hS (congrArg Prod.fst (Option.some.inj hf)) (congrArg Prod.snd (Option.some.inj hf)) dX9_would_96
      · have hf := ifp hf c18
        refine lv_aload_n hx hb dX9_would_52 rfl (lv_at hl 0 rfl) ?_
        refine lv_aload_n hx hb dX9_would_53 rfl (lv_at hl 0 rfl) ?_
        refine gt_9_44 (i := 0) C hP (hok.2.1 9 0 (Nat.le_of_ble_eq_true rfl)) lk_X9_71 dX9_would_54 ?_
        obtain ⟨z16, q17, hf⟩ := bsp hf
        refine kc_V (ci := 9) (i := 0) (As := [.ref (ad 59 0)]) (rest := []) hok.2.2 C hP hS hl.1 (hok.2.1 9 0 (Nat.le_of_ble_eq_true rfl)) rfl rfl cw_X9_groupsIn ml_X9_310 (c_X9_groupsIn l D ca ad PL Z A hok N z7 59 (Nat.le_of_ble_eq_true rfl) rfl rfl z16 q17) rfl ⟨rfl, rfl⟩ ⟨Nat.le_of_ble_eq_true rfl, Nat.le_of_ble_eq_true rfl⟩ ⟨Nat.zero_le _, Nat.zero_le _⟩ (Nat.le_of_ble_eq_true rfl) rfl dX9_would_57 (fun H locs hP hS => ?_)
        refine lv_goto (tgt := 96) hx hb dX9_would_60 (by decide) ?_
        exact kr_i hok.2.2 C hlocks hr rfl hP hS (congrArg Prod.fst (Option.some.inj hf)) (congrArg Prod.snd (Option.some.inj hf)) dX9_would_96
    · have hf := ifn hf c19
      refine lv_iconst (v := (-1 : Int32)) hx hb dX9_would_40 (by decide) ?_
      exact kr_i hok.2.2 C hlocks hr rfl hP hS (congrArg Prod.fst (Option.some.inj hf)) (congrArg Prod.snd (Option.some.inj hf)) dX9_would_41
  unfold f_X9_would at hf
  -- walk
  refine lv_aload_n hx hb dX9_would_0 rfl (lv_at hl 0 rfl) ?_
  refine lv_aload_n hx hb dX9_would_1 rfl (lv_at hl 0 rfl) ?_
  refine lv_iload_n hx hb dX9_would_2 rfl (lv_at hl 1 rfl) ?_
  obtain ⟨z1, q2, hf⟩ := bsp hf
  refine kc_V (ci := 9) (i := 0) (As := [.int x1]) (rest := [.ref (ad 9 0)]) hok.2.2 C hP hS hl.1 (hok.2.1 9 0 (Nat.le_of_ble_eq_true rfl)) rfl rfl cw_X9_isTerm ml_X9_317 (c_X9_isTerm l D ca ad PL Z A hok N w x1 z1 q2) rfl ⟨rfl, rfl⟩ ⟨Nat.le_of_ble_eq_true rfl, Nat.le_of_ble_eq_true rfl⟩ ⟨Nat.zero_le _, Nat.zero_le _⟩ (Nat.le_of_ble_eq_true rfl) rfl dX9_would_3 (fun H locs hP hS => ?_)
  refine lv_if_eq (tgt := 30) hx hb dX9_would_6 (by decide) (fun c26 => ?_) (fun c26 => ?_)
  · have hf := ifp hf c26
    refine lv_iconst (v := (0 : Int32)) hx hb dX9_would_30 (by decide) ?_
    exact P_f_X9_would_31_s2 w x1 x2 x3 (0 : Int32) hf _ _ ls hP hS (lv_sub hl [0, 1, 2, 3] rfl)
  · have hf := ifn hf c26
    refine lv_aload_n hx hb dX9_would_9 rfl (lv_at hl 0 rfl) ?_
    refine lv_iload_n hx hb dX9_would_10 rfl (lv_at hl 2 rfl) ?_
    obtain ⟨z20, q21, hf⟩ := bsp hf
    refine kc_V (ci := 9) (i := 0) (As := [.int x2]) (rest := [.ref (ad 9 0)]) hok.2.2 C hP hS hl.1 (hok.2.1 9 0 (Nat.le_of_ble_eq_true rfl)) rfl rfl cw_X9_isTerm ml_X9_317 (c_X9_isTerm l D ca ad PL Z A hok N w x2 z20 q21) rfl ⟨rfl, rfl⟩ ⟨Nat.le_of_ble_eq_true rfl, Nat.le_of_ble_eq_true rfl⟩ ⟨Nat.zero_le _, Nat.zero_le _⟩ (Nat.le_of_ble_eq_true rfl) rfl dX9_would_11 (fun H locs hP hS => ?_)
    refine lv_if_eq (tgt := 30) hx hb dX9_would_14 (by decide) (fun c25 => ?_) (fun c25 => ?_)
    · have hf := ifp hf c25
      refine lv_iconst (v := (0 : Int32)) hx hb dX9_would_30 (by decide) ?_
      exact P_f_X9_would_31_s2 w x1 x2 x3 (0 : Int32) hf _ _ ls hP hS (lv_sub hl [0, 1, 2, 3] rfl)
    · have hf := ifn hf c25
      refine lv_iload_n hx hb dX9_would_17 rfl (lv_at hl 3 rfl) ?_
      refine lv_iconst (v := (0 : Int32)) hx hb dX9_would_18 (by decide) ?_
      refine lv_iconst (v := (2 : Int32)) hx hb dX9_would_19 (by decide) ?_
      obtain ⟨z22, q23, hf⟩ := bsp hf
      refine kc_S (As := [.int x3, .int (0 : Int32), .int (2 : Int32)]) (rest := [.ref (ad 9 0)]) hok.2.2 C hP hS hl.1 cw_X9_in ml_X9_132 (c_X9_in l D ca ad PL Z A hok N w x3 (0 : Int32) (2 : Int32) z22 q23) rfl ⟨rfl, rfl⟩ ⟨Nat.le_of_ble_eq_true rfl, Nat.le_of_ble_eq_true rfl⟩ ⟨Nat.zero_le _, Nat.zero_le _⟩ (Nat.le_of_ble_eq_true rfl) rfl dX9_would_20 (fun H locs hP hS => ?_)
      refine lv_if_eq (tgt := 30) hx hb dX9_would_23 (by decide) (fun c24 => ?_) (fun c24 => ?_)
      · have hf := ifp hf c24
        refine lv_iconst (v := (0 : Int32)) hx hb dX9_would_30 (by decide) ?_
        exact P_f_X9_would_31_s2 w x1 x2 x3 (0 : Int32) hf _ _ ls hP hS (lv_sub hl [0, 1, 2, 3] rfl)
      · have hf := ifn hf c24
        refine lv_iconst (v := (1 : Int32)) hx hb dX9_would_26 (by decide) ?_
        refine lv_goto (tgt := 31) hx hb dX9_would_27 (by decide) ?_
        exact P_f_X9_would_31_s2 w x1 x2 x3 (1 : Int32) hf _ _ ls hP hS (lv_sub hl [0, 1, 2, 3] rfl)
def f_X9_nextJoin (N : Nat) (w : Mem) (x1 : Int32) (x2 : Int32) : Option (Mem) :=
  (if inb (gF w 9 55 0) 24 = true then (if inb (gF (sA w 67 0 (gF w 9 55 0).toNatClampNeg x1) 9 55 0) 24 = true then (Option.bind (f_X9_unites N (sF (sA (sA w 67 0 (gF w 9 55 0).toNatClampNeg x1) 68 0 (gF (sA w 67 0 (gF w 9 55 0).toNatClampNeg x1) 9 55 0).toNatClampNeg x2) 9 55 0 ((gF (sA (sA w 67 0 (gF w 9 55 0).toNatClampNeg x1) 68 0 (gF (sA w 67 0 (gF w 9 55 0).toNatClampNeg x1) 9 55 0).toNatClampNeg x2) 9 55 0) + (1 : Int32))) 59 x1 x2) (fun z3 => some z3)) else none) else none)
set_option maxRecDepth 100000 in
set_option maxHeartbeats 4000000 in
theorem c_X9_nextJoin (l : Launch) (D : va_G) (ca : Nat → ClassId) (ad : Nat → Nat → Nat) (PL : List (Nat × Nat)) (Z : State → Prop) (A : Nat → Prop) (hok : okc bM Z A ad PL) (N : Nat) (w : Mem) (x1 : Int32) (x2 : Int32) (w' : Mem) (hf : f_X9_nextJoin N w x1 x2 = some w') : CT l yX9_nextJoin (wsy yX9_nextJoin cX9_nextJoin 3 none) (rmk 1) D ca ad PL Z A [.ref (ad 9 0), .int x1, .int x2] w w' none := by
  refine Met.ofW (cc := cX9_nextJoin) (maxL := 3) (ret := none) (by decide +kernel) rfl ?_
  intro p e s m args below meth c s₁ B hml hv
  obtain ⟨rfl, hP, hK, hZ⟩ := hv
  have hx := B.exec
  have hb := B.bytes
  have hr := B.returns
  have hlocks := B.notSynchronized
  have hts : ∀ w ∈ ALL, w.before _ s = true := fun w hw => atoms_spec (ws := wsy yX9_nextJoin cX9_nextJoin 3 none) B.pre w (List.mem_cons_of_mem _ hw)
  have hown : s.vm.findClass RX9 = some m.cls := findClass_of_methodNamed B.named
  have C : CX p s m _ c cX9_nextJoin RX9 3 D ca Z := ⟨hx, hb, hml, hown, hts, hK, hZ⟩
  have hS : va_S A s.heap s.heap [] := va_S.rf
  have hl := lv_entry ([.ref (ad 9 0), .int x1, .int x2]) (n := 3) (Nat.le_of_ble_eq_true rfl)
  rw [lg_entry_eq]
  generalize (lg_sl ([.ref (ad 9 0), .int x1, .int x2]) ++ List.replicate (3 - (lg_sl ([.ref (ad 9 0), .int x1, .int x2])).length) Slot.unset).toArray = ls at hl ⊢
  have hl : lv_has ls 3 [(0, .ref (ad 9 0)), (1, .int x1), (2, .int x2)] := hl
  show W p l e (rmk 1) s m _ below meth c s.heap [] 0 0 _ _
  unfold f_X9_nextJoin at hf
  -- walk
  refine lv_aload_n hx hb dX9_nextJoin_0 rfl (lv_at hl 0 rfl) ?_
  refine gt_9_53 (i := 0) C hP (hok.2.1 9 0 (Nat.le_of_ble_eq_true rfl)) lk_X9_97 dX9_nextJoin_1 ?_
  refine lv_aload_n hx hb dX9_nextJoin_4 rfl (lv_at hl 0 rfl) ?_
  refine gt_9_55 (i := 0) C hP (hok.2.1 9 0 (Nat.le_of_ble_eq_true rfl)) lk_X9_375 dX9_nextJoin_5 ?_
  refine lv_iload_n hx hb dX9_nextJoin_8 rfl (lv_at hl 1 rfl) ?_
  obtain ⟨b1, hf⟩ := gsp hf
  refine ra_ist (k := 67) (i := 0) (n := 24) C hok.1 hP hS (hok.2.1 67 0 (Nat.le_of_ble_eq_true rfl)) (fun _ => rfl) b1 dX9_nextJoin_9 (fun H locs hP hS => ?_)
  refine lv_aload_n hx hb dX9_nextJoin_10 rfl (lv_at hl 0 rfl) ?_
  refine gt_9_54 (i := 0) C hP (hok.2.1 9 0 (Nat.le_of_ble_eq_true rfl)) lk_X9_100 dX9_nextJoin_11 ?_
  refine lv_aload_n hx hb dX9_nextJoin_14 rfl (lv_at hl 0 rfl) ?_
  refine gt_9_55 (i := 0) C hP (hok.2.1 9 0 (Nat.le_of_ble_eq_true rfl)) lk_X9_375 dX9_nextJoin_15 ?_
  refine lv_iload_n hx hb dX9_nextJoin_18 rfl (lv_at hl 2 rfl) ?_
  obtain ⟨b2, hf⟩ := gsp hf
  refine ra_ist (k := 68) (i := 0) (n := 24) C hok.1 hP hS (hok.2.1 68 0 (Nat.le_of_ble_eq_true rfl)) (fun _ => rfl) b2 dX9_nextJoin_19 (fun H locs hP hS => ?_)
  refine lv_aload_n hx hb dX9_nextJoin_20 rfl (lv_at hl 0 rfl) ?_
  refine lv_dup hx hb dX9_nextJoin_21 rfl ?_
  refine gt_9_55 (i := 0) C hP (hok.2.1 9 0 (Nat.le_of_ble_eq_true rfl)) lk_X9_375 dX9_nextJoin_22 ?_
  refine lv_iconst (v := (1 : Int32)) hx hb dX9_nextJoin_25 (by decide) ?_
  refine lv_iadd hx hb dX9_nextJoin_26 ?_
  refine pt_9_55 (i := 0) (v := ((gF (sA (sA w 67 0 (gF w 9 55 0).toNatClampNeg x1) 68 0 (gF (sA w 67 0 (gF w 9 55 0).toNatClampNeg x1) 9 55 0).toNatClampNeg x2) 9 55 0) + (1 : Int32))) C hok.1 hP hS (hok.2.1 9 0 (Nat.le_of_ble_eq_true rfl)) lk_X9_375 dX9_nextJoin_27 (fun H locs hP hS => ?_)
  refine lv_aload_n hx hb dX9_nextJoin_30 rfl (lv_at hl 0 rfl) ?_
  refine lv_aload_n hx hb dX9_nextJoin_31 rfl (lv_at hl 0 rfl) ?_
  refine gt_9_44 (i := 0) C hP (hok.2.1 9 0 (Nat.le_of_ble_eq_true rfl)) lk_X9_71 dX9_nextJoin_32 ?_
  refine lv_iload_n hx hb dX9_nextJoin_35 rfl (lv_at hl 1 rfl) ?_
  refine lv_iload_n hx hb dX9_nextJoin_36 rfl (lv_at hl 2 rfl) ?_
  obtain ⟨z3, q4, hf⟩ := bsp hf
  refine kc_V (ci := 9) (i := 0) (As := [.ref (ad 59 0), .int x1, .int x2]) (rest := []) hok.2.2 C hP hS hl.1 (hok.2.1 9 0 (Nat.le_of_ble_eq_true rfl)) rfl rfl cw_X9_unites ml_X9_269 (c_X9_unites l D ca ad PL Z A hok N (sF (sA (sA w 67 0 (gF w 9 55 0).toNatClampNeg x1) 68 0 (gF (sA w 67 0 (gF w 9 55 0).toNatClampNeg x1) 9 55 0).toNatClampNeg x2) 9 55 0 ((gF (sA (sA w 67 0 (gF w 9 55 0).toNatClampNeg x1) 68 0 (gF (sA w 67 0 (gF w 9 55 0).toNatClampNeg x1) 9 55 0).toNatClampNeg x2) 9 55 0) + (1 : Int32))) 59 (Nat.le_of_ble_eq_true rfl) rfl rfl x1 x2 z3 q4) rfl ⟨rfl, rfl⟩ ⟨Nat.le_of_ble_eq_true rfl, Nat.le_of_ble_eq_true rfl⟩ ⟨Nat.zero_le _, Nat.zero_le _⟩ (Nat.le_of_ble_eq_true rfl) rfl dX9_nextJoin_37 (fun H locs hP hS => ?_)
  exact kr_v hok.2.2 C hlocks hr hP hS (Option.some.inj hf) dX9_nextJoin_40
def f_X9_nextByParts_70 (N : Nat) (w : Mem)  : Option (Mem × Int32) :=
  some (w, (0 : Int32))
def f_X9_nextByParts_64_2 (rc : Int32 → Option (Mem × Int32)) (k : Option (Mem × Int32)) (N : Nat) (w : Mem)  (v1 : Int32) : Option (Mem × Int32) :=
  (rc (v1 + (1 : Int32)))
def lp_X9_nextByParts_14 (k : Option (Mem × Int32)) (N : Nat) (w : Mem)  (v1 : Int32) : Nat → Int32 → Option (Mem × Int32)
  | 0, _ => none
  | n + 1, v2 => (if (gF w 9 27 0) ≤ v2 then
(k )
else
(if inb v1 24 = true then (if inb v2 24 = true then (if (gA w 59 0 v1.toNatClampNeg) = (gA w 59 0 v2.toNatClampNeg) then
(lp_X9_nextByParts_14 k N w  v1 n (v2 + (1 : Int32)))
else
(Option.bind (f_X9_isAlike N w 59 v1 v2) (fun z5 => (if z5 = (0 : Int32) then
(lp_X9_nextByParts_14 k N w  v1 n (v2 + (1 : Int32)))
else
(Option.bind (f_X9_nextJoin N w v1 v2) (fun z7 => some (z7, (1 : Int32)))))))) else none) else none))
def lp_X9_nextByParts_2 (k : Option (Mem × Int32)) (N : Nat) (w : Mem)  : Nat → Int32 → Option (Mem × Int32)
  | 0, _ => none
  | n + 1, v1 => (if (gF w 9 27 0) ≤ v1 then
(k )
else
(lp_X9_nextByParts_14 (f_X9_nextByParts_64_2 (fun (v1 : Int32) => lp_X9_nextByParts_2 k N w   n v1) k N w  v1 ) N w  v1 N (v1 + (1 : Int32))))
def f_X9_nextByParts (N : Nat) (w : Mem)  : Option (Mem × Int32) :=
  (lp_X9_nextByParts_2 (f_X9_nextByParts_70 N w   ) N w   N (0 : Int32))
set_option maxRecDepth 100000 in
set_option maxHeartbeats 4000000 in
theorem c_X9_nextByParts (l : Launch) (D : va_G) (ca : Nat → ClassId) (ad : Nat → Nat → Nat) (PL : List (Nat × Nat)) (Z : State → Prop) (A : Nat → Prop) (hok : okc bM Z A ad PL) (N : Nat) (w : Mem)  (w' : Mem) (r : Int32) (hf : f_X9_nextByParts N w  = some (w', r)) : CT l yX9_nextByParts (wsy yX9_nextByParts cX9_nextByParts 3 (some .boolean)) (rmk 2) D ca ad PL Z A [.ref (ad 9 0)] w w' (some (.int r)) := by
  refine Met.ofW (cc := cX9_nextByParts) (maxL := 3) (ret := (some .boolean)) (by decide +kernel) rfl ?_
  intro p e s m args below meth c s₁ B hml hv
  obtain ⟨rfl, hP, hK, hZ⟩ := hv
  have hx := B.exec
  have hb := B.bytes
  have hr := B.returns
  have hlocks := B.notSynchronized
  have hts : ∀ w ∈ ALL, w.before _ s = true := fun w hw => atoms_spec (ws := wsy yX9_nextByParts cX9_nextByParts 3 (some .boolean)) B.pre w (List.mem_cons_of_mem _ hw)
  have hown : s.vm.findClass RX9 = some m.cls := findClass_of_methodNamed B.named
  have C : CX p s m _ c cX9_nextByParts RX9 3 D ca Z := ⟨hx, hb, hml, hown, hts, hK, hZ⟩
  have hS : va_S A s.heap s.heap [] := va_S.rf
  have hl := lv_entry ([.ref (ad 9 0)]) (n := 3) (Nat.le_of_ble_eq_true rfl)
  rw [lg_entry_eq]
  generalize (lg_sl ([.ref (ad 9 0)]) ++ List.replicate (3 - (lg_sl ([.ref (ad 9 0)])).length) Slot.unset).toArray = ls at hl ⊢
  have hl : lv_has ls 3 [(0, .ref (ad 9 0))] := hl
  show W p l e (rmk 2) s m _ below meth c s.heap [] 0 0 _ _
  have P_f_X9_nextByParts_70 : ∀ (w : Mem), f_X9_nextByParts_70 N w    = some (w', r) → WP p l e (rmk 2) s m [.ref (ad 9 0)].toArray below meth c D ca ad PL A (MQ below (qcR D ca ad PL Z A w' (some (.int r))) [.ref (ad 9 0)].toArray s 0 0 A) 3 70 [] [] w := by
    intro w hf _ _ ls hP hS hl
    unfold f_X9_nextByParts_70 at hf
    refine lv_iconst (v := (0 : Int32)) hx hb dX9_nextByParts_70 (by decide) ?_
    exact kr_i hok.2.2 C hlocks hr rfl hP hS (congrArg Prod.fst (Option.some.inj hf)) (congrArg Prod.snd (Option.some.inj hf)) dX9_nextByParts_71
  have P_f_X9_nextByParts_64_2 : ∀ (w : Mem) (rc : Int32 → Option (Mem × Int32)) (hrc : ∀ (v1 : Int32), rc v1 = some (w', r) → WP p l e (rmk 2) s m [.ref (ad 9 0)].toArray below meth c D ca ad PL A (MQ below (qcR D ca ad PL Z A w' (some (.int r))) [.ref (ad 9 0)].toArray s 0 0 A) 3 2 [] [(0, .ref (ad 9 0)), (1, .int v1)] w) (k : Option (Mem × Int32)) (hk : k = some (w', r) → WP p l e (rmk 2) s m [.ref (ad 9 0)].toArray below meth c D ca ad PL A (MQ below (qcR D ca ad PL Z A w' (some (.int r))) [.ref (ad 9 0)].toArray s 0 0 A) 3 70 [] [] w) (v1 : Int32), f_X9_nextByParts_64_2 rc k N w  v1  = some (w', r) → WP p l e (rmk 2) s m [.ref (ad 9 0)].toArray below meth c D ca ad PL A (MQ below (qcR D ca ad PL Z A w' (some (.int r))) [.ref (ad 9 0)].toArray s 0 0 A) 3 64 [] [(0, .ref (ad 9 0)), (1, .int v1)] w := by
    intro w rc hrc k hk v1 hf _ _ ls hP hS hl
    unfold f_X9_nextByParts_64_2 at hf
    refine lv_iinc (v := (v1 + (1 : Int32))) (lv' := [(1, .int (v1 + (1 : Int32))), (0, .ref (ad 9 0))]) hx hb dX9_nextByParts_64 hl (k := 1) rfl rfl (by decide) rfl (fun ls hl => ?_)
    refine lv_goto (tgt := 2) hx hb dX9_nextByParts_67 (by decide) ?_
    exact hrc (v1 + (1 : Int32)) hf _ _ ls hP hS (lv_sub hl [1, 0] rfl)
  have L_lp_X9_nextByParts_14 : ∀ (w : Mem) (v1 : Int32) (k : Option (Mem × Int32)) (hk : k = some (w', r) → WP p l e (rmk 2) s m [.ref (ad 9 0)].toArray below meth c D ca ad PL A (MQ below (qcR D ca ad PL Z A w' (some (.int r))) [.ref (ad 9 0)].toArray s 0 0 A) 3 64 [] [(0, .ref (ad 9 0)), (1, .int v1)] w) (n : Nat) (v2 : Int32), lp_X9_nextByParts_14 k N w  v1 n v2 = some (w', r) → WP p l e (rmk 2) s m [.ref (ad 9 0)].toArray below meth c D ca ad PL A (MQ below (qcR D ca ad PL Z A w' (some (.int r))) [.ref (ad 9 0)].toArray s 0 0 A) 3 14 [] [(0, .ref (ad 9 0)), (1, .int v1), (2, .int v2)] w := by
    intro w v1 k hk n
    induction n with
    | zero => intro v2 hf; rw [lp_X9_nextByParts_14] at hf; cases hf
    | succ n ih =>
      intro v2 hf _ _ ls hP hS hl
      rw [lp_X9_nextByParts_14] at hf
      refine lv_iload_n hx hb dX9_nextByParts_14 rfl (lv_at hl 2 rfl) ?_
      refine lv_aload_n hx hb dX9_nextByParts_15 rfl (lv_at hl 0 rfl) ?_
      refine gt_9_27 (i := 0) C hP (hok.2.1 9 0 (Nat.le_of_ble_eq_true rfl)) lk_X9_250 dX9_nextByParts_16 ?_
      refine lv_icmp_ge (tgt := 64) hx hb dX9_nextByParts_19 (by decide) (fun c11 => ?_) (fun c11 => ?_)
      · have hf := ifp hf c11
        exact hk  hf _ _ ls hP hS (lv_sub hl [0, 1] rfl)
      · have hf := ifn hf c11
        refine lv_aload_n hx hb dX9_nextByParts_22 rfl (lv_at hl 0 rfl) ?_
        refine gt_9_44 (i := 0) C hP (hok.2.1 9 0 (Nat.le_of_ble_eq_true rfl)) lk_X9_71 dX9_nextByParts_23 ?_
        refine lv_iload_n hx hb dX9_nextByParts_26 rfl (lv_at hl 1 rfl) ?_
        obtain ⟨b3, hf⟩ := gsp hf
        refine ra_ild (k := 59) (i := 0) (n := 24) (f := (gA w 59 0)) C hP (hok.2.1 59 0 (Nat.le_of_ble_eq_true rfl)) rfl b3 dX9_nextByParts_27 ?_
        refine lv_aload_n hx hb dX9_nextByParts_28 rfl (lv_at hl 0 rfl) ?_
        refine gt_9_44 (i := 0) C hP (hok.2.1 9 0 (Nat.le_of_ble_eq_true rfl)) lk_X9_71 dX9_nextByParts_29 ?_
        refine lv_iload_n hx hb dX9_nextByParts_32 rfl (lv_at hl 2 rfl) ?_
        obtain ⟨b4, hf⟩ := gsp hf
        refine ra_ild (k := 59) (i := 0) (n := 24) (f := (gA w 59 0)) C hP (hok.2.1 59 0 (Nat.le_of_ble_eq_true rfl)) rfl b4 dX9_nextByParts_33 ?_
        refine lv_icmp_eq (tgt := 58) hx hb dX9_nextByParts_34 (by decide) (fun c10 => ?_) (fun c10 => ?_)
        · have hf := ifp hf c10
          refine lv_iinc (v := (v2 + (1 : Int32))) (lv' := [(2, .int (v2 + (1 : Int32))), (0, .ref (ad 9 0)), (1, .int v1)]) hx hb dX9_nextByParts_58 hl (k := 2) rfl rfl (by decide) rfl (fun ls hl => ?_)
          refine lv_goto (tgt := 14) hx hb dX9_nextByParts_61 (by decide) ?_
          exact ih (v2 + (1 : Int32)) hf _ _ ls hP hS (lv_sub hl [1, 2, 0] rfl)
        · have hf := ifn hf c10
          refine lv_aload_n hx hb dX9_nextByParts_37 rfl (lv_at hl 0 rfl) ?_
          refine lv_aload_n hx hb dX9_nextByParts_38 rfl (lv_at hl 0 rfl) ?_
          refine gt_9_44 (i := 0) C hP (hok.2.1 9 0 (Nat.le_of_ble_eq_true rfl)) lk_X9_71 dX9_nextByParts_39 ?_
          refine lv_iload_n hx hb dX9_nextByParts_42 rfl (lv_at hl 1 rfl) ?_
          refine lv_iload_n hx hb dX9_nextByParts_43 rfl (lv_at hl 2 rfl) ?_
          obtain ⟨z5, q6, hf⟩ := bsp hf
          refine kc_V (ci := 9) (i := 0) (As := [.ref (ad 59 0), .int v1, .int v2]) (rest := []) hok.2.2 C hP hS hl.1 (hok.2.1 9 0 (Nat.le_of_ble_eq_true rfl)) rfl rfl cw_X9_isAlike ml_X9_273 (c_X9_isAlike l D ca ad PL Z A hok N w 59 (Nat.le_of_ble_eq_true rfl) rfl rfl v1 v2 z5 q6) rfl ⟨rfl, rfl⟩ ⟨Nat.le_of_ble_eq_true rfl, Nat.le_of_ble_eq_true rfl⟩ ⟨Nat.zero_le _, Nat.zero_le _⟩ (Nat.le_of_ble_eq_true rfl) rfl dX9_nextByParts_44 (fun H locs hP hS => ?_)
          refine lv_if_eq (tgt := 58) hx hb dX9_nextByParts_47 (by decide) (fun c9 => ?_) (fun c9 => ?_)
          · have hf := ifp hf c9
            refine lv_iinc (v := (v2 + (1 : Int32))) (lv' := [(2, .int (v2 + (1 : Int32))), (0, .ref (ad 9 0)), (1, .int v1)]) hx hb dX9_nextByParts_58 hl (k := 2) rfl rfl (by decide) rfl (fun ls hl => ?_)
            refine lv_goto (tgt := 14) hx hb dX9_nextByParts_61 (by decide) ?_
            exact ih (v2 + (1 : Int32)) hf _ _ ls hP hS (lv_sub hl [1, 2, 0] rfl)
          · have hf := ifn hf c9
            refine lv_aload_n hx hb dX9_nextByParts_50 rfl (lv_at hl 0 rfl) ?_
            refine lv_iload_n hx hb dX9_nextByParts_51 rfl (lv_at hl 1 rfl) ?_
            refine lv_iload_n hx hb dX9_nextByParts_52 rfl (lv_at hl 2 rfl) ?_
            obtain ⟨z7, q8, hf⟩ := bsp hf
            refine kc_V (ci := 9) (i := 0) (As := [.int v1, .int v2]) (rest := []) hok.2.2 C hP hS hl.1 (hok.2.1 9 0 (Nat.le_of_ble_eq_true rfl)) rfl rfl cw_X9_nextJoin ml_X9_378 (c_X9_nextJoin l D ca ad PL Z A hok N w v1 v2 z7 q8) rfl ⟨rfl, rfl⟩ ⟨Nat.le_of_ble_eq_true rfl, Nat.le_of_ble_eq_true rfl⟩ ⟨Nat.zero_le _, Nat.zero_le _⟩ (Nat.le_of_ble_eq_true rfl) rfl dX9_nextByParts_53 (fun H locs hP hS => ?_)
            refine lv_iconst (v := (1 : Int32)) hx hb dX9_nextByParts_56 (by decide) ?_
            exact kr_i hok.2.2 C hlocks hr rfl hP hS (congrArg Prod.fst (Option.some.inj hf)) (congrArg Prod.snd (Option.some.inj hf)) dX9_nextByParts_57
  have L_lp_X9_nextByParts_2 : ∀ (w : Mem) (k : Option (Mem × Int32)) (hk : k = some (w', r) → WP p l e (rmk 2) s m [.ref (ad 9 0)].toArray below meth c D ca ad PL A (MQ below (qcR D ca ad PL Z A w' (some (.int r))) [.ref (ad 9 0)].toArray s 0 0 A) 3 70 [] [] w) (n : Nat) (v1 : Int32), lp_X9_nextByParts_2 k N w   n v1 = some (w', r) → WP p l e (rmk 2) s m [.ref (ad 9 0)].toArray below meth c D ca ad PL A (MQ below (qcR D ca ad PL Z A w' (some (.int r))) [.ref (ad 9 0)].toArray s 0 0 A) 3 2 [] [(0, .ref (ad 9 0)), (1, .int v1)] w := by
    intro w k hk n
    induction n with
    | zero => intro v1 hf; rw [lp_X9_nextByParts_2] at hf; cases hf
    | succ n ih =>
      intro v1 hf _ _ ls hP hS hl
      rw [lp_X9_nextByParts_2] at hf
      refine lv_iload_n hx hb dX9_nextByParts_2 rfl (lv_at hl 1 rfl) ?_
      refine lv_aload_n hx hb dX9_nextByParts_3 rfl (lv_at hl 0 rfl) ?_
      refine gt_9_27 (i := 0) C hP (hok.2.1 9 0 (Nat.le_of_ble_eq_true rfl)) lk_X9_250 dX9_nextByParts_4 ?_
      refine lv_icmp_ge (tgt := 70) hx hb dX9_nextByParts_7 (by decide) (fun c12 => ?_) (fun c12 => ?_)
      · have hf := ifp hf c12
        exact hk  hf _ _ ls hP hS (lv_sub hl [] rfl)
      · have hf := ifn hf c12
        refine lv_iload_n hx hb dX9_nextByParts_10 rfl (lv_at hl 1 rfl) ?_
        refine lv_iconst (v := (1 : Int32)) hx hb dX9_nextByParts_11 (by decide) ?_
        refine lv_iadd hx hb dX9_nextByParts_12 ?_
        refine lv_istore_n (lv' := [(2, .int (v1 + (1 : Int32))), (0, .ref (ad 9 0)), (1, .int v1)]) hx hb dX9_nextByParts_13 rfl hl (by decide) rfl (fun ls hl => ?_)
        exact L_lp_X9_nextByParts_14 w v1 _ (fun hf H locs ls hP hS hl => P_f_X9_nextByParts_64_2 w _ ih _ hk v1 hf _ _ ls hP hS (lv_sub hl [0, 1] rfl)) N (v1 + (1 : Int32)) hf _ _ ls hP hS (lv_sub hl [1, 2, 0] rfl)
  unfold f_X9_nextByParts at hf
  -- walk
  refine lv_iconst (v := (0 : Int32)) hx hb dX9_nextByParts_0 (by decide) ?_
  refine lv_istore_n (lv' := [(1, .int (0 : Int32)), (0, .ref (ad 9 0))]) hx hb dX9_nextByParts_1 rfl hl (by decide) rfl (fun ls hl => ?_)
  exact L_lp_X9_nextByParts_2 w _ (fun hf H locs ls hP hS hl => P_f_X9_nextByParts_70 w hf _ _ ls hP hS (lv_sub hl [] rfl)) N (0 : Int32) hf _ _ ls hP hS (lv_sub hl [1, 0] rfl)
def f_X9_laysNext_69 (N : Nat) (w : Mem)  : Option (Mem) :=
  some w
def lp_X9_laysNext_57 (k : Mem → Option (Mem)) (N : Nat)  : Nat → Mem → Int32 → Option (Mem)
  | 0, _, _ => none
  | n + 1, w, v3 => (if v3 = (0 : Int32) then
(k w)
else
(Option.bind (f_X9_nextByParts N w ) (fun z7 => (lp_X9_laysNext_57 k N    n z7.1 z7.2))))
def f_X9_laysNext_28 (N : Nat) (w : Mem)  (v1 : Int32) (v2 : Int32) : Option (Mem) :=
  (if inb v1 24 = true then (if inb v2 24 = true then (if (gA (sF w 9 55 0 (0 : Int32)) 59 0 v1.toNatClampNeg) = (gA (sF w 9 55 0 (0 : Int32)) 59 0 v2.toNatClampNeg) then
some (sF w 9 55 0 (0 : Int32))
else
(Option.bind (f_X9_nextJoin N (sF w 9 55 0 (0 : Int32)) v1 v2) (fun z4 => (lp_X9_laysNext_57 (fun (w_6 : Mem) => (f_X9_laysNext_69 N w_6   )) N    N z4 (1 : Int32))))) else none) else none)
def lp_X9_laysNext_2 (k : Mem → Option (Mem)) (N : Nat)  (v1 : Int32) (v2 : Int32) : Nat → Mem → Int32 → Option (Mem)
  | 0, _, _ => none
  | n + 1, w, v3 => (if (gF w 9 27 0) ≤ v3 then
(k w)
else
(if inb v3 24 = true then (lp_X9_laysNext_2 k N   v1 v2 n (sA w 59 0 v3.toNatClampNeg (gA w 52 0 v3.toNatClampNeg)) (v3 + (1 : Int32))) else none))
def f_X9_laysNext (N : Nat) (w : Mem) (x1 : Int32) (x2 : Int32) : Option (Mem) :=
  (lp_X9_laysNext_2 (fun (w_1 : Mem) => (f_X9_laysNext_28 N w_1  x1 x2 )) N   x1 x2 N w (0 : Int32))
set_option maxRecDepth 100000 in
set_option maxHeartbeats 4000000 in
theorem c_X9_laysNext (l : Launch) (D : va_G) (ca : Nat → ClassId) (ad : Nat → Nat → Nat) (PL : List (Nat × Nat)) (Z : State → Prop) (A : Nat → Prop) (hok : okc bM Z A ad PL) (N : Nat) (w : Mem) (x1 : Int32) (x2 : Int32) (w' : Mem) (hf : f_X9_laysNext N w x1 x2 = some w') : CT l yX9_laysNext (wsy yX9_laysNext cX9_laysNext 4 none) (rmk 3) D ca ad PL Z A [.ref (ad 9 0), .int x1, .int x2] w w' none := by
  refine Met.ofW (cc := cX9_laysNext) (maxL := 4) (ret := none) (by decide +kernel) rfl ?_
  intro p e s m args below meth c s₁ B hml hv
  obtain ⟨rfl, hP, hK, hZ⟩ := hv
  have hx := B.exec
  have hb := B.bytes
  have hr := B.returns
  have hlocks := B.notSynchronized
  have hts : ∀ w ∈ ALL, w.before _ s = true := fun w hw => atoms_spec (ws := wsy yX9_laysNext cX9_laysNext 4 none) B.pre w (List.mem_cons_of_mem _ hw)
  have hown : s.vm.findClass RX9 = some m.cls := findClass_of_methodNamed B.named
  have C : CX p s m _ c cX9_laysNext RX9 4 D ca Z := ⟨hx, hb, hml, hown, hts, hK, hZ⟩
  have hS : va_S A s.heap s.heap [] := va_S.rf
  have hl := lv_entry ([.ref (ad 9 0), .int x1, .int x2]) (n := 4) (Nat.le_of_ble_eq_true rfl)
  rw [lg_entry_eq]
  generalize (lg_sl ([.ref (ad 9 0), .int x1, .int x2]) ++ List.replicate (4 - (lg_sl ([.ref (ad 9 0), .int x1, .int x2])).length) Slot.unset).toArray = ls at hl ⊢
  have hl : lv_has ls 4 [(0, .ref (ad 9 0)), (1, .int x1), (2, .int x2)] := hl
  show W p l e (rmk 3) s m _ below meth c s.heap [] 0 0 _ _
  have P_f_X9_laysNext_69 : ∀ (w : Mem), f_X9_laysNext_69 N w    = some w' → WP p l e (rmk 3) s m [.ref (ad 9 0), .int x1, .int x2].toArray below meth c D ca ad PL A (MQ below (qcR D ca ad PL Z A w' none) [.ref (ad 9 0), .int x1, .int x2].toArray s 0 0 A) 4 69 [] [] w := by
    intro w hf _ _ ls hP hS hl
    unfold f_X9_laysNext_69 at hf
    exact kr_v hok.2.2 C hlocks hr hP hS (Option.some.inj hf) dX9_laysNext_69
  have L_lp_X9_laysNext_57 : ∀ (k : Mem → Option (Mem)) (hk : ∀ (w : Mem), k w = some w' → WP p l e (rmk 3) s m [.ref (ad 9 0), .int x1, .int x2].toArray below meth c D ca ad PL A (MQ below (qcR D ca ad PL Z A w' none) [.ref (ad 9 0), .int x1, .int x2].toArray s 0 0 A) 4 69 [] [] w) (n : Nat) (w : Mem) (v3 : Int32), lp_X9_laysNext_57 k N    n w v3 = some w' → WP p l e (rmk 3) s m [.ref (ad 9 0), .int x1, .int x2].toArray below meth c D ca ad PL A (MQ below (qcR D ca ad PL Z A w' none) [.ref (ad 9 0), .int x1, .int x2].toArray s 0 0 A) 4 57 [] [(0, .ref (ad 9 0)), (3, .int v3)] w := by
    intro k hk n
    induction n with
    | zero => intro w v3 hf; rw [lp_X9_laysNext_57] at hf; cases hf
    | succ n ih =>
      intro w v3 hf _ _ ls hP hS hl
      rw [lp_X9_laysNext_57] at hf
      refine lv_iload_n hx hb dX9_laysNext_57 rfl (lv_at hl 1 rfl) ?_
      refine lv_if_eq (tgt := 69) hx hb dX9_laysNext_58 (by decide) (fun c9 => ?_) (fun c9 => ?_)
      · have hf := ifp hf c9
        exact hk w hf _ _ ls hP hS (lv_sub hl [] rfl)
      · have hf := ifn hf c9
        refine lv_aload_n hx hb dX9_laysNext_61 rfl (lv_at hl 0 rfl) ?_
        obtain ⟨z7, q8, hf⟩ := bsp hf
        refine kc_V (ci := 9) (i := 0) (As := []) (rest := []) hok.2.2 C hP hS hl.1 (hok.2.1 9 0 (Nat.le_of_ble_eq_true rfl)) rfl rfl cw_X9_nextByParts ml_X9_381 (c_X9_nextByParts l D ca ad PL Z A hok N w  z7.1 z7.2 q8) rfl ⟨rfl, rfl⟩ ⟨Nat.le_of_ble_eq_true rfl, Nat.le_of_ble_eq_true rfl⟩ ⟨Nat.zero_le _, Nat.zero_le _⟩ (Nat.le_of_ble_eq_true rfl) rfl dX9_laysNext_62 (fun H locs hP hS => ?_)
        refine lv_istore_n (lv' := [(3, .int z7.2), (0, .ref (ad 9 0))]) hx hb dX9_laysNext_65 rfl hl (by decide) rfl (fun ls hl => ?_)
        refine lv_goto (tgt := 57) hx hb dX9_laysNext_66 (by decide) ?_
        exact ih z7.1 z7.2 hf _ _ ls hP hS (lv_sub hl [1, 0] rfl)
  have P_f_X9_laysNext_28 : ∀ (w : Mem) (v1 : Int32) (v2 : Int32), f_X9_laysNext_28 N w  v1 v2  = some w' → WP p l e (rmk 3) s m [.ref (ad 9 0), .int x1, .int x2].toArray below meth c D ca ad PL A (MQ below (qcR D ca ad PL Z A w' none) [.ref (ad 9 0), .int x1, .int x2].toArray s 0 0 A) 4 28 [] [(0, .ref (ad 9 0)), (1, .int v1), (2, .int v2)] w := by
    intro w v1 v2 hf _ _ ls hP hS hl
    unfold f_X9_laysNext_28 at hf
    refine lv_aload_n hx hb dX9_laysNext_28 rfl (lv_at hl 0 rfl) ?_
    refine lv_iconst (v := (0 : Int32)) hx hb dX9_laysNext_29 (by decide) ?_
    refine pt_9_55 (i := 0) (v := (0 : Int32)) C hok.1 hP hS (hok.2.1 9 0 (Nat.le_of_ble_eq_true rfl)) lk_X9_375 dX9_laysNext_30 (fun H locs hP hS => ?_)
    refine lv_aload_n hx hb dX9_laysNext_33 rfl (lv_at hl 0 rfl) ?_
    refine gt_9_44 (i := 0) C hP (hok.2.1 9 0 (Nat.le_of_ble_eq_true rfl)) lk_X9_71 dX9_laysNext_34 ?_
    refine lv_iload_n hx hb dX9_laysNext_37 rfl (lv_at hl 1 rfl) ?_
    obtain ⟨b2, hf⟩ := gsp hf
    refine ra_ild (k := 59) (i := 0) (n := 24) (f := (gA (sF w 9 55 0 (0 : Int32)) 59 0)) C hP (hok.2.1 59 0 (Nat.le_of_ble_eq_true rfl)) rfl b2 dX9_laysNext_38 ?_
    refine lv_aload_n hx hb dX9_laysNext_39 rfl (lv_at hl 0 rfl) ?_
    refine gt_9_44 (i := 0) C hP (hok.2.1 9 0 (Nat.le_of_ble_eq_true rfl)) lk_X9_71 dX9_laysNext_40 ?_
    refine lv_iload_n hx hb dX9_laysNext_43 rfl (lv_at hl 2 rfl) ?_
    obtain ⟨b3, hf⟩ := gsp hf
    refine ra_ild (k := 59) (i := 0) (n := 24) (f := (gA (sF w 9 55 0 (0 : Int32)) 59 0)) C hP (hok.2.1 59 0 (Nat.le_of_ble_eq_true rfl)) rfl b3 dX9_laysNext_44 ?_
    refine lv_icmp_ne (tgt := 49) hx hb dX9_laysNext_45 (by decide) (fun c10 => ?_) (fun c10 => ?_)
    · have hf := ifn hf c10
      refine lv_aload_n hx hb dX9_laysNext_49 rfl (lv_at hl 0 rfl) ?_
      refine lv_iload_n hx hb dX9_laysNext_50 rfl (lv_at hl 1 rfl) ?_
      refine lv_iload_n hx hb dX9_laysNext_51 rfl (lv_at hl 2 rfl) ?_
      obtain ⟨z4, q5, hf⟩ := bsp hf
      refine kc_V (ci := 9) (i := 0) (As := [.int v1, .int v2]) (rest := []) hok.2.2 C hP hS hl.1 (hok.2.1 9 0 (Nat.le_of_ble_eq_true rfl)) rfl rfl cw_X9_nextJoin ml_X9_378 (c_X9_nextJoin l D ca ad PL Z A hok N (sF w 9 55 0 (0 : Int32)) v1 v2 z4 q5) rfl ⟨rfl, rfl⟩ ⟨Nat.le_of_ble_eq_true rfl, Nat.le_of_ble_eq_true rfl⟩ ⟨Nat.zero_le _, Nat.zero_le _⟩ (Nat.le_of_ble_eq_true rfl) rfl dX9_laysNext_52 (fun H locs hP hS => ?_)
      refine lv_iconst (v := (1 : Int32)) hx hb dX9_laysNext_55 (by decide) ?_
      refine lv_istore_n (lv' := [(3, .int (1 : Int32)), (0, .ref (ad 9 0)), (1, .int v1), (2, .int v2)]) hx hb dX9_laysNext_56 rfl hl (by decide) rfl (fun ls hl => ?_)
      exact L_lp_X9_laysNext_57 _ (fun w_6 hf H locs ls hP hS hl => P_f_X9_laysNext_69 w_6 hf _ _ ls hP hS (lv_sub hl [] rfl)) N z4 (1 : Int32) hf _ _ ls hP hS (lv_sub hl [1, 0] rfl)
    · have hf := ifp hf c10
      exact kr_v hok.2.2 C hlocks hr hP hS (Option.some.inj hf) dX9_laysNext_48
  have L_lp_X9_laysNext_2 : ∀ (v1 : Int32) (v2 : Int32) (k : Mem → Option (Mem)) (hk : ∀ (w : Mem), k w = some w' → WP p l e (rmk 3) s m [.ref (ad 9 0), .int x1, .int x2].toArray below meth c D ca ad PL A (MQ below (qcR D ca ad PL Z A w' none) [.ref (ad 9 0), .int x1, .int x2].toArray s 0 0 A) 4 28 [] [(0, .ref (ad 9 0)), (1, .int v1), (2, .int v2)] w) (n : Nat) (w : Mem) (v3 : Int32), lp_X9_laysNext_2 k N   v1 v2 n w v3 = some w' → WP p l e (rmk 3) s m [.ref (ad 9 0), .int x1, .int x2].toArray below meth c D ca ad PL A (MQ below (qcR D ca ad PL Z A w' none) [.ref (ad 9 0), .int x1, .int x2].toArray s 0 0 A) 4 2 [] [(0, .ref (ad 9 0)), (1, .int v1), (2, .int v2), (3, .int v3)] w := by
    intro v1 v2 k hk n
    induction n with
    | zero => intro w v3 hf; rw [lp_X9_laysNext_2] at hf; cases hf
    | succ n ih =>
      intro w v3 hf _ _ ls hP hS hl
      rw [lp_X9_laysNext_2] at hf
      refine lv_iload_n hx hb dX9_laysNext_2 rfl (lv_at hl 3 rfl) ?_
      refine lv_aload_n hx hb dX9_laysNext_3 rfl (lv_at hl 0 rfl) ?_
      refine gt_9_27 (i := 0) C hP (hok.2.1 9 0 (Nat.le_of_ble_eq_true rfl)) lk_X9_250 dX9_laysNext_4 ?_
      refine lv_icmp_ge (tgt := 28) hx hb dX9_laysNext_7 (by decide) (fun c12 => ?_) (fun c12 => ?_)
      · have hf := ifp hf c12
        exact hk w hf _ _ ls hP hS (lv_sub hl [0, 1, 2] rfl)
      · have hf := ifn hf c12
        refine lv_aload_n hx hb dX9_laysNext_10 rfl (lv_at hl 0 rfl) ?_
        refine gt_9_44 (i := 0) C hP (hok.2.1 9 0 (Nat.le_of_ble_eq_true rfl)) lk_X9_71 dX9_laysNext_11 ?_
        refine lv_iload_n hx hb dX9_laysNext_14 rfl (lv_at hl 3 rfl) ?_
        refine lv_aload_n hx hb dX9_laysNext_15 rfl (lv_at hl 0 rfl) ?_
        refine gt_9_36 (i := 0) C hP (hok.2.1 9 0 (Nat.le_of_ble_eq_true rfl)) lk_X9_50 dX9_laysNext_16 ?_
        refine lv_iload_n hx hb dX9_laysNext_19 rfl (lv_at hl 3 rfl) ?_
        obtain ⟨b11, hf⟩ := gsp hf
        refine ra_ild (k := 52) (i := 0) (n := 24) (f := (gA w 52 0)) C hP (hok.2.1 52 0 (Nat.le_of_ble_eq_true rfl)) rfl b11 dX9_laysNext_20 ?_
        refine ra_ist (k := 59) (i := 0) (n := 24) C hok.1 hP hS (hok.2.1 59 0 (Nat.le_of_ble_eq_true rfl)) (fun _ => rfl) b11 dX9_laysNext_21 (fun H locs hP hS => ?_)
        refine lv_iinc (v := (v3 + (1 : Int32))) (lv' := [(3, .int (v3 + (1 : Int32))), (0, .ref (ad 9 0)), (1, .int v1), (2, .int v2)]) hx hb dX9_laysNext_22 hl (k := 3) rfl rfl (by decide) rfl (fun ls hl => ?_)
        refine lv_goto (tgt := 2) hx hb dX9_laysNext_25 (by decide) ?_
        exact ih (sA w 59 0 v3.toNatClampNeg (gA w 52 0 v3.toNatClampNeg)) (v3 + (1 : Int32)) hf _ _ ls hP hS (lv_sub hl [1, 2, 3, 0] rfl)
  unfold f_X9_laysNext at hf
  -- walk
  refine lv_iconst (v := (0 : Int32)) hx hb dX9_laysNext_0 (by decide) ?_
  refine lv_istore_n (lv' := [(3, .int (0 : Int32)), (0, .ref (ad 9 0)), (1, .int x1), (2, .int x2)]) hx hb dX9_laysNext_1 rfl hl (by decide) rfl (fun ls hl => ?_)
  exact L_lp_X9_laysNext_2 x1 x2 _ (fun w_1 hf H locs ls hP hS hl => P_f_X9_laysNext_28 w_1 x1 x2 hf _ _ ls hP hS (lv_sub hl [0, 1, 2] rfl)) N w (0 : Int32) hf _ _ ls hP hS (lv_sub hl [1, 2, 3, 0] rfl)
def f_X9_next_36_s2 (N : Nat) (w : Mem)  (v1 : Int32) (v2 : Int32) (v3 : Int32) (v4 : Int32) (s0 : Int32) : Option (Mem × Int32) :=
  (Option.bind (f_X9_unless N w s0) (fun z3 => (Option.bind (f_X9_isRefused N w z3) (fun z5 => (if z5.2 = (0 : Int32) then
(Option.bind (f_X9_laysNext N z5.1 v1 v2) (fun z7 => (if v3 < (gF z7 9 55 0) then
(if v4 = (0 : Int32) then
(if inb v3 24 = true then some (z7, (gA z7 67 0 v3.toNatClampNeg)) else none)
else
(if v4 = (1 : Int32) then
(if inb v3 24 = true then some (z7, (gA z7 68 0 v3.toNatClampNeg)) else none)
else
(if v3 = (0 : Int32) then
some (z7, (1 : Int32))
else
some (z7, (0 : Int32)))))
else
some (z7, (-2 : Int32)))))
else
some (z5.1, (-1 : Int32)))))))
def f_X9_next (N : Nat) (w : Mem) (x1 : Int32) (x2 : Int32) (x3 : Int32) (x4 : Int32) : Option (Mem × Int32) :=
  (Option.bind (f_X9_isTerm N w x1) (fun z1 => (if z1 = (0 : Int32) then
(f_X9_next_36_s2 N w  x1 x2 x3 x4 (0 : Int32))
else
(Option.bind (f_X9_isTerm N w x2) (fun z16 => (if z16 = (0 : Int32) then
(f_X9_next_36_s2 N w  x1 x2 x3 x4 (0 : Int32))
else
(if x3 < (0 : Int32) then
(f_X9_next_36_s2 N w  x1 x2 x3 x4 (0 : Int32))
else
(Option.bind (f_X9_in N w x4 (0 : Int32) (2 : Int32)) (fun z18 => (if z18 = (0 : Int32) then
(f_X9_next_36_s2 N w  x1 x2 x3 x4 (0 : Int32))
else
(f_X9_next_36_s2 N w  x1 x2 x3 x4 (1 : Int32))))))))))))
set_option maxRecDepth 100000 in
set_option maxHeartbeats 4000000 in
theorem c_X9_next (l : Launch) (D : va_G) (ca : Nat → ClassId) (ad : Nat → Nat → Nat) (PL : List (Nat × Nat)) (Z : State → Prop) (A : Nat → Prop) (hok : okc bM Z A ad PL) (N : Nat) (w : Mem) (x1 : Int32) (x2 : Int32) (x3 : Int32) (x4 : Int32) (w' : Mem) (r : Int32) (hf : f_X9_next N w x1 x2 x3 x4 = some (w', r)) : CT l yX9_next (wsy yX9_next cX9_next 5 (some .int)) (rmk 4) D ca ad PL Z A [.ref (ad 9 0), .int x1, .int x2, .int x3, .int x4] w w' (some (.int r)) := by
  refine Met.ofW (cc := cX9_next) (maxL := 5) (ret := (some .int)) (by decide +kernel) rfl ?_
  intro p e s m args below meth c s₁ B hml hv
  obtain ⟨rfl, hP, hK, hZ⟩ := hv
  have hx := B.exec
  have hb := B.bytes
  have hr := B.returns
  have hlocks := B.notSynchronized
  have hts : ∀ w ∈ ALL, w.before _ s = true := fun w hw => atoms_spec (ws := wsy yX9_next cX9_next 5 (some .int)) B.pre w (List.mem_cons_of_mem _ hw)
  have hown : s.vm.findClass RX9 = some m.cls := findClass_of_methodNamed B.named
  have C : CX p s m _ c cX9_next RX9 5 D ca Z := ⟨hx, hb, hml, hown, hts, hK, hZ⟩
  have hS : va_S A s.heap s.heap [] := va_S.rf
  have hl := lv_entry ([.ref (ad 9 0), .int x1, .int x2, .int x3, .int x4]) (n := 5) (Nat.le_of_ble_eq_true rfl)
  rw [lg_entry_eq]
  generalize (lg_sl ([.ref (ad 9 0), .int x1, .int x2, .int x3, .int x4]) ++ List.replicate (5 - (lg_sl ([.ref (ad 9 0), .int x1, .int x2, .int x3, .int x4])).length) Slot.unset).toArray = ls at hl ⊢
  have hl : lv_has ls 5 [(0, .ref (ad 9 0)), (1, .int x1), (2, .int x2), (3, .int x3), (4, .int x4)] := hl
  show W p l e (rmk 4) s m _ below meth c s.heap [] 0 0 _ _
  have P_f_X9_next_36_s2 : ∀ (w : Mem) (v1 : Int32) (v2 : Int32) (v3 : Int32) (v4 : Int32) (s0 : Int32), f_X9_next_36_s2 N w  v1 v2 v3 v4 s0 = some (w', r) → WP p l e (rmk 4) s m [.ref (ad 9 0), .int x1, .int x2, .int x3, .int x4].toArray below meth c D ca ad PL A (MQ below (qcR D ca ad PL Z A w' (some (.int r))) [.ref (ad 9 0), .int x1, .int x2, .int x3, .int x4].toArray s 0 0 A) 5 36 [.int s0, .ref (ad 9 0)] [(0, .ref (ad 9 0)), (1, .int v1), (2, .int v2), (3, .int v3), (4, .int v4)] w := by
    intro w v1 v2 v3 v4 s0 hf _ _ ls hP hS hl
    unfold f_X9_next_36_s2 at hf
    obtain ⟨z3, q4, hf⟩ := bsp hf
    refine kc_S (As := [.int s0]) (rest := [.ref (ad 9 0)]) hok.2.2 C hP hS hl.1 cw_X9_unless ml_X9_306 (c_X9_unless l D ca ad PL Z A hok N w s0 z3 q4) rfl ⟨rfl, rfl⟩ ⟨Nat.le_of_ble_eq_true rfl, Nat.le_of_ble_eq_true rfl⟩ ⟨Nat.zero_le _, Nat.zero_le _⟩ (Nat.le_of_ble_eq_true rfl) rfl dX9_next_36 (fun H locs hP hS => ?_)
    obtain ⟨z5, q6, hf⟩ := bsp hf
    refine kc_V (ci := 9) (i := 0) (As := [.int z3]) (rest := []) hok.2.2 C hP hS hl.1 (hok.2.1 9 0 (Nat.le_of_ble_eq_true rfl)) rfl rfl cw_X9_isRefused ml_X9_223 (c_X9_isRefused l D ca ad PL Z A hok N w z3 z5.1 z5.2 q6) rfl ⟨rfl, rfl⟩ ⟨Nat.le_of_ble_eq_true rfl, Nat.le_of_ble_eq_true rfl⟩ ⟨Nat.zero_le _, Nat.zero_le _⟩ (Nat.le_of_ble_eq_true rfl) rfl dX9_next_39 (fun H locs hP hS => ?_)
    refine lv_if_eq (tgt := 47) hx hb dX9_next_42 (by decide) (fun c15 => ?_) (fun c15 => ?_)
    · have hf := ifp hf c15
      refine lv_aload_n hx hb dX9_next_47 rfl (lv_at hl 0 rfl) ?_
      refine lv_iload_n hx hb dX9_next_48 rfl (lv_at hl 1 rfl) ?_
      refine lv_iload_n hx hb dX9_next_49 rfl (lv_at hl 2 rfl) ?_
      obtain ⟨z7, q8, hf⟩ := bsp hf
      refine kc_V (ci := 9) (i := 0) (As := [.int v1, .int v2]) (rest := []) hok.2.2 C hP hS hl.1 (hok.2.1 9 0 (Nat.le_of_ble_eq_true rfl)) rfl rfl cw_X9_laysNext ml_X9_384 (c_X9_laysNext l D ca ad PL Z A hok N z5.1 v1 v2 z7 q8) rfl ⟨rfl, rfl⟩ ⟨Nat.le_of_ble_eq_true rfl, Nat.le_of_ble_eq_true rfl⟩ ⟨Nat.zero_le _, Nat.zero_le _⟩ (Nat.le_of_ble_eq_true rfl) rfl dX9_next_50 (fun H locs hP hS => ?_)
      refine lv_iload_n hx hb dX9_next_53 rfl (lv_at hl 3 rfl) ?_
      refine lv_aload_n hx hb dX9_next_54 rfl (lv_at hl 0 rfl) ?_
      refine gt_9_55 (i := 0) C hP (hok.2.1 9 0 (Nat.le_of_ble_eq_true rfl)) lk_X9_375 dX9_next_55 ?_
      refine lv_icmp_lt (tgt := 64) hx hb dX9_next_58 (by decide) (fun c14 => ?_) (fun c14 => ?_)
      · have hf := ifp hf c14
        refine lv_iload hx hb dX9_next_64 (lv_at hl 4 rfl) ?_
        refine lv_if_ne (tgt := 78) hx hb dX9_next_66 (by decide) (fun c13 => ?_) (fun c13 => ?_)
        · have hf := ifn hf c13
          refine lv_iload hx hb dX9_next_78 (lv_at hl 4 rfl) ?_
          refine lv_iconst (v := (1 : Int32)) hx hb dX9_next_80 (by decide) ?_
          refine lv_icmp_ne (tgt := 93) hx hb dX9_next_81 (by decide) (fun c11 => ?_) (fun c11 => ?_)
          · have hf := ifn hf c11
            refine lv_iload_n hx hb dX9_next_93 rfl (lv_at hl 3 rfl) ?_
            refine lv_if_ne (tgt := 101) hx hb dX9_next_94 (by decide) (fun c9 => ?_) (fun c9 => ?_)
            · have hf := ifn hf c9
              refine lv_iconst (v := (0 : Int32)) hx hb dX9_next_101 (by decide) ?_
              exact kr_i hok.2.2 C hlocks hr rfl hP hS (congrArg Prod.fst (Option.some.inj hf)) (congrArg Prod.snd (Option.some.inj hf)) dX9_next_102
            · have hf := ifp hf c9
              refine lv_iconst (v := (1 : Int32)) hx hb dX9_next_97 (by decide) ?_
              refine lv_goto (tgt := 102) hx hb dX9_next_98 (by decide) ?_
              exact kr_i hok.2.2 C hlocks hr rfl hP hS (congrArg Prod.fst (Option.some.inj hf)) (congrArg Prod.snd (Option.some.inj hf)) dX9_next_102
          · have hf := ifp hf c11
            refine lv_aload_n hx hb dX9_next_84 rfl (lv_at hl 0 rfl) ?_
            refine gt_9_54 (i := 0) C hP (hok.2.1 9 0 (Nat.le_of_ble_eq_true rfl)) lk_X9_100 dX9_next_85 ?_
            refine lv_iload_n hx hb dX9_next_88 rfl (lv_at hl 3 rfl) ?_
            obtain ⟨b10, hf⟩ := gsp hf
            refine ra_ild (k := 68) (i := 0) (n := 24) (f := (gA z7 68 0)) C hP (hok.2.1 68 0 (Nat.le_of_ble_eq_true rfl)) rfl b10 dX9_next_89 ?_
            refine lv_goto (tgt := 102) hx hb dX9_next_90 (by decide) ?_
            exact kr_i hok.2.2 C hlocks hr rfl hP hS (congrArg Prod.fst (Option.some.inj hf)) (congrArg Prod.snd (Option.some.inj hf)) dX9_next_102
        · have hf := ifp hf c13
          refine lv_aload_n hx hb dX9_next_69 rfl (lv_at hl 0 rfl) ?_
          refine gt_9_53 (i := 0) C hP (hok.2.1 9 0 (Nat.le_of_ble_eq_true rfl)) lk_X9_97 dX9_next_70 ?_
          refine lv_iload_n hx hb dX9_next_73 rfl (lv_at hl 3 rfl) ?_
          obtain ⟨b12, hf⟩ := gsp hf
          refine ra_ild (k := 67) (i := 0) (n := 24) (f := (gA z7 67 0)) C hP (hok.2.1 67 0 (Nat.le_of_ble_eq_true rfl)) rfl b12 dX9_next_74 ?_
          refine lv_goto (tgt := 102) hx hb dX9_next_75 (by decide) ?_
          exact kr_i hok.2.2 C hlocks hr rfl hP hS (congrArg Prod.fst (Option.some.inj hf)) (congrArg Prod.snd (Option.some.inj hf)) dX9_next_102
      · have hf := ifn hf c14
        refine lv_bipush (v := (-2 : Int32)) hx hb dX9_next_61 (by decide) ?_
        exact kr_i hok.2.2 C hlocks hr rfl hP hS (congrArg Prod.fst (Option.some.inj hf)) (congrArg Prod.snd (Option.some.inj hf)) dX9_next_63
    · have hf := ifn hf c15
      refine lv_iconst (v := (-1 : Int32)) hx hb dX9_next_45 (by decide) ?_
      exact kr_i hok.2.2 C hlocks hr rfl hP hS (congrArg Prod.fst (Option.some.inj hf)) (congrArg Prod.snd (Option.some.inj hf)) dX9_next_46
  unfold f_X9_next at hf
  -- walk
  refine lv_aload_n hx hb dX9_next_0 rfl (lv_at hl 0 rfl) ?_
  refine lv_aload_n hx hb dX9_next_1 rfl (lv_at hl 0 rfl) ?_
  refine lv_iload_n hx hb dX9_next_2 rfl (lv_at hl 1 rfl) ?_
  obtain ⟨z1, q2, hf⟩ := bsp hf
  refine kc_V (ci := 9) (i := 0) (As := [.int x1]) (rest := [.ref (ad 9 0)]) hok.2.2 C hP hS hl.1 (hok.2.1 9 0 (Nat.le_of_ble_eq_true rfl)) rfl rfl cw_X9_isTerm ml_X9_317 (c_X9_isTerm l D ca ad PL Z A hok N w x1 z1 q2) rfl ⟨rfl, rfl⟩ ⟨Nat.le_of_ble_eq_true rfl, Nat.le_of_ble_eq_true rfl⟩ ⟨Nat.zero_le _, Nat.zero_le _⟩ (Nat.le_of_ble_eq_true rfl) rfl dX9_next_3 (fun H locs hP hS => ?_)
  refine lv_if_eq (tgt := 35) hx hb dX9_next_6 (by decide) (fun c23 => ?_) (fun c23 => ?_)
  · have hf := ifp hf c23
    refine lv_iconst (v := (0 : Int32)) hx hb dX9_next_35 (by decide) ?_
    exact P_f_X9_next_36_s2 w x1 x2 x3 x4 (0 : Int32) hf _ _ ls hP hS (lv_sub hl [0, 1, 2, 3, 4] rfl)
  · have hf := ifn hf c23
    refine lv_aload_n hx hb dX9_next_9 rfl (lv_at hl 0 rfl) ?_
    refine lv_iload_n hx hb dX9_next_10 rfl (lv_at hl 2 rfl) ?_
    obtain ⟨z16, q17, hf⟩ := bsp hf
    refine kc_V (ci := 9) (i := 0) (As := [.int x2]) (rest := [.ref (ad 9 0)]) hok.2.2 C hP hS hl.1 (hok.2.1 9 0 (Nat.le_of_ble_eq_true rfl)) rfl rfl cw_X9_isTerm ml_X9_317 (c_X9_isTerm l D ca ad PL Z A hok N w x2 z16 q17) rfl ⟨rfl, rfl⟩ ⟨Nat.le_of_ble_eq_true rfl, Nat.le_of_ble_eq_true rfl⟩ ⟨Nat.zero_le _, Nat.zero_le _⟩ (Nat.le_of_ble_eq_true rfl) rfl dX9_next_11 (fun H locs hP hS => ?_)
    refine lv_if_eq (tgt := 35) hx hb dX9_next_14 (by decide) (fun c22 => ?_) (fun c22 => ?_)
    · have hf := ifp hf c22
      refine lv_iconst (v := (0 : Int32)) hx hb dX9_next_35 (by decide) ?_
      exact P_f_X9_next_36_s2 w x1 x2 x3 x4 (0 : Int32) hf _ _ ls hP hS (lv_sub hl [0, 1, 2, 3, 4] rfl)
    · have hf := ifn hf c22
      refine lv_iload_n hx hb dX9_next_17 rfl (lv_at hl 3 rfl) ?_
      refine lv_if_lt (tgt := 35) hx hb dX9_next_18 (by decide) (fun c21 => ?_) (fun c21 => ?_)
      · have hf := ifp hf c21
        refine lv_iconst (v := (0 : Int32)) hx hb dX9_next_35 (by decide) ?_
        exact P_f_X9_next_36_s2 w x1 x2 x3 x4 (0 : Int32) hf _ _ ls hP hS (lv_sub hl [0, 1, 2, 3, 4] rfl)
      · have hf := ifn hf c21
        refine lv_iload hx hb dX9_next_21 (lv_at hl 4 rfl) ?_
        refine lv_iconst (v := (0 : Int32)) hx hb dX9_next_23 (by decide) ?_
        refine lv_iconst (v := (2 : Int32)) hx hb dX9_next_24 (by decide) ?_
        obtain ⟨z18, q19, hf⟩ := bsp hf
        refine kc_S (As := [.int x4, .int (0 : Int32), .int (2 : Int32)]) (rest := [.ref (ad 9 0)]) hok.2.2 C hP hS hl.1 cw_X9_in ml_X9_132 (c_X9_in l D ca ad PL Z A hok N w x4 (0 : Int32) (2 : Int32) z18 q19) rfl ⟨rfl, rfl⟩ ⟨Nat.le_of_ble_eq_true rfl, Nat.le_of_ble_eq_true rfl⟩ ⟨Nat.zero_le _, Nat.zero_le _⟩ (Nat.le_of_ble_eq_true rfl) rfl dX9_next_25 (fun H locs hP hS => ?_)
        refine lv_if_eq (tgt := 35) hx hb dX9_next_28 (by decide) (fun c20 => ?_) (fun c20 => ?_)
        · have hf := ifp hf c20
          refine lv_iconst (v := (0 : Int32)) hx hb dX9_next_35 (by decide) ?_
          exact P_f_X9_next_36_s2 w x1 x2 x3 x4 (0 : Int32) hf _ _ ls hP hS (lv_sub hl [0, 1, 2, 3, 4] rfl)
        · have hf := ifn hf c20
          refine lv_iconst (v := (1 : Int32)) hx hb dX9_next_31 (by decide) ?_
          refine lv_goto (tgt := 36) hx hb dX9_next_32 (by decide) ?_
          exact P_f_X9_next_36_s2 w x1 x2 x3 x4 (1 : Int32) hf _ _ ls hP hS (lv_sub hl [0, 1, 2, 3, 4] rfl)
def f_X9_without_29_s2 (N : Nat) (w : Mem)  (v1 : Int32) (v2 : Int32) (s0 : Int32) : Option (Mem × Int32) :=
  (Option.bind (f_X9_unless N w s0) (fun z3 => (Option.bind (f_X9_isRefused N w z3) (fun z5 => (if z5.2 = (0 : Int32) then
(Option.bind (f_X9_allSames N z5.1 ) (fun z7 => (Option.bind (f_X9_closesBy N z5.1 (z7 &&& (((1 : Int32) <<< (v1 &&& 31)) ^^^ (-1 : Int32)))) (fun z9 => (if v2 = (0 : Int32) then
(Option.bind (f_X9_groupsIn N z9 59) (fun z13 => some (z9, z13)))
else
(Option.bind (f_X9_clashIn N z9 59) (fun z11 => some (z9, z11))))))))
else
some (z5.1, (-1 : Int32)))))))
def f_X9_without (N : Nat) (w : Mem) (x1 : Int32) (x2 : Int32) : Option (Mem × Int32) :=
  (Option.bind (f_X9_in N w x1 (0 : Int32) ((gF w 9 30 0) - (1 : Int32))) (fun z1 => (if z1 = (0 : Int32) then
(f_X9_without_29_s2 N w  x1 x2 (0 : Int32))
else
(Option.bind (f_X9_in N w x2 (0 : Int32) (1 : Int32)) (fun z17 => (if z17 = (0 : Int32) then
(f_X9_without_29_s2 N w  x1 x2 (0 : Int32))
else
(f_X9_without_29_s2 N w  x1 x2 (1 : Int32))))))))
set_option maxRecDepth 100000 in
set_option maxHeartbeats 4000000 in
theorem c_X9_without (l : Launch) (D : va_G) (ca : Nat → ClassId) (ad : Nat → Nat → Nat) (PL : List (Nat × Nat)) (Z : State → Prop) (A : Nat → Prop) (hok : okc bM Z A ad PL) (N : Nat) (w : Mem) (x1 : Int32) (x2 : Int32) (w' : Mem) (r : Int32) (hf : f_X9_without N w x1 x2 = some (w', r)) : CT l yX9_without (wsy yX9_without cX9_without 3 (some .int)) (rmk 3) D ca ad PL Z A [.ref (ad 9 0), .int x1, .int x2] w w' (some (.int r)) := by
  refine Met.ofW (cc := cX9_without) (maxL := 3) (ret := (some .int)) (by decide +kernel) rfl ?_
  intro p e s m args below meth c s₁ B hml hv
  obtain ⟨rfl, hP, hK, hZ⟩ := hv
  have hx := B.exec
  have hb := B.bytes
  have hr := B.returns
  have hlocks := B.notSynchronized
  have hts : ∀ w ∈ ALL, w.before _ s = true := fun w hw => atoms_spec (ws := wsy yX9_without cX9_without 3 (some .int)) B.pre w (List.mem_cons_of_mem _ hw)
  have hown : s.vm.findClass RX9 = some m.cls := findClass_of_methodNamed B.named
  have C : CX p s m _ c cX9_without RX9 3 D ca Z := ⟨hx, hb, hml, hown, hts, hK, hZ⟩
  have hS : va_S A s.heap s.heap [] := va_S.rf
  have hl := lv_entry ([.ref (ad 9 0), .int x1, .int x2]) (n := 3) (Nat.le_of_ble_eq_true rfl)
  rw [lg_entry_eq]
  generalize (lg_sl ([.ref (ad 9 0), .int x1, .int x2]) ++ List.replicate (3 - (lg_sl ([.ref (ad 9 0), .int x1, .int x2])).length) Slot.unset).toArray = ls at hl ⊢
  have hl : lv_has ls 3 [(0, .ref (ad 9 0)), (1, .int x1), (2, .int x2)] := hl
  show W p l e (rmk 3) s m _ below meth c s.heap [] 0 0 _ _
  have P_f_X9_without_29_s2 : ∀ (w : Mem) (v1 : Int32) (v2 : Int32) (s0 : Int32), f_X9_without_29_s2 N w  v1 v2 s0 = some (w', r) → WP p l e (rmk 3) s m [.ref (ad 9 0), .int x1, .int x2].toArray below meth c D ca ad PL A (MQ below (qcR D ca ad PL Z A w' (some (.int r))) [.ref (ad 9 0), .int x1, .int x2].toArray s 0 0 A) 3 29 [.int s0, .ref (ad 9 0)] [(0, .ref (ad 9 0)), (1, .int v1), (2, .int v2)] w := by
    intro w v1 v2 s0 hf _ _ ls hP hS hl
    unfold f_X9_without_29_s2 at hf
    obtain ⟨z3, q4, hf⟩ := bsp hf
    refine kc_S (As := [.int s0]) (rest := [.ref (ad 9 0)]) hok.2.2 C hP hS hl.1 cw_X9_unless ml_X9_306 (c_X9_unless l D ca ad PL Z A hok N w s0 z3 q4) rfl ⟨rfl, rfl⟩ ⟨Nat.le_of_ble_eq_true rfl, Nat.le_of_ble_eq_true rfl⟩ ⟨Nat.zero_le _, Nat.zero_le _⟩ (Nat.le_of_ble_eq_true rfl) rfl dX9_without_29 (fun H locs hP hS => ?_)
    obtain ⟨z5, q6, hf⟩ := bsp hf
    refine kc_V (ci := 9) (i := 0) (As := [.int z3]) (rest := []) hok.2.2 C hP hS hl.1 (hok.2.1 9 0 (Nat.le_of_ble_eq_true rfl)) rfl rfl cw_X9_isRefused ml_X9_223 (c_X9_isRefused l D ca ad PL Z A hok N w z3 z5.1 z5.2 q6) rfl ⟨rfl, rfl⟩ ⟨Nat.le_of_ble_eq_true rfl, Nat.le_of_ble_eq_true rfl⟩ ⟨Nat.zero_le _, Nat.zero_le _⟩ (Nat.le_of_ble_eq_true rfl) rfl dX9_without_32 (fun H locs hP hS => ?_)
    refine lv_if_eq (tgt := 40) hx hb dX9_without_35 (by decide) (fun c16 => ?_) (fun c16 => ?_)
    · have hf := ifp hf c16
      refine lv_aload_n hx hb dX9_without_40 rfl (lv_at hl 0 rfl) ?_
      refine lv_aload_n hx hb dX9_without_41 rfl (lv_at hl 0 rfl) ?_
      obtain ⟨z7, q8, hf⟩ := bsp hf
      refine kc_V (ci := 9) (i := 0) (As := []) (rest := [.ref (ad 9 0)]) hok.2.2 C hP hS hl.1 (hok.2.1 9 0 (Nat.le_of_ble_eq_true rfl)) rfl rfl cw_X9_allSames ml_X9_329 (c_X9_allSames l D ca ad PL Z A hok N z5.1  z7 q8) rfl ⟨rfl, rfl⟩ ⟨Nat.le_of_ble_eq_true rfl, Nat.le_of_ble_eq_true rfl⟩ ⟨Nat.zero_le _, Nat.zero_le _⟩ (Nat.le_of_ble_eq_true rfl) rfl dX9_without_42 (fun H locs hP hS => ?_)
      refine lv_iconst (v := (1 : Int32)) hx hb dX9_without_45 (by decide) ?_
      refine lv_iload_n hx hb dX9_without_46 rfl (lv_at hl 1 rfl) ?_
      refine lv_ishl hx hb dX9_without_47 ?_
      refine lv_iconst (v := (-1 : Int32)) hx hb dX9_without_48 (by decide) ?_
      refine lv_ixor hx hb dX9_without_49 ?_
      refine lv_iand hx hb dX9_without_50 ?_
      obtain ⟨z9, q10, hf⟩ := bsp hf
      refine kc_V (ci := 9) (i := 0) (As := [.int (z7 &&& (((1 : Int32) <<< (v1 &&& 31)) ^^^ (-1 : Int32)))]) (rest := []) hok.2.2 C hP hS hl.1 (hok.2.1 9 0 (Nat.le_of_ble_eq_true rfl)) rfl rfl cw_X9_closesBy ml_X9_303 (c_X9_closesBy l D ca ad PL Z A hok N z5.1 (z7 &&& (((1 : Int32) <<< (v1 &&& 31)) ^^^ (-1 : Int32))) z9 q10) rfl ⟨rfl, rfl⟩ ⟨Nat.le_of_ble_eq_true rfl, Nat.le_of_ble_eq_true rfl⟩ ⟨Nat.zero_le _, Nat.zero_le _⟩ (Nat.le_of_ble_eq_true rfl) rfl dX9_without_51 (fun H locs hP hS => ?_)
      refine lv_iload_n hx hb dX9_without_54 rfl (lv_at hl 2 rfl) ?_
      refine lv_if_ne (tgt := 69) hx hb dX9_without_55 (by decide) (fun c15 => ?_) (fun c15 => ?_)
      · have hf := ifn hf c15
        refine lv_aload_n hx hb dX9_without_69 rfl (lv_at hl 0 rfl) ?_
        refine lv_aload_n hx hb dX9_without_70 rfl (lv_at hl 0 rfl) ?_
        refine gt_9_44 (i := 0) C hP (hok.2.1 9 0 (Nat.le_of_ble_eq_true rfl)) lk_X9_71 dX9_without_71 ?_
        obtain ⟨z11, q12, hf⟩ := bsp hf
        refine kc_V (ci := 9) (i := 0) (As := [.ref (ad 59 0)]) (rest := []) hok.2.2 C hP hS hl.1 (hok.2.1 9 0 (Nat.le_of_ble_eq_true rfl)) rfl rfl cw_X9_clashIn ml_X9_314 (c_X9_clashIn l D ca ad PL Z A hok N z9 59 (Nat.le_of_ble_eq_true rfl) rfl rfl z11 q12) rfl ⟨rfl, rfl⟩ ⟨Nat.le_of_ble_eq_true rfl, Nat.le_of_ble_eq_true rfl⟩ ⟨Nat.zero_le _, Nat.zero_le _⟩ (Nat.le_of_ble_eq_true rfl) rfl dX9_without_74 (fun H locs hP hS => ?_)
        exact kr_i hok.2.2 C hlocks hr rfl hP hS (congrArg Prod.fst (Option.some.inj hf)) (congrArg Prod.snd (Option.some.inj hf)) dX9_without_77
      · have hf := ifp hf c15
        refine lv_aload_n hx hb dX9_without_58 rfl (lv_at hl 0 rfl) ?_
        refine lv_aload_n hx hb dX9_without_59 rfl (lv_at hl 0 rfl) ?_
        refine gt_9_44 (i := 0) C hP (hok.2.1 9 0 (Nat.le_of_ble_eq_true rfl)) lk_X9_71 dX9_without_60 ?_
        obtain ⟨z13, q14, hf⟩ := bsp hf
        refine kc_V (ci := 9) (i := 0) (As := [.ref (ad 59 0)]) (rest := []) hok.2.2 C hP hS hl.1 (hok.2.1 9 0 (Nat.le_of_ble_eq_true rfl)) rfl rfl cw_X9_groupsIn ml_X9_310 (c_X9_groupsIn l D ca ad PL Z A hok N z9 59 (Nat.le_of_ble_eq_true rfl) rfl rfl z13 q14) rfl ⟨rfl, rfl⟩ ⟨Nat.le_of_ble_eq_true rfl, Nat.le_of_ble_eq_true rfl⟩ ⟨Nat.zero_le _, Nat.zero_le _⟩ (Nat.le_of_ble_eq_true rfl) rfl dX9_without_63 (fun H locs hP hS => ?_)
        refine lv_goto (tgt := 77) hx hb dX9_without_66 (by decide) ?_
        exact kr_i hok.2.2 C hlocks hr rfl hP hS (congrArg Prod.fst (Option.some.inj hf)) (congrArg Prod.snd (Option.some.inj hf)) dX9_without_77
    · have hf := ifn hf c16
      refine lv_iconst (v := (-1 : Int32)) hx hb dX9_without_38 (by decide) ?_
      exact kr_i hok.2.2 C hlocks hr rfl hP hS (congrArg Prod.fst (Option.some.inj hf)) (congrArg Prod.snd (Option.some.inj hf)) dX9_without_39
  unfold f_X9_without at hf
  -- walk
  refine lv_aload_n hx hb dX9_without_0 rfl (lv_at hl 0 rfl) ?_
  refine lv_iload_n hx hb dX9_without_1 rfl (lv_at hl 1 rfl) ?_
  refine lv_iconst (v := (0 : Int32)) hx hb dX9_without_2 (by decide) ?_
  refine lv_aload_n hx hb dX9_without_3 rfl (lv_at hl 0 rfl) ?_
  refine gt_9_30 (i := 0) C hP (hok.2.1 9 0 (Nat.le_of_ble_eq_true rfl)) lk_X9_287 dX9_without_4 ?_
  refine lv_iconst (v := (1 : Int32)) hx hb dX9_without_7 (by decide) ?_
  refine lv_isub hx hb dX9_without_8 ?_
  obtain ⟨z1, q2, hf⟩ := bsp hf
  refine kc_S (As := [.int x1, .int (0 : Int32), .int ((gF w 9 30 0) - (1 : Int32))]) (rest := [.ref (ad 9 0)]) hok.2.2 C hP hS hl.1 cw_X9_in ml_X9_132 (c_X9_in l D ca ad PL Z A hok N w x1 (0 : Int32) ((gF w 9 30 0) - (1 : Int32)) z1 q2) rfl ⟨rfl, rfl⟩ ⟨Nat.le_of_ble_eq_true rfl, Nat.le_of_ble_eq_true rfl⟩ ⟨Nat.zero_le _, Nat.zero_le _⟩ (Nat.le_of_ble_eq_true rfl) rfl dX9_without_9 (fun H locs hP hS => ?_)
  refine lv_if_eq (tgt := 28) hx hb dX9_without_12 (by decide) (fun c20 => ?_) (fun c20 => ?_)
  · have hf := ifp hf c20
    refine lv_iconst (v := (0 : Int32)) hx hb dX9_without_28 (by decide) ?_
    exact P_f_X9_without_29_s2 w x1 x2 (0 : Int32) hf _ _ ls hP hS (lv_sub hl [0, 1, 2] rfl)
  · have hf := ifn hf c20
    refine lv_iload_n hx hb dX9_without_15 rfl (lv_at hl 2 rfl) ?_
    refine lv_iconst (v := (0 : Int32)) hx hb dX9_without_16 (by decide) ?_
    refine lv_iconst (v := (1 : Int32)) hx hb dX9_without_17 (by decide) ?_
    obtain ⟨z17, q18, hf⟩ := bsp hf
    refine kc_S (As := [.int x2, .int (0 : Int32), .int (1 : Int32)]) (rest := [.ref (ad 9 0)]) hok.2.2 C hP hS hl.1 cw_X9_in ml_X9_132 (c_X9_in l D ca ad PL Z A hok N w x2 (0 : Int32) (1 : Int32) z17 q18) rfl ⟨rfl, rfl⟩ ⟨Nat.le_of_ble_eq_true rfl, Nat.le_of_ble_eq_true rfl⟩ ⟨Nat.zero_le _, Nat.zero_le _⟩ (Nat.le_of_ble_eq_true rfl) rfl dX9_without_18 (fun H locs hP hS => ?_)
    refine lv_if_eq (tgt := 28) hx hb dX9_without_21 (by decide) (fun c19 => ?_) (fun c19 => ?_)
    · have hf := ifp hf c19
      refine lv_iconst (v := (0 : Int32)) hx hb dX9_without_28 (by decide) ?_
      exact P_f_X9_without_29_s2 w x1 x2 (0 : Int32) hf _ _ ls hP hS (lv_sub hl [0, 1, 2] rfl)
    · have hf := ifn hf c19
      refine lv_iconst (v := (1 : Int32)) hx hb dX9_without_24 (by decide) ?_
      refine lv_goto (tgt := 29) hx hb dX9_without_25 (by decide) ?_
      exact P_f_X9_without_29_s2 w x1 x2 (1 : Int32) hf _ _ ls hP hS (lv_sub hl [0, 1, 2] rfl)
def f_X9_free_83 (N : Nat) (w : Mem)  (v1 : Int32) : Option (Mem × Int32) :=
  some (w, v1)
def f_X9_free_77_9 (rc : Mem → Int32 → Int32 → Option (Mem × Int32)) (k : Mem → Int32 → Option (Mem × Int32)) (N : Nat) (w : Mem)  (v1 : Int32) (v2 : Int32) : Option (Mem × Int32) :=
  (rc w v1 (v2 + (1 : Int32)))
def lp_X9_free_21 (k : Mem → Int32 → Option (Mem × Int32)) (N : Nat)  (v2 : Int32) : Nat → Mem → Int32 → Int32 → Option (Mem × Int32)
  | 0, _, _, _ => none
  | n + 1, w, v1, v3 => (if (gF w 9 27 0) ≤ v3 then
(k w v1)
else
(if inb v2 24 = true then (if inb v3 24 = true then (if (gA w 52 0 v2.toNatClampNeg) = (gA w 52 0 v3.toNatClampNeg) then
(lp_X9_free_21 k N   v2 n w v1 (v3 + (1 : Int32)))
else
(Option.bind (f_X9_closesWith N w v2 v3) (fun z5 => (Option.bind (f_X9_clashIn N z5 59) (fun z7 => (if z7 = (-2 : Int32) then
(lp_X9_free_21 k N   v2 n z5 (v1 + (1 : Int32)) (v3 + (1 : Int32)))
else
(lp_X9_free_21 k N   v2 n z5 (v1 + (0 : Int32)) (v3 + (1 : Int32))))))))) else none) else none))
def lp_X9_free_9 (k : Mem → Int32 → Option (Mem × Int32)) (N : Nat)  : Nat → Mem → Int32 → Int32 → Option (Mem × Int32)
  | 0, _, _, _ => none
  | n + 1, w, v1, v2 => (if (gF w 9 27 0) ≤ v2 then
(k w v1)
else
(lp_X9_free_21 (fun (w_2 : Mem) (u1_2 : Int32) => (f_X9_free_77_9 (fun (w : Mem) (v1 : Int32) (v2 : Int32) => lp_X9_free_9 k N    n w v1 v2) k N w_2  u1_2 v2 )) N   v2 N w v1 (v2 + (1 : Int32))))
def f_X9_free (N : Nat) (w : Mem)  : Option (Mem × Int32) :=
  (lp_X9_free_9 (fun (w_1 : Mem) (u1_1 : Int32) => (f_X9_free_83 N w_1  u1_1 )) N    N (sF w 9 0 0 (0 : Int32)) (0 : Int32) (0 : Int32))
set_option maxRecDepth 100000 in
set_option maxHeartbeats 4000000 in
theorem c_X9_free (l : Launch) (D : va_G) (ca : Nat → ClassId) (ad : Nat → Nat → Nat) (PL : List (Nat × Nat)) (Z : State → Prop) (A : Nat → Prop) (hok : okc bM Z A ad PL) (N : Nat) (w : Mem)  (w' : Mem) (r : Int32) (hf : f_X9_free N w  = some (w', r)) : CT l yX9_free (wsy yX9_free cX9_free 4 (some .int)) (rmk 4) D ca ad PL Z A [.ref (ad 9 0)] w w' (some (.int r)) := by
  refine Met.ofW (cc := cX9_free) (maxL := 4) (ret := (some .int)) (by decide +kernel) rfl ?_
  intro p e s m args below meth c s₁ B hml hv
  obtain ⟨rfl, hP, hK, hZ⟩ := hv
  have hx := B.exec
  have hb := B.bytes
  have hr := B.returns
  have hlocks := B.notSynchronized
  have hts : ∀ w ∈ ALL, w.before _ s = true := fun w hw => atoms_spec (ws := wsy yX9_free cX9_free 4 (some .int)) B.pre w (List.mem_cons_of_mem _ hw)
  have hown : s.vm.findClass RX9 = some m.cls := findClass_of_methodNamed B.named
  have C : CX p s m _ c cX9_free RX9 4 D ca Z := ⟨hx, hb, hml, hown, hts, hK, hZ⟩
  have hS : va_S A s.heap s.heap [] := va_S.rf
  have hl := lv_entry ([.ref (ad 9 0)]) (n := 4) (Nat.le_of_ble_eq_true rfl)
  rw [lg_entry_eq]
  generalize (lg_sl ([.ref (ad 9 0)]) ++ List.replicate (4 - (lg_sl ([.ref (ad 9 0)])).length) Slot.unset).toArray = ls at hl ⊢
  have hl : lv_has ls 4 [(0, .ref (ad 9 0))] := hl
  show W p l e (rmk 4) s m _ below meth c s.heap [] 0 0 _ _
  have P_f_X9_free_83 : ∀ (w : Mem) (v1 : Int32), f_X9_free_83 N w  v1  = some (w', r) → WP p l e (rmk 4) s m [.ref (ad 9 0)].toArray below meth c D ca ad PL A (MQ below (qcR D ca ad PL Z A w' (some (.int r))) [.ref (ad 9 0)].toArray s 0 0 A) 4 83 [] [(1, .int v1)] w := by
    intro w v1 hf _ _ ls hP hS hl
    unfold f_X9_free_83 at hf
    refine lv_iload_n hx hb dX9_free_83 rfl (lv_at hl 0 rfl) ?_
    exact kr_i hok.2.2 C hlocks hr rfl hP hS (congrArg Prod.fst (Option.some.inj hf)) (congrArg Prod.snd (Option.some.inj hf)) dX9_free_84
  have P_f_X9_free_77_9 : ∀ (rc : Mem → Int32 → Int32 → Option (Mem × Int32)) (hrc : ∀ (w : Mem) (v1 : Int32) (v2 : Int32), rc w v1 v2 = some (w', r) → WP p l e (rmk 4) s m [.ref (ad 9 0)].toArray below meth c D ca ad PL A (MQ below (qcR D ca ad PL Z A w' (some (.int r))) [.ref (ad 9 0)].toArray s 0 0 A) 4 9 [] [(0, .ref (ad 9 0)), (1, .int v1), (2, .int v2)] w) (k : Mem → Int32 → Option (Mem × Int32)) (hk : ∀ (w : Mem) (v1 : Int32), k w v1 = some (w', r) → WP p l e (rmk 4) s m [.ref (ad 9 0)].toArray below meth c D ca ad PL A (MQ below (qcR D ca ad PL Z A w' (some (.int r))) [.ref (ad 9 0)].toArray s 0 0 A) 4 83 [] [(1, .int v1)] w) (w : Mem) (v1 : Int32) (v2 : Int32), f_X9_free_77_9 rc k N w  v1 v2  = some (w', r) → WP p l e (rmk 4) s m [.ref (ad 9 0)].toArray below meth c D ca ad PL A (MQ below (qcR D ca ad PL Z A w' (some (.int r))) [.ref (ad 9 0)].toArray s 0 0 A) 4 77 [] [(0, .ref (ad 9 0)), (1, .int v1), (2, .int v2)] w := by
    intro rc hrc k hk w v1 v2 hf _ _ ls hP hS hl
    unfold f_X9_free_77_9 at hf
    refine lv_iinc (v := (v2 + (1 : Int32))) (lv' := [(2, .int (v2 + (1 : Int32))), (0, .ref (ad 9 0)), (1, .int v1)]) hx hb dX9_free_77 hl (k := 2) rfl rfl (by decide) rfl (fun ls hl => ?_)
    refine lv_goto (tgt := 9) hx hb dX9_free_80 (by decide) ?_
    exact hrc w v1 (v2 + (1 : Int32)) hf _ _ ls hP hS (lv_sub hl [1, 2, 0] rfl)
  have L_lp_X9_free_21 : ∀ (v2 : Int32) (k : Mem → Int32 → Option (Mem × Int32)) (hk : ∀ (w : Mem) (v1 : Int32), k w v1 = some (w', r) → WP p l e (rmk 4) s m [.ref (ad 9 0)].toArray below meth c D ca ad PL A (MQ below (qcR D ca ad PL Z A w' (some (.int r))) [.ref (ad 9 0)].toArray s 0 0 A) 4 77 [] [(0, .ref (ad 9 0)), (1, .int v1), (2, .int v2)] w) (n : Nat) (w : Mem) (v1 : Int32) (v3 : Int32), lp_X9_free_21 k N   v2 n w v1 v3 = some (w', r) → WP p l e (rmk 4) s m [.ref (ad 9 0)].toArray below meth c D ca ad PL A (MQ below (qcR D ca ad PL Z A w' (some (.int r))) [.ref (ad 9 0)].toArray s 0 0 A) 4 21 [] [(0, .ref (ad 9 0)), (1, .int v1), (2, .int v2), (3, .int v3)] w := by
    intro v2 k hk n
    induction n with
    | zero => intro w v1 v3 hf; rw [lp_X9_free_21] at hf; cases hf
    | succ n ih =>
      intro w v1 v3 hf _ _ ls hP hS hl
      rw [lp_X9_free_21] at hf
      refine lv_iload_n hx hb dX9_free_21 rfl (lv_at hl 3 rfl) ?_
      refine lv_aload_n hx hb dX9_free_22 rfl (lv_at hl 0 rfl) ?_
      refine gt_9_27 (i := 0) C hP (hok.2.1 9 0 (Nat.le_of_ble_eq_true rfl)) lk_X9_250 dX9_free_23 ?_
      refine lv_icmp_ge (tgt := 77) hx hb dX9_free_26 (by decide) (fun c11 => ?_) (fun c11 => ?_)
      · have hf := ifp hf c11
        exact hk w v1 hf _ _ ls hP hS (lv_sub hl [0, 1, 2] rfl)
      · have hf := ifn hf c11
        refine lv_aload_n hx hb dX9_free_29 rfl (lv_at hl 0 rfl) ?_
        refine gt_9_36 (i := 0) C hP (hok.2.1 9 0 (Nat.le_of_ble_eq_true rfl)) lk_X9_50 dX9_free_30 ?_
        refine lv_iload_n hx hb dX9_free_33 rfl (lv_at hl 2 rfl) ?_
        obtain ⟨b3, hf⟩ := gsp hf
        refine ra_ild (k := 52) (i := 0) (n := 24) (f := (gA w 52 0)) C hP (hok.2.1 52 0 (Nat.le_of_ble_eq_true rfl)) rfl b3 dX9_free_34 ?_
        refine lv_aload_n hx hb dX9_free_35 rfl (lv_at hl 0 rfl) ?_
        refine gt_9_36 (i := 0) C hP (hok.2.1 9 0 (Nat.le_of_ble_eq_true rfl)) lk_X9_50 dX9_free_36 ?_
        refine lv_iload_n hx hb dX9_free_39 rfl (lv_at hl 3 rfl) ?_
        obtain ⟨b4, hf⟩ := gsp hf
        refine ra_ild (k := 52) (i := 0) (n := 24) (f := (gA w 52 0)) C hP (hok.2.1 52 0 (Nat.le_of_ble_eq_true rfl)) rfl b4 dX9_free_40 ?_
        refine lv_icmp_eq (tgt := 71) hx hb dX9_free_41 (by decide) (fun c10 => ?_) (fun c10 => ?_)
        · have hf := ifp hf c10
          refine lv_iinc (v := (v3 + (1 : Int32))) (lv' := [(3, .int (v3 + (1 : Int32))), (0, .ref (ad 9 0)), (1, .int v1), (2, .int v2)]) hx hb dX9_free_71 hl (k := 3) rfl rfl (by decide) rfl (fun ls hl => ?_)
          refine lv_goto (tgt := 21) hx hb dX9_free_74 (by decide) ?_
          exact ih w v1 (v3 + (1 : Int32)) hf _ _ ls hP hS (lv_sub hl [1, 2, 3, 0] rfl)
        · have hf := ifn hf c10
          refine lv_aload_n hx hb dX9_free_44 rfl (lv_at hl 0 rfl) ?_
          refine lv_iload_n hx hb dX9_free_45 rfl (lv_at hl 2 rfl) ?_
          refine lv_iload_n hx hb dX9_free_46 rfl (lv_at hl 3 rfl) ?_
          obtain ⟨z5, q6, hf⟩ := bsp hf
          refine kc_V (ci := 9) (i := 0) (As := [.int v2, .int v3]) (rest := []) hok.2.2 C hP hS hl.1 (hok.2.1 9 0 (Nat.le_of_ble_eq_true rfl)) rfl rfl cw_X9_closesWith ml_X9_372 (c_X9_closesWith l D ca ad PL Z A hok N w v2 v3 z5 q6) rfl ⟨rfl, rfl⟩ ⟨Nat.le_of_ble_eq_true rfl, Nat.le_of_ble_eq_true rfl⟩ ⟨Nat.zero_le _, Nat.zero_le _⟩ (Nat.le_of_ble_eq_true rfl) rfl dX9_free_47 (fun H locs hP hS => ?_)
          refine lv_iload_n hx hb dX9_free_50 rfl (lv_at hl 1 rfl) ?_
          refine lv_aload_n hx hb dX9_free_51 rfl (lv_at hl 0 rfl) ?_
          refine lv_aload_n hx hb dX9_free_52 rfl (lv_at hl 0 rfl) ?_
          refine gt_9_44 (i := 0) C hP (hok.2.1 9 0 (Nat.le_of_ble_eq_true rfl)) lk_X9_71 dX9_free_53 ?_
          obtain ⟨z7, q8, hf⟩ := bsp hf
          refine kc_V (ci := 9) (i := 0) (As := [.ref (ad 59 0)]) (rest := [.int v1]) hok.2.2 C hP hS hl.1 (hok.2.1 9 0 (Nat.le_of_ble_eq_true rfl)) rfl rfl cw_X9_clashIn ml_X9_314 (c_X9_clashIn l D ca ad PL Z A hok N z5 59 (Nat.le_of_ble_eq_true rfl) rfl rfl z7 q8) rfl ⟨rfl, rfl⟩ ⟨Nat.le_of_ble_eq_true rfl, Nat.le_of_ble_eq_true rfl⟩ ⟨Nat.zero_le _, Nat.zero_le _⟩ (Nat.le_of_ble_eq_true rfl) rfl dX9_free_56 (fun H locs hP hS => ?_)
          refine lv_bipush (v := (-2 : Int32)) hx hb dX9_free_59 (by decide) ?_
          refine lv_icmp_ne (tgt := 68) hx hb dX9_free_61 (by decide) (fun c9 => ?_) (fun c9 => ?_)
          · have hf := ifn hf c9
            refine lv_iconst (v := (0 : Int32)) hx hb dX9_free_68 (by decide) ?_
            refine lv_iadd hx hb dX9_free_69 ?_
            refine lv_istore_n (lv' := [(1, .int (v1 + (0 : Int32))), (0, .ref (ad 9 0)), (2, .int v2), (3, .int v3)]) hx hb dX9_free_70 rfl hl (by decide) rfl (fun ls hl => ?_)
            refine lv_iinc (v := (v3 + (1 : Int32))) (lv' := [(3, .int (v3 + (1 : Int32))), (1, .int (v1 + (0 : Int32))), (0, .ref (ad 9 0)), (2, .int v2)]) hx hb dX9_free_71 hl (k := 3) rfl rfl (by decide) rfl (fun ls hl => ?_)
            refine lv_goto (tgt := 21) hx hb dX9_free_74 (by decide) ?_
            exact ih z5 (v1 + (0 : Int32)) (v3 + (1 : Int32)) hf _ _ ls hP hS (lv_sub hl [2, 1, 3, 0] rfl)
          · have hf := ifp hf c9
            refine lv_iconst (v := (1 : Int32)) hx hb dX9_free_64 (by decide) ?_
            refine lv_goto (tgt := 69) hx hb dX9_free_65 (by decide) ?_
            refine lv_iadd hx hb dX9_free_69 ?_
            refine lv_istore_n (lv' := [(1, .int (v1 + (1 : Int32))), (0, .ref (ad 9 0)), (2, .int v2), (3, .int v3)]) hx hb dX9_free_70 rfl hl (by decide) rfl (fun ls hl => ?_)
            refine lv_iinc (v := (v3 + (1 : Int32))) (lv' := [(3, .int (v3 + (1 : Int32))), (1, .int (v1 + (1 : Int32))), (0, .ref (ad 9 0)), (2, .int v2)]) hx hb dX9_free_71 hl (k := 3) rfl rfl (by decide) rfl (fun ls hl => ?_)
            refine lv_goto (tgt := 21) hx hb dX9_free_74 (by decide) ?_
            exact ih z5 (v1 + (1 : Int32)) (v3 + (1 : Int32)) hf _ _ ls hP hS (lv_sub hl [2, 1, 3, 0] rfl)
  have L_lp_X9_free_9 : ∀ (k : Mem → Int32 → Option (Mem × Int32)) (hk : ∀ (w : Mem) (v1 : Int32), k w v1 = some (w', r) → WP p l e (rmk 4) s m [.ref (ad 9 0)].toArray below meth c D ca ad PL A (MQ below (qcR D ca ad PL Z A w' (some (.int r))) [.ref (ad 9 0)].toArray s 0 0 A) 4 83 [] [(1, .int v1)] w) (n : Nat) (w : Mem) (v1 : Int32) (v2 : Int32), lp_X9_free_9 k N    n w v1 v2 = some (w', r) → WP p l e (rmk 4) s m [.ref (ad 9 0)].toArray below meth c D ca ad PL A (MQ below (qcR D ca ad PL Z A w' (some (.int r))) [.ref (ad 9 0)].toArray s 0 0 A) 4 9 [] [(0, .ref (ad 9 0)), (1, .int v1), (2, .int v2)] w := by
    intro k hk n
    induction n with
    | zero => intro w v1 v2 hf; rw [lp_X9_free_9] at hf; cases hf
    | succ n ih =>
      intro w v1 v2 hf _ _ ls hP hS hl
      rw [lp_X9_free_9] at hf
      refine lv_iload_n hx hb dX9_free_9 rfl (lv_at hl 2 rfl) ?_
      refine lv_aload_n hx hb dX9_free_10 rfl (lv_at hl 0 rfl) ?_
      refine gt_9_27 (i := 0) C hP (hok.2.1 9 0 (Nat.le_of_ble_eq_true rfl)) lk_X9_250 dX9_free_11 ?_
      refine lv_icmp_ge (tgt := 83) hx hb dX9_free_14 (by decide) (fun c12 => ?_) (fun c12 => ?_)
      · have hf := ifp hf c12
        exact hk w v1 hf _ _ ls hP hS (lv_sub hl [1] rfl)
      · have hf := ifn hf c12
        refine lv_iload_n hx hb dX9_free_17 rfl (lv_at hl 2 rfl) ?_
        refine lv_iconst (v := (1 : Int32)) hx hb dX9_free_18 (by decide) ?_
        refine lv_iadd hx hb dX9_free_19 ?_
        refine lv_istore_n (lv' := [(3, .int (v2 + (1 : Int32))), (0, .ref (ad 9 0)), (1, .int v1), (2, .int v2)]) hx hb dX9_free_20 rfl hl (by decide) rfl (fun ls hl => ?_)
        exact L_lp_X9_free_21 v2 _ (fun w_2 u1_2 hf H locs ls hP hS hl => P_f_X9_free_77_9 _ ih _ hk w_2 u1_2 v2 hf _ _ ls hP hS (lv_sub hl [0, 1, 2] rfl)) N w v1 (v2 + (1 : Int32)) hf _ _ ls hP hS (lv_sub hl [1, 2, 3, 0] rfl)
  unfold f_X9_free at hf
  -- walk
  refine lv_aload_n hx hb dX9_free_0 rfl (lv_at hl 0 rfl) ?_
  refine lv_iconst (v := (0 : Int32)) hx hb dX9_free_1 (by decide) ?_
  refine pt_9_0 (i := 0) (v := (0 : Int32)) C hok.1 hP hS (hok.2.1 9 0 (Nat.le_of_ble_eq_true rfl)) lk_X9_103 dX9_free_2 (fun H locs hP hS => ?_)
  refine lv_iconst (v := (0 : Int32)) hx hb dX9_free_5 (by decide) ?_
  refine lv_istore_n (lv' := [(1, .int (0 : Int32)), (0, .ref (ad 9 0))]) hx hb dX9_free_6 rfl hl (by decide) rfl (fun ls hl => ?_)
  refine lv_iconst (v := (0 : Int32)) hx hb dX9_free_7 (by decide) ?_
  refine lv_istore_n (lv' := [(2, .int (0 : Int32)), (1, .int (0 : Int32)), (0, .ref (ad 9 0))]) hx hb dX9_free_8 rfl hl (by decide) rfl (fun ls hl => ?_)
  exact L_lp_X9_free_9 _ (fun w_1 u1_1 hf H locs ls hP hS hl => P_f_X9_free_83 w_1 u1_1 hf _ _ ls hP hS (lv_sub hl [0] rfl)) N (sF w 9 0 0 (0 : Int32)) (0 : Int32) (0 : Int32) hf _ _ ls hP hS (lv_sub hl [2, 1, 0] rfl)
def f_X9_acts (N : Nat) (w : Mem) (x1 : Int32) (x2 : Int32) (x3 : Int32) (x4 : Int32) (x5 : Int32) : Option (Mem) :=
  (if inb (gF w 9 8 0) 96 = true then (if inb ((4 : Int32) * (gF (sA w 42 0 (gF w 9 8 0).toNatClampNeg x1) 9 8 0)) 384 = true then (if inb (((4 : Int32) * (gF (sA (sA w 42 0 (gF w 9 8 0).toNatClampNeg x1) 43 0 ((4 : Int32) * (gF (sA w 42 0 (gF w 9 8 0).toNatClampNeg x1) 9 8 0)).toNatClampNeg x2) 9 8 0)) + (1 : Int32)) 384 = true then (if inb (((4 : Int32) * (gF (sA (sA (sA w 42 0 (gF w 9 8 0).toNatClampNeg x1) 43 0 ((4 : Int32) * (gF (sA w 42 0 (gF w 9 8 0).toNatClampNeg x1) 9 8 0)).toNatClampNeg x2) 43 0 (((4 : Int32) * (gF (sA (sA w 42 0 (gF w 9 8 0).toNatClampNeg x1) 43 0 ((4 : Int32) * (gF (sA w 42 0 (gF w 9 8 0).toNatClampNeg x1) 9 8 0)).toNatClampNeg x2) 9 8 0)) + (1 : Int32)).toNatClampNeg x3) 9 8 0)) + (2 : Int32)) 384 = true then (if inb (((4 : Int32) * (gF (sA (sA (sA (sA w 42 0 (gF w 9 8 0).toNatClampNeg x1) 43 0 ((4 : Int32) * (gF (sA w 42 0 (gF w 9 8 0).toNatClampNeg x1) 9 8 0)).toNatClampNeg x2) 43 0 (((4 : Int32) * (gF (sA (sA w 42 0 (gF w 9 8 0).toNatClampNeg x1) 43 0 ((4 : Int32) * (gF (sA w 42 0 (gF w 9 8 0).toNatClampNeg x1) 9 8 0)).toNatClampNeg x2) 9 8 0)) + (1 : Int32)).toNatClampNeg x3) 43 0 (((4 : Int32) * (gF (sA (sA (sA w 42 0 (gF w 9 8 0).toNatClampNeg x1) 43 0 ((4 : Int32) * (gF (sA w 42 0 (gF w 9 8 0).toNatClampNeg x1) 9 8 0)).toNatClampNeg x2) 43 0 (((4 : Int32) * (gF (sA (sA w 42 0 (gF w 9 8 0).toNatClampNeg x1) 43 0 ((4 : Int32) * (gF (sA w 42 0 (gF w 9 8 0).toNatClampNeg x1) 9 8 0)).toNatClampNeg x2) 9 8 0)) + (1 : Int32)).toNatClampNeg x3) 9 8 0)) + (2 : Int32)).toNatClampNeg x4) 9 8 0)) + (3 : Int32)) 384 = true then (Option.bind (f_X9_comes N (sA (sA (sA (sA (sA w 42 0 (gF w 9 8 0).toNatClampNeg x1) 43 0 ((4 : Int32) * (gF (sA w 42 0 (gF w 9 8 0).toNatClampNeg x1) 9 8 0)).toNatClampNeg x2) 43 0 (((4 : Int32) * (gF (sA (sA w 42 0 (gF w 9 8 0).toNatClampNeg x1) 43 0 ((4 : Int32) * (gF (sA w 42 0 (gF w 9 8 0).toNatClampNeg x1) 9 8 0)).toNatClampNeg x2) 9 8 0)) + (1 : Int32)).toNatClampNeg x3) 43 0 (((4 : Int32) * (gF (sA (sA (sA w 42 0 (gF w 9 8 0).toNatClampNeg x1) 43 0 ((4 : Int32) * (gF (sA w 42 0 (gF w 9 8 0).toNatClampNeg x1) 9 8 0)).toNatClampNeg x2) 43 0 (((4 : Int32) * (gF (sA (sA w 42 0 (gF w 9 8 0).toNatClampNeg x1) 43 0 ((4 : Int32) * (gF (sA w 42 0 (gF w 9 8 0).toNatClampNeg x1) 9 8 0)).toNatClampNeg x2) 9 8 0)) + (1 : Int32)).toNatClampNeg x3) 9 8 0)) + (2 : Int32)).toNatClampNeg x4) 43 0 (((4 : Int32) * (gF (sA (sA (sA (sA w 42 0 (gF w 9 8 0).toNatClampNeg x1) 43 0 ((4 : Int32) * (gF (sA w 42 0 (gF w 9 8 0).toNatClampNeg x1) 9 8 0)).toNatClampNeg x2) 43 0 (((4 : Int32) * (gF (sA (sA w 42 0 (gF w 9 8 0).toNatClampNeg x1) 43 0 ((4 : Int32) * (gF (sA w 42 0 (gF w 9 8 0).toNatClampNeg x1) 9 8 0)).toNatClampNeg x2) 9 8 0)) + (1 : Int32)).toNatClampNeg x3) 43 0 (((4 : Int32) * (gF (sA (sA (sA w 42 0 (gF w 9 8 0).toNatClampNeg x1) 43 0 ((4 : Int32) * (gF (sA w 42 0 (gF w 9 8 0).toNatClampNeg x1) 9 8 0)).toNatClampNeg x2) 43 0 (((4 : Int32) * (gF (sA (sA w 42 0 (gF w 9 8 0).toNatClampNeg x1) 43 0 ((4 : Int32) * (gF (sA w 42 0 (gF w 9 8 0).toNatClampNeg x1) 9 8 0)).toNatClampNeg x2) 9 8 0)) + (1 : Int32)).toNatClampNeg x3) 9 8 0)) + (2 : Int32)).toNatClampNeg x4) 9 8 0)) + (3 : Int32)).toNatClampNeg x5) (gF (sA (sA (sA (sA (sA w 42 0 (gF w 9 8 0).toNatClampNeg x1) 43 0 ((4 : Int32) * (gF (sA w 42 0 (gF w 9 8 0).toNatClampNeg x1) 9 8 0)).toNatClampNeg x2) 43 0 (((4 : Int32) * (gF (sA (sA w 42 0 (gF w 9 8 0).toNatClampNeg x1) 43 0 ((4 : Int32) * (gF (sA w 42 0 (gF w 9 8 0).toNatClampNeg x1) 9 8 0)).toNatClampNeg x2) 9 8 0)) + (1 : Int32)).toNatClampNeg x3) 43 0 (((4 : Int32) * (gF (sA (sA (sA w 42 0 (gF w 9 8 0).toNatClampNeg x1) 43 0 ((4 : Int32) * (gF (sA w 42 0 (gF w 9 8 0).toNatClampNeg x1) 9 8 0)).toNatClampNeg x2) 43 0 (((4 : Int32) * (gF (sA (sA w 42 0 (gF w 9 8 0).toNatClampNeg x1) 43 0 ((4 : Int32) * (gF (sA w 42 0 (gF w 9 8 0).toNatClampNeg x1) 9 8 0)).toNatClampNeg x2) 9 8 0)) + (1 : Int32)).toNatClampNeg x3) 9 8 0)) + (2 : Int32)).toNatClampNeg x4) 43 0 (((4 : Int32) * (gF (sA (sA (sA (sA w 42 0 (gF w 9 8 0).toNatClampNeg x1) 43 0 ((4 : Int32) * (gF (sA w 42 0 (gF w 9 8 0).toNatClampNeg x1) 9 8 0)).toNatClampNeg x2) 43 0 (((4 : Int32) * (gF (sA (sA w 42 0 (gF w 9 8 0).toNatClampNeg x1) 43 0 ((4 : Int32) * (gF (sA w 42 0 (gF w 9 8 0).toNatClampNeg x1) 9 8 0)).toNatClampNeg x2) 9 8 0)) + (1 : Int32)).toNatClampNeg x3) 43 0 (((4 : Int32) * (gF (sA (sA (sA w 42 0 (gF w 9 8 0).toNatClampNeg x1) 43 0 ((4 : Int32) * (gF (sA w 42 0 (gF w 9 8 0).toNatClampNeg x1) 9 8 0)).toNatClampNeg x2) 43 0 (((4 : Int32) * (gF (sA (sA w 42 0 (gF w 9 8 0).toNatClampNeg x1) 43 0 ((4 : Int32) * (gF (sA w 42 0 (gF w 9 8 0).toNatClampNeg x1) 9 8 0)).toNatClampNeg x2) 9 8 0)) + (1 : Int32)).toNatClampNeg x3) 9 8 0)) + (2 : Int32)).toNatClampNeg x4) 9 8 0)) + (3 : Int32)).toNatClampNeg x5) 9 8 0)) (fun z6 => some (sF z6 9 8 0 ((gF z6 9 8 0) + (1 : Int32))))) else none) else none) else none) else none) else none)
set_option maxRecDepth 100000 in
set_option maxHeartbeats 4000000 in
theorem c_X9_acts (l : Launch) (D : va_G) (ca : Nat → ClassId) (ad : Nat → Nat → Nat) (PL : List (Nat × Nat)) (Z : State → Prop) (A : Nat → Prop) (hok : okc bM Z A ad PL) (N : Nat) (w : Mem) (x1 : Int32) (x2 : Int32) (x3 : Int32) (x4 : Int32) (x5 : Int32) (w' : Mem) (hf : f_X9_acts N w x1 x2 x3 x4 x5 = some w') : CT l yX9_acts (wsy yX9_acts cX9_acts 6 none) (rmk 7) D ca ad PL Z A [.ref (ad 9 0), .int x1, .int x2, .int x3, .int x4, .int x5] w w' none := by
  refine Met.ofW (cc := cX9_acts) (maxL := 6) (ret := none) (by decide +kernel) rfl ?_
  intro p e s m args below meth c s₁ B hml hv
  obtain ⟨rfl, hP, hK, hZ⟩ := hv
  have hx := B.exec
  have hb := B.bytes
  have hr := B.returns
  have hlocks := B.notSynchronized
  have hts : ∀ w ∈ ALL, w.before _ s = true := fun w hw => atoms_spec (ws := wsy yX9_acts cX9_acts 6 none) B.pre w (List.mem_cons_of_mem _ hw)
  have hown : s.vm.findClass RX9 = some m.cls := findClass_of_methodNamed B.named
  have C : CX p s m _ c cX9_acts RX9 6 D ca Z := ⟨hx, hb, hml, hown, hts, hK, hZ⟩
  have hS : va_S A s.heap s.heap [] := va_S.rf
  have hl := lv_entry ([.ref (ad 9 0), .int x1, .int x2, .int x3, .int x4, .int x5]) (n := 6) (Nat.le_of_ble_eq_true rfl)
  rw [lg_entry_eq]
  generalize (lg_sl ([.ref (ad 9 0), .int x1, .int x2, .int x3, .int x4, .int x5]) ++ List.replicate (6 - (lg_sl ([.ref (ad 9 0), .int x1, .int x2, .int x3, .int x4, .int x5])).length) Slot.unset).toArray = ls at hl ⊢
  have hl : lv_has ls 6 [(0, .ref (ad 9 0)), (1, .int x1), (2, .int x2), (3, .int x3), (4, .int x4), (5, .int x5)] := hl
  show W p l e (rmk 7) s m _ below meth c s.heap [] 0 0 _ _
  unfold f_X9_acts at hf
  -- walk
  refine lv_aload_n hx hb dX9_acts_0 rfl (lv_at hl 0 rfl) ?_
  refine gt_9_10 (i := 0) C hP (hok.2.1 9 0 (Nat.le_of_ble_eq_true rfl)) lk_X9_20 dX9_acts_1 ?_
  refine lv_aload_n hx hb dX9_acts_4 rfl (lv_at hl 0 rfl) ?_
  refine gt_9_8 (i := 0) C hP (hok.2.1 9 0 (Nat.le_of_ble_eq_true rfl)) lk_X9_238 dX9_acts_5 ?_
  refine lv_iload_n hx hb dX9_acts_8 rfl (lv_at hl 1 rfl) ?_
  obtain ⟨b1, hf⟩ := gsp hf
  refine ra_ist (k := 42) (i := 0) (n := 96) C hok.1 hP hS (hok.2.1 42 0 (Nat.le_of_ble_eq_true rfl)) (fun _ => rfl) b1 dX9_acts_9 (fun H locs hP hS => ?_)
  refine lv_aload_n hx hb dX9_acts_10 rfl (lv_at hl 0 rfl) ?_
  refine gt_9_11 (i := 0) C hP (hok.2.1 9 0 (Nat.le_of_ble_eq_true rfl)) lk_X9_23 dX9_acts_11 ?_
  refine lv_iconst (v := (4 : Int32)) hx hb dX9_acts_14 (by decide) ?_
  refine lv_aload_n hx hb dX9_acts_15 rfl (lv_at hl 0 rfl) ?_
  refine gt_9_8 (i := 0) C hP (hok.2.1 9 0 (Nat.le_of_ble_eq_true rfl)) lk_X9_238 dX9_acts_16 ?_
  refine lv_imul hx hb dX9_acts_19 ?_
  refine lv_iload_n hx hb dX9_acts_20 rfl (lv_at hl 2 rfl) ?_
  obtain ⟨b2, hf⟩ := gsp hf
  refine ra_ist (k := 43) (i := 0) (n := 384) C hok.1 hP hS (hok.2.1 43 0 (Nat.le_of_ble_eq_true rfl)) (fun _ => rfl) b2 dX9_acts_21 (fun H locs hP hS => ?_)
  refine lv_aload_n hx hb dX9_acts_22 rfl (lv_at hl 0 rfl) ?_
  refine gt_9_11 (i := 0) C hP (hok.2.1 9 0 (Nat.le_of_ble_eq_true rfl)) lk_X9_23 dX9_acts_23 ?_
  refine lv_iconst (v := (4 : Int32)) hx hb dX9_acts_26 (by decide) ?_
  refine lv_aload_n hx hb dX9_acts_27 rfl (lv_at hl 0 rfl) ?_
  refine gt_9_8 (i := 0) C hP (hok.2.1 9 0 (Nat.le_of_ble_eq_true rfl)) lk_X9_238 dX9_acts_28 ?_
  refine lv_imul hx hb dX9_acts_31 ?_
  refine lv_iconst (v := (1 : Int32)) hx hb dX9_acts_32 (by decide) ?_
  refine lv_iadd hx hb dX9_acts_33 ?_
  refine lv_iload_n hx hb dX9_acts_34 rfl (lv_at hl 3 rfl) ?_
  obtain ⟨b3, hf⟩ := gsp hf
  refine ra_ist (k := 43) (i := 0) (n := 384) C hok.1 hP hS (hok.2.1 43 0 (Nat.le_of_ble_eq_true rfl)) (fun _ => rfl) b3 dX9_acts_35 (fun H locs hP hS => ?_)
  refine lv_aload_n hx hb dX9_acts_36 rfl (lv_at hl 0 rfl) ?_
  refine gt_9_11 (i := 0) C hP (hok.2.1 9 0 (Nat.le_of_ble_eq_true rfl)) lk_X9_23 dX9_acts_37 ?_
  refine lv_iconst (v := (4 : Int32)) hx hb dX9_acts_40 (by decide) ?_
  refine lv_aload_n hx hb dX9_acts_41 rfl (lv_at hl 0 rfl) ?_
  refine gt_9_8 (i := 0) C hP (hok.2.1 9 0 (Nat.le_of_ble_eq_true rfl)) lk_X9_238 dX9_acts_42 ?_
  refine lv_imul hx hb dX9_acts_45 ?_
  refine lv_iconst (v := (2 : Int32)) hx hb dX9_acts_46 (by decide) ?_
  refine lv_iadd hx hb dX9_acts_47 ?_
  refine lv_iload hx hb dX9_acts_48 (lv_at hl 4 rfl) ?_
  obtain ⟨b4, hf⟩ := gsp hf
  refine ra_ist (k := 43) (i := 0) (n := 384) C hok.1 hP hS (hok.2.1 43 0 (Nat.le_of_ble_eq_true rfl)) (fun _ => rfl) b4 dX9_acts_50 (fun H locs hP hS => ?_)
  refine lv_aload_n hx hb dX9_acts_51 rfl (lv_at hl 0 rfl) ?_
  refine gt_9_11 (i := 0) C hP (hok.2.1 9 0 (Nat.le_of_ble_eq_true rfl)) lk_X9_23 dX9_acts_52 ?_
  refine lv_iconst (v := (4 : Int32)) hx hb dX9_acts_55 (by decide) ?_
  refine lv_aload_n hx hb dX9_acts_56 rfl (lv_at hl 0 rfl) ?_
  refine gt_9_8 (i := 0) C hP (hok.2.1 9 0 (Nat.le_of_ble_eq_true rfl)) lk_X9_238 dX9_acts_57 ?_
  refine lv_imul hx hb dX9_acts_60 ?_
  refine lv_iconst (v := (3 : Int32)) hx hb dX9_acts_61 (by decide) ?_
  refine lv_iadd hx hb dX9_acts_62 ?_
  refine lv_iload hx hb dX9_acts_63 (lv_at hl 5 rfl) ?_
  obtain ⟨b5, hf⟩ := gsp hf
  refine ra_ist (k := 43) (i := 0) (n := 384) C hok.1 hP hS (hok.2.1 43 0 (Nat.le_of_ble_eq_true rfl)) (fun _ => rfl) b5 dX9_acts_65 (fun H locs hP hS => ?_)
  refine lv_aload_n hx hb dX9_acts_66 rfl (lv_at hl 0 rfl) ?_
  refine lv_aload_n hx hb dX9_acts_67 rfl (lv_at hl 0 rfl) ?_
  refine gt_9_8 (i := 0) C hP (hok.2.1 9 0 (Nat.le_of_ble_eq_true rfl)) lk_X9_238 dX9_acts_68 ?_
  obtain ⟨z6, q7, hf⟩ := bsp hf
  refine kc_V (ci := 9) (i := 0) (As := [.int (gF (sA (sA (sA (sA (sA w 42 0 (gF w 9 8 0).toNatClampNeg x1) 43 0 ((4 : Int32) * (gF (sA w 42 0 (gF w 9 8 0).toNatClampNeg x1) 9 8 0)).toNatClampNeg x2) 43 0 (((4 : Int32) * (gF (sA (sA w 42 0 (gF w 9 8 0).toNatClampNeg x1) 43 0 ((4 : Int32) * (gF (sA w 42 0 (gF w 9 8 0).toNatClampNeg x1) 9 8 0)).toNatClampNeg x2) 9 8 0)) + (1 : Int32)).toNatClampNeg x3) 43 0 (((4 : Int32) * (gF (sA (sA (sA w 42 0 (gF w 9 8 0).toNatClampNeg x1) 43 0 ((4 : Int32) * (gF (sA w 42 0 (gF w 9 8 0).toNatClampNeg x1) 9 8 0)).toNatClampNeg x2) 43 0 (((4 : Int32) * (gF (sA (sA w 42 0 (gF w 9 8 0).toNatClampNeg x1) 43 0 ((4 : Int32) * (gF (sA w 42 0 (gF w 9 8 0).toNatClampNeg x1) 9 8 0)).toNatClampNeg x2) 9 8 0)) + (1 : Int32)).toNatClampNeg x3) 9 8 0)) + (2 : Int32)).toNatClampNeg x4) 43 0 (((4 : Int32) * (gF (sA (sA (sA (sA w 42 0 (gF w 9 8 0).toNatClampNeg x1) 43 0 ((4 : Int32) * (gF (sA w 42 0 (gF w 9 8 0).toNatClampNeg x1) 9 8 0)).toNatClampNeg x2) 43 0 (((4 : Int32) * (gF (sA (sA w 42 0 (gF w 9 8 0).toNatClampNeg x1) 43 0 ((4 : Int32) * (gF (sA w 42 0 (gF w 9 8 0).toNatClampNeg x1) 9 8 0)).toNatClampNeg x2) 9 8 0)) + (1 : Int32)).toNatClampNeg x3) 43 0 (((4 : Int32) * (gF (sA (sA (sA w 42 0 (gF w 9 8 0).toNatClampNeg x1) 43 0 ((4 : Int32) * (gF (sA w 42 0 (gF w 9 8 0).toNatClampNeg x1) 9 8 0)).toNatClampNeg x2) 43 0 (((4 : Int32) * (gF (sA (sA w 42 0 (gF w 9 8 0).toNatClampNeg x1) 43 0 ((4 : Int32) * (gF (sA w 42 0 (gF w 9 8 0).toNatClampNeg x1) 9 8 0)).toNatClampNeg x2) 9 8 0)) + (1 : Int32)).toNatClampNeg x3) 9 8 0)) + (2 : Int32)).toNatClampNeg x4) 9 8 0)) + (3 : Int32)).toNatClampNeg x5) 9 8 0)]) (rest := []) hok.2.2 C hP hS hl.1 (hok.2.1 9 0 (Nat.le_of_ble_eq_true rfl)) rfl rfl cw_X9_comes ml_X9_300 (c_X9_comes l D ca ad PL Z A hok N (sA (sA (sA (sA (sA w 42 0 (gF w 9 8 0).toNatClampNeg x1) 43 0 ((4 : Int32) * (gF (sA w 42 0 (gF w 9 8 0).toNatClampNeg x1) 9 8 0)).toNatClampNeg x2) 43 0 (((4 : Int32) * (gF (sA (sA w 42 0 (gF w 9 8 0).toNatClampNeg x1) 43 0 ((4 : Int32) * (gF (sA w 42 0 (gF w 9 8 0).toNatClampNeg x1) 9 8 0)).toNatClampNeg x2) 9 8 0)) + (1 : Int32)).toNatClampNeg x3) 43 0 (((4 : Int32) * (gF (sA (sA (sA w 42 0 (gF w 9 8 0).toNatClampNeg x1) 43 0 ((4 : Int32) * (gF (sA w 42 0 (gF w 9 8 0).toNatClampNeg x1) 9 8 0)).toNatClampNeg x2) 43 0 (((4 : Int32) * (gF (sA (sA w 42 0 (gF w 9 8 0).toNatClampNeg x1) 43 0 ((4 : Int32) * (gF (sA w 42 0 (gF w 9 8 0).toNatClampNeg x1) 9 8 0)).toNatClampNeg x2) 9 8 0)) + (1 : Int32)).toNatClampNeg x3) 9 8 0)) + (2 : Int32)).toNatClampNeg x4) 43 0 (((4 : Int32) * (gF (sA (sA (sA (sA w 42 0 (gF w 9 8 0).toNatClampNeg x1) 43 0 ((4 : Int32) * (gF (sA w 42 0 (gF w 9 8 0).toNatClampNeg x1) 9 8 0)).toNatClampNeg x2) 43 0 (((4 : Int32) * (gF (sA (sA w 42 0 (gF w 9 8 0).toNatClampNeg x1) 43 0 ((4 : Int32) * (gF (sA w 42 0 (gF w 9 8 0).toNatClampNeg x1) 9 8 0)).toNatClampNeg x2) 9 8 0)) + (1 : Int32)).toNatClampNeg x3) 43 0 (((4 : Int32) * (gF (sA (sA (sA w 42 0 (gF w 9 8 0).toNatClampNeg x1) 43 0 ((4 : Int32) * (gF (sA w 42 0 (gF w 9 8 0).toNatClampNeg x1) 9 8 0)).toNatClampNeg x2) 43 0 (((4 : Int32) * (gF (sA (sA w 42 0 (gF w 9 8 0).toNatClampNeg x1) 43 0 ((4 : Int32) * (gF (sA w 42 0 (gF w 9 8 0).toNatClampNeg x1) 9 8 0)).toNatClampNeg x2) 9 8 0)) + (1 : Int32)).toNatClampNeg x3) 9 8 0)) + (2 : Int32)).toNatClampNeg x4) 9 8 0)) + (3 : Int32)).toNatClampNeg x5) (gF (sA (sA (sA (sA (sA w 42 0 (gF w 9 8 0).toNatClampNeg x1) 43 0 ((4 : Int32) * (gF (sA w 42 0 (gF w 9 8 0).toNatClampNeg x1) 9 8 0)).toNatClampNeg x2) 43 0 (((4 : Int32) * (gF (sA (sA w 42 0 (gF w 9 8 0).toNatClampNeg x1) 43 0 ((4 : Int32) * (gF (sA w 42 0 (gF w 9 8 0).toNatClampNeg x1) 9 8 0)).toNatClampNeg x2) 9 8 0)) + (1 : Int32)).toNatClampNeg x3) 43 0 (((4 : Int32) * (gF (sA (sA (sA w 42 0 (gF w 9 8 0).toNatClampNeg x1) 43 0 ((4 : Int32) * (gF (sA w 42 0 (gF w 9 8 0).toNatClampNeg x1) 9 8 0)).toNatClampNeg x2) 43 0 (((4 : Int32) * (gF (sA (sA w 42 0 (gF w 9 8 0).toNatClampNeg x1) 43 0 ((4 : Int32) * (gF (sA w 42 0 (gF w 9 8 0).toNatClampNeg x1) 9 8 0)).toNatClampNeg x2) 9 8 0)) + (1 : Int32)).toNatClampNeg x3) 9 8 0)) + (2 : Int32)).toNatClampNeg x4) 43 0 (((4 : Int32) * (gF (sA (sA (sA (sA w 42 0 (gF w 9 8 0).toNatClampNeg x1) 43 0 ((4 : Int32) * (gF (sA w 42 0 (gF w 9 8 0).toNatClampNeg x1) 9 8 0)).toNatClampNeg x2) 43 0 (((4 : Int32) * (gF (sA (sA w 42 0 (gF w 9 8 0).toNatClampNeg x1) 43 0 ((4 : Int32) * (gF (sA w 42 0 (gF w 9 8 0).toNatClampNeg x1) 9 8 0)).toNatClampNeg x2) 9 8 0)) + (1 : Int32)).toNatClampNeg x3) 43 0 (((4 : Int32) * (gF (sA (sA (sA w 42 0 (gF w 9 8 0).toNatClampNeg x1) 43 0 ((4 : Int32) * (gF (sA w 42 0 (gF w 9 8 0).toNatClampNeg x1) 9 8 0)).toNatClampNeg x2) 43 0 (((4 : Int32) * (gF (sA (sA w 42 0 (gF w 9 8 0).toNatClampNeg x1) 43 0 ((4 : Int32) * (gF (sA w 42 0 (gF w 9 8 0).toNatClampNeg x1) 9 8 0)).toNatClampNeg x2) 9 8 0)) + (1 : Int32)).toNatClampNeg x3) 9 8 0)) + (2 : Int32)).toNatClampNeg x4) 9 8 0)) + (3 : Int32)).toNatClampNeg x5) 9 8 0) z6 q7) rfl ⟨rfl, rfl⟩ ⟨Nat.le_of_ble_eq_true rfl, Nat.le_of_ble_eq_true rfl⟩ ⟨Nat.zero_le _, Nat.zero_le _⟩ (Nat.le_of_ble_eq_true rfl) rfl dX9_acts_71 (fun H locs hP hS => ?_)
  refine lv_aload_n hx hb dX9_acts_74 rfl (lv_at hl 0 rfl) ?_
  refine lv_dup hx hb dX9_acts_75 rfl ?_
  refine gt_9_8 (i := 0) C hP (hok.2.1 9 0 (Nat.le_of_ble_eq_true rfl)) lk_X9_238 dX9_acts_76 ?_
  refine lv_iconst (v := (1 : Int32)) hx hb dX9_acts_79 (by decide) ?_
  refine lv_iadd hx hb dX9_acts_80 ?_
  refine pt_9_8 (i := 0) (v := ((gF z6 9 8 0) + (1 : Int32))) C hok.1 hP hS (hok.2.1 9 0 (Nat.le_of_ble_eq_true rfl)) lk_X9_238 dX9_acts_81 (fun H locs hP hS => ?_)
  exact kr_v hok.2.2 C hlocks hr hP hS (Option.some.inj hf) dX9_acts_84
def f_X9_whyNotTwo (N : Nat) (w : Mem) (x1 : Int32) (x2 : Int32) (x3 : Int32) : Option (Int32) :=
  (Option.bind (f_X9_isTerm N w x1) (fun z1 => (if z1 = (0 : Int32) then
some (1 : Int32)
else
(Option.bind (f_X9_isTerm N w x2) (fun z3 => (if z3 = (0 : Int32) then
some (1 : Int32)
else
(if x3 = (0 : Int32) then
some (0 : Int32)
else
some (3 : Int32))))))))
set_option maxRecDepth 100000 in
set_option maxHeartbeats 4000000 in
theorem c_X9_whyNotTwo (l : Launch) (D : va_G) (ca : Nat → ClassId) (ad : Nat → Nat → Nat) (PL : List (Nat × Nat)) (Z : State → Prop) (A : Nat → Prop) (hok : okc bM Z A ad PL) (N : Nat) (w : Mem) (x1 : Int32) (x2 : Int32) (x3 : Int32) (r : Int32) (hf : f_X9_whyNotTwo N w x1 x2 x3 = some r) : CT l yX9_whyNotTwo (wsy yX9_whyNotTwo cX9_whyNotTwo 4 (some .int)) (rmk 2) D ca ad PL Z A [.ref (ad 9 0), .int x1, .int x2, .int x3] w w (some (.int r)) := by
  refine Met.ofW (cc := cX9_whyNotTwo) (maxL := 4) (ret := (some .int)) (by decide +kernel) rfl ?_
  intro p e s m args below meth c s₁ B hml hv
  obtain ⟨rfl, hP, hK, hZ⟩ := hv
  have hx := B.exec
  have hb := B.bytes
  have hr := B.returns
  have hlocks := B.notSynchronized
  have hts : ∀ w ∈ ALL, w.before _ s = true := fun w hw => atoms_spec (ws := wsy yX9_whyNotTwo cX9_whyNotTwo 4 (some .int)) B.pre w (List.mem_cons_of_mem _ hw)
  have hown : s.vm.findClass RX9 = some m.cls := findClass_of_methodNamed B.named
  have C : CX p s m _ c cX9_whyNotTwo RX9 4 D ca Z := ⟨hx, hb, hml, hown, hts, hK, hZ⟩
  have hS : va_S A s.heap s.heap [] := va_S.rf
  have hl := lv_entry ([.ref (ad 9 0), .int x1, .int x2, .int x3]) (n := 4) (Nat.le_of_ble_eq_true rfl)
  rw [lg_entry_eq]
  generalize (lg_sl ([.ref (ad 9 0), .int x1, .int x2, .int x3]) ++ List.replicate (4 - (lg_sl ([.ref (ad 9 0), .int x1, .int x2, .int x3])).length) Slot.unset).toArray = ls at hl ⊢
  have hl : lv_has ls 4 [(0, .ref (ad 9 0)), (1, .int x1), (2, .int x2), (3, .int x3)] := hl
  show W p l e (rmk 2) s m _ below meth c s.heap [] 0 0 _ _
  unfold f_X9_whyNotTwo at hf
  -- walk
  refine lv_aload_n hx hb dX9_whyNotTwo_0 rfl (lv_at hl 0 rfl) ?_
  refine lv_iload_n hx hb dX9_whyNotTwo_1 rfl (lv_at hl 1 rfl) ?_
  obtain ⟨z1, q2, hf⟩ := bsp hf
  refine kc_V (ci := 9) (i := 0) (As := [.int x1]) (rest := []) hok.2.2 C hP hS hl.1 (hok.2.1 9 0 (Nat.le_of_ble_eq_true rfl)) rfl rfl cw_X9_isTerm ml_X9_317 (c_X9_isTerm l D ca ad PL Z A hok N w x1 z1 q2) rfl ⟨rfl, rfl⟩ ⟨Nat.le_of_ble_eq_true rfl, Nat.le_of_ble_eq_true rfl⟩ ⟨Nat.zero_le _, Nat.zero_le _⟩ (Nat.le_of_ble_eq_true rfl) rfl dX9_whyNotTwo_2 (fun H locs hP hS => ?_)
  refine lv_if_eq (tgt := 16) hx hb dX9_whyNotTwo_5 (by decide) (fun c7 => ?_) (fun c7 => ?_)
  · have hf := ifp hf c7
    refine lv_iconst (v := (1 : Int32)) hx hb dX9_whyNotTwo_16 (by decide) ?_
    refine lv_goto (tgt := 29) hx hb dX9_whyNotTwo_17 (by decide) ?_
    exact kr_i hok.2.2 C hlocks hr rfl hP hS rfl (Option.some.inj hf) dX9_whyNotTwo_29
  · have hf := ifn hf c7
    refine lv_aload_n hx hb dX9_whyNotTwo_8 rfl (lv_at hl 0 rfl) ?_
    refine lv_iload_n hx hb dX9_whyNotTwo_9 rfl (lv_at hl 2 rfl) ?_
    obtain ⟨z3, q4, hf⟩ := bsp hf
    refine kc_V (ci := 9) (i := 0) (As := [.int x2]) (rest := []) hok.2.2 C hP hS hl.1 (hok.2.1 9 0 (Nat.le_of_ble_eq_true rfl)) rfl rfl cw_X9_isTerm ml_X9_317 (c_X9_isTerm l D ca ad PL Z A hok N w x2 z3 q4) rfl ⟨rfl, rfl⟩ ⟨Nat.le_of_ble_eq_true rfl, Nat.le_of_ble_eq_true rfl⟩ ⟨Nat.zero_le _, Nat.zero_le _⟩ (Nat.le_of_ble_eq_true rfl) rfl dX9_whyNotTwo_10 (fun H locs hP hS => ?_)
    refine lv_if_ne (tgt := 20) hx hb dX9_whyNotTwo_13 (by decide) (fun c6 => ?_) (fun c6 => ?_)
    · have hf := ifn hf c6
      refine lv_iload_n hx hb dX9_whyNotTwo_20 rfl (lv_at hl 3 rfl) ?_
      refine lv_if_eq (tgt := 28) hx hb dX9_whyNotTwo_21 (by decide) (fun c5 => ?_) (fun c5 => ?_)
      · have hf := ifp hf c5
        refine lv_iconst (v := (0 : Int32)) hx hb dX9_whyNotTwo_28 (by decide) ?_
        exact kr_i hok.2.2 C hlocks hr rfl hP hS rfl (Option.some.inj hf) dX9_whyNotTwo_29
      · have hf := ifn hf c5
        refine lv_iconst (v := (3 : Int32)) hx hb dX9_whyNotTwo_24 (by decide) ?_
        refine lv_goto (tgt := 29) hx hb dX9_whyNotTwo_25 (by decide) ?_
        exact kr_i hok.2.2 C hlocks hr rfl hP hS rfl (Option.some.inj hf) dX9_whyNotTwo_29
    · have hf := ifp hf c6
      refine lv_iconst (v := (1 : Int32)) hx hb dX9_whyNotTwo_16 (by decide) ?_
      refine lv_goto (tgt := 29) hx hb dX9_whyNotTwo_17 (by decide) ?_
      exact kr_i hok.2.2 C hlocks hr rfl hP hS rfl (Option.some.inj hf) dX9_whyNotTwo_29
def f_X9_join_18_s5 (N : Nat) (w : Mem)  (v1 : Int32) (v2 : Int32) (s0 : Int32) (s1 : Int32) (s2 : Int32) : Option (Mem × Int32) :=
  (Option.bind (f_X9_whyNotTwo N w s2 s1 s0) (fun z1 => (Option.bind (f_X9_isRefused N w z1) (fun z3 => (if z3.2 = (0 : Int32) then
(Option.bind (f_X9_acts N z3.1 (1 : Int32) v1 v2 (0 : Int32) (0 : Int32)) (fun z5 => (Option.bind (f_X9_groupsIn N z5 52) (fun z7 => some (z5, z7)))))
else
some (z3.1, (-1 : Int32)))))))
def f_X9_join (N : Nat) (w : Mem) (x1 : Int32) (x2 : Int32) : Option (Mem × Int32) :=
  (if (gF w 9 30 0) = (12 : Int32) then
(f_X9_join_18_s5 N w  x1 x2 (1 : Int32) x2 x1)
else
(f_X9_join_18_s5 N w  x1 x2 (0 : Int32) x2 x1))
set_option maxRecDepth 100000 in
set_option maxHeartbeats 4000000 in
theorem c_X9_join (l : Launch) (D : va_G) (ca : Nat → ClassId) (ad : Nat → Nat → Nat) (PL : List (Nat × Nat)) (Z : State → Prop) (A : Nat → Prop) (hok : okc bM Z A ad PL) (N : Nat) (w : Mem) (x1 : Int32) (x2 : Int32) (w' : Mem) (r : Int32) (hf : f_X9_join N w x1 x2 = some (w', r)) : CT l yX9_join (wsy yX9_join cX9_join 3 (some .int)) (rmk 8) D ca ad PL Z A [.ref (ad 9 0), .int x1, .int x2] w w' (some (.int r)) := by
  refine Met.ofW (cc := cX9_join) (maxL := 3) (ret := (some .int)) (by decide +kernel) rfl ?_
  intro p e s m args below meth c s₁ B hml hv
  obtain ⟨rfl, hP, hK, hZ⟩ := hv
  have hx := B.exec
  have hb := B.bytes
  have hr := B.returns
  have hlocks := B.notSynchronized
  have hts : ∀ w ∈ ALL, w.before _ s = true := fun w hw => atoms_spec (ws := wsy yX9_join cX9_join 3 (some .int)) B.pre w (List.mem_cons_of_mem _ hw)
  have hown : s.vm.findClass RX9 = some m.cls := findClass_of_methodNamed B.named
  have C : CX p s m _ c cX9_join RX9 3 D ca Z := ⟨hx, hb, hml, hown, hts, hK, hZ⟩
  have hS : va_S A s.heap s.heap [] := va_S.rf
  have hl := lv_entry ([.ref (ad 9 0), .int x1, .int x2]) (n := 3) (Nat.le_of_ble_eq_true rfl)
  rw [lg_entry_eq]
  generalize (lg_sl ([.ref (ad 9 0), .int x1, .int x2]) ++ List.replicate (3 - (lg_sl ([.ref (ad 9 0), .int x1, .int x2])).length) Slot.unset).toArray = ls at hl ⊢
  have hl : lv_has ls 3 [(0, .ref (ad 9 0)), (1, .int x1), (2, .int x2)] := hl
  show W p l e (rmk 8) s m _ below meth c s.heap [] 0 0 _ _
  have P_f_X9_join_18_s5 : ∀ (w : Mem) (v1 : Int32) (v2 : Int32) (s0 : Int32) (s1 : Int32) (s2 : Int32), f_X9_join_18_s5 N w  v1 v2 s0 s1 s2 = some (w', r) → WP p l e (rmk 8) s m [.ref (ad 9 0), .int x1, .int x2].toArray below meth c D ca ad PL A (MQ below (qcR D ca ad PL Z A w' (some (.int r))) [.ref (ad 9 0), .int x1, .int x2].toArray s 0 0 A) 3 18 [.int s0, .int s1, .int s2, .ref (ad 9 0), .ref (ad 9 0)] [(0, .ref (ad 9 0)), (1, .int v1), (2, .int v2)] w := by
    intro w v1 v2 s0 s1 s2 hf _ _ ls hP hS hl
    unfold f_X9_join_18_s5 at hf
    obtain ⟨z1, q2, hf⟩ := bsp hf
    refine kc_V (ci := 9) (i := 0) (As := [.int s2, .int s1, .int s0]) (rest := [.ref (ad 9 0)]) hok.2.2 C hP hS hl.1 (hok.2.1 9 0 (Nat.le_of_ble_eq_true rfl)) rfl rfl cw_X9_whyNotTwo ml_X9_387 (c_X9_whyNotTwo l D ca ad PL Z A hok N w s2 s1 s0 z1 q2) rfl ⟨rfl, rfl⟩ ⟨Nat.le_of_ble_eq_true rfl, Nat.le_of_ble_eq_true rfl⟩ ⟨Nat.zero_le _, Nat.zero_le _⟩ (Nat.le_of_ble_eq_true rfl) rfl dX9_join_18 (fun H locs hP hS => ?_)
    obtain ⟨z3, q4, hf⟩ := bsp hf
    refine kc_V (ci := 9) (i := 0) (As := [.int z1]) (rest := []) hok.2.2 C hP hS hl.1 (hok.2.1 9 0 (Nat.le_of_ble_eq_true rfl)) rfl rfl cw_X9_isRefused ml_X9_223 (c_X9_isRefused l D ca ad PL Z A hok N w z1 z3.1 z3.2 q4) rfl ⟨rfl, rfl⟩ ⟨Nat.le_of_ble_eq_true rfl, Nat.le_of_ble_eq_true rfl⟩ ⟨Nat.zero_le _, Nat.zero_le _⟩ (Nat.le_of_ble_eq_true rfl) rfl dX9_join_21 (fun H locs hP hS => ?_)
    refine lv_if_eq (tgt := 29) hx hb dX9_join_24 (by decide) (fun c9 => ?_) (fun c9 => ?_)
    · have hf := ifp hf c9
      refine lv_aload_n hx hb dX9_join_29 rfl (lv_at hl 0 rfl) ?_
      refine lv_iconst (v := (1 : Int32)) hx hb dX9_join_30 (by decide) ?_
      refine lv_iload_n hx hb dX9_join_31 rfl (lv_at hl 1 rfl) ?_
      refine lv_iload_n hx hb dX9_join_32 rfl (lv_at hl 2 rfl) ?_
      refine lv_iconst (v := (0 : Int32)) hx hb dX9_join_33 (by decide) ?_
      refine lv_iconst (v := (0 : Int32)) hx hb dX9_join_34 (by decide) ?_
      obtain ⟨z5, q6, hf⟩ := bsp hf
      refine kc_V (ci := 9) (i := 0) (As := [.int (1 : Int32), .int v1, .int v2, .int (0 : Int32), .int (0 : Int32)]) (rest := []) hok.2.2 C hP hS hl.1 (hok.2.1 9 0 (Nat.le_of_ble_eq_true rfl)) rfl rfl cw_X9_acts ml_X9_391 (c_X9_acts l D ca ad PL Z A hok N z3.1 (1 : Int32) v1 v2 (0 : Int32) (0 : Int32) z5 q6) rfl ⟨rfl, rfl⟩ ⟨Nat.le_of_ble_eq_true rfl, Nat.le_of_ble_eq_true rfl⟩ ⟨Nat.zero_le _, Nat.zero_le _⟩ (Nat.le_of_ble_eq_true rfl) rfl dX9_join_35 (fun H locs hP hS => ?_)
      refine lv_aload_n hx hb dX9_join_38 rfl (lv_at hl 0 rfl) ?_
      refine lv_aload_n hx hb dX9_join_39 rfl (lv_at hl 0 rfl) ?_
      refine gt_9_36 (i := 0) C hP (hok.2.1 9 0 (Nat.le_of_ble_eq_true rfl)) lk_X9_50 dX9_join_40 ?_
      obtain ⟨z7, q8, hf⟩ := bsp hf
      refine kc_V (ci := 9) (i := 0) (As := [.ref (ad 52 0)]) (rest := []) hok.2.2 C hP hS hl.1 (hok.2.1 9 0 (Nat.le_of_ble_eq_true rfl)) rfl rfl cw_X9_groupsIn ml_X9_310 (c_X9_groupsIn l D ca ad PL Z A hok N z5 52 (Nat.le_of_ble_eq_true rfl) rfl rfl z7 q8) rfl ⟨rfl, rfl⟩ ⟨Nat.le_of_ble_eq_true rfl, Nat.le_of_ble_eq_true rfl⟩ ⟨Nat.zero_le _, Nat.zero_le _⟩ (Nat.le_of_ble_eq_true rfl) rfl dX9_join_43 (fun H locs hP hS => ?_)
      exact kr_i hok.2.2 C hlocks hr rfl hP hS (congrArg Prod.fst (Option.some.inj hf)) (congrArg Prod.snd (Option.some.inj hf)) dX9_join_46
    · have hf := ifn hf c9
      refine lv_iconst (v := (-1 : Int32)) hx hb dX9_join_27 (by decide) ?_
      exact kr_i hok.2.2 C hlocks hr rfl hP hS (congrArg Prod.fst (Option.some.inj hf)) (congrArg Prod.snd (Option.some.inj hf)) dX9_join_28
  unfold f_X9_join at hf
  -- walk
  refine lv_aload_n hx hb dX9_join_0 rfl (lv_at hl 0 rfl) ?_
  refine lv_aload_n hx hb dX9_join_1 rfl (lv_at hl 0 rfl) ?_
  refine lv_iload_n hx hb dX9_join_2 rfl (lv_at hl 1 rfl) ?_
  refine lv_iload_n hx hb dX9_join_3 rfl (lv_at hl 2 rfl) ?_
  refine lv_aload_n hx hb dX9_join_4 rfl (lv_at hl 0 rfl) ?_
  refine gt_9_30 (i := 0) C hP (hok.2.1 9 0 (Nat.le_of_ble_eq_true rfl)) lk_X9_287 dX9_join_5 ?_
  refine lv_bipush (v := (12 : Int32)) hx hb dX9_join_8 (by decide) ?_
  refine lv_icmp_ne (tgt := 17) hx hb dX9_join_10 (by decide) (fun c10 => ?_) (fun c10 => ?_)
  · have hf := ifn hf c10
    refine lv_iconst (v := (0 : Int32)) hx hb dX9_join_17 (by decide) ?_
    exact P_f_X9_join_18_s5 w x1 x2 (0 : Int32) x2 x1 hf _ _ ls hP hS (lv_sub hl [0, 1, 2] rfl)
  · have hf := ifp hf c10
    refine lv_iconst (v := (1 : Int32)) hx hb dX9_join_13 (by decide) ?_
    refine lv_goto (tgt := 18) hx hb dX9_join_14 (by decide) ?_
    exact P_f_X9_join_18_s5 w x1 x2 (1 : Int32) x2 x1 hf _ _ ls hP hS (lv_sub hl [0, 1, 2] rfl)
def f_X9_part_18_s5 (N : Nat) (w : Mem)  (v1 : Int32) (v2 : Int32) (s0 : Int32) (s1 : Int32) (s2 : Int32) : Option (Mem × Int32) :=
  (Option.bind (f_X9_whyNotTwo N w s2 s1 s0) (fun z1 => (Option.bind (f_X9_isRefused N w z1) (fun z3 => (if z3.2 = (0 : Int32) then
(Option.bind (f_X9_acts N z3.1 (2 : Int32) v1 v2 (0 : Int32) (0 : Int32)) (fun z5 => (if inb v1 24 = true then (if inb v2 24 = true then (if (gA z5 52 0 v1.toNatClampNeg) = (gA z5 52 0 v2.toNatClampNeg) then
some (z5, (1 : Int32))
else
some (z5, (0 : Int32))) else none) else none)))
else
some (z3.1, (-1 : Int32)))))))
def f_X9_part (N : Nat) (w : Mem) (x1 : Int32) (x2 : Int32) : Option (Mem × Int32) :=
  (if (gF w 9 33 0) = (8 : Int32) then
(f_X9_part_18_s5 N w  x1 x2 (1 : Int32) x2 x1)
else
(f_X9_part_18_s5 N w  x1 x2 (0 : Int32) x2 x1))
set_option maxRecDepth 100000 in
set_option maxHeartbeats 4000000 in
theorem c_X9_part (l : Launch) (D : va_G) (ca : Nat → ClassId) (ad : Nat → Nat → Nat) (PL : List (Nat × Nat)) (Z : State → Prop) (A : Nat → Prop) (hok : okc bM Z A ad PL) (N : Nat) (w : Mem) (x1 : Int32) (x2 : Int32) (w' : Mem) (r : Int32) (hf : f_X9_part N w x1 x2 = some (w', r)) : CT l yX9_part (wsy yX9_part cX9_part 3 (some .int)) (rmk 8) D ca ad PL Z A [.ref (ad 9 0), .int x1, .int x2] w w' (some (.int r)) := by
  refine Met.ofW (cc := cX9_part) (maxL := 3) (ret := (some .int)) (by decide +kernel) rfl ?_
  intro p e s m args below meth c s₁ B hml hv
  obtain ⟨rfl, hP, hK, hZ⟩ := hv
  have hx := B.exec
  have hb := B.bytes
  have hr := B.returns
  have hlocks := B.notSynchronized
  have hts : ∀ w ∈ ALL, w.before _ s = true := fun w hw => atoms_spec (ws := wsy yX9_part cX9_part 3 (some .int)) B.pre w (List.mem_cons_of_mem _ hw)
  have hown : s.vm.findClass RX9 = some m.cls := findClass_of_methodNamed B.named
  have C : CX p s m _ c cX9_part RX9 3 D ca Z := ⟨hx, hb, hml, hown, hts, hK, hZ⟩
  have hS : va_S A s.heap s.heap [] := va_S.rf
  have hl := lv_entry ([.ref (ad 9 0), .int x1, .int x2]) (n := 3) (Nat.le_of_ble_eq_true rfl)
  rw [lg_entry_eq]
  generalize (lg_sl ([.ref (ad 9 0), .int x1, .int x2]) ++ List.replicate (3 - (lg_sl ([.ref (ad 9 0), .int x1, .int x2])).length) Slot.unset).toArray = ls at hl ⊢
  have hl : lv_has ls 3 [(0, .ref (ad 9 0)), (1, .int x1), (2, .int x2)] := hl
  show W p l e (rmk 8) s m _ below meth c s.heap [] 0 0 _ _
  have P_f_X9_part_18_s5 : ∀ (w : Mem) (v1 : Int32) (v2 : Int32) (s0 : Int32) (s1 : Int32) (s2 : Int32), f_X9_part_18_s5 N w  v1 v2 s0 s1 s2 = some (w', r) → WP p l e (rmk 8) s m [.ref (ad 9 0), .int x1, .int x2].toArray below meth c D ca ad PL A (MQ below (qcR D ca ad PL Z A w' (some (.int r))) [.ref (ad 9 0), .int x1, .int x2].toArray s 0 0 A) 3 18 [.int s0, .int s1, .int s2, .ref (ad 9 0), .ref (ad 9 0)] [(0, .ref (ad 9 0)), (1, .int v1), (2, .int v2)] w := by
    intro w v1 v2 s0 s1 s2 hf _ _ ls hP hS hl
    unfold f_X9_part_18_s5 at hf
    obtain ⟨z1, q2, hf⟩ := bsp hf
    refine kc_V (ci := 9) (i := 0) (As := [.int s2, .int s1, .int s0]) (rest := [.ref (ad 9 0)]) hok.2.2 C hP hS hl.1 (hok.2.1 9 0 (Nat.le_of_ble_eq_true rfl)) rfl rfl cw_X9_whyNotTwo ml_X9_387 (c_X9_whyNotTwo l D ca ad PL Z A hok N w s2 s1 s0 z1 q2) rfl ⟨rfl, rfl⟩ ⟨Nat.le_of_ble_eq_true rfl, Nat.le_of_ble_eq_true rfl⟩ ⟨Nat.zero_le _, Nat.zero_le _⟩ (Nat.le_of_ble_eq_true rfl) rfl dX9_part_18 (fun H locs hP hS => ?_)
    obtain ⟨z3, q4, hf⟩ := bsp hf
    refine kc_V (ci := 9) (i := 0) (As := [.int z1]) (rest := []) hok.2.2 C hP hS hl.1 (hok.2.1 9 0 (Nat.le_of_ble_eq_true rfl)) rfl rfl cw_X9_isRefused ml_X9_223 (c_X9_isRefused l D ca ad PL Z A hok N w z1 z3.1 z3.2 q4) rfl ⟨rfl, rfl⟩ ⟨Nat.le_of_ble_eq_true rfl, Nat.le_of_ble_eq_true rfl⟩ ⟨Nat.zero_le _, Nat.zero_le _⟩ (Nat.le_of_ble_eq_true rfl) rfl dX9_part_21 (fun H locs hP hS => ?_)
    refine lv_if_eq (tgt := 29) hx hb dX9_part_24 (by decide) (fun c10 => ?_) (fun c10 => ?_)
    · have hf := ifp hf c10
      refine lv_aload_n hx hb dX9_part_29 rfl (lv_at hl 0 rfl) ?_
      refine lv_iconst (v := (2 : Int32)) hx hb dX9_part_30 (by decide) ?_
      refine lv_iload_n hx hb dX9_part_31 rfl (lv_at hl 1 rfl) ?_
      refine lv_iload_n hx hb dX9_part_32 rfl (lv_at hl 2 rfl) ?_
      refine lv_iconst (v := (0 : Int32)) hx hb dX9_part_33 (by decide) ?_
      refine lv_iconst (v := (0 : Int32)) hx hb dX9_part_34 (by decide) ?_
      obtain ⟨z5, q6, hf⟩ := bsp hf
      refine kc_V (ci := 9) (i := 0) (As := [.int (2 : Int32), .int v1, .int v2, .int (0 : Int32), .int (0 : Int32)]) (rest := []) hok.2.2 C hP hS hl.1 (hok.2.1 9 0 (Nat.le_of_ble_eq_true rfl)) rfl rfl cw_X9_acts ml_X9_391 (c_X9_acts l D ca ad PL Z A hok N z3.1 (2 : Int32) v1 v2 (0 : Int32) (0 : Int32) z5 q6) rfl ⟨rfl, rfl⟩ ⟨Nat.le_of_ble_eq_true rfl, Nat.le_of_ble_eq_true rfl⟩ ⟨Nat.zero_le _, Nat.zero_le _⟩ (Nat.le_of_ble_eq_true rfl) rfl dX9_part_35 (fun H locs hP hS => ?_)
      refine lv_aload_n hx hb dX9_part_38 rfl (lv_at hl 0 rfl) ?_
      refine gt_9_36 (i := 0) C hP (hok.2.1 9 0 (Nat.le_of_ble_eq_true rfl)) lk_X9_50 dX9_part_39 ?_
      refine lv_iload_n hx hb dX9_part_42 rfl (lv_at hl 1 rfl) ?_
      obtain ⟨b7, hf⟩ := gsp hf
      refine ra_ild (k := 52) (i := 0) (n := 24) (f := (gA z5 52 0)) C hP (hok.2.1 52 0 (Nat.le_of_ble_eq_true rfl)) rfl b7 dX9_part_43 ?_
      refine lv_aload_n hx hb dX9_part_44 rfl (lv_at hl 0 rfl) ?_
      refine gt_9_36 (i := 0) C hP (hok.2.1 9 0 (Nat.le_of_ble_eq_true rfl)) lk_X9_50 dX9_part_45 ?_
      refine lv_iload_n hx hb dX9_part_48 rfl (lv_at hl 2 rfl) ?_
      obtain ⟨b8, hf⟩ := gsp hf
      refine ra_ild (k := 52) (i := 0) (n := 24) (f := (gA z5 52 0)) C hP (hok.2.1 52 0 (Nat.le_of_ble_eq_true rfl)) rfl b8 dX9_part_49 ?_
      refine lv_icmp_ne (tgt := 57) hx hb dX9_part_50 (by decide) (fun c9 => ?_) (fun c9 => ?_)
      · have hf := ifn hf c9
        refine lv_iconst (v := (0 : Int32)) hx hb dX9_part_57 (by decide) ?_
        exact kr_i hok.2.2 C hlocks hr rfl hP hS (congrArg Prod.fst (Option.some.inj hf)) (congrArg Prod.snd (Option.some.inj hf)) dX9_part_58
      · have hf := ifp hf c9
        refine lv_iconst (v := (1 : Int32)) hx hb dX9_part_53 (by decide) ?_
        refine lv_goto (tgt := 58) hx hb dX9_part_54 (by decide) ?_
        exact kr_i hok.2.2 C hlocks hr rfl hP hS (congrArg Prod.fst (Option.some.inj hf)) (congrArg Prod.snd (Option.some.inj hf)) dX9_part_58
    · have hf := ifn hf c10
      refine lv_iconst (v := (-1 : Int32)) hx hb dX9_part_27 (by decide) ?_
      exact kr_i hok.2.2 C hlocks hr rfl hP hS (congrArg Prod.fst (Option.some.inj hf)) (congrArg Prod.snd (Option.some.inj hf)) dX9_part_28
  unfold f_X9_part at hf
  -- walk
  refine lv_aload_n hx hb dX9_part_0 rfl (lv_at hl 0 rfl) ?_
  refine lv_aload_n hx hb dX9_part_1 rfl (lv_at hl 0 rfl) ?_
  refine lv_iload_n hx hb dX9_part_2 rfl (lv_at hl 1 rfl) ?_
  refine lv_iload_n hx hb dX9_part_3 rfl (lv_at hl 2 rfl) ?_
  refine lv_aload_n hx hb dX9_part_4 rfl (lv_at hl 0 rfl) ?_
  refine gt_9_33 (i := 0) C hP (hok.2.1 9 0 (Nat.le_of_ble_eq_true rfl)) lk_X9_297 dX9_part_5 ?_
  refine lv_bipush (v := (8 : Int32)) hx hb dX9_part_8 (by decide) ?_
  refine lv_icmp_ne (tgt := 17) hx hb dX9_part_10 (by decide) (fun c11 => ?_) (fun c11 => ?_)
  · have hf := ifn hf c11
    refine lv_iconst (v := (0 : Int32)) hx hb dX9_part_17 (by decide) ?_
    exact P_f_X9_part_18_s5 w x1 x2 (0 : Int32) x2 x1 hf _ _ ls hP hS (lv_sub hl [0, 1, 2] rfl)
  · have hf := ifp hf c11
    refine lv_iconst (v := (1 : Int32)) hx hb dX9_part_13 (by decide) ?_
    refine lv_goto (tgt := 18) hx hb dX9_part_14 (by decide) ?_
    exact P_f_X9_part_18_s5 w x1 x2 (1 : Int32) x2 x1 hf _ _ ls hP hS (lv_sub hl [0, 1, 2] rfl)
def f_X9_make_104_s2 (N : Nat) (w : Mem)  (v1 : Int32) (v2 : Int32) (v3 : Int32) (v4 : Int32) (s0 : Int32) : Option (Mem × Int32) :=
  (Option.bind (f_X9_isRefused N w s0) (fun z3 => (if z3.2 = (0 : Int32) then
(Option.bind (f_X9_acts N z3.1 (0 : Int32) v1 v2 v3 v4) (fun z5 => some (z5, ((gF z5 9 27 0) - (1 : Int32)))))
else
some (z3.1, (-1 : Int32)))))
def f_X9_make_78_s1 (N : Nat) (w : Mem)  (v1 : Int32) (v2 : Int32) (v3 : Int32) (v4 : Int32) (s0 : Int32) : Option (Mem × Int32) :=
  (if s0 = (0 : Int32) then
(f_X9_make_104_s2 N w  v1 v2 v3 v4 (1 : Int32))
else
(if (gF w 9 27 0) = (24 : Int32) then
(f_X9_make_104_s2 N w  v1 v2 v3 v4 (3 : Int32))
else
(f_X9_make_104_s2 N w  v1 v2 v3 v4 (0 : Int32))))
def f_X9_make_54 (N : Nat) (w : Mem)  (v1 : Int32) (v2 : Int32) (v3 : Int32) (v4 : Int32) : Option (Mem × Int32) :=
  (if inb v1 16 = true then (if (gA w 41 0 v1.toNatClampNeg) < (3 : Int32) then
(f_X9_make_78_s1 N w  v1 v2 v3 v4 (1 : Int32))
else
(Option.bind (f_X9_isTerm N w v4) (fun z12 => (if z12 = (0 : Int32) then
(f_X9_make_78_s1 N w  v1 v2 v3 v4 (0 : Int32))
else
(f_X9_make_78_s1 N w  v1 v2 v3 v4 (1 : Int32)))))) else none)
def f_X9_make (N : Nat) (w : Mem) (x1 : Int32) (x2 : Int32) (x3 : Int32) (x4 : Int32) : Option (Mem × Int32) :=
  (Option.bind (f_X9_in N w x1 (0 : Int32) ((gF w 9 6 0) - (1 : Int32))) (fun z1 => (if z1 = (0 : Int32) then
(f_X9_make_78_s1 N w  x1 x2 x3 x4 (0 : Int32))
else
(if inb x1 16 = true then (if (gA w 41 0 x1.toNatClampNeg) < (1 : Int32) then
(if (gA w 41 0 x1.toNatClampNeg) < (2 : Int32) then
(f_X9_make_54 N w  x1 x2 x3 x4 )
else
(Option.bind (f_X9_isTerm N w x3) (fun z16 => (if z16 = (0 : Int32) then
(f_X9_make_78_s1 N w  x1 x2 x3 x4 (0 : Int32))
else
(f_X9_make_54 N w  x1 x2 x3 x4 )))))
else
(Option.bind (f_X9_isTerm N w x2) (fun z20 => (if z20 = (0 : Int32) then
(f_X9_make_78_s1 N w  x1 x2 x3 x4 (0 : Int32))
else
(if (gA w 41 0 x1.toNatClampNeg) < (2 : Int32) then
(f_X9_make_54 N w  x1 x2 x3 x4 )
else
(Option.bind (f_X9_isTerm N w x3) (fun z22 => (if z22 = (0 : Int32) then
(f_X9_make_78_s1 N w  x1 x2 x3 x4 (0 : Int32))
else
(f_X9_make_54 N w  x1 x2 x3 x4 ))))))))) else none))))
set_option maxRecDepth 100000 in
set_option maxHeartbeats 4000000 in
theorem c_X9_make (l : Launch) (D : va_G) (ca : Nat → ClassId) (ad : Nat → Nat → Nat) (PL : List (Nat × Nat)) (Z : State → Prop) (A : Nat → Prop) (hok : okc bM Z A ad PL) (N : Nat) (w : Mem) (x1 : Int32) (x2 : Int32) (x3 : Int32) (x4 : Int32) (w' : Mem) (r : Int32) (hf : f_X9_make N w x1 x2 x3 x4 = some (w', r)) : CT l yX9_make (wsy yX9_make cX9_make 6 (some .int)) (rmk 8) D ca ad PL Z A [.ref (ad 9 0), .int x1, .int x2, .int x3, .int x4] w w' (some (.int r)) := by
  refine Met.ofW (cc := cX9_make) (maxL := 6) (ret := (some .int)) (by decide +kernel) rfl ?_
  intro p e s m args below meth c s₁ B hml hv
  obtain ⟨rfl, hP, hK, hZ⟩ := hv
  have hx := B.exec
  have hb := B.bytes
  have hr := B.returns
  have hlocks := B.notSynchronized
  have hts : ∀ w ∈ ALL, w.before _ s = true := fun w hw => atoms_spec (ws := wsy yX9_make cX9_make 6 (some .int)) B.pre w (List.mem_cons_of_mem _ hw)
  have hown : s.vm.findClass RX9 = some m.cls := findClass_of_methodNamed B.named
  have C : CX p s m _ c cX9_make RX9 6 D ca Z := ⟨hx, hb, hml, hown, hts, hK, hZ⟩
  have hS : va_S A s.heap s.heap [] := va_S.rf
  have hl := lv_entry ([.ref (ad 9 0), .int x1, .int x2, .int x3, .int x4]) (n := 6) (Nat.le_of_ble_eq_true rfl)
  rw [lg_entry_eq]
  generalize (lg_sl ([.ref (ad 9 0), .int x1, .int x2, .int x3, .int x4]) ++ List.replicate (6 - (lg_sl ([.ref (ad 9 0), .int x1, .int x2, .int x3, .int x4])).length) Slot.unset).toArray = ls at hl ⊢
  have hl : lv_has ls 6 [(0, .ref (ad 9 0)), (1, .int x1), (2, .int x2), (3, .int x3), (4, .int x4)] := hl
  show W p l e (rmk 8) s m _ below meth c s.heap [] 0 0 _ _
  have P_f_X9_make_104_s2 : ∀ (w : Mem) (v1 : Int32) (v2 : Int32) (v3 : Int32) (v4 : Int32) (s0 : Int32), f_X9_make_104_s2 N w  v1 v2 v3 v4 s0 = some (w', r) → WP p l e (rmk 8) s m [.ref (ad 9 0), .int x1, .int x2, .int x3, .int x4].toArray below meth c D ca ad PL A (MQ below (qcR D ca ad PL Z A w' (some (.int r))) [.ref (ad 9 0), .int x1, .int x2, .int x3, .int x4].toArray s 0 0 A) 6 104 [.int s0, .ref (ad 9 0)] [(0, .ref (ad 9 0)), (1, .int v1), (2, .int v2), (3, .int v3), (4, .int v4)] w := by
    intro w v1 v2 v3 v4 s0 hf _ _ ls hP hS hl
    unfold f_X9_make_104_s2 at hf
    obtain ⟨z3, q4, hf⟩ := bsp hf
    refine kc_V (ci := 9) (i := 0) (As := [.int s0]) (rest := []) hok.2.2 C hP hS hl.1 (hok.2.1 9 0 (Nat.le_of_ble_eq_true rfl)) rfl rfl cw_X9_isRefused ml_X9_223 (c_X9_isRefused l D ca ad PL Z A hok N w s0 z3.1 z3.2 q4) rfl ⟨rfl, rfl⟩ ⟨Nat.le_of_ble_eq_true rfl, Nat.le_of_ble_eq_true rfl⟩ ⟨Nat.zero_le _, Nat.zero_le _⟩ (Nat.le_of_ble_eq_true rfl) rfl dX9_make_104 (fun H locs hP hS => ?_)
    refine lv_if_eq (tgt := 112) hx hb dX9_make_107 (by decide) (fun c7 => ?_) (fun c7 => ?_)
    · have hf := ifp hf c7
      refine lv_aload_n hx hb dX9_make_112 rfl (lv_at hl 0 rfl) ?_
      refine lv_iconst (v := (0 : Int32)) hx hb dX9_make_113 (by decide) ?_
      refine lv_iload_n hx hb dX9_make_114 rfl (lv_at hl 1 rfl) ?_
      refine lv_iload_n hx hb dX9_make_115 rfl (lv_at hl 2 rfl) ?_
      refine lv_iload_n hx hb dX9_make_116 rfl (lv_at hl 3 rfl) ?_
      refine lv_iload hx hb dX9_make_117 (lv_at hl 4 rfl) ?_
      obtain ⟨z5, q6, hf⟩ := bsp hf
      refine kc_V (ci := 9) (i := 0) (As := [.int (0 : Int32), .int v1, .int v2, .int v3, .int v4]) (rest := []) hok.2.2 C hP hS hl.1 (hok.2.1 9 0 (Nat.le_of_ble_eq_true rfl)) rfl rfl cw_X9_acts ml_X9_391 (c_X9_acts l D ca ad PL Z A hok N z3.1 (0 : Int32) v1 v2 v3 v4 z5 q6) rfl ⟨rfl, rfl⟩ ⟨Nat.le_of_ble_eq_true rfl, Nat.le_of_ble_eq_true rfl⟩ ⟨Nat.zero_le _, Nat.zero_le _⟩ (Nat.le_of_ble_eq_true rfl) rfl dX9_make_119 (fun H locs hP hS => ?_)
      refine lv_aload_n hx hb dX9_make_122 rfl (lv_at hl 0 rfl) ?_
      refine gt_9_27 (i := 0) C hP (hok.2.1 9 0 (Nat.le_of_ble_eq_true rfl)) lk_X9_250 dX9_make_123 ?_
      refine lv_iconst (v := (1 : Int32)) hx hb dX9_make_126 (by decide) ?_
      refine lv_isub hx hb dX9_make_127 ?_
      exact kr_i hok.2.2 C hlocks hr rfl hP hS (congrArg Prod.fst (Option.some.inj hf)) (congrArg Prod.snd (Option.some.inj hf)) dX9_make_128
    · have hf := ifn hf c7
      refine lv_iconst (v := (-1 : Int32)) hx hb dX9_make_110 (by decide) ?_
      exact kr_i hok.2.2 C hlocks hr rfl hP hS (congrArg Prod.fst (Option.some.inj hf)) (congrArg Prod.snd (Option.some.inj hf)) dX9_make_111
  have P_f_X9_make_78_s1 : ∀ (w : Mem) (v1 : Int32) (v2 : Int32) (v3 : Int32) (v4 : Int32) (s0 : Int32), f_X9_make_78_s1 N w  v1 v2 v3 v4 s0 = some (w', r) → WP p l e (rmk 8) s m [.ref (ad 9 0), .int x1, .int x2, .int x3, .int x4].toArray below meth c D ca ad PL A (MQ below (qcR D ca ad PL Z A w' (some (.int r))) [.ref (ad 9 0), .int x1, .int x2, .int x3, .int x4].toArray s 0 0 A) 6 78 [.int s0] [(0, .ref (ad 9 0)), (1, .int v1), (2, .int v2), (3, .int v3), (4, .int v4)] w := by
    intro w v1 v2 v3 v4 s0 hf _ _ ls hP hS hl
    unfold f_X9_make_78_s1 at hf
    refine lv_istore (lv' := [(5, .int s0), (0, .ref (ad 9 0)), (1, .int v1), (2, .int v2), (3, .int v3), (4, .int v4)]) hx hb dX9_make_78 hl (by decide) rfl (fun ls hl => ?_)
    refine lv_aload_n hx hb dX9_make_80 rfl (lv_at hl 1 rfl) ?_
    refine lv_iload hx hb dX9_make_81 (lv_at hl 0 rfl) ?_
    refine lv_if_ne (tgt := 90) hx hb dX9_make_83 (by decide) (fun c9 => ?_) (fun c9 => ?_)
    · have hf := ifn hf c9
      refine lv_aload_n hx hb dX9_make_90 rfl (lv_at hl 1 rfl) ?_
      refine gt_9_27 (i := 0) C hP (hok.2.1 9 0 (Nat.le_of_ble_eq_true rfl)) lk_X9_250 dX9_make_91 ?_
      refine lv_bipush (v := (24 : Int32)) hx hb dX9_make_94 (by decide) ?_
      refine lv_icmp_ne (tgt := 103) hx hb dX9_make_96 (by decide) (fun c8 => ?_) (fun c8 => ?_)
      · have hf := ifn hf c8
        refine lv_iconst (v := (0 : Int32)) hx hb dX9_make_103 (by decide) ?_
        exact P_f_X9_make_104_s2 w v1 v2 v3 v4 (0 : Int32) hf _ _ ls hP hS (lv_sub hl [1, 2, 3, 4, 5] rfl)
      · have hf := ifp hf c8
        refine lv_iconst (v := (3 : Int32)) hx hb dX9_make_99 (by decide) ?_
        refine lv_goto (tgt := 104) hx hb dX9_make_100 (by decide) ?_
        exact P_f_X9_make_104_s2 w v1 v2 v3 v4 (3 : Int32) hf _ _ ls hP hS (lv_sub hl [1, 2, 3, 4, 5] rfl)
    · have hf := ifp hf c9
      refine lv_iconst (v := (1 : Int32)) hx hb dX9_make_86 (by decide) ?_
      refine lv_goto (tgt := 104) hx hb dX9_make_87 (by decide) ?_
      exact P_f_X9_make_104_s2 w v1 v2 v3 v4 (1 : Int32) hf _ _ ls hP hS (lv_sub hl [1, 2, 3, 4, 5] rfl)
  have P_f_X9_make_54 : ∀ (w : Mem) (v1 : Int32) (v2 : Int32) (v3 : Int32) (v4 : Int32), f_X9_make_54 N w  v1 v2 v3 v4  = some (w', r) → WP p l e (rmk 8) s m [.ref (ad 9 0), .int x1, .int x2, .int x3, .int x4].toArray below meth c D ca ad PL A (MQ below (qcR D ca ad PL Z A w' (some (.int r))) [.ref (ad 9 0), .int x1, .int x2, .int x3, .int x4].toArray s 0 0 A) 6 54 [] [(0, .ref (ad 9 0)), (1, .int v1), (2, .int v2), (3, .int v3), (4, .int v4)] w := by
    intro w v1 v2 v3 v4 hf _ _ ls hP hS hl
    unfold f_X9_make_54 at hf
    refine lv_aload_n hx hb dX9_make_54 rfl (lv_at hl 0 rfl) ?_
    refine gt_9_7 (i := 0) C hP (hok.2.1 9 0 (Nat.le_of_ble_eq_true rfl)) lk_X9_17 dX9_make_55 ?_
    refine lv_iload_n hx hb dX9_make_58 rfl (lv_at hl 1 rfl) ?_
    obtain ⟨b11, hf⟩ := gsp hf
    refine ra_ild (k := 41) (i := 0) (n := 16) (f := (gA w 41 0)) C hP (hok.2.1 41 0 (Nat.le_of_ble_eq_true rfl)) rfl b11 dX9_make_59 ?_
    refine lv_iconst (v := (3 : Int32)) hx hb dX9_make_60 (by decide) ?_
    refine lv_icmp_lt (tgt := 73) hx hb dX9_make_61 (by decide) (fun c15 => ?_) (fun c15 => ?_)
    · have hf := ifp hf c15
      refine lv_iconst (v := (1 : Int32)) hx hb dX9_make_73 (by decide) ?_
      refine lv_goto (tgt := 78) hx hb dX9_make_74 (by decide) ?_
      exact P_f_X9_make_78_s1 w v1 v2 v3 v4 (1 : Int32) hf _ _ ls hP hS (lv_sub hl [0, 1, 2, 3, 4] rfl)
    · have hf := ifn hf c15
      refine lv_aload_n hx hb dX9_make_64 rfl (lv_at hl 0 rfl) ?_
      refine lv_iload hx hb dX9_make_65 (lv_at hl 4 rfl) ?_
      obtain ⟨z12, q13, hf⟩ := bsp hf
      refine kc_V (ci := 9) (i := 0) (As := [.int v4]) (rest := []) hok.2.2 C hP hS hl.1 (hok.2.1 9 0 (Nat.le_of_ble_eq_true rfl)) rfl rfl cw_X9_isTerm ml_X9_317 (c_X9_isTerm l D ca ad PL Z A hok N w v4 z12 q13) rfl ⟨rfl, rfl⟩ ⟨Nat.le_of_ble_eq_true rfl, Nat.le_of_ble_eq_true rfl⟩ ⟨Nat.zero_le _, Nat.zero_le _⟩ (Nat.le_of_ble_eq_true rfl) rfl dX9_make_67 (fun H locs hP hS => ?_)
      refine lv_if_eq (tgt := 77) hx hb dX9_make_70 (by decide) (fun c14 => ?_) (fun c14 => ?_)
      · have hf := ifp hf c14
        refine lv_iconst (v := (0 : Int32)) hx hb dX9_make_77 (by decide) ?_
        exact P_f_X9_make_78_s1 w v1 v2 v3 v4 (0 : Int32) hf _ _ ls hP hS (lv_sub hl [0, 1, 2, 3, 4] rfl)
      · have hf := ifn hf c14
        refine lv_iconst (v := (1 : Int32)) hx hb dX9_make_73 (by decide) ?_
        refine lv_goto (tgt := 78) hx hb dX9_make_74 (by decide) ?_
        exact P_f_X9_make_78_s1 w v1 v2 v3 v4 (1 : Int32) hf _ _ ls hP hS (lv_sub hl [0, 1, 2, 3, 4] rfl)
  unfold f_X9_make at hf
  -- walk
  refine lv_iload_n hx hb dX9_make_0 rfl (lv_at hl 1 rfl) ?_
  refine lv_iconst (v := (0 : Int32)) hx hb dX9_make_1 (by decide) ?_
  refine lv_aload_n hx hb dX9_make_2 rfl (lv_at hl 0 rfl) ?_
  refine gt_9_6 (i := 0) C hP (hok.2.1 9 0 (Nat.le_of_ble_eq_true rfl)) lk_X9_235 dX9_make_3 ?_
  refine lv_iconst (v := (1 : Int32)) hx hb dX9_make_6 (by decide) ?_
  refine lv_isub hx hb dX9_make_7 ?_
  obtain ⟨z1, q2, hf⟩ := bsp hf
  refine kc_S (As := [.int x1, .int (0 : Int32), .int ((gF w 9 6 0) - (1 : Int32))]) (rest := []) hok.2.2 C hP hS hl.1 cw_X9_in ml_X9_132 (c_X9_in l D ca ad PL Z A hok N w x1 (0 : Int32) ((gF w 9 6 0) - (1 : Int32)) z1 q2) rfl ⟨rfl, rfl⟩ ⟨Nat.le_of_ble_eq_true rfl, Nat.le_of_ble_eq_true rfl⟩ ⟨Nat.zero_le _, Nat.zero_le _⟩ (Nat.le_of_ble_eq_true rfl) rfl dX9_make_8 (fun H locs hP hS => ?_)
  refine lv_istore (lv' := [(5, .int z1), (0, .ref (ad 9 0)), (1, .int x1), (2, .int x2), (3, .int x3), (4, .int x4)]) hx hb dX9_make_11 hl (by decide) rfl (fun ls hl => ?_)
  refine lv_iload hx hb dX9_make_13 (lv_at hl 0 rfl) ?_
  refine lv_if_eq (tgt := 77) hx hb dX9_make_15 (by decide) (fun c28 => ?_) (fun c28 => ?_)
  · have hf := ifp hf c28
    refine lv_iconst (v := (0 : Int32)) hx hb dX9_make_77 (by decide) ?_
    exact P_f_X9_make_78_s1 w x1 x2 x3 x4 (0 : Int32) hf _ _ ls hP hS (lv_sub hl [1, 2, 3, 4, 5] rfl)
  · have hf := ifn hf c28
    refine lv_aload_n hx hb dX9_make_18 rfl (lv_at hl 1 rfl) ?_
    refine gt_9_7 (i := 0) C hP (hok.2.1 9 0 (Nat.le_of_ble_eq_true rfl)) lk_X9_17 dX9_make_19 ?_
    refine lv_iload_n hx hb dX9_make_22 rfl (lv_at hl 2 rfl) ?_
    obtain ⟨b10, hf⟩ := gsp hf
    refine ra_ild (k := 41) (i := 0) (n := 16) (f := (gA w 41 0)) C hP (hok.2.1 41 0 (Nat.le_of_ble_eq_true rfl)) rfl b10 dX9_make_23 ?_
    refine lv_iconst (v := (1 : Int32)) hx hb dX9_make_24 (by decide) ?_
    refine lv_icmp_lt (tgt := 36) hx hb dX9_make_25 (by decide) (fun c27 => ?_) (fun c27 => ?_)
    · have hf := ifp hf c27
      refine lv_aload_n hx hb dX9_make_36 rfl (lv_at hl 1 rfl) ?_
      refine gt_9_7 (i := 0) C hP (hok.2.1 9 0 (Nat.le_of_ble_eq_true rfl)) lk_X9_17 dX9_make_37 ?_
      refine lv_iload_n hx hb dX9_make_40 rfl (lv_at hl 2 rfl) ?_
      refine ra_ild (k := 41) (i := 0) (n := 16) (f := (gA w 41 0)) C hP (hok.2.1 41 0 (Nat.le_of_ble_eq_true rfl)) rfl b10 dX9_make_41 ?_
      refine lv_iconst (v := (2 : Int32)) hx hb dX9_make_42 (by decide) ?_
      refine lv_icmp_lt (tgt := 54) hx hb dX9_make_43 (by decide) (fun c19 => ?_) (fun c19 => ?_)
      · have hf := ifp hf c19
        exact P_f_X9_make_54 w x1 x2 x3 x4 hf _ _ ls hP hS (lv_sub hl [1, 2, 3, 4, 5] rfl)
      · have hf := ifn hf c19
        refine lv_aload_n hx hb dX9_make_46 rfl (lv_at hl 1 rfl) ?_
        refine lv_iload_n hx hb dX9_make_47 rfl (lv_at hl 4 rfl) ?_
        obtain ⟨z16, q17, hf⟩ := bsp hf
        refine kc_V (ci := 9) (i := 0) (As := [.int x3]) (rest := []) hok.2.2 C hP hS hl.1 (hok.2.1 9 0 (Nat.le_of_ble_eq_true rfl)) rfl rfl cw_X9_isTerm ml_X9_317 (c_X9_isTerm l D ca ad PL Z A hok N w x3 z16 q17) rfl ⟨rfl, rfl⟩ ⟨Nat.le_of_ble_eq_true rfl, Nat.le_of_ble_eq_true rfl⟩ ⟨Nat.zero_le _, Nat.zero_le _⟩ (Nat.le_of_ble_eq_true rfl) rfl dX9_make_48 (fun H locs hP hS => ?_)
        refine lv_if_eq (tgt := 77) hx hb dX9_make_51 (by decide) (fun c18 => ?_) (fun c18 => ?_)
        · have hf := ifp hf c18
          refine lv_iconst (v := (0 : Int32)) hx hb dX9_make_77 (by decide) ?_
          exact P_f_X9_make_78_s1 w x1 x2 x3 x4 (0 : Int32) hf _ _ ls hP hS (lv_sub hl [1, 2, 3, 4, 5] rfl)
        · have hf := ifn hf c18
          exact P_f_X9_make_54 w x1 x2 x3 x4 hf _ _ ls hP hS (lv_sub hl [1, 2, 3, 4, 5] rfl)
    · have hf := ifn hf c27
      refine lv_aload_n hx hb dX9_make_28 rfl (lv_at hl 1 rfl) ?_
      refine lv_iload_n hx hb dX9_make_29 rfl (lv_at hl 3 rfl) ?_
      obtain ⟨z20, q21, hf⟩ := bsp hf
      refine kc_V (ci := 9) (i := 0) (As := [.int x2]) (rest := []) hok.2.2 C hP hS hl.1 (hok.2.1 9 0 (Nat.le_of_ble_eq_true rfl)) rfl rfl cw_X9_isTerm ml_X9_317 (c_X9_isTerm l D ca ad PL Z A hok N w x2 z20 q21) rfl ⟨rfl, rfl⟩ ⟨Nat.le_of_ble_eq_true rfl, Nat.le_of_ble_eq_true rfl⟩ ⟨Nat.zero_le _, Nat.zero_le _⟩ (Nat.le_of_ble_eq_true rfl) rfl dX9_make_30 (fun H locs hP hS => ?_)
      refine lv_if_eq (tgt := 77) hx hb dX9_make_33 (by decide) (fun c26 => ?_) (fun c26 => ?_)
      · have hf := ifp hf c26
        refine lv_iconst (v := (0 : Int32)) hx hb dX9_make_77 (by decide) ?_
        exact P_f_X9_make_78_s1 w x1 x2 x3 x4 (0 : Int32) hf _ _ ls hP hS (lv_sub hl [1, 2, 3, 4, 5] rfl)
      · have hf := ifn hf c26
        refine lv_aload_n hx hb dX9_make_36 rfl (lv_at hl 1 rfl) ?_
        refine gt_9_7 (i := 0) C hP (hok.2.1 9 0 (Nat.le_of_ble_eq_true rfl)) lk_X9_17 dX9_make_37 ?_
        refine lv_iload_n hx hb dX9_make_40 rfl (lv_at hl 2 rfl) ?_
        refine ra_ild (k := 41) (i := 0) (n := 16) (f := (gA w 41 0)) C hP (hok.2.1 41 0 (Nat.le_of_ble_eq_true rfl)) rfl b10 dX9_make_41 ?_
        refine lv_iconst (v := (2 : Int32)) hx hb dX9_make_42 (by decide) ?_
        refine lv_icmp_lt (tgt := 54) hx hb dX9_make_43 (by decide) (fun c25 => ?_) (fun c25 => ?_)
        · have hf := ifp hf c25
          exact P_f_X9_make_54 w x1 x2 x3 x4 hf _ _ ls hP hS (lv_sub hl [1, 2, 3, 4, 5] rfl)
        · have hf := ifn hf c25
          refine lv_aload_n hx hb dX9_make_46 rfl (lv_at hl 1 rfl) ?_
          refine lv_iload_n hx hb dX9_make_47 rfl (lv_at hl 4 rfl) ?_
          obtain ⟨z22, q23, hf⟩ := bsp hf
          refine kc_V (ci := 9) (i := 0) (As := [.int x3]) (rest := []) hok.2.2 C hP hS hl.1 (hok.2.1 9 0 (Nat.le_of_ble_eq_true rfl)) rfl rfl cw_X9_isTerm ml_X9_317 (c_X9_isTerm l D ca ad PL Z A hok N w x3 z22 q23) rfl ⟨rfl, rfl⟩ ⟨Nat.le_of_ble_eq_true rfl, Nat.le_of_ble_eq_true rfl⟩ ⟨Nat.zero_le _, Nat.zero_le _⟩ (Nat.le_of_ble_eq_true rfl) rfl dX9_make_48 (fun H locs hP hS => ?_)
          refine lv_if_eq (tgt := 77) hx hb dX9_make_51 (by decide) (fun c24 => ?_) (fun c24 => ?_)
          · have hf := ifp hf c24
            refine lv_iconst (v := (0 : Int32)) hx hb dX9_make_77 (by decide) ?_
            exact P_f_X9_make_78_s1 w x1 x2 x3 x4 (0 : Int32) hf _ _ ls hP hS (lv_sub hl [1, 2, 3, 4, 5] rfl)
          · have hf := ifn hf c24
            exact P_f_X9_make_54 w x1 x2 x3 x4 hf _ _ ls hP hS (lv_sub hl [1, 2, 3, 4, 5] rfl)
def f_X9_undo (N : Nat) (w : Mem)  : Option (Mem × Int32) :=
  (if (gF (sF w 9 0 0 (0 : Int32)) 9 8 0) = (gF (sF w 9 0 0 (0 : Int32)) 9 9 0) then
some ((sF w 9 0 0 (0 : Int32)), (0 : Int32))
else
(Option.bind (f_X9_makes N (sF (sF w 9 0 0 (0 : Int32)) 9 8 0 ((gF (sF w 9 0 0 (0 : Int32)) 9 8 0) - (1 : Int32))) ) (fun z1 => some (z1, (1 : Int32)))))
set_option maxRecDepth 100000 in
set_option maxHeartbeats 4000000 in
theorem c_X9_undo (l : Launch) (D : va_G) (ca : Nat → ClassId) (ad : Nat → Nat → Nat) (PL : List (Nat × Nat)) (Z : State → Prop) (A : Nat → Prop) (hok : okc bM Z A ad PL) (N : Nat) (w : Mem)  (w' : Mem) (r : Int32) (hf : f_X9_undo N w  = some (w', r)) : CT l yX9_undo (wsy yX9_undo cX9_undo 1 (some .boolean)) (rmk 8) D ca ad PL Z A [.ref (ad 9 0)] w w' (some (.int r)) := by
  refine Met.ofW (cc := cX9_undo) (maxL := 1) (ret := (some .boolean)) (by decide +kernel) rfl ?_
  intro p e s m args below meth c s₁ B hml hv
  obtain ⟨rfl, hP, hK, hZ⟩ := hv
  have hx := B.exec
  have hb := B.bytes
  have hr := B.returns
  have hlocks := B.notSynchronized
  have hts : ∀ w ∈ ALL, w.before _ s = true := fun w hw => atoms_spec (ws := wsy yX9_undo cX9_undo 1 (some .boolean)) B.pre w (List.mem_cons_of_mem _ hw)
  have hown : s.vm.findClass RX9 = some m.cls := findClass_of_methodNamed B.named
  have C : CX p s m _ c cX9_undo RX9 1 D ca Z := ⟨hx, hb, hml, hown, hts, hK, hZ⟩
  have hS : va_S A s.heap s.heap [] := va_S.rf
  have hl := lv_entry ([.ref (ad 9 0)]) (n := 1) (Nat.le_of_ble_eq_true rfl)
  rw [lg_entry_eq]
  generalize (lg_sl ([.ref (ad 9 0)]) ++ List.replicate (1 - (lg_sl ([.ref (ad 9 0)])).length) Slot.unset).toArray = ls at hl ⊢
  have hl : lv_has ls 1 [(0, .ref (ad 9 0))] := hl
  show W p l e (rmk 8) s m _ below meth c s.heap [] 0 0 _ _
  unfold f_X9_undo at hf
  -- walk
  refine lv_aload_n hx hb dX9_undo_0 rfl (lv_at hl 0 rfl) ?_
  refine lv_iconst (v := (0 : Int32)) hx hb dX9_undo_1 (by decide) ?_
  refine pt_9_0 (i := 0) (v := (0 : Int32)) C hok.1 hP hS (hok.2.1 9 0 (Nat.le_of_ble_eq_true rfl)) lk_X9_103 dX9_undo_2 (fun H locs hP hS => ?_)
  refine lv_aload_n hx hb dX9_undo_5 rfl (lv_at hl 0 rfl) ?_
  refine gt_9_8 (i := 0) C hP (hok.2.1 9 0 (Nat.le_of_ble_eq_true rfl)) lk_X9_238 dX9_undo_6 ?_
  refine lv_aload_n hx hb dX9_undo_9 rfl (lv_at hl 0 rfl) ?_
  refine gt_9_9 (i := 0) C hP (hok.2.1 9 0 (Nat.le_of_ble_eq_true rfl)) lk_X9_241 dX9_undo_10 ?_
  refine lv_icmp_ne (tgt := 18) hx hb dX9_undo_13 (by decide) (fun c3 => ?_) (fun c3 => ?_)
  · have hf := ifn hf c3
    refine lv_aload_n hx hb dX9_undo_18 rfl (lv_at hl 0 rfl) ?_
    refine lv_dup hx hb dX9_undo_19 rfl ?_
    refine gt_9_8 (i := 0) C hP (hok.2.1 9 0 (Nat.le_of_ble_eq_true rfl)) lk_X9_238 dX9_undo_20 ?_
    refine lv_iconst (v := (1 : Int32)) hx hb dX9_undo_23 (by decide) ?_
    refine lv_isub hx hb dX9_undo_24 ?_
    refine pt_9_8 (i := 0) (v := ((gF (sF w 9 0 0 (0 : Int32)) 9 8 0) - (1 : Int32))) C hok.1 hP hS (hok.2.1 9 0 (Nat.le_of_ble_eq_true rfl)) lk_X9_238 dX9_undo_25 (fun H locs hP hS => ?_)
    refine lv_aload_n hx hb dX9_undo_28 rfl (lv_at hl 0 rfl) ?_
    obtain ⟨z1, q2, hf⟩ := bsp hf
    refine kc_V (ci := 9) (i := 0) (As := []) (rest := []) hok.2.2 C hP hS hl.1 (hok.2.1 9 0 (Nat.le_of_ble_eq_true rfl)) rfl rfl cw_X9_makes ml_X9_247 (c_X9_makes l D ca ad PL Z A hok N (sF (sF w 9 0 0 (0 : Int32)) 9 8 0 ((gF (sF w 9 0 0 (0 : Int32)) 9 8 0) - (1 : Int32)))  z1 q2) rfl ⟨rfl, rfl⟩ ⟨Nat.le_of_ble_eq_true rfl, Nat.le_of_ble_eq_true rfl⟩ ⟨Nat.zero_le _, Nat.zero_le _⟩ (Nat.le_of_ble_eq_true rfl) rfl dX9_undo_29 (fun H locs hP hS => ?_)
    refine lv_iconst (v := (1 : Int32)) hx hb dX9_undo_32 (by decide) ?_
    exact kr_i hok.2.2 C hlocks hr rfl hP hS (congrArg Prod.fst (Option.some.inj hf)) (congrArg Prod.snd (Option.some.inj hf)) dX9_undo_33
  · have hf := ifp hf c3
    refine lv_iconst (v := (0 : Int32)) hx hb dX9_undo_16 (by decide) ?_
    exact kr_i hok.2.2 C hlocks hr rfl hP hS (congrArg Prod.fst (Option.some.inj hf)) (congrArg Prod.snd (Option.some.inj hf)) dX9_undo_17
def f_X9_named_115 (N : Nat) (w : Mem)  : Option (Mem × Int32) :=
  some ((sF w 9 0 0 (1 : Int32)), (0 : Int32))
def lp_X9_named_74 (k : Option (Mem × Int32)) (N : Nat) (w : Mem)  (v2 : Int32) (v3 : Int32) : Nat → Int32 → Option (Mem × Int32)
  | 0, _ => none
  | n + 1, v4 => (if v3 ≤ v2 then
(k )
else
(if (gF w 9 26 0) ≤ v4 then
(k )
else
(Option.bind (f_X9_isAt N w 44 ((6 : Int32) * v4) v2 v3) (fun z6 => (if z6 = (0 : Int32) then
(lp_X9_named_74 k N w  v2 v3 n (v4 + (1 : Int32)))
else
some (w, v4))))))
def f_X9_named_71 (N : Nat) (w : Mem)  (v2 : Int32) (v3 : Int32) : Option (Mem × Int32) :=
  (lp_X9_named_74 (f_X9_named_115 N w   ) N w  v2 v3 N (0 : Int32))
def lp_X9_named_47 (k : Int32 → Option (Mem × Int32)) (N : Nat) (w : Mem)  (v2 : Int32) : Nat → Int32 → Option (Mem × Int32)
  | 0, _ => none
  | n + 1, v3 => (if v3 ≤ v2 then
(k v3)
else
(if inb (v3 - (1 : Int32)) 500 = true then (if (gA w 40 0 (v3 - (1 : Int32)).toNatClampNeg) = (32 : Int32) then
(lp_X9_named_47 k N w  v2 n (v3 + (-1 : Int32)))
else
(k v3)) else none))
def lp_X9_named_25 (k : Int32 → Option (Mem × Int32)) (N : Nat) (w : Mem)  (v3 : Int32) : Nat → Int32 → Option (Mem × Int32)
  | 0, _ => none
  | n + 1, v2 => (if v3 ≤ v2 then
(k v2)
else
(if inb v2 500 = true then (if (gA w 40 0 v2.toNatClampNeg) = (32 : Int32) then
(lp_X9_named_25 k N w  v3 n (v2 + (1 : Int32)))
else
(k v2)) else none))
def f_X9_named (N : Nat) (w : Mem) (x1 : Int32) : Option (Mem × Int32) :=
  (Option.bind (f_X9_in N (sF w 9 0 0 (0 : Int32)) x1 (0 : Int32) (gF (sF w 9 0 0 (0 : Int32)) 9 5 0)) (fun z1 => (if z1 = (0 : Int32) then
(lp_X9_named_25 (fun (u2_3 : Int32) => (lp_X9_named_47 (fun (u3_4 : Int32) => (f_X9_named_71 N (sF w 9 0 0 (0 : Int32))  u2_3 u3_4 )) N (sF w 9 0 0 (0 : Int32))  u2_3 N (0 : Int32))) N (sF w 9 0 0 (0 : Int32))  (0 : Int32) N (0 : Int32))
else
(lp_X9_named_25 (fun (u2_17 : Int32) => (lp_X9_named_47 (fun (u3_18 : Int32) => (f_X9_named_71 N (sF w 9 0 0 (0 : Int32))  u2_17 u3_18 )) N (sF w 9 0 0 (0 : Int32))  u2_17 N x1)) N (sF w 9 0 0 (0 : Int32))  x1 N (0 : Int32)))))
set_option maxRecDepth 100000 in
set_option maxHeartbeats 4000000 in
theorem c_X9_named (l : Launch) (D : va_G) (ca : Nat → ClassId) (ad : Nat → Nat → Nat) (PL : List (Nat × Nat)) (Z : State → Prop) (A : Nat → Prop) (hok : okc bM Z A ad PL) (N : Nat) (w : Mem) (x1 : Int32) (w' : Mem) (r : Int32) (hf : f_X9_named N w x1 = some (w', r)) : CT l yX9_named (wsy yX9_named cX9_named 5 (some .int)) (rmk 1) D ca ad PL Z A [.ref (ad 9 0), .int x1] w w' (some (.int r)) := by
  refine Met.ofW (cc := cX9_named) (maxL := 5) (ret := (some .int)) (by decide +kernel) rfl ?_
  intro p e s m args below meth c s₁ B hml hv
  obtain ⟨rfl, hP, hK, hZ⟩ := hv
  have hx := B.exec
  have hb := B.bytes
  have hr := B.returns
  have hlocks := B.notSynchronized
  have hts : ∀ w ∈ ALL, w.before _ s = true := fun w hw => atoms_spec (ws := wsy yX9_named cX9_named 5 (some .int)) B.pre w (List.mem_cons_of_mem _ hw)
  have hown : s.vm.findClass RX9 = some m.cls := findClass_of_methodNamed B.named
  have C : CX p s m _ c cX9_named RX9 5 D ca Z := ⟨hx, hb, hml, hown, hts, hK, hZ⟩
  have hS : va_S A s.heap s.heap [] := va_S.rf
  have hl := lv_entry ([.ref (ad 9 0), .int x1]) (n := 5) (Nat.le_of_ble_eq_true rfl)
  rw [lg_entry_eq]
  generalize (lg_sl ([.ref (ad 9 0), .int x1]) ++ List.replicate (5 - (lg_sl ([.ref (ad 9 0), .int x1])).length) Slot.unset).toArray = ls at hl ⊢
  have hl : lv_has ls 5 [(0, .ref (ad 9 0)), (1, .int x1)] := hl
  show W p l e (rmk 1) s m _ below meth c s.heap [] 0 0 _ _
  have P_f_X9_named_115 : ∀ (w : Mem), f_X9_named_115 N w    = some (w', r) → WP p l e (rmk 1) s m [.ref (ad 9 0), .int x1].toArray below meth c D ca ad PL A (MQ below (qcR D ca ad PL Z A w' (some (.int r))) [.ref (ad 9 0), .int x1].toArray s 0 0 A) 5 115 [] [(0, .ref (ad 9 0))] w := by
    intro w hf _ _ ls hP hS hl
    unfold f_X9_named_115 at hf
    refine lv_aload_n hx hb dX9_named_115 rfl (lv_at hl 0 rfl) ?_
    refine lv_iconst (v := (1 : Int32)) hx hb dX9_named_116 (by decide) ?_
    refine pt_9_0 (i := 0) (v := (1 : Int32)) C hok.1 hP hS (hok.2.1 9 0 (Nat.le_of_ble_eq_true rfl)) lk_X9_103 dX9_named_117 (fun H locs hP hS => ?_)
    refine lv_iconst (v := (0 : Int32)) hx hb dX9_named_120 (by decide) ?_
    exact kr_i hok.2.2 C hlocks hr rfl hP hS (congrArg Prod.fst (Option.some.inj hf)) (congrArg Prod.snd (Option.some.inj hf)) dX9_named_121
  have L_lp_X9_named_74 : ∀ (w : Mem) (v2 : Int32) (v3 : Int32) (k : Option (Mem × Int32)) (hk : k = some (w', r) → WP p l e (rmk 1) s m [.ref (ad 9 0), .int x1].toArray below meth c D ca ad PL A (MQ below (qcR D ca ad PL Z A w' (some (.int r))) [.ref (ad 9 0), .int x1].toArray s 0 0 A) 5 115 [] [(0, .ref (ad 9 0))] w) (n : Nat) (v4 : Int32), lp_X9_named_74 k N w  v2 v3 n v4 = some (w', r) → WP p l e (rmk 1) s m [.ref (ad 9 0), .int x1].toArray below meth c D ca ad PL A (MQ below (qcR D ca ad PL Z A w' (some (.int r))) [.ref (ad 9 0), .int x1].toArray s 0 0 A) 5 74 [] [(0, .ref (ad 9 0)), (2, .int v2), (3, .int v3), (4, .int v4)] w := by
    intro w v2 v3 k hk n
    induction n with
    | zero => intro v4 hf; rw [lp_X9_named_74] at hf; cases hf
    | succ n ih =>
      intro v4 hf _ _ ls hP hS hl
      rw [lp_X9_named_74] at hf
      refine lv_iload_n hx hb dX9_named_74 rfl (lv_at hl 2 rfl) ?_
      refine lv_iload_n hx hb dX9_named_75 rfl (lv_at hl 1 rfl) ?_
      refine lv_icmp_le (tgt := 115) hx hb dX9_named_76 (by decide) (fun c10 => ?_) (fun c10 => ?_)
      · have hf := ifp hf c10
        exact hk  hf _ _ ls hP hS (lv_sub hl [0] rfl)
      · have hf := ifn hf c10
        refine lv_iload hx hb dX9_named_79 (lv_at hl 3 rfl) ?_
        refine lv_aload_n hx hb dX9_named_81 rfl (lv_at hl 0 rfl) ?_
        refine gt_9_26 (i := 0) C hP (hok.2.1 9 0 (Nat.le_of_ble_eq_true rfl)) lk_X9_244 dX9_named_82 ?_
        refine lv_icmp_ge (tgt := 115) hx hb dX9_named_85 (by decide) (fun c9 => ?_) (fun c9 => ?_)
        · have hf := ifp hf c9
          exact hk  hf _ _ ls hP hS (lv_sub hl [0] rfl)
        · have hf := ifn hf c9
          refine lv_aload_n hx hb dX9_named_88 rfl (lv_at hl 0 rfl) ?_
          refine lv_aload_n hx hb dX9_named_89 rfl (lv_at hl 0 rfl) ?_
          refine gt_9_12 (i := 0) C hP (hok.2.1 9 0 (Nat.le_of_ble_eq_true rfl)) lk_X9_26 dX9_named_90 ?_
          refine lv_bipush (v := (6 : Int32)) hx hb dX9_named_93 (by decide) ?_
          refine lv_iload hx hb dX9_named_95 (lv_at hl 3 rfl) ?_
          refine lv_imul hx hb dX9_named_97 ?_
          refine lv_iload_n hx hb dX9_named_98 rfl (lv_at hl 1 rfl) ?_
          refine lv_iload_n hx hb dX9_named_99 rfl (lv_at hl 2 rfl) ?_
          obtain ⟨z6, q7, hf⟩ := bsp hf
          refine kc_V (ci := 9) (i := 0) (As := [.ref (ad 44 0), .int ((6 : Int32) * v4), .int v2, .int v3]) (rest := []) hok.2.2 C hP hS hl.1 (hok.2.1 9 0 (Nat.le_of_ble_eq_true rfl)) rfl rfl cw_X9_isAt ml_X9_169 (c_X9_isAt l D ca ad PL Z A hok N w 44 (Nat.le_of_ble_eq_true rfl) rfl rfl ((6 : Int32) * v4) v2 v3 z6 q7) rfl ⟨rfl, rfl⟩ ⟨Nat.le_of_ble_eq_true rfl, Nat.le_of_ble_eq_true rfl⟩ ⟨Nat.zero_le _, Nat.zero_le _⟩ (Nat.le_of_ble_eq_true rfl) rfl dX9_named_100 (fun H locs hP hS => ?_)
          refine lv_if_eq (tgt := 109) hx hb dX9_named_103 (by decide) (fun c8 => ?_) (fun c8 => ?_)
          · have hf := ifp hf c8
            refine lv_iinc (v := (v4 + (1 : Int32))) (lv' := [(4, .int (v4 + (1 : Int32))), (0, .ref (ad 9 0)), (2, .int v2), (3, .int v3)]) hx hb dX9_named_109 hl (k := 3) rfl rfl (by decide) rfl (fun ls hl => ?_)
            refine lv_goto (tgt := 74) hx hb dX9_named_112 (by decide) ?_
            exact ih (v4 + (1 : Int32)) hf _ _ ls hP hS (lv_sub hl [1, 2, 3, 0] rfl)
          · have hf := ifn hf c8
            refine lv_iload hx hb dX9_named_106 (lv_at hl 3 rfl) ?_
            exact kr_i hok.2.2 C hlocks hr rfl hP hS (congrArg Prod.fst (Option.some.inj hf)) (congrArg Prod.snd (Option.some.inj hf)) dX9_named_108
  have P_f_X9_named_71 : ∀ (w : Mem) (v2 : Int32) (v3 : Int32), f_X9_named_71 N w  v2 v3  = some (w', r) → WP p l e (rmk 1) s m [.ref (ad 9 0), .int x1].toArray below meth c D ca ad PL A (MQ below (qcR D ca ad PL Z A w' (some (.int r))) [.ref (ad 9 0), .int x1].toArray s 0 0 A) 5 71 [] [(0, .ref (ad 9 0)), (2, .int v2), (3, .int v3)] w := by
    intro w v2 v3 hf _ _ ls hP hS hl
    unfold f_X9_named_71 at hf
    refine lv_iconst (v := (0 : Int32)) hx hb dX9_named_71 (by decide) ?_
    refine lv_istore (lv' := [(4, .int (0 : Int32)), (0, .ref (ad 9 0)), (2, .int v2), (3, .int v3)]) hx hb dX9_named_72 hl (by decide) rfl (fun ls hl => ?_)
    exact L_lp_X9_named_74 w v2 v3 _ (fun hf H locs ls hP hS hl => P_f_X9_named_115 w hf _ _ ls hP hS (lv_sub hl [0] rfl)) N (0 : Int32) hf _ _ ls hP hS (lv_sub hl [1, 2, 3, 0] rfl)
  have L_lp_X9_named_47 : ∀ (w : Mem) (v2 : Int32) (k : Int32 → Option (Mem × Int32)) (hk : ∀ (v3 : Int32), k v3 = some (w', r) → WP p l e (rmk 1) s m [.ref (ad 9 0), .int x1].toArray below meth c D ca ad PL A (MQ below (qcR D ca ad PL Z A w' (some (.int r))) [.ref (ad 9 0), .int x1].toArray s 0 0 A) 5 71 [] [(0, .ref (ad 9 0)), (2, .int v2), (3, .int v3)] w) (n : Nat) (v3 : Int32), lp_X9_named_47 k N w  v2 n v3 = some (w', r) → WP p l e (rmk 1) s m [.ref (ad 9 0), .int x1].toArray below meth c D ca ad PL A (MQ below (qcR D ca ad PL Z A w' (some (.int r))) [.ref (ad 9 0), .int x1].toArray s 0 0 A) 5 47 [] [(0, .ref (ad 9 0)), (2, .int v2), (3, .int v3)] w := by
    intro w v2 k hk n
    induction n with
    | zero => intro v3 hf; rw [lp_X9_named_47] at hf; cases hf
    | succ n ih =>
      intro v3 hf _ _ ls hP hS hl
      rw [lp_X9_named_47] at hf
      refine lv_iload_n hx hb dX9_named_47 rfl (lv_at hl 2 rfl) ?_
      refine lv_iload_n hx hb dX9_named_48 rfl (lv_at hl 1 rfl) ?_
      refine lv_icmp_le (tgt := 71) hx hb dX9_named_49 (by decide) (fun c13 => ?_) (fun c13 => ?_)
      · have hf := ifp hf c13
        exact hk v3 hf _ _ ls hP hS (lv_sub hl [0, 1, 2] rfl)
      · have hf := ifn hf c13
        refine lv_aload_n hx hb dX9_named_52 rfl (lv_at hl 0 rfl) ?_
        refine gt_9_4 (i := 0) C hP (hok.2.1 9 0 (Nat.le_of_ble_eq_true rfl)) lk_X9_13 dX9_named_53 ?_
        refine lv_iload_n hx hb dX9_named_56 rfl (lv_at hl 2 rfl) ?_
        refine lv_iconst (v := (1 : Int32)) hx hb dX9_named_57 (by decide) ?_
        refine lv_isub hx hb dX9_named_58 ?_
        obtain ⟨b11, hf⟩ := gsp hf
        refine ra_ild (k := 40) (i := 0) (n := 500) (f := (gA w 40 0)) C hP (hok.2.1 40 0 (Nat.le_of_ble_eq_true rfl)) rfl b11 dX9_named_59 ?_
        refine lv_bipush (v := (32 : Int32)) hx hb dX9_named_60 (by decide) ?_
        refine lv_icmp_ne (tgt := 71) hx hb dX9_named_62 (by decide) (fun c12 => ?_) (fun c12 => ?_)
        · have hf := ifn hf c12
          exact hk v3 hf _ _ ls hP hS (lv_sub hl [0, 1, 2] rfl)
        · have hf := ifp hf c12
          refine lv_iinc (v := (v3 + (-1 : Int32))) (lv' := [(3, .int (v3 + (-1 : Int32))), (0, .ref (ad 9 0)), (2, .int v2)]) hx hb dX9_named_65 hl (k := 2) rfl rfl (by decide) rfl (fun ls hl => ?_)
          refine lv_goto (tgt := 47) hx hb dX9_named_68 (by decide) ?_
          exact ih (v3 + (-1 : Int32)) hf _ _ ls hP hS (lv_sub hl [1, 2, 0] rfl)
  have L_lp_X9_named_25 : ∀ (w : Mem) (v3 : Int32) (k : Int32 → Option (Mem × Int32)) (hk : ∀ (v2 : Int32), k v2 = some (w', r) → WP p l e (rmk 1) s m [.ref (ad 9 0), .int x1].toArray below meth c D ca ad PL A (MQ below (qcR D ca ad PL Z A w' (some (.int r))) [.ref (ad 9 0), .int x1].toArray s 0 0 A) 5 47 [] [(0, .ref (ad 9 0)), (2, .int v2), (3, .int v3)] w) (n : Nat) (v2 : Int32), lp_X9_named_25 k N w  v3 n v2 = some (w', r) → WP p l e (rmk 1) s m [.ref (ad 9 0), .int x1].toArray below meth c D ca ad PL A (MQ below (qcR D ca ad PL Z A w' (some (.int r))) [.ref (ad 9 0), .int x1].toArray s 0 0 A) 5 25 [] [(0, .ref (ad 9 0)), (2, .int v2), (3, .int v3)] w := by
    intro w v3 k hk n
    induction n with
    | zero => intro v2 hf; rw [lp_X9_named_25] at hf; cases hf
    | succ n ih =>
      intro v2 hf _ _ ls hP hS hl
      rw [lp_X9_named_25] at hf
      refine lv_iload_n hx hb dX9_named_25 rfl (lv_at hl 1 rfl) ?_
      refine lv_iload_n hx hb dX9_named_26 rfl (lv_at hl 2 rfl) ?_
      refine lv_icmp_ge (tgt := 47) hx hb dX9_named_27 (by decide) (fun c16 => ?_) (fun c16 => ?_)
      · have hf := ifp hf c16
        exact hk v2 hf _ _ ls hP hS (lv_sub hl [0, 1, 2] rfl)
      · have hf := ifn hf c16
        refine lv_aload_n hx hb dX9_named_30 rfl (lv_at hl 0 rfl) ?_
        refine gt_9_4 (i := 0) C hP (hok.2.1 9 0 (Nat.le_of_ble_eq_true rfl)) lk_X9_13 dX9_named_31 ?_
        refine lv_iload_n hx hb dX9_named_34 rfl (lv_at hl 1 rfl) ?_
        obtain ⟨b14, hf⟩ := gsp hf
        refine ra_ild (k := 40) (i := 0) (n := 500) (f := (gA w 40 0)) C hP (hok.2.1 40 0 (Nat.le_of_ble_eq_true rfl)) rfl b14 dX9_named_35 ?_
        refine lv_bipush (v := (32 : Int32)) hx hb dX9_named_36 (by decide) ?_
        refine lv_icmp_ne (tgt := 47) hx hb dX9_named_38 (by decide) (fun c15 => ?_) (fun c15 => ?_)
        · have hf := ifn hf c15
          exact hk v2 hf _ _ ls hP hS (lv_sub hl [0, 1, 2] rfl)
        · have hf := ifp hf c15
          refine lv_iinc (v := (v2 + (1 : Int32))) (lv' := [(2, .int (v2 + (1 : Int32))), (0, .ref (ad 9 0)), (3, .int v3)]) hx hb dX9_named_41 hl (k := 1) rfl rfl (by decide) rfl (fun ls hl => ?_)
          refine lv_goto (tgt := 25) hx hb dX9_named_44 (by decide) ?_
          exact ih (v2 + (1 : Int32)) hf _ _ ls hP hS (lv_sub hl [1, 0, 2] rfl)
  unfold f_X9_named at hf
  -- walk
  refine lv_aload_n hx hb dX9_named_0 rfl (lv_at hl 0 rfl) ?_
  refine lv_iconst (v := (0 : Int32)) hx hb dX9_named_1 (by decide) ?_
  refine pt_9_0 (i := 0) (v := (0 : Int32)) C hok.1 hP hS (hok.2.1 9 0 (Nat.le_of_ble_eq_true rfl)) lk_X9_103 dX9_named_2 (fun H locs hP hS => ?_)
  refine lv_iconst (v := (0 : Int32)) hx hb dX9_named_5 (by decide) ?_
  refine lv_istore_n (lv' := [(2, .int (0 : Int32)), (0, .ref (ad 9 0)), (1, .int x1)]) hx hb dX9_named_6 rfl hl (by decide) rfl (fun ls hl => ?_)
  refine lv_iload_n hx hb dX9_named_7 rfl (lv_at hl 2 rfl) ?_
  refine lv_iconst (v := (0 : Int32)) hx hb dX9_named_8 (by decide) ?_
  refine lv_aload_n hx hb dX9_named_9 rfl (lv_at hl 1 rfl) ?_
  refine gt_9_5 (i := 0) C hP (hok.2.1 9 0 (Nat.le_of_ble_eq_true rfl)) lk_X9_109 dX9_named_10 ?_
  obtain ⟨z1, q2, hf⟩ := bsp hf
  refine kc_S (As := [.int x1, .int (0 : Int32), .int (gF (sF w 9 0 0 (0 : Int32)) 9 5 0)]) (rest := []) hok.2.2 C hP hS hl.1 cw_X9_in ml_X9_132 (c_X9_in l D ca ad PL Z A hok N (sF w 9 0 0 (0 : Int32)) x1 (0 : Int32) (gF (sF w 9 0 0 (0 : Int32)) 9 5 0) z1 q2) rfl ⟨rfl, rfl⟩ ⟨Nat.le_of_ble_eq_true rfl, Nat.le_of_ble_eq_true rfl⟩ ⟨Nat.zero_le _, Nat.zero_le _⟩ (Nat.le_of_ble_eq_true rfl) rfl dX9_named_13 (fun H locs hP hS => ?_)
  refine lv_if_eq (tgt := 23) hx hb dX9_named_16 (by decide) (fun c19 => ?_) (fun c19 => ?_)
  · have hf := ifp hf c19
    refine lv_iconst (v := (0 : Int32)) hx hb dX9_named_23 (by decide) ?_
    refine lv_istore_n (lv' := [(3, .int (0 : Int32)), (2, .int (0 : Int32)), (0, .ref (ad 9 0)), (1, .int x1)]) hx hb dX9_named_24 rfl hl (by decide) rfl (fun ls hl => ?_)
    exact L_lp_X9_named_25 (sF w 9 0 0 (0 : Int32)) (0 : Int32) _ (fun u2_3 hf H locs ls hP hS hl => L_lp_X9_named_47 (sF w 9 0 0 (0 : Int32)) u2_3 _ (fun u3_4 hf H locs ls hP hS hl => P_f_X9_named_71 (sF w 9 0 0 (0 : Int32)) u2_3 u3_4 hf _ _ ls hP hS (lv_sub hl [0, 1, 2] rfl)) N (0 : Int32) hf _ _ ls hP hS (lv_sub hl [0, 1, 2] rfl)) N (0 : Int32) hf _ _ ls hP hS (lv_sub hl [2, 1, 0] rfl)
  · have hf := ifn hf c19
    refine lv_iload_n hx hb dX9_named_19 rfl (lv_at hl 2 rfl) ?_
    refine lv_goto (tgt := 24) hx hb dX9_named_20 (by decide) ?_
    refine lv_istore_n (lv' := [(3, .int x1), (2, .int (0 : Int32)), (0, .ref (ad 9 0)), (1, .int x1)]) hx hb dX9_named_24 rfl hl (by decide) rfl (fun ls hl => ?_)
    exact L_lp_X9_named_25 (sF w 9 0 0 (0 : Int32)) x1 _ (fun u2_17 hf H locs ls hP hS hl => L_lp_X9_named_47 (sF w 9 0 0 (0 : Int32)) u2_17 _ (fun u3_18 hf H locs ls hP hS hl => P_f_X9_named_71 (sF w 9 0 0 (0 : Int32)) u2_17 u3_18 hf _ _ ls hP hS (lv_sub hl [0, 1, 2] rfl)) N x1 hf _ _ ls hP hS (lv_sub hl [0, 1, 2] rfl)) N (0 : Int32) hf _ _ ls hP hS (lv_sub hl [2, 1, 0] rfl)
def f_X9_size (N : Nat) (w : Mem)  : Option (Mem × Int32) :=
  some ((sF w 9 0 0 (0 : Int32)), (gF (sF w 9 0 0 (0 : Int32)) 9 5 0))
set_option maxRecDepth 100000 in
set_option maxHeartbeats 4000000 in
theorem c_X9_size (l : Launch) (D : va_G) (ca : Nat → ClassId) (ad : Nat → Nat → Nat) (PL : List (Nat × Nat)) (Z : State → Prop) (A : Nat → Prop) (hok : okc bM Z A ad PL) (N : Nat) (w : Mem)  (w' : Mem) (r : Int32) (hf : f_X9_size N w  = some (w', r)) : CT l yX9_size (wsy yX9_size cX9_size 1 (some .int)) (rmk 0) D ca ad PL Z A [.ref (ad 9 0)] w w' (some (.int r)) := by
  refine Met.ofW (cc := cX9_size) (maxL := 1) (ret := (some .int)) (by decide +kernel) rfl ?_
  intro p e s m args below meth c s₁ B hml hv
  obtain ⟨rfl, hP, hK, hZ⟩ := hv
  have hx := B.exec
  have hb := B.bytes
  have hr := B.returns
  have hlocks := B.notSynchronized
  have hts : ∀ w ∈ ALL, w.before _ s = true := fun w hw => atoms_spec (ws := wsy yX9_size cX9_size 1 (some .int)) B.pre w (List.mem_cons_of_mem _ hw)
  have hown : s.vm.findClass RX9 = some m.cls := findClass_of_methodNamed B.named
  have C : CX p s m _ c cX9_size RX9 1 D ca Z := ⟨hx, hb, hml, hown, hts, hK, hZ⟩
  have hS : va_S A s.heap s.heap [] := va_S.rf
  have hl := lv_entry ([.ref (ad 9 0)]) (n := 1) (Nat.le_of_ble_eq_true rfl)
  rw [lg_entry_eq]
  generalize (lg_sl ([.ref (ad 9 0)]) ++ List.replicate (1 - (lg_sl ([.ref (ad 9 0)])).length) Slot.unset).toArray = ls at hl ⊢
  have hl : lv_has ls 1 [(0, .ref (ad 9 0))] := hl
  show W p l e (rmk 0) s m _ below meth c s.heap [] 0 0 _ _
  unfold f_X9_size at hf
  -- walk
  refine lv_aload_n hx hb dX9_size_0 rfl (lv_at hl 0 rfl) ?_
  refine lv_iconst (v := (0 : Int32)) hx hb dX9_size_1 (by decide) ?_
  refine pt_9_0 (i := 0) (v := (0 : Int32)) C hok.1 hP hS (hok.2.1 9 0 (Nat.le_of_ble_eq_true rfl)) lk_X9_103 dX9_size_2 (fun H locs hP hS => ?_)
  refine lv_aload_n hx hb dX9_size_5 rfl (lv_at hl 0 rfl) ?_
  refine gt_9_5 (i := 0) C hP (hok.2.1 9 0 (Nat.le_of_ble_eq_true rfl)) lk_X9_109 dX9_size_6 ?_
  exact kr_i hok.2.2 C hlocks hr rfl hP hS (congrArg Prod.fst (Option.some.inj hf)) (congrArg Prod.snd (Option.some.inj hf)) dX9_size_9
def f_X9_trouble (N : Nat) (w : Mem)  : Option (Mem × Int32) :=
  some ((sF w 9 0 0 (0 : Int32)), (gF (sF w 9 0 0 (0 : Int32)) 9 1 0))
set_option maxRecDepth 100000 in
set_option maxHeartbeats 4000000 in
theorem c_X9_trouble (l : Launch) (D : va_G) (ca : Nat → ClassId) (ad : Nat → Nat → Nat) (PL : List (Nat × Nat)) (Z : State → Prop) (A : Nat → Prop) (hok : okc bM Z A ad PL) (N : Nat) (w : Mem)  (w' : Mem) (r : Int32) (hf : f_X9_trouble N w  = some (w', r)) : CT l yX9_trouble (wsy yX9_trouble cX9_trouble 1 (some .int)) (rmk 0) D ca ad PL Z A [.ref (ad 9 0)] w w' (some (.int r)) := by
  refine Met.ofW (cc := cX9_trouble) (maxL := 1) (ret := (some .int)) (by decide +kernel) rfl ?_
  intro p e s m args below meth c s₁ B hml hv
  obtain ⟨rfl, hP, hK, hZ⟩ := hv
  have hx := B.exec
  have hb := B.bytes
  have hr := B.returns
  have hlocks := B.notSynchronized
  have hts : ∀ w ∈ ALL, w.before _ s = true := fun w hw => atoms_spec (ws := wsy yX9_trouble cX9_trouble 1 (some .int)) B.pre w (List.mem_cons_of_mem _ hw)
  have hown : s.vm.findClass RX9 = some m.cls := findClass_of_methodNamed B.named
  have C : CX p s m _ c cX9_trouble RX9 1 D ca Z := ⟨hx, hb, hml, hown, hts, hK, hZ⟩
  have hS : va_S A s.heap s.heap [] := va_S.rf
  have hl := lv_entry ([.ref (ad 9 0)]) (n := 1) (Nat.le_of_ble_eq_true rfl)
  rw [lg_entry_eq]
  generalize (lg_sl ([.ref (ad 9 0)]) ++ List.replicate (1 - (lg_sl ([.ref (ad 9 0)])).length) Slot.unset).toArray = ls at hl ⊢
  have hl : lv_has ls 1 [(0, .ref (ad 9 0))] := hl
  show W p l e (rmk 0) s m _ below meth c s.heap [] 0 0 _ _
  unfold f_X9_trouble at hf
  -- walk
  refine lv_aload_n hx hb dX9_trouble_0 rfl (lv_at hl 0 rfl) ?_
  refine lv_iconst (v := (0 : Int32)) hx hb dX9_trouble_1 (by decide) ?_
  refine pt_9_0 (i := 0) (v := (0 : Int32)) C hok.1 hP hS (hok.2.1 9 0 (Nat.le_of_ble_eq_true rfl)) lk_X9_103 dX9_trouble_2 (fun H locs hP hS => ?_)
  refine lv_aload_n hx hb dX9_trouble_5 rfl (lv_at hl 0 rfl) ?_
  refine gt_9_1 (i := 0) C hP (hok.2.1 9 0 (Nat.le_of_ble_eq_true rfl)) lk_X9_106 dX9_trouble_6 ?_
  exact kr_i hok.2.2 C hlocks hr rfl hP hS (congrArg Prod.fst (Option.some.inj hf)) (congrArg Prod.snd (Option.some.inj hf)) dX9_trouble_9
