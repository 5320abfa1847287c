def f_X8_feed (N : Nat) (w : Mem) (x1 : Int32) (x2 : Int32) (x3 : Int32) (x4 : Int32) (x5 : Int32) : Option (Mem × Int32) :=
  (if ((gF w 6 1 0) + (20 : Int32)) ≤ (500 : Int32) then
(Option.bind (f_X6_append N w x1) (fun z1 => (Option.bind (f_X6_append N z1 x2) (fun z3 => (Option.bind (f_X6_append N z3 x3) (fun z5 => (Option.bind (f_X6_append N z5 x4) (fun z7 => (Option.bind (f_X6_append N z7 x5) (fun z9 => some (z9, (gF z9 6 1 0))))))))))))
else
some (w, (-1 : Int32)))
set_option maxRecDepth 100000 in
set_option maxHeartbeats 4000000 in
theorem c_X8_feed (l : Launch) (D : va_G) (ca : Nat → ClassId) (ad : Nat → Nat → Nat) (PL : List (Nat × Nat)) (Z : State → Prop) (A : Nat → Prop) (hok : okc bX Z A ad PL) (N : Nat) (w : Mem) (x1 : Int32) (x2 : Int32) (x3 : Int32) (x4 : Int32) (x5 : Int32) (w' : Mem) (r : Int32) (hf : f_X8_feed N w x1 x2 x3 x4 x5 = some (w', r)) : CT l yX8_feed (wsy yX8_feed cX8_feed 6 (some .int)) (rmk 1) D ca ad PL Z A [.ref (ad 8 0), .int x1, .int x2, .int x3, .int x4, .int x5] w w' (some (.int r)) := by
  refine Met.ofW (cc := cX8_feed) (maxL := 6) (ret := (some .int)) (by decide +kernel) rfl ?_
  intro p e s m args below meth c s₁ B hml hv
  obtain ⟨rfl, hP, hK, hZ⟩ := hv
  have hx := B.exec
  have hb := B.bytes
  have hr := B.returns
  have hlocks := B.notSynchronized
  have hts : ∀ w ∈ ALL, w.before _ s = true := fun w hw => atoms_spec (ws := wsy yX8_feed cX8_feed 6 (some .int)) B.pre w (List.mem_cons_of_mem _ hw)
  have hown : s.vm.findClass RX8 = some m.cls := findClass_of_methodNamed B.named
  have C : CX p s m _ c cX8_feed RX8 6 D ca Z := ⟨hx, hb, hml, hown, hts, hK, hZ⟩
  have hS : va_S A s.heap s.heap [] := va_S.rf
  have hl := lv_entry ([.ref (ad 8 0), .int x1, .int x2, .int x3, .int x4, .int x5]) (n := 6) (Nat.le_of_ble_eq_true rfl)
  rw [lg_entry_eq]
  generalize (lg_sl ([.ref (ad 8 0), .int x1, .int x2, .int x3, .int x4, .int x5]) ++ List.replicate (6 - (lg_sl ([.ref (ad 8 0), .int x1, .int x2, .int x3, .int x4, .int x5])).length) Slot.unset).toArray = ls at hl ⊢
  have hl : lv_has ls 6 [(0, .ref (ad 8 0)), (1, .int x1), (2, .int x2), (3, .int x3), (4, .int x4), (5, .int x5)] := hl
  show W p l e (rmk 1) s m _ below meth c s.heap [] 0 0 _ _
  unfold f_X8_feed at hf
  -- walk
  refine lv_aload_n hx hb dX8_feed_0 rfl (lv_at hl 0 rfl) ?_
  refine gt_8_0 (i := 0) C hP (hok.2.1 8 0 (Nat.le_of_ble_eq_true rfl)) lk_X8_12 dX8_feed_1 ?_
  refine gt_6_1 (i := 0) C hP (hok.2.1 6 0 (Nat.le_of_ble_eq_true rfl)) lk_X8_54 dX8_feed_4 ?_
  refine lv_bipush (v := (20 : Int32)) hx hb dX8_feed_7 (by decide) ?_
  refine lv_iadd hx hb dX8_feed_9 ?_
  refine lv_sipush (v := (500 : Int32)) hx hb dX8_feed_10 (by decide) ?_
  refine lv_icmp_le (tgt := 18) hx hb dX8_feed_13 (by decide) (fun c11 => ?_) (fun c11 => ?_)
  · have hf := ifp hf c11
    refine lv_aload_n hx hb dX8_feed_18 rfl (lv_at hl 0 rfl) ?_
    refine gt_8_0 (i := 0) C hP (hok.2.1 8 0 (Nat.le_of_ble_eq_true rfl)) lk_X8_12 dX8_feed_19 ?_
    refine lv_iload_n hx hb dX8_feed_22 rfl (lv_at hl 1 rfl) ?_
    obtain ⟨z1, q2, hf⟩ := bsp hf
    refine kc_V (ci := 6) (i := 0) (As := [.int x1]) (rest := []) hok.2.2.1 C hP hS hl.1 (hok.2.1 6 0 (Nat.le_of_ble_eq_true rfl)) rfl rfl cw_X6_append ml_X8_57 (c_X6_append l D ca ad PL Z A hok N w x1 z1 q2) rfl ⟨rfl, rfl⟩ ⟨Nat.le_of_ble_eq_true rfl, Nat.le_of_ble_eq_true rfl⟩ ⟨Nat.zero_le _, Nat.zero_le _⟩ (Nat.le_of_ble_eq_true rfl) rfl dX8_feed_23 (fun H locs hP hS => ?_)
    refine lv_aload_n hx hb dX8_feed_26 rfl (lv_at hl 0 rfl) ?_
    refine gt_8_0 (i := 0) C hP (hok.2.1 8 0 (Nat.le_of_ble_eq_true rfl)) lk_X8_12 dX8_feed_27 ?_
    refine lv_iload_n hx hb dX8_feed_30 rfl (lv_at hl 2 rfl) ?_
    obtain ⟨z3, q4, hf⟩ := bsp hf
    refine kc_V (ci := 6) (i := 0) (As := [.int x2]) (rest := []) hok.2.2.1 C hP hS hl.1 (hok.2.1 6 0 (Nat.le_of_ble_eq_true rfl)) rfl rfl cw_X6_append ml_X8_57 (c_X6_append l D ca ad PL Z A hok N z1 x2 z3 q4) rfl ⟨rfl, rfl⟩ ⟨Nat.le_of_ble_eq_true rfl, Nat.le_of_ble_eq_true rfl⟩ ⟨Nat.zero_le _, Nat.zero_le _⟩ (Nat.le_of_ble_eq_true rfl) rfl dX8_feed_31 (fun H locs hP hS => ?_)
    refine lv_aload_n hx hb dX8_feed_34 rfl (lv_at hl 0 rfl) ?_
    refine gt_8_0 (i := 0) C hP (hok.2.1 8 0 (Nat.le_of_ble_eq_true rfl)) lk_X8_12 dX8_feed_35 ?_
    refine lv_iload_n hx hb dX8_feed_38 rfl (lv_at hl 3 rfl) ?_
    obtain ⟨z5, q6, hf⟩ := bsp hf
    refine kc_V (ci := 6) (i := 0) (As := [.int x3]) (rest := []) hok.2.2.1 C hP hS hl.1 (hok.2.1 6 0 (Nat.le_of_ble_eq_true rfl)) rfl rfl cw_X6_append ml_X8_57 (c_X6_append l D ca ad PL Z A hok N z3 x3 z5 q6) rfl ⟨rfl, rfl⟩ ⟨Nat.le_of_ble_eq_true rfl, Nat.le_of_ble_eq_true rfl⟩ ⟨Nat.zero_le _, Nat.zero_le _⟩ (Nat.le_of_ble_eq_true rfl) rfl dX8_feed_39 (fun H locs hP hS => ?_)
    refine lv_aload_n hx hb dX8_feed_42 rfl (lv_at hl 0 rfl) ?_
    refine gt_8_0 (i := 0) C hP (hok.2.1 8 0 (Nat.le_of_ble_eq_true rfl)) lk_X8_12 dX8_feed_43 ?_
    refine lv_iload hx hb dX8_feed_46 (lv_at hl 4 rfl) ?_
    obtain ⟨z7, q8, hf⟩ := bsp hf
    refine kc_V (ci := 6) (i := 0) (As := [.int x4]) (rest := []) hok.2.2.1 C hP hS hl.1 (hok.2.1 6 0 (Nat.le_of_ble_eq_true rfl)) rfl rfl cw_X6_append ml_X8_57 (c_X6_append l D ca ad PL Z A hok N z5 x4 z7 q8) rfl ⟨rfl, rfl⟩ ⟨Nat.le_of_ble_eq_true rfl, Nat.le_of_ble_eq_true rfl⟩ ⟨Nat.zero_le _, Nat.zero_le _⟩ (Nat.le_of_ble_eq_true rfl) rfl dX8_feed_48 (fun H locs hP hS => ?_)
    refine lv_aload_n hx hb dX8_feed_51 rfl (lv_at hl 0 rfl) ?_
    refine gt_8_0 (i := 0) C hP (hok.2.1 8 0 (Nat.le_of_ble_eq_true rfl)) lk_X8_12 dX8_feed_52 ?_
    refine lv_iload hx hb dX8_feed_55 (lv_at hl 5 rfl) ?_
    obtain ⟨z9, q10, hf⟩ := bsp hf
    refine kc_V (ci := 6) (i := 0) (As := [.int x5]) (rest := []) hok.2.2.1 C hP hS hl.1 (hok.2.1 6 0 (Nat.le_of_ble_eq_true rfl)) rfl rfl cw_X6_append ml_X8_57 (c_X6_append l D ca ad PL Z A hok N z7 x5 z9 q10) rfl ⟨rfl, rfl⟩ ⟨Nat.le_of_ble_eq_true rfl, Nat.le_of_ble_eq_true rfl⟩ ⟨Nat.zero_le _, Nat.zero_le _⟩ (Nat.le_of_ble_eq_true rfl) rfl dX8_feed_57 (fun H locs hP hS => ?_)
    refine lv_aload_n hx hb dX8_feed_60 rfl (lv_at hl 0 rfl) ?_
    refine gt_8_0 (i := 0) C hP (hok.2.1 8 0 (Nat.le_of_ble_eq_true rfl)) lk_X8_12 dX8_feed_61 ?_
    refine gt_6_1 (i := 0) C hP (hok.2.1 6 0 (Nat.le_of_ble_eq_true rfl)) lk_X8_54 dX8_feed_64 ?_
    exact kr_i hok.2.2.1 C hlocks hr rfl hP hS (congrArg Prod.fst (Option.some.inj hf)) (congrArg Prod.snd (Option.some.inj hf)) dX8_feed_67
  · have hf := ifn hf c11
    refine lv_iconst (v := (-1 : Int32)) hx hb dX8_feed_16 (by decide) ?_
    exact kr_i hok.2.2.1 C hlocks hr rfl hP hS (congrArg Prod.fst (Option.some.inj hf)) (congrArg Prod.snd (Option.some.inj hf)) dX8_feed_17
def f_X8_refuse (N : Nat) (w : Mem) (x1 : Int32) : Option (Mem × Int32) :=
  some ((sF (sF w 8 7 0 x1) 8 9 0 (-1 : Int32)), (-1 : Int32))
set_option maxRecDepth 100000 in
set_option maxHeartbeats 4000000 in
theorem c_X8_refuse (l : Launch) (D : va_G) (ca : Nat → ClassId) (ad : Nat → Nat → Nat) (PL : List (Nat × Nat)) (Z : State → Prop) (A : Nat → Prop) (hok : okc bX Z A ad PL) (N : Nat) (w : Mem) (x1 : Int32) (w' : Mem) (r : Int32) (hf : f_X8_refuse N w x1 = some (w', r)) : CT l yX8_refuse (wsy yX8_refuse cX8_refuse 2 (some .int)) (rmk 0) D ca ad PL Z A [.ref (ad 8 0), .int x1] w w' (some (.int r)) := by
  refine Met.ofW (cc := cX8_refuse) (maxL := 2) (ret := (some .int)) (by decide +kernel) rfl ?_
  intro p e s m args below meth c s₁ B hml hv
  obtain ⟨rfl, hP, hK, hZ⟩ := hv
  have hx := B.exec
  have hb := B.bytes
  have hr := B.returns
  have hlocks := B.notSynchronized
  have hts : ∀ w ∈ ALL, w.before _ s = true := fun w hw => atoms_spec (ws := wsy yX8_refuse cX8_refuse 2 (some .int)) B.pre w (List.mem_cons_of_mem _ hw)
  have hown : s.vm.findClass RX8 = some m.cls := findClass_of_methodNamed B.named
  have C : CX p s m _ c cX8_refuse RX8 2 D ca Z := ⟨hx, hb, hml, hown, hts, hK, hZ⟩
  have hS : va_S A s.heap s.heap [] := va_S.rf
  have hl := lv_entry ([.ref (ad 8 0), .int x1]) (n := 2) (Nat.le_of_ble_eq_true rfl)
  rw [lg_entry_eq]
  generalize (lg_sl ([.ref (ad 8 0), .int x1]) ++ List.replicate (2 - (lg_sl ([.ref (ad 8 0), .int x1])).length) Slot.unset).toArray = ls at hl ⊢
  have hl : lv_has ls 2 [(0, .ref (ad 8 0)), (1, .int x1)] := hl
  show W p l e (rmk 0) s m _ below meth c s.heap [] 0 0 _ _
  unfold f_X8_refuse at hf
  -- walk
  refine lv_aload_n hx hb dX8_refuse_0 rfl (lv_at hl 0 rfl) ?_
  refine lv_iload_n hx hb dX8_refuse_1 rfl (lv_at hl 1 rfl) ?_
  refine pt_8_7 (i := 0) (v := x1) C hok.1 hP hS (hok.2.1 8 0 (Nat.le_of_ble_eq_true rfl)) lk_X8_318 dX8_refuse_2 (fun H locs hP hS => ?_)
  refine lv_aload_n hx hb dX8_refuse_5 rfl (lv_at hl 0 rfl) ?_
  refine lv_iconst (v := (-1 : Int32)) hx hb dX8_refuse_6 (by decide) ?_
  refine pt_8_9 (i := 0) (v := (-1 : Int32)) C hok.1 hP hS (hok.2.1 8 0 (Nat.le_of_ble_eq_true rfl)) lk_X8_50 dX8_refuse_7 (fun H locs hP hS => ?_)
  refine lv_iconst (v := (-1 : Int32)) hx hb dX8_refuse_10 (by decide) ?_
  exact kr_i hok.2.2.1 C hlocks hr rfl hP hS (congrArg Prod.fst (Option.some.inj hf)) (congrArg Prod.snd (Option.some.inj hf)) dX8_refuse_11
def f_X8_answer (N : Nat) (w : Mem) (x1 : Int32) : Option (Mem × Int32) :=
  some ((sF (sF w 8 7 0 (0 : Int32)) 8 9 0 (-1 : Int32)), x1)
set_option maxRecDepth 100000 in
set_option maxHeartbeats 4000000 in
theorem c_X8_answer (l : Launch) (D : va_G) (ca : Nat → ClassId) (ad : Nat → Nat → Nat) (PL : List (Nat × Nat)) (Z : State → Prop) (A : Nat → Prop) (hok : okc bX Z A ad PL) (N : Nat) (w : Mem) (x1 : Int32) (w' : Mem) (r : Int32) (hf : f_X8_answer N w x1 = some (w', r)) : CT l yX8_answer (wsy yX8_answer cX8_answer 2 (some .int)) (rmk 0) D ca ad PL Z A [.ref (ad 8 0), .int x1] w w' (some (.int r)) := by
  refine Met.ofW (cc := cX8_answer) (maxL := 2) (ret := (some .int)) (by decide +kernel) rfl ?_
  intro p e s m args below meth c s₁ B hml hv
  obtain ⟨rfl, hP, hK, hZ⟩ := hv
  have hx := B.exec
  have hb := B.bytes
  have hr := B.returns
  have hlocks := B.notSynchronized
  have hts : ∀ w ∈ ALL, w.before _ s = true := fun w hw => atoms_spec (ws := wsy yX8_answer cX8_answer 2 (some .int)) B.pre w (List.mem_cons_of_mem _ hw)
  have hown : s.vm.findClass RX8 = some m.cls := findClass_of_methodNamed B.named
  have C : CX p s m _ c cX8_answer RX8 2 D ca Z := ⟨hx, hb, hml, hown, hts, hK, hZ⟩
  have hS : va_S A s.heap s.heap [] := va_S.rf
  have hl := lv_entry ([.ref (ad 8 0), .int x1]) (n := 2) (Nat.le_of_ble_eq_true rfl)
  rw [lg_entry_eq]
  generalize (lg_sl ([.ref (ad 8 0), .int x1]) ++ List.replicate (2 - (lg_sl ([.ref (ad 8 0), .int x1])).length) Slot.unset).toArray = ls at hl ⊢
  have hl : lv_has ls 2 [(0, .ref (ad 8 0)), (1, .int x1)] := hl
  show W p l e (rmk 0) s m _ below meth c s.heap [] 0 0 _ _
  unfold f_X8_answer at hf
  -- walk
  refine lv_aload_n hx hb dX8_answer_0 rfl (lv_at hl 0 rfl) ?_
  refine lv_iconst (v := (0 : Int32)) hx hb dX8_answer_1 (by decide) ?_
  refine pt_8_7 (i := 0) (v := (0 : Int32)) C hok.1 hP hS (hok.2.1 8 0 (Nat.le_of_ble_eq_true rfl)) lk_X8_318 dX8_answer_2 (fun H locs hP hS => ?_)
  refine lv_aload_n hx hb dX8_answer_5 rfl (lv_at hl 0 rfl) ?_
  refine lv_iconst (v := (-1 : Int32)) hx hb dX8_answer_6 (by decide) ?_
  refine pt_8_9 (i := 0) (v := (-1 : Int32)) C hok.1 hP hS (hok.2.1 8 0 (Nat.le_of_ble_eq_true rfl)) lk_X8_50 dX8_answer_7 (fun H locs hP hS => ?_)
  refine lv_iload_n hx hb dX8_answer_10 rfl (lv_at hl 1 rfl) ?_
  exact kr_i hok.2.2.1 C hlocks hr rfl hP hS (congrArg Prod.fst (Option.some.inj hf)) (congrArg Prod.snd (Option.some.inj hf)) dX8_answer_11
def f_X8_about (N : Nat) (w : Mem) (x1 : Int32) : Option (Mem × Int32) :=
  (if x1 = (0 : Int32) then
(if (gR w 8 5 0) < 2 then (Option.bind (f_X8_answer N w (gF w 7 9 (gR w 8 5 0))) (fun z2 => some (z2.1, z2.2))) else none)
else
(if x1 = (1 : Int32) then
(if (gR w 8 5 0) < 2 then (Option.bind (f_X8_answer N w (gF w 7 10 (gR w 8 5 0))) (fun z6 => some (z6.1, z6.2))) else none)
else
(if x1 = (2 : Int32) then
(if (gR w 8 5 0) < 2 then (Option.bind (f_X8_answer N w (gF w 1 9 (gR w 8 5 0))) (fun z10 => some (z10.1, z10.2))) else none)
else
(if x1 = (3 : Int32) then
(if (gR w 8 5 0) < 2 then (Option.bind (f_X8_answer N w (gF w 1 10 (gR w 8 5 0))) (fun z14 => some (z14.1, z14.2))) else none)
else
(if x1 = (4 : Int32) then
(if (gR w 8 5 0) < 2 then (Option.bind (f_X8_answer N w (gF w 3 2 (2 + (gR w 8 5 0)))) (fun z18 => some (z18.1, z18.2))) else none)
else
(if x1 = (5 : Int32) then
(if (gR w 8 5 0) < 2 then (Option.bind (f_X8_answer N w (gF w 1 11 (gR w 8 5 0))) (fun z22 => some (z22.1, z22.2))) else none)
else
(if x1 = (6 : Int32) then
(if (gR w 8 5 0) < 2 then (Option.bind (f_X8_answer N w (gF w 2 7 (gR w 8 5 0))) (fun z26 => some (z26.1, z26.2))) else none)
else
(if x1 = (7 : Int32) then
(if (gR w 8 5 0) < 2 then (Option.bind (f_X1_firstClash N w (gR w 8 5 0) (2 + (gR w 8 5 0))) (fun z30 => (Option.bind (f_X8_answer N w z30) (fun z32 => some (z32.1, z32.2))))) else none)
else
(Option.bind (f_X8_refuse N w (1 : Int32)) (fun z35 => some (z35.1, z35.2)))))))))))
set_option maxRecDepth 100000 in
set_option maxHeartbeats 4000000 in
theorem c_X8_about (l : Launch) (D : va_G) (ca : Nat → ClassId) (ad : Nat → Nat → Nat) (PL : List (Nat × Nat)) (Z : State → Prop) (A : Nat → Prop) (hok : okc bX Z A ad PL) (N : Nat) (w : Mem) (x1 : Int32) (w' : Mem) (r : Int32) (hf : f_X8_about N w x1 = some (w', r)) : CT l yX8_about (wsy yX8_about cX8_about 2 (some .int)) (rmk 3) D ca ad PL Z A [.ref (ad 8 0), .int x1] w w' (some (.int r)) := by
  refine Met.ofW (cc := cX8_about) (maxL := 2) (ret := (some .int)) (by decide +kernel) rfl ?_
  intro p e s m args below meth c s₁ B hml hv
  obtain ⟨rfl, hP, hK, hZ⟩ := hv
  have hx := B.exec
  have hb := B.bytes
  have hr := B.returns
  have hlocks := B.notSynchronized
  have hts : ∀ w ∈ ALL, w.before _ s = true := fun w hw => atoms_spec (ws := wsy yX8_about cX8_about 2 (some .int)) B.pre w (List.mem_cons_of_mem _ hw)
  have hown : s.vm.findClass RX8 = some m.cls := findClass_of_methodNamed B.named
  have C : CX p s m _ c cX8_about RX8 2 D ca Z := ⟨hx, hb, hml, hown, hts, hK, hZ⟩
  have hS : va_S A s.heap s.heap [] := va_S.rf
  have hl := lv_entry ([.ref (ad 8 0), .int x1]) (n := 2) (Nat.le_of_ble_eq_true rfl)
  rw [lg_entry_eq]
  generalize (lg_sl ([.ref (ad 8 0), .int x1]) ++ List.replicate (2 - (lg_sl ([.ref (ad 8 0), .int x1])).length) Slot.unset).toArray = ls at hl ⊢
  have hl : lv_has ls 2 [(0, .ref (ad 8 0)), (1, .int x1)] := hl
  show W p l e (rmk 3) s m _ below meth c s.heap [] 0 0 _ _
  unfold f_X8_about at hf
  -- walk
  refine lv_iload_n hx hb dX8_about_0 rfl (lv_at hl 1 rfl) ?_
  by_cases c4 : x1 = (0 : Int32)
  · refine lv_tableIn (tgt := 48) hx hb dX8_about_1 (by rw [c4]; decide) (by rw [c4]; decide) (by rw [c4] <;> rfl) (by decide) ?_
    have hf := ifp hf c4
    refine lv_aload_n hx hb dX8_about_48 rfl (lv_at hl 0 rfl) ?_
    refine lv_aload_n hx hb dX8_about_49 rfl (lv_at hl 0 rfl) ?_
    obtain ⟨g1, hf⟩ := gsp hf
    refine gt_8_5 (i := 0) C hP (hok.2.1 8 0 (Nat.le_of_ble_eq_true rfl)) lk_X8_43 dX8_about_50 ?_
    refine gt_1_0 (i := (gR w 8 5 0)) C hP (hok.2.1 1 (gR w 8 5 0) g1) lk_X8_87 dX8_about_53 ?_
    refine gt_7_9 (i := (gR w 8 5 0)) C hP (hok.2.1 7 (gR w 8 5 0) g1) lk_X8_99 dX8_about_56 ?_
    obtain ⟨z2, q3, hf⟩ := bsp hf
    refine kc_V (ci := 8) (i := 0) (As := [.int (gF w 7 9 (gR w 8 5 0))]) (rest := []) hok.2.2.1 C hP hS hl.1 (hok.2.1 8 0 (Nat.le_of_ble_eq_true rfl)) rfl rfl cw_X8_answer ml_X8_96 (c_X8_answer l D ca ad PL Z A hok N w (gF w 7 9 (gR w 8 5 0)) z2.1 z2.2 q3) rfl ⟨rfl, rfl⟩ ⟨Nat.le_of_ble_eq_true rfl, Nat.le_of_ble_eq_true rfl⟩ ⟨Nat.zero_le _, Nat.zero_le _⟩ (Nat.le_of_ble_eq_true rfl) rfl dX8_about_59 (fun H locs hP hS => ?_)
    exact kr_i hok.2.2.1 C hlocks hr rfl hP hS (congrArg Prod.fst (Option.some.inj hf)) (congrArg Prod.snd (Option.some.inj hf)) dX8_about_62
  have hf := ifn hf c4
  by_cases c8 : x1 = (1 : Int32)
  · refine lv_tableIn (tgt := 63) hx hb dX8_about_1 (by rw [c8]; decide) (by rw [c8]; decide) (by rw [c8] <;> rfl) (by decide) ?_
    have hf := ifp hf c8
    refine lv_aload_n hx hb dX8_about_63 rfl (lv_at hl 0 rfl) ?_
    refine lv_aload_n hx hb dX8_about_64 rfl (lv_at hl 0 rfl) ?_
    obtain ⟨g5, hf⟩ := gsp hf
    refine gt_8_5 (i := 0) C hP (hok.2.1 8 0 (Nat.le_of_ble_eq_true rfl)) lk_X8_43 dX8_about_65 ?_
    refine gt_1_0 (i := (gR w 8 5 0)) C hP (hok.2.1 1 (gR w 8 5 0) g5) lk_X8_87 dX8_about_68 ?_
    refine gt_7_10 (i := (gR w 8 5 0)) C hP (hok.2.1 7 (gR w 8 5 0) g5) lk_X8_91 dX8_about_71 ?_
    obtain ⟨z6, q7, hf⟩ := bsp hf
    refine kc_V (ci := 8) (i := 0) (As := [.int (gF w 7 10 (gR w 8 5 0))]) (rest := []) hok.2.2.1 C hP hS hl.1 (hok.2.1 8 0 (Nat.le_of_ble_eq_true rfl)) rfl rfl cw_X8_answer ml_X8_96 (c_X8_answer l D ca ad PL Z A hok N w (gF w 7 10 (gR w 8 5 0)) z6.1 z6.2 q7) rfl ⟨rfl, rfl⟩ ⟨Nat.le_of_ble_eq_true rfl, Nat.le_of_ble_eq_true rfl⟩ ⟨Nat.zero_le _, Nat.zero_le _⟩ (Nat.le_of_ble_eq_true rfl) rfl dX8_about_74 (fun H locs hP hS => ?_)
    exact kr_i hok.2.2.1 C hlocks hr rfl hP hS (congrArg Prod.fst (Option.some.inj hf)) (congrArg Prod.snd (Option.some.inj hf)) dX8_about_77
  have hf := ifn hf c8
  by_cases c12 : x1 = (2 : Int32)
  · refine lv_tableIn (tgt := 78) hx hb dX8_about_1 (by rw [c12]; decide) (by rw [c12]; decide) (by rw [c12] <;> rfl) (by decide) ?_
    have hf := ifp hf c12
    refine lv_aload_n hx hb dX8_about_78 rfl (lv_at hl 0 rfl) ?_
    refine lv_aload_n hx hb dX8_about_79 rfl (lv_at hl 0 rfl) ?_
    obtain ⟨g9, hf⟩ := gsp hf
    refine gt_8_5 (i := 0) C hP (hok.2.1 8 0 (Nat.le_of_ble_eq_true rfl)) lk_X8_43 dX8_about_80 ?_
    refine gt_1_9 (i := (gR w 8 5 0)) C hP (hok.2.1 1 (gR w 8 5 0) g9) lk_X8_102 dX8_about_83 ?_
    obtain ⟨z10, q11, hf⟩ := bsp hf
    refine kc_V (ci := 8) (i := 0) (As := [.int (gF w 1 9 (gR w 8 5 0))]) (rest := []) hok.2.2.1 C hP hS hl.1 (hok.2.1 8 0 (Nat.le_of_ble_eq_true rfl)) rfl rfl cw_X8_answer ml_X8_96 (c_X8_answer l D ca ad PL Z A hok N w (gF w 1 9 (gR w 8 5 0)) z10.1 z10.2 q11) rfl ⟨rfl, rfl⟩ ⟨Nat.le_of_ble_eq_true rfl, Nat.le_of_ble_eq_true rfl⟩ ⟨Nat.zero_le _, Nat.zero_le _⟩ (Nat.le_of_ble_eq_true rfl) rfl dX8_about_86 (fun H locs hP hS => ?_)
    exact kr_i hok.2.2.1 C hlocks hr rfl hP hS (congrArg Prod.fst (Option.some.inj hf)) (congrArg Prod.snd (Option.some.inj hf)) dX8_about_89
  have hf := ifn hf c12
  by_cases c16 : x1 = (3 : Int32)
  · refine lv_tableIn (tgt := 90) hx hb dX8_about_1 (by rw [c16]; decide) (by rw [c16]; decide) (by rw [c16] <;> rfl) (by decide) ?_
    have hf := ifp hf c16
    refine lv_aload_n hx hb dX8_about_90 rfl (lv_at hl 0 rfl) ?_
    refine lv_aload_n hx hb dX8_about_91 rfl (lv_at hl 0 rfl) ?_
    obtain ⟨g13, hf⟩ := gsp hf
    refine gt_8_5 (i := 0) C hP (hok.2.1 8 0 (Nat.le_of_ble_eq_true rfl)) lk_X8_43 dX8_about_92 ?_
    refine gt_1_10 (i := (gR w 8 5 0)) C hP (hok.2.1 1 (gR w 8 5 0) g13) lk_X8_105 dX8_about_95 ?_
    obtain ⟨z14, q15, hf⟩ := bsp hf
    refine kc_V (ci := 8) (i := 0) (As := [.int (gF w 1 10 (gR w 8 5 0))]) (rest := []) hok.2.2.1 C hP hS hl.1 (hok.2.1 8 0 (Nat.le_of_ble_eq_true rfl)) rfl rfl cw_X8_answer ml_X8_96 (c_X8_answer l D ca ad PL Z A hok N w (gF w 1 10 (gR w 8 5 0)) z14.1 z14.2 q15) rfl ⟨rfl, rfl⟩ ⟨Nat.le_of_ble_eq_true rfl, Nat.le_of_ble_eq_true rfl⟩ ⟨Nat.zero_le _, Nat.zero_le _⟩ (Nat.le_of_ble_eq_true rfl) rfl dX8_about_98 (fun H locs hP hS => ?_)
    exact kr_i hok.2.2.1 C hlocks hr rfl hP hS (congrArg Prod.fst (Option.some.inj hf)) (congrArg Prod.snd (Option.some.inj hf)) dX8_about_101
  have hf := ifn hf c16
  by_cases c20 : x1 = (4 : Int32)
  · refine lv_tableIn (tgt := 102) hx hb dX8_about_1 (by rw [c20]; decide) (by rw [c20]; decide) (by rw [c20] <;> rfl) (by decide) ?_
    have hf := ifp hf c20
    refine lv_aload_n hx hb dX8_about_102 rfl (lv_at hl 0 rfl) ?_
    refine lv_aload_n hx hb dX8_about_103 rfl (lv_at hl 0 rfl) ?_
    obtain ⟨g17, hf⟩ := gsp hf
    refine gt_8_5 (i := 0) C hP (hok.2.1 8 0 (Nat.le_of_ble_eq_true rfl)) lk_X8_43 dX8_about_104 ?_
    refine gt_1_1 (i := (gR w 8 5 0)) C hP (hok.2.1 1 (gR w 8 5 0) g17) lk_X8_108 dX8_about_107 ?_
    refine gt_3_2 (i := (2 + (gR w 8 5 0))) C hP (hok.2.1 3 (2 + (gR w 8 5 0)) (Nat.lt_of_lt_of_le (Nat.add_lt_add_left g17 2) (Nat.le_of_ble_eq_true rfl))) lk_X8_111 dX8_about_110 ?_
    obtain ⟨z18, q19, hf⟩ := bsp hf
    refine kc_V (ci := 8) (i := 0) (As := [.int (gF w 3 2 (2 + (gR w 8 5 0)))]) (rest := []) hok.2.2.1 C hP hS hl.1 (hok.2.1 8 0 (Nat.le_of_ble_eq_true rfl)) rfl rfl cw_X8_answer ml_X8_96 (c_X8_answer l D ca ad PL Z A hok N w (gF w 3 2 (2 + (gR w 8 5 0))) z18.1 z18.2 q19) rfl ⟨rfl, rfl⟩ ⟨Nat.le_of_ble_eq_true rfl, Nat.le_of_ble_eq_true rfl⟩ ⟨Nat.zero_le _, Nat.zero_le _⟩ (Nat.le_of_ble_eq_true rfl) rfl dX8_about_113 (fun H locs hP hS => ?_)
    exact kr_i hok.2.2.1 C hlocks hr rfl hP hS (congrArg Prod.fst (Option.some.inj hf)) (congrArg Prod.snd (Option.some.inj hf)) dX8_about_116
  have hf := ifn hf c20
  by_cases c24 : x1 = (5 : Int32)
  · refine lv_tableIn (tgt := 117) hx hb dX8_about_1 (by rw [c24]; decide) (by rw [c24]; decide) (by rw [c24] <;> rfl) (by decide) ?_
    have hf := ifp hf c24
    refine lv_aload_n hx hb dX8_about_117 rfl (lv_at hl 0 rfl) ?_
    refine lv_aload_n hx hb dX8_about_118 rfl (lv_at hl 0 rfl) ?_
    obtain ⟨g21, hf⟩ := gsp hf
    refine gt_8_5 (i := 0) C hP (hok.2.1 8 0 (Nat.le_of_ble_eq_true rfl)) lk_X8_43 dX8_about_119 ?_
    refine gt_1_11 (i := (gR w 8 5 0)) C hP (hok.2.1 1 (gR w 8 5 0) g21) lk_X8_113 dX8_about_122 ?_
    obtain ⟨z22, q23, hf⟩ := bsp hf
    refine kc_V (ci := 8) (i := 0) (As := [.int (gF w 1 11 (gR w 8 5 0))]) (rest := []) hok.2.2.1 C hP hS hl.1 (hok.2.1 8 0 (Nat.le_of_ble_eq_true rfl)) rfl rfl cw_X8_answer ml_X8_96 (c_X8_answer l D ca ad PL Z A hok N w (gF w 1 11 (gR w 8 5 0)) z22.1 z22.2 q23) rfl ⟨rfl, rfl⟩ ⟨Nat.le_of_ble_eq_true rfl, Nat.le_of_ble_eq_true rfl⟩ ⟨Nat.zero_le _, Nat.zero_le _⟩ (Nat.le_of_ble_eq_true rfl) rfl dX8_about_125 (fun H locs hP hS => ?_)
    exact kr_i hok.2.2.1 C hlocks hr rfl hP hS (congrArg Prod.fst (Option.some.inj hf)) (congrArg Prod.snd (Option.some.inj hf)) dX8_about_128
  have hf := ifn hf c24
  by_cases c28 : x1 = (6 : Int32)
  · refine lv_tableIn (tgt := 129) hx hb dX8_about_1 (by rw [c28]; decide) (by rw [c28]; decide) (by rw [c28] <;> rfl) (by decide) ?_
    have hf := ifp hf c28
    refine lv_aload_n hx hb dX8_about_129 rfl (lv_at hl 0 rfl) ?_
    refine lv_aload_n hx hb dX8_about_130 rfl (lv_at hl 0 rfl) ?_
    obtain ⟨g25, hf⟩ := gsp hf
    refine gt_8_5 (i := 0) C hP (hok.2.1 8 0 (Nat.le_of_ble_eq_true rfl)) lk_X8_43 dX8_about_131 ?_
    refine gt_1_2 (i := (gR w 8 5 0)) C hP (hok.2.1 1 (gR w 8 5 0) g25) lk_X8_116 dX8_about_134 ?_
    refine gt_2_7 (i := (gR w 8 5 0)) C hP (hok.2.1 2 (gR w 8 5 0) g25) lk_X8_120 dX8_about_137 ?_
    obtain ⟨z26, q27, hf⟩ := bsp hf
    refine kc_V (ci := 8) (i := 0) (As := [.int (gF w 2 7 (gR w 8 5 0))]) (rest := []) hok.2.2.1 C hP hS hl.1 (hok.2.1 8 0 (Nat.le_of_ble_eq_true rfl)) rfl rfl cw_X8_answer ml_X8_96 (c_X8_answer l D ca ad PL Z A hok N w (gF w 2 7 (gR w 8 5 0)) z26.1 z26.2 q27) rfl ⟨rfl, rfl⟩ ⟨Nat.le_of_ble_eq_true rfl, Nat.le_of_ble_eq_true rfl⟩ ⟨Nat.zero_le _, Nat.zero_le _⟩ (Nat.le_of_ble_eq_true rfl) rfl dX8_about_140 (fun H locs hP hS => ?_)
    exact kr_i hok.2.2.1 C hlocks hr rfl hP hS (congrArg Prod.fst (Option.some.inj hf)) (congrArg Prod.snd (Option.some.inj hf)) dX8_about_143
  have hf := ifn hf c28
  by_cases c34 : x1 = (7 : Int32)
  · refine lv_tableIn (tgt := 144) hx hb dX8_about_1 (by rw [c34]; decide) (by rw [c34]; decide) (by rw [c34] <;> rfl) (by decide) ?_
    have hf := ifp hf c34
    refine lv_aload_n hx hb dX8_about_144 rfl (lv_at hl 0 rfl) ?_
    refine lv_aload_n hx hb dX8_about_145 rfl (lv_at hl 0 rfl) ?_
    obtain ⟨g29, hf⟩ := gsp hf
    refine gt_8_5 (i := 0) C hP (hok.2.1 8 0 (Nat.le_of_ble_eq_true rfl)) lk_X8_43 dX8_about_146 ?_
    refine lv_aload_n hx hb dX8_about_149 rfl (lv_at hl 0 rfl) ?_
    refine gt_8_5 (i := 0) C hP (hok.2.1 8 0 (Nat.le_of_ble_eq_true rfl)) lk_X8_43 dX8_about_150 ?_
    refine gt_1_1 (i := (gR w 8 5 0)) C hP (hok.2.1 1 (gR w 8 5 0) g29) lk_X8_108 dX8_about_153 ?_
    obtain ⟨z30, q31, hf⟩ := bsp hf
    refine kc_V (ci := 1) (i := (gR w 8 5 0)) (As := [.ref (ad 3 (2 + (gR w 8 5 0)))]) (rest := [.ref (ad 8 0)]) hok.2.2.1 C hP hS hl.1 (hok.2.1 1 (gR w 8 5 0) g29) rfl rfl cw_X1_firstClash ml_X8_125 (c_X1_firstClash l D ca ad PL Z A hok N w (gR w 8 5 0) g29 (2 + (gR w 8 5 0)) (Nat.lt_of_lt_of_le (Nat.add_lt_add_left g29 2) (Nat.le_of_ble_eq_true rfl)) z30 q31) rfl ⟨rfl, rfl⟩ ⟨Nat.le_of_ble_eq_true rfl, Nat.le_of_ble_eq_true rfl⟩ ⟨Nat.zero_le _, Nat.zero_le _⟩ (Nat.le_of_ble_eq_true rfl) rfl dX8_about_156 (fun H locs hP hS => ?_)
    obtain ⟨z32, q33, hf⟩ := bsp hf
    refine kc_V (ci := 8) (i := 0) (As := [.int z30]) (rest := []) hok.2.2.1 C hP hS hl.1 (hok.2.1 8 0 (Nat.le_of_ble_eq_true rfl)) rfl rfl cw_X8_answer ml_X8_96 (c_X8_answer l D ca ad PL Z A hok N w z30 z32.1 z32.2 q33) rfl ⟨rfl, rfl⟩ ⟨Nat.le_of_ble_eq_true rfl, Nat.le_of_ble_eq_true rfl⟩ ⟨Nat.zero_le _, Nat.zero_le _⟩ (Nat.le_of_ble_eq_true rfl) rfl dX8_about_159 (fun H locs hP hS => ?_)
    exact kr_i hok.2.2.1 C hlocks hr rfl hP hS (congrArg Prod.fst (Option.some.inj hf)) (congrArg Prod.snd (Option.some.inj hf)) dX8_about_162
  have hf := ifn hf c34
  have t_c4 : ¬ (x1).toInt = 0 := fun h => c4 (Int32.toInt_inj.mp (h.trans (by decide)))
  have t_c8 : ¬ (x1).toInt = 1 := fun h => c8 (Int32.toInt_inj.mp (h.trans (by decide)))
  have t_c12 : ¬ (x1).toInt = 2 := fun h => c12 (Int32.toInt_inj.mp (h.trans (by decide)))
  have t_c16 : ¬ (x1).toInt = 3 := fun h => c16 (Int32.toInt_inj.mp (h.trans (by decide)))
  have t_c20 : ¬ (x1).toInt = 4 := fun h => c20 (Int32.toInt_inj.mp (h.trans (by decide)))
  have t_c24 : ¬ (x1).toInt = 5 := fun h => c24 (Int32.toInt_inj.mp (h.trans (by decide)))
  have t_c28 : ¬ (x1).toInt = 6 := fun h => c28 (Int32.toInt_inj.mp (h.trans (by decide)))
  have t_c34 : ¬ (x1).toInt = 7 := fun h => c34 (Int32.toInt_inj.mp (h.trans (by decide)))
  refine lv_tableOut (tgt := 163) hx hb dX8_about_1 (by omega) (by decide) ?_
  refine lv_aload_n hx hb dX8_about_163 rfl (lv_at hl 0 rfl) ?_
  refine lv_iconst (v := (1 : Int32)) hx hb dX8_about_164 (by decide) ?_
  obtain ⟨z35, q36, hf⟩ := bsp hf
  refine kc_V (ci := 8) (i := 0) (As := [.int (1 : Int32)]) (rest := []) hok.2.2.1 C hP hS hl.1 (hok.2.1 8 0 (Nat.le_of_ble_eq_true rfl)) rfl rfl cw_X8_refuse ml_X8_61 (c_X8_refuse l D ca ad PL Z A hok N w (1 : Int32) z35.1 z35.2 q36) rfl ⟨rfl, rfl⟩ ⟨Nat.le_of_ble_eq_true rfl, Nat.le_of_ble_eq_true rfl⟩ ⟨Nat.zero_le _, Nat.zero_le _⟩ (Nat.le_of_ble_eq_true rfl) rfl dX8_about_165 (fun H locs hP hS => ?_)
  exact kr_i hok.2.2.1 C hlocks hr rfl hP hS (congrArg Prod.fst (Option.some.inj hf)) (congrArg Prod.snd (Option.some.inj hf)) dX8_about_168
def f_X8_isTerm (N : Nat) (w : Mem) (x1 : Int32) : Option (Int32) :=
  (if x1 < (0 : Int32) then
some (0 : Int32)
else
(if (gR w 8 5 0) < 2 then (if (gF w 7 10 (gR w 8 5 0)) ≤ x1 then
some (0 : Int32)
else
some (1 : Int32)) else none))
set_option maxRecDepth 100000 in
set_option maxHeartbeats 4000000 in
theorem c_X8_isTerm (l : Launch) (D : va_G) (ca : Nat → ClassId) (ad : Nat → Nat → Nat) (PL : List (Nat × Nat)) (Z : State → Prop) (A : Nat → Prop) (hok : okc bX Z A ad PL) (N : Nat) (w : Mem) (x1 : Int32) (r : Int32) (hf : f_X8_isTerm N w x1 = some r) : CT l yX8_isTerm (wsy yX8_isTerm cX8_isTerm 2 (some .boolean)) (rmk 0) D ca ad PL Z A [.ref (ad 8 0), .int x1] w w (some (.int r)) := by
  refine Met.ofW (cc := cX8_isTerm) (maxL := 2) (ret := (some .boolean)) (by decide +kernel) rfl ?_
  intro p e s m args below meth c s₁ B hml hv
  obtain ⟨rfl, hP, hK, hZ⟩ := hv
  have hx := B.exec
  have hb := B.bytes
  have hr := B.returns
  have hlocks := B.notSynchronized
  have hts : ∀ w ∈ ALL, w.before _ s = true := fun w hw => atoms_spec (ws := wsy yX8_isTerm cX8_isTerm 2 (some .boolean)) B.pre w (List.mem_cons_of_mem _ hw)
  have hown : s.vm.findClass RX8 = some m.cls := findClass_of_methodNamed B.named
  have C : CX p s m _ c cX8_isTerm RX8 2 D ca Z := ⟨hx, hb, hml, hown, hts, hK, hZ⟩
  have hS : va_S A s.heap s.heap [] := va_S.rf
  have hl := lv_entry ([.ref (ad 8 0), .int x1]) (n := 2) (Nat.le_of_ble_eq_true rfl)
  rw [lg_entry_eq]
  generalize (lg_sl ([.ref (ad 8 0), .int x1]) ++ List.replicate (2 - (lg_sl ([.ref (ad 8 0), .int x1])).length) Slot.unset).toArray = ls at hl ⊢
  have hl : lv_has ls 2 [(0, .ref (ad 8 0)), (1, .int x1)] := hl
  show W p l e (rmk 0) s m _ below meth c s.heap [] 0 0 _ _
  unfold f_X8_isTerm at hf
  -- walk
  refine lv_iload_n hx hb dX8_isTerm_0 rfl (lv_at hl 1 rfl) ?_
  refine lv_if_lt (tgt := 22) hx hb dX8_isTerm_1 (by decide) (fun c3 => ?_) (fun c3 => ?_)
  · have hf := ifp hf c3
    refine lv_iconst (v := (0 : Int32)) hx hb dX8_isTerm_22 (by decide) ?_
    exact kr_i hok.2.2.1 C hlocks hr rfl hP hS rfl (Option.some.inj hf) dX8_isTerm_23
  · have hf := ifn hf c3
    refine lv_iload_n hx hb dX8_isTerm_4 rfl (lv_at hl 1 rfl) ?_
    refine lv_aload_n hx hb dX8_isTerm_5 rfl (lv_at hl 0 rfl) ?_
    obtain ⟨g1, hf⟩ := gsp hf
    refine gt_8_5 (i := 0) C hP (hok.2.1 8 0 (Nat.le_of_ble_eq_true rfl)) lk_X8_43 dX8_isTerm_6 ?_
    refine gt_1_0 (i := (gR w 8 5 0)) C hP (hok.2.1 1 (gR w 8 5 0) g1) lk_X8_87 dX8_isTerm_9 ?_
    refine gt_7_10 (i := (gR w 8 5 0)) C hP (hok.2.1 7 (gR w 8 5 0) g1) lk_X8_91 dX8_isTerm_12 ?_
    refine lv_icmp_ge (tgt := 22) hx hb dX8_isTerm_15 (by decide) (fun c2 => ?_) (fun c2 => ?_)
    · have hf := ifp hf c2
      refine lv_iconst (v := (0 : Int32)) hx hb dX8_isTerm_22 (by decide) ?_
      exact kr_i hok.2.2.1 C hlocks hr rfl hP hS rfl (Option.some.inj hf) dX8_isTerm_23
    · have hf := ifn hf c2
      refine lv_iconst (v := (1 : Int32)) hx hb dX8_isTerm_18 (by decide) ?_
      refine lv_goto (tgt := 23) hx hb dX8_isTerm_19 (by decide) ?_
      exact kr_i hok.2.2.1 C hlocks hr rfl hP hS rfl (Option.some.inj hf) dX8_isTerm_23
def f_X8_term (N : Nat) (w : Mem) (x1 : Int32) (x2 : Int32) : Option (Mem × Int32) :=
  (Option.bind (f_X8_isTerm N w x1) (fun z1 => (if z1 = (0 : Int32) then
(Option.bind (f_X8_refuse N w (1 : Int32)) (fun z40 => some (z40.1, z40.2)))
else
(if x2 = (0 : Int32) then
(if (gR w 8 5 0) < 2 then (if inb x1 24 = true then (Option.bind (f_X8_answer N w (gA w 33 (gR w 8 5 0) x1.toNatClampNeg)) (fun z5 => some (z5.1, z5.2))) else none) else none)
else
(if x2 = (1 : Int32) then
(if (gR w 8 5 0) < 2 then (if inb x1 24 = true then (Option.bind (f_X8_answer N w (gA w 25 (2 + (gR w 8 5 0)) x1.toNatClampNeg)) (fun z10 => some (z10.1, z10.2))) else none) else none)
else
(if x2 = (2 : Int32) then
(if (gR w 8 5 0) < 2 then (Option.bind (f_X3_members N w (2 + (gR w 8 5 0)) x1) (fun z14 => (Option.bind (f_X8_answer N w z14) (fun z16 => some (z16.1, z16.2))))) else none)
else
(if x2 = (3 : Int32) then
(if (gR w 8 5 0) < 2 then (Option.bind (f_X7_termsAbove N w (gR w 8 5 0) x1 (2 + (gR w 8 5 0))) (fun z20 => (Option.bind (f_X8_answer N w z20) (fun z22 => some (z22.1, z22.2))))) else none)
else
(if x2 = (4 : Int32) then
(if (gR w 8 5 0) < 2 then (if inb x1 24 = true then (Option.bind (f_X8_answer N w (gA w 35 (gR w 8 5 0) x1.toNatClampNeg)) (fun z27 => some (z27.1, z27.2))) else none) else none)
else
(if x2 = (5 : Int32) then
(if (gR w 8 5 0) < 2 then (if inb x1 24 = true then (if (0 : Int32) ≤ (gA w 19 (gR w 8 5 0) x1.toNatClampNeg) then
(Option.bind (f_X8_answer N w (gA w 19 (gR w 8 5 0) x1.toNatClampNeg)) (fun z32 => some (z32.1, z32.2)))
else
(Option.bind (f_X8_answer N w (-2 : Int32)) (fun z34 => some (z34.1, z34.2)))) else none) else none)
else
(Option.bind (f_X8_refuse N w (1 : Int32)) (fun z38 => some (z38.1, z38.2))))))))))))
set_option maxRecDepth 100000 in
set_option maxHeartbeats 4000000 in
theorem c_X8_term (l : Launch) (D : va_G) (ca : Nat → ClassId) (ad : Nat → Nat → Nat) (PL : List (Nat × Nat)) (Z : State → Prop) (A : Nat → Prop) (hok : okc bX Z A ad PL) (N : Nat) (w : Mem) (x1 : Int32) (x2 : Int32) (w' : Mem) (r : Int32) (hf : f_X8_term N w x1 x2 = some (w', r)) : CT l yX8_term (wsy yX8_term cX8_term 3 (some .int)) (rmk 3) D ca ad PL Z A [.ref (ad 8 0), .int x1, .int x2] w w' (some (.int r)) := by
  refine Met.ofW (cc := cX8_term) (maxL := 3) (ret := (some .int)) (by decide +kernel) rfl ?_
  intro p e s m args below meth c s₁ B hml hv
  obtain ⟨rfl, hP, hK, hZ⟩ := hv
  have hx := B.exec
  have hb := B.bytes
  have hr := B.returns
  have hlocks := B.notSynchronized
  have hts : ∀ w ∈ ALL, w.before _ s = true := fun w hw => atoms_spec (ws := wsy yX8_term cX8_term 3 (some .int)) B.pre w (List.mem_cons_of_mem _ hw)
  have hown : s.vm.findClass RX8 = some m.cls := findClass_of_methodNamed B.named
  have C : CX p s m _ c cX8_term RX8 3 D ca Z := ⟨hx, hb, hml, hown, hts, hK, hZ⟩
  have hS : va_S A s.heap s.heap [] := va_S.rf
  have hl := lv_entry ([.ref (ad 8 0), .int x1, .int x2]) (n := 3) (Nat.le_of_ble_eq_true rfl)
  rw [lg_entry_eq]
  generalize (lg_sl ([.ref (ad 8 0), .int x1, .int x2]) ++ List.replicate (3 - (lg_sl ([.ref (ad 8 0), .int x1, .int x2])).length) Slot.unset).toArray = ls at hl ⊢
  have hl : lv_has ls 3 [(0, .ref (ad 8 0)), (1, .int x1), (2, .int x2)] := hl
  show W p l e (rmk 3) s m _ below meth c s.heap [] 0 0 _ _
  unfold f_X8_term at hf
  -- walk
  refine lv_aload_n hx hb dX8_term_0 rfl (lv_at hl 0 rfl) ?_
  refine lv_iload_n hx hb dX8_term_1 rfl (lv_at hl 1 rfl) ?_
  obtain ⟨z1, q2, hf⟩ := bsp hf
  refine kc_V (ci := 8) (i := 0) (As := [.int x1]) (rest := []) hok.2.2.1 C hP hS hl.1 (hok.2.1 8 0 (Nat.le_of_ble_eq_true rfl)) rfl rfl cw_X8_isTerm ml_X8_140 (c_X8_isTerm l D ca ad PL Z A hok N w x1 z1 q2) rfl ⟨rfl, rfl⟩ ⟨Nat.le_of_ble_eq_true rfl, Nat.le_of_ble_eq_true rfl⟩ ⟨Nat.zero_le _, Nat.zero_le _⟩ (Nat.le_of_ble_eq_true rfl) rfl dX8_term_2 (fun H locs hP hS => ?_)
  refine lv_if_ne (tgt := 14) hx hb dX8_term_5 (by decide) (fun c42 => ?_) (fun c42 => ?_)
  · have hf := ifn hf c42
    refine lv_iload_n hx hb dX8_term_14 rfl (lv_at hl 2 rfl) ?_
    by_cases c7 : x2 = (0 : Int32)
    · refine lv_tableIn (tgt := 52) hx hb dX8_term_15 (by rw [c7]; decide) (by rw [c7]; decide) (by rw [c7] <;> rfl) (by decide) ?_
      have hf := ifp hf c7
      refine lv_aload_n hx hb dX8_term_52 rfl (lv_at hl 0 rfl) ?_
      refine lv_aload_n hx hb dX8_term_53 rfl (lv_at hl 0 rfl) ?_
      obtain ⟨g3, hf⟩ := gsp hf
      refine gt_8_5 (i := 0) C hP (hok.2.1 8 0 (Nat.le_of_ble_eq_true rfl)) lk_X8_43 dX8_term_54 ?_
      refine gt_1_0 (i := (gR w 8 5 0)) C hP (hok.2.1 1 (gR w 8 5 0) g3) lk_X8_87 dX8_term_57 ?_
      refine gt_7_2 (i := (gR w 8 5 0)) C hP (hok.2.1 7 (gR w 8 5 0) g3) lk_X8_144 dX8_term_60 ?_
      refine lv_iload_n hx hb dX8_term_63 rfl (lv_at hl 1 rfl) ?_
      obtain ⟨b4, hf⟩ := gsp hf
      refine ra_ild (k := 33) (i := (gR w 8 5 0)) (n := 24) (f := (gA w 33 (gR w 8 5 0))) C hP (hok.2.1 33 (gR w 8 5 0) g3) rfl b4 dX8_term_64 ?_
      obtain ⟨z5, q6, hf⟩ := bsp hf
      refine kc_V (ci := 8) (i := 0) (As := [.int (gA w 33 (gR w 8 5 0) x1.toNatClampNeg)]) (rest := []) hok.2.2.1 C hP hS hl.1 (hok.2.1 8 0 (Nat.le_of_ble_eq_true rfl)) rfl rfl cw_X8_answer ml_X8_96 (c_X8_answer l D ca ad PL Z A hok N w (gA w 33 (gR w 8 5 0) x1.toNatClampNeg) z5.1 z5.2 q6) rfl ⟨rfl, rfl⟩ ⟨Nat.le_of_ble_eq_true rfl, Nat.le_of_ble_eq_true rfl⟩ ⟨Nat.zero_le _, Nat.zero_le _⟩ (Nat.le_of_ble_eq_true rfl) rfl dX8_term_65 (fun H locs hP hS => ?_)
      exact kr_i hok.2.2.1 C hlocks hr rfl hP hS (congrArg Prod.fst (Option.some.inj hf)) (congrArg Prod.snd (Option.some.inj hf)) dX8_term_68
    have hf := ifn hf c7
    by_cases c12 : x2 = (1 : Int32)
    · refine lv_tableIn (tgt := 69) hx hb dX8_term_15 (by rw [c12]; decide) (by rw [c12]; decide) (by rw [c12] <;> rfl) (by decide) ?_
      have hf := ifp hf c12
      refine lv_aload_n hx hb dX8_term_69 rfl (lv_at hl 0 rfl) ?_
      refine lv_aload_n hx hb dX8_term_70 rfl (lv_at hl 0 rfl) ?_
      obtain ⟨g8, hf⟩ := gsp hf
      refine gt_8_5 (i := 0) C hP (hok.2.1 8 0 (Nat.le_of_ble_eq_true rfl)) lk_X8_43 dX8_term_71 ?_
      refine gt_1_1 (i := (gR w 8 5 0)) C hP (hok.2.1 1 (gR w 8 5 0) g8) lk_X8_108 dX8_term_74 ?_
      refine gt_3_0 (i := (2 + (gR w 8 5 0))) C hP (hok.2.1 3 (2 + (gR w 8 5 0)) (Nat.lt_of_lt_of_le (Nat.add_lt_add_left g8 2) (Nat.le_of_ble_eq_true rfl))) lk_X8_147 dX8_term_77 ?_
      refine lv_iload_n hx hb dX8_term_80 rfl (lv_at hl 1 rfl) ?_
      obtain ⟨b9, hf⟩ := gsp hf
      refine ra_ild (k := 25) (i := (2 + (gR w 8 5 0))) (n := 24) (f := (gA w 25 (2 + (gR w 8 5 0)))) C hP (hok.2.1 25 (2 + (gR w 8 5 0)) (Nat.lt_of_lt_of_le (Nat.add_lt_add_left g8 2) (Nat.le_of_ble_eq_true rfl))) rfl b9 dX8_term_81 ?_
      obtain ⟨z10, q11, hf⟩ := bsp hf
      refine kc_V (ci := 8) (i := 0) (As := [.int (gA w 25 (2 + (gR w 8 5 0)) x1.toNatClampNeg)]) (rest := []) hok.2.2.1 C hP hS hl.1 (hok.2.1 8 0 (Nat.le_of_ble_eq_true rfl)) rfl rfl cw_X8_answer ml_X8_96 (c_X8_answer l D ca ad PL Z A hok N w (gA w 25 (2 + (gR w 8 5 0)) x1.toNatClampNeg) z10.1 z10.2 q11) rfl ⟨rfl, rfl⟩ ⟨Nat.le_of_ble_eq_true rfl, Nat.le_of_ble_eq_true rfl⟩ ⟨Nat.zero_le _, Nat.zero_le _⟩ (Nat.le_of_ble_eq_true rfl) rfl dX8_term_82 (fun H locs hP hS => ?_)
      exact kr_i hok.2.2.1 C hlocks hr rfl hP hS (congrArg Prod.fst (Option.some.inj hf)) (congrArg Prod.snd (Option.some.inj hf)) dX8_term_85
    have hf := ifn hf c12
    by_cases c18 : x2 = (2 : Int32)
    · refine lv_tableIn (tgt := 86) hx hb dX8_term_15 (by rw [c18]; decide) (by rw [c18]; decide) (by rw [c18] <;> rfl) (by decide) ?_
      have hf := ifp hf c18
      refine lv_aload_n hx hb dX8_term_86 rfl (lv_at hl 0 rfl) ?_
      refine lv_aload_n hx hb dX8_term_87 rfl (lv_at hl 0 rfl) ?_
      obtain ⟨g13, hf⟩ := gsp hf
      refine gt_8_5 (i := 0) C hP (hok.2.1 8 0 (Nat.le_of_ble_eq_true rfl)) lk_X8_43 dX8_term_88 ?_
      refine gt_1_1 (i := (gR w 8 5 0)) C hP (hok.2.1 1 (gR w 8 5 0) g13) lk_X8_108 dX8_term_91 ?_
      refine lv_iload_n hx hb dX8_term_94 rfl (lv_at hl 1 rfl) ?_
      obtain ⟨z14, q15, hf⟩ := bsp hf
      refine kc_V (ci := 3) (i := (2 + (gR w 8 5 0))) (As := [.int x1]) (rest := [.ref (ad 8 0)]) hok.2.2.1 C hP hS hl.1 (hok.2.1 3 (2 + (gR w 8 5 0)) (Nat.lt_of_lt_of_le (Nat.add_lt_add_left g13 2) (Nat.le_of_ble_eq_true rfl))) rfl rfl cw_X3_members ml_X8_150 (c_X3_members l D ca ad PL Z A hok N w (2 + (gR w 8 5 0)) (Nat.lt_of_lt_of_le (Nat.add_lt_add_left g13 2) (Nat.le_of_ble_eq_true rfl)) x1 z14 q15) rfl ⟨rfl, rfl⟩ ⟨Nat.le_of_ble_eq_true rfl, Nat.le_of_ble_eq_true rfl⟩ ⟨Nat.zero_le _, Nat.zero_le _⟩ (Nat.le_of_ble_eq_true rfl) rfl dX8_term_95 (fun H locs hP hS => ?_)
      obtain ⟨z16, q17, hf⟩ := bsp hf
      refine kc_V (ci := 8) (i := 0) (As := [.int z14]) (rest := []) hok.2.2.1 C hP hS hl.1 (hok.2.1 8 0 (Nat.le_of_ble_eq_true rfl)) rfl rfl cw_X8_answer ml_X8_96 (c_X8_answer l D ca ad PL Z A hok N w z14 z16.1 z16.2 q17) rfl ⟨rfl, rfl⟩ ⟨Nat.le_of_ble_eq_true rfl, Nat.le_of_ble_eq_true rfl⟩ ⟨Nat.zero_le _, Nat.zero_le _⟩ (Nat.le_of_ble_eq_true rfl) rfl dX8_term_98 (fun H locs hP hS => ?_)
      exact kr_i hok.2.2.1 C hlocks hr rfl hP hS (congrArg Prod.fst (Option.some.inj hf)) (congrArg Prod.snd (Option.some.inj hf)) dX8_term_101
    have hf := ifn hf c18
    by_cases c24 : x2 = (3 : Int32)
    · refine lv_tableIn (tgt := 102) hx hb dX8_term_15 (by rw [c24]; decide) (by rw [c24]; decide) (by rw [c24] <;> rfl) (by decide) ?_
      have hf := ifp hf c24
      refine lv_aload_n hx hb dX8_term_102 rfl (lv_at hl 0 rfl) ?_
      refine lv_aload_n hx hb dX8_term_103 rfl (lv_at hl 0 rfl) ?_
      obtain ⟨g19, hf⟩ := gsp hf
      refine gt_8_5 (i := 0) C hP (hok.2.1 8 0 (Nat.le_of_ble_eq_true rfl)) lk_X8_43 dX8_term_104 ?_
      refine gt_1_0 (i := (gR w 8 5 0)) C hP (hok.2.1 1 (gR w 8 5 0) g19) lk_X8_87 dX8_term_107 ?_
      refine lv_iload_n hx hb dX8_term_110 rfl (lv_at hl 1 rfl) ?_
      refine lv_aload_n hx hb dX8_term_111 rfl (lv_at hl 0 rfl) ?_
      refine gt_8_5 (i := 0) C hP (hok.2.1 8 0 (Nat.le_of_ble_eq_true rfl)) lk_X8_43 dX8_term_112 ?_
      refine gt_1_1 (i := (gR w 8 5 0)) C hP (hok.2.1 1 (gR w 8 5 0) g19) lk_X8_108 dX8_term_115 ?_
      obtain ⟨z20, q21, hf⟩ := bsp hf
      refine kc_V (ci := 7) (i := (gR w 8 5 0)) (As := [.int x1, .ref (ad 3 (2 + (gR w 8 5 0)))]) (rest := [.ref (ad 8 0)]) hok.2.2.1 C hP hS hl.1 (hok.2.1 7 (gR w 8 5 0) g19) rfl rfl cw_X7_termsAbove ml_X8_153 (c_X7_termsAbove l D ca ad PL Z A hok N w (gR w 8 5 0) g19 x1 (2 + (gR w 8 5 0)) (Nat.lt_of_lt_of_le (Nat.add_lt_add_left g19 2) (Nat.le_of_ble_eq_true rfl)) z20 q21) rfl ⟨rfl, rfl⟩ ⟨Nat.le_of_ble_eq_true rfl, Nat.le_of_ble_eq_true rfl⟩ ⟨Nat.zero_le _, Nat.zero_le _⟩ (Nat.le_of_ble_eq_true rfl) rfl dX8_term_118 (fun H locs hP hS => ?_)
      obtain ⟨z22, q23, hf⟩ := bsp hf
      refine kc_V (ci := 8) (i := 0) (As := [.int z20]) (rest := []) hok.2.2.1 C hP hS hl.1 (hok.2.1 8 0 (Nat.le_of_ble_eq_true rfl)) rfl rfl cw_X8_answer ml_X8_96 (c_X8_answer l D ca ad PL Z A hok N w z20 z22.1 z22.2 q23) rfl ⟨rfl, rfl⟩ ⟨Nat.le_of_ble_eq_true rfl, Nat.le_of_ble_eq_true rfl⟩ ⟨Nat.zero_le _, Nat.zero_le _⟩ (Nat.le_of_ble_eq_true rfl) rfl dX8_term_121 (fun H locs hP hS => ?_)
      exact kr_i hok.2.2.1 C hlocks hr rfl hP hS (congrArg Prod.fst (Option.some.inj hf)) (congrArg Prod.snd (Option.some.inj hf)) dX8_term_124
    have hf := ifn hf c24
    by_cases c29 : x2 = (4 : Int32)
    · refine lv_tableIn (tgt := 125) hx hb dX8_term_15 (by rw [c29]; decide) (by rw [c29]; decide) (by rw [c29] <;> rfl) (by decide) ?_
      have hf := ifp hf c29
      refine lv_aload_n hx hb dX8_term_125 rfl (lv_at hl 0 rfl) ?_
      refine lv_aload_n hx hb dX8_term_126 rfl (lv_at hl 0 rfl) ?_
      obtain ⟨g25, hf⟩ := gsp hf
      refine gt_8_5 (i := 0) C hP (hok.2.1 8 0 (Nat.le_of_ble_eq_true rfl)) lk_X8_43 dX8_term_127 ?_
      refine gt_1_0 (i := (gR w 8 5 0)) C hP (hok.2.1 1 (gR w 8 5 0) g25) lk_X8_87 dX8_term_130 ?_
      refine gt_7_4 (i := (gR w 8 5 0)) C hP (hok.2.1 7 (gR w 8 5 0) g25) lk_X8_156 dX8_term_133 ?_
      refine lv_iload_n hx hb dX8_term_136 rfl (lv_at hl 1 rfl) ?_
      obtain ⟨b26, hf⟩ := gsp hf
      refine ra_ild (k := 35) (i := (gR w 8 5 0)) (n := 24) (f := (gA w 35 (gR w 8 5 0))) C hP (hok.2.1 35 (gR w 8 5 0) g25) rfl b26 dX8_term_137 ?_
      obtain ⟨z27, q28, hf⟩ := bsp hf
      refine kc_V (ci := 8) (i := 0) (As := [.int (gA w 35 (gR w 8 5 0) x1.toNatClampNeg)]) (rest := []) hok.2.2.1 C hP hS hl.1 (hok.2.1 8 0 (Nat.le_of_ble_eq_true rfl)) rfl rfl cw_X8_answer ml_X8_96 (c_X8_answer l D ca ad PL Z A hok N w (gA w 35 (gR w 8 5 0) x1.toNatClampNeg) z27.1 z27.2 q28) rfl ⟨rfl, rfl⟩ ⟨Nat.le_of_ble_eq_true rfl, Nat.le_of_ble_eq_true rfl⟩ ⟨Nat.zero_le _, Nat.zero_le _⟩ (Nat.le_of_ble_eq_true rfl) rfl dX8_term_138 (fun H locs hP hS => ?_)
      exact kr_i hok.2.2.1 C hlocks hr rfl hP hS (congrArg Prod.fst (Option.some.inj hf)) (congrArg Prod.snd (Option.some.inj hf)) dX8_term_141
    have hf := ifn hf c29
    by_cases c37 : x2 = (5 : Int32)
    · refine lv_tableIn (tgt := 142) hx hb dX8_term_15 (by rw [c37]; decide) (by rw [c37]; decide) (by rw [c37] <;> rfl) (by decide) ?_
      have hf := ifp hf c37
      refine lv_aload_n hx hb dX8_term_142 rfl (lv_at hl 0 rfl) ?_
      refine lv_aload_n hx hb dX8_term_143 rfl (lv_at hl 0 rfl) ?_
      obtain ⟨g30, hf⟩ := gsp hf
      refine gt_8_5 (i := 0) C hP (hok.2.1 8 0 (Nat.le_of_ble_eq_true rfl)) lk_X8_43 dX8_term_144 ?_
      refine gt_1_2 (i := (gR w 8 5 0)) C hP (hok.2.1 1 (gR w 8 5 0) g30) lk_X8_116 dX8_term_147 ?_
      refine gt_2_0 (i := (gR w 8 5 0)) C hP (hok.2.1 2 (gR w 8 5 0) g30) lk_X8_159 dX8_term_150 ?_
      refine lv_iload_n hx hb dX8_term_153 rfl (lv_at hl 1 rfl) ?_
      obtain ⟨b31, hf⟩ := gsp hf
      refine ra_ild (k := 19) (i := (gR w 8 5 0)) (n := 24) (f := (gA w 19 (gR w 8 5 0))) C hP (hok.2.1 19 (gR w 8 5 0) g30) rfl b31 dX8_term_154 ?_
      refine lv_if_ge (tgt := 163) hx hb dX8_term_155 (by decide) (fun c36 => ?_) (fun c36 => ?_)
      · have hf := ifp hf c36
        refine lv_aload_n hx hb dX8_term_163 rfl (lv_at hl 0 rfl) ?_
        refine gt_8_5 (i := 0) C hP (hok.2.1 8 0 (Nat.le_of_ble_eq_true rfl)) lk_X8_43 dX8_term_164 ?_
        refine gt_1_2 (i := (gR w 8 5 0)) C hP (hok.2.1 1 (gR w 8 5 0) g30) lk_X8_116 dX8_term_167 ?_
        refine gt_2_0 (i := (gR w 8 5 0)) C hP (hok.2.1 2 (gR w 8 5 0) g30) lk_X8_159 dX8_term_170 ?_
        refine lv_iload_n hx hb dX8_term_173 rfl (lv_at hl 1 rfl) ?_
        refine ra_ild (k := 19) (i := (gR w 8 5 0)) (n := 24) (f := (gA w 19 (gR w 8 5 0))) C hP (hok.2.1 19 (gR w 8 5 0) g30) rfl b31 dX8_term_174 ?_
        obtain ⟨z32, q33, hf⟩ := bsp hf
        refine kc_V (ci := 8) (i := 0) (As := [.int (gA w 19 (gR w 8 5 0) x1.toNatClampNeg)]) (rest := []) hok.2.2.1 C hP hS hl.1 (hok.2.1 8 0 (Nat.le_of_ble_eq_true rfl)) rfl rfl cw_X8_answer ml_X8_96 (c_X8_answer l D ca ad PL Z A hok N w (gA w 19 (gR w 8 5 0) x1.toNatClampNeg) z32.1 z32.2 q33) rfl ⟨rfl, rfl⟩ ⟨Nat.le_of_ble_eq_true rfl, Nat.le_of_ble_eq_true rfl⟩ ⟨Nat.zero_le _, Nat.zero_le _⟩ (Nat.le_of_ble_eq_true rfl) rfl dX8_term_175 (fun H locs hP hS => ?_)
        exact kr_i hok.2.2.1 C hlocks hr rfl hP hS (congrArg Prod.fst (Option.some.inj hf)) (congrArg Prod.snd (Option.some.inj hf)) dX8_term_178
      · have hf := ifn hf c36
        refine lv_bipush (v := (-2 : Int32)) hx hb dX8_term_158 (by decide) ?_
        refine lv_goto (tgt := 175) hx hb dX8_term_160 (by decide) ?_
        obtain ⟨z34, q35, hf⟩ := bsp hf
        refine kc_V (ci := 8) (i := 0) (As := [.int (-2 : Int32)]) (rest := []) hok.2.2.1 C hP hS hl.1 (hok.2.1 8 0 (Nat.le_of_ble_eq_true rfl)) rfl rfl cw_X8_answer ml_X8_96 (c_X8_answer l D ca ad PL Z A hok N w (-2 : Int32) z34.1 z34.2 q35) rfl ⟨rfl, rfl⟩ ⟨Nat.le_of_ble_eq_true rfl, Nat.le_of_ble_eq_true rfl⟩ ⟨Nat.zero_le _, Nat.zero_le _⟩ (Nat.le_of_ble_eq_true rfl) rfl dX8_term_175 (fun H locs hP hS => ?_)
        exact kr_i hok.2.2.1 C hlocks hr rfl hP hS (congrArg Prod.fst (Option.some.inj hf)) (congrArg Prod.snd (Option.some.inj hf)) dX8_term_178
    have hf := ifn hf c37
    have t_c7 : ¬ (x2).toInt = 0 := fun h => c7 (Int32.toInt_inj.mp (h.trans (by decide)))
    have t_c12 : ¬ (x2).toInt = 1 := fun h => c12 (Int32.toInt_inj.mp (h.trans (by decide)))
    have t_c18 : ¬ (x2).toInt = 2 := fun h => c18 (Int32.toInt_inj.mp (h.trans (by decide)))
    have t_c24 : ¬ (x2).toInt = 3 := fun h => c24 (Int32.toInt_inj.mp (h.trans (by decide)))
    have t_c29 : ¬ (x2).toInt = 4 := fun h => c29 (Int32.toInt_inj.mp (h.trans (by decide)))
    have t_c37 : ¬ (x2).toInt = 5 := fun h => c37 (Int32.toInt_inj.mp (h.trans (by decide)))
    refine lv_tableOut (tgt := 179) hx hb dX8_term_15 (by omega) (by decide) ?_
    refine lv_aload_n hx hb dX8_term_179 rfl (lv_at hl 0 rfl) ?_
    refine lv_iconst (v := (1 : Int32)) hx hb dX8_term_180 (by decide) ?_
    obtain ⟨z38, q39, hf⟩ := bsp hf
    refine kc_V (ci := 8) (i := 0) (As := [.int (1 : Int32)]) (rest := []) hok.2.2.1 C hP hS hl.1 (hok.2.1 8 0 (Nat.le_of_ble_eq_true rfl)) rfl rfl cw_X8_refuse ml_X8_61 (c_X8_refuse l D ca ad PL Z A hok N w (1 : Int32) z38.1 z38.2 q39) rfl ⟨rfl, rfl⟩ ⟨Nat.le_of_ble_eq_true rfl, Nat.le_of_ble_eq_true rfl⟩ ⟨Nat.zero_le _, Nat.zero_le _⟩ (Nat.le_of_ble_eq_true rfl) rfl dX8_term_181 (fun H locs hP hS => ?_)
    exact kr_i hok.2.2.1 C hlocks hr rfl hP hS (congrArg Prod.fst (Option.some.inj hf)) (congrArg Prod.snd (Option.some.inj hf)) dX8_term_184
  · have hf := ifp hf c42
    refine lv_aload_n hx hb dX8_term_8 rfl (lv_at hl 0 rfl) ?_
    refine lv_iconst (v := (1 : Int32)) hx hb dX8_term_9 (by decide) ?_
    obtain ⟨z40, q41, hf⟩ := bsp hf
    refine kc_V (ci := 8) (i := 0) (As := [.int (1 : Int32)]) (rest := []) hok.2.2.1 C hP hS hl.1 (hok.2.1 8 0 (Nat.le_of_ble_eq_true rfl)) rfl rfl cw_X8_refuse ml_X8_61 (c_X8_refuse l D ca ad PL Z A hok N w (1 : Int32) z40.1 z40.2 q41) rfl ⟨rfl, rfl⟩ ⟨Nat.le_of_ble_eq_true rfl, Nat.le_of_ble_eq_true rfl⟩ ⟨Nat.zero_le _, Nat.zero_le _⟩ (Nat.le_of_ble_eq_true rfl) rfl dX8_term_10 (fun H locs hP hS => ?_)
    exact kr_i hok.2.2.1 C hlocks hr rfl hP hS (congrArg Prod.fst (Option.some.inj hf)) (congrArg Prod.snd (Option.some.inj hf)) dX8_term_13
def f_X8_partOf (N : Nat) (w : Mem) (x1 : Int32) (x2 : Int32) : Option (Mem × Int32) :=
  (Option.bind (f_X8_isTerm N w x1) (fun z1 => (if z1 = (0 : Int32) then
(Option.bind (f_X8_refuse N w (1 : Int32)) (fun z3 => some (z3.1, z3.2)))
else
(if (0 : Int32) ≤ x2 then
(if (gR w 8 5 0) < 2 then (Option.bind (f_X7_partsOf N w (gR w 8 5 0) x1) (fun z6 => (if z6 ≤ x2 then
(Option.bind (f_X8_answer N w (-2 : Int32)) (fun z8 => some (z8.1, z8.2)))
else
(Option.bind (f_X7_partAt N w (gR w 8 5 0) x1 x2) (fun z10 => (Option.bind (f_X8_answer N w z10) (fun z12 => some (z12.1, z12.2)))))))) else none)
else
(Option.bind (f_X8_refuse N w (1 : Int32)) (fun z15 => some (z15.1, z15.2)))))))
set_option maxRecDepth 100000 in
set_option maxHeartbeats 4000000 in
theorem c_X8_partOf (l : Launch) (D : va_G) (ca : Nat → ClassId) (ad : Nat → Nat → Nat) (PL : List (Nat × Nat)) (Z : State → Prop) (A : Nat → Prop) (hok : okc bX Z A ad PL) (N : Nat) (w : Mem) (x1 : Int32) (x2 : Int32) (w' : Mem) (r : Int32) (hf : f_X8_partOf N w x1 x2 = some (w', r)) : CT l yX8_partOf (wsy yX8_partOf cX8_partOf 3 (some .int)) (rmk 1) D ca ad PL Z A [.ref (ad 8 0), .int x1, .int x2] w w' (some (.int r)) := by
  refine Met.ofW (cc := cX8_partOf) (maxL := 3) (ret := (some .int)) (by decide +kernel) rfl ?_
  intro p e s m args below meth c s₁ B hml hv
  obtain ⟨rfl, hP, hK, hZ⟩ := hv
  have hx := B.exec
  have hb := B.bytes
  have hr := B.returns
  have hlocks := B.notSynchronized
  have hts : ∀ w ∈ ALL, w.before _ s = true := fun w hw => atoms_spec (ws := wsy yX8_partOf cX8_partOf 3 (some .int)) B.pre w (List.mem_cons_of_mem _ hw)
  have hown : s.vm.findClass RX8 = some m.cls := findClass_of_methodNamed B.named
  have C : CX p s m _ c cX8_partOf RX8 3 D ca Z := ⟨hx, hb, hml, hown, hts, hK, hZ⟩
  have hS : va_S A s.heap s.heap [] := va_S.rf
  have hl := lv_entry ([.ref (ad 8 0), .int x1, .int x2]) (n := 3) (Nat.le_of_ble_eq_true rfl)
  rw [lg_entry_eq]
  generalize (lg_sl ([.ref (ad 8 0), .int x1, .int x2]) ++ List.replicate (3 - (lg_sl ([.ref (ad 8 0), .int x1, .int x2])).length) Slot.unset).toArray = ls at hl ⊢
  have hl : lv_has ls 3 [(0, .ref (ad 8 0)), (1, .int x1), (2, .int x2)] := hl
  show W p l e (rmk 1) s m _ below meth c s.heap [] 0 0 _ _
  unfold f_X8_partOf at hf
  -- walk
  refine lv_aload_n hx hb dX8_partOf_0 rfl (lv_at hl 0 rfl) ?_
  refine lv_iload_n hx hb dX8_partOf_1 rfl (lv_at hl 1 rfl) ?_
  obtain ⟨z1, q2, hf⟩ := bsp hf
  refine kc_V (ci := 8) (i := 0) (As := [.int x1]) (rest := []) hok.2.2.1 C hP hS hl.1 (hok.2.1 8 0 (Nat.le_of_ble_eq_true rfl)) rfl rfl cw_X8_isTerm ml_X8_140 (c_X8_isTerm l D ca ad PL Z A hok N w x1 z1 q2) rfl ⟨rfl, rfl⟩ ⟨Nat.le_of_ble_eq_true rfl, Nat.le_of_ble_eq_true rfl⟩ ⟨Nat.zero_le _, Nat.zero_le _⟩ (Nat.le_of_ble_eq_true rfl) rfl dX8_partOf_2 (fun H locs hP hS => ?_)
  refine lv_if_eq (tgt := 12) hx hb dX8_partOf_5 (by decide) (fun c18 => ?_) (fun c18 => ?_)
  · have hf := ifp hf c18
    refine lv_aload_n hx hb dX8_partOf_12 rfl (lv_at hl 0 rfl) ?_
    refine lv_iconst (v := (1 : Int32)) hx hb dX8_partOf_13 (by decide) ?_
    obtain ⟨z3, q4, hf⟩ := bsp hf
    refine kc_V (ci := 8) (i := 0) (As := [.int (1 : Int32)]) (rest := []) hok.2.2.1 C hP hS hl.1 (hok.2.1 8 0 (Nat.le_of_ble_eq_true rfl)) rfl rfl cw_X8_refuse ml_X8_61 (c_X8_refuse l D ca ad PL Z A hok N w (1 : Int32) z3.1 z3.2 q4) rfl ⟨rfl, rfl⟩ ⟨Nat.le_of_ble_eq_true rfl, Nat.le_of_ble_eq_true rfl⟩ ⟨Nat.zero_le _, Nat.zero_le _⟩ (Nat.le_of_ble_eq_true rfl) rfl dX8_partOf_14 (fun H locs hP hS => ?_)
    exact kr_i hok.2.2.1 C hlocks hr rfl hP hS (congrArg Prod.fst (Option.some.inj hf)) (congrArg Prod.snd (Option.some.inj hf)) dX8_partOf_17
  · have hf := ifn hf c18
    refine lv_iload_n hx hb dX8_partOf_8 rfl (lv_at hl 2 rfl) ?_
    refine lv_if_ge (tgt := 18) hx hb dX8_partOf_9 (by decide) (fun c17 => ?_) (fun c17 => ?_)
    · have hf := ifp hf c17
      refine lv_aload_n hx hb dX8_partOf_18 rfl (lv_at hl 0 rfl) ?_
      refine lv_iload_n hx hb dX8_partOf_19 rfl (lv_at hl 2 rfl) ?_
      refine lv_aload_n hx hb dX8_partOf_20 rfl (lv_at hl 0 rfl) ?_
      obtain ⟨g5, hf⟩ := gsp hf
      refine gt_8_5 (i := 0) C hP (hok.2.1 8 0 (Nat.le_of_ble_eq_true rfl)) lk_X8_43 dX8_partOf_21 ?_
      refine gt_1_0 (i := (gR w 8 5 0)) C hP (hok.2.1 1 (gR w 8 5 0) g5) lk_X8_87 dX8_partOf_24 ?_
      refine lv_iload_n hx hb dX8_partOf_27 rfl (lv_at hl 1 rfl) ?_
      obtain ⟨z6, q7, hf⟩ := bsp hf
      refine kc_V (ci := 7) (i := (gR w 8 5 0)) (As := [.int x1]) (rest := [.int x2, .ref (ad 8 0)]) hok.2.2.1 C hP hS hl.1 (hok.2.1 7 (gR w 8 5 0) g5) rfl rfl cw_X7_partsOf ml_X8_162 (c_X7_partsOf l D ca ad PL Z A hok N w (gR w 8 5 0) g5 x1 z6 q7) rfl ⟨rfl, rfl⟩ ⟨Nat.le_of_ble_eq_true rfl, Nat.le_of_ble_eq_true rfl⟩ ⟨Nat.zero_le _, Nat.zero_le _⟩ (Nat.le_of_ble_eq_true rfl) rfl dX8_partOf_28 (fun H locs hP hS => ?_)
      refine lv_icmp_ge (tgt := 49) hx hb dX8_partOf_31 (by decide) (fun c14 => ?_) (fun c14 => ?_)
      · have hf := ifp hf c14
        refine lv_bipush (v := (-2 : Int32)) hx hb dX8_partOf_49 (by decide) ?_
        obtain ⟨z8, q9, hf⟩ := bsp hf
        refine kc_V (ci := 8) (i := 0) (As := [.int (-2 : Int32)]) (rest := []) hok.2.2.1 C hP hS hl.1 (hok.2.1 8 0 (Nat.le_of_ble_eq_true rfl)) rfl rfl cw_X8_answer ml_X8_96 (c_X8_answer l D ca ad PL Z A hok N w (-2 : Int32) z8.1 z8.2 q9) rfl ⟨rfl, rfl⟩ ⟨Nat.le_of_ble_eq_true rfl, Nat.le_of_ble_eq_true rfl⟩ ⟨Nat.zero_le _, Nat.zero_le _⟩ (Nat.le_of_ble_eq_true rfl) rfl dX8_partOf_51 (fun H locs hP hS => ?_)
        exact kr_i hok.2.2.1 C hlocks hr rfl hP hS (congrArg Prod.fst (Option.some.inj hf)) (congrArg Prod.snd (Option.some.inj hf)) dX8_partOf_54
      · have hf := ifn hf c14
        refine lv_aload_n hx hb dX8_partOf_34 rfl (lv_at hl 0 rfl) ?_
        refine gt_8_5 (i := 0) C hP (hok.2.1 8 0 (Nat.le_of_ble_eq_true rfl)) lk_X8_43 dX8_partOf_35 ?_
        refine gt_1_0 (i := (gR w 8 5 0)) C hP (hok.2.1 1 (gR w 8 5 0) g5) lk_X8_87 dX8_partOf_38 ?_
        refine lv_iload_n hx hb dX8_partOf_41 rfl (lv_at hl 1 rfl) ?_
        refine lv_iload_n hx hb dX8_partOf_42 rfl (lv_at hl 2 rfl) ?_
        obtain ⟨z10, q11, hf⟩ := bsp hf
        refine kc_V (ci := 7) (i := (gR w 8 5 0)) (As := [.int x1, .int x2]) (rest := [.ref (ad 8 0)]) hok.2.2.1 C hP hS hl.1 (hok.2.1 7 (gR w 8 5 0) g5) rfl rfl cw_X7_partAt ml_X8_165 (c_X7_partAt l D ca ad PL Z A hok N w (gR w 8 5 0) g5 x1 x2 z10 q11) rfl ⟨rfl, rfl⟩ ⟨Nat.le_of_ble_eq_true rfl, Nat.le_of_ble_eq_true rfl⟩ ⟨Nat.zero_le _, Nat.zero_le _⟩ (Nat.le_of_ble_eq_true rfl) rfl dX8_partOf_43 (fun H locs hP hS => ?_)
        refine lv_goto (tgt := 51) hx hb dX8_partOf_46 (by decide) ?_
        obtain ⟨z12, q13, hf⟩ := bsp hf
        refine kc_V (ci := 8) (i := 0) (As := [.int z10]) (rest := []) hok.2.2.1 C hP hS hl.1 (hok.2.1 8 0 (Nat.le_of_ble_eq_true rfl)) rfl rfl cw_X8_answer ml_X8_96 (c_X8_answer l D ca ad PL Z A hok N w z10 z12.1 z12.2 q13) rfl ⟨rfl, rfl⟩ ⟨Nat.le_of_ble_eq_true rfl, Nat.le_of_ble_eq_true rfl⟩ ⟨Nat.zero_le _, Nat.zero_le _⟩ (Nat.le_of_ble_eq_true rfl) rfl dX8_partOf_51 (fun H locs hP hS => ?_)
        exact kr_i hok.2.2.1 C hlocks hr rfl hP hS (congrArg Prod.fst (Option.some.inj hf)) (congrArg Prod.snd (Option.some.inj hf)) dX8_partOf_54
    · have hf := ifn hf c17
      refine lv_aload_n hx hb dX8_partOf_12 rfl (lv_at hl 0 rfl) ?_
      refine lv_iconst (v := (1 : Int32)) hx hb dX8_partOf_13 (by decide) ?_
      obtain ⟨z15, q16, hf⟩ := bsp hf
      refine kc_V (ci := 8) (i := 0) (As := [.int (1 : Int32)]) (rest := []) hok.2.2.1 C hP hS hl.1 (hok.2.1 8 0 (Nat.le_of_ble_eq_true rfl)) rfl rfl cw_X8_refuse ml_X8_61 (c_X8_refuse l D ca ad PL Z A hok N w (1 : Int32) z15.1 z15.2 q16) rfl ⟨rfl, rfl⟩ ⟨Nat.le_of_ble_eq_true rfl, Nat.le_of_ble_eq_true rfl⟩ ⟨Nat.zero_le _, Nat.zero_le _⟩ (Nat.le_of_ble_eq_true rfl) rfl dX8_partOf_14 (fun H locs hP hS => ?_)
      exact kr_i hok.2.2.1 C hlocks hr rfl hP hS (congrArg Prod.fst (Option.some.inj hf)) (congrArg Prod.snd (Option.some.inj hf)) dX8_partOf_17
def f_X8_isSame (N : Nat) (w : Mem) (x1 : Int32) : Option (Int32) :=
  (if x1 < (0 : Int32) then
some (0 : Int32)
else
(if (gR w 8 5 0) < 2 then (if (gF w 1 9 (gR w 8 5 0)) ≤ x1 then
some (0 : Int32)
else
some (1 : Int32)) else none))
set_option maxRecDepth 100000 in
set_option maxHeartbeats 4000000 in
theorem c_X8_isSame (l : Launch) (D : va_G) (ca : Nat → ClassId) (ad : Nat → Nat → Nat) (PL : List (Nat × Nat)) (Z : State → Prop) (A : Nat → Prop) (hok : okc bX Z A ad PL) (N : Nat) (w : Mem) (x1 : Int32) (r : Int32) (hf : f_X8_isSame N w x1 = some r) : CT l yX8_isSame (wsy yX8_isSame cX8_isSame 2 (some .boolean)) (rmk 0) D ca ad PL Z A [.ref (ad 8 0), .int x1] w w (some (.int r)) := by
  refine Met.ofW (cc := cX8_isSame) (maxL := 2) (ret := (some .boolean)) (by decide +kernel) rfl ?_
  intro p e s m args below meth c s₁ B hml hv
  obtain ⟨rfl, hP, hK, hZ⟩ := hv
  have hx := B.exec
  have hb := B.bytes
  have hr := B.returns
  have hlocks := B.notSynchronized
  have hts : ∀ w ∈ ALL, w.before _ s = true := fun w hw => atoms_spec (ws := wsy yX8_isSame cX8_isSame 2 (some .boolean)) B.pre w (List.mem_cons_of_mem _ hw)
  have hown : s.vm.findClass RX8 = some m.cls := findClass_of_methodNamed B.named
  have C : CX p s m _ c cX8_isSame RX8 2 D ca Z := ⟨hx, hb, hml, hown, hts, hK, hZ⟩
  have hS : va_S A s.heap s.heap [] := va_S.rf
  have hl := lv_entry ([.ref (ad 8 0), .int x1]) (n := 2) (Nat.le_of_ble_eq_true rfl)
  rw [lg_entry_eq]
  generalize (lg_sl ([.ref (ad 8 0), .int x1]) ++ List.replicate (2 - (lg_sl ([.ref (ad 8 0), .int x1])).length) Slot.unset).toArray = ls at hl ⊢
  have hl : lv_has ls 2 [(0, .ref (ad 8 0)), (1, .int x1)] := hl
  show W p l e (rmk 0) s m _ below meth c s.heap [] 0 0 _ _
  unfold f_X8_isSame at hf
  -- walk
  refine lv_iload_n hx hb dX8_isSame_0 rfl (lv_at hl 1 rfl) ?_
  refine lv_if_lt (tgt := 19) hx hb dX8_isSame_1 (by decide) (fun c3 => ?_) (fun c3 => ?_)
  · have hf := ifp hf c3
    refine lv_iconst (v := (0 : Int32)) hx hb dX8_isSame_19 (by decide) ?_
    exact kr_i hok.2.2.1 C hlocks hr rfl hP hS rfl (Option.some.inj hf) dX8_isSame_20
  · have hf := ifn hf c3
    refine lv_iload_n hx hb dX8_isSame_4 rfl (lv_at hl 1 rfl) ?_
    refine lv_aload_n hx hb dX8_isSame_5 rfl (lv_at hl 0 rfl) ?_
    obtain ⟨g1, hf⟩ := gsp hf
    refine gt_8_5 (i := 0) C hP (hok.2.1 8 0 (Nat.le_of_ble_eq_true rfl)) lk_X8_43 dX8_isSame_6 ?_
    refine gt_1_9 (i := (gR w 8 5 0)) C hP (hok.2.1 1 (gR w 8 5 0) g1) lk_X8_102 dX8_isSame_9 ?_
    refine lv_icmp_ge (tgt := 19) hx hb dX8_isSame_12 (by decide) (fun c2 => ?_) (fun c2 => ?_)
    · have hf := ifp hf c2
      refine lv_iconst (v := (0 : Int32)) hx hb dX8_isSame_19 (by decide) ?_
      exact kr_i hok.2.2.1 C hlocks hr rfl hP hS rfl (Option.some.inj hf) dX8_isSame_20
    · have hf := ifn hf c2
      refine lv_iconst (v := (1 : Int32)) hx hb dX8_isSame_15 (by decide) ?_
      refine lv_goto (tgt := 20) hx hb dX8_isSame_16 (by decide) ?_
      exact kr_i hok.2.2.1 C hlocks hr rfl hP hS rfl (Option.some.inj hf) dX8_isSame_20
def f_X8_isOneBy (N : Nat) (w : Mem) (x1 : Int32) (x2 : Int32) (x3 : Int32) : Option (Mem × Int32) :=
  (if (gR w 8 5 0) < 2 then (Option.bind (f_X1_closeBy N w (gR w 8 5 0) x1 0) (fun z2 => (Option.bind (f_X3_one N z2 0 x2 x3) (fun z4 => (if z4 = 0 ∨ z4 = 1 then some (z2, z4) else none))))) else none)
set_option maxRecDepth 100000 in
set_option maxHeartbeats 4000000 in
theorem c_X8_isOneBy (l : Launch) (D : va_G) (ca : Nat → ClassId) (ad : Nat → Nat → Nat) (PL : List (Nat × Nat)) (Z : State → Prop) (A : Nat → Prop) (hok : okc bX Z A ad PL) (N : Nat) (w : Mem) (x1 : Int32) (x2 : Int32) (x3 : Int32) (w' : Mem) (r : Int32) (hf : f_X8_isOneBy N w x1 x2 x3 = some (w', r)) : CT l yX8_isOneBy (wsy yX8_isOneBy cX8_isOneBy 4 (some .boolean)) (rmk 5) D ca ad PL Z A [.ref (ad 8 0), .int x1, .int x2, .int x3] w w' (some (.int r)) := by
  refine Met.ofW (cc := cX8_isOneBy) (maxL := 4) (ret := (some .boolean)) (by decide +kernel) rfl ?_
  intro p e s m args below meth c s₁ B hml hv
  obtain ⟨rfl, hP, hK, hZ⟩ := hv
  have hx := B.exec
  have hb := B.bytes
  have hr := B.returns
  have hlocks := B.notSynchronized
  have hts : ∀ w ∈ ALL, w.before _ s = true := fun w hw => atoms_spec (ws := wsy yX8_isOneBy cX8_isOneBy 4 (some .boolean)) B.pre w (List.mem_cons_of_mem _ hw)
  have hown : s.vm.findClass RX8 = some m.cls := findClass_of_methodNamed B.named
  have C : CX p s m _ c cX8_isOneBy RX8 4 D ca Z := ⟨hx, hb, hml, hown, hts, hK, hZ⟩
  have hS : va_S A s.heap s.heap [] := va_S.rf
  have hl := lv_entry ([.ref (ad 8 0), .int x1, .int x2, .int x3]) (n := 4) (Nat.le_of_ble_eq_true rfl)
  rw [lg_entry_eq]
  generalize (lg_sl ([.ref (ad 8 0), .int x1, .int x2, .int x3]) ++ List.replicate (4 - (lg_sl ([.ref (ad 8 0), .int x1, .int x2, .int x3])).length) Slot.unset).toArray = ls at hl ⊢
  have hl : lv_has ls 4 [(0, .ref (ad 8 0)), (1, .int x1), (2, .int x2), (3, .int x3)] := hl
  show W p l e (rmk 5) s m _ below meth c s.heap [] 0 0 _ _
  unfold f_X8_isOneBy at hf
  -- walk
  refine lv_aload_n hx hb dX8_isOneBy_0 rfl (lv_at hl 0 rfl) ?_
  obtain ⟨g1, hf⟩ := gsp hf
  refine gt_8_5 (i := 0) C hP (hok.2.1 8 0 (Nat.le_of_ble_eq_true rfl)) lk_X8_43 dX8_isOneBy_1 ?_
  refine lv_iload_n hx hb dX8_isOneBy_4 rfl (lv_at hl 1 rfl) ?_
  refine lv_aload_n hx hb dX8_isOneBy_5 rfl (lv_at hl 0 rfl) ?_
  refine gt_8_3 (i := 0) C hP (hok.2.1 8 0 (Nat.le_of_ble_eq_true rfl)) lk_X8_33 dX8_isOneBy_6 ?_
  obtain ⟨z2, q3, hf⟩ := bsp hf
  refine kc_V (ci := 1) (i := (gR w 8 5 0)) (As := [.int x1, .ref (ad 3 0)]) (rest := []) hok.2.2.1 C hP hS hl.1 (hok.2.1 1 (gR w 8 5 0) g1) rfl rfl cw_X1_closeBy ml_X8_232 (c_X1_closeBy l D ca ad PL Z A hok N w (gR w 8 5 0) g1 x1 0 (Nat.le_of_ble_eq_true rfl) z2 q3) rfl ⟨rfl, rfl⟩ ⟨Nat.le_of_ble_eq_true rfl, Nat.le_of_ble_eq_true rfl⟩ ⟨Nat.zero_le _, Nat.zero_le _⟩ (Nat.le_of_ble_eq_true rfl) rfl dX8_isOneBy_9 (fun H locs hP hS => ?_)
  refine lv_aload_n hx hb dX8_isOneBy_12 rfl (lv_at hl 0 rfl) ?_
  refine gt_8_3 (i := 0) C hP (hok.2.1 8 0 (Nat.le_of_ble_eq_true rfl)) lk_X8_33 dX8_isOneBy_13 ?_
  refine lv_iload_n hx hb dX8_isOneBy_16 rfl (lv_at hl 2 rfl) ?_
  refine lv_iload_n hx hb dX8_isOneBy_17 rfl (lv_at hl 3 rfl) ?_
  obtain ⟨z4, q5, hf⟩ := bsp hf
  refine kc_V (ci := 3) (i := 0) (As := [.int x2, .int x3]) (rest := []) hok.2.2.1 C hP hS hl.1 (hok.2.1 3 0 (Nat.le_of_ble_eq_true rfl)) rfl rfl cw_X3_one ml_X8_215 (c_X3_one l D ca ad PL Z A hok N z2 0 (Nat.le_of_ble_eq_true rfl) x2 x3 z4 q5) rfl ⟨rfl, rfl⟩ ⟨Nat.le_of_ble_eq_true rfl, Nat.le_of_ble_eq_true rfl⟩ ⟨Nat.zero_le _, Nat.zero_le _⟩ (Nat.le_of_ble_eq_true rfl) rfl dX8_isOneBy_18 (fun H locs hP hS => ?_)
  obtain ⟨b6, hf⟩ := gsp hf
  exact kr_i hok.2.2.1 C hlocks hr (nar_z b6) hP hS (congrArg Prod.fst (Option.some.inj hf)) (congrArg Prod.snd (Option.some.inj hf)) dX8_isOneBy_21
def f_X8_bit (N : Nat) (w : Mem) (x1 : Int32) : Option (Int32) :=
  (if x1 = (0 : Int32) then
some (0 : Int32)
else
some (1 : Int32))
set_option maxRecDepth 100000 in
set_option maxHeartbeats 4000000 in
theorem c_X8_bit (l : Launch) (D : va_G) (ca : Nat → ClassId) (ad : Nat → Nat → Nat) (PL : List (Nat × Nat)) (Z : State → Prop) (A : Nat → Prop) (hok : okc bX Z A ad PL) (N : Nat) (w : Mem) (x1 : Int32) (r : Int32) (hf : f_X8_bit N w x1 = some r) : CT l yX8_bit (wsy yX8_bit cX8_bit 2 (some .int)) (rmk 0) D ca ad PL Z A [.ref (ad 8 0), .int x1] w w (some (.int r)) := by
  refine Met.ofW (cc := cX8_bit) (maxL := 2) (ret := (some .int)) (by decide +kernel) rfl ?_
  intro p e s m args below meth c s₁ B hml hv
  obtain ⟨rfl, hP, hK, hZ⟩ := hv
  have hx := B.exec
  have hb := B.bytes
  have hr := B.returns
  have hlocks := B.notSynchronized
  have hts : ∀ w ∈ ALL, w.before _ s = true := fun w hw => atoms_spec (ws := wsy yX8_bit cX8_bit 2 (some .int)) B.pre w (List.mem_cons_of_mem _ hw)
  have hown : s.vm.findClass RX8 = some m.cls := findClass_of_methodNamed B.named
  have C : CX p s m _ c cX8_bit RX8 2 D ca Z := ⟨hx, hb, hml, hown, hts, hK, hZ⟩
  have hS : va_S A s.heap s.heap [] := va_S.rf
  have hl := lv_entry ([.ref (ad 8 0), .int x1]) (n := 2) (Nat.le_of_ble_eq_true rfl)
  rw [lg_entry_eq]
  generalize (lg_sl ([.ref (ad 8 0), .int x1]) ++ List.replicate (2 - (lg_sl ([.ref (ad 8 0), .int x1])).length) Slot.unset).toArray = ls at hl ⊢
  have hl : lv_has ls 2 [(0, .ref (ad 8 0)), (1, .int x1)] := hl
  show W p l e (rmk 0) s m _ below meth c s.heap [] 0 0 _ _
  unfold f_X8_bit at hf
  -- walk
  refine lv_iload_n hx hb dX8_bit_0 rfl (lv_at hl 1 rfl) ?_
  refine lv_if_eq (tgt := 8) hx hb dX8_bit_1 (by decide) (fun c1 => ?_) (fun c1 => ?_)
  · have hf := ifp hf c1
    refine lv_iconst (v := (0 : Int32)) hx hb dX8_bit_8 (by decide) ?_
    exact kr_i hok.2.2.1 C hlocks hr rfl hP hS rfl (Option.some.inj hf) dX8_bit_9
  · have hf := ifn hf c1
    refine lv_iconst (v := (1 : Int32)) hx hb dX8_bit_4 (by decide) ?_
    refine lv_goto (tgt := 9) hx hb dX8_bit_5 (by decide) ?_
    exact kr_i hok.2.2.1 C hlocks hr rfl hP hS rfl (Option.some.inj hf) dX8_bit_9
def f_X8_sameOf (N : Nat) (w : Mem) (x1 : Int32) (x2 : Int32) : Option (Mem × Int32) :=
  (Option.bind (f_X8_isSame N w x1) (fun z1 => (if z1 = (0 : Int32) then
(Option.bind (f_X8_refuse N w (1 : Int32)) (fun z22 => some (z22.1, z22.2)))
else
(if (gR w 8 5 0) < 2 then (if inb x1 12 = true then (if x2 = (0 : Int32) then
(Option.bind (f_X8_answer N w (gA w 13 (gR w 8 5 0) x1.toNatClampNeg)) (fun z5 => some (z5.1, z5.2)))
else
(if x2 = (1 : Int32) then
(Option.bind (f_X8_answer N w (gA w 14 (gR w 8 5 0) x1.toNatClampNeg)) (fun z8 => some (z8.1, z8.2)))
else
(if x2 = (2 : Int32) then
(Option.bind (f_X1_allSames N w (gR w 8 5 0)) (fun z11 => (Option.bind (f_X8_isOneBy N w (z11 &&& (((1 : Int32) <<< (x1 &&& 31)) ^^^ (-1 : Int32))) (gA w 13 (gR w 8 5 0) x1.toNatClampNeg) (gA w 14 (gR w 8 5 0) x1.toNatClampNeg)) (fun z13 => (Option.bind (f_X8_bit N z13.1 z13.2) (fun z15 => (Option.bind (f_X8_answer N z13.1 z15) (fun z17 => some (z17.1, z17.2)))))))))
else
(Option.bind (f_X8_refuse N w (1 : Int32)) (fun z20 => some (z20.1, z20.2)))))) else none) else none))))
set_option maxRecDepth 100000 in
set_option maxHeartbeats 4000000 in
theorem c_X8_sameOf (l : Launch) (D : va_G) (ca : Nat → ClassId) (ad : Nat → Nat → Nat) (PL : List (Nat × Nat)) (Z : State → Prop) (A : Nat → Prop) (hok : okc bX Z A ad PL) (N : Nat) (w : Mem) (x1 : Int32) (x2 : Int32) (w' : Mem) (r : Int32) (hf : f_X8_sameOf N w x1 x2 = some (w', r)) : CT l yX8_sameOf (wsy yX8_sameOf cX8_sameOf 5 (some .int)) (rmk 6) D ca ad PL Z A [.ref (ad 8 0), .int x1, .int x2] w w' (some (.int r)) := by
  refine Met.ofW (cc := cX8_sameOf) (maxL := 5) (ret := (some .int)) (by decide +kernel) rfl ?_
  intro p e s m args below meth c s₁ B hml hv
  obtain ⟨rfl, hP, hK, hZ⟩ := hv
  have hx := B.exec
  have hb := B.bytes
  have hr := B.returns
  have hlocks := B.notSynchronized
  have hts : ∀ w ∈ ALL, w.before _ s = true := fun w hw => atoms_spec (ws := wsy yX8_sameOf cX8_sameOf 5 (some .int)) B.pre w (List.mem_cons_of_mem _ hw)
  have hown : s.vm.findClass RX8 = some m.cls := findClass_of_methodNamed B.named
  have C : CX p s m _ c cX8_sameOf RX8 5 D ca Z := ⟨hx, hb, hml, hown, hts, hK, hZ⟩
  have hS : va_S A s.heap s.heap [] := va_S.rf
  have hl := lv_entry ([.ref (ad 8 0), .int x1, .int x2]) (n := 5) (Nat.le_of_ble_eq_true rfl)
  rw [lg_entry_eq]
  generalize (lg_sl ([.ref (ad 8 0), .int x1, .int x2]) ++ List.replicate (5 - (lg_sl ([.ref (ad 8 0), .int x1, .int x2])).length) Slot.unset).toArray = ls at hl ⊢
  have hl : lv_has ls 5 [(0, .ref (ad 8 0)), (1, .int x1), (2, .int x2)] := hl
  show W p l e (rmk 6) s m _ below meth c s.heap [] 0 0 _ _
  unfold f_X8_sameOf at hf
  -- walk
  refine lv_aload_n hx hb dX8_sameOf_0 rfl (lv_at hl 0 rfl) ?_
  refine lv_iload_n hx hb dX8_sameOf_1 rfl (lv_at hl 1 rfl) ?_
  obtain ⟨z1, q2, hf⟩ := bsp hf
  refine kc_V (ci := 8) (i := 0) (As := [.int x1]) (rest := []) hok.2.2.1 C hP hS hl.1 (hok.2.1 8 0 (Nat.le_of_ble_eq_true rfl)) rfl rfl cw_X8_isSame ml_X8_169 (c_X8_isSame l D ca ad PL Z A hok N w x1 z1 q2) rfl ⟨rfl, rfl⟩ ⟨Nat.le_of_ble_eq_true rfl, Nat.le_of_ble_eq_true rfl⟩ ⟨Nat.zero_le _, Nat.zero_le _⟩ (Nat.le_of_ble_eq_true rfl) rfl dX8_sameOf_2 (fun H locs hP hS => ?_)
  refine lv_if_ne (tgt := 14) hx hb dX8_sameOf_5 (by decide) (fun c24 => ?_) (fun c24 => ?_)
  · have hf := ifn hf c24
    refine lv_aload_n hx hb dX8_sameOf_14 rfl (lv_at hl 0 rfl) ?_
    obtain ⟨g3, hf⟩ := gsp hf
    refine gt_8_5 (i := 0) C hP (hok.2.1 8 0 (Nat.le_of_ble_eq_true rfl)) lk_X8_43 dX8_sameOf_15 ?_
    refine gt_1_3 (i := (gR w 8 5 0)) C hP (hok.2.1 1 (gR w 8 5 0) g3) lk_X8_172 dX8_sameOf_18 ?_
    refine lv_iload_n hx hb dX8_sameOf_21 rfl (lv_at hl 1 rfl) ?_
    obtain ⟨b4, hf⟩ := gsp hf
    refine ra_ild (k := 13) (i := (gR w 8 5 0)) (n := 12) (f := (gA w 13 (gR w 8 5 0))) C hP (hok.2.1 13 (gR w 8 5 0) g3) rfl b4 dX8_sameOf_22 ?_
    refine lv_istore_n (lv' := [(3, .int (gA w 13 (gR w 8 5 0) x1.toNatClampNeg)), (0, .ref (ad 8 0)), (1, .int x1), (2, .int x2)]) hx hb dX8_sameOf_23 rfl hl (by decide) rfl (fun ls hl => ?_)
    refine lv_aload_n hx hb dX8_sameOf_24 rfl (lv_at hl 1 rfl) ?_
    refine gt_8_5 (i := 0) C hP (hok.2.1 8 0 (Nat.le_of_ble_eq_true rfl)) lk_X8_43 dX8_sameOf_25 ?_
    refine gt_1_4 (i := (gR w 8 5 0)) C hP (hok.2.1 1 (gR w 8 5 0) g3) lk_X8_175 dX8_sameOf_28 ?_
    refine lv_iload_n hx hb dX8_sameOf_31 rfl (lv_at hl 2 rfl) ?_
    refine ra_ild (k := 14) (i := (gR w 8 5 0)) (n := 12) (f := (gA w 14 (gR w 8 5 0))) C hP (hok.2.1 14 (gR w 8 5 0) g3) rfl b4 dX8_sameOf_32 ?_
    refine lv_istore (lv' := [(4, .int (gA w 14 (gR w 8 5 0) x1.toNatClampNeg)), (3, .int (gA w 13 (gR w 8 5 0) x1.toNatClampNeg)), (0, .ref (ad 8 0)), (1, .int x1), (2, .int x2)]) hx hb dX8_sameOf_33 hl (by decide) rfl (fun ls hl => ?_)
    refine lv_iload_n hx hb dX8_sameOf_35 rfl (lv_at hl 4 rfl) ?_
    by_cases c7 : x2 = (0 : Int32)
    · refine lv_tableIn (tgt := 64) hx hb dX8_sameOf_36 (by rw [c7]; decide) (by rw [c7]; decide) (by rw [c7] <;> rfl) (by decide) ?_
      have hf := ifp hf c7
      refine lv_aload_n hx hb dX8_sameOf_64 rfl (lv_at hl 2 rfl) ?_
      refine lv_iload_n hx hb dX8_sameOf_65 rfl (lv_at hl 1 rfl) ?_
      obtain ⟨z5, q6, hf⟩ := bsp hf
      refine kc_V (ci := 8) (i := 0) (As := [.int (gA w 13 (gR w 8 5 0) x1.toNatClampNeg)]) (rest := []) hok.2.2.1 C hP hS hl.1 (hok.2.1 8 0 (Nat.le_of_ble_eq_true rfl)) rfl rfl cw_X8_answer ml_X8_96 (c_X8_answer l D ca ad PL Z A hok N w (gA w 13 (gR w 8 5 0) x1.toNatClampNeg) z5.1 z5.2 q6) rfl ⟨rfl, rfl⟩ ⟨Nat.le_of_ble_eq_true rfl, Nat.le_of_ble_eq_true rfl⟩ ⟨Nat.zero_le _, Nat.zero_le _⟩ (Nat.le_of_ble_eq_true rfl) rfl dX8_sameOf_66 (fun H locs hP hS => ?_)
      exact kr_i hok.2.2.1 C hlocks hr rfl hP hS (congrArg Prod.fst (Option.some.inj hf)) (congrArg Prod.snd (Option.some.inj hf)) dX8_sameOf_69
    have hf := ifn hf c7
    by_cases c10 : x2 = (1 : Int32)
    · refine lv_tableIn (tgt := 70) hx hb dX8_sameOf_36 (by rw [c10]; decide) (by rw [c10]; decide) (by rw [c10] <;> rfl) (by decide) ?_
      have hf := ifp hf c10
      refine lv_aload_n hx hb dX8_sameOf_70 rfl (lv_at hl 2 rfl) ?_
      refine lv_iload hx hb dX8_sameOf_71 (lv_at hl 0 rfl) ?_
      obtain ⟨z8, q9, hf⟩ := bsp hf
      refine kc_V (ci := 8) (i := 0) (As := [.int (gA w 14 (gR w 8 5 0) x1.toNatClampNeg)]) (rest := []) hok.2.2.1 C hP hS hl.1 (hok.2.1 8 0 (Nat.le_of_ble_eq_true rfl)) rfl rfl cw_X8_answer ml_X8_96 (c_X8_answer l D ca ad PL Z A hok N w (gA w 14 (gR w 8 5 0) x1.toNatClampNeg) z8.1 z8.2 q9) rfl ⟨rfl, rfl⟩ ⟨Nat.le_of_ble_eq_true rfl, Nat.le_of_ble_eq_true rfl⟩ ⟨Nat.zero_le _, Nat.zero_le _⟩ (Nat.le_of_ble_eq_true rfl) rfl dX8_sameOf_73 (fun H locs hP hS => ?_)
      exact kr_i hok.2.2.1 C hlocks hr rfl hP hS (congrArg Prod.fst (Option.some.inj hf)) (congrArg Prod.snd (Option.some.inj hf)) dX8_sameOf_76
    have hf := ifn hf c10
    by_cases c19 : x2 = (2 : Int32)
    · refine lv_tableIn (tgt := 77) hx hb dX8_sameOf_36 (by rw [c19]; decide) (by rw [c19]; decide) (by rw [c19] <;> rfl) (by decide) ?_
      have hf := ifp hf c19
      refine lv_aload_n hx hb dX8_sameOf_77 rfl (lv_at hl 2 rfl) ?_
      refine lv_aload_n hx hb dX8_sameOf_78 rfl (lv_at hl 2 rfl) ?_
      refine lv_aload_n hx hb dX8_sameOf_79 rfl (lv_at hl 2 rfl) ?_
      refine lv_aload_n hx hb dX8_sameOf_80 rfl (lv_at hl 2 rfl) ?_
      refine gt_8_5 (i := 0) C hP (hok.2.1 8 0 (Nat.le_of_ble_eq_true rfl)) lk_X8_43 dX8_sameOf_81 ?_
      obtain ⟨z11, q12, hf⟩ := bsp hf
      refine kc_V (ci := 1) (i := (gR w 8 5 0)) (As := []) (rest := [.ref (ad 8 0), .ref (ad 8 0), .ref (ad 8 0)]) hok.2.2.1 C hP hS hl.1 (hok.2.1 1 (gR w 8 5 0) g3) rfl rfl cw_X1_allSames ml_X8_178 (c_X1_allSames l D ca ad PL Z A hok N w (gR w 8 5 0) g3 z11 q12) rfl ⟨rfl, rfl⟩ ⟨Nat.le_of_ble_eq_true rfl, Nat.le_of_ble_eq_true rfl⟩ ⟨Nat.zero_le _, Nat.zero_le _⟩ (Nat.le_of_ble_eq_true rfl) rfl dX8_sameOf_84 (fun H locs hP hS => ?_)
      refine lv_iconst (v := (1 : Int32)) hx hb dX8_sameOf_87 (by decide) ?_
      refine lv_iload_n hx hb dX8_sameOf_88 rfl (lv_at hl 3 rfl) ?_
      refine lv_ishl hx hb dX8_sameOf_89 ?_
      refine lv_iconst (v := (-1 : Int32)) hx hb dX8_sameOf_90 (by decide) ?_
      refine lv_ixor hx hb dX8_sameOf_91 ?_
      refine lv_iand hx hb dX8_sameOf_92 ?_
      refine lv_iload_n hx hb dX8_sameOf_93 rfl (lv_at hl 1 rfl) ?_
      refine lv_iload hx hb dX8_sameOf_94 (lv_at hl 0 rfl) ?_
      obtain ⟨z13, q14, hf⟩ := bsp hf
      refine kc_V (ci := 8) (i := 0) (As := [.int (z11 &&& (((1 : Int32) <<< (x1 &&& 31)) ^^^ (-1 : Int32))), .int (gA w 13 (gR w 8 5 0) x1.toNatClampNeg), .int (gA w 14 (gR w 8 5 0) x1.toNatClampNeg)]) (rest := [.ref (ad 8 0), .ref (ad 8 0)]) hok.2.2.1 C hP hS hl.1 (hok.2.1 8 0 (Nat.le_of_ble_eq_true rfl)) rfl rfl cw_X8_isOneBy ml_X8_182 (c_X8_isOneBy l D ca ad PL Z A hok N w (z11 &&& (((1 : Int32) <<< (x1 &&& 31)) ^^^ (-1 : Int32))) (gA w 13 (gR w 8 5 0) x1.toNatClampNeg) (gA w 14 (gR w 8 5 0) x1.toNatClampNeg) z13.1 z13.2 q14) rfl ⟨rfl, rfl⟩ ⟨Nat.le_of_ble_eq_true rfl, Nat.le_of_ble_eq_true rfl⟩ ⟨Nat.zero_le _, Nat.zero_le _⟩ (Nat.le_of_ble_eq_true rfl) rfl dX8_sameOf_96 (fun H locs hP hS => ?_)
      obtain ⟨z15, q16, hf⟩ := bsp hf
      refine kc_V (ci := 8) (i := 0) (As := [.int z13.2]) (rest := [.ref (ad 8 0)]) hok.2.2.1 C hP hS hl.1 (hok.2.1 8 0 (Nat.le_of_ble_eq_true rfl)) rfl rfl cw_X8_bit ml_X8_186 (c_X8_bit l D ca ad PL Z A hok N z13.1 z13.2 z15 q16) rfl ⟨rfl, rfl⟩ ⟨Nat.le_of_ble_eq_true rfl, Nat.le_of_ble_eq_true rfl⟩ ⟨Nat.zero_le _, Nat.zero_le _⟩ (Nat.le_of_ble_eq_true rfl) rfl dX8_sameOf_99 (fun H locs hP hS => ?_)
      obtain ⟨z17, q18, hf⟩ := bsp hf
      refine kc_V (ci := 8) (i := 0) (As := [.int z15]) (rest := []) hok.2.2.1 C hP hS hl.1 (hok.2.1 8 0 (Nat.le_of_ble_eq_true rfl)) rfl rfl cw_X8_answer ml_X8_96 (c_X8_answer l D ca ad PL Z A hok N z13.1 z15 z17.1 z17.2 q18) rfl ⟨rfl, rfl⟩ ⟨Nat.le_of_ble_eq_true rfl, Nat.le_of_ble_eq_true rfl⟩ ⟨Nat.zero_le _, Nat.zero_le _⟩ (Nat.le_of_ble_eq_true rfl) rfl dX8_sameOf_102 (fun H locs hP hS => ?_)
      exact kr_i hok.2.2.1 C hlocks hr rfl hP hS (congrArg Prod.fst (Option.some.inj hf)) (congrArg Prod.snd (Option.some.inj hf)) dX8_sameOf_105
    have hf := ifn hf c19
    have t_c7 : ¬ (x2).toInt = 0 := fun h => c7 (Int32.toInt_inj.mp (h.trans (by decide)))
    have t_c10 : ¬ (x2).toInt = 1 := fun h => c10 (Int32.toInt_inj.mp (h.trans (by decide)))
    have t_c19 : ¬ (x2).toInt = 2 := fun h => c19 (Int32.toInt_inj.mp (h.trans (by decide)))
    refine lv_tableOut (tgt := 106) hx hb dX8_sameOf_36 (by omega) (by decide) ?_
    refine lv_aload_n hx hb dX8_sameOf_106 rfl (lv_at hl 2 rfl) ?_
    refine lv_iconst (v := (1 : Int32)) hx hb dX8_sameOf_107 (by decide) ?_
    obtain ⟨z20, q21, hf⟩ := bsp hf
    refine kc_V (ci := 8) (i := 0) (As := [.int (1 : Int32)]) (rest := []) hok.2.2.1 C hP hS hl.1 (hok.2.1 8 0 (Nat.le_of_ble_eq_true rfl)) rfl rfl cw_X8_refuse ml_X8_61 (c_X8_refuse l D ca ad PL Z A hok N w (1 : Int32) z20.1 z20.2 q21) rfl ⟨rfl, rfl⟩ ⟨Nat.le_of_ble_eq_true rfl, Nat.le_of_ble_eq_true rfl⟩ ⟨Nat.zero_le _, Nat.zero_le _⟩ (Nat.le_of_ble_eq_true rfl) rfl dX8_sameOf_108 (fun H locs hP hS => ?_)
    exact kr_i hok.2.2.1 C hlocks hr rfl hP hS (congrArg Prod.fst (Option.some.inj hf)) (congrArg Prod.snd (Option.some.inj hf)) dX8_sameOf_111
  · have hf := ifp hf c24
    refine lv_aload_n hx hb dX8_sameOf_8 rfl (lv_at hl 0 rfl) ?_
    refine lv_iconst (v := (1 : Int32)) hx hb dX8_sameOf_9 (by decide) ?_
    obtain ⟨z22, q23, hf⟩ := bsp hf
    refine kc_V (ci := 8) (i := 0) (As := [.int (1 : Int32)]) (rest := []) hok.2.2.1 C hP hS hl.1 (hok.2.1 8 0 (Nat.le_of_ble_eq_true rfl)) rfl rfl cw_X8_refuse ml_X8_61 (c_X8_refuse l D ca ad PL Z A hok N w (1 : Int32) z22.1 z22.2 q23) rfl ⟨rfl, rfl⟩ ⟨Nat.le_of_ble_eq_true rfl, Nat.le_of_ble_eq_true rfl⟩ ⟨Nat.zero_le _, Nat.zero_le _⟩ (Nat.le_of_ble_eq_true rfl) rfl dX8_sameOf_10 (fun H locs hP hS => ?_)
    exact kr_i hok.2.2.1 C hlocks hr rfl hP hS (congrArg Prod.fst (Option.some.inj hf)) (congrArg Prod.snd (Option.some.inj hf)) dX8_sameOf_13
def f_X8_joinOf (N : Nat) (w : Mem) (x1 : Int32) (x2 : Int32) : Option (Mem × Int32) :=
  (if x1 < (0 : Int32) then
(Option.bind (f_X8_refuse N w (1 : Int32)) (fun z1 => some (z1.1, z1.2)))
else
(if (gR w 8 5 0) < 2 then (if x1 < (gF w 2 7 (gR w 8 5 0)) then
(if x2 = (0 : Int32) then
(if inb x1 24 = true then (Option.bind (f_X8_answer N w (gA w 21 (gR w 8 5 0) x1.toNatClampNeg)) (fun z5 => some (z5.1, z5.2))) else none)
else
(if x2 = (1 : Int32) then
(if inb x1 24 = true then (Option.bind (f_X8_answer N w (gA w 22 (gR w 8 5 0) x1.toNatClampNeg)) (fun z9 => some (z9.1, z9.2))) else none)
else
(if x2 = (2 : Int32) then
(if inb x1 24 = true then (if (0 : Int32) ≤ (gA w 23 (gR w 8 5 0) x1.toNatClampNeg) then
(Option.bind (f_X8_answer N w (gA w 23 (gR w 8 5 0) x1.toNatClampNeg)) (fun z13 => some (z13.1, z13.2)))
else
(Option.bind (f_X8_answer N w (-2 : Int32)) (fun z15 => some (z15.1, z15.2)))) else none)
else
(Option.bind (f_X8_refuse N w (1 : Int32)) (fun z19 => some (z19.1, z19.2))))))
else
(Option.bind (f_X8_refuse N w (1 : Int32)) (fun z21 => some (z21.1, z21.2)))) else none))
set_option maxRecDepth 100000 in
set_option maxHeartbeats 4000000 in
theorem c_X8_joinOf (l : Launch) (D : va_G) (ca : Nat → ClassId) (ad : Nat → Nat → Nat) (PL : List (Nat × Nat)) (Z : State → Prop) (A : Nat → Prop) (hok : okc bX Z A ad PL) (N : Nat) (w : Mem) (x1 : Int32) (x2 : Int32) (w' : Mem) (r : Int32) (hf : f_X8_joinOf N w x1 x2 = some (w', r)) : CT l yX8_joinOf (wsy yX8_joinOf cX8_joinOf 3 (some .int)) (rmk 1) D ca ad PL Z A [.ref (ad 8 0), .int x1, .int x2] w w' (some (.int r)) := by
  refine Met.ofW (cc := cX8_joinOf) (maxL := 3) (ret := (some .int)) (by decide +kernel) rfl ?_
  intro p e s m args below meth c s₁ B hml hv
  obtain ⟨rfl, hP, hK, hZ⟩ := hv
  have hx := B.exec
  have hb := B.bytes
  have hr := B.returns
  have hlocks := B.notSynchronized
  have hts : ∀ w ∈ ALL, w.before _ s = true := fun w hw => atoms_spec (ws := wsy yX8_joinOf cX8_joinOf 3 (some .int)) B.pre w (List.mem_cons_of_mem _ hw)
  have hown : s.vm.findClass RX8 = some m.cls := findClass_of_methodNamed B.named
  have C : CX p s m _ c cX8_joinOf RX8 3 D ca Z := ⟨hx, hb, hml, hown, hts, hK, hZ⟩
  have hS : va_S A s.heap s.heap [] := va_S.rf
  have hl := lv_entry ([.ref (ad 8 0), .int x1, .int x2]) (n := 3) (Nat.le_of_ble_eq_true rfl)
  rw [lg_entry_eq]
  generalize (lg_sl ([.ref (ad 8 0), .int x1, .int x2]) ++ List.replicate (3 - (lg_sl ([.ref (ad 8 0), .int x1, .int x2])).length) Slot.unset).toArray = ls at hl ⊢
  have hl : lv_has ls 3 [(0, .ref (ad 8 0)), (1, .int x1), (2, .int x2)] := hl
  show W p l e (rmk 1) s m _ below meth c s.heap [] 0 0 _ _
  unfold f_X8_joinOf at hf
  -- walk
  refine lv_iload_n hx hb dX8_joinOf_0 rfl (lv_at hl 1 rfl) ?_
  refine lv_if_lt (tgt := 18) hx hb dX8_joinOf_1 (by decide) (fun c24 => ?_) (fun c24 => ?_)
  · have hf := ifp hf c24
    refine lv_aload_n hx hb dX8_joinOf_18 rfl (lv_at hl 0 rfl) ?_
    refine lv_iconst (v := (1 : Int32)) hx hb dX8_joinOf_19 (by decide) ?_
    obtain ⟨z1, q2, hf⟩ := bsp hf
    refine kc_V (ci := 8) (i := 0) (As := [.int (1 : Int32)]) (rest := []) hok.2.2.1 C hP hS hl.1 (hok.2.1 8 0 (Nat.le_of_ble_eq_true rfl)) rfl rfl cw_X8_refuse ml_X8_61 (c_X8_refuse l D ca ad PL Z A hok N w (1 : Int32) z1.1 z1.2 q2) rfl ⟨rfl, rfl⟩ ⟨Nat.le_of_ble_eq_true rfl, Nat.le_of_ble_eq_true rfl⟩ ⟨Nat.zero_le _, Nat.zero_le _⟩ (Nat.le_of_ble_eq_true rfl) rfl dX8_joinOf_20 (fun H locs hP hS => ?_)
    exact kr_i hok.2.2.1 C hlocks hr rfl hP hS (congrArg Prod.fst (Option.some.inj hf)) (congrArg Prod.snd (Option.some.inj hf)) dX8_joinOf_23
  · have hf := ifn hf c24
    refine lv_iload_n hx hb dX8_joinOf_4 rfl (lv_at hl 1 rfl) ?_
    refine lv_aload_n hx hb dX8_joinOf_5 rfl (lv_at hl 0 rfl) ?_
    obtain ⟨g3, hf⟩ := gsp hf
    refine gt_8_5 (i := 0) C hP (hok.2.1 8 0 (Nat.le_of_ble_eq_true rfl)) lk_X8_43 dX8_joinOf_6 ?_
    refine gt_1_2 (i := (gR w 8 5 0)) C hP (hok.2.1 1 (gR w 8 5 0) g3) lk_X8_116 dX8_joinOf_9 ?_
    refine gt_2_7 (i := (gR w 8 5 0)) C hP (hok.2.1 2 (gR w 8 5 0) g3) lk_X8_120 dX8_joinOf_12 ?_
    refine lv_icmp_lt (tgt := 24) hx hb dX8_joinOf_15 (by decide) (fun c23 => ?_) (fun c23 => ?_)
    · have hf := ifp hf c23
      refine lv_iload_n hx hb dX8_joinOf_24 rfl (lv_at hl 2 rfl) ?_
      by_cases c7 : x2 = (0 : Int32)
      · refine lv_tableIn (tgt := 52) hx hb dX8_joinOf_25 (by rw [c7]; decide) (by rw [c7]; decide) (by rw [c7] <;> rfl) (by decide) ?_
        have hf := ifp hf c7
        refine lv_aload_n hx hb dX8_joinOf_52 rfl (lv_at hl 0 rfl) ?_
        refine lv_aload_n hx hb dX8_joinOf_53 rfl (lv_at hl 0 rfl) ?_
        refine gt_8_5 (i := 0) C hP (hok.2.1 8 0 (Nat.le_of_ble_eq_true rfl)) lk_X8_43 dX8_joinOf_54 ?_
        refine gt_1_2 (i := (gR w 8 5 0)) C hP (hok.2.1 1 (gR w 8 5 0) g3) lk_X8_116 dX8_joinOf_57 ?_
        refine gt_2_2 (i := (gR w 8 5 0)) C hP (hok.2.1 2 (gR w 8 5 0) g3) lk_X8_200 dX8_joinOf_60 ?_
        refine lv_iload_n hx hb dX8_joinOf_63 rfl (lv_at hl 1 rfl) ?_
        obtain ⟨b4, hf⟩ := gsp hf
        refine ra_ild (k := 21) (i := (gR w 8 5 0)) (n := 24) (f := (gA w 21 (gR w 8 5 0))) C hP (hok.2.1 21 (gR w 8 5 0) g3) rfl b4 dX8_joinOf_64 ?_
        obtain ⟨z5, q6, hf⟩ := bsp hf
        refine kc_V (ci := 8) (i := 0) (As := [.int (gA w 21 (gR w 8 5 0) x1.toNatClampNeg)]) (rest := []) hok.2.2.1 C hP hS hl.1 (hok.2.1 8 0 (Nat.le_of_ble_eq_true rfl)) rfl rfl cw_X8_answer ml_X8_96 (c_X8_answer l D ca ad PL Z A hok N w (gA w 21 (gR w 8 5 0) x1.toNatClampNeg) z5.1 z5.2 q6) rfl ⟨rfl, rfl⟩ ⟨Nat.le_of_ble_eq_true rfl, Nat.le_of_ble_eq_true rfl⟩ ⟨Nat.zero_le _, Nat.zero_le _⟩ (Nat.le_of_ble_eq_true rfl) rfl dX8_joinOf_65 (fun H locs hP hS => ?_)
        exact kr_i hok.2.2.1 C hlocks hr rfl hP hS (congrArg Prod.fst (Option.some.inj hf)) (congrArg Prod.snd (Option.some.inj hf)) dX8_joinOf_68
      have hf := ifn hf c7
      by_cases c11 : x2 = (1 : Int32)
      · refine lv_tableIn (tgt := 69) hx hb dX8_joinOf_25 (by rw [c11]; decide) (by rw [c11]; decide) (by rw [c11] <;> rfl) (by decide) ?_
        have hf := ifp hf c11
        refine lv_aload_n hx hb dX8_joinOf_69 rfl (lv_at hl 0 rfl) ?_
        refine lv_aload_n hx hb dX8_joinOf_70 rfl (lv_at hl 0 rfl) ?_
        refine gt_8_5 (i := 0) C hP (hok.2.1 8 0 (Nat.le_of_ble_eq_true rfl)) lk_X8_43 dX8_joinOf_71 ?_
        refine gt_1_2 (i := (gR w 8 5 0)) C hP (hok.2.1 1 (gR w 8 5 0) g3) lk_X8_116 dX8_joinOf_74 ?_
        refine gt_2_3 (i := (gR w 8 5 0)) C hP (hok.2.1 2 (gR w 8 5 0) g3) lk_X8_203 dX8_joinOf_77 ?_
        refine lv_iload_n hx hb dX8_joinOf_80 rfl (lv_at hl 1 rfl) ?_
        obtain ⟨b8, hf⟩ := gsp hf
        refine ra_ild (k := 22) (i := (gR w 8 5 0)) (n := 24) (f := (gA w 22 (gR w 8 5 0))) C hP (hok.2.1 22 (gR w 8 5 0) g3) rfl b8 dX8_joinOf_81 ?_
        obtain ⟨z9, q10, hf⟩ := bsp hf
        refine kc_V (ci := 8) (i := 0) (As := [.int (gA w 22 (gR w 8 5 0) x1.toNatClampNeg)]) (rest := []) hok.2.2.1 C hP hS hl.1 (hok.2.1 8 0 (Nat.le_of_ble_eq_true rfl)) rfl rfl cw_X8_answer ml_X8_96 (c_X8_answer l D ca ad PL Z A hok N w (gA w 22 (gR w 8 5 0) x1.toNatClampNeg) z9.1 z9.2 q10) rfl ⟨rfl, rfl⟩ ⟨Nat.le_of_ble_eq_true rfl, Nat.le_of_ble_eq_true rfl⟩ ⟨Nat.zero_le _, Nat.zero_le _⟩ (Nat.le_of_ble_eq_true rfl) rfl dX8_joinOf_82 (fun H locs hP hS => ?_)
        exact kr_i hok.2.2.1 C hlocks hr rfl hP hS (congrArg Prod.fst (Option.some.inj hf)) (congrArg Prod.snd (Option.some.inj hf)) dX8_joinOf_85
      have hf := ifn hf c11
      by_cases c18 : x2 = (2 : Int32)
      · refine lv_tableIn (tgt := 86) hx hb dX8_joinOf_25 (by rw [c18]; decide) (by rw [c18]; decide) (by rw [c18] <;> rfl) (by decide) ?_
        have hf := ifp hf c18
        refine lv_aload_n hx hb dX8_joinOf_86 rfl (lv_at hl 0 rfl) ?_
        refine lv_aload_n hx hb dX8_joinOf_87 rfl (lv_at hl 0 rfl) ?_
        refine gt_8_5 (i := 0) C hP (hok.2.1 8 0 (Nat.le_of_ble_eq_true rfl)) lk_X8_43 dX8_joinOf_88 ?_
        refine gt_1_2 (i := (gR w 8 5 0)) C hP (hok.2.1 1 (gR w 8 5 0) g3) lk_X8_116 dX8_joinOf_91 ?_
        refine gt_2_4 (i := (gR w 8 5 0)) C hP (hok.2.1 2 (gR w 8 5 0) g3) lk_X8_206 dX8_joinOf_94 ?_
        refine lv_iload_n hx hb dX8_joinOf_97 rfl (lv_at hl 1 rfl) ?_
        obtain ⟨b12, hf⟩ := gsp hf
        refine ra_ild (k := 23) (i := (gR w 8 5 0)) (n := 24) (f := (gA w 23 (gR w 8 5 0))) C hP (hok.2.1 23 (gR w 8 5 0) g3) rfl b12 dX8_joinOf_98 ?_
        refine lv_if_ge (tgt := 107) hx hb dX8_joinOf_99 (by decide) (fun c17 => ?_) (fun c17 => ?_)
        · have hf := ifp hf c17
          refine lv_aload_n hx hb dX8_joinOf_107 rfl (lv_at hl 0 rfl) ?_
          refine gt_8_5 (i := 0) C hP (hok.2.1 8 0 (Nat.le_of_ble_eq_true rfl)) lk_X8_43 dX8_joinOf_108 ?_
          refine gt_1_2 (i := (gR w 8 5 0)) C hP (hok.2.1 1 (gR w 8 5 0) g3) lk_X8_116 dX8_joinOf_111 ?_
          refine gt_2_4 (i := (gR w 8 5 0)) C hP (hok.2.1 2 (gR w 8 5 0) g3) lk_X8_206 dX8_joinOf_114 ?_
          refine lv_iload_n hx hb dX8_joinOf_117 rfl (lv_at hl 1 rfl) ?_
          refine ra_ild (k := 23) (i := (gR w 8 5 0)) (n := 24) (f := (gA w 23 (gR w 8 5 0))) C hP (hok.2.1 23 (gR w 8 5 0) g3) rfl b12 dX8_joinOf_118 ?_
          obtain ⟨z13, q14, hf⟩ := bsp hf
          refine kc_V (ci := 8) (i := 0) (As := [.int (gA w 23 (gR w 8 5 0) x1.toNatClampNeg)]) (rest := []) hok.2.2.1 C hP hS hl.1 (hok.2.1 8 0 (Nat.le_of_ble_eq_true rfl)) rfl rfl cw_X8_answer ml_X8_96 (c_X8_answer l D ca ad PL Z A hok N w (gA w 23 (gR w 8 5 0) x1.toNatClampNeg) z13.1 z13.2 q14) rfl ⟨rfl, rfl⟩ ⟨Nat.le_of_ble_eq_true rfl, Nat.le_of_ble_eq_true rfl⟩ ⟨Nat.zero_le _, Nat.zero_le _⟩ (Nat.le_of_ble_eq_true rfl) rfl dX8_joinOf_119 (fun H locs hP hS => ?_)
          exact kr_i hok.2.2.1 C hlocks hr rfl hP hS (congrArg Prod.fst (Option.some.inj hf)) (congrArg Prod.snd (Option.some.inj hf)) dX8_joinOf_122
        · have hf := ifn hf c17
          refine lv_bipush (v := (-2 : Int32)) hx hb dX8_joinOf_102 (by decide) ?_
          refine lv_goto (tgt := 119) hx hb dX8_joinOf_104 (by decide) ?_
          obtain ⟨z15, q16, hf⟩ := bsp hf
          refine kc_V (ci := 8) (i := 0) (As := [.int (-2 : Int32)]) (rest := []) hok.2.2.1 C hP hS hl.1 (hok.2.1 8 0 (Nat.le_of_ble_eq_true rfl)) rfl rfl cw_X8_answer ml_X8_96 (c_X8_answer l D ca ad PL Z A hok N w (-2 : Int32) z15.1 z15.2 q16) rfl ⟨rfl, rfl⟩ ⟨Nat.le_of_ble_eq_true rfl, Nat.le_of_ble_eq_true rfl⟩ ⟨Nat.zero_le _, Nat.zero_le _⟩ (Nat.le_of_ble_eq_true rfl) rfl dX8_joinOf_119 (fun H locs hP hS => ?_)
          exact kr_i hok.2.2.1 C hlocks hr rfl hP hS (congrArg Prod.fst (Option.some.inj hf)) (congrArg Prod.snd (Option.some.inj hf)) dX8_joinOf_122
      have hf := ifn hf c18
      have t_c7 : ¬ (x2).toInt = 0 := fun h => c7 (Int32.toInt_inj.mp (h.trans (by decide)))
      have t_c11 : ¬ (x2).toInt = 1 := fun h => c11 (Int32.toInt_inj.mp (h.trans (by decide)))
      have t_c18 : ¬ (x2).toInt = 2 := fun h => c18 (Int32.toInt_inj.mp (h.trans (by decide)))
      refine lv_tableOut (tgt := 123) hx hb dX8_joinOf_25 (by omega) (by decide) ?_
      refine lv_aload_n hx hb dX8_joinOf_123 rfl (lv_at hl 0 rfl) ?_
      refine lv_iconst (v := (1 : Int32)) hx hb dX8_joinOf_124 (by decide) ?_
      obtain ⟨z19, q20, hf⟩ := bsp hf
      refine kc_V (ci := 8) (i := 0) (As := [.int (1 : Int32)]) (rest := []) hok.2.2.1 C hP hS hl.1 (hok.2.1 8 0 (Nat.le_of_ble_eq_true rfl)) rfl rfl cw_X8_refuse ml_X8_61 (c_X8_refuse l D ca ad PL Z A hok N w (1 : Int32) z19.1 z19.2 q20) rfl ⟨rfl, rfl⟩ ⟨Nat.le_of_ble_eq_true rfl, Nat.le_of_ble_eq_true rfl⟩ ⟨Nat.zero_le _, Nat.zero_le _⟩ (Nat.le_of_ble_eq_true rfl) rfl dX8_joinOf_125 (fun H locs hP hS => ?_)
      exact kr_i hok.2.2.1 C hlocks hr rfl hP hS (congrArg Prod.fst (Option.some.inj hf)) (congrArg Prod.snd (Option.some.inj hf)) dX8_joinOf_128
    · have hf := ifn hf c23
      refine lv_aload_n hx hb dX8_joinOf_18 rfl (lv_at hl 0 rfl) ?_
      refine lv_iconst (v := (1 : Int32)) hx hb dX8_joinOf_19 (by decide) ?_
      obtain ⟨z21, q22, hf⟩ := bsp hf
      refine kc_V (ci := 8) (i := 0) (As := [.int (1 : Int32)]) (rest := []) hok.2.2.1 C hP hS hl.1 (hok.2.1 8 0 (Nat.le_of_ble_eq_true rfl)) rfl rfl cw_X8_refuse ml_X8_61 (c_X8_refuse l D ca ad PL Z A hok N w (1 : Int32) z21.1 z21.2 q22) rfl ⟨rfl, rfl⟩ ⟨Nat.le_of_ble_eq_true rfl, Nat.le_of_ble_eq_true rfl⟩ ⟨Nat.zero_le _, Nat.zero_le _⟩ (Nat.le_of_ble_eq_true rfl) rfl dX8_joinOf_20 (fun H locs hP hS => ?_)
      exact kr_i hok.2.2.1 C hlocks hr rfl hP hS (congrArg Prod.fst (Option.some.inj hf)) (congrArg Prod.snd (Option.some.inj hf)) dX8_joinOf_23
def f_X8_height (N : Nat) (w : Mem) (x1 : Int32) : Option (Mem × Int32) :=
  (Option.bind (f_X8_isTerm N w x1) (fun z1 => (if z1 = (0 : Int32) then
(Option.bind (f_X8_refuse N w (1 : Int32)) (fun z8 => some (z8.1, z8.2)))
else
(if (gR w 8 5 0) < 2 then (Option.bind (f_X2_stepsUp N w (gR w 8 5 0) x1) (fun z4 => (Option.bind (f_X8_answer N w z4) (fun z6 => some (z6.1, z6.2))))) else none))))
set_option maxRecDepth 100000 in
set_option maxHeartbeats 4000000 in
theorem c_X8_height (l : Launch) (D : va_G) (ca : Nat → ClassId) (ad : Nat → Nat → Nat) (PL : List (Nat × Nat)) (Z : State → Prop) (A : Nat → Prop) (hok : okc bX Z A ad PL) (N : Nat) (w : Mem) (x1 : Int32) (w' : Mem) (r : Int32) (hf : f_X8_height N w x1 = some (w', r)) : CT l yX8_height (wsy yX8_height cX8_height 2 (some .int)) (rmk 1) D ca ad PL Z A [.ref (ad 8 0), .int x1] w w' (some (.int r)) := by
  refine Met.ofW (cc := cX8_height) (maxL := 2) (ret := (some .int)) (by decide +kernel) rfl ?_
  intro p e s m args below meth c s₁ B hml hv
  obtain ⟨rfl, hP, hK, hZ⟩ := hv
  have hx := B.exec
  have hb := B.bytes
  have hr := B.returns
  have hlocks := B.notSynchronized
  have hts : ∀ w ∈ ALL, w.before _ s = true := fun w hw => atoms_spec (ws := wsy yX8_height cX8_height 2 (some .int)) B.pre w (List.mem_cons_of_mem _ hw)
  have hown : s.vm.findClass RX8 = some m.cls := findClass_of_methodNamed B.named
  have C : CX p s m _ c cX8_height RX8 2 D ca Z := ⟨hx, hb, hml, hown, hts, hK, hZ⟩
  have hS : va_S A s.heap s.heap [] := va_S.rf
  have hl := lv_entry ([.ref (ad 8 0), .int x1]) (n := 2) (Nat.le_of_ble_eq_true rfl)
  rw [lg_entry_eq]
  generalize (lg_sl ([.ref (ad 8 0), .int x1]) ++ List.replicate (2 - (lg_sl ([.ref (ad 8 0), .int x1])).length) Slot.unset).toArray = ls at hl ⊢
  have hl : lv_has ls 2 [(0, .ref (ad 8 0)), (1, .int x1)] := hl
  show W p l e (rmk 1) s m _ below meth c s.heap [] 0 0 _ _
  unfold f_X8_height at hf
  -- walk
  refine lv_aload_n hx hb dX8_height_0 rfl (lv_at hl 0 rfl) ?_
  refine lv_iload_n hx hb dX8_height_1 rfl (lv_at hl 1 rfl) ?_
  obtain ⟨z1, q2, hf⟩ := bsp hf
  refine kc_V (ci := 8) (i := 0) (As := [.int x1]) (rest := []) hok.2.2.1 C hP hS hl.1 (hok.2.1 8 0 (Nat.le_of_ble_eq_true rfl)) rfl rfl cw_X8_isTerm ml_X8_140 (c_X8_isTerm l D ca ad PL Z A hok N w x1 z1 q2) rfl ⟨rfl, rfl⟩ ⟨Nat.le_of_ble_eq_true rfl, Nat.le_of_ble_eq_true rfl⟩ ⟨Nat.zero_le _, Nat.zero_le _⟩ (Nat.le_of_ble_eq_true rfl) rfl dX8_height_2 (fun H locs hP hS => ?_)
  refine lv_if_ne (tgt := 14) hx hb dX8_height_5 (by decide) (fun c10 => ?_) (fun c10 => ?_)
  · have hf := ifn hf c10
    refine lv_aload_n hx hb dX8_height_14 rfl (lv_at hl 0 rfl) ?_
    refine lv_aload_n hx hb dX8_height_15 rfl (lv_at hl 0 rfl) ?_
    obtain ⟨g3, hf⟩ := gsp hf
    refine gt_8_5 (i := 0) C hP (hok.2.1 8 0 (Nat.le_of_ble_eq_true rfl)) lk_X8_43 dX8_height_16 ?_
    refine gt_1_2 (i := (gR w 8 5 0)) C hP (hok.2.1 1 (gR w 8 5 0) g3) lk_X8_116 dX8_height_19 ?_
    refine lv_iload_n hx hb dX8_height_22 rfl (lv_at hl 1 rfl) ?_
    obtain ⟨z4, q5, hf⟩ := bsp hf
    refine kc_V (ci := 2) (i := (gR w 8 5 0)) (As := [.int x1]) (rest := [.ref (ad 8 0)]) hok.2.2.1 C hP hS hl.1 (hok.2.1 2 (gR w 8 5 0) g3) rfl rfl cw_X2_stepsUp ml_X8_209 (c_X2_stepsUp l D ca ad PL Z A hok N w (gR w 8 5 0) g3 x1 z4 q5) rfl ⟨rfl, rfl⟩ ⟨Nat.le_of_ble_eq_true rfl, Nat.le_of_ble_eq_true rfl⟩ ⟨Nat.zero_le _, Nat.zero_le _⟩ (Nat.le_of_ble_eq_true rfl) rfl dX8_height_23 (fun H locs hP hS => ?_)
    obtain ⟨z6, q7, hf⟩ := bsp hf
    refine kc_V (ci := 8) (i := 0) (As := [.int z4]) (rest := []) hok.2.2.1 C hP hS hl.1 (hok.2.1 8 0 (Nat.le_of_ble_eq_true rfl)) rfl rfl cw_X8_answer ml_X8_96 (c_X8_answer l D ca ad PL Z A hok N w z4 z6.1 z6.2 q7) rfl ⟨rfl, rfl⟩ ⟨Nat.le_of_ble_eq_true rfl, Nat.le_of_ble_eq_true rfl⟩ ⟨Nat.zero_le _, Nat.zero_le _⟩ (Nat.le_of_ble_eq_true rfl) rfl dX8_height_26 (fun H locs hP hS => ?_)
    exact kr_i hok.2.2.1 C hlocks hr rfl hP hS (congrArg Prod.fst (Option.some.inj hf)) (congrArg Prod.snd (Option.some.inj hf)) dX8_height_29
  · have hf := ifp hf c10
    refine lv_aload_n hx hb dX8_height_8 rfl (lv_at hl 0 rfl) ?_
    refine lv_iconst (v := (1 : Int32)) hx hb dX8_height_9 (by decide) ?_
    obtain ⟨z8, q9, hf⟩ := bsp hf
    refine kc_V (ci := 8) (i := 0) (As := [.int (1 : Int32)]) (rest := []) hok.2.2.1 C hP hS hl.1 (hok.2.1 8 0 (Nat.le_of_ble_eq_true rfl)) rfl rfl cw_X8_refuse ml_X8_61 (c_X8_refuse l D ca ad PL Z A hok N w (1 : Int32) z8.1 z8.2 q9) rfl ⟨rfl, rfl⟩ ⟨Nat.le_of_ble_eq_true rfl, Nat.le_of_ble_eq_true rfl⟩ ⟨Nat.zero_le _, Nat.zero_le _⟩ (Nat.le_of_ble_eq_true rfl) rfl dX8_height_10 (fun H locs hP hS => ?_)
    exact kr_i hok.2.2.1 C hlocks hr rfl hP hS (congrArg Prod.fst (Option.some.inj hf)) (congrArg Prod.snd (Option.some.inj hf)) dX8_height_13
def f_X8_hung (N : Nat) (w : Mem) (x1 : Int32) (x2 : Int32) : Option (Mem × Int32) :=
  (Option.bind (f_X8_isTerm N w x1) (fun z1 => (if z1 = (0 : Int32) then
(Option.bind (f_X8_refuse N w (1 : Int32)) (fun z3 => some (z3.1, z3.2)))
else
(if (0 : Int32) ≤ x2 then
(if (gR w 8 5 0) < 2 then (Option.bind (f_X2_hangingOn N w (gR w 8 5 0) x1 x2) (fun z6 => (Option.bind (f_X8_answer N w z6) (fun z8 => some (z8.1, z8.2))))) else none)
else
(Option.bind (f_X8_refuse N w (1 : Int32)) (fun z10 => some (z10.1, z10.2)))))))
set_option maxRecDepth 100000 in
set_option maxHeartbeats 4000000 in
theorem c_X8_hung (l : Launch) (D : va_G) (ca : Nat → ClassId) (ad : Nat → Nat → Nat) (PL : List (Nat × Nat)) (Z : State → Prop) (A : Nat → Prop) (hok : okc bX Z A ad PL) (N : Nat) (w : Mem) (x1 : Int32) (x2 : Int32) (w' : Mem) (r : Int32) (hf : f_X8_hung N w x1 x2 = some (w', r)) : CT l yX8_hung (wsy yX8_hung cX8_hung 3 (some .int)) (rmk 1) D ca ad PL Z A [.ref (ad 8 0), .int x1, .int x2] w w' (some (.int r)) := by
  refine Met.ofW (cc := cX8_hung) (maxL := 3) (ret := (some .int)) (by decide +kernel) rfl ?_
  intro p e s m args below meth c s₁ B hml hv
  obtain ⟨rfl, hP, hK, hZ⟩ := hv
  have hx := B.exec
  have hb := B.bytes
  have hr := B.returns
  have hlocks := B.notSynchronized
  have hts : ∀ w ∈ ALL, w.before _ s = true := fun w hw => atoms_spec (ws := wsy yX8_hung cX8_hung 3 (some .int)) B.pre w (List.mem_cons_of_mem _ hw)
  have hown : s.vm.findClass RX8 = some m.cls := findClass_of_methodNamed B.named
  have C : CX p s m _ c cX8_hung RX8 3 D ca Z := ⟨hx, hb, hml, hown, hts, hK, hZ⟩
  have hS : va_S A s.heap s.heap [] := va_S.rf
  have hl := lv_entry ([.ref (ad 8 0), .int x1, .int x2]) (n := 3) (Nat.le_of_ble_eq_true rfl)
  rw [lg_entry_eq]
  generalize (lg_sl ([.ref (ad 8 0), .int x1, .int x2]) ++ List.replicate (3 - (lg_sl ([.ref (ad 8 0), .int x1, .int x2])).length) Slot.unset).toArray = ls at hl ⊢
  have hl : lv_has ls 3 [(0, .ref (ad 8 0)), (1, .int x1), (2, .int x2)] := hl
  show W p l e (rmk 1) s m _ below meth c s.heap [] 0 0 _ _
  unfold f_X8_hung at hf
  -- walk
  refine lv_aload_n hx hb dX8_hung_0 rfl (lv_at hl 0 rfl) ?_
  refine lv_iload_n hx hb dX8_hung_1 rfl (lv_at hl 1 rfl) ?_
  obtain ⟨z1, q2, hf⟩ := bsp hf
  refine kc_V (ci := 8) (i := 0) (As := [.int x1]) (rest := []) hok.2.2.1 C hP hS hl.1 (hok.2.1 8 0 (Nat.le_of_ble_eq_true rfl)) rfl rfl cw_X8_isTerm ml_X8_140 (c_X8_isTerm l D ca ad PL Z A hok N w x1 z1 q2) rfl ⟨rfl, rfl⟩ ⟨Nat.le_of_ble_eq_true rfl, Nat.le_of_ble_eq_true rfl⟩ ⟨Nat.zero_le _, Nat.zero_le _⟩ (Nat.le_of_ble_eq_true rfl) rfl dX8_hung_2 (fun H locs hP hS => ?_)
  refine lv_if_eq (tgt := 12) hx hb dX8_hung_5 (by decide) (fun c13 => ?_) (fun c13 => ?_)
  · have hf := ifp hf c13
    refine lv_aload_n hx hb dX8_hung_12 rfl (lv_at hl 0 rfl) ?_
    refine lv_iconst (v := (1 : Int32)) hx hb dX8_hung_13 (by decide) ?_
    obtain ⟨z3, q4, hf⟩ := bsp hf
    refine kc_V (ci := 8) (i := 0) (As := [.int (1 : Int32)]) (rest := []) hok.2.2.1 C hP hS hl.1 (hok.2.1 8 0 (Nat.le_of_ble_eq_true rfl)) rfl rfl cw_X8_refuse ml_X8_61 (c_X8_refuse l D ca ad PL Z A hok N w (1 : Int32) z3.1 z3.2 q4) rfl ⟨rfl, rfl⟩ ⟨Nat.le_of_ble_eq_true rfl, Nat.le_of_ble_eq_true rfl⟩ ⟨Nat.zero_le _, Nat.zero_le _⟩ (Nat.le_of_ble_eq_true rfl) rfl dX8_hung_14 (fun H locs hP hS => ?_)
    exact kr_i hok.2.2.1 C hlocks hr rfl hP hS (congrArg Prod.fst (Option.some.inj hf)) (congrArg Prod.snd (Option.some.inj hf)) dX8_hung_17
  · have hf := ifn hf c13
    refine lv_iload_n hx hb dX8_hung_8 rfl (lv_at hl 2 rfl) ?_
    refine lv_if_ge (tgt := 18) hx hb dX8_hung_9 (by decide) (fun c12 => ?_) (fun c12 => ?_)
    · have hf := ifp hf c12
      refine lv_aload_n hx hb dX8_hung_18 rfl (lv_at hl 0 rfl) ?_
      refine lv_aload_n hx hb dX8_hung_19 rfl (lv_at hl 0 rfl) ?_
      obtain ⟨g5, hf⟩ := gsp hf
      refine gt_8_5 (i := 0) C hP (hok.2.1 8 0 (Nat.le_of_ble_eq_true rfl)) lk_X8_43 dX8_hung_20 ?_
      refine gt_1_2 (i := (gR w 8 5 0)) C hP (hok.2.1 1 (gR w 8 5 0) g5) lk_X8_116 dX8_hung_23 ?_
      refine lv_iload_n hx hb dX8_hung_26 rfl (lv_at hl 1 rfl) ?_
      refine lv_iload_n hx hb dX8_hung_27 rfl (lv_at hl 2 rfl) ?_
      obtain ⟨z6, q7, hf⟩ := bsp hf
      refine kc_V (ci := 2) (i := (gR w 8 5 0)) (As := [.int x1, .int x2]) (rest := [.ref (ad 8 0)]) hok.2.2.1 C hP hS hl.1 (hok.2.1 2 (gR w 8 5 0) g5) rfl rfl cw_X2_hangingOn ml_X8_212 (c_X2_hangingOn l D ca ad PL Z A hok N w (gR w 8 5 0) g5 x1 x2 z6 q7) rfl ⟨rfl, rfl⟩ ⟨Nat.le_of_ble_eq_true rfl, Nat.le_of_ble_eq_true rfl⟩ ⟨Nat.zero_le _, Nat.zero_le _⟩ (Nat.le_of_ble_eq_true rfl) rfl dX8_hung_28 (fun H locs hP hS => ?_)
      obtain ⟨z8, q9, hf⟩ := bsp hf
      refine kc_V (ci := 8) (i := 0) (As := [.int z6]) (rest := []) hok.2.2.1 C hP hS hl.1 (hok.2.1 8 0 (Nat.le_of_ble_eq_true rfl)) rfl rfl cw_X8_answer ml_X8_96 (c_X8_answer l D ca ad PL Z A hok N w z6 z8.1 z8.2 q9) rfl ⟨rfl, rfl⟩ ⟨Nat.le_of_ble_eq_true rfl, Nat.le_of_ble_eq_true rfl⟩ ⟨Nat.zero_le _, Nat.zero_le _⟩ (Nat.le_of_ble_eq_true rfl) rfl dX8_hung_31 (fun H locs hP hS => ?_)
      exact kr_i hok.2.2.1 C hlocks hr rfl hP hS (congrArg Prod.fst (Option.some.inj hf)) (congrArg Prod.snd (Option.some.inj hf)) dX8_hung_34
    · have hf := ifn hf c12
      refine lv_aload_n hx hb dX8_hung_12 rfl (lv_at hl 0 rfl) ?_
      refine lv_iconst (v := (1 : Int32)) hx hb dX8_hung_13 (by decide) ?_
      obtain ⟨z10, q11, hf⟩ := bsp hf
      refine kc_V (ci := 8) (i := 0) (As := [.int (1 : Int32)]) (rest := []) hok.2.2.1 C hP hS hl.1 (hok.2.1 8 0 (Nat.le_of_ble_eq_true rfl)) rfl rfl cw_X8_refuse ml_X8_61 (c_X8_refuse l D ca ad PL Z A hok N w (1 : Int32) z10.1 z10.2 q11) rfl ⟨rfl, rfl⟩ ⟨Nat.le_of_ble_eq_true rfl, Nat.le_of_ble_eq_true rfl⟩ ⟨Nat.zero_le _, Nat.zero_le _⟩ (Nat.le_of_ble_eq_true rfl) rfl dX8_hung_14 (fun H locs hP hS => ?_)
      exact kr_i hok.2.2.1 C hlocks hr rfl hP hS (congrArg Prod.fst (Option.some.inj hf)) (congrArg Prod.snd (Option.some.inj hf)) dX8_hung_17
def f_X8_equal (N : Nat) (w : Mem) (x1 : Int32) (x2 : Int32) : Option (Mem × Int32) :=
  (Option.bind (f_X8_isTerm N w x1) (fun z1 => (if z1 = (0 : Int32) then
(Option.bind (f_X8_refuse N w (1 : Int32)) (fun z3 => some (z3.1, z3.2)))
else
(Option.bind (f_X8_isTerm N w x2) (fun z5 => (if z5 = (0 : Int32) then
(Option.bind (f_X8_refuse N w (1 : Int32)) (fun z14 => some (z14.1, z14.2)))
else
(if (gR w 8 5 0) < 2 then (Option.bind (f_X3_one N w (2 + (gR w 8 5 0)) x1 x2) (fun z8 => (Option.bind (f_X8_bit N w z8) (fun z10 => (Option.bind (f_X8_answer N w z10) (fun z12 => some (z12.1, z12.2))))))) else none)))))))
set_option maxRecDepth 100000 in
set_option maxHeartbeats 4000000 in
theorem c_X8_equal (l : Launch) (D : va_G) (ca : Nat → ClassId) (ad : Nat → Nat → Nat) (PL : List (Nat × Nat)) (Z : State → Prop) (A : Nat → Prop) (hok : okc bX Z A ad PL) (N : Nat) (w : Mem) (x1 : Int32) (x2 : Int32) (w' : Mem) (r : Int32) (hf : f_X8_equal N w x1 x2 = some (w', r)) : CT l yX8_equal (wsy yX8_equal cX8_equal 3 (some .int)) (rmk 1) D ca ad PL Z A [.ref (ad 8 0), .int x1, .int x2] w w' (some (.int r)) := by
  refine Met.ofW (cc := cX8_equal) (maxL := 3) (ret := (some .int)) (by decide +kernel) rfl ?_
  intro p e s m args below meth c s₁ B hml hv
  obtain ⟨rfl, hP, hK, hZ⟩ := hv
  have hx := B.exec
  have hb := B.bytes
  have hr := B.returns
  have hlocks := B.notSynchronized
  have hts : ∀ w ∈ ALL, w.before _ s = true := fun w hw => atoms_spec (ws := wsy yX8_equal cX8_equal 3 (some .int)) B.pre w (List.mem_cons_of_mem _ hw)
  have hown : s.vm.findClass RX8 = some m.cls := findClass_of_methodNamed B.named
  have C : CX p s m _ c cX8_equal RX8 3 D ca Z := ⟨hx, hb, hml, hown, hts, hK, hZ⟩
  have hS : va_S A s.heap s.heap [] := va_S.rf
  have hl := lv_entry ([.ref (ad 8 0), .int x1, .int x2]) (n := 3) (Nat.le_of_ble_eq_true rfl)
  rw [lg_entry_eq]
  generalize (lg_sl ([.ref (ad 8 0), .int x1, .int x2]) ++ List.replicate (3 - (lg_sl ([.ref (ad 8 0), .int x1, .int x2])).length) Slot.unset).toArray = ls at hl ⊢
  have hl : lv_has ls 3 [(0, .ref (ad 8 0)), (1, .int x1), (2, .int x2)] := hl
  show W p l e (rmk 1) s m _ below meth c s.heap [] 0 0 _ _
  unfold f_X8_equal at hf
  -- walk
  refine lv_aload_n hx hb dX8_equal_0 rfl (lv_at hl 0 rfl) ?_
  refine lv_iload_n hx hb dX8_equal_1 rfl (lv_at hl 1 rfl) ?_
  obtain ⟨z1, q2, hf⟩ := bsp hf
  refine kc_V (ci := 8) (i := 0) (As := [.int x1]) (rest := []) hok.2.2.1 C hP hS hl.1 (hok.2.1 8 0 (Nat.le_of_ble_eq_true rfl)) rfl rfl cw_X8_isTerm ml_X8_140 (c_X8_isTerm l D ca ad PL Z A hok N w x1 z1 q2) rfl ⟨rfl, rfl⟩ ⟨Nat.le_of_ble_eq_true rfl, Nat.le_of_ble_eq_true rfl⟩ ⟨Nat.zero_le _, Nat.zero_le _⟩ (Nat.le_of_ble_eq_true rfl) rfl dX8_equal_2 (fun H locs hP hS => ?_)
  refine lv_if_eq (tgt := 16) hx hb dX8_equal_5 (by decide) (fun c17 => ?_) (fun c17 => ?_)
  · have hf := ifp hf c17
    refine lv_aload_n hx hb dX8_equal_16 rfl (lv_at hl 0 rfl) ?_
    refine lv_iconst (v := (1 : Int32)) hx hb dX8_equal_17 (by decide) ?_
    obtain ⟨z3, q4, hf⟩ := bsp hf
    refine kc_V (ci := 8) (i := 0) (As := [.int (1 : Int32)]) (rest := []) hok.2.2.1 C hP hS hl.1 (hok.2.1 8 0 (Nat.le_of_ble_eq_true rfl)) rfl rfl cw_X8_refuse ml_X8_61 (c_X8_refuse l D ca ad PL Z A hok N w (1 : Int32) z3.1 z3.2 q4) rfl ⟨rfl, rfl⟩ ⟨Nat.le_of_ble_eq_true rfl, Nat.le_of_ble_eq_true rfl⟩ ⟨Nat.zero_le _, Nat.zero_le _⟩ (Nat.le_of_ble_eq_true rfl) rfl dX8_equal_18 (fun H locs hP hS => ?_)
    exact kr_i hok.2.2.1 C hlocks hr rfl hP hS (congrArg Prod.fst (Option.some.inj hf)) (congrArg Prod.snd (Option.some.inj hf)) dX8_equal_21
  · have hf := ifn hf c17
    refine lv_aload_n hx hb dX8_equal_8 rfl (lv_at hl 0 rfl) ?_
    refine lv_iload_n hx hb dX8_equal_9 rfl (lv_at hl 2 rfl) ?_
    obtain ⟨z5, q6, hf⟩ := bsp hf
    refine kc_V (ci := 8) (i := 0) (As := [.int x2]) (rest := []) hok.2.2.1 C hP hS hl.1 (hok.2.1 8 0 (Nat.le_of_ble_eq_true rfl)) rfl rfl cw_X8_isTerm ml_X8_140 (c_X8_isTerm l D ca ad PL Z A hok N w x2 z5 q6) rfl ⟨rfl, rfl⟩ ⟨Nat.le_of_ble_eq_true rfl, Nat.le_of_ble_eq_true rfl⟩ ⟨Nat.zero_le _, Nat.zero_le _⟩ (Nat.le_of_ble_eq_true rfl) rfl dX8_equal_10 (fun H locs hP hS => ?_)
    refine lv_if_ne (tgt := 22) hx hb dX8_equal_13 (by decide) (fun c16 => ?_) (fun c16 => ?_)
    · have hf := ifn hf c16
      refine lv_aload_n hx hb dX8_equal_22 rfl (lv_at hl 0 rfl) ?_
      refine lv_aload_n hx hb dX8_equal_23 rfl (lv_at hl 0 rfl) ?_
      refine lv_aload_n hx hb dX8_equal_24 rfl (lv_at hl 0 rfl) ?_
      obtain ⟨g7, hf⟩ := gsp hf
      refine gt_8_5 (i := 0) C hP (hok.2.1 8 0 (Nat.le_of_ble_eq_true rfl)) lk_X8_43 dX8_equal_25 ?_
      refine gt_1_1 (i := (gR w 8 5 0)) C hP (hok.2.1 1 (gR w 8 5 0) g7) lk_X8_108 dX8_equal_28 ?_
      refine lv_iload_n hx hb dX8_equal_31 rfl (lv_at hl 1 rfl) ?_
      refine lv_iload_n hx hb dX8_equal_32 rfl (lv_at hl 2 rfl) ?_
      obtain ⟨z8, q9, hf⟩ := bsp hf
      refine kc_V (ci := 3) (i := (2 + (gR w 8 5 0))) (As := [.int x1, .int x2]) (rest := [.ref (ad 8 0), .ref (ad 8 0)]) hok.2.2.1 C hP hS hl.1 (hok.2.1 3 (2 + (gR w 8 5 0)) (Nat.lt_of_lt_of_le (Nat.add_lt_add_left g7 2) (Nat.le_of_ble_eq_true rfl))) rfl rfl cw_X3_one ml_X8_215 (c_X3_one l D ca ad PL Z A hok N w (2 + (gR w 8 5 0)) (Nat.lt_of_lt_of_le (Nat.add_lt_add_left g7 2) (Nat.le_of_ble_eq_true rfl)) x1 x2 z8 q9) rfl ⟨rfl, rfl⟩ ⟨Nat.le_of_ble_eq_true rfl, Nat.le_of_ble_eq_true rfl⟩ ⟨Nat.zero_le _, Nat.zero_le _⟩ (Nat.le_of_ble_eq_true rfl) rfl dX8_equal_33 (fun H locs hP hS => ?_)
      obtain ⟨z10, q11, hf⟩ := bsp hf
      refine kc_V (ci := 8) (i := 0) (As := [.int z8]) (rest := [.ref (ad 8 0)]) hok.2.2.1 C hP hS hl.1 (hok.2.1 8 0 (Nat.le_of_ble_eq_true rfl)) rfl rfl cw_X8_bit ml_X8_186 (c_X8_bit l D ca ad PL Z A hok N w z8 z10 q11) rfl ⟨rfl, rfl⟩ ⟨Nat.le_of_ble_eq_true rfl, Nat.le_of_ble_eq_true rfl⟩ ⟨Nat.zero_le _, Nat.zero_le _⟩ (Nat.le_of_ble_eq_true rfl) rfl dX8_equal_36 (fun H locs hP hS => ?_)
      obtain ⟨z12, q13, hf⟩ := bsp hf
      refine kc_V (ci := 8) (i := 0) (As := [.int z10]) (rest := []) hok.2.2.1 C hP hS hl.1 (hok.2.1 8 0 (Nat.le_of_ble_eq_true rfl)) rfl rfl cw_X8_answer ml_X8_96 (c_X8_answer l D ca ad PL Z A hok N w z10 z12.1 z12.2 q13) rfl ⟨rfl, rfl⟩ ⟨Nat.le_of_ble_eq_true rfl, Nat.le_of_ble_eq_true rfl⟩ ⟨Nat.zero_le _, Nat.zero_le _⟩ (Nat.le_of_ble_eq_true rfl) rfl dX8_equal_39 (fun H locs hP hS => ?_)
      exact kr_i hok.2.2.1 C hlocks hr rfl hP hS (congrArg Prod.fst (Option.some.inj hf)) (congrArg Prod.snd (Option.some.inj hf)) dX8_equal_42
    · have hf := ifp hf c16
      refine lv_aload_n hx hb dX8_equal_16 rfl (lv_at hl 0 rfl) ?_
      refine lv_iconst (v := (1 : Int32)) hx hb dX8_equal_17 (by decide) ?_
      obtain ⟨z14, q15, hf⟩ := bsp hf
      refine kc_V (ci := 8) (i := 0) (As := [.int (1 : Int32)]) (rest := []) hok.2.2.1 C hP hS hl.1 (hok.2.1 8 0 (Nat.le_of_ble_eq_true rfl)) rfl rfl cw_X8_refuse ml_X8_61 (c_X8_refuse l D ca ad PL Z A hok N w (1 : Int32) z14.1 z14.2 q15) rfl ⟨rfl, rfl⟩ ⟨Nat.le_of_ble_eq_true rfl, Nat.le_of_ble_eq_true rfl⟩ ⟨Nat.zero_le _, Nat.zero_le _⟩ (Nat.le_of_ble_eq_true rfl) rfl dX8_equal_18 (fun H locs hP hS => ?_)
      exact kr_i hok.2.2.1 C hlocks hr rfl hP hS (congrArg Prod.fst (Option.some.inj hf)) (congrArg Prod.snd (Option.some.inj hf)) dX8_equal_21
def f_X8_proves (N : Nat) (w : Mem) (x1 : Int32) (x2 : Int32) (x3 : Int32) : Option (Mem × Int32) :=
  (Option.bind (f_X8_isTerm N w x2) (fun z1 => (if z1 = (0 : Int32) then
(Option.bind (f_X8_refuse N w (1 : Int32)) (fun z3 => some (z3.1, z3.2)))
else
(Option.bind (f_X8_isTerm N w x3) (fun z5 => (if z5 = (0 : Int32) then
(Option.bind (f_X8_refuse N w (1 : Int32)) (fun z22 => some (z22.1, z22.2)))
else
(if x1 < (0 : Int32) then
(Option.bind (f_X8_refuse N w (2 : Int32)) (fun z7 => some (z7.1, z7.2)))
else
(if (gR w 8 5 0) < 2 then (Option.bind (f_X1_allSames N w (gR w 8 5 0)) (fun z10 => (if x1 ≤ z10 then
(Option.bind (f_X8_isOneBy N w x1 x2 x3) (fun z12 => (Option.bind (f_X8_bit N z12.1 z12.2) (fun z14 => (Option.bind (f_X8_answer N z12.1 z14) (fun z16 => some (z16.1, z16.2)))))))
else
(Option.bind (f_X8_refuse N w (2 : Int32)) (fun z18 => some (z18.1, z18.2)))))) else none))))))))
set_option maxRecDepth 100000 in
set_option maxHeartbeats 4000000 in
theorem c_X8_proves (l : Launch) (D : va_G) (ca : Nat → ClassId) (ad : Nat → Nat → Nat) (PL : List (Nat × Nat)) (Z : State → Prop) (A : Nat → Prop) (hok : okc bX Z A ad PL) (N : Nat) (w : Mem) (x1 : Int32) (x2 : Int32) (x3 : Int32) (w' : Mem) (r : Int32) (hf : f_X8_proves N w x1 x2 x3 = some (w', r)) : CT l yX8_proves (wsy yX8_proves cX8_proves 4 (some .int)) (rmk 6) D ca ad PL Z A [.ref (ad 8 0), .int x1, .int x2, .int x3] w w' (some (.int r)) := by
  refine Met.ofW (cc := cX8_proves) (maxL := 4) (ret := (some .int)) (by decide +kernel) rfl ?_
  intro p e s m args below meth c s₁ B hml hv
  obtain ⟨rfl, hP, hK, hZ⟩ := hv
  have hx := B.exec
  have hb := B.bytes
  have hr := B.returns
  have hlocks := B.notSynchronized
  have hts : ∀ w ∈ ALL, w.before _ s = true := fun w hw => atoms_spec (ws := wsy yX8_proves cX8_proves 4 (some .int)) B.pre w (List.mem_cons_of_mem _ hw)
  have hown : s.vm.findClass RX8 = some m.cls := findClass_of_methodNamed B.named
  have C : CX p s m _ c cX8_proves RX8 4 D ca Z := ⟨hx, hb, hml, hown, hts, hK, hZ⟩
  have hS : va_S A s.heap s.heap [] := va_S.rf
  have hl := lv_entry ([.ref (ad 8 0), .int x1, .int x2, .int x3]) (n := 4) (Nat.le_of_ble_eq_true rfl)
  rw [lg_entry_eq]
  generalize (lg_sl ([.ref (ad 8 0), .int x1, .int x2, .int x3]) ++ List.replicate (4 - (lg_sl ([.ref (ad 8 0), .int x1, .int x2, .int x3])).length) Slot.unset).toArray = ls at hl ⊢
  have hl : lv_has ls 4 [(0, .ref (ad 8 0)), (1, .int x1), (2, .int x2), (3, .int x3)] := hl
  show W p l e (rmk 6) s m _ below meth c s.heap [] 0 0 _ _
  unfold f_X8_proves at hf
  -- walk
  refine lv_aload_n hx hb dX8_proves_0 rfl (lv_at hl 0 rfl) ?_
  refine lv_iload_n hx hb dX8_proves_1 rfl (lv_at hl 2 rfl) ?_
  obtain ⟨z1, q2, hf⟩ := bsp hf
  refine kc_V (ci := 8) (i := 0) (As := [.int x2]) (rest := []) hok.2.2.1 C hP hS hl.1 (hok.2.1 8 0 (Nat.le_of_ble_eq_true rfl)) rfl rfl cw_X8_isTerm ml_X8_140 (c_X8_isTerm l D ca ad PL Z A hok N w x2 z1 q2) rfl ⟨rfl, rfl⟩ ⟨Nat.le_of_ble_eq_true rfl, Nat.le_of_ble_eq_true rfl⟩ ⟨Nat.zero_le _, Nat.zero_le _⟩ (Nat.le_of_ble_eq_true rfl) rfl dX8_proves_2 (fun H locs hP hS => ?_)
  refine lv_if_eq (tgt := 16) hx hb dX8_proves_5 (by decide) (fun c25 => ?_) (fun c25 => ?_)
  · have hf := ifp hf c25
    refine lv_aload_n hx hb dX8_proves_16 rfl (lv_at hl 0 rfl) ?_
    refine lv_iconst (v := (1 : Int32)) hx hb dX8_proves_17 (by decide) ?_
    obtain ⟨z3, q4, hf⟩ := bsp hf
    refine kc_V (ci := 8) (i := 0) (As := [.int (1 : Int32)]) (rest := []) hok.2.2.1 C hP hS hl.1 (hok.2.1 8 0 (Nat.le_of_ble_eq_true rfl)) rfl rfl cw_X8_refuse ml_X8_61 (c_X8_refuse l D ca ad PL Z A hok N w (1 : Int32) z3.1 z3.2 q4) rfl ⟨rfl, rfl⟩ ⟨Nat.le_of_ble_eq_true rfl, Nat.le_of_ble_eq_true rfl⟩ ⟨Nat.zero_le _, Nat.zero_le _⟩ (Nat.le_of_ble_eq_true rfl) rfl dX8_proves_18 (fun H locs hP hS => ?_)
    exact kr_i hok.2.2.1 C hlocks hr rfl hP hS (congrArg Prod.fst (Option.some.inj hf)) (congrArg Prod.snd (Option.some.inj hf)) dX8_proves_21
  · have hf := ifn hf c25
    refine lv_aload_n hx hb dX8_proves_8 rfl (lv_at hl 0 rfl) ?_
    refine lv_iload_n hx hb dX8_proves_9 rfl (lv_at hl 3 rfl) ?_
    obtain ⟨z5, q6, hf⟩ := bsp hf
    refine kc_V (ci := 8) (i := 0) (As := [.int x3]) (rest := []) hok.2.2.1 C hP hS hl.1 (hok.2.1 8 0 (Nat.le_of_ble_eq_true rfl)) rfl rfl cw_X8_isTerm ml_X8_140 (c_X8_isTerm l D ca ad PL Z A hok N w x3 z5 q6) rfl ⟨rfl, rfl⟩ ⟨Nat.le_of_ble_eq_true rfl, Nat.le_of_ble_eq_true rfl⟩ ⟨Nat.zero_le _, Nat.zero_le _⟩ (Nat.le_of_ble_eq_true rfl) rfl dX8_proves_10 (fun H locs hP hS => ?_)
    refine lv_if_ne (tgt := 22) hx hb dX8_proves_13 (by decide) (fun c24 => ?_) (fun c24 => ?_)
    · have hf := ifn hf c24
      refine lv_iload_n hx hb dX8_proves_22 rfl (lv_at hl 1 rfl) ?_
      refine lv_if_lt (tgt := 37) hx hb dX8_proves_23 (by decide) (fun c21 => ?_) (fun c21 => ?_)
      · have hf := ifp hf c21
        refine lv_aload_n hx hb dX8_proves_37 rfl (lv_at hl 0 rfl) ?_
        refine lv_iconst (v := (2 : Int32)) hx hb dX8_proves_38 (by decide) ?_
        obtain ⟨z7, q8, hf⟩ := bsp hf
        refine kc_V (ci := 8) (i := 0) (As := [.int (2 : Int32)]) (rest := []) hok.2.2.1 C hP hS hl.1 (hok.2.1 8 0 (Nat.le_of_ble_eq_true rfl)) rfl rfl cw_X8_refuse ml_X8_61 (c_X8_refuse l D ca ad PL Z A hok N w (2 : Int32) z7.1 z7.2 q8) rfl ⟨rfl, rfl⟩ ⟨Nat.le_of_ble_eq_true rfl, Nat.le_of_ble_eq_true rfl⟩ ⟨Nat.zero_le _, Nat.zero_le _⟩ (Nat.le_of_ble_eq_true rfl) rfl dX8_proves_39 (fun H locs hP hS => ?_)
        exact kr_i hok.2.2.1 C hlocks hr rfl hP hS (congrArg Prod.fst (Option.some.inj hf)) (congrArg Prod.snd (Option.some.inj hf)) dX8_proves_42
      · have hf := ifn hf c21
        refine lv_iload_n hx hb dX8_proves_26 rfl (lv_at hl 1 rfl) ?_
        refine lv_aload_n hx hb dX8_proves_27 rfl (lv_at hl 0 rfl) ?_
        obtain ⟨g9, hf⟩ := gsp hf
        refine gt_8_5 (i := 0) C hP (hok.2.1 8 0 (Nat.le_of_ble_eq_true rfl)) lk_X8_43 dX8_proves_28 ?_
        obtain ⟨z10, q11, hf⟩ := bsp hf
        refine kc_V (ci := 1) (i := (gR w 8 5 0)) (As := []) (rest := [.int x1]) hok.2.2.1 C hP hS hl.1 (hok.2.1 1 (gR w 8 5 0) g9) rfl rfl cw_X1_allSames ml_X8_178 (c_X1_allSames l D ca ad PL Z A hok N w (gR w 8 5 0) g9 z10 q11) rfl ⟨rfl, rfl⟩ ⟨Nat.le_of_ble_eq_true rfl, Nat.le_of_ble_eq_true rfl⟩ ⟨Nat.zero_le _, Nat.zero_le _⟩ (Nat.le_of_ble_eq_true rfl) rfl dX8_proves_31 (fun H locs hP hS => ?_)
        refine lv_icmp_le (tgt := 43) hx hb dX8_proves_34 (by decide) (fun c20 => ?_) (fun c20 => ?_)
        · have hf := ifp hf c20
          refine lv_aload_n hx hb dX8_proves_43 rfl (lv_at hl 0 rfl) ?_
          refine lv_aload_n hx hb dX8_proves_44 rfl (lv_at hl 0 rfl) ?_
          refine lv_aload_n hx hb dX8_proves_45 rfl (lv_at hl 0 rfl) ?_
          refine lv_iload_n hx hb dX8_proves_46 rfl (lv_at hl 1 rfl) ?_
          refine lv_iload_n hx hb dX8_proves_47 rfl (lv_at hl 2 rfl) ?_
          refine lv_iload_n hx hb dX8_proves_48 rfl (lv_at hl 3 rfl) ?_
          obtain ⟨z12, q13, hf⟩ := bsp hf
          refine kc_V (ci := 8) (i := 0) (As := [.int x1, .int x2, .int x3]) (rest := [.ref (ad 8 0), .ref (ad 8 0)]) hok.2.2.1 C hP hS hl.1 (hok.2.1 8 0 (Nat.le_of_ble_eq_true rfl)) rfl rfl cw_X8_isOneBy ml_X8_182 (c_X8_isOneBy l D ca ad PL Z A hok N w x1 x2 x3 z12.1 z12.2 q13) rfl ⟨rfl, rfl⟩ ⟨Nat.le_of_ble_eq_true rfl, Nat.le_of_ble_eq_true rfl⟩ ⟨Nat.zero_le _, Nat.zero_le _⟩ (Nat.le_of_ble_eq_true rfl) rfl dX8_proves_49 (fun H locs hP hS => ?_)
          obtain ⟨z14, q15, hf⟩ := bsp hf
          refine kc_V (ci := 8) (i := 0) (As := [.int z12.2]) (rest := [.ref (ad 8 0)]) hok.2.2.1 C hP hS hl.1 (hok.2.1 8 0 (Nat.le_of_ble_eq_true rfl)) rfl rfl cw_X8_bit ml_X8_186 (c_X8_bit l D ca ad PL Z A hok N z12.1 z12.2 z14 q15) rfl ⟨rfl, rfl⟩ ⟨Nat.le_of_ble_eq_true rfl, Nat.le_of_ble_eq_true rfl⟩ ⟨Nat.zero_le _, Nat.zero_le _⟩ (Nat.le_of_ble_eq_true rfl) rfl dX8_proves_52 (fun H locs hP hS => ?_)
          obtain ⟨z16, q17, hf⟩ := bsp hf
          refine kc_V (ci := 8) (i := 0) (As := [.int z14]) (rest := []) hok.2.2.1 C hP hS hl.1 (hok.2.1 8 0 (Nat.le_of_ble_eq_true rfl)) rfl rfl cw_X8_answer ml_X8_96 (c_X8_answer l D ca ad PL Z A hok N z12.1 z14 z16.1 z16.2 q17) rfl ⟨rfl, rfl⟩ ⟨Nat.le_of_ble_eq_true rfl, Nat.le_of_ble_eq_true rfl⟩ ⟨Nat.zero_le _, Nat.zero_le _⟩ (Nat.le_of_ble_eq_true rfl) rfl dX8_proves_55 (fun H locs hP hS => ?_)
          exact kr_i hok.2.2.1 C hlocks hr rfl hP hS (congrArg Prod.fst (Option.some.inj hf)) (congrArg Prod.snd (Option.some.inj hf)) dX8_proves_58
        · have hf := ifn hf c20
          refine lv_aload_n hx hb dX8_proves_37 rfl (lv_at hl 0 rfl) ?_
          refine lv_iconst (v := (2 : Int32)) hx hb dX8_proves_38 (by decide) ?_
          obtain ⟨z18, q19, hf⟩ := bsp hf
          refine kc_V (ci := 8) (i := 0) (As := [.int (2 : Int32)]) (rest := []) hok.2.2.1 C hP hS hl.1 (hok.2.1 8 0 (Nat.le_of_ble_eq_true rfl)) rfl rfl cw_X8_refuse ml_X8_61 (c_X8_refuse l D ca ad PL Z A hok N w (2 : Int32) z18.1 z18.2 q19) rfl ⟨rfl, rfl⟩ ⟨Nat.le_of_ble_eq_true rfl, Nat.le_of_ble_eq_true rfl⟩ ⟨Nat.zero_le _, Nat.zero_le _⟩ (Nat.le_of_ble_eq_true rfl) rfl dX8_proves_39 (fun H locs hP hS => ?_)
          exact kr_i hok.2.2.1 C hlocks hr rfl hP hS (congrArg Prod.fst (Option.some.inj hf)) (congrArg Prod.snd (Option.some.inj hf)) dX8_proves_42
    · have hf := ifp hf c24
      refine lv_aload_n hx hb dX8_proves_16 rfl (lv_at hl 0 rfl) ?_
      refine lv_iconst (v := (1 : Int32)) hx hb dX8_proves_17 (by decide) ?_
      obtain ⟨z22, q23, hf⟩ := bsp hf
      refine kc_V (ci := 8) (i := 0) (As := [.int (1 : Int32)]) (rest := []) hok.2.2.1 C hP hS hl.1 (hok.2.1 8 0 (Nat.le_of_ble_eq_true rfl)) rfl rfl cw_X8_refuse ml_X8_61 (c_X8_refuse l D ca ad PL Z A hok N w (1 : Int32) z22.1 z22.2 q23) rfl ⟨rfl, rfl⟩ ⟨Nat.le_of_ble_eq_true rfl, Nat.le_of_ble_eq_true rfl⟩ ⟨Nat.zero_le _, Nat.zero_le _⟩ (Nat.le_of_ble_eq_true rfl) rfl dX8_proves_18 (fun H locs hP hS => ?_)
      exact kr_i hok.2.2.1 C hlocks hr rfl hP hS (congrArg Prod.fst (Option.some.inj hf)) (congrArg Prod.snd (Option.some.inj hf)) dX8_proves_21
def f_X8_would (N : Nat) (w : Mem) (x1 : Int32) (x2 : Int32) (x3 : Int32) : Option (Mem × Int32) :=
  (Option.bind (f_X8_isTerm N w x1) (fun z1 => (if z1 = (0 : Int32) then
(Option.bind (f_X8_refuse N w (1 : Int32)) (fun z3 => some (z3.1, z3.2)))
else
(Option.bind (f_X8_isTerm N w x2) (fun z5 => (if z5 = (0 : Int32) then
(Option.bind (f_X8_refuse N w (1 : Int32)) (fun z7 => some (z7.1, z7.2)))
else
(if x3 < (0 : Int32) then
(Option.bind (f_X8_refuse N w (1 : Int32)) (fun z9 => some (z9.1, z9.2)))
else
(if x3 ≤ (2 : Int32) then
(if (gR w 8 5 0) < 2 then (Option.bind (f_X3_copyFrom N w 0 (2 + (gR w 8 5 0))) (fun z12 => (if (gR z12 8 5 0) < 2 then (Option.bind (f_X1_supposeSame N z12 (gR z12 8 5 0) x1 x2 0) (fun z15 => (if x3 = (0 : Int32) then
(Option.bind (f_X8_answer N z15 (gF z15 3 2 0)) (fun z26 => some (z26.1, z26.2)))
else
(if x3 = (1 : Int32) then
(if (gR z15 8 5 0) < 2 then (Option.bind (f_X1_firstClash N z15 (gR z15 8 5 0) 0) (fun z21 => (Option.bind (f_X8_answer N z15 z21) (fun z23 => some (z23.1, z23.2))))) else none)
else
(if (gR z15 8 5 0) < 2 then (Option.bind (f_X8_answer N z15 ((gF z15 3 2 (2 + (gR z15 8 5 0))) - (gF z15 3 2 0))) (fun z18 => some (z18.1, z18.2))) else none))))) else none))) else none)
else
(Option.bind (f_X8_refuse N w (1 : Int32)) (fun z29 => some (z29.1, z29.2)))))))))))
set_option maxRecDepth 100000 in
set_option maxHeartbeats 4000000 in
theorem c_X8_would (l : Launch) (D : va_G) (ca : Nat → ClassId) (ad : Nat → Nat → Nat) (PL : List (Nat × Nat)) (Z : State → Prop) (A : Nat → Prop) (hok : okc bX Z A ad PL) (N : Nat) (w : Mem) (x1 : Int32) (x2 : Int32) (x3 : Int32) (w' : Mem) (r : Int32) (hf : f_X8_would N w x1 x2 x3 = some (w', r)) : CT l yX8_would (wsy yX8_would cX8_would 4 (some .int)) (rmk 5) D ca ad PL Z A [.ref (ad 8 0), .int x1, .int x2, .int x3] w w' (some (.int r)) := by
  refine Met.ofW (cc := cX8_would) (maxL := 4) (ret := (some .int)) (by decide +kernel) rfl ?_
  intro p e s m args below meth c s₁ B hml hv
  obtain ⟨rfl, hP, hK, hZ⟩ := hv
  have hx := B.exec
  have hb := B.bytes
  have hr := B.returns
  have hlocks := B.notSynchronized
  have hts : ∀ w ∈ ALL, w.before _ s = true := fun w hw => atoms_spec (ws := wsy yX8_would cX8_would 4 (some .int)) B.pre w (List.mem_cons_of_mem _ hw)
  have hown : s.vm.findClass RX8 = some m.cls := findClass_of_methodNamed B.named
  have C : CX p s m _ c cX8_would RX8 4 D ca Z := ⟨hx, hb, hml, hown, hts, hK, hZ⟩
  have hS : va_S A s.heap s.heap [] := va_S.rf
  have hl := lv_entry ([.ref (ad 8 0), .int x1, .int x2, .int x3]) (n := 4) (Nat.le_of_ble_eq_true rfl)
  rw [lg_entry_eq]
  generalize (lg_sl ([.ref (ad 8 0), .int x1, .int x2, .int x3]) ++ List.replicate (4 - (lg_sl ([.ref (ad 8 0), .int x1, .int x2, .int x3])).length) Slot.unset).toArray = ls at hl ⊢
  have hl : lv_has ls 4 [(0, .ref (ad 8 0)), (1, .int x1), (2, .int x2), (3, .int x3)] := hl
  show W p l e (rmk 5) s m _ below meth c s.heap [] 0 0 _ _
  unfold f_X8_would at hf
  -- walk
  refine lv_aload_n hx hb dX8_would_0 rfl (lv_at hl 0 rfl) ?_
  refine lv_iload_n hx hb dX8_would_1 rfl (lv_at hl 1 rfl) ?_
  obtain ⟨z1, q2, hf⟩ := bsp hf
  refine kc_V (ci := 8) (i := 0) (As := [.int x1]) (rest := []) hok.2.2.1 C hP hS hl.1 (hok.2.1 8 0 (Nat.le_of_ble_eq_true rfl)) rfl rfl cw_X8_isTerm ml_X8_140 (c_X8_isTerm l D ca ad PL Z A hok N w x1 z1 q2) rfl ⟨rfl, rfl⟩ ⟨Nat.le_of_ble_eq_true rfl, Nat.le_of_ble_eq_true rfl⟩ ⟨Nat.zero_le _, Nat.zero_le _⟩ (Nat.le_of_ble_eq_true rfl) rfl dX8_would_2 (fun H locs hP hS => ?_)
  refine lv_if_eq (tgt := 25) hx hb dX8_would_5 (by decide) (fun c34 => ?_) (fun c34 => ?_)
  · have hf := ifp hf c34
    refine lv_aload_n hx hb dX8_would_25 rfl (lv_at hl 0 rfl) ?_
    refine lv_iconst (v := (1 : Int32)) hx hb dX8_would_26 (by decide) ?_
    obtain ⟨z3, q4, hf⟩ := bsp hf
    refine kc_V (ci := 8) (i := 0) (As := [.int (1 : Int32)]) (rest := []) hok.2.2.1 C hP hS hl.1 (hok.2.1 8 0 (Nat.le_of_ble_eq_true rfl)) rfl rfl cw_X8_refuse ml_X8_61 (c_X8_refuse l D ca ad PL Z A hok N w (1 : Int32) z3.1 z3.2 q4) rfl ⟨rfl, rfl⟩ ⟨Nat.le_of_ble_eq_true rfl, Nat.le_of_ble_eq_true rfl⟩ ⟨Nat.zero_le _, Nat.zero_le _⟩ (Nat.le_of_ble_eq_true rfl) rfl dX8_would_27 (fun H locs hP hS => ?_)
    exact kr_i hok.2.2.1 C hlocks hr rfl hP hS (congrArg Prod.fst (Option.some.inj hf)) (congrArg Prod.snd (Option.some.inj hf)) dX8_would_30
  · have hf := ifn hf c34
    refine lv_aload_n hx hb dX8_would_8 rfl (lv_at hl 0 rfl) ?_
    refine lv_iload_n hx hb dX8_would_9 rfl (lv_at hl 2 rfl) ?_
    obtain ⟨z5, q6, hf⟩ := bsp hf
    refine kc_V (ci := 8) (i := 0) (As := [.int x2]) (rest := []) hok.2.2.1 C hP hS hl.1 (hok.2.1 8 0 (Nat.le_of_ble_eq_true rfl)) rfl rfl cw_X8_isTerm ml_X8_140 (c_X8_isTerm l D ca ad PL Z A hok N w x2 z5 q6) rfl ⟨rfl, rfl⟩ ⟨Nat.le_of_ble_eq_true rfl, Nat.le_of_ble_eq_true rfl⟩ ⟨Nat.zero_le _, Nat.zero_le _⟩ (Nat.le_of_ble_eq_true rfl) rfl dX8_would_10 (fun H locs hP hS => ?_)
    refine lv_if_eq (tgt := 25) hx hb dX8_would_13 (by decide) (fun c33 => ?_) (fun c33 => ?_)
    · have hf := ifp hf c33
      refine lv_aload_n hx hb dX8_would_25 rfl (lv_at hl 0 rfl) ?_
      refine lv_iconst (v := (1 : Int32)) hx hb dX8_would_26 (by decide) ?_
      obtain ⟨z7, q8, hf⟩ := bsp hf
      refine kc_V (ci := 8) (i := 0) (As := [.int (1 : Int32)]) (rest := []) hok.2.2.1 C hP hS hl.1 (hok.2.1 8 0 (Nat.le_of_ble_eq_true rfl)) rfl rfl cw_X8_refuse ml_X8_61 (c_X8_refuse l D ca ad PL Z A hok N w (1 : Int32) z7.1 z7.2 q8) rfl ⟨rfl, rfl⟩ ⟨Nat.le_of_ble_eq_true rfl, Nat.le_of_ble_eq_true rfl⟩ ⟨Nat.zero_le _, Nat.zero_le _⟩ (Nat.le_of_ble_eq_true rfl) rfl dX8_would_27 (fun H locs hP hS => ?_)
      exact kr_i hok.2.2.1 C hlocks hr rfl hP hS (congrArg Prod.fst (Option.some.inj hf)) (congrArg Prod.snd (Option.some.inj hf)) dX8_would_30
    · have hf := ifn hf c33
      refine lv_iload_n hx hb dX8_would_16 rfl (lv_at hl 3 rfl) ?_
      refine lv_if_lt (tgt := 25) hx hb dX8_would_17 (by decide) (fun c32 => ?_) (fun c32 => ?_)
      · have hf := ifp hf c32
        refine lv_aload_n hx hb dX8_would_25 rfl (lv_at hl 0 rfl) ?_
        refine lv_iconst (v := (1 : Int32)) hx hb dX8_would_26 (by decide) ?_
        obtain ⟨z9, q10, hf⟩ := bsp hf
        refine kc_V (ci := 8) (i := 0) (As := [.int (1 : Int32)]) (rest := []) hok.2.2.1 C hP hS hl.1 (hok.2.1 8 0 (Nat.le_of_ble_eq_true rfl)) rfl rfl cw_X8_refuse ml_X8_61 (c_X8_refuse l D ca ad PL Z A hok N w (1 : Int32) z9.1 z9.2 q10) rfl ⟨rfl, rfl⟩ ⟨Nat.le_of_ble_eq_true rfl, Nat.le_of_ble_eq_true rfl⟩ ⟨Nat.zero_le _, Nat.zero_le _⟩ (Nat.le_of_ble_eq_true rfl) rfl dX8_would_27 (fun H locs hP hS => ?_)
        exact kr_i hok.2.2.1 C hlocks hr rfl hP hS (congrArg Prod.fst (Option.some.inj hf)) (congrArg Prod.snd (Option.some.inj hf)) dX8_would_30
      · have hf := ifn hf c32
        refine lv_iload_n hx hb dX8_would_20 rfl (lv_at hl 3 rfl) ?_
        refine lv_iconst (v := (2 : Int32)) hx hb dX8_would_21 (by decide) ?_
        refine lv_icmp_le (tgt := 31) hx hb dX8_would_22 (by decide) (fun c31 => ?_) (fun c31 => ?_)
        · have hf := ifp hf c31
          refine lv_aload_n hx hb dX8_would_31 rfl (lv_at hl 0 rfl) ?_
          refine gt_8_3 (i := 0) C hP (hok.2.1 8 0 (Nat.le_of_ble_eq_true rfl)) lk_X8_33 dX8_would_32 ?_
          refine lv_aload_n hx hb dX8_would_35 rfl (lv_at hl 0 rfl) ?_
          obtain ⟨g11, hf⟩ := gsp hf
          refine gt_8_5 (i := 0) C hP (hok.2.1 8 0 (Nat.le_of_ble_eq_true rfl)) lk_X8_43 dX8_would_36 ?_
          refine gt_1_1 (i := (gR w 8 5 0)) C hP (hok.2.1 1 (gR w 8 5 0) g11) lk_X8_108 dX8_would_39 ?_
          obtain ⟨z12, q13, hf⟩ := bsp hf
          refine kc_V (ci := 3) (i := 0) (As := [.ref (ad 3 (2 + (gR w 8 5 0)))]) (rest := []) hok.2.2.1 C hP hS hl.1 (hok.2.1 3 0 (Nat.le_of_ble_eq_true rfl)) rfl rfl cw_X3_copyFrom ml_X8_251 (c_X3_copyFrom l D ca ad PL Z A hok N w 0 (Nat.le_of_ble_eq_true rfl) (2 + (gR w 8 5 0)) (Nat.lt_of_lt_of_le (Nat.add_lt_add_left g11 2) (Nat.le_of_ble_eq_true rfl)) z12 q13) rfl ⟨rfl, rfl⟩ ⟨Nat.le_of_ble_eq_true rfl, Nat.le_of_ble_eq_true rfl⟩ ⟨Nat.zero_le _, Nat.zero_le _⟩ (Nat.le_of_ble_eq_true rfl) rfl dX8_would_42 (fun H locs hP hS => ?_)
          refine lv_aload_n hx hb dX8_would_45 rfl (lv_at hl 0 rfl) ?_
          obtain ⟨g14, hf⟩ := gsp hf
          refine gt_8_5 (i := 0) C hP (hok.2.1 8 0 (Nat.le_of_ble_eq_true rfl)) lk_X8_43 dX8_would_46 ?_
          refine lv_iload_n hx hb dX8_would_49 rfl (lv_at hl 1 rfl) ?_
          refine lv_iload_n hx hb dX8_would_50 rfl (lv_at hl 2 rfl) ?_
          refine lv_aload_n hx hb dX8_would_51 rfl (lv_at hl 0 rfl) ?_
          refine gt_8_3 (i := 0) C hP (hok.2.1 8 0 (Nat.le_of_ble_eq_true rfl)) lk_X8_33 dX8_would_52 ?_
          obtain ⟨z15, q16, hf⟩ := bsp hf
          refine kc_V (ci := 1) (i := (gR z12 8 5 0)) (As := [.int x1, .int x2, .ref (ad 3 0)]) (rest := []) hok.2.2.1 C hP hS hl.1 (hok.2.1 1 (gR z12 8 5 0) g14) rfl rfl cw_X1_supposeSame ml_X8_236 (c_X1_supposeSame l D ca ad PL Z A hok N z12 (gR z12 8 5 0) g14 x1 x2 0 (Nat.le_of_ble_eq_true rfl) z15 q16) rfl ⟨rfl, rfl⟩ ⟨Nat.le_of_ble_eq_true rfl, Nat.le_of_ble_eq_true rfl⟩ ⟨Nat.zero_le _, Nat.zero_le _⟩ (Nat.le_of_ble_eq_true rfl) rfl dX8_would_55 (fun H locs hP hS => ?_)
          refine lv_iload_n hx hb dX8_would_58 rfl (lv_at hl 3 rfl) ?_
          refine lv_if_ne (tgt := 74) hx hb dX8_would_59 (by decide) (fun c28 => ?_) (fun c28 => ?_)
          · have hf := ifn hf c28
            refine lv_aload_n hx hb dX8_would_74 rfl (lv_at hl 0 rfl) ?_
            refine lv_iload_n hx hb dX8_would_75 rfl (lv_at hl 3 rfl) ?_
            refine lv_iconst (v := (1 : Int32)) hx hb dX8_would_76 (by decide) ?_
            refine lv_icmp_ne (tgt := 94) hx hb dX8_would_77 (by decide) (fun c25 => ?_) (fun c25 => ?_)
            · have hf := ifn hf c25
              refine lv_aload_n hx hb dX8_would_94 rfl (lv_at hl 0 rfl) ?_
              obtain ⟨g17, hf⟩ := gsp hf
              refine gt_8_5 (i := 0) C hP (hok.2.1 8 0 (Nat.le_of_ble_eq_true rfl)) lk_X8_43 dX8_would_95 ?_
              refine gt_1_1 (i := (gR z15 8 5 0)) C hP (hok.2.1 1 (gR z15 8 5 0) g17) lk_X8_108 dX8_would_98 ?_
              refine gt_3_2 (i := (2 + (gR z15 8 5 0))) C hP (hok.2.1 3 (2 + (gR z15 8 5 0)) (Nat.lt_of_lt_of_le (Nat.add_lt_add_left g17 2) (Nat.le_of_ble_eq_true rfl))) lk_X8_111 dX8_would_101 ?_
              refine lv_aload_n hx hb dX8_would_104 rfl (lv_at hl 0 rfl) ?_
              refine gt_8_3 (i := 0) C hP (hok.2.1 8 0 (Nat.le_of_ble_eq_true rfl)) lk_X8_33 dX8_would_105 ?_
              refine gt_3_2 (i := 0) C hP (hok.2.1 3 0 (Nat.le_of_ble_eq_true rfl)) lk_X8_111 dX8_would_108 ?_
              refine lv_isub hx hb dX8_would_111 ?_
              obtain ⟨z18, q19, hf⟩ := bsp hf
              refine kc_V (ci := 8) (i := 0) (As := [.int ((gF z15 3 2 (2 + (gR z15 8 5 0))) - (gF z15 3 2 0))]) (rest := []) hok.2.2.1 C hP hS hl.1 (hok.2.1 8 0 (Nat.le_of_ble_eq_true rfl)) rfl rfl cw_X8_answer ml_X8_96 (c_X8_answer l D ca ad PL Z A hok N z15 ((gF z15 3 2 (2 + (gR z15 8 5 0))) - (gF z15 3 2 0)) z18.1 z18.2 q19) rfl ⟨rfl, rfl⟩ ⟨Nat.le_of_ble_eq_true rfl, Nat.le_of_ble_eq_true rfl⟩ ⟨Nat.zero_le _, Nat.zero_le _⟩ (Nat.le_of_ble_eq_true rfl) rfl dX8_would_112 (fun H locs hP hS => ?_)
              exact kr_i hok.2.2.1 C hlocks hr rfl hP hS (congrArg Prod.fst (Option.some.inj hf)) (congrArg Prod.snd (Option.some.inj hf)) dX8_would_115
            · have hf := ifp hf c25
              refine lv_aload_n hx hb dX8_would_80 rfl (lv_at hl 0 rfl) ?_
              obtain ⟨g20, hf⟩ := gsp hf
              refine gt_8_5 (i := 0) C hP (hok.2.1 8 0 (Nat.le_of_ble_eq_true rfl)) lk_X8_43 dX8_would_81 ?_
              refine lv_aload_n hx hb dX8_would_84 rfl (lv_at hl 0 rfl) ?_
              refine gt_8_3 (i := 0) C hP (hok.2.1 8 0 (Nat.le_of_ble_eq_true rfl)) lk_X8_33 dX8_would_85 ?_
              obtain ⟨z21, q22, hf⟩ := bsp hf
              refine kc_V (ci := 1) (i := (gR z15 8 5 0)) (As := [.ref (ad 3 0)]) (rest := [.ref (ad 8 0)]) hok.2.2.1 C hP hS hl.1 (hok.2.1 1 (gR z15 8 5 0) g20) rfl rfl cw_X1_firstClash ml_X8_125 (c_X1_firstClash l D ca ad PL Z A hok N z15 (gR z15 8 5 0) g20 0 (Nat.le_of_ble_eq_true rfl) z21 q22) rfl ⟨rfl, rfl⟩ ⟨Nat.le_of_ble_eq_true rfl, Nat.le_of_ble_eq_true rfl⟩ ⟨Nat.zero_le _, Nat.zero_le _⟩ (Nat.le_of_ble_eq_true rfl) rfl dX8_would_88 (fun H locs hP hS => ?_)
              refine lv_goto (tgt := 112) hx hb dX8_would_91 (by decide) ?_
              obtain ⟨z23, q24, hf⟩ := bsp hf
              refine kc_V (ci := 8) (i := 0) (As := [.int z21]) (rest := []) hok.2.2.1 C hP hS hl.1 (hok.2.1 8 0 (Nat.le_of_ble_eq_true rfl)) rfl rfl cw_X8_answer ml_X8_96 (c_X8_answer l D ca ad PL Z A hok N z15 z21 z23.1 z23.2 q24) rfl ⟨rfl, rfl⟩ ⟨Nat.le_of_ble_eq_true rfl, Nat.le_of_ble_eq_true rfl⟩ ⟨Nat.zero_le _, Nat.zero_le _⟩ (Nat.le_of_ble_eq_true rfl) rfl dX8_would_112 (fun H locs hP hS => ?_)
              exact kr_i hok.2.2.1 C hlocks hr rfl hP hS (congrArg Prod.fst (Option.some.inj hf)) (congrArg Prod.snd (Option.some.inj hf)) dX8_would_115
          · have hf := ifp hf c28
            refine lv_aload_n hx hb dX8_would_62 rfl (lv_at hl 0 rfl) ?_
            refine lv_aload_n hx hb dX8_would_63 rfl (lv_at hl 0 rfl) ?_
            refine gt_8_3 (i := 0) C hP (hok.2.1 8 0 (Nat.le_of_ble_eq_true rfl)) lk_X8_33 dX8_would_64 ?_
            refine gt_3_2 (i := 0) C hP (hok.2.1 3 0 (Nat.le_of_ble_eq_true rfl)) lk_X8_111 dX8_would_67 ?_
            obtain ⟨z26, q27, hf⟩ := bsp hf
            refine kc_V (ci := 8) (i := 0) (As := [.int (gF z15 3 2 0)]) (rest := []) hok.2.2.1 C hP hS hl.1 (hok.2.1 8 0 (Nat.le_of_ble_eq_true rfl)) rfl rfl cw_X8_answer ml_X8_96 (c_X8_answer l D ca ad PL Z A hok N z15 (gF z15 3 2 0) z26.1 z26.2 q27) rfl ⟨rfl, rfl⟩ ⟨Nat.le_of_ble_eq_true rfl, Nat.le_of_ble_eq_true rfl⟩ ⟨Nat.zero_le _, Nat.zero_le _⟩ (Nat.le_of_ble_eq_true rfl) rfl dX8_would_70 (fun H locs hP hS => ?_)
            exact kr_i hok.2.2.1 C hlocks hr rfl hP hS (congrArg Prod.fst (Option.some.inj hf)) (congrArg Prod.snd (Option.some.inj hf)) dX8_would_73
        · have hf := ifn hf c31
          refine lv_aload_n hx hb dX8_would_25 rfl (lv_at hl 0 rfl) ?_
          refine lv_iconst (v := (1 : Int32)) hx hb dX8_would_26 (by decide) ?_
          obtain ⟨z29, q30, hf⟩ := bsp hf
          refine kc_V (ci := 8) (i := 0) (As := [.int (1 : Int32)]) (rest := []) hok.2.2.1 C hP hS hl.1 (hok.2.1 8 0 (Nat.le_of_ble_eq_true rfl)) rfl rfl cw_X8_refuse ml_X8_61 (c_X8_refuse l D ca ad PL Z A hok N w (1 : Int32) z29.1 z29.2 q30) rfl ⟨rfl, rfl⟩ ⟨Nat.le_of_ble_eq_true rfl, Nat.le_of_ble_eq_true rfl⟩ ⟨Nat.zero_le _, Nat.zero_le _⟩ (Nat.le_of_ble_eq_true rfl) rfl dX8_would_27 (fun H locs hP hS => ?_)
          exact kr_i hok.2.2.1 C hlocks hr rfl hP hS (congrArg Prod.fst (Option.some.inj hf)) (congrArg Prod.snd (Option.some.inj hf)) dX8_would_30
def f_X8_without (N : Nat) (w : Mem) (x1 : Int32) (x2 : Int32) : Option (Mem × Int32) :=
  (Option.bind (f_X8_isSame N w x1) (fun z1 => (if z1 = (0 : Int32) then
(Option.bind (f_X8_refuse N w (1 : Int32)) (fun z3 => some (z3.1, z3.2)))
else
(if x2 < (0 : Int32) then
(Option.bind (f_X8_refuse N w (1 : Int32)) (fun z5 => some (z5.1, z5.2)))
else
(if x2 ≤ (1 : Int32) then
(if (gR w 8 5 0) < 2 then (Option.bind (f_X1_allSames N w (gR w 8 5 0)) (fun z8 => (Option.bind (f_X1_closeBy N w (gR w 8 5 0) (z8 &&& (((1 : Int32) <<< (x1 &&& 31)) ^^^ (-1 : Int32))) 0) (fun z10 => (if x2 = (0 : Int32) then
(Option.bind (f_X8_answer N z10 (gF z10 3 2 0)) (fun z17 => some (z17.1, z17.2)))
else
(if (gR z10 8 5 0) < 2 then (Option.bind (f_X1_firstClash N z10 (gR z10 8 5 0) 0) (fun z13 => (Option.bind (f_X8_answer N z10 z13) (fun z15 => some (z15.1, z15.2))))) else none)))))) else none)
else
(Option.bind (f_X8_refuse N w (1 : Int32)) (fun z20 => some (z20.1, z20.2))))))))
set_option maxRecDepth 100000 in
set_option maxHeartbeats 4000000 in
theorem c_X8_without (l : Launch) (D : va_G) (ca : Nat → ClassId) (ad : Nat → Nat → Nat) (PL : List (Nat × Nat)) (Z : State → Prop) (A : Nat → Prop) (hok : okc bX Z A ad PL) (N : Nat) (w : Mem) (x1 : Int32) (x2 : Int32) (w' : Mem) (r : Int32) (hf : f_X8_without N w x1 x2 = some (w', r)) : CT l yX8_without (wsy yX8_without cX8_without 3 (some .int)) (rmk 5) D ca ad PL Z A [.ref (ad 8 0), .int x1, .int x2] w w' (some (.int r)) := by
  refine Met.ofW (cc := cX8_without) (maxL := 3) (ret := (some .int)) (by decide +kernel) rfl ?_
  intro p e s m args below meth c s₁ B hml hv
  obtain ⟨rfl, hP, hK, hZ⟩ := hv
  have hx := B.exec
  have hb := B.bytes
  have hr := B.returns
  have hlocks := B.notSynchronized
  have hts : ∀ w ∈ ALL, w.before _ s = true := fun w hw => atoms_spec (ws := wsy yX8_without cX8_without 3 (some .int)) B.pre w (List.mem_cons_of_mem _ hw)
  have hown : s.vm.findClass RX8 = some m.cls := findClass_of_methodNamed B.named
  have C : CX p s m _ c cX8_without RX8 3 D ca Z := ⟨hx, hb, hml, hown, hts, hK, hZ⟩
  have hS : va_S A s.heap s.heap [] := va_S.rf
  have hl := lv_entry ([.ref (ad 8 0), .int x1, .int x2]) (n := 3) (Nat.le_of_ble_eq_true rfl)
  rw [lg_entry_eq]
  generalize (lg_sl ([.ref (ad 8 0), .int x1, .int x2]) ++ List.replicate (3 - (lg_sl ([.ref (ad 8 0), .int x1, .int x2])).length) Slot.unset).toArray = ls at hl ⊢
  have hl : lv_has ls 3 [(0, .ref (ad 8 0)), (1, .int x1), (2, .int x2)] := hl
  show W p l e (rmk 5) s m _ below meth c s.heap [] 0 0 _ _
  unfold f_X8_without at hf
  -- walk
  refine lv_aload_n hx hb dX8_without_0 rfl (lv_at hl 0 rfl) ?_
  refine lv_iload_n hx hb dX8_without_1 rfl (lv_at hl 1 rfl) ?_
  obtain ⟨z1, q2, hf⟩ := bsp hf
  refine kc_V (ci := 8) (i := 0) (As := [.int x1]) (rest := []) hok.2.2.1 C hP hS hl.1 (hok.2.1 8 0 (Nat.le_of_ble_eq_true rfl)) rfl rfl cw_X8_isSame ml_X8_169 (c_X8_isSame l D ca ad PL Z A hok N w x1 z1 q2) rfl ⟨rfl, rfl⟩ ⟨Nat.le_of_ble_eq_true rfl, Nat.le_of_ble_eq_true rfl⟩ ⟨Nat.zero_le _, Nat.zero_le _⟩ (Nat.le_of_ble_eq_true rfl) rfl dX8_without_2 (fun H locs hP hS => ?_)
  refine lv_if_eq (tgt := 17) hx hb dX8_without_5 (by decide) (fun c24 => ?_) (fun c24 => ?_)
  · have hf := ifp hf c24
    refine lv_aload_n hx hb dX8_without_17 rfl (lv_at hl 0 rfl) ?_
    refine lv_iconst (v := (1 : Int32)) hx hb dX8_without_18 (by decide) ?_
    obtain ⟨z3, q4, hf⟩ := bsp hf
    refine kc_V (ci := 8) (i := 0) (As := [.int (1 : Int32)]) (rest := []) hok.2.2.1 C hP hS hl.1 (hok.2.1 8 0 (Nat.le_of_ble_eq_true rfl)) rfl rfl cw_X8_refuse ml_X8_61 (c_X8_refuse l D ca ad PL Z A hok N w (1 : Int32) z3.1 z3.2 q4) rfl ⟨rfl, rfl⟩ ⟨Nat.le_of_ble_eq_true rfl, Nat.le_of_ble_eq_true rfl⟩ ⟨Nat.zero_le _, Nat.zero_le _⟩ (Nat.le_of_ble_eq_true rfl) rfl dX8_without_19 (fun H locs hP hS => ?_)
    exact kr_i hok.2.2.1 C hlocks hr rfl hP hS (congrArg Prod.fst (Option.some.inj hf)) (congrArg Prod.snd (Option.some.inj hf)) dX8_without_22
  · have hf := ifn hf c24
    refine lv_iload_n hx hb dX8_without_8 rfl (lv_at hl 2 rfl) ?_
    refine lv_if_lt (tgt := 17) hx hb dX8_without_9 (by decide) (fun c23 => ?_) (fun c23 => ?_)
    · have hf := ifp hf c23
      refine lv_aload_n hx hb dX8_without_17 rfl (lv_at hl 0 rfl) ?_
      refine lv_iconst (v := (1 : Int32)) hx hb dX8_without_18 (by decide) ?_
      obtain ⟨z5, q6, hf⟩ := bsp hf
      refine kc_V (ci := 8) (i := 0) (As := [.int (1 : Int32)]) (rest := []) hok.2.2.1 C hP hS hl.1 (hok.2.1 8 0 (Nat.le_of_ble_eq_true rfl)) rfl rfl cw_X8_refuse ml_X8_61 (c_X8_refuse l D ca ad PL Z A hok N w (1 : Int32) z5.1 z5.2 q6) rfl ⟨rfl, rfl⟩ ⟨Nat.le_of_ble_eq_true rfl, Nat.le_of_ble_eq_true rfl⟩ ⟨Nat.zero_le _, Nat.zero_le _⟩ (Nat.le_of_ble_eq_true rfl) rfl dX8_without_19 (fun H locs hP hS => ?_)
      exact kr_i hok.2.2.1 C hlocks hr rfl hP hS (congrArg Prod.fst (Option.some.inj hf)) (congrArg Prod.snd (Option.some.inj hf)) dX8_without_22
    · have hf := ifn hf c23
      refine lv_iload_n hx hb dX8_without_12 rfl (lv_at hl 2 rfl) ?_
      refine lv_iconst (v := (1 : Int32)) hx hb dX8_without_13 (by decide) ?_
      refine lv_icmp_le (tgt := 23) hx hb dX8_without_14 (by decide) (fun c22 => ?_) (fun c22 => ?_)
      · have hf := ifp hf c22
        refine lv_aload_n hx hb dX8_without_23 rfl (lv_at hl 0 rfl) ?_
        obtain ⟨g7, hf⟩ := gsp hf
        refine gt_8_5 (i := 0) C hP (hok.2.1 8 0 (Nat.le_of_ble_eq_true rfl)) lk_X8_43 dX8_without_24 ?_
        refine lv_aload_n hx hb dX8_without_27 rfl (lv_at hl 0 rfl) ?_
        refine gt_8_5 (i := 0) C hP (hok.2.1 8 0 (Nat.le_of_ble_eq_true rfl)) lk_X8_43 dX8_without_28 ?_
        obtain ⟨z8, q9, hf⟩ := bsp hf
        refine kc_V (ci := 1) (i := (gR w 8 5 0)) (As := []) (rest := [.ref (ad 1 (gR w 8 5 0))]) hok.2.2.1 C hP hS hl.1 (hok.2.1 1 (gR w 8 5 0) g7) rfl rfl cw_X1_allSames ml_X8_178 (c_X1_allSames l D ca ad PL Z A hok N w (gR w 8 5 0) g7 z8 q9) rfl ⟨rfl, rfl⟩ ⟨Nat.le_of_ble_eq_true rfl, Nat.le_of_ble_eq_true rfl⟩ ⟨Nat.zero_le _, Nat.zero_le _⟩ (Nat.le_of_ble_eq_true rfl) rfl dX8_without_31 (fun H locs hP hS => ?_)
        refine lv_iconst (v := (1 : Int32)) hx hb dX8_without_34 (by decide) ?_
        refine lv_iload_n hx hb dX8_without_35 rfl (lv_at hl 1 rfl) ?_
        refine lv_ishl hx hb dX8_without_36 ?_
        refine lv_iconst (v := (-1 : Int32)) hx hb dX8_without_37 (by decide) ?_
        refine lv_ixor hx hb dX8_without_38 ?_
        refine lv_iand hx hb dX8_without_39 ?_
        refine lv_aload_n hx hb dX8_without_40 rfl (lv_at hl 0 rfl) ?_
        refine gt_8_3 (i := 0) C hP (hok.2.1 8 0 (Nat.le_of_ble_eq_true rfl)) lk_X8_33 dX8_without_41 ?_
        obtain ⟨z10, q11, hf⟩ := bsp hf
        refine kc_V (ci := 1) (i := (gR w 8 5 0)) (As := [.int (z8 &&& (((1 : Int32) <<< (x1 &&& 31)) ^^^ (-1 : Int32))), .ref (ad 3 0)]) (rest := []) hok.2.2.1 C hP hS hl.1 (hok.2.1 1 (gR w 8 5 0) g7) rfl rfl cw_X1_closeBy ml_X8_232 (c_X1_closeBy l D ca ad PL Z A hok N w (gR w 8 5 0) g7 (z8 &&& (((1 : Int32) <<< (x1 &&& 31)) ^^^ (-1 : Int32))) 0 (Nat.le_of_ble_eq_true rfl) z10 q11) rfl ⟨rfl, rfl⟩ ⟨Nat.le_of_ble_eq_true rfl, Nat.le_of_ble_eq_true rfl⟩ ⟨Nat.zero_le _, Nat.zero_le _⟩ (Nat.le_of_ble_eq_true rfl) rfl dX8_without_44 (fun H locs hP hS => ?_)
        refine lv_aload_n hx hb dX8_without_47 rfl (lv_at hl 0 rfl) ?_
        refine lv_iload_n hx hb dX8_without_48 rfl (lv_at hl 2 rfl) ?_
        refine lv_if_ne (tgt := 62) hx hb dX8_without_49 (by decide) (fun c19 => ?_) (fun c19 => ?_)
        · have hf := ifn hf c19
          refine lv_aload_n hx hb dX8_without_62 rfl (lv_at hl 0 rfl) ?_
          obtain ⟨g12, hf⟩ := gsp hf
          refine gt_8_5 (i := 0) C hP (hok.2.1 8 0 (Nat.le_of_ble_eq_true rfl)) lk_X8_43 dX8_without_63 ?_
          refine lv_aload_n hx hb dX8_without_66 rfl (lv_at hl 0 rfl) ?_
          refine gt_8_3 (i := 0) C hP (hok.2.1 8 0 (Nat.le_of_ble_eq_true rfl)) lk_X8_33 dX8_without_67 ?_
          obtain ⟨z13, q14, hf⟩ := bsp hf
          refine kc_V (ci := 1) (i := (gR z10 8 5 0)) (As := [.ref (ad 3 0)]) (rest := [.ref (ad 8 0)]) hok.2.2.1 C hP hS hl.1 (hok.2.1 1 (gR z10 8 5 0) g12) rfl rfl cw_X1_firstClash ml_X8_125 (c_X1_firstClash l D ca ad PL Z A hok N z10 (gR z10 8 5 0) g12 0 (Nat.le_of_ble_eq_true rfl) z13 q14) rfl ⟨rfl, rfl⟩ ⟨Nat.le_of_ble_eq_true rfl, Nat.le_of_ble_eq_true rfl⟩ ⟨Nat.zero_le _, Nat.zero_le _⟩ (Nat.le_of_ble_eq_true rfl) rfl dX8_without_70 (fun H locs hP hS => ?_)
          obtain ⟨z15, q16, hf⟩ := bsp hf
          refine kc_V (ci := 8) (i := 0) (As := [.int z13]) (rest := []) hok.2.2.1 C hP hS hl.1 (hok.2.1 8 0 (Nat.le_of_ble_eq_true rfl)) rfl rfl cw_X8_answer ml_X8_96 (c_X8_answer l D ca ad PL Z A hok N z10 z13 z15.1 z15.2 q16) rfl ⟨rfl, rfl⟩ ⟨Nat.le_of_ble_eq_true rfl, Nat.le_of_ble_eq_true rfl⟩ ⟨Nat.zero_le _, Nat.zero_le _⟩ (Nat.le_of_ble_eq_true rfl) rfl dX8_without_73 (fun H locs hP hS => ?_)
          exact kr_i hok.2.2.1 C hlocks hr rfl hP hS (congrArg Prod.fst (Option.some.inj hf)) (congrArg Prod.snd (Option.some.inj hf)) dX8_without_76
        · have hf := ifp hf c19
          refine lv_aload_n hx hb dX8_without_52 rfl (lv_at hl 0 rfl) ?_
          refine gt_8_3 (i := 0) C hP (hok.2.1 8 0 (Nat.le_of_ble_eq_true rfl)) lk_X8_33 dX8_without_53 ?_
          refine gt_3_2 (i := 0) C hP (hok.2.1 3 0 (Nat.le_of_ble_eq_true rfl)) lk_X8_111 dX8_without_56 ?_
          refine lv_goto (tgt := 73) hx hb dX8_without_59 (by decide) ?_
          obtain ⟨z17, q18, hf⟩ := bsp hf
          refine kc_V (ci := 8) (i := 0) (As := [.int (gF z10 3 2 0)]) (rest := []) hok.2.2.1 C hP hS hl.1 (hok.2.1 8 0 (Nat.le_of_ble_eq_true rfl)) rfl rfl cw_X8_answer ml_X8_96 (c_X8_answer l D ca ad PL Z A hok N z10 (gF z10 3 2 0) z17.1 z17.2 q18) rfl ⟨rfl, rfl⟩ ⟨Nat.le_of_ble_eq_true rfl, Nat.le_of_ble_eq_true rfl⟩ ⟨Nat.zero_le _, Nat.zero_le _⟩ (Nat.le_of_ble_eq_true rfl) rfl dX8_without_73 (fun H locs hP hS => ?_)
          exact kr_i hok.2.2.1 C hlocks hr rfl hP hS (congrArg Prod.fst (Option.some.inj hf)) (congrArg Prod.snd (Option.some.inj hf)) dX8_without_76
      · have hf := ifn hf c22
        refine lv_aload_n hx hb dX8_without_17 rfl (lv_at hl 0 rfl) ?_
        refine lv_iconst (v := (1 : Int32)) hx hb dX8_without_18 (by decide) ?_
        obtain ⟨z20, q21, hf⟩ := bsp hf
        refine kc_V (ci := 8) (i := 0) (As := [.int (1 : Int32)]) (rest := []) hok.2.2.1 C hP hS hl.1 (hok.2.1 8 0 (Nat.le_of_ble_eq_true rfl)) rfl rfl cw_X8_refuse ml_X8_61 (c_X8_refuse l D ca ad PL Z A hok N w (1 : Int32) z20.1 z20.2 q21) rfl ⟨rfl, rfl⟩ ⟨Nat.le_of_ble_eq_true rfl, Nat.le_of_ble_eq_true rfl⟩ ⟨Nat.zero_le _, Nat.zero_le _⟩ (Nat.le_of_ble_eq_true rfl) rfl dX8_without_19 (fun H locs hP hS => ?_)
        exact kr_i hok.2.2.1 C hlocks hr rfl hP hS (congrArg Prod.fst (Option.some.inj hf)) (congrArg Prod.snd (Option.some.inj hf)) dX8_without_22
def f_X8_join (N : Nat) (w : Mem) (x1 : Int32) (x2 : Int32) : Option (Mem × Int32) :=
  (Option.bind (f_X8_isTerm N w x1) (fun z1 => (if z1 = (0 : Int32) then
(Option.bind (f_X8_refuse N w (1 : Int32)) (fun z3 => some (z3.1, z3.2)))
else
(Option.bind (f_X8_isTerm N w x2) (fun z5 => (if z5 = (0 : Int32) then
(Option.bind (f_X8_refuse N w (1 : Int32)) (fun z19 => some (z19.1, z19.2)))
else
(if (gR w 8 5 0) < 2 then (if (gF w 1 9 (gR w 8 5 0)) < (12 : Int32) then
(Option.bind (f_X1_noteAct N w (gR w 8 5 0) (0 : Int32)) (fun z8 => (if (gR z8 8 5 0) < 2 then (Option.bind (f_X1_comeSame N z8 (gR z8 8 5 0) x1 x2) (fun z11 => (if (gR (sF z11 0 4 0 (0 : Int32)) 8 5 0) < 2 then (Option.bind (f_X8_answer N (sF z11 0 4 0 (0 : Int32)) (gF (sF z11 0 4 0 (0 : Int32)) 3 2 (2 + (gR (sF z11 0 4 0 (0 : Int32)) 8 5 0)))) (fun z14 => some (z14.1, z14.2))) else none))) else none)))
else
(Option.bind (f_X8_refuse N w (3 : Int32)) (fun z16 => some (z16.1, z16.2)))) else none)))))))
set_option maxRecDepth 100000 in
set_option maxHeartbeats 4000000 in
theorem c_X8_join (l : Launch) (D : va_G) (ca : Nat → ClassId) (ad : Nat → Nat → Nat) (PL : List (Nat × Nat)) (Z : State → Prop) (A : Nat → Prop) (hok : okc bX Z A ad PL) (N : Nat) (w : Mem) (x1 : Int32) (x2 : Int32) (w' : Mem) (r : Int32) (hf : f_X8_join N w x1 x2 = some (w', r)) : CT l yX8_join (wsy yX8_join cX8_join 3 (some .int)) (rmk 4) D ca ad PL Z A [.ref (ad 8 0), .int x1, .int x2] w w' (some (.int r)) := by
  refine Met.ofW (cc := cX8_join) (maxL := 3) (ret := (some .int)) (by decide +kernel) rfl ?_
  intro p e s m args below meth c s₁ B hml hv
  obtain ⟨rfl, hP, hK, hZ⟩ := hv
  have hx := B.exec
  have hb := B.bytes
  have hr := B.returns
  have hlocks := B.notSynchronized
  have hts : ∀ w ∈ ALL, w.before _ s = true := fun w hw => atoms_spec (ws := wsy yX8_join cX8_join 3 (some .int)) B.pre w (List.mem_cons_of_mem _ hw)
  have hown : s.vm.findClass RX8 = some m.cls := findClass_of_methodNamed B.named
  have C : CX p s m _ c cX8_join RX8 3 D ca Z := ⟨hx, hb, hml, hown, hts, hK, hZ⟩
  have hS : va_S A s.heap s.heap [] := va_S.rf
  have hl := lv_entry ([.ref (ad 8 0), .int x1, .int x2]) (n := 3) (Nat.le_of_ble_eq_true rfl)
  rw [lg_entry_eq]
  generalize (lg_sl ([.ref (ad 8 0), .int x1, .int x2]) ++ List.replicate (3 - (lg_sl ([.ref (ad 8 0), .int x1, .int x2])).length) Slot.unset).toArray = ls at hl ⊢
  have hl : lv_has ls 3 [(0, .ref (ad 8 0)), (1, .int x1), (2, .int x2)] := hl
  show W p l e (rmk 4) s m _ below meth c s.heap [] 0 0 _ _
  unfold f_X8_join at hf
  -- walk
  refine lv_aload_n hx hb dX8_join_0 rfl (lv_at hl 0 rfl) ?_
  refine lv_iload_n hx hb dX8_join_1 rfl (lv_at hl 1 rfl) ?_
  obtain ⟨z1, q2, hf⟩ := bsp hf
  refine kc_V (ci := 8) (i := 0) (As := [.int x1]) (rest := []) hok.2.2.1 C hP hS hl.1 (hok.2.1 8 0 (Nat.le_of_ble_eq_true rfl)) rfl rfl cw_X8_isTerm ml_X8_140 (c_X8_isTerm l D ca ad PL Z A hok N w x1 z1 q2) rfl ⟨rfl, rfl⟩ ⟨Nat.le_of_ble_eq_true rfl, Nat.le_of_ble_eq_true rfl⟩ ⟨Nat.zero_le _, Nat.zero_le _⟩ (Nat.le_of_ble_eq_true rfl) rfl dX8_join_2 (fun H locs hP hS => ?_)
  refine lv_if_eq (tgt := 16) hx hb dX8_join_5 (by decide) (fun c22 => ?_) (fun c22 => ?_)
  · have hf := ifp hf c22
    refine lv_aload_n hx hb dX8_join_16 rfl (lv_at hl 0 rfl) ?_
    refine lv_iconst (v := (1 : Int32)) hx hb dX8_join_17 (by decide) ?_
    obtain ⟨z3, q4, hf⟩ := bsp hf
    refine kc_V (ci := 8) (i := 0) (As := [.int (1 : Int32)]) (rest := []) hok.2.2.1 C hP hS hl.1 (hok.2.1 8 0 (Nat.le_of_ble_eq_true rfl)) rfl rfl cw_X8_refuse ml_X8_61 (c_X8_refuse l D ca ad PL Z A hok N w (1 : Int32) z3.1 z3.2 q4) rfl ⟨rfl, rfl⟩ ⟨Nat.le_of_ble_eq_true rfl, Nat.le_of_ble_eq_true rfl⟩ ⟨Nat.zero_le _, Nat.zero_le _⟩ (Nat.le_of_ble_eq_true rfl) rfl dX8_join_18 (fun H locs hP hS => ?_)
    exact kr_i hok.2.2.1 C hlocks hr rfl hP hS (congrArg Prod.fst (Option.some.inj hf)) (congrArg Prod.snd (Option.some.inj hf)) dX8_join_21
  · have hf := ifn hf c22
    refine lv_aload_n hx hb dX8_join_8 rfl (lv_at hl 0 rfl) ?_
    refine lv_iload_n hx hb dX8_join_9 rfl (lv_at hl 2 rfl) ?_
    obtain ⟨z5, q6, hf⟩ := bsp hf
    refine kc_V (ci := 8) (i := 0) (As := [.int x2]) (rest := []) hok.2.2.1 C hP hS hl.1 (hok.2.1 8 0 (Nat.le_of_ble_eq_true rfl)) rfl rfl cw_X8_isTerm ml_X8_140 (c_X8_isTerm l D ca ad PL Z A hok N w x2 z5 q6) rfl ⟨rfl, rfl⟩ ⟨Nat.le_of_ble_eq_true rfl, Nat.le_of_ble_eq_true rfl⟩ ⟨Nat.zero_le _, Nat.zero_le _⟩ (Nat.le_of_ble_eq_true rfl) rfl dX8_join_10 (fun H locs hP hS => ?_)
    refine lv_if_ne (tgt := 22) hx hb dX8_join_13 (by decide) (fun c21 => ?_) (fun c21 => ?_)
    · have hf := ifn hf c21
      refine lv_aload_n hx hb dX8_join_22 rfl (lv_at hl 0 rfl) ?_
      obtain ⟨g7, hf⟩ := gsp hf
      refine gt_8_5 (i := 0) C hP (hok.2.1 8 0 (Nat.le_of_ble_eq_true rfl)) lk_X8_43 dX8_join_23 ?_
      refine gt_1_9 (i := (gR w 8 5 0)) C hP (hok.2.1 1 (gR w 8 5 0) g7) lk_X8_102 dX8_join_26 ?_
      refine lv_bipush (v := (12 : Int32)) hx hb dX8_join_29 (by decide) ?_
      refine lv_icmp_lt (tgt := 40) hx hb dX8_join_31 (by decide) (fun c18 => ?_) (fun c18 => ?_)
      · have hf := ifp hf c18
        refine lv_aload_n hx hb dX8_join_40 rfl (lv_at hl 0 rfl) ?_
        refine gt_8_5 (i := 0) C hP (hok.2.1 8 0 (Nat.le_of_ble_eq_true rfl)) lk_X8_43 dX8_join_41 ?_
        refine lv_iconst (v := (0 : Int32)) hx hb dX8_join_44 (by decide) ?_
        obtain ⟨z8, q9, hf⟩ := bsp hf
        refine kc_V (ci := 1) (i := (gR w 8 5 0)) (As := [.int (0 : Int32)]) (rest := []) hok.2.2.1 C hP hS hl.1 (hok.2.1 1 (gR w 8 5 0) g7) rfl rfl cw_X1_noteAct ml_X8_287 (c_X1_noteAct l D ca ad PL Z A hok N w (gR w 8 5 0) g7 (0 : Int32) z8 q9) rfl ⟨rfl, rfl⟩ ⟨Nat.le_of_ble_eq_true rfl, Nat.le_of_ble_eq_true rfl⟩ ⟨Nat.zero_le _, Nat.zero_le _⟩ (Nat.le_of_ble_eq_true rfl) rfl dX8_join_45 (fun H locs hP hS => ?_)
        refine lv_aload_n hx hb dX8_join_48 rfl (lv_at hl 0 rfl) ?_
        obtain ⟨g10, hf⟩ := gsp hf
        refine gt_8_5 (i := 0) C hP (hok.2.1 8 0 (Nat.le_of_ble_eq_true rfl)) lk_X8_43 dX8_join_49 ?_
        refine lv_iload_n hx hb dX8_join_52 rfl (lv_at hl 1 rfl) ?_
        refine lv_iload_n hx hb dX8_join_53 rfl (lv_at hl 2 rfl) ?_
        obtain ⟨z11, q12, hf⟩ := bsp hf
        refine kc_V (ci := 1) (i := (gR z8 8 5 0)) (As := [.int x1, .int x2]) (rest := []) hok.2.2.1 C hP hS hl.1 (hok.2.1 1 (gR z8 8 5 0) g10) rfl rfl cw_X1_comeSame ml_X8_290 (c_X1_comeSame l D ca ad PL Z A hok N z8 (gR z8 8 5 0) g10 x1 x2 z11 q12) rfl ⟨rfl, rfl⟩ ⟨Nat.le_of_ble_eq_true rfl, Nat.le_of_ble_eq_true rfl⟩ ⟨Nat.zero_le _, Nat.zero_le _⟩ (Nat.le_of_ble_eq_true rfl) rfl dX8_join_54 (fun H locs hP hS => ?_)
        refine lv_aload_n hx hb dX8_join_57 rfl (lv_at hl 0 rfl) ?_
        refine gt_8_1 (i := 0) C hP (hok.2.1 8 0 (Nat.le_of_ble_eq_true rfl)) lk_X8_19 dX8_join_58 ?_
        refine lv_iconst (v := (0 : Int32)) hx hb dX8_join_61 (by decide) ?_
        refine pt_0_4 (i := 0) (v := (0 : Int32)) C hok.1 hP hS (hok.2.1 0 0 (Nat.le_of_ble_eq_true rfl)) (Or.inl rfl) lk_X8_83 dX8_join_62 (fun H locs hP hS => ?_)
        refine lv_aload_n hx hb dX8_join_65 rfl (lv_at hl 0 rfl) ?_
        refine lv_aload_n hx hb dX8_join_66 rfl (lv_at hl 0 rfl) ?_
        obtain ⟨g13, hf⟩ := gsp hf
        refine gt_8_5 (i := 0) C hP (hok.2.1 8 0 (Nat.le_of_ble_eq_true rfl)) lk_X8_43 dX8_join_67 ?_
        refine gt_1_1 (i := (gR (sF z11 0 4 0 (0 : Int32)) 8 5 0)) C hP (hok.2.1 1 (gR (sF z11 0 4 0 (0 : Int32)) 8 5 0) g13) lk_X8_108 dX8_join_70 ?_
        refine gt_3_2 (i := (2 + (gR (sF z11 0 4 0 (0 : Int32)) 8 5 0))) C hP (hok.2.1 3 (2 + (gR (sF z11 0 4 0 (0 : Int32)) 8 5 0)) (Nat.lt_of_lt_of_le (Nat.add_lt_add_left g13 2) (Nat.le_of_ble_eq_true rfl))) lk_X8_111 dX8_join_73 ?_
        obtain ⟨z14, q15, hf⟩ := bsp hf
        refine kc_V (ci := 8) (i := 0) (As := [.int (gF (sF z11 0 4 0 (0 : Int32)) 3 2 (2 + (gR (sF z11 0 4 0 (0 : Int32)) 8 5 0)))]) (rest := []) hok.2.2.1 C hP hS hl.1 (hok.2.1 8 0 (Nat.le_of_ble_eq_true rfl)) rfl rfl cw_X8_answer ml_X8_96 (c_X8_answer l D ca ad PL Z A hok N (sF z11 0 4 0 (0 : Int32)) (gF (sF z11 0 4 0 (0 : Int32)) 3 2 (2 + (gR (sF z11 0 4 0 (0 : Int32)) 8 5 0))) z14.1 z14.2 q15) rfl ⟨rfl, rfl⟩ ⟨Nat.le_of_ble_eq_true rfl, Nat.le_of_ble_eq_true rfl⟩ ⟨Nat.zero_le _, Nat.zero_le _⟩ (Nat.le_of_ble_eq_true rfl) rfl dX8_join_76 (fun H locs hP hS => ?_)
        exact kr_i hok.2.2.1 C hlocks hr rfl hP hS (congrArg Prod.fst (Option.some.inj hf)) (congrArg Prod.snd (Option.some.inj hf)) dX8_join_79
      · have hf := ifn hf c18
        refine lv_aload_n hx hb dX8_join_34 rfl (lv_at hl 0 rfl) ?_
        refine lv_iconst (v := (3 : Int32)) hx hb dX8_join_35 (by decide) ?_
        obtain ⟨z16, q17, hf⟩ := bsp hf
        refine kc_V (ci := 8) (i := 0) (As := [.int (3 : Int32)]) (rest := []) hok.2.2.1 C hP hS hl.1 (hok.2.1 8 0 (Nat.le_of_ble_eq_true rfl)) rfl rfl cw_X8_refuse ml_X8_61 (c_X8_refuse l D ca ad PL Z A hok N w (3 : Int32) z16.1 z16.2 q17) rfl ⟨rfl, rfl⟩ ⟨Nat.le_of_ble_eq_true rfl, Nat.le_of_ble_eq_true rfl⟩ ⟨Nat.zero_le _, Nat.zero_le _⟩ (Nat.le_of_ble_eq_true rfl) rfl dX8_join_36 (fun H locs hP hS => ?_)
        exact kr_i hok.2.2.1 C hlocks hr rfl hP hS (congrArg Prod.fst (Option.some.inj hf)) (congrArg Prod.snd (Option.some.inj hf)) dX8_join_39
    · have hf := ifp hf c21
      refine lv_aload_n hx hb dX8_join_16 rfl (lv_at hl 0 rfl) ?_
      refine lv_iconst (v := (1 : Int32)) hx hb dX8_join_17 (by decide) ?_
      obtain ⟨z19, q20, hf⟩ := bsp hf
      refine kc_V (ci := 8) (i := 0) (As := [.int (1 : Int32)]) (rest := []) hok.2.2.1 C hP hS hl.1 (hok.2.1 8 0 (Nat.le_of_ble_eq_true rfl)) rfl rfl cw_X8_refuse ml_X8_61 (c_X8_refuse l D ca ad PL Z A hok N w (1 : Int32) z19.1 z19.2 q20) rfl ⟨rfl, rfl⟩ ⟨Nat.le_of_ble_eq_true rfl, Nat.le_of_ble_eq_true rfl⟩ ⟨Nat.zero_le _, Nat.zero_le _⟩ (Nat.le_of_ble_eq_true rfl) rfl dX8_join_18 (fun H locs hP hS => ?_)
      exact kr_i hok.2.2.1 C hlocks hr rfl hP hS (congrArg Prod.fst (Option.some.inj hf)) (congrArg Prod.snd (Option.some.inj hf)) dX8_join_21
def f_X8_undo (N : Nat) (w : Mem)  : Option (Mem × Int32) :=
  (if (gR w 8 5 0) < 2 then (if (gF w 1 11 (gR w 8 5 0)) = (0 : Int32) then
some (w, (0 : Int32))
else
(Option.bind (f_X1_undoLatest N w (gR w 8 5 0)) (fun z2 => some ((sF z2 0 4 0 (0 : Int32)), (1 : Int32))))) else none)
set_option maxRecDepth 100000 in
set_option maxHeartbeats 4000000 in
theorem c_X8_undo (l : Launch) (D : va_G) (ca : Nat → ClassId) (ad : Nat → Nat → Nat) (PL : List (Nat × Nat)) (Z : State → Prop) (A : Nat → Prop) (hok : okc bX Z A ad PL) (N : Nat) (w : Mem)  (w' : Mem) (r : Int32) (hf : f_X8_undo N w  = some (w', r)) : CT l yX8_undo (wsy yX8_undo cX8_undo 1 (some .boolean)) (rmk 3) D ca ad PL Z A [.ref (ad 8 0)] w w' (some (.int r)) := by
  refine Met.ofW (cc := cX8_undo) (maxL := 1) (ret := (some .boolean)) (by decide +kernel) rfl ?_
  intro p e s m args below meth c s₁ B hml hv
  obtain ⟨rfl, hP, hK, hZ⟩ := hv
  have hx := B.exec
  have hb := B.bytes
  have hr := B.returns
  have hlocks := B.notSynchronized
  have hts : ∀ w ∈ ALL, w.before _ s = true := fun w hw => atoms_spec (ws := wsy yX8_undo cX8_undo 1 (some .boolean)) B.pre w (List.mem_cons_of_mem _ hw)
  have hown : s.vm.findClass RX8 = some m.cls := findClass_of_methodNamed B.named
  have C : CX p s m _ c cX8_undo RX8 1 D ca Z := ⟨hx, hb, hml, hown, hts, hK, hZ⟩
  have hS : va_S A s.heap s.heap [] := va_S.rf
  have hl := lv_entry ([.ref (ad 8 0)]) (n := 1) (Nat.le_of_ble_eq_true rfl)
  rw [lg_entry_eq]
  generalize (lg_sl ([.ref (ad 8 0)]) ++ List.replicate (1 - (lg_sl ([.ref (ad 8 0)])).length) Slot.unset).toArray = ls at hl ⊢
  have hl : lv_has ls 1 [(0, .ref (ad 8 0))] := hl
  show W p l e (rmk 3) s m _ below meth c s.heap [] 0 0 _ _
  unfold f_X8_undo at hf
  -- walk
  refine lv_aload_n hx hb dX8_undo_0 rfl (lv_at hl 0 rfl) ?_
  obtain ⟨g1, hf⟩ := gsp hf
  refine gt_8_5 (i := 0) C hP (hok.2.1 8 0 (Nat.le_of_ble_eq_true rfl)) lk_X8_43 dX8_undo_1 ?_
  refine gt_1_11 (i := (gR w 8 5 0)) C hP (hok.2.1 1 (gR w 8 5 0) g1) lk_X8_113 dX8_undo_4 ?_
  refine lv_if_ne (tgt := 12) hx hb dX8_undo_7 (by decide) (fun c4 => ?_) (fun c4 => ?_)
  · have hf := ifn hf c4
    refine lv_aload_n hx hb dX8_undo_12 rfl (lv_at hl 0 rfl) ?_
    refine gt_8_5 (i := 0) C hP (hok.2.1 8 0 (Nat.le_of_ble_eq_true rfl)) lk_X8_43 dX8_undo_13 ?_
    obtain ⟨z2, q3, hf⟩ := bsp hf
    refine kc_V (ci := 1) (i := (gR w 8 5 0)) (As := []) (rest := []) hok.2.2.1 C hP hS hl.1 (hok.2.1 1 (gR w 8 5 0) g1) rfl rfl cw_X1_undoLatest ml_X8_300 (c_X1_undoLatest l D ca ad PL Z A hok N w (gR w 8 5 0) g1 z2 q3) rfl ⟨rfl, rfl⟩ ⟨Nat.le_of_ble_eq_true rfl, Nat.le_of_ble_eq_true rfl⟩ ⟨Nat.zero_le _, Nat.zero_le _⟩ (Nat.le_of_ble_eq_true rfl) rfl dX8_undo_16 (fun H locs hP hS => ?_)
    refine lv_aload_n hx hb dX8_undo_19 rfl (lv_at hl 0 rfl) ?_
    refine gt_8_1 (i := 0) C hP (hok.2.1 8 0 (Nat.le_of_ble_eq_true rfl)) lk_X8_19 dX8_undo_20 ?_
    refine lv_iconst (v := (0 : Int32)) hx hb dX8_undo_23 (by decide) ?_
    refine pt_0_4 (i := 0) (v := (0 : Int32)) C hok.1 hP hS (hok.2.1 0 0 (Nat.le_of_ble_eq_true rfl)) (Or.inl rfl) lk_X8_83 dX8_undo_24 (fun H locs hP hS => ?_)
    refine lv_iconst (v := (1 : Int32)) hx hb dX8_undo_27 (by decide) ?_
    exact kr_i hok.2.2.1 C hlocks hr rfl hP hS (congrArg Prod.fst (Option.some.inj hf)) (congrArg Prod.snd (Option.some.inj hf)) dX8_undo_28
  · have hf := ifp hf c4
    refine lv_iconst (v := (0 : Int32)) hx hb dX8_undo_10 (by decide) ?_
    exact kr_i hok.2.2.1 C hlocks hr rfl hP hS (congrArg Prod.fst (Option.some.inj hf)) (congrArg Prod.snd (Option.some.inj hf)) dX8_undo_11
def f_X8_trouble (N : Nat) (w : Mem)  : Option (Int32) :=
  some (gF w 8 7 0)
set_option maxRecDepth 100000 in
set_option maxHeartbeats 4000000 in
theorem c_X8_trouble (l : Launch) (D : va_G) (ca : Nat → ClassId) (ad : Nat → Nat → Nat) (PL : List (Nat × Nat)) (Z : State → Prop) (A : Nat → Prop) (hok : okc bX Z A ad PL) (N : Nat) (w : Mem)  (r : Int32) (hf : f_X8_trouble N w  = some r) : CT l yX8_trouble (wsy yX8_trouble cX8_trouble 1 (some .int)) (rmk 0) D ca ad PL Z A [.ref (ad 8 0)] w w (some (.int r)) := by
  refine Met.ofW (cc := cX8_trouble) (maxL := 1) (ret := (some .int)) (by decide +kernel) rfl ?_
  intro p e s m args below meth c s₁ B hml hv
  obtain ⟨rfl, hP, hK, hZ⟩ := hv
  have hx := B.exec
  have hb := B.bytes
  have hr := B.returns
  have hlocks := B.notSynchronized
  have hts : ∀ w ∈ ALL, w.before _ s = true := fun w hw => atoms_spec (ws := wsy yX8_trouble cX8_trouble 1 (some .int)) B.pre w (List.mem_cons_of_mem _ hw)
  have hown : s.vm.findClass RX8 = some m.cls := findClass_of_methodNamed B.named
  have C : CX p s m _ c cX8_trouble RX8 1 D ca Z := ⟨hx, hb, hml, hown, hts, hK, hZ⟩
  have hS : va_S A s.heap s.heap [] := va_S.rf
  have hl := lv_entry ([.ref (ad 8 0)]) (n := 1) (Nat.le_of_ble_eq_true rfl)
  rw [lg_entry_eq]
  generalize (lg_sl ([.ref (ad 8 0)]) ++ List.replicate (1 - (lg_sl ([.ref (ad 8 0)])).length) Slot.unset).toArray = ls at hl ⊢
  have hl : lv_has ls 1 [(0, .ref (ad 8 0))] := hl
  show W p l e (rmk 0) s m _ below meth c s.heap [] 0 0 _ _
  unfold f_X8_trouble at hf
  -- walk
  refine lv_aload_n hx hb dX8_trouble_0 rfl (lv_at hl 0 rfl) ?_
  refine gt_8_7 (i := 0) C hP (hok.2.1 8 0 (Nat.le_of_ble_eq_true rfl)) lk_X8_318 dX8_trouble_1 ?_
  exact kr_i hok.2.2.1 C hlocks hr rfl hP hS rfl (Option.some.inj hf) dX8_trouble_4
