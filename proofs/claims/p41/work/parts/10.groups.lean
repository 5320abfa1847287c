def f_X3_addLone (N : Nat) (w : Mem) (i0 : Nat) : Option (Mem) :=
  (if (24 : Int32) ≤ (gF w 3 1 i0) then
some w
else
(if inb (gF w 3 1 i0) 24 = true then some (sF (sF (sA w 25 i0 (gF w 3 1 i0).toNatClampNeg (gF w 3 1 i0)) 3 1 i0 ((gF (sA w 25 i0 (gF w 3 1 i0).toNatClampNeg (gF w 3 1 i0)) 3 1 i0) + (1 : Int32))) 3 2 i0 ((gF (sF (sA w 25 i0 (gF w 3 1 i0).toNatClampNeg (gF w 3 1 i0)) 3 1 i0 ((gF (sA w 25 i0 (gF w 3 1 i0).toNatClampNeg (gF w 3 1 i0)) 3 1 i0) + (1 : Int32))) 3 2 i0) + (1 : Int32))) else none))
set_option maxRecDepth 100000 in
set_option maxHeartbeats 4000000 in
theorem c_X3_addLone (l : Launch) (D : va_G) (ca : Nat → ClassId) (ad : Nat → Nat → Nat) (PL : List (Nat × Nat)) (Z : State → Prop) (A : Nat → Prop) (hok : okc bX Z A ad PL) (N : Nat) (w : Mem) (i0 : Nat) (h0 : i0 < 17) (w' : Mem) (hf : f_X3_addLone N w i0 = some w') : CT l yX3_addLone (wsy yX3_addLone cX3_addLone 1 none) (rmk 0) D ca ad PL Z A [.ref (ad 3 i0)] w w' none := by
  refine Met.ofW (cc := cX3_addLone) (maxL := 1) (ret := none) (by decide +kernel) rfl ?_
  intro p e s m args below meth c s₁ B hml hv
  obtain ⟨rfl, hP, hK, hZ⟩ := hv
  have hx := B.exec
  have hb := B.bytes
  have hr := B.returns
  have hlocks := B.notSynchronized
  have hts : ∀ w ∈ ALL, w.before _ s = true := fun w hw => atoms_spec (ws := wsy yX3_addLone cX3_addLone 1 none) B.pre w (List.mem_cons_of_mem _ hw)
  have hown : s.vm.findClass RX3 = some m.cls := findClass_of_methodNamed B.named
  have C : CX p s m _ c cX3_addLone RX3 1 D ca Z := ⟨hx, hb, hml, hown, hts, hK, hZ⟩
  have hS : va_S A s.heap s.heap [] := va_S.rf
  have hl := lv_entry ([.ref (ad 3 i0)]) (n := 1) (Nat.le_of_ble_eq_true rfl)
  rw [lg_entry_eq]
  generalize (lg_sl ([.ref (ad 3 i0)]) ++ List.replicate (1 - (lg_sl ([.ref (ad 3 i0)])).length) Slot.unset).toArray = ls at hl ⊢
  have hl : lv_has ls 1 [(0, .ref (ad 3 i0))] := hl
  show W p l e (rmk 0) s m _ below meth c s.heap [] 0 0 _ _
  unfold f_X3_addLone at hf
  -- walk
  refine lv_aload_n hx hb dX3_addLone_0 rfl (lv_at hl 0 rfl) ?_
  refine gt_3_1 (i := i0) C hP (hok.2.1 3 i0 h0) lk_X3_15 dX3_addLone_1 ?_
  refine lv_bipush (v := (24 : Int32)) hx hb dX3_addLone_4 (by decide) ?_
  refine lv_icmp_ge (tgt := 42) hx hb dX3_addLone_6 (by decide) (fun c2 => ?_) (fun c2 => ?_)
  · have hf := ifp hf c2
    exact kr_v hok.2.2.1 C hlocks hr hP hS (Option.some.inj hf) dX3_addLone_42
  · have hf := ifn hf c2
    refine lv_aload_n hx hb dX3_addLone_9 rfl (lv_at hl 0 rfl) ?_
    refine gt_3_0 (i := i0) C hP (hok.2.1 3 i0 h0) lk_X3_9 dX3_addLone_10 ?_
    refine lv_aload_n hx hb dX3_addLone_13 rfl (lv_at hl 0 rfl) ?_
    refine gt_3_1 (i := i0) C hP (hok.2.1 3 i0 h0) lk_X3_15 dX3_addLone_14 ?_
    refine lv_aload_n hx hb dX3_addLone_17 rfl (lv_at hl 0 rfl) ?_
    refine gt_3_1 (i := i0) C hP (hok.2.1 3 i0 h0) lk_X3_15 dX3_addLone_18 ?_
    obtain ⟨b1, hf⟩ := gsp hf
    refine ra_ist (k := 25) (i := i0) (n := 24) C hok.1 hP hS (hok.2.1 25 i0 h0) (fun _ => rfl) b1 dX3_addLone_21 (fun H locs hP hS => ?_)
    refine lv_aload_n hx hb dX3_addLone_22 rfl (lv_at hl 0 rfl) ?_
    refine lv_dup hx hb dX3_addLone_23 rfl ?_
    refine gt_3_1 (i := i0) C hP (hok.2.1 3 i0 h0) lk_X3_15 dX3_addLone_24 ?_
    refine lv_iconst (v := (1 : Int32)) hx hb dX3_addLone_27 (by decide) ?_
    refine lv_iadd hx hb dX3_addLone_28 ?_
    refine pt_3_1 (i := i0) (v := ((gF (sA w 25 i0 (gF w 3 1 i0).toNatClampNeg (gF w 3 1 i0)) 3 1 i0) + (1 : Int32))) C hok.1 hP hS (hok.2.1 3 i0 h0) lk_X3_15 dX3_addLone_29 (fun H locs hP hS => ?_)
    refine lv_aload_n hx hb dX3_addLone_32 rfl (lv_at hl 0 rfl) ?_
    refine lv_dup hx hb dX3_addLone_33 rfl ?_
    refine gt_3_2 (i := i0) C hP (hok.2.1 3 i0 h0) lk_X3_19 dX3_addLone_34 ?_
    refine lv_iconst (v := (1 : Int32)) hx hb dX3_addLone_37 (by decide) ?_
    refine lv_iadd hx hb dX3_addLone_38 ?_
    refine pt_3_2 (i := i0) (v := ((gF (sF (sA w 25 i0 (gF w 3 1 i0).toNatClampNeg (gF w 3 1 i0)) 3 1 i0 ((gF (sA w 25 i0 (gF w 3 1 i0).toNatClampNeg (gF w 3 1 i0)) 3 1 i0) + (1 : Int32))) 3 2 i0) + (1 : Int32))) C hok.1 hP hS (hok.2.1 3 i0 h0) lk_X3_19 dX3_addLone_39 (fun H locs hP hS => ?_)
    exact kr_v hok.2.2.1 C hlocks hr hP hS (Option.some.inj hf) dX3_addLone_42
def f_X3_partAll_27 (N : Nat) (w : Mem) (i0 : Nat) : Option (Mem) :=
  some w
def lp_X3_partAll_12 (k : Mem → Option (Mem)) (N : Nat) (i0 : Nat) (v1 : Int32) : Nat → Mem → Int32 → Option (Mem)
  | 0, _, _ => none
  | n + 1, w, v2 => (if v1 ≤ v2 then
(k w)
else
(Option.bind (f_X3_addLone N w i0) (fun z2 => (lp_X3_partAll_12 k N  i0 v1 n z2 (v2 + (1 : Int32))))))
def f_X3_partAll (N : Nat) (w : Mem) (i0 : Nat) (x1 : Int32) : Option (Mem) :=
  (lp_X3_partAll_12 (fun (w_1 : Mem) => (f_X3_partAll_27 N w_1 i0  )) N  i0 x1 N (sF (sF w 3 1 i0 (0 : Int32)) 3 2 i0 (0 : Int32)) (0 : Int32))
set_option maxRecDepth 100000 in
set_option maxHeartbeats 4000000 in
theorem c_X3_partAll (l : Launch) (D : va_G) (ca : Nat → ClassId) (ad : Nat → Nat → Nat) (PL : List (Nat × Nat)) (Z : State → Prop) (A : Nat → Prop) (hok : okc bX Z A ad PL) (N : Nat) (w : Mem) (i0 : Nat) (h0 : i0 < 17) (x1 : Int32) (w' : Mem) (hf : f_X3_partAll N w i0 x1 = some w') : CT l yX3_partAll (wsy yX3_partAll cX3_partAll 3 none) (rmk 1) D ca ad PL Z A [.ref (ad 3 i0), .int x1] w w' none := by
  refine Met.ofW (cc := cX3_partAll) (maxL := 3) (ret := none) (by decide +kernel) rfl ?_
  intro p e s m args below meth c s₁ B hml hv
  obtain ⟨rfl, hP, hK, hZ⟩ := hv
  have hx := B.exec
  have hb := B.bytes
  have hr := B.returns
  have hlocks := B.notSynchronized
  have hts : ∀ w ∈ ALL, w.before _ s = true := fun w hw => atoms_spec (ws := wsy yX3_partAll cX3_partAll 3 none) B.pre w (List.mem_cons_of_mem _ hw)
  have hown : s.vm.findClass RX3 = some m.cls := findClass_of_methodNamed B.named
  have C : CX p s m _ c cX3_partAll RX3 3 D ca Z := ⟨hx, hb, hml, hown, hts, hK, hZ⟩
  have hS : va_S A s.heap s.heap [] := va_S.rf
  have hl := lv_entry ([.ref (ad 3 i0), .int x1]) (n := 3) (Nat.le_of_ble_eq_true rfl)
  rw [lg_entry_eq]
  generalize (lg_sl ([.ref (ad 3 i0), .int x1]) ++ List.replicate (3 - (lg_sl ([.ref (ad 3 i0), .int x1])).length) Slot.unset).toArray = ls at hl ⊢
  have hl : lv_has ls 3 [(0, .ref (ad 3 i0)), (1, .int x1)] := hl
  show W p l e (rmk 1) s m _ below meth c s.heap [] 0 0 _ _
  have P_f_X3_partAll_27 : ∀ (w : Mem), f_X3_partAll_27 N w i0   = some w' → WP p l e (rmk 1) s m [.ref (ad 3 i0), .int x1].toArray below meth c D ca ad PL A (MQ below (qcR D ca ad PL Z A w' none) [.ref (ad 3 i0), .int x1].toArray s 0 0 A) 3 27 [] [] w := by
    intro w hf _ _ ls hP hS hl
    unfold f_X3_partAll_27 at hf
    exact kr_v hok.2.2.1 C hlocks hr hP hS (Option.some.inj hf) dX3_partAll_27
  have L_lp_X3_partAll_12 : ∀ (v1 : Int32) (k : Mem → Option (Mem)) (hk : ∀ (w : Mem), k w = some w' → WP p l e (rmk 1) s m [.ref (ad 3 i0), .int x1].toArray below meth c D ca ad PL A (MQ below (qcR D ca ad PL Z A w' none) [.ref (ad 3 i0), .int x1].toArray s 0 0 A) 3 27 [] [] w) (n : Nat) (w : Mem) (v2 : Int32), lp_X3_partAll_12 k N  i0 v1 n w v2 = some w' → WP p l e (rmk 1) s m [.ref (ad 3 i0), .int x1].toArray below meth c D ca ad PL A (MQ below (qcR D ca ad PL Z A w' none) [.ref (ad 3 i0), .int x1].toArray s 0 0 A) 3 12 [] [(0, .ref (ad 3 i0)), (1, .int v1), (2, .int v2)] w := by
    intro v1 k hk n
    induction n with
    | zero => intro w v2 hf; rw [lp_X3_partAll_12] at hf; cases hf
    | succ n ih =>
      intro w v2 hf _ _ ls hP hS hl
      rw [lp_X3_partAll_12] at hf
      refine lv_iload_n hx hb dX3_partAll_12 rfl (lv_at hl 2 rfl) ?_
      refine lv_iload_n hx hb dX3_partAll_13 rfl (lv_at hl 1 rfl) ?_
      refine lv_icmp_ge (tgt := 27) hx hb dX3_partAll_14 (by decide) (fun c4 => ?_) (fun c4 => ?_)
      · have hf := ifp hf c4
        exact hk w hf _ _ ls hP hS (lv_sub hl [] rfl)
      · have hf := ifn hf c4
        refine lv_aload_n hx hb dX3_partAll_17 rfl (lv_at hl 0 rfl) ?_
        obtain ⟨z2, q3, hf⟩ := bsp hf
        refine kc_V (ci := 3) (i := i0) (As := []) (rest := []) hok.2.2.1 C hP hS hl.1 (hok.2.1 3 i0 h0) rfl rfl cw_X3_addLone ml_X3_22 (c_X3_addLone l D ca ad PL Z A hok N w i0 h0 z2 q3) rfl ⟨rfl, rfl⟩ ⟨Nat.le_of_ble_eq_true rfl, Nat.le_of_ble_eq_true rfl⟩ ⟨Nat.zero_le _, Nat.zero_le _⟩ (Nat.le_of_ble_eq_true rfl) rfl dX3_partAll_18 (fun H locs hP hS => ?_)
        refine lv_iinc (v := (v2 + (1 : Int32))) (lv' := [(2, .int (v2 + (1 : Int32))), (0, .ref (ad 3 i0)), (1, .int v1)]) hx hb dX3_partAll_21 hl (k := 2) rfl rfl (by decide) rfl (fun ls hl => ?_)
        refine lv_goto (tgt := 12) hx hb dX3_partAll_24 (by decide) ?_
        exact ih z2 (v2 + (1 : Int32)) hf _ _ ls hP hS (lv_sub hl [1, 2, 0] rfl)
  unfold f_X3_partAll at hf
  -- walk
  refine lv_aload_n hx hb dX3_partAll_0 rfl (lv_at hl 0 rfl) ?_
  refine lv_iconst (v := (0 : Int32)) hx hb dX3_partAll_1 (by decide) ?_
  refine pt_3_1 (i := i0) (v := (0 : Int32)) C hok.1 hP hS (hok.2.1 3 i0 h0) lk_X3_15 dX3_partAll_2 (fun H locs hP hS => ?_)
  refine lv_aload_n hx hb dX3_partAll_5 rfl (lv_at hl 0 rfl) ?_
  refine lv_iconst (v := (0 : Int32)) hx hb dX3_partAll_6 (by decide) ?_
  refine pt_3_2 (i := i0) (v := (0 : Int32)) C hok.1 hP hS (hok.2.1 3 i0 h0) lk_X3_19 dX3_partAll_7 (fun H locs hP hS => ?_)
  refine lv_iconst (v := (0 : Int32)) hx hb dX3_partAll_10 (by decide) ?_
  refine lv_istore_n (lv' := [(2, .int (0 : Int32)), (0, .ref (ad 3 i0)), (1, .int x1)]) hx hb dX3_partAll_11 rfl hl (by decide) rfl (fun ls hl => ?_)
  exact L_lp_X3_partAll_12 x1 _ (fun w_1 hf H locs ls hP hS hl => P_f_X3_partAll_27 w_1 hf _ _ ls hP hS (lv_sub hl [] rfl)) N (sF (sF w 3 1 i0 (0 : Int32)) 3 2 i0 (0 : Int32)) (0 : Int32) hf _ _ ls hP hS (lv_sub hl [1, 2, 0] rfl)
def f_X3_one (N : Nat) (w : Mem) (i0 : Nat) (x1 : Int32) (x2 : Int32) : Option (Int32) :=
  (if inb x1 24 = true then (if inb x2 24 = true then (if (gA w 25 i0 x1.toNatClampNeg) = (gA w 25 i0 x2.toNatClampNeg) then
some (1 : Int32)
else
some (0 : Int32)) else none) else none)
set_option maxRecDepth 100000 in
set_option maxHeartbeats 4000000 in
theorem c_X3_one (l : Launch) (D : va_G) (ca : Nat → ClassId) (ad : Nat → Nat → Nat) (PL : List (Nat × Nat)) (Z : State → Prop) (A : Nat → Prop) (hok : okc bX Z A ad PL) (N : Nat) (w : Mem) (i0 : Nat) (h0 : i0 < 17) (x1 : Int32) (x2 : Int32) (r : Int32) (hf : f_X3_one N w i0 x1 x2 = some r) : CT l yX3_one (wsy yX3_one cX3_one 3 (some .boolean)) (rmk 0) D ca ad PL Z A [.ref (ad 3 i0), .int x1, .int x2] w w (some (.int r)) := by
  refine Met.ofW (cc := cX3_one) (maxL := 3) (ret := (some .boolean)) (by decide +kernel) rfl ?_
  intro p e s m args below meth c s₁ B hml hv
  obtain ⟨rfl, hP, hK, hZ⟩ := hv
  have hx := B.exec
  have hb := B.bytes
  have hr := B.returns
  have hlocks := B.notSynchronized
  have hts : ∀ w ∈ ALL, w.before _ s = true := fun w hw => atoms_spec (ws := wsy yX3_one cX3_one 3 (some .boolean)) B.pre w (List.mem_cons_of_mem _ hw)
  have hown : s.vm.findClass RX3 = some m.cls := findClass_of_methodNamed B.named
  have C : CX p s m _ c cX3_one RX3 3 D ca Z := ⟨hx, hb, hml, hown, hts, hK, hZ⟩
  have hS : va_S A s.heap s.heap [] := va_S.rf
  have hl := lv_entry ([.ref (ad 3 i0), .int x1, .int x2]) (n := 3) (Nat.le_of_ble_eq_true rfl)
  rw [lg_entry_eq]
  generalize (lg_sl ([.ref (ad 3 i0), .int x1, .int x2]) ++ List.replicate (3 - (lg_sl ([.ref (ad 3 i0), .int x1, .int x2])).length) Slot.unset).toArray = ls at hl ⊢
  have hl : lv_has ls 3 [(0, .ref (ad 3 i0)), (1, .int x1), (2, .int x2)] := hl
  show W p l e (rmk 0) s m _ below meth c s.heap [] 0 0 _ _
  unfold f_X3_one at hf
  -- walk
  refine lv_aload_n hx hb dX3_one_0 rfl (lv_at hl 0 rfl) ?_
  refine gt_3_0 (i := i0) C hP (hok.2.1 3 i0 h0) lk_X3_9 dX3_one_1 ?_
  refine lv_iload_n hx hb dX3_one_4 rfl (lv_at hl 1 rfl) ?_
  obtain ⟨b1, hf⟩ := gsp hf
  refine ra_ild (k := 25) (i := i0) (n := 24) (f := (gA w 25 i0)) C hP (hok.2.1 25 i0 h0) rfl b1 dX3_one_5 ?_
  refine lv_aload_n hx hb dX3_one_6 rfl (lv_at hl 0 rfl) ?_
  refine gt_3_0 (i := i0) C hP (hok.2.1 3 i0 h0) lk_X3_9 dX3_one_7 ?_
  refine lv_iload_n hx hb dX3_one_10 rfl (lv_at hl 2 rfl) ?_
  obtain ⟨b2, hf⟩ := gsp hf
  refine ra_ild (k := 25) (i := i0) (n := 24) (f := (gA w 25 i0)) C hP (hok.2.1 25 i0 h0) rfl b2 dX3_one_11 ?_
  refine lv_icmp_ne (tgt := 19) hx hb dX3_one_12 (by decide) (fun c3 => ?_) (fun c3 => ?_)
  · have hf := ifn hf c3
    refine lv_iconst (v := (0 : Int32)) hx hb dX3_one_19 (by decide) ?_
    exact kr_i hok.2.2.1 C hlocks hr rfl hP hS rfl (Option.some.inj hf) dX3_one_20
  · have hf := ifp hf c3
    refine lv_iconst (v := (1 : Int32)) hx hb dX3_one_15 (by decide) ?_
    refine lv_goto (tgt := 20) hx hb dX3_one_16 (by decide) ?_
    exact kr_i hok.2.2.1 C hlocks hr rfl hP hS rfl (Option.some.inj hf) dX3_one_20
def f_X3_unite_79 (N : Nat) (w : Mem) (i0 : Nat) : Option (Mem) :=
  some (sF w 3 2 i0 ((gF w 3 2 i0) - (1 : Int32)))
def lp_X3_unite_44 (k : Mem → Option (Mem)) (N : Nat) (i0 : Nat) (v3 : Int32) (v4 : Int32) : Nat → Mem → Int32 → Option (Mem)
  | 0, _, _ => none
  | n + 1, w, v5 => (if (gF w 3 1 i0) ≤ v5 then
(k w)
else
(if inb v5 24 = true then (if (gA w 25 i0 v5.toNatClampNeg) = v4 then
(lp_X3_unite_44 k N  i0 v3 v4 n (sA w 25 i0 v5.toNatClampNeg v3) (v5 + (1 : Int32)))
else
(lp_X3_unite_44 k N  i0 v3 v4 n w (v5 + (1 : Int32)))) else none))
def f_X3_unite (N : Nat) (w : Mem) (i0 : Nat) (x1 : Int32) (x2 : Int32) : Option (Mem) :=
  (if inb x1 24 = true then (if inb x2 24 = true then (if (if (gA w 25 i0 x2.toNatClampNeg) < (gA w 25 i0 x1.toNatClampNeg) then (gA w 25 i0 x2.toNatClampNeg) else (gA w 25 i0 x1.toNatClampNeg)) = (if (gA w 25 i0 x1.toNatClampNeg) < (gA w 25 i0 x2.toNatClampNeg) then (gA w 25 i0 x2.toNatClampNeg) else (gA w 25 i0 x1.toNatClampNeg)) then
some w
else
(lp_X3_unite_44 (fun (w_3 : Mem) => (f_X3_unite_79 N w_3 i0  )) N  i0 (if (gA w 25 i0 x2.toNatClampNeg) < (gA w 25 i0 x1.toNatClampNeg) then (gA w 25 i0 x2.toNatClampNeg) else (gA w 25 i0 x1.toNatClampNeg)) (if (gA w 25 i0 x1.toNatClampNeg) < (gA w 25 i0 x2.toNatClampNeg) then (gA w 25 i0 x2.toNatClampNeg) else (gA w 25 i0 x1.toNatClampNeg)) N w (if (gA w 25 i0 x1.toNatClampNeg) < (gA w 25 i0 x2.toNatClampNeg) then (gA w 25 i0 x2.toNatClampNeg) else (gA w 25 i0 x1.toNatClampNeg)))) else none) else none)
set_option maxRecDepth 100000 in
set_option maxHeartbeats 4000000 in
theorem c_X3_unite (l : Launch) (D : va_G) (ca : Nat → ClassId) (ad : Nat → Nat → Nat) (PL : List (Nat × Nat)) (Z : State → Prop) (A : Nat → Prop) (hok : okc bX Z A ad PL) (N : Nat) (w : Mem) (i0 : Nat) (h0 : i0 < 17) (x1 : Int32) (x2 : Int32) (w' : Mem) (hf : f_X3_unite N w i0 x1 x2 = some w') : CT l yX3_unite (wsy yX3_unite cX3_unite 6 none) (rmk 1) D ca ad PL Z A [.ref (ad 3 i0), .int x1, .int x2] w w' none := by
  refine Met.ofW (cc := cX3_unite) (maxL := 6) (ret := none) (by decide +kernel) rfl ?_
  intro p e s m args below meth c s₁ B hml hv
  obtain ⟨rfl, hP, hK, hZ⟩ := hv
  have hx := B.exec
  have hb := B.bytes
  have hr := B.returns
  have hlocks := B.notSynchronized
  have hts : ∀ w ∈ ALL, w.before _ s = true := fun w hw => atoms_spec (ws := wsy yX3_unite cX3_unite 6 none) B.pre w (List.mem_cons_of_mem _ hw)
  have hown : s.vm.findClass RX3 = some m.cls := findClass_of_methodNamed B.named
  have C : CX p s m _ c cX3_unite RX3 6 D ca Z := ⟨hx, hb, hml, hown, hts, hK, hZ⟩
  have hS : va_S A s.heap s.heap [] := va_S.rf
  have hl := lv_entry ([.ref (ad 3 i0), .int x1, .int x2]) (n := 6) (Nat.le_of_ble_eq_true rfl)
  rw [lg_entry_eq]
  generalize (lg_sl ([.ref (ad 3 i0), .int x1, .int x2]) ++ List.replicate (6 - (lg_sl ([.ref (ad 3 i0), .int x1, .int x2])).length) Slot.unset).toArray = ls at hl ⊢
  have hl : lv_has ls 6 [(0, .ref (ad 3 i0)), (1, .int x1), (2, .int x2)] := hl
  show W p l e (rmk 1) s m _ below meth c s.heap [] 0 0 _ _
  have P_f_X3_unite_79 : ∀ (w : Mem), f_X3_unite_79 N w i0   = some w' → WP p l e (rmk 1) s m [.ref (ad 3 i0), .int x1, .int x2].toArray below meth c D ca ad PL A (MQ below (qcR D ca ad PL Z A w' none) [.ref (ad 3 i0), .int x1, .int x2].toArray s 0 0 A) 6 79 [] [(0, .ref (ad 3 i0))] w := by
    intro w hf _ _ ls hP hS hl
    unfold f_X3_unite_79 at hf
    refine lv_aload_n hx hb dX3_unite_79 rfl (lv_at hl 0 rfl) ?_
    refine lv_dup hx hb dX3_unite_80 rfl ?_
    refine gt_3_2 (i := i0) C hP (hok.2.1 3 i0 h0) lk_X3_19 dX3_unite_81 ?_
    refine lv_iconst (v := (1 : Int32)) hx hb dX3_unite_84 (by decide) ?_
    refine lv_isub hx hb dX3_unite_85 ?_
    refine pt_3_2 (i := i0) (v := ((gF w 3 2 i0) - (1 : Int32))) C hok.1 hP hS (hok.2.1 3 i0 h0) lk_X3_19 dX3_unite_86 (fun H locs hP hS => ?_)
    exact kr_v hok.2.2.1 C hlocks hr hP hS (Option.some.inj hf) dX3_unite_89
  have L_lp_X3_unite_44 : ∀ (v3 : Int32) (v4 : Int32) (k : Mem → Option (Mem)) (hk : ∀ (w : Mem), k w = some w' → WP p l e (rmk 1) s m [.ref (ad 3 i0), .int x1, .int x2].toArray below meth c D ca ad PL A (MQ below (qcR D ca ad PL Z A w' none) [.ref (ad 3 i0), .int x1, .int x2].toArray s 0 0 A) 6 79 [] [(0, .ref (ad 3 i0))] w) (n : Nat) (w : Mem) (v5 : Int32), lp_X3_unite_44 k N  i0 v3 v4 n w v5 = some w' → WP p l e (rmk 1) s m [.ref (ad 3 i0), .int x1, .int x2].toArray below meth c D ca ad PL A (MQ below (qcR D ca ad PL Z A w' none) [.ref (ad 3 i0), .int x1, .int x2].toArray s 0 0 A) 6 44 [] [(0, .ref (ad 3 i0)), (3, .int v3), (4, .int v4), (5, .int v5)] w := by
    intro v3 v4 k hk n
    induction n with
    | zero => intro w v5 hf; rw [lp_X3_unite_44] at hf; cases hf
    | succ n ih =>
      intro w v5 hf _ _ ls hP hS hl
      rw [lp_X3_unite_44] at hf
      refine lv_iload hx hb dX3_unite_44 (lv_at hl 3 rfl) ?_
      refine lv_aload_n hx hb dX3_unite_46 rfl (lv_at hl 0 rfl) ?_
      refine gt_3_1 (i := i0) C hP (hok.2.1 3 i0 h0) lk_X3_15 dX3_unite_47 ?_
      refine lv_icmp_ge (tgt := 79) hx hb dX3_unite_50 (by decide) (fun c6 => ?_) (fun c6 => ?_)
      · have hf := ifp hf c6
        exact hk w hf _ _ ls hP hS (lv_sub hl [0] rfl)
      · have hf := ifn hf c6
        refine lv_aload_n hx hb dX3_unite_53 rfl (lv_at hl 0 rfl) ?_
        refine gt_3_0 (i := i0) C hP (hok.2.1 3 i0 h0) lk_X3_9 dX3_unite_54 ?_
        refine lv_iload hx hb dX3_unite_57 (lv_at hl 3 rfl) ?_
        obtain ⟨b4, hf⟩ := gsp hf
        refine ra_ild (k := 25) (i := i0) (n := 24) (f := (gA w 25 i0)) C hP (hok.2.1 25 i0 h0) rfl b4 dX3_unite_59 ?_
        refine lv_iload hx hb dX3_unite_60 (lv_at hl 2 rfl) ?_
        refine lv_icmp_ne (tgt := 73) hx hb dX3_unite_62 (by decide) (fun c5 => ?_) (fun c5 => ?_)
        · have hf := ifn hf c5
          refine lv_iinc (v := (v5 + (1 : Int32))) (lv' := [(5, .int (v5 + (1 : Int32))), (0, .ref (ad 3 i0)), (3, .int v3), (4, .int v4)]) hx hb dX3_unite_73 hl (k := 3) rfl rfl (by decide) rfl (fun ls hl => ?_)
          refine lv_goto (tgt := 44) hx hb dX3_unite_76 (by decide) ?_
          exact ih w (v5 + (1 : Int32)) hf _ _ ls hP hS (lv_sub hl [1, 2, 3, 0] rfl)
        · have hf := ifp hf c5
          refine lv_aload_n hx hb dX3_unite_65 rfl (lv_at hl 0 rfl) ?_
          refine gt_3_0 (i := i0) C hP (hok.2.1 3 i0 h0) lk_X3_9 dX3_unite_66 ?_
          refine lv_iload hx hb dX3_unite_69 (lv_at hl 3 rfl) ?_
          refine lv_iload_n hx hb dX3_unite_71 rfl (lv_at hl 1 rfl) ?_
          refine ra_ist (k := 25) (i := i0) (n := 24) C hok.1 hP hS (hok.2.1 25 i0 h0) (fun _ => rfl) b4 dX3_unite_72 (fun H locs hP hS => ?_)
          refine lv_iinc (v := (v5 + (1 : Int32))) (lv' := [(5, .int (v5 + (1 : Int32))), (0, .ref (ad 3 i0)), (3, .int v3), (4, .int v4)]) hx hb dX3_unite_73 hl (k := 3) rfl rfl (by decide) rfl (fun ls hl => ?_)
          refine lv_goto (tgt := 44) hx hb dX3_unite_76 (by decide) ?_
          exact ih (sA w 25 i0 v5.toNatClampNeg v3) (v5 + (1 : Int32)) hf _ _ ls hP hS (lv_sub hl [1, 2, 3, 0] rfl)
  unfold f_X3_unite at hf
  -- walk
  refine lv_aload_n hx hb dX3_unite_0 rfl (lv_at hl 0 rfl) ?_
  refine gt_3_0 (i := i0) C hP (hok.2.1 3 i0 h0) lk_X3_9 dX3_unite_1 ?_
  refine lv_iload_n hx hb dX3_unite_4 rfl (lv_at hl 1 rfl) ?_
  obtain ⟨b1, hf⟩ := gsp hf
  refine ra_ild (k := 25) (i := i0) (n := 24) (f := (gA w 25 i0)) C hP (hok.2.1 25 i0 h0) rfl b1 dX3_unite_5 ?_
  refine lv_aload_n hx hb dX3_unite_6 rfl (lv_at hl 0 rfl) ?_
  refine gt_3_0 (i := i0) C hP (hok.2.1 3 i0 h0) lk_X3_9 dX3_unite_7 ?_
  refine lv_iload_n hx hb dX3_unite_10 rfl (lv_at hl 2 rfl) ?_
  obtain ⟨b2, hf⟩ := gsp hf
  refine ra_ild (k := 25) (i := i0) (n := 24) (f := (gA w 25 i0)) C hP (hok.2.1 25 i0 h0) rfl b2 dX3_unite_11 ?_
  refine km_min C hl.1 ml_X3_31 ⟨Nat.le_of_ble_eq_true rfl, Nat.le_of_ble_eq_true rfl⟩ ⟨Nat.zero_le _, Nat.zero_le _⟩ dX3_unite_12 ?_
  refine lv_istore_n (lv' := [(3, .int (if (gA w 25 i0 x2.toNatClampNeg) < (gA w 25 i0 x1.toNatClampNeg) then (gA w 25 i0 x2.toNatClampNeg) else (gA w 25 i0 x1.toNatClampNeg))), (0, .ref (ad 3 i0)), (1, .int x1), (2, .int x2)]) hx hb dX3_unite_15 rfl hl (by decide) rfl (fun ls hl => ?_)
  refine lv_aload_n hx hb dX3_unite_16 rfl (lv_at hl 1 rfl) ?_
  refine gt_3_0 (i := i0) C hP (hok.2.1 3 i0 h0) lk_X3_9 dX3_unite_17 ?_
  refine lv_iload_n hx hb dX3_unite_20 rfl (lv_at hl 2 rfl) ?_
  refine ra_ild (k := 25) (i := i0) (n := 24) (f := (gA w 25 i0)) C hP (hok.2.1 25 i0 h0) rfl b1 dX3_unite_21 ?_
  refine lv_aload_n hx hb dX3_unite_22 rfl (lv_at hl 1 rfl) ?_
  refine gt_3_0 (i := i0) C hP (hok.2.1 3 i0 h0) lk_X3_9 dX3_unite_23 ?_
  refine lv_iload_n hx hb dX3_unite_26 rfl (lv_at hl 3 rfl) ?_
  refine ra_ild (k := 25) (i := i0) (n := 24) (f := (gA w 25 i0)) C hP (hok.2.1 25 i0 h0) rfl b2 dX3_unite_27 ?_
  refine km_max C hl.1 ml_X3_37 ⟨Nat.le_of_ble_eq_true rfl, Nat.le_of_ble_eq_true rfl⟩ ⟨Nat.zero_le _, Nat.zero_le _⟩ dX3_unite_28 ?_
  refine lv_istore (lv' := [(4, .int (if (gA w 25 i0 x1.toNatClampNeg) < (gA w 25 i0 x2.toNatClampNeg) then (gA w 25 i0 x2.toNatClampNeg) else (gA w 25 i0 x1.toNatClampNeg))), (3, .int (if (gA w 25 i0 x2.toNatClampNeg) < (gA w 25 i0 x1.toNatClampNeg) then (gA w 25 i0 x2.toNatClampNeg) else (gA w 25 i0 x1.toNatClampNeg))), (0, .ref (ad 3 i0)), (1, .int x1), (2, .int x2)]) hx hb dX3_unite_31 hl (by decide) rfl (fun ls hl => ?_)
  refine lv_iload_n hx hb dX3_unite_33 rfl (lv_at hl 1 rfl) ?_
  refine lv_iload hx hb dX3_unite_34 (lv_at hl 0 rfl) ?_
  refine lv_icmp_ne (tgt := 40) hx hb dX3_unite_36 (by decide) (fun c7 => ?_) (fun c7 => ?_)
  · have hf := ifn hf c7
    refine lv_iload hx hb dX3_unite_40 (lv_at hl 0 rfl) ?_
    refine lv_istore (lv' := [(5, .int (if (gA w 25 i0 x1.toNatClampNeg) < (gA w 25 i0 x2.toNatClampNeg) then (gA w 25 i0 x2.toNatClampNeg) else (gA w 25 i0 x1.toNatClampNeg))), (4, .int (if (gA w 25 i0 x1.toNatClampNeg) < (gA w 25 i0 x2.toNatClampNeg) then (gA w 25 i0 x2.toNatClampNeg) else (gA w 25 i0 x1.toNatClampNeg))), (3, .int (if (gA w 25 i0 x2.toNatClampNeg) < (gA w 25 i0 x1.toNatClampNeg) then (gA w 25 i0 x2.toNatClampNeg) else (gA w 25 i0 x1.toNatClampNeg))), (0, .ref (ad 3 i0)), (1, .int x1), (2, .int x2)]) hx hb dX3_unite_42 hl (by decide) rfl (fun ls hl => ?_)
    exact L_lp_X3_unite_44 (if (gA w 25 i0 x2.toNatClampNeg) < (gA w 25 i0 x1.toNatClampNeg) then (gA w 25 i0 x2.toNatClampNeg) else (gA w 25 i0 x1.toNatClampNeg)) (if (gA w 25 i0 x1.toNatClampNeg) < (gA w 25 i0 x2.toNatClampNeg) then (gA w 25 i0 x2.toNatClampNeg) else (gA w 25 i0 x1.toNatClampNeg)) _ (fun w_3 hf H locs ls hP hS hl => P_f_X3_unite_79 w_3 hf _ _ ls hP hS (lv_sub hl [0] rfl)) N w (if (gA w 25 i0 x1.toNatClampNeg) < (gA w 25 i0 x2.toNatClampNeg) then (gA w 25 i0 x2.toNatClampNeg) else (gA w 25 i0 x1.toNatClampNeg)) hf _ _ ls hP hS (lv_sub hl [3, 2, 1, 0] rfl)
  · have hf := ifp hf c7
    exact kr_v hok.2.2.1 C hlocks hr hP hS (Option.some.inj hf) dX3_unite_39
def f_X3_copyFrom (N : Nat) (w : Mem) (i0 : Nat) (i1 : Nat) : Option (Mem) :=
  some (sF (sF (sAf w 25 i0 (va_cpy (gA w 25 i1) (gA w 25 i0) (0 : Int32).toNatClampNeg (0 : Int32).toNatClampNeg (24 : Int32).toNatClampNeg)) 3 1 i0 (gF (sAf w 25 i0 (va_cpy (gA w 25 i1) (gA w 25 i0) (0 : Int32).toNatClampNeg (0 : Int32).toNatClampNeg (24 : Int32).toNatClampNeg)) 3 1 i1)) 3 2 i0 (gF (sF (sAf w 25 i0 (va_cpy (gA w 25 i1) (gA w 25 i0) (0 : Int32).toNatClampNeg (0 : Int32).toNatClampNeg (24 : Int32).toNatClampNeg)) 3 1 i0 (gF (sAf w 25 i0 (va_cpy (gA w 25 i1) (gA w 25 i0) (0 : Int32).toNatClampNeg (0 : Int32).toNatClampNeg (24 : Int32).toNatClampNeg)) 3 1 i1)) 3 2 i1))
set_option maxRecDepth 100000 in
set_option maxHeartbeats 4000000 in
theorem c_X3_copyFrom (l : Launch) (D : va_G) (ca : Nat → ClassId) (ad : Nat → Nat → Nat) (PL : List (Nat × Nat)) (Z : State → Prop) (A : Nat → Prop) (hok : okc bX Z A ad PL) (N : Nat) (w : Mem) (i0 : Nat) (h0 : i0 < 17) (i1 : Nat) (h1 : i1 < 17) (w' : Mem) (hf : f_X3_copyFrom N w i0 i1 = some w') : CT l yX3_copyFrom (wsy yX3_copyFrom cX3_copyFrom 2 none) (rmk 1) D ca ad PL Z A [.ref (ad 3 i0), .ref (ad 3 i1)] w w' none := by
  refine Met.ofW (cc := cX3_copyFrom) (maxL := 2) (ret := none) (by decide +kernel) rfl ?_
  intro p e s m args below meth c s₁ B hml hv
  obtain ⟨rfl, hP, hK, hZ⟩ := hv
  have hx := B.exec
  have hb := B.bytes
  have hr := B.returns
  have hlocks := B.notSynchronized
  have hts : ∀ w ∈ ALL, w.before _ s = true := fun w hw => atoms_spec (ws := wsy yX3_copyFrom cX3_copyFrom 2 none) B.pre w (List.mem_cons_of_mem _ hw)
  have hown : s.vm.findClass RX3 = some m.cls := findClass_of_methodNamed B.named
  have C : CX p s m _ c cX3_copyFrom RX3 2 D ca Z := ⟨hx, hb, hml, hown, hts, hK, hZ⟩
  have hS : va_S A s.heap s.heap [] := va_S.rf
  have hl := lv_entry ([.ref (ad 3 i0), .ref (ad 3 i1)]) (n := 2) (Nat.le_of_ble_eq_true rfl)
  rw [lg_entry_eq]
  generalize (lg_sl ([.ref (ad 3 i0), .ref (ad 3 i1)]) ++ List.replicate (2 - (lg_sl ([.ref (ad 3 i0), .ref (ad 3 i1)])).length) Slot.unset).toArray = ls at hl ⊢
  have hl : lv_has ls 2 [(0, .ref (ad 3 i0)), (1, .ref (ad 3 i1))] := hl
  show W p l e (rmk 1) s m _ below meth c s.heap [] 0 0 _ _
  unfold f_X3_copyFrom at hf
  -- walk
  refine lv_aload_n hx hb dX3_copyFrom_0 rfl (lv_at hl 1 rfl) ?_
  refine gt_3_0 (i := i1) C hP (hok.2.1 3 i1 h1) lk_X3_9 dX3_copyFrom_1 ?_
  refine lv_iconst (v := (0 : Int32)) hx hb dX3_copyFrom_4 (by decide) ?_
  refine lv_aload_n hx hb dX3_copyFrom_5 rfl (lv_at hl 0 rfl) ?_
  refine gt_3_0 (i := i0) C hP (hok.2.1 3 i0 h0) lk_X3_9 dX3_copyFrom_6 ?_
  refine lv_iconst (v := (0 : Int32)) hx hb dX3_copyFrom_9 (by decide) ?_
  refine lv_bipush (v := (24 : Int32)) hx hb dX3_copyFrom_10 (by decide) ?_
  refine km_copy (k := 25) (i := i0) (k0 := 25) (i0 := i1) (n0 := 24) (n1 := 24) C hl.1 hok.1 hP hS (hok.2.1 25 i1 h1) (hok.2.1 25 i0 h0) rfl (fun _ => rfl) ml_X3_25 (by decide) (by decide) (by decide) (by decide) (by decide) ⟨Nat.le_of_ble_eq_true rfl, by decide⟩ dX3_copyFrom_12 (fun H locs hP hS => ?_)
  refine lv_aload_n hx hb dX3_copyFrom_15 rfl (lv_at hl 0 rfl) ?_
  refine lv_aload_n hx hb dX3_copyFrom_16 rfl (lv_at hl 1 rfl) ?_
  refine gt_3_1 (i := i1) C hP (hok.2.1 3 i1 h1) lk_X3_15 dX3_copyFrom_17 ?_
  refine pt_3_1 (i := i0) (v := (gF (sAf w 25 i0 (va_cpy (gA w 25 i1) (gA w 25 i0) (0 : Int32).toNatClampNeg (0 : Int32).toNatClampNeg (24 : Int32).toNatClampNeg)) 3 1 i1)) C hok.1 hP hS (hok.2.1 3 i0 h0) lk_X3_15 dX3_copyFrom_20 (fun H locs hP hS => ?_)
  refine lv_aload_n hx hb dX3_copyFrom_23 rfl (lv_at hl 0 rfl) ?_
  refine lv_aload_n hx hb dX3_copyFrom_24 rfl (lv_at hl 1 rfl) ?_
  refine gt_3_2 (i := i1) C hP (hok.2.1 3 i1 h1) lk_X3_19 dX3_copyFrom_25 ?_
  refine pt_3_2 (i := i0) (v := (gF (sF (sAf w 25 i0 (va_cpy (gA w 25 i1) (gA w 25 i0) (0 : Int32).toNatClampNeg (0 : Int32).toNatClampNeg (24 : Int32).toNatClampNeg)) 3 1 i0 (gF (sAf w 25 i0 (va_cpy (gA w 25 i1) (gA w 25 i0) (0 : Int32).toNatClampNeg (0 : Int32).toNatClampNeg (24 : Int32).toNatClampNeg)) 3 1 i1)) 3 2 i1)) C hok.1 hP hS (hok.2.1 3 i0 h0) lk_X3_19 dX3_copyFrom_28 (fun H locs hP hS => ?_)
  exact kr_v hok.2.2.1 C hlocks hr hP hS (Option.some.inj hf) dX3_copyFrom_31
def f_X3_members_30 (N : Nat) (w : Mem) (i0 : Nat) (v2 : Int32) : Option (Int32) :=
  some v2
def lp_X3_members_4 (k : Int32 → Option (Int32)) (N : Nat) (w : Mem) (i0 : Nat) (v1 : Int32) : Nat → Int32 → Int32 → Option (Int32)
  | 0, _, _ => none
  | n + 1, v2, v3 => (if (gF w 3 1 i0) ≤ v3 then
(k v2)
else
(Option.bind (f_X3_one N w i0 v3 v1) (fun z2 => (if z2 = (0 : Int32) then
(lp_X3_members_4 k N w i0 v1 n v2 (v3 + (1 : Int32)))
else
(lp_X3_members_4 k N w i0 v1 n (v2 + (1 : Int32)) (v3 + (1 : Int32)))))))
def f_X3_members (N : Nat) (w : Mem) (i0 : Nat) (x1 : Int32) : Option (Int32) :=
  (lp_X3_members_4 (fun (u2_1 : Int32) => (f_X3_members_30 N w i0 u2_1 )) N w i0 x1 N (0 : Int32) (0 : Int32))
set_option maxRecDepth 100000 in
set_option maxHeartbeats 4000000 in
theorem c_X3_members (l : Launch) (D : va_G) (ca : Nat → ClassId) (ad : Nat → Nat → Nat) (PL : List (Nat × Nat)) (Z : State → Prop) (A : Nat → Prop) (hok : okc bX Z A ad PL) (N : Nat) (w : Mem) (i0 : Nat) (h0 : i0 < 17) (x1 : Int32) (r : Int32) (hf : f_X3_members N w i0 x1 = some r) : CT l yX3_members (wsy yX3_members cX3_members 4 (some .int)) (rmk 1) D ca ad PL Z A [.ref (ad 3 i0), .int x1] w w (some (.int r)) := by
  refine Met.ofW (cc := cX3_members) (maxL := 4) (ret := (some .int)) (by decide +kernel) rfl ?_
  intro p e s m args below meth c s₁ B hml hv
  obtain ⟨rfl, hP, hK, hZ⟩ := hv
  have hx := B.exec
  have hb := B.bytes
  have hr := B.returns
  have hlocks := B.notSynchronized
  have hts : ∀ w ∈ ALL, w.before _ s = true := fun w hw => atoms_spec (ws := wsy yX3_members cX3_members 4 (some .int)) B.pre w (List.mem_cons_of_mem _ hw)
  have hown : s.vm.findClass RX3 = some m.cls := findClass_of_methodNamed B.named
  have C : CX p s m _ c cX3_members RX3 4 D ca Z := ⟨hx, hb, hml, hown, hts, hK, hZ⟩
  have hS : va_S A s.heap s.heap [] := va_S.rf
  have hl := lv_entry ([.ref (ad 3 i0), .int x1]) (n := 4) (Nat.le_of_ble_eq_true rfl)
  rw [lg_entry_eq]
  generalize (lg_sl ([.ref (ad 3 i0), .int x1]) ++ List.replicate (4 - (lg_sl ([.ref (ad 3 i0), .int x1])).length) Slot.unset).toArray = ls at hl ⊢
  have hl : lv_has ls 4 [(0, .ref (ad 3 i0)), (1, .int x1)] := hl
  show W p l e (rmk 1) s m _ below meth c s.heap [] 0 0 _ _
  have P_f_X3_members_30 : ∀ (v2 : Int32), f_X3_members_30 N w i0 v2  = some r → WP p l e (rmk 1) s m [.ref (ad 3 i0), .int x1].toArray below meth c D ca ad PL A (MQ below (qcR D ca ad PL Z A w (some (.int r))) [.ref (ad 3 i0), .int x1].toArray s 0 0 A) 4 30 [] [(2, .int v2)] w := by
    intro v2 hf _ _ ls hP hS hl
    unfold f_X3_members_30 at hf
    refine lv_iload_n hx hb dX3_members_30 rfl (lv_at hl 0 rfl) ?_
    exact kr_i hok.2.2.1 C hlocks hr rfl hP hS rfl (Option.some.inj hf) dX3_members_31
  have L_lp_X3_members_4 : ∀ (v1 : Int32) (k : Int32 → Option (Int32)) (hk : ∀ (v2 : Int32), k v2 = some r → WP p l e (rmk 1) s m [.ref (ad 3 i0), .int x1].toArray below meth c D ca ad PL A (MQ below (qcR D ca ad PL Z A w (some (.int r))) [.ref (ad 3 i0), .int x1].toArray s 0 0 A) 4 30 [] [(2, .int v2)] w) (n : Nat) (v2 : Int32) (v3 : Int32), lp_X3_members_4 k N w i0 v1 n v2 v3 = some r → WP p l e (rmk 1) s m [.ref (ad 3 i0), .int x1].toArray below meth c D ca ad PL A (MQ below (qcR D ca ad PL Z A w (some (.int r))) [.ref (ad 3 i0), .int x1].toArray s 0 0 A) 4 4 [] [(0, .ref (ad 3 i0)), (1, .int v1), (2, .int v2), (3, .int v3)] w := by
    intro v1 k hk n
    induction n with
    | zero => intro v2 v3 hf; rw [lp_X3_members_4] at hf; cases hf
    | succ n ih =>
      intro v2 v3 hf _ _ ls hP hS hl
      rw [lp_X3_members_4] at hf
      refine lv_iload_n hx hb dX3_members_4 rfl (lv_at hl 3 rfl) ?_
      refine lv_aload_n hx hb dX3_members_5 rfl (lv_at hl 0 rfl) ?_
      refine gt_3_1 (i := i0) C hP (hok.2.1 3 i0 h0) lk_X3_15 dX3_members_6 ?_
      refine lv_icmp_ge (tgt := 30) hx hb dX3_members_9 (by decide) (fun c5 => ?_) (fun c5 => ?_)
      · have hf := ifp hf c5
        exact hk v2 hf _ _ ls hP hS (lv_sub hl [2] rfl)
      · have hf := ifn hf c5
        refine lv_aload_n hx hb dX3_members_12 rfl (lv_at hl 0 rfl) ?_
        refine lv_iload_n hx hb dX3_members_13 rfl (lv_at hl 3 rfl) ?_
        refine lv_iload_n hx hb dX3_members_14 rfl (lv_at hl 1 rfl) ?_
        obtain ⟨z2, q3, hf⟩ := bsp hf
        refine kc_V (ci := 3) (i := i0) (As := [.int v3, .int v1]) (rest := []) hok.2.2.1 C hP hS hl.1 (hok.2.1 3 i0 h0) rfl rfl cw_X3_one ml_X3_40 (c_X3_one l D ca ad PL Z A hok N w i0 h0 v3 v1 z2 q3) rfl ⟨rfl, rfl⟩ ⟨Nat.le_of_ble_eq_true rfl, Nat.le_of_ble_eq_true rfl⟩ ⟨Nat.zero_le _, Nat.zero_le _⟩ (Nat.le_of_ble_eq_true rfl) rfl dX3_members_15 (fun H locs hP hS => ?_)
        refine lv_if_eq (tgt := 24) hx hb dX3_members_18 (by decide) (fun c4 => ?_) (fun c4 => ?_)
        · have hf := ifp hf c4
          refine lv_iinc (v := (v3 + (1 : Int32))) (lv' := [(3, .int (v3 + (1 : Int32))), (0, .ref (ad 3 i0)), (1, .int v1), (2, .int v2)]) hx hb dX3_members_24 hl (k := 3) rfl rfl (by decide) rfl (fun ls hl => ?_)
          refine lv_goto (tgt := 4) hx hb dX3_members_27 (by decide) ?_
          exact ih v2 (v3 + (1 : Int32)) hf _ _ ls hP hS (lv_sub hl [1, 2, 3, 0] rfl)
        · have hf := ifn hf c4
          refine lv_iinc (v := (v2 + (1 : Int32))) (lv' := [(2, .int (v2 + (1 : Int32))), (0, .ref (ad 3 i0)), (1, .int v1), (3, .int v3)]) hx hb dX3_members_21 hl (k := 2) rfl rfl (by decide) rfl (fun ls hl => ?_)
          refine lv_iinc (v := (v3 + (1 : Int32))) (lv' := [(3, .int (v3 + (1 : Int32))), (2, .int (v2 + (1 : Int32))), (0, .ref (ad 3 i0)), (1, .int v1)]) hx hb dX3_members_24 hl (k := 3) rfl rfl (by decide) rfl (fun ls hl => ?_)
          refine lv_goto (tgt := 4) hx hb dX3_members_27 (by decide) ?_
          exact ih (v2 + (1 : Int32)) (v3 + (1 : Int32)) hf _ _ ls hP hS (lv_sub hl [2, 3, 1, 0] rfl)
  unfold f_X3_members at hf
  -- walk
  refine lv_iconst (v := (0 : Int32)) hx hb dX3_members_0 (by decide) ?_
  refine lv_istore_n (lv' := [(2, .int (0 : Int32)), (0, .ref (ad 3 i0)), (1, .int x1)]) hx hb dX3_members_1 rfl hl (by decide) rfl (fun ls hl => ?_)
  refine lv_iconst (v := (0 : Int32)) hx hb dX3_members_2 (by decide) ?_
  refine lv_istore_n (lv' := [(3, .int (0 : Int32)), (2, .int (0 : Int32)), (0, .ref (ad 3 i0)), (1, .int x1)]) hx hb dX3_members_3 rfl hl (by decide) rfl (fun ls hl => ?_)
  exact L_lp_X3_members_4 x1 _ (fun u2_1 hf H locs ls hP hS hl => P_f_X3_members_30 u2_1 hf _ _ ls hP hS (lv_sub hl [0] rfl)) N (0 : Int32) (0 : Int32) hf _ _ ls hP hS (lv_sub hl [2, 3, 1, 0] rfl)
