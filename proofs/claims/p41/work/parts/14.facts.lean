def f_X1_clear (N : Nat) (w : Mem) (i0 : Nat) : Option (Mem) :=
  (Option.bind (f_X7_clear N w i0) (fun z1 => (Option.bind (f_X3_partAll N z1 (2 + i0) (0 : Int32)) (fun z3 => (Option.bind (f_X2_clear N z3 i0) (fun z5 => some (sF (sF (sF z5 1 9 i0 (0 : Int32)) 1 10 i0 (0 : Int32)) 1 11 i0 (0 : Int32))))))))
set_option maxRecDepth 100000 in
set_option maxHeartbeats 4000000 in
theorem c_X1_clear (l : Launch) (D : va_G) (ca : Nat → ClassId) (ad : Nat → Nat → Nat) (PL : List (Nat × Nat)) (Z : State → Prop) (A : Nat → Prop) (hok : okc bX Z A ad PL) (N : Nat) (w : Mem) (i0 : Nat) (h0 : i0 < 2) (w' : Mem) (hf : f_X1_clear N w i0 = some w') : CT l yX1_clear (wsy yX1_clear cX1_clear 1 none) (rmk 2) D ca ad PL Z A [.ref (ad 1 i0)] w w' none := by
  refine Met.ofW (cc := cX1_clear) (maxL := 1) (ret := none) (by decide +kernel) rfl ?_
  intro p e s m args below meth c s₁ B hml hv
  obtain ⟨rfl, hP, hK, hZ⟩ := hv
  have hx := B.exec
  have hb := B.bytes
  have hr := B.returns
  have hlocks := B.notSynchronized
  have hts : ∀ w ∈ ALL, w.before _ s = true := fun w hw => atoms_spec (ws := wsy yX1_clear cX1_clear 1 none) B.pre w (List.mem_cons_of_mem _ hw)
  have hown : s.vm.findClass RX1 = some m.cls := findClass_of_methodNamed B.named
  have C : CX p s m _ c cX1_clear RX1 1 D ca Z := ⟨hx, hb, hml, hown, hts, hK, hZ⟩
  have hS : va_S A s.heap s.heap [] := va_S.rf
  have hl := lv_entry ([.ref (ad 1 i0)]) (n := 1) (Nat.le_of_ble_eq_true rfl)
  rw [lg_entry_eq]
  generalize (lg_sl ([.ref (ad 1 i0)]) ++ List.replicate (1 - (lg_sl ([.ref (ad 1 i0)])).length) Slot.unset).toArray = ls at hl ⊢
  have hl : lv_has ls 1 [(0, .ref (ad 1 i0))] := hl
  show W p l e (rmk 2) s m _ below meth c s.heap [] 0 0 _ _
  unfold f_X1_clear at hf
  -- walk
  refine lv_aload_n hx hb dX1_clear_0 rfl (lv_at hl 0 rfl) ?_
  refine gt_1_0 (i := i0) C hP (hok.2.1 1 i0 h0) lk_X1_12 dX1_clear_1 ?_
  obtain ⟨z1, q2, hf⟩ := bsp hf
  refine kc_V (ci := 7) (i := i0) (As := []) (rest := []) hok.2.2.1 C hP hS hl.1 (hok.2.1 7 i0 h0) rfl rfl cw_X7_clear ml_X1_51 (c_X7_clear l D ca ad PL Z A hok N w i0 h0 z1 q2) rfl ⟨rfl, rfl⟩ ⟨Nat.le_of_ble_eq_true rfl, Nat.le_of_ble_eq_true rfl⟩ ⟨Nat.zero_le _, Nat.zero_le _⟩ (Nat.le_of_ble_eq_true rfl) rfl dX1_clear_4 (fun H locs hP hS => ?_)
  refine lv_aload_n hx hb dX1_clear_7 rfl (lv_at hl 0 rfl) ?_
  refine gt_1_1 (i := i0) C hP (hok.2.1 1 i0 h0) lk_X1_21 dX1_clear_8 ?_
  refine lv_iconst (v := (0 : Int32)) hx hb dX1_clear_11 (by decide) ?_
  obtain ⟨z3, q4, hf⟩ := bsp hf
  refine kc_V (ci := 3) (i := (2 + i0)) (As := [.int (0 : Int32)]) (rest := []) hok.2.2.1 C hP hS hl.1 (hok.2.1 3 (2 + i0) (Nat.lt_of_lt_of_le (Nat.add_lt_add_left h0 2) (Nat.le_of_ble_eq_true rfl))) rfl rfl cw_X3_partAll ml_X1_54 (c_X3_partAll l D ca ad PL Z A hok N z1 (2 + i0) (Nat.lt_of_lt_of_le (Nat.add_lt_add_left h0 2) (Nat.le_of_ble_eq_true rfl)) (0 : Int32) z3 q4) rfl ⟨rfl, rfl⟩ ⟨Nat.le_of_ble_eq_true rfl, Nat.le_of_ble_eq_true rfl⟩ ⟨Nat.zero_le _, Nat.zero_le _⟩ (Nat.le_of_ble_eq_true rfl) rfl dX1_clear_12 (fun H locs hP hS => ?_)
  refine lv_aload_n hx hb dX1_clear_15 rfl (lv_at hl 0 rfl) ?_
  refine gt_1_2 (i := i0) C hP (hok.2.1 1 i0 h0) lk_X1_28 dX1_clear_16 ?_
  obtain ⟨z5, q6, hf⟩ := bsp hf
  refine kc_V (ci := 2) (i := i0) (As := []) (rest := []) hok.2.2.1 C hP hS hl.1 (hok.2.1 2 i0 h0) rfl rfl cw_X2_clear ml_X1_58 (c_X2_clear l D ca ad PL Z A hok N z3 i0 h0 z5 q6) rfl ⟨rfl, rfl⟩ ⟨Nat.le_of_ble_eq_true rfl, Nat.le_of_ble_eq_true rfl⟩ ⟨Nat.zero_le _, Nat.zero_le _⟩ (Nat.le_of_ble_eq_true rfl) rfl dX1_clear_19 (fun H locs hP hS => ?_)
  refine lv_aload_n hx hb dX1_clear_22 rfl (lv_at hl 0 rfl) ?_
  refine lv_iconst (v := (0 : Int32)) hx hb dX1_clear_23 (by decide) ?_
  refine pt_1_9 (i := i0) (v := (0 : Int32)) C hok.1 hP hS (hok.2.1 1 i0 h0) lk_X1_59 dX1_clear_24 (fun H locs hP hS => ?_)
  refine lv_aload_n hx hb dX1_clear_27 rfl (lv_at hl 0 rfl) ?_
  refine lv_iconst (v := (0 : Int32)) hx hb dX1_clear_28 (by decide) ?_
  refine pt_1_10 (i := i0) (v := (0 : Int32)) C hok.1 hP hS (hok.2.1 1 i0 h0) lk_X1_63 dX1_clear_29 (fun H locs hP hS => ?_)
  refine lv_aload_n hx hb dX1_clear_32 rfl (lv_at hl 0 rfl) ?_
  refine lv_iconst (v := (0 : Int32)) hx hb dX1_clear_33 (by decide) ?_
  refine pt_1_11 (i := i0) (v := (0 : Int32)) C hok.1 hP hS (hok.2.1 1 i0 h0) lk_X1_66 dX1_clear_34 (fun H locs hP hS => ?_)
  exact kr_v hok.2.2.1 C hlocks hr hP hS (Option.some.inj hf) dX1_clear_37
def f_X1_partReasons_54 (N : Nat) (w : Mem) (i0 : Nat) (v3 : Int32) : Option (Int32) :=
  some v3
def lp_X1_partReasons_5 (k : Int32 → Option (Int32)) (N : Nat) (w : Mem) (i0 : Nat) (v1 : Int32) (v2 : Int32) : Nat → Int32 → Int32 → Option (Int32)
  | 0, _, _ => none
  | n + 1, v3, v4 => (Option.bind (f_X7_partsOf N w i0 v1) (fun z2 => (if z2 ≤ v4 then
(k v3)
else
(Option.bind (f_X7_partAt N w i0 v1 v4) (fun z4 => (Option.bind (f_X7_partAt N w i0 v2 v4) (fun z6 => (Option.bind (f_X2_reasonsBetween N w i0 z4 z6) (fun z8 => (lp_X1_partReasons_5 k N w i0 v1 v2 n (v3 ||| z8) (v4 + (1 : Int32))))))))))))
def f_X1_partReasons (N : Nat) (w : Mem) (i0 : Nat) (x1 : Int32) (x2 : Int32) : Option (Int32) :=
  (lp_X1_partReasons_5 (fun (u3_1 : Int32) => (f_X1_partReasons_54 N w i0 u3_1 )) N w i0 x1 x2 N (0 : Int32) (0 : Int32))
set_option maxRecDepth 100000 in
set_option maxHeartbeats 4000000 in
theorem c_X1_partReasons (l : Launch) (D : va_G) (ca : Nat → ClassId) (ad : Nat → Nat → Nat) (PL : List (Nat × Nat)) (Z : State → Prop) (A : Nat → Prop) (hok : okc bX Z A ad PL) (N : Nat) (w : Mem) (i0 : Nat) (h0 : i0 < 2) (x1 : Int32) (x2 : Int32) (r : Int32) (hf : f_X1_partReasons N w i0 x1 x2 = some r) : CT l yX1_partReasons (wsy yX1_partReasons cX1_partReasons 5 (some .int)) (rmk 1) D ca ad PL Z A [.ref (ad 1 i0), .int x1, .int x2] w w (some (.int r)) := by
  refine Met.ofW (cc := cX1_partReasons) (maxL := 5) (ret := (some .int)) (by decide +kernel) rfl ?_
  intro p e s m args below meth c s₁ B hml hv
  obtain ⟨rfl, hP, hK, hZ⟩ := hv
  have hx := B.exec
  have hb := B.bytes
  have hr := B.returns
  have hlocks := B.notSynchronized
  have hts : ∀ w ∈ ALL, w.before _ s = true := fun w hw => atoms_spec (ws := wsy yX1_partReasons cX1_partReasons 5 (some .int)) B.pre w (List.mem_cons_of_mem _ hw)
  have hown : s.vm.findClass RX1 = some m.cls := findClass_of_methodNamed B.named
  have C : CX p s m _ c cX1_partReasons RX1 5 D ca Z := ⟨hx, hb, hml, hown, hts, hK, hZ⟩
  have hS : va_S A s.heap s.heap [] := va_S.rf
  have hl := lv_entry ([.ref (ad 1 i0), .int x1, .int x2]) (n := 5) (Nat.le_of_ble_eq_true rfl)
  rw [lg_entry_eq]
  generalize (lg_sl ([.ref (ad 1 i0), .int x1, .int x2]) ++ List.replicate (5 - (lg_sl ([.ref (ad 1 i0), .int x1, .int x2])).length) Slot.unset).toArray = ls at hl ⊢
  have hl : lv_has ls 5 [(0, .ref (ad 1 i0)), (1, .int x1), (2, .int x2)] := hl
  show W p l e (rmk 1) s m _ below meth c s.heap [] 0 0 _ _
  have P_f_X1_partReasons_54 : ∀ (v3 : Int32), f_X1_partReasons_54 N w i0 v3  = some r → WP p l e (rmk 1) s m [.ref (ad 1 i0), .int x1, .int x2].toArray below meth c D ca ad PL A (MQ below (qcR D ca ad PL Z A w (some (.int r))) [.ref (ad 1 i0), .int x1, .int x2].toArray s 0 0 A) 5 54 [] [(3, .int v3)] w := by
    intro v3 hf _ _ ls hP hS hl
    unfold f_X1_partReasons_54 at hf
    refine lv_iload_n hx hb dX1_partReasons_54 rfl (lv_at hl 0 rfl) ?_
    exact kr_i hok.2.2.1 C hlocks hr rfl hP hS rfl (Option.some.inj hf) dX1_partReasons_55
  have L_lp_X1_partReasons_5 : ∀ (v1 : Int32) (v2 : Int32) (k : Int32 → Option (Int32)) (hk : ∀ (v3 : Int32), k v3 = some r → WP p l e (rmk 1) s m [.ref (ad 1 i0), .int x1, .int x2].toArray below meth c D ca ad PL A (MQ below (qcR D ca ad PL Z A w (some (.int r))) [.ref (ad 1 i0), .int x1, .int x2].toArray s 0 0 A) 5 54 [] [(3, .int v3)] w) (n : Nat) (v3 : Int32) (v4 : Int32), lp_X1_partReasons_5 k N w i0 v1 v2 n v3 v4 = some r → WP p l e (rmk 1) s m [.ref (ad 1 i0), .int x1, .int x2].toArray below meth c D ca ad PL A (MQ below (qcR D ca ad PL Z A w (some (.int r))) [.ref (ad 1 i0), .int x1, .int x2].toArray s 0 0 A) 5 5 [] [(0, .ref (ad 1 i0)), (1, .int v1), (2, .int v2), (3, .int v3), (4, .int v4)] w := by
    intro v1 v2 k hk n
    induction n with
    | zero => intro v3 v4 hf; rw [lp_X1_partReasons_5] at hf; cases hf
    | succ n ih =>
      intro v3 v4 hf _ _ ls hP hS hl
      rw [lp_X1_partReasons_5] at hf
      refine lv_iload hx hb dX1_partReasons_5 (lv_at hl 4 rfl) ?_
      refine lv_aload_n hx hb dX1_partReasons_7 rfl (lv_at hl 0 rfl) ?_
      refine gt_1_0 (i := i0) C hP (hok.2.1 1 i0 h0) lk_X1_12 dX1_partReasons_8 ?_
      refine lv_iload_n hx hb dX1_partReasons_11 rfl (lv_at hl 1 rfl) ?_
      obtain ⟨z2, q3, hf⟩ := bsp hf
      refine kc_V (ci := 7) (i := i0) (As := [.int v1]) (rest := [.int v4]) hok.2.2.1 C hP hS hl.1 (hok.2.1 7 i0 h0) rfl rfl cw_X7_partsOf ml_X1_106 (c_X7_partsOf l D ca ad PL Z A hok N w i0 h0 v1 z2 q3) rfl ⟨rfl, rfl⟩ ⟨Nat.le_of_ble_eq_true rfl, Nat.le_of_ble_eq_true rfl⟩ ⟨Nat.zero_le _, Nat.zero_le _⟩ (Nat.le_of_ble_eq_true rfl) rfl dX1_partReasons_12 (fun H locs hP hS => ?_)
      refine lv_icmp_ge (tgt := 54) hx hb dX1_partReasons_15 (by decide) (fun c10 => ?_) (fun c10 => ?_)
      · have hf := ifp hf c10
        exact hk v3 hf _ _ ls hP hS (lv_sub hl [3] rfl)
      · have hf := ifn hf c10
        refine lv_iload_n hx hb dX1_partReasons_18 rfl (lv_at hl 3 rfl) ?_
        refine lv_aload_n hx hb dX1_partReasons_19 rfl (lv_at hl 0 rfl) ?_
        refine gt_1_2 (i := i0) C hP (hok.2.1 1 i0 h0) lk_X1_28 dX1_partReasons_20 ?_
        refine lv_aload_n hx hb dX1_partReasons_23 rfl (lv_at hl 0 rfl) ?_
        refine gt_1_0 (i := i0) C hP (hok.2.1 1 i0 h0) lk_X1_12 dX1_partReasons_24 ?_
        refine lv_iload_n hx hb dX1_partReasons_27 rfl (lv_at hl 1 rfl) ?_
        refine lv_iload hx hb dX1_partReasons_28 (lv_at hl 4 rfl) ?_
        obtain ⟨z4, q5, hf⟩ := bsp hf
        refine kc_V (ci := 7) (i := i0) (As := [.int v1, .int v4]) (rest := [.ref (ad 2 i0), .int v3]) hok.2.2.1 C hP hS hl.1 (hok.2.1 7 i0 h0) rfl rfl cw_X7_partAt ml_X1_110 (c_X7_partAt l D ca ad PL Z A hok N w i0 h0 v1 v4 z4 q5) rfl ⟨rfl, rfl⟩ ⟨Nat.le_of_ble_eq_true rfl, Nat.le_of_ble_eq_true rfl⟩ ⟨Nat.zero_le _, Nat.zero_le _⟩ (Nat.le_of_ble_eq_true rfl) rfl dX1_partReasons_30 (fun H locs hP hS => ?_)
        refine lv_aload_n hx hb dX1_partReasons_33 rfl (lv_at hl 0 rfl) ?_
        refine gt_1_0 (i := i0) C hP (hok.2.1 1 i0 h0) lk_X1_12 dX1_partReasons_34 ?_
        refine lv_iload_n hx hb dX1_partReasons_37 rfl (lv_at hl 2 rfl) ?_
        refine lv_iload hx hb dX1_partReasons_38 (lv_at hl 4 rfl) ?_
        obtain ⟨z6, q7, hf⟩ := bsp hf
        refine kc_V (ci := 7) (i := i0) (As := [.int v2, .int v4]) (rest := [.int z4, .ref (ad 2 i0), .int v3]) hok.2.2.1 C hP hS hl.1 (hok.2.1 7 i0 h0) rfl rfl cw_X7_partAt ml_X1_110 (c_X7_partAt l D ca ad PL Z A hok N w i0 h0 v2 v4 z6 q7) rfl ⟨rfl, rfl⟩ ⟨Nat.le_of_ble_eq_true rfl, Nat.le_of_ble_eq_true rfl⟩ ⟨Nat.zero_le _, Nat.zero_le _⟩ (Nat.le_of_ble_eq_true rfl) rfl dX1_partReasons_40 (fun H locs hP hS => ?_)
        obtain ⟨z8, q9, hf⟩ := bsp hf
        refine kc_V (ci := 2) (i := i0) (As := [.int z4, .int z6]) (rest := [.int v3]) hok.2.2.1 C hP hS hl.1 (hok.2.1 2 i0 h0) rfl rfl cw_X2_reasonsBetween ml_X1_113 (c_X2_reasonsBetween l D ca ad PL Z A hok N w i0 h0 z4 z6 z8 q9) rfl ⟨rfl, rfl⟩ ⟨Nat.le_of_ble_eq_true rfl, Nat.le_of_ble_eq_true rfl⟩ ⟨Nat.zero_le _, Nat.zero_le _⟩ (Nat.le_of_ble_eq_true rfl) rfl dX1_partReasons_43 (fun H locs hP hS => ?_)
        refine lv_ior hx hb dX1_partReasons_46 ?_
        refine lv_istore_n (lv' := [(3, .int (v3 ||| z8)), (0, .ref (ad 1 i0)), (1, .int v1), (2, .int v2), (4, .int v4)]) hx hb dX1_partReasons_47 rfl hl (by decide) rfl (fun ls hl => ?_)
        refine lv_iinc (v := (v4 + (1 : Int32))) (lv' := [(4, .int (v4 + (1 : Int32))), (3, .int (v3 ||| z8)), (0, .ref (ad 1 i0)), (1, .int v1), (2, .int v2)]) hx hb dX1_partReasons_48 hl (k := 4) rfl rfl (by decide) rfl (fun ls hl => ?_)
        refine lv_goto (tgt := 5) hx hb dX1_partReasons_51 (by decide) ?_
        exact ih (v3 ||| z8) (v4 + (1 : Int32)) hf _ _ ls hP hS (lv_sub hl [2, 3, 4, 1, 0] rfl)
  unfold f_X1_partReasons at hf
  -- walk
  refine lv_iconst (v := (0 : Int32)) hx hb dX1_partReasons_0 (by decide) ?_
  refine lv_istore_n (lv' := [(3, .int (0 : Int32)), (0, .ref (ad 1 i0)), (1, .int x1), (2, .int x2)]) hx hb dX1_partReasons_1 rfl hl (by decide) rfl (fun ls hl => ?_)
  refine lv_iconst (v := (0 : Int32)) hx hb dX1_partReasons_2 (by decide) ?_
  refine lv_istore (lv' := [(4, .int (0 : Int32)), (3, .int (0 : Int32)), (0, .ref (ad 1 i0)), (1, .int x1), (2, .int x2)]) hx hb dX1_partReasons_3 hl (by decide) rfl (fun ls hl => ?_)
  exact L_lp_X1_partReasons_5 x1 x2 _ (fun u3_1 hf H locs ls hP hS hl => P_f_X1_partReasons_54 u3_1 hf _ _ ls hP hS (lv_sub hl [0] rfl)) N (0 : Int32) (0 : Int32) hf _ _ ls hP hS (lv_sub hl [2, 3, 4, 1, 0] rfl)
def f_X1_closeInOrder_91 (N : Nat) (w : Mem) (i0 : Nat) : Option (Mem) :=
  some w
def lp_X1_closeInOrder_14 (k : Mem → Option (Mem)) (N : Nat) (i0 : Nat) : Nat → Mem → Int32 → Int32 → Option (Mem)
  | 0, _, _, _ => none
  | n + 1, w, v1, v2 => (if (24 : Int32) ≤ v2 then
(k w)
else
(if v1 < (0 : Int32) then
(k w)
else
(if inb v1 276 = true then (Option.bind (f_X1_partReasons N w i0 (gA w 38 i0 v1.toNatClampNeg) (gA w 39 i0 v1.toNatClampNeg)) (fun z5 => (Option.bind (f_X2_addJoin N w i0 (gA w 38 i0 v1.toNatClampNeg) (gA w 39 i0 v1.toNatClampNeg) (-1 : Int32) z5) (fun z7 => (Option.bind (f_X3_unite N z7 (2 + i0) (gA w 38 i0 v1.toNatClampNeg) (gA w 39 i0 v1.toNatClampNeg)) (fun z9 => (Option.bind (f_X7_nextPair N z9 i0 (2 + i0)) (fun z11 => (lp_X1_closeInOrder_14 k N  i0  n z9 z11 (v2 + (1 : Int32))))))))))) else none)))
def f_X1_closeInOrder (N : Nat) (w : Mem) (i0 : Nat) : Option (Mem) :=
  (Option.bind (f_X7_nextPair N w i0 (2 + i0)) (fun z1 => (lp_X1_closeInOrder_14 (fun (w_3 : Mem) => (f_X1_closeInOrder_91 N w_3 i0  )) N  i0  N w z1 (0 : Int32))))
set_option maxRecDepth 100000 in
set_option maxHeartbeats 4000000 in
theorem c_X1_closeInOrder (l : Launch) (D : va_G) (ca : Nat → ClassId) (ad : Nat → Nat → Nat) (PL : List (Nat × Nat)) (Z : State → Prop) (A : Nat → Prop) (hok : okc bX Z A ad PL) (N : Nat) (w : Mem) (i0 : Nat) (h0 : i0 < 2) (w' : Mem) (hf : f_X1_closeInOrder N w i0 = some w') : CT l yX1_closeInOrder (wsy yX1_closeInOrder cX1_closeInOrder 5 none) (rmk 2) D ca ad PL Z A [.ref (ad 1 i0)] w w' none := by
  refine Met.ofW (cc := cX1_closeInOrder) (maxL := 5) (ret := none) (by decide +kernel) rfl ?_
  intro p e s m args below meth c s₁ B hml hv
  obtain ⟨rfl, hP, hK, hZ⟩ := hv
  have hx := B.exec
  have hb := B.bytes
  have hr := B.returns
  have hlocks := B.notSynchronized
  have hts : ∀ w ∈ ALL, w.before _ s = true := fun w hw => atoms_spec (ws := wsy yX1_closeInOrder cX1_closeInOrder 5 none) B.pre w (List.mem_cons_of_mem _ hw)
  have hown : s.vm.findClass RX1 = some m.cls := findClass_of_methodNamed B.named
  have C : CX p s m _ c cX1_closeInOrder RX1 5 D ca Z := ⟨hx, hb, hml, hown, hts, hK, hZ⟩
  have hS : va_S A s.heap s.heap [] := va_S.rf
  have hl := lv_entry ([.ref (ad 1 i0)]) (n := 5) (Nat.le_of_ble_eq_true rfl)
  rw [lg_entry_eq]
  generalize (lg_sl ([.ref (ad 1 i0)]) ++ List.replicate (5 - (lg_sl ([.ref (ad 1 i0)])).length) Slot.unset).toArray = ls at hl ⊢
  have hl : lv_has ls 5 [(0, .ref (ad 1 i0))] := hl
  show W p l e (rmk 2) s m _ below meth c s.heap [] 0 0 _ _
  have P_f_X1_closeInOrder_91 : ∀ (w : Mem), f_X1_closeInOrder_91 N w i0   = some w' → WP p l e (rmk 2) s m [.ref (ad 1 i0)].toArray below meth c D ca ad PL A (MQ below (qcR D ca ad PL Z A w' none) [.ref (ad 1 i0)].toArray s 0 0 A) 5 91 [] [] w := by
    intro w hf _ _ ls hP hS hl
    unfold f_X1_closeInOrder_91 at hf
    exact kr_v hok.2.2.1 C hlocks hr hP hS (Option.some.inj hf) dX1_closeInOrder_91
  have L_lp_X1_closeInOrder_14 : ∀ (k : Mem → Option (Mem)) (hk : ∀ (w : Mem), k w = some w' → WP p l e (rmk 2) s m [.ref (ad 1 i0)].toArray below meth c D ca ad PL A (MQ below (qcR D ca ad PL Z A w' none) [.ref (ad 1 i0)].toArray s 0 0 A) 5 91 [] [] w) (n : Nat) (w : Mem) (v1 : Int32) (v2 : Int32), lp_X1_closeInOrder_14 k N  i0  n w v1 v2 = some w' → WP p l e (rmk 2) s m [.ref (ad 1 i0)].toArray below meth c D ca ad PL A (MQ below (qcR D ca ad PL Z A w' none) [.ref (ad 1 i0)].toArray s 0 0 A) 5 14 [] [(0, .ref (ad 1 i0)), (1, .int v1), (2, .int v2)] w := by
    intro k hk n
    induction n with
    | zero => intro w v1 v2 hf; rw [lp_X1_closeInOrder_14] at hf; cases hf
    | succ n ih =>
      intro w v1 v2 hf _ _ ls hP hS hl
      rw [lp_X1_closeInOrder_14] at hf
      refine lv_iload_n hx hb dX1_closeInOrder_14 rfl (lv_at hl 2 rfl) ?_
      refine lv_bipush (v := (24 : Int32)) hx hb dX1_closeInOrder_15 (by decide) ?_
      refine lv_icmp_ge (tgt := 91) hx hb dX1_closeInOrder_17 (by decide) (fun c14 => ?_) (fun c14 => ?_)
      · have hf := ifp hf c14
        exact hk w hf _ _ ls hP hS (lv_sub hl [] rfl)
      · have hf := ifn hf c14
        refine lv_iload_n hx hb dX1_closeInOrder_20 rfl (lv_at hl 1 rfl) ?_
        refine lv_if_lt (tgt := 91) hx hb dX1_closeInOrder_21 (by decide) (fun c13 => ?_) (fun c13 => ?_)
        · have hf := ifp hf c13
          exact hk w hf _ _ ls hP hS (lv_sub hl [] rfl)
        · have hf := ifn hf c13
          refine lv_aload_n hx hb dX1_closeInOrder_24 rfl (lv_at hl 0 rfl) ?_
          refine gt_1_0 (i := i0) C hP (hok.2.1 1 i0 h0) lk_X1_12 dX1_closeInOrder_25 ?_
          refine gt_7_7 (i := i0) C hP (hok.2.1 7 i0 h0) lk_X1_96 dX1_closeInOrder_28 ?_
          refine lv_iload_n hx hb dX1_closeInOrder_31 rfl (lv_at hl 1 rfl) ?_
          obtain ⟨b4, hf⟩ := gsp hf
          refine ra_ild (k := 38) (i := i0) (n := 276) (f := (gA w 38 i0)) C hP (hok.2.1 38 i0 h0) rfl b4 dX1_closeInOrder_32 ?_
          refine lv_istore_n (lv' := [(3, .int (gA w 38 i0 v1.toNatClampNeg)), (0, .ref (ad 1 i0)), (1, .int v1), (2, .int v2)]) hx hb dX1_closeInOrder_33 rfl hl (by decide) rfl (fun ls hl => ?_)
          refine lv_aload_n hx hb dX1_closeInOrder_34 rfl (lv_at hl 1 rfl) ?_
          refine gt_1_0 (i := i0) C hP (hok.2.1 1 i0 h0) lk_X1_12 dX1_closeInOrder_35 ?_
          refine gt_7_8 (i := i0) C hP (hok.2.1 7 i0 h0) lk_X1_99 dX1_closeInOrder_38 ?_
          refine lv_iload_n hx hb dX1_closeInOrder_41 rfl (lv_at hl 2 rfl) ?_
          refine ra_ild (k := 39) (i := i0) (n := 276) (f := (gA w 39 i0)) C hP (hok.2.1 39 i0 h0) rfl b4 dX1_closeInOrder_42 ?_
          refine lv_istore (lv' := [(4, .int (gA w 39 i0 v1.toNatClampNeg)), (3, .int (gA w 38 i0 v1.toNatClampNeg)), (0, .ref (ad 1 i0)), (1, .int v1), (2, .int v2)]) hx hb dX1_closeInOrder_43 hl (by decide) rfl (fun ls hl => ?_)
          refine lv_aload_n hx hb dX1_closeInOrder_45 rfl (lv_at hl 2 rfl) ?_
          refine gt_1_2 (i := i0) C hP (hok.2.1 1 i0 h0) lk_X1_28 dX1_closeInOrder_46 ?_
          refine lv_iload_n hx hb dX1_closeInOrder_49 rfl (lv_at hl 1 rfl) ?_
          refine lv_iload hx hb dX1_closeInOrder_50 (lv_at hl 0 rfl) ?_
          refine lv_iconst (v := (-1 : Int32)) hx hb dX1_closeInOrder_52 (by decide) ?_
          refine lv_aload_n hx hb dX1_closeInOrder_53 rfl (lv_at hl 2 rfl) ?_
          refine lv_iload_n hx hb dX1_closeInOrder_54 rfl (lv_at hl 1 rfl) ?_
          refine lv_iload hx hb dX1_closeInOrder_55 (lv_at hl 0 rfl) ?_
          obtain ⟨z5, q6, hf⟩ := bsp hf
          refine kc_V (ci := 1) (i := i0) (As := [.int (gA w 38 i0 v1.toNatClampNeg), .int (gA w 39 i0 v1.toNatClampNeg)]) (rest := [.int (-1 : Int32), .int (gA w 39 i0 v1.toNatClampNeg), .int (gA w 38 i0 v1.toNatClampNeg), .ref (ad 2 i0)]) hok.2.2.1 C hP hS hl.1 (hok.2.1 1 i0 h0) rfl rfl cw_X1_partReasons ml_X1_102 (c_X1_partReasons l D ca ad PL Z A hok N w i0 h0 (gA w 38 i0 v1.toNatClampNeg) (gA w 39 i0 v1.toNatClampNeg) z5 q6) rfl ⟨rfl, rfl⟩ ⟨Nat.le_of_ble_eq_true rfl, Nat.le_of_ble_eq_true rfl⟩ ⟨Nat.zero_le _, Nat.zero_le _⟩ (Nat.le_of_ble_eq_true rfl) rfl dX1_closeInOrder_57 (fun H locs hP hS => ?_)
          obtain ⟨z7, q8, hf⟩ := bsp hf
          refine kc_V (ci := 2) (i := i0) (As := [.int (gA w 38 i0 v1.toNatClampNeg), .int (gA w 39 i0 v1.toNatClampNeg), .int (-1 : Int32), .int z5]) (rest := []) hok.2.2.1 C hP hS hl.1 (hok.2.1 2 i0 h0) rfl rfl cw_X2_addJoin ml_X1_84 (c_X2_addJoin l D ca ad PL Z A hok N w i0 h0 (gA w 38 i0 v1.toNatClampNeg) (gA w 39 i0 v1.toNatClampNeg) (-1 : Int32) z5 z7 q8) rfl ⟨rfl, rfl⟩ ⟨Nat.le_of_ble_eq_true rfl, Nat.le_of_ble_eq_true rfl⟩ ⟨Nat.zero_le _, Nat.zero_le _⟩ (Nat.le_of_ble_eq_true rfl) rfl dX1_closeInOrder_60 (fun H locs hP hS => ?_)
          refine lv_aload_n hx hb dX1_closeInOrder_63 rfl (lv_at hl 2 rfl) ?_
          refine gt_1_1 (i := i0) C hP (hok.2.1 1 i0 h0) lk_X1_21 dX1_closeInOrder_64 ?_
          refine lv_iload_n hx hb dX1_closeInOrder_67 rfl (lv_at hl 1 rfl) ?_
          refine lv_iload hx hb dX1_closeInOrder_68 (lv_at hl 0 rfl) ?_
          obtain ⟨z9, q10, hf⟩ := bsp hf
          refine kc_V (ci := 3) (i := (2 + i0)) (As := [.int (gA w 38 i0 v1.toNatClampNeg), .int (gA w 39 i0 v1.toNatClampNeg)]) (rest := []) hok.2.2.1 C hP hS hl.1 (hok.2.1 3 (2 + i0) (Nat.lt_of_lt_of_le (Nat.add_lt_add_left h0 2) (Nat.le_of_ble_eq_true rfl))) rfl rfl cw_X3_unite ml_X1_88 (c_X3_unite l D ca ad PL Z A hok N z7 (2 + i0) (Nat.lt_of_lt_of_le (Nat.add_lt_add_left h0 2) (Nat.le_of_ble_eq_true rfl)) (gA w 38 i0 v1.toNatClampNeg) (gA w 39 i0 v1.toNatClampNeg) z9 q10) rfl ⟨rfl, rfl⟩ ⟨Nat.le_of_ble_eq_true rfl, Nat.le_of_ble_eq_true rfl⟩ ⟨Nat.zero_le _, Nat.zero_le _⟩ (Nat.le_of_ble_eq_true rfl) rfl dX1_closeInOrder_70 (fun H locs hP hS => ?_)
          refine lv_aload_n hx hb dX1_closeInOrder_73 rfl (lv_at hl 2 rfl) ?_
          refine gt_1_0 (i := i0) C hP (hok.2.1 1 i0 h0) lk_X1_12 dX1_closeInOrder_74 ?_
          refine lv_aload_n hx hb dX1_closeInOrder_77 rfl (lv_at hl 2 rfl) ?_
          refine gt_1_1 (i := i0) C hP (hok.2.1 1 i0 h0) lk_X1_21 dX1_closeInOrder_78 ?_
          obtain ⟨z11, q12, hf⟩ := bsp hf
          refine kc_V (ci := 7) (i := i0) (As := [.ref (ad 3 (2 + i0))]) (rest := []) hok.2.2.1 C hP hS hl.1 (hok.2.1 7 i0 h0) rfl rfl cw_X7_nextPair ml_X1_92 (c_X7_nextPair l D ca ad PL Z A hok N z9 i0 h0 (2 + i0) (Nat.lt_of_lt_of_le (Nat.add_lt_add_left h0 2) (Nat.le_of_ble_eq_true rfl)) z11 q12) rfl ⟨rfl, rfl⟩ ⟨Nat.le_of_ble_eq_true rfl, Nat.le_of_ble_eq_true rfl⟩ ⟨Nat.zero_le _, Nat.zero_le _⟩ (Nat.le_of_ble_eq_true rfl) rfl dX1_closeInOrder_81 (fun H locs hP hS => ?_)
          refine lv_istore_n (lv' := [(1, .int z11), (4, .int (gA w 39 i0 v1.toNatClampNeg)), (3, .int (gA w 38 i0 v1.toNatClampNeg)), (0, .ref (ad 1 i0)), (2, .int v2)]) hx hb dX1_closeInOrder_84 rfl hl (by decide) rfl (fun ls hl => ?_)
          refine lv_iinc (v := (v2 + (1 : Int32))) (lv' := [(2, .int (v2 + (1 : Int32))), (1, .int z11), (4, .int (gA w 39 i0 v1.toNatClampNeg)), (3, .int (gA w 38 i0 v1.toNatClampNeg)), (0, .ref (ad 1 i0))]) hx hb dX1_closeInOrder_85 hl (k := 4) rfl rfl (by decide) rfl (fun ls hl => ?_)
          refine lv_goto (tgt := 14) hx hb dX1_closeInOrder_88 (by decide) ?_
          exact ih z9 z11 (v2 + (1 : Int32)) hf _ _ ls hP hS (lv_sub hl [4, 1, 0] rfl)
  unfold f_X1_closeInOrder at hf
  -- walk
  refine lv_aload_n hx hb dX1_closeInOrder_0 rfl (lv_at hl 0 rfl) ?_
  refine gt_1_0 (i := i0) C hP (hok.2.1 1 i0 h0) lk_X1_12 dX1_closeInOrder_1 ?_
  refine lv_aload_n hx hb dX1_closeInOrder_4 rfl (lv_at hl 0 rfl) ?_
  refine gt_1_1 (i := i0) C hP (hok.2.1 1 i0 h0) lk_X1_21 dX1_closeInOrder_5 ?_
  obtain ⟨z1, q2, hf⟩ := bsp hf
  refine kc_V (ci := 7) (i := i0) (As := [.ref (ad 3 (2 + i0))]) (rest := []) hok.2.2.1 C hP hS hl.1 (hok.2.1 7 i0 h0) rfl rfl cw_X7_nextPair ml_X1_92 (c_X7_nextPair l D ca ad PL Z A hok N w i0 h0 (2 + i0) (Nat.lt_of_lt_of_le (Nat.add_lt_add_left h0 2) (Nat.le_of_ble_eq_true rfl)) z1 q2) rfl ⟨rfl, rfl⟩ ⟨Nat.le_of_ble_eq_true rfl, Nat.le_of_ble_eq_true rfl⟩ ⟨Nat.zero_le _, Nat.zero_le _⟩ (Nat.le_of_ble_eq_true rfl) rfl dX1_closeInOrder_8 (fun H locs hP hS => ?_)
  refine lv_istore_n (lv' := [(1, .int z1), (0, .ref (ad 1 i0))]) hx hb dX1_closeInOrder_11 rfl hl (by decide) rfl (fun ls hl => ?_)
  refine lv_iconst (v := (0 : Int32)) hx hb dX1_closeInOrder_12 (by decide) ?_
  refine lv_istore_n (lv' := [(2, .int (0 : Int32)), (1, .int z1), (0, .ref (ad 1 i0))]) hx hb dX1_closeInOrder_13 rfl hl (by decide) rfl (fun ls hl => ?_)
  exact L_lp_X1_closeInOrder_14 _ (fun w_3 hf H locs ls hP hS hl => P_f_X1_closeInOrder_91 w_3 hf _ _ ls hP hS (lv_sub hl [] rfl)) N w z1 (0 : Int32) hf _ _ ls hP hS (lv_sub hl [2, 1, 0] rfl)
def f_X1_comeTerm (N : Nat) (w : Mem) (i0 : Nat) (x1 : Int32) (x2 : Int32) (x3 : Int32) (x4 : Int32) (x5 : Int32) : Option (Mem) :=
  (Option.bind (f_X7_addTerm N w i0 x1 x2 x3 x4 x5) (fun z1 => (Option.bind (f_X3_addLone N z1 (2 + i0)) (fun z3 => (Option.bind (f_X2_addLone N z3 i0) (fun z5 => (Option.bind (f_X1_closeInOrder N z5 i0) (fun z7 => some z7))))))))
set_option maxRecDepth 100000 in
set_option maxHeartbeats 4000000 in
theorem c_X1_comeTerm (l : Launch) (D : va_G) (ca : Nat → ClassId) (ad : Nat → Nat → Nat) (PL : List (Nat × Nat)) (Z : State → Prop) (A : Nat → Prop) (hok : okc bX Z A ad PL) (N : Nat) (w : Mem) (i0 : Nat) (h0 : i0 < 2) (x1 : Int32) (x2 : Int32) (x3 : Int32) (x4 : Int32) (x5 : Int32) (w' : Mem) (hf : f_X1_comeTerm N w i0 x1 x2 x3 x4 x5 = some w') : CT l yX1_comeTerm (wsy yX1_comeTerm cX1_comeTerm 6 none) (rmk 3) D ca ad PL Z A [.ref (ad 1 i0), .int x1, .int x2, .int x3, .int x4, .int x5] w w' none := by
  refine Met.ofW (cc := cX1_comeTerm) (maxL := 6) (ret := none) (by decide +kernel) rfl ?_
  intro p e s m args below meth c s₁ B hml hv
  obtain ⟨rfl, hP, hK, hZ⟩ := hv
  have hx := B.exec
  have hb := B.bytes
  have hr := B.returns
  have hlocks := B.notSynchronized
  have hts : ∀ w ∈ ALL, w.before _ s = true := fun w hw => atoms_spec (ws := wsy yX1_comeTerm cX1_comeTerm 6 none) B.pre w (List.mem_cons_of_mem _ hw)
  have hown : s.vm.findClass RX1 = some m.cls := findClass_of_methodNamed B.named
  have C : CX p s m _ c cX1_comeTerm RX1 6 D ca Z := ⟨hx, hb, hml, hown, hts, hK, hZ⟩
  have hS : va_S A s.heap s.heap [] := va_S.rf
  have hl := lv_entry ([.ref (ad 1 i0), .int x1, .int x2, .int x3, .int x4, .int x5]) (n := 6) (Nat.le_of_ble_eq_true rfl)
  rw [lg_entry_eq]
  generalize (lg_sl ([.ref (ad 1 i0), .int x1, .int x2, .int x3, .int x4, .int x5]) ++ List.replicate (6 - (lg_sl ([.ref (ad 1 i0), .int x1, .int x2, .int x3, .int x4, .int x5])).length) Slot.unset).toArray = ls at hl ⊢
  have hl : lv_has ls 6 [(0, .ref (ad 1 i0)), (1, .int x1), (2, .int x2), (3, .int x3), (4, .int x4), (5, .int x5)] := hl
  show W p l e (rmk 3) s m _ below meth c s.heap [] 0 0 _ _
  unfold f_X1_comeTerm at hf
  -- walk
  refine lv_aload_n hx hb dX1_comeTerm_0 rfl (lv_at hl 0 rfl) ?_
  refine gt_1_0 (i := i0) C hP (hok.2.1 1 i0 h0) lk_X1_12 dX1_comeTerm_1 ?_
  refine lv_iload_n hx hb dX1_comeTerm_4 rfl (lv_at hl 1 rfl) ?_
  refine lv_iload_n hx hb dX1_comeTerm_5 rfl (lv_at hl 2 rfl) ?_
  refine lv_iload_n hx hb dX1_comeTerm_6 rfl (lv_at hl 3 rfl) ?_
  refine lv_iload hx hb dX1_comeTerm_7 (lv_at hl 4 rfl) ?_
  refine lv_iload hx hb dX1_comeTerm_9 (lv_at hl 5 rfl) ?_
  obtain ⟨z1, q2, hf⟩ := bsp hf
  refine kc_V (ci := 7) (i := i0) (As := [.int x1, .int x2, .int x3, .int x4, .int x5]) (rest := []) hok.2.2.1 C hP hS hl.1 (hok.2.1 7 i0 h0) rfl rfl cw_X7_addTerm ml_X1_69 (c_X7_addTerm l D ca ad PL Z A hok N w i0 h0 x1 x2 x3 x4 x5 z1 q2) rfl ⟨rfl, rfl⟩ ⟨Nat.le_of_ble_eq_true rfl, Nat.le_of_ble_eq_true rfl⟩ ⟨Nat.zero_le _, Nat.zero_le _⟩ (Nat.le_of_ble_eq_true rfl) rfl dX1_comeTerm_11 (fun H locs hP hS => ?_)
  refine lv_aload_n hx hb dX1_comeTerm_14 rfl (lv_at hl 0 rfl) ?_
  refine gt_1_1 (i := i0) C hP (hok.2.1 1 i0 h0) lk_X1_21 dX1_comeTerm_15 ?_
  obtain ⟨z3, q4, hf⟩ := bsp hf
  refine kc_V (ci := 3) (i := (2 + i0)) (As := []) (rest := []) hok.2.2.1 C hP hS hl.1 (hok.2.1 3 (2 + i0) (Nat.lt_of_lt_of_le (Nat.add_lt_add_left h0 2) (Nat.le_of_ble_eq_true rfl))) rfl rfl cw_X3_addLone ml_X1_73 (c_X3_addLone l D ca ad PL Z A hok N z1 (2 + i0) (Nat.lt_of_lt_of_le (Nat.add_lt_add_left h0 2) (Nat.le_of_ble_eq_true rfl)) z3 q4) rfl ⟨rfl, rfl⟩ ⟨Nat.le_of_ble_eq_true rfl, Nat.le_of_ble_eq_true rfl⟩ ⟨Nat.zero_le _, Nat.zero_le _⟩ (Nat.le_of_ble_eq_true rfl) rfl dX1_comeTerm_18 (fun H locs hP hS => ?_)
  refine lv_aload_n hx hb dX1_comeTerm_21 rfl (lv_at hl 0 rfl) ?_
  refine gt_1_2 (i := i0) C hP (hok.2.1 1 i0 h0) lk_X1_28 dX1_comeTerm_22 ?_
  obtain ⟨z5, q6, hf⟩ := bsp hf
  refine kc_V (ci := 2) (i := i0) (As := []) (rest := []) hok.2.2.1 C hP hS hl.1 (hok.2.1 2 i0 h0) rfl rfl cw_X2_addLone ml_X1_76 (c_X2_addLone l D ca ad PL Z A hok N z3 i0 h0 z5 q6) rfl ⟨rfl, rfl⟩ ⟨Nat.le_of_ble_eq_true rfl, Nat.le_of_ble_eq_true rfl⟩ ⟨Nat.zero_le _, Nat.zero_le _⟩ (Nat.le_of_ble_eq_true rfl) rfl dX1_comeTerm_25 (fun H locs hP hS => ?_)
  refine lv_aload_n hx hb dX1_comeTerm_28 rfl (lv_at hl 0 rfl) ?_
  obtain ⟨z7, q8, hf⟩ := bsp hf
  refine kc_V (ci := 1) (i := i0) (As := []) (rest := []) hok.2.2.1 C hP hS hl.1 (hok.2.1 1 i0 h0) rfl rfl cw_X1_closeInOrder ml_X1_77 (c_X1_closeInOrder l D ca ad PL Z A hok N z5 i0 h0 z7 q8) rfl ⟨rfl, rfl⟩ ⟨Nat.le_of_ble_eq_true rfl, Nat.le_of_ble_eq_true rfl⟩ ⟨Nat.zero_le _, Nat.zero_le _⟩ (Nat.le_of_ble_eq_true rfl) rfl dX1_comeTerm_29 (fun H locs hP hS => ?_)
  exact kr_v hok.2.2.1 C hlocks hr hP hS (Option.some.inj hf) dX1_comeTerm_32
def f_X1_comeSame (N : Nat) (w : Mem) (i0 : Nat) (x1 : Int32) (x2 : Int32) : Option (Mem) :=
  (if (gF w 1 9 i0) < (12 : Int32) then
(if inb (gF w 1 9 i0) 12 = true then (if inb (gF (sA w 13 i0 (gF w 1 9 i0).toNatClampNeg x1) 1 9 i0) 12 = true then (Option.bind (f_X3_one N (sF (sA (sA w 13 i0 (gF w 1 9 i0).toNatClampNeg x1) 14 i0 (gF (sA w 13 i0 (gF w 1 9 i0).toNatClampNeg x1) 1 9 i0).toNatClampNeg x2) 1 9 i0 ((gF (sA (sA w 13 i0 (gF w 1 9 i0).toNatClampNeg x1) 14 i0 (gF (sA w 13 i0 (gF w 1 9 i0).toNatClampNeg x1) 1 9 i0).toNatClampNeg x2) 1 9 i0) + (1 : Int32))) (2 + i0) x1 x2) (fun z3 => (if z3 = (0 : Int32) then
(Option.bind (f_X2_addJoin N (sF (sA (sA w 13 i0 (gF w 1 9 i0).toNatClampNeg x1) 14 i0 (gF (sA w 13 i0 (gF w 1 9 i0).toNatClampNeg x1) 1 9 i0).toNatClampNeg x2) 1 9 i0 ((gF (sA (sA w 13 i0 (gF w 1 9 i0).toNatClampNeg x1) 14 i0 (gF (sA w 13 i0 (gF w 1 9 i0).toNatClampNeg x1) 1 9 i0).toNatClampNeg x2) 1 9 i0) + (1 : Int32))) i0 x1 x2 ((gF (sF (sA (sA w 13 i0 (gF w 1 9 i0).toNatClampNeg x1) 14 i0 (gF (sA w 13 i0 (gF w 1 9 i0).toNatClampNeg x1) 1 9 i0).toNatClampNeg x2) 1 9 i0 ((gF (sA (sA w 13 i0 (gF w 1 9 i0).toNatClampNeg x1) 14 i0 (gF (sA w 13 i0 (gF w 1 9 i0).toNatClampNeg x1) 1 9 i0).toNatClampNeg x2) 1 9 i0) + (1 : Int32))) 1 9 i0) - (1 : Int32)) ((1 : Int32) <<< (((gF (sF (sA (sA w 13 i0 (gF w 1 9 i0).toNatClampNeg x1) 14 i0 (gF (sA w 13 i0 (gF w 1 9 i0).toNatClampNeg x1) 1 9 i0).toNatClampNeg x2) 1 9 i0 ((gF (sA (sA w 13 i0 (gF w 1 9 i0).toNatClampNeg x1) 14 i0 (gF (sA w 13 i0 (gF w 1 9 i0).toNatClampNeg x1) 1 9 i0).toNatClampNeg x2) 1 9 i0) + (1 : Int32))) 1 9 i0) - (1 : Int32)) &&& 31))) (fun z5 => (Option.bind (f_X3_unite N z5 (2 + i0) x1 x2) (fun z7 => (Option.bind (f_X1_closeInOrder N z7 i0) (fun z9 => some z9))))))
else
some (sF (sA (sA w 13 i0 (gF w 1 9 i0).toNatClampNeg x1) 14 i0 (gF (sA w 13 i0 (gF w 1 9 i0).toNatClampNeg x1) 1 9 i0).toNatClampNeg x2) 1 9 i0 ((gF (sA (sA w 13 i0 (gF w 1 9 i0).toNatClampNeg x1) 14 i0 (gF (sA w 13 i0 (gF w 1 9 i0).toNatClampNeg x1) 1 9 i0).toNatClampNeg x2) 1 9 i0) + (1 : Int32)))))) else none) else none)
else
some w)
set_option maxRecDepth 100000 in
set_option maxHeartbeats 4000000 in
theorem c_X1_comeSame (l : Launch) (D : va_G) (ca : Nat → ClassId) (ad : Nat → Nat → Nat) (PL : List (Nat × Nat)) (Z : State → Prop) (A : Nat → Prop) (hok : okc bX Z A ad PL) (N : Nat) (w : Mem) (i0 : Nat) (h0 : i0 < 2) (x1 : Int32) (x2 : Int32) (w' : Mem) (hf : f_X1_comeSame N w i0 x1 x2 = some w') : CT l yX1_comeSame (wsy yX1_comeSame cX1_comeSame 3 none) (rmk 3) D ca ad PL Z A [.ref (ad 1 i0), .int x1, .int x2] w w' none := by
  refine Met.ofW (cc := cX1_comeSame) (maxL := 3) (ret := none) (by decide +kernel) rfl ?_
  intro p e s m args below meth c s₁ B hml hv
  obtain ⟨rfl, hP, hK, hZ⟩ := hv
  have hx := B.exec
  have hb := B.bytes
  have hr := B.returns
  have hlocks := B.notSynchronized
  have hts : ∀ w ∈ ALL, w.before _ s = true := fun w hw => atoms_spec (ws := wsy yX1_comeSame cX1_comeSame 3 none) B.pre w (List.mem_cons_of_mem _ hw)
  have hown : s.vm.findClass RX1 = some m.cls := findClass_of_methodNamed B.named
  have C : CX p s m _ c cX1_comeSame RX1 3 D ca Z := ⟨hx, hb, hml, hown, hts, hK, hZ⟩
  have hS : va_S A s.heap s.heap [] := va_S.rf
  have hl := lv_entry ([.ref (ad 1 i0), .int x1, .int x2]) (n := 3) (Nat.le_of_ble_eq_true rfl)
  rw [lg_entry_eq]
  generalize (lg_sl ([.ref (ad 1 i0), .int x1, .int x2]) ++ List.replicate (3 - (lg_sl ([.ref (ad 1 i0), .int x1, .int x2])).length) Slot.unset).toArray = ls at hl ⊢
  have hl : lv_has ls 3 [(0, .ref (ad 1 i0)), (1, .int x1), (2, .int x2)] := hl
  show W p l e (rmk 3) s m _ below meth c s.heap [] 0 0 _ _
  unfold f_X1_comeSame at hf
  -- walk
  refine lv_aload_n hx hb dX1_comeSame_0 rfl (lv_at hl 0 rfl) ?_
  refine gt_1_9 (i := i0) C hP (hok.2.1 1 i0 h0) lk_X1_59 dX1_comeSame_1 ?_
  refine lv_bipush (v := (12 : Int32)) hx hb dX1_comeSame_4 (by decide) ?_
  refine lv_icmp_lt (tgt := 10) hx hb dX1_comeSame_6 (by decide) (fun c12 => ?_) (fun c12 => ?_)
  · have hf := ifp hf c12
    refine lv_aload_n hx hb dX1_comeSame_10 rfl (lv_at hl 0 rfl) ?_
    refine gt_1_3 (i := i0) C hP (hok.2.1 1 i0 h0) lk_X1_32 dX1_comeSame_11 ?_
    refine lv_aload_n hx hb dX1_comeSame_14 rfl (lv_at hl 0 rfl) ?_
    refine gt_1_9 (i := i0) C hP (hok.2.1 1 i0 h0) lk_X1_59 dX1_comeSame_15 ?_
    refine lv_iload_n hx hb dX1_comeSame_18 rfl (lv_at hl 1 rfl) ?_
    obtain ⟨b1, hf⟩ := gsp hf
    refine ra_ist (k := 13) (i := i0) (n := 12) C hok.1 hP hS (hok.2.1 13 i0 h0) (fun _ => rfl) b1 dX1_comeSame_19 (fun H locs hP hS => ?_)
    refine lv_aload_n hx hb dX1_comeSame_20 rfl (lv_at hl 0 rfl) ?_
    refine gt_1_4 (i := i0) C hP (hok.2.1 1 i0 h0) lk_X1_36 dX1_comeSame_21 ?_
    refine lv_aload_n hx hb dX1_comeSame_24 rfl (lv_at hl 0 rfl) ?_
    refine gt_1_9 (i := i0) C hP (hok.2.1 1 i0 h0) lk_X1_59 dX1_comeSame_25 ?_
    refine lv_iload_n hx hb dX1_comeSame_28 rfl (lv_at hl 2 rfl) ?_
    obtain ⟨b2, hf⟩ := gsp hf
    refine ra_ist (k := 14) (i := i0) (n := 12) C hok.1 hP hS (hok.2.1 14 i0 h0) (fun _ => rfl) b2 dX1_comeSame_29 (fun H locs hP hS => ?_)
    refine lv_aload_n hx hb dX1_comeSame_30 rfl (lv_at hl 0 rfl) ?_
    refine lv_dup hx hb dX1_comeSame_31 rfl ?_
    refine gt_1_9 (i := i0) C hP (hok.2.1 1 i0 h0) lk_X1_59 dX1_comeSame_32 ?_
    refine lv_iconst (v := (1 : Int32)) hx hb dX1_comeSame_35 (by decide) ?_
    refine lv_iadd hx hb dX1_comeSame_36 ?_
    refine pt_1_9 (i := i0) (v := ((gF (sA (sA w 13 i0 (gF w 1 9 i0).toNatClampNeg x1) 14 i0 (gF (sA w 13 i0 (gF w 1 9 i0).toNatClampNeg x1) 1 9 i0).toNatClampNeg x2) 1 9 i0) + (1 : Int32))) C hok.1 hP hS (hok.2.1 1 i0 h0) lk_X1_59 dX1_comeSame_37 (fun H locs hP hS => ?_)
    refine lv_aload_n hx hb dX1_comeSame_40 rfl (lv_at hl 0 rfl) ?_
    refine gt_1_1 (i := i0) C hP (hok.2.1 1 i0 h0) lk_X1_21 dX1_comeSame_41 ?_
    refine lv_iload_n hx hb dX1_comeSame_44 rfl (lv_at hl 1 rfl) ?_
    refine lv_iload_n hx hb dX1_comeSame_45 rfl (lv_at hl 2 rfl) ?_
    obtain ⟨z3, q4, hf⟩ := bsp hf
    refine kc_V (ci := 3) (i := (2 + i0)) (As := [.int x1, .int x2]) (rest := []) hok.2.2.1 C hP hS hl.1 (hok.2.1 3 (2 + i0) (Nat.lt_of_lt_of_le (Nat.add_lt_add_left h0 2) (Nat.le_of_ble_eq_true rfl))) rfl rfl cw_X3_one ml_X1_80 (c_X3_one l D ca ad PL Z A hok N (sF (sA (sA w 13 i0 (gF w 1 9 i0).toNatClampNeg x1) 14 i0 (gF (sA w 13 i0 (gF w 1 9 i0).toNatClampNeg x1) 1 9 i0).toNatClampNeg x2) 1 9 i0 ((gF (sA (sA w 13 i0 (gF w 1 9 i0).toNatClampNeg x1) 14 i0 (gF (sA w 13 i0 (gF w 1 9 i0).toNatClampNeg x1) 1 9 i0).toNatClampNeg x2) 1 9 i0) + (1 : Int32))) (2 + i0) (Nat.lt_of_lt_of_le (Nat.add_lt_add_left h0 2) (Nat.le_of_ble_eq_true rfl)) x1 x2 z3 q4) rfl ⟨rfl, rfl⟩ ⟨Nat.le_of_ble_eq_true rfl, Nat.le_of_ble_eq_true rfl⟩ ⟨Nat.zero_le _, Nat.zero_le _⟩ (Nat.le_of_ble_eq_true rfl) rfl dX1_comeSame_46 (fun H locs hP hS => ?_)
    refine lv_if_ne (tgt := 88) hx hb dX1_comeSame_49 (by decide) (fun c11 => ?_) (fun c11 => ?_)
    · have hf := ifn hf c11
      exact kr_v hok.2.2.1 C hlocks hr hP hS (Option.some.inj hf) dX1_comeSame_88
    · have hf := ifp hf c11
      refine lv_aload_n hx hb dX1_comeSame_52 rfl (lv_at hl 0 rfl) ?_
      refine gt_1_2 (i := i0) C hP (hok.2.1 1 i0 h0) lk_X1_28 dX1_comeSame_53 ?_
      refine lv_iload_n hx hb dX1_comeSame_56 rfl (lv_at hl 1 rfl) ?_
      refine lv_iload_n hx hb dX1_comeSame_57 rfl (lv_at hl 2 rfl) ?_
      refine lv_aload_n hx hb dX1_comeSame_58 rfl (lv_at hl 0 rfl) ?_
      refine gt_1_9 (i := i0) C hP (hok.2.1 1 i0 h0) lk_X1_59 dX1_comeSame_59 ?_
      refine lv_iconst (v := (1 : Int32)) hx hb dX1_comeSame_62 (by decide) ?_
      refine lv_isub hx hb dX1_comeSame_63 ?_
      refine lv_iconst (v := (1 : Int32)) hx hb dX1_comeSame_64 (by decide) ?_
      refine lv_aload_n hx hb dX1_comeSame_65 rfl (lv_at hl 0 rfl) ?_
      refine gt_1_9 (i := i0) C hP (hok.2.1 1 i0 h0) lk_X1_59 dX1_comeSame_66 ?_
      refine lv_iconst (v := (1 : Int32)) hx hb dX1_comeSame_69 (by decide) ?_
      refine lv_isub hx hb dX1_comeSame_70 ?_
      refine lv_ishl hx hb dX1_comeSame_71 ?_
      obtain ⟨z5, q6, hf⟩ := bsp hf
      refine kc_V (ci := 2) (i := i0) (As := [.int x1, .int x2, .int ((gF (sF (sA (sA w 13 i0 (gF w 1 9 i0).toNatClampNeg x1) 14 i0 (gF (sA w 13 i0 (gF w 1 9 i0).toNatClampNeg x1) 1 9 i0).toNatClampNeg x2) 1 9 i0 ((gF (sA (sA w 13 i0 (gF w 1 9 i0).toNatClampNeg x1) 14 i0 (gF (sA w 13 i0 (gF w 1 9 i0).toNatClampNeg x1) 1 9 i0).toNatClampNeg x2) 1 9 i0) + (1 : Int32))) 1 9 i0) - (1 : Int32)), .int ((1 : Int32) <<< (((gF (sF (sA (sA w 13 i0 (gF w 1 9 i0).toNatClampNeg x1) 14 i0 (gF (sA w 13 i0 (gF w 1 9 i0).toNatClampNeg x1) 1 9 i0).toNatClampNeg x2) 1 9 i0 ((gF (sA (sA w 13 i0 (gF w 1 9 i0).toNatClampNeg x1) 14 i0 (gF (sA w 13 i0 (gF w 1 9 i0).toNatClampNeg x1) 1 9 i0).toNatClampNeg x2) 1 9 i0) + (1 : Int32))) 1 9 i0) - (1 : Int32)) &&& 31))]) (rest := []) hok.2.2.1 C hP hS hl.1 (hok.2.1 2 i0 h0) rfl rfl cw_X2_addJoin ml_X1_84 (c_X2_addJoin l D ca ad PL Z A hok N (sF (sA (sA w 13 i0 (gF w 1 9 i0).toNatClampNeg x1) 14 i0 (gF (sA w 13 i0 (gF w 1 9 i0).toNatClampNeg x1) 1 9 i0).toNatClampNeg x2) 1 9 i0 ((gF (sA (sA w 13 i0 (gF w 1 9 i0).toNatClampNeg x1) 14 i0 (gF (sA w 13 i0 (gF w 1 9 i0).toNatClampNeg x1) 1 9 i0).toNatClampNeg x2) 1 9 i0) + (1 : Int32))) i0 h0 x1 x2 ((gF (sF (sA (sA w 13 i0 (gF w 1 9 i0).toNatClampNeg x1) 14 i0 (gF (sA w 13 i0 (gF w 1 9 i0).toNatClampNeg x1) 1 9 i0).toNatClampNeg x2) 1 9 i0 ((gF (sA (sA w 13 i0 (gF w 1 9 i0).toNatClampNeg x1) 14 i0 (gF (sA w 13 i0 (gF w 1 9 i0).toNatClampNeg x1) 1 9 i0).toNatClampNeg x2) 1 9 i0) + (1 : Int32))) 1 9 i0) - (1 : Int32)) ((1 : Int32) <<< (((gF (sF (sA (sA w 13 i0 (gF w 1 9 i0).toNatClampNeg x1) 14 i0 (gF (sA w 13 i0 (gF w 1 9 i0).toNatClampNeg x1) 1 9 i0).toNatClampNeg x2) 1 9 i0 ((gF (sA (sA w 13 i0 (gF w 1 9 i0).toNatClampNeg x1) 14 i0 (gF (sA w 13 i0 (gF w 1 9 i0).toNatClampNeg x1) 1 9 i0).toNatClampNeg x2) 1 9 i0) + (1 : Int32))) 1 9 i0) - (1 : Int32)) &&& 31)) z5 q6) rfl ⟨rfl, rfl⟩ ⟨Nat.le_of_ble_eq_true rfl, Nat.le_of_ble_eq_true rfl⟩ ⟨Nat.zero_le _, Nat.zero_le _⟩ (Nat.le_of_ble_eq_true rfl) rfl dX1_comeSame_72 (fun H locs hP hS => ?_)
      refine lv_aload_n hx hb dX1_comeSame_75 rfl (lv_at hl 0 rfl) ?_
      refine gt_1_1 (i := i0) C hP (hok.2.1 1 i0 h0) lk_X1_21 dX1_comeSame_76 ?_
      refine lv_iload_n hx hb dX1_comeSame_79 rfl (lv_at hl 1 rfl) ?_
      refine lv_iload_n hx hb dX1_comeSame_80 rfl (lv_at hl 2 rfl) ?_
      obtain ⟨z7, q8, hf⟩ := bsp hf
      refine kc_V (ci := 3) (i := (2 + i0)) (As := [.int x1, .int x2]) (rest := []) hok.2.2.1 C hP hS hl.1 (hok.2.1 3 (2 + i0) (Nat.lt_of_lt_of_le (Nat.add_lt_add_left h0 2) (Nat.le_of_ble_eq_true rfl))) rfl rfl cw_X3_unite ml_X1_88 (c_X3_unite l D ca ad PL Z A hok N z5 (2 + i0) (Nat.lt_of_lt_of_le (Nat.add_lt_add_left h0 2) (Nat.le_of_ble_eq_true rfl)) x1 x2 z7 q8) rfl ⟨rfl, rfl⟩ ⟨Nat.le_of_ble_eq_true rfl, Nat.le_of_ble_eq_true rfl⟩ ⟨Nat.zero_le _, Nat.zero_le _⟩ (Nat.le_of_ble_eq_true rfl) rfl dX1_comeSame_81 (fun H locs hP hS => ?_)
      refine lv_aload_n hx hb dX1_comeSame_84 rfl (lv_at hl 0 rfl) ?_
      obtain ⟨z9, q10, hf⟩ := bsp hf
      refine kc_V (ci := 1) (i := i0) (As := []) (rest := []) hok.2.2.1 C hP hS hl.1 (hok.2.1 1 i0 h0) rfl rfl cw_X1_closeInOrder ml_X1_77 (c_X1_closeInOrder l D ca ad PL Z A hok N z7 i0 h0 z9 q10) rfl ⟨rfl, rfl⟩ ⟨Nat.le_of_ble_eq_true rfl, Nat.le_of_ble_eq_true rfl⟩ ⟨Nat.zero_le _, Nat.zero_le _⟩ (Nat.le_of_ble_eq_true rfl) rfl dX1_comeSame_85 (fun H locs hP hS => ?_)
      exact kr_v hok.2.2.1 C hlocks hr hP hS (Option.some.inj hf) dX1_comeSame_88
  · have hf := ifn hf c12
    exact kr_v hok.2.2.1 C hlocks hr hP hS (Option.some.inj hf) dX1_comeSame_9
def f_X1_comeDiff (N : Nat) (w : Mem) (i0 : Nat) (x1 : Int32) (x2 : Int32) : Option (Mem) :=
  (if (8 : Int32) ≤ (gF w 1 10 i0) then
some w
else
(if inb (gF w 1 10 i0) 8 = true then (if inb (gF (sA w 15 i0 (gF w 1 10 i0).toNatClampNeg x1) 1 10 i0) 8 = true then some (sF (sA (sA w 15 i0 (gF w 1 10 i0).toNatClampNeg x1) 16 i0 (gF (sA w 15 i0 (gF w 1 10 i0).toNatClampNeg x1) 1 10 i0).toNatClampNeg x2) 1 10 i0 ((gF (sA (sA w 15 i0 (gF w 1 10 i0).toNatClampNeg x1) 16 i0 (gF (sA w 15 i0 (gF w 1 10 i0).toNatClampNeg x1) 1 10 i0).toNatClampNeg x2) 1 10 i0) + (1 : Int32))) else none) else none))
set_option maxRecDepth 100000 in
set_option maxHeartbeats 4000000 in
theorem c_X1_comeDiff (l : Launch) (D : va_G) (ca : Nat → ClassId) (ad : Nat → Nat → Nat) (PL : List (Nat × Nat)) (Z : State → Prop) (A : Nat → Prop) (hok : okc bX Z A ad PL) (N : Nat) (w : Mem) (i0 : Nat) (h0 : i0 < 2) (x1 : Int32) (x2 : Int32) (w' : Mem) (hf : f_X1_comeDiff N w i0 x1 x2 = some w') : CT l yX1_comeDiff (wsy yX1_comeDiff cX1_comeDiff 3 none) (rmk 0) D ca ad PL Z A [.ref (ad 1 i0), .int x1, .int x2] w w' none := by
  refine Met.ofW (cc := cX1_comeDiff) (maxL := 3) (ret := none) (by decide +kernel) rfl ?_
  intro p e s m args below meth c s₁ B hml hv
  obtain ⟨rfl, hP, hK, hZ⟩ := hv
  have hx := B.exec
  have hb := B.bytes
  have hr := B.returns
  have hlocks := B.notSynchronized
  have hts : ∀ w ∈ ALL, w.before _ s = true := fun w hw => atoms_spec (ws := wsy yX1_comeDiff cX1_comeDiff 3 none) B.pre w (List.mem_cons_of_mem _ hw)
  have hown : s.vm.findClass RX1 = some m.cls := findClass_of_methodNamed B.named
  have C : CX p s m _ c cX1_comeDiff RX1 3 D ca Z := ⟨hx, hb, hml, hown, hts, hK, hZ⟩
  have hS : va_S A s.heap s.heap [] := va_S.rf
  have hl := lv_entry ([.ref (ad 1 i0), .int x1, .int x2]) (n := 3) (Nat.le_of_ble_eq_true rfl)
  rw [lg_entry_eq]
  generalize (lg_sl ([.ref (ad 1 i0), .int x1, .int x2]) ++ List.replicate (3 - (lg_sl ([.ref (ad 1 i0), .int x1, .int x2])).length) Slot.unset).toArray = ls at hl ⊢
  have hl : lv_has ls 3 [(0, .ref (ad 1 i0)), (1, .int x1), (2, .int x2)] := hl
  show W p l e (rmk 0) s m _ below meth c s.heap [] 0 0 _ _
  unfold f_X1_comeDiff at hf
  -- walk
  refine lv_aload_n hx hb dX1_comeDiff_0 rfl (lv_at hl 0 rfl) ?_
  refine gt_1_10 (i := i0) C hP (hok.2.1 1 i0 h0) lk_X1_63 dX1_comeDiff_1 ?_
  refine lv_bipush (v := (8 : Int32)) hx hb dX1_comeDiff_4 (by decide) ?_
  refine lv_icmp_ge (tgt := 39) hx hb dX1_comeDiff_6 (by decide) (fun c3 => ?_) (fun c3 => ?_)
  · have hf := ifp hf c3
    exact kr_v hok.2.2.1 C hlocks hr hP hS (Option.some.inj hf) dX1_comeDiff_39
  · have hf := ifn hf c3
    refine lv_aload_n hx hb dX1_comeDiff_9 rfl (lv_at hl 0 rfl) ?_
    refine gt_1_5 (i := i0) C hP (hok.2.1 1 i0 h0) lk_X1_39 dX1_comeDiff_10 ?_
    refine lv_aload_n hx hb dX1_comeDiff_13 rfl (lv_at hl 0 rfl) ?_
    refine gt_1_10 (i := i0) C hP (hok.2.1 1 i0 h0) lk_X1_63 dX1_comeDiff_14 ?_
    refine lv_iload_n hx hb dX1_comeDiff_17 rfl (lv_at hl 1 rfl) ?_
    obtain ⟨b1, hf⟩ := gsp hf
    refine ra_ist (k := 15) (i := i0) (n := 8) C hok.1 hP hS (hok.2.1 15 i0 h0) (fun _ => rfl) b1 dX1_comeDiff_18 (fun H locs hP hS => ?_)
    refine lv_aload_n hx hb dX1_comeDiff_19 rfl (lv_at hl 0 rfl) ?_
    refine gt_1_6 (i := i0) C hP (hok.2.1 1 i0 h0) lk_X1_42 dX1_comeDiff_20 ?_
    refine lv_aload_n hx hb dX1_comeDiff_23 rfl (lv_at hl 0 rfl) ?_
    refine gt_1_10 (i := i0) C hP (hok.2.1 1 i0 h0) lk_X1_63 dX1_comeDiff_24 ?_
    refine lv_iload_n hx hb dX1_comeDiff_27 rfl (lv_at hl 2 rfl) ?_
    obtain ⟨b2, hf⟩ := gsp hf
    refine ra_ist (k := 16) (i := i0) (n := 8) C hok.1 hP hS (hok.2.1 16 i0 h0) (fun _ => rfl) b2 dX1_comeDiff_28 (fun H locs hP hS => ?_)
    refine lv_aload_n hx hb dX1_comeDiff_29 rfl (lv_at hl 0 rfl) ?_
    refine lv_dup hx hb dX1_comeDiff_30 rfl ?_
    refine gt_1_10 (i := i0) C hP (hok.2.1 1 i0 h0) lk_X1_63 dX1_comeDiff_31 ?_
    refine lv_iconst (v := (1 : Int32)) hx hb dX1_comeDiff_34 (by decide) ?_
    refine lv_iadd hx hb dX1_comeDiff_35 ?_
    refine pt_1_10 (i := i0) (v := ((gF (sA (sA w 15 i0 (gF w 1 10 i0).toNatClampNeg x1) 16 i0 (gF (sA w 15 i0 (gF w 1 10 i0).toNatClampNeg x1) 1 10 i0).toNatClampNeg x2) 1 10 i0) + (1 : Int32))) C hok.1 hP hS (hok.2.1 1 i0 h0) lk_X1_63 dX1_comeDiff_36 (fun H locs hP hS => ?_)
    exact kr_v hok.2.2.1 C hlocks hr hP hS (Option.some.inj hf) dX1_comeDiff_39
def f_X1_noteAct (N : Nat) (w : Mem) (i0 : Nat) (x1 : Int32) : Option (Mem) :=
  (if (44 : Int32) ≤ (gF w 1 11 i0) then
some w
else
(if inb (gF w 1 11 i0) 44 = true then (if inb (gF (sA w 17 i0 (gF w 1 11 i0).toNatClampNeg x1) 1 11 i0) 44 = true then some (sF (sA (sA w 17 i0 (gF w 1 11 i0).toNatClampNeg x1) 18 i0 (gF (sA w 17 i0 (gF w 1 11 i0).toNatClampNeg x1) 1 11 i0).toNatClampNeg (gF (sA w 17 i0 (gF w 1 11 i0).toNatClampNeg x1) 2 7 i0)) 1 11 i0 ((gF (sA (sA w 17 i0 (gF w 1 11 i0).toNatClampNeg x1) 18 i0 (gF (sA w 17 i0 (gF w 1 11 i0).toNatClampNeg x1) 1 11 i0).toNatClampNeg (gF (sA w 17 i0 (gF w 1 11 i0).toNatClampNeg x1) 2 7 i0)) 1 11 i0) + (1 : Int32))) else none) else none))
set_option maxRecDepth 100000 in
set_option maxHeartbeats 4000000 in
theorem c_X1_noteAct (l : Launch) (D : va_G) (ca : Nat → ClassId) (ad : Nat → Nat → Nat) (PL : List (Nat × Nat)) (Z : State → Prop) (A : Nat → Prop) (hok : okc bX Z A ad PL) (N : Nat) (w : Mem) (i0 : Nat) (h0 : i0 < 2) (x1 : Int32) (w' : Mem) (hf : f_X1_noteAct N w i0 x1 = some w') : CT l yX1_noteAct (wsy yX1_noteAct cX1_noteAct 2 none) (rmk 0) D ca ad PL Z A [.ref (ad 1 i0), .int x1] w w' none := by
  refine Met.ofW (cc := cX1_noteAct) (maxL := 2) (ret := none) (by decide +kernel) rfl ?_
  intro p e s m args below meth c s₁ B hml hv
  obtain ⟨rfl, hP, hK, hZ⟩ := hv
  have hx := B.exec
  have hb := B.bytes
  have hr := B.returns
  have hlocks := B.notSynchronized
  have hts : ∀ w ∈ ALL, w.before _ s = true := fun w hw => atoms_spec (ws := wsy yX1_noteAct cX1_noteAct 2 none) B.pre w (List.mem_cons_of_mem _ hw)
  have hown : s.vm.findClass RX1 = some m.cls := findClass_of_methodNamed B.named
  have C : CX p s m _ c cX1_noteAct RX1 2 D ca Z := ⟨hx, hb, hml, hown, hts, hK, hZ⟩
  have hS : va_S A s.heap s.heap [] := va_S.rf
  have hl := lv_entry ([.ref (ad 1 i0), .int x1]) (n := 2) (Nat.le_of_ble_eq_true rfl)
  rw [lg_entry_eq]
  generalize (lg_sl ([.ref (ad 1 i0), .int x1]) ++ List.replicate (2 - (lg_sl ([.ref (ad 1 i0), .int x1])).length) Slot.unset).toArray = ls at hl ⊢
  have hl : lv_has ls 2 [(0, .ref (ad 1 i0)), (1, .int x1)] := hl
  show W p l e (rmk 0) s m _ below meth c s.heap [] 0 0 _ _
  unfold f_X1_noteAct at hf
  -- walk
  refine lv_aload_n hx hb dX1_noteAct_0 rfl (lv_at hl 0 rfl) ?_
  refine gt_1_11 (i := i0) C hP (hok.2.1 1 i0 h0) lk_X1_66 dX1_noteAct_1 ?_
  refine lv_bipush (v := (44 : Int32)) hx hb dX1_noteAct_4 (by decide) ?_
  refine lv_icmp_ge (tgt := 45) hx hb dX1_noteAct_6 (by decide) (fun c3 => ?_) (fun c3 => ?_)
  · have hf := ifp hf c3
    exact kr_v hok.2.2.1 C hlocks hr hP hS (Option.some.inj hf) dX1_noteAct_45
  · have hf := ifn hf c3
    refine lv_aload_n hx hb dX1_noteAct_9 rfl (lv_at hl 0 rfl) ?_
    refine gt_1_7 (i := i0) C hP (hok.2.1 1 i0 h0) lk_X1_45 dX1_noteAct_10 ?_
    refine lv_aload_n hx hb dX1_noteAct_13 rfl (lv_at hl 0 rfl) ?_
    refine gt_1_11 (i := i0) C hP (hok.2.1 1 i0 h0) lk_X1_66 dX1_noteAct_14 ?_
    refine lv_iload_n hx hb dX1_noteAct_17 rfl (lv_at hl 1 rfl) ?_
    obtain ⟨b1, hf⟩ := gsp hf
    refine ra_ist (k := 17) (i := i0) (n := 44) C hok.1 hP hS (hok.2.1 17 i0 h0) (fun _ => rfl) b1 dX1_noteAct_18 (fun H locs hP hS => ?_)
    refine lv_aload_n hx hb dX1_noteAct_19 rfl (lv_at hl 0 rfl) ?_
    refine gt_1_8 (i := i0) C hP (hok.2.1 1 i0 h0) lk_X1_48 dX1_noteAct_20 ?_
    refine lv_aload_n hx hb dX1_noteAct_23 rfl (lv_at hl 0 rfl) ?_
    refine gt_1_11 (i := i0) C hP (hok.2.1 1 i0 h0) lk_X1_66 dX1_noteAct_24 ?_
    refine lv_aload_n hx hb dX1_noteAct_27 rfl (lv_at hl 0 rfl) ?_
    refine gt_1_2 (i := i0) C hP (hok.2.1 1 i0 h0) lk_X1_28 dX1_noteAct_28 ?_
    refine gt_2_7 (i := i0) C hP (hok.2.1 2 i0 h0) lk_X1_116 dX1_noteAct_31 ?_
    obtain ⟨b2, hf⟩ := gsp hf
    refine ra_ist (k := 18) (i := i0) (n := 44) C hok.1 hP hS (hok.2.1 18 i0 h0) (fun _ => rfl) b2 dX1_noteAct_34 (fun H locs hP hS => ?_)
    refine lv_aload_n hx hb dX1_noteAct_35 rfl (lv_at hl 0 rfl) ?_
    refine lv_dup hx hb dX1_noteAct_36 rfl ?_
    refine gt_1_11 (i := i0) C hP (hok.2.1 1 i0 h0) lk_X1_66 dX1_noteAct_37 ?_
    refine lv_iconst (v := (1 : Int32)) hx hb dX1_noteAct_40 (by decide) ?_
    refine lv_iadd hx hb dX1_noteAct_41 ?_
    refine pt_1_11 (i := i0) (v := ((gF (sA (sA w 17 i0 (gF w 1 11 i0).toNatClampNeg x1) 18 i0 (gF (sA w 17 i0 (gF w 1 11 i0).toNatClampNeg x1) 1 11 i0).toNatClampNeg (gF (sA w 17 i0 (gF w 1 11 i0).toNatClampNeg x1) 2 7 i0)) 1 11 i0) + (1 : Int32))) C hok.1 hP hS (hok.2.1 1 i0 h0) lk_X1_66 dX1_noteAct_42 (fun H locs hP hS => ?_)
    exact kr_v hok.2.2.1 C hlocks hr hP hS (Option.some.inj hf) dX1_noteAct_45
def f_X1_undoLatest_157 (N : Nat) (w : Mem) (i0 : Nat) : Option (Mem) :=
  some w
def lp_X1_undoLatest_115 (k : Mem → Option (Mem)) (N : Nat) (i0 : Nat) : Nat → Mem → Int32 → Option (Mem)
  | 0, _, _ => none
  | n + 1, w, v1 => (if (gF w 2 7 i0) ≤ v1 then
(k w)
else
(if inb v1 24 = true then (Option.bind (f_X3_unite N w (2 + i0) (gA w 21 i0 v1.toNatClampNeg) (gA w 22 i0 v1.toNatClampNeg)) (fun z11 => (lp_X1_undoLatest_115 k N  i0  n z11 (v1 + (1 : Int32))))) else none))
def f_X1_undoLatest_76 (N : Nat) (w : Mem) (i0 : Nat) : Option (Mem) :=
  (if inb (gF w 1 11 i0) 44 = true then (Option.bind (f_X2_cutBack N w i0 (gF w 7 10 i0) (gA w 18 i0 (gF w 1 11 i0).toNatClampNeg)) (fun z5 => (Option.bind (f_X3_partAll N z5 (2 + i0) (gF z5 7 10 i0)) (fun z7 => (lp_X1_undoLatest_115 (fun (w_9 : Mem) => (f_X1_undoLatest_157 N w_9 i0  )) N  i0  N z7 (0 : Int32)))))) else none)
def f_X1_undoLatest (N : Nat) (w : Mem) (i0 : Nat) : Option (Mem) :=
  (if (gF w 1 11 i0) = (0 : Int32) then
some w
else
(if inb (gF (sF w 1 11 i0 ((gF w 1 11 i0) - (1 : Int32))) 1 11 i0) 44 = true then (if (gA (sF w 1 11 i0 ((gF w 1 11 i0) - (1 : Int32))) 17 i0 (gF (sF w 1 11 i0 ((gF w 1 11 i0) - (1 : Int32))) 1 11 i0).toNatClampNeg) = (0 : Int32) then
(f_X1_undoLatest_76 N (sF (sF w 1 11 i0 ((gF w 1 11 i0) - (1 : Int32))) 1 9 i0 ((gF (sF w 1 11 i0 ((gF w 1 11 i0) - (1 : Int32))) 1 9 i0) - (1 : Int32))) i0  )
else
(if (gA (sF w 1 11 i0 ((gF w 1 11 i0) - (1 : Int32))) 17 i0 (gF (sF w 1 11 i0 ((gF w 1 11 i0) - (1 : Int32))) 1 11 i0).toNatClampNeg) = (1 : Int32) then
(f_X1_undoLatest_76 N (sF (sF w 1 11 i0 ((gF w 1 11 i0) - (1 : Int32))) 1 10 i0 ((gF (sF w 1 11 i0 ((gF w 1 11 i0) - (1 : Int32))) 1 10 i0) - (1 : Int32))) i0  )
else
(Option.bind (f_X7_dropTerm N (sF w 1 11 i0 ((gF w 1 11 i0) - (1 : Int32))) i0) (fun z2 => (f_X1_undoLatest_76 N z2 i0  ))))) else none))
set_option maxRecDepth 100000 in
set_option maxHeartbeats 4000000 in
theorem c_X1_undoLatest (l : Launch) (D : va_G) (ca : Nat → ClassId) (ad : Nat → Nat → Nat) (PL : List (Nat × Nat)) (Z : State → Prop) (A : Nat → Prop) (hok : okc bX Z A ad PL) (N : Nat) (w : Mem) (i0 : Nat) (h0 : i0 < 2) (w' : Mem) (hf : f_X1_undoLatest N w i0 = some w') : CT l yX1_undoLatest (wsy yX1_undoLatest cX1_undoLatest 2 none) (rmk 2) D ca ad PL Z A [.ref (ad 1 i0)] w w' none := by
  refine Met.ofW (cc := cX1_undoLatest) (maxL := 2) (ret := none) (by decide +kernel) rfl ?_
  intro p e s m args below meth c s₁ B hml hv
  obtain ⟨rfl, hP, hK, hZ⟩ := hv
  have hx := B.exec
  have hb := B.bytes
  have hr := B.returns
  have hlocks := B.notSynchronized
  have hts : ∀ w ∈ ALL, w.before _ s = true := fun w hw => atoms_spec (ws := wsy yX1_undoLatest cX1_undoLatest 2 none) B.pre w (List.mem_cons_of_mem _ hw)
  have hown : s.vm.findClass RX1 = some m.cls := findClass_of_methodNamed B.named
  have C : CX p s m _ c cX1_undoLatest RX1 2 D ca Z := ⟨hx, hb, hml, hown, hts, hK, hZ⟩
  have hS : va_S A s.heap s.heap [] := va_S.rf
  have hl := lv_entry ([.ref (ad 1 i0)]) (n := 2) (Nat.le_of_ble_eq_true rfl)
  rw [lg_entry_eq]
  generalize (lg_sl ([.ref (ad 1 i0)]) ++ List.replicate (2 - (lg_sl ([.ref (ad 1 i0)])).length) Slot.unset).toArray = ls at hl ⊢
  have hl : lv_has ls 2 [(0, .ref (ad 1 i0))] := hl
  show W p l e (rmk 2) s m _ below meth c s.heap [] 0 0 _ _
  have P_f_X1_undoLatest_157 : ∀ (w : Mem), f_X1_undoLatest_157 N w i0   = some w' → WP p l e (rmk 2) s m [.ref (ad 1 i0)].toArray below meth c D ca ad PL A (MQ below (qcR D ca ad PL Z A w' none) [.ref (ad 1 i0)].toArray s 0 0 A) 2 157 [] [] w := by
    intro w hf _ _ ls hP hS hl
    unfold f_X1_undoLatest_157 at hf
    exact kr_v hok.2.2.1 C hlocks hr hP hS (Option.some.inj hf) dX1_undoLatest_157
  have L_lp_X1_undoLatest_115 : ∀ (k : Mem → Option (Mem)) (hk : ∀ (w : Mem), k w = some w' → WP p l e (rmk 2) s m [.ref (ad 1 i0)].toArray below meth c D ca ad PL A (MQ below (qcR D ca ad PL Z A w' none) [.ref (ad 1 i0)].toArray s 0 0 A) 2 157 [] [] w) (n : Nat) (w : Mem) (v1 : Int32), lp_X1_undoLatest_115 k N  i0  n w v1 = some w' → WP p l e (rmk 2) s m [.ref (ad 1 i0)].toArray below meth c D ca ad PL A (MQ below (qcR D ca ad PL Z A w' none) [.ref (ad 1 i0)].toArray s 0 0 A) 2 115 [] [(0, .ref (ad 1 i0)), (1, .int v1)] w := by
    intro k hk n
    induction n with
    | zero => intro w v1 hf; rw [lp_X1_undoLatest_115] at hf; cases hf
    | succ n ih =>
      intro w v1 hf _ _ ls hP hS hl
      rw [lp_X1_undoLatest_115] at hf
      refine lv_iload_n hx hb dX1_undoLatest_115 rfl (lv_at hl 1 rfl) ?_
      refine lv_aload_n hx hb dX1_undoLatest_116 rfl (lv_at hl 0 rfl) ?_
      refine gt_1_2 (i := i0) C hP (hok.2.1 1 i0 h0) lk_X1_28 dX1_undoLatest_117 ?_
      refine gt_2_7 (i := i0) C hP (hok.2.1 2 i0 h0) lk_X1_116 dX1_undoLatest_120 ?_
      refine lv_icmp_ge (tgt := 157) hx hb dX1_undoLatest_123 (by decide) (fun c13 => ?_) (fun c13 => ?_)
      · have hf := ifp hf c13
        exact hk w hf _ _ ls hP hS (lv_sub hl [] rfl)
      · have hf := ifn hf c13
        refine lv_aload_n hx hb dX1_undoLatest_126 rfl (lv_at hl 0 rfl) ?_
        refine gt_1_1 (i := i0) C hP (hok.2.1 1 i0 h0) lk_X1_21 dX1_undoLatest_127 ?_
        refine lv_aload_n hx hb dX1_undoLatest_130 rfl (lv_at hl 0 rfl) ?_
        refine gt_1_2 (i := i0) C hP (hok.2.1 1 i0 h0) lk_X1_28 dX1_undoLatest_131 ?_
        refine gt_2_2 (i := i0) C hP (hok.2.1 2 i0 h0) lk_X1_128 dX1_undoLatest_134 ?_
        refine lv_iload_n hx hb dX1_undoLatest_137 rfl (lv_at hl 1 rfl) ?_
        obtain ⟨b10, hf⟩ := gsp hf
        refine ra_ild (k := 21) (i := i0) (n := 24) (f := (gA w 21 i0)) C hP (hok.2.1 21 i0 h0) rfl b10 dX1_undoLatest_138 ?_
        refine lv_aload_n hx hb dX1_undoLatest_139 rfl (lv_at hl 0 rfl) ?_
        refine gt_1_2 (i := i0) C hP (hok.2.1 1 i0 h0) lk_X1_28 dX1_undoLatest_140 ?_
        refine gt_2_3 (i := i0) C hP (hok.2.1 2 i0 h0) lk_X1_131 dX1_undoLatest_143 ?_
        refine lv_iload_n hx hb dX1_undoLatest_146 rfl (lv_at hl 1 rfl) ?_
        refine ra_ild (k := 22) (i := i0) (n := 24) (f := (gA w 22 i0)) C hP (hok.2.1 22 i0 h0) rfl b10 dX1_undoLatest_147 ?_
        obtain ⟨z11, q12, hf⟩ := bsp hf
        refine kc_V (ci := 3) (i := (2 + i0)) (As := [.int (gA w 21 i0 v1.toNatClampNeg), .int (gA w 22 i0 v1.toNatClampNeg)]) (rest := []) hok.2.2.1 C hP hS hl.1 (hok.2.1 3 (2 + i0) (Nat.lt_of_lt_of_le (Nat.add_lt_add_left h0 2) (Nat.le_of_ble_eq_true rfl))) rfl rfl cw_X3_unite ml_X1_88 (c_X3_unite l D ca ad PL Z A hok N w (2 + i0) (Nat.lt_of_lt_of_le (Nat.add_lt_add_left h0 2) (Nat.le_of_ble_eq_true rfl)) (gA w 21 i0 v1.toNatClampNeg) (gA w 22 i0 v1.toNatClampNeg) z11 q12) rfl ⟨rfl, rfl⟩ ⟨Nat.le_of_ble_eq_true rfl, Nat.le_of_ble_eq_true rfl⟩ ⟨Nat.zero_le _, Nat.zero_le _⟩ (Nat.le_of_ble_eq_true rfl) rfl dX1_undoLatest_148 (fun H locs hP hS => ?_)
        refine lv_iinc (v := (v1 + (1 : Int32))) (lv' := [(1, .int (v1 + (1 : Int32))), (0, .ref (ad 1 i0))]) hx hb dX1_undoLatest_151 hl (k := 1) rfl rfl (by decide) rfl (fun ls hl => ?_)
        refine lv_goto (tgt := 115) hx hb dX1_undoLatest_154 (by decide) ?_
        exact ih z11 (v1 + (1 : Int32)) hf _ _ ls hP hS (lv_sub hl [1, 0] rfl)
  have P_f_X1_undoLatest_76 : ∀ (w : Mem), f_X1_undoLatest_76 N w i0   = some w' → WP p l e (rmk 2) s m [.ref (ad 1 i0)].toArray below meth c D ca ad PL A (MQ below (qcR D ca ad PL Z A w' none) [.ref (ad 1 i0)].toArray s 0 0 A) 2 76 [] [(0, .ref (ad 1 i0))] w := by
    intro w hf _ _ ls hP hS hl
    unfold f_X1_undoLatest_76 at hf
    refine lv_aload_n hx hb dX1_undoLatest_76 rfl (lv_at hl 0 rfl) ?_
    refine gt_1_2 (i := i0) C hP (hok.2.1 1 i0 h0) lk_X1_28 dX1_undoLatest_77 ?_
    refine lv_aload_n hx hb dX1_undoLatest_80 rfl (lv_at hl 0 rfl) ?_
    refine gt_1_0 (i := i0) C hP (hok.2.1 1 i0 h0) lk_X1_12 dX1_undoLatest_81 ?_
    refine gt_7_10 (i := i0) C hP (hok.2.1 7 i0 h0) lk_X1_122 dX1_undoLatest_84 ?_
    refine lv_aload_n hx hb dX1_undoLatest_87 rfl (lv_at hl 0 rfl) ?_
    refine gt_1_8 (i := i0) C hP (hok.2.1 1 i0 h0) lk_X1_48 dX1_undoLatest_88 ?_
    refine lv_aload_n hx hb dX1_undoLatest_91 rfl (lv_at hl 0 rfl) ?_
    refine gt_1_11 (i := i0) C hP (hok.2.1 1 i0 h0) lk_X1_66 dX1_undoLatest_92 ?_
    obtain ⟨b4, hf⟩ := gsp hf
    refine ra_ild (k := 18) (i := i0) (n := 44) (f := (gA w 18 i0)) C hP (hok.2.1 18 i0 h0) rfl b4 dX1_undoLatest_95 ?_
    obtain ⟨z5, q6, hf⟩ := bsp hf
    refine kc_V (ci := 2) (i := i0) (As := [.int (gF w 7 10 i0), .int (gA w 18 i0 (gF w 1 11 i0).toNatClampNeg)]) (rest := []) hok.2.2.1 C hP hS hl.1 (hok.2.1 2 i0 h0) rfl rfl cw_X2_cutBack ml_X1_125 (c_X2_cutBack l D ca ad PL Z A hok N w i0 h0 (gF w 7 10 i0) (gA w 18 i0 (gF w 1 11 i0).toNatClampNeg) z5 q6) rfl ⟨rfl, rfl⟩ ⟨Nat.le_of_ble_eq_true rfl, Nat.le_of_ble_eq_true rfl⟩ ⟨Nat.zero_le _, Nat.zero_le _⟩ (Nat.le_of_ble_eq_true rfl) rfl dX1_undoLatest_96 (fun H locs hP hS => ?_)
    refine lv_aload_n hx hb dX1_undoLatest_99 rfl (lv_at hl 0 rfl) ?_
    refine gt_1_1 (i := i0) C hP (hok.2.1 1 i0 h0) lk_X1_21 dX1_undoLatest_100 ?_
    refine lv_aload_n hx hb dX1_undoLatest_103 rfl (lv_at hl 0 rfl) ?_
    refine gt_1_0 (i := i0) C hP (hok.2.1 1 i0 h0) lk_X1_12 dX1_undoLatest_104 ?_
    refine gt_7_10 (i := i0) C hP (hok.2.1 7 i0 h0) lk_X1_122 dX1_undoLatest_107 ?_
    obtain ⟨z7, q8, hf⟩ := bsp hf
    refine kc_V (ci := 3) (i := (2 + i0)) (As := [.int (gF z5 7 10 i0)]) (rest := []) hok.2.2.1 C hP hS hl.1 (hok.2.1 3 (2 + i0) (Nat.lt_of_lt_of_le (Nat.add_lt_add_left h0 2) (Nat.le_of_ble_eq_true rfl))) rfl rfl cw_X3_partAll ml_X1_54 (c_X3_partAll l D ca ad PL Z A hok N z5 (2 + i0) (Nat.lt_of_lt_of_le (Nat.add_lt_add_left h0 2) (Nat.le_of_ble_eq_true rfl)) (gF z5 7 10 i0) z7 q8) rfl ⟨rfl, rfl⟩ ⟨Nat.le_of_ble_eq_true rfl, Nat.le_of_ble_eq_true rfl⟩ ⟨Nat.zero_le _, Nat.zero_le _⟩ (Nat.le_of_ble_eq_true rfl) rfl dX1_undoLatest_110 (fun H locs hP hS => ?_)
    refine lv_iconst (v := (0 : Int32)) hx hb dX1_undoLatest_113 (by decide) ?_
    refine lv_istore_n (lv' := [(1, .int (0 : Int32)), (0, .ref (ad 1 i0))]) hx hb dX1_undoLatest_114 rfl hl (by decide) rfl (fun ls hl => ?_)
    exact L_lp_X1_undoLatest_115 _ (fun w_9 hf H locs ls hP hS hl => P_f_X1_undoLatest_157 w_9 hf _ _ ls hP hS (lv_sub hl [] rfl)) N z7 (0 : Int32) hf _ _ ls hP hS (lv_sub hl [1, 0] rfl)
  unfold f_X1_undoLatest at hf
  -- walk
  refine lv_aload_n hx hb dX1_undoLatest_0 rfl (lv_at hl 0 rfl) ?_
  refine gt_1_11 (i := i0) C hP (hok.2.1 1 i0 h0) lk_X1_66 dX1_undoLatest_1 ?_
  refine lv_if_ne (tgt := 8) hx hb dX1_undoLatest_4 (by decide) (fun c16 => ?_) (fun c16 => ?_)
  · have hf := ifn hf c16
    refine lv_aload_n hx hb dX1_undoLatest_8 rfl (lv_at hl 0 rfl) ?_
    refine lv_dup hx hb dX1_undoLatest_9 rfl ?_
    refine gt_1_11 (i := i0) C hP (hok.2.1 1 i0 h0) lk_X1_66 dX1_undoLatest_10 ?_
    refine lv_iconst (v := (1 : Int32)) hx hb dX1_undoLatest_13 (by decide) ?_
    refine lv_isub hx hb dX1_undoLatest_14 ?_
    refine pt_1_11 (i := i0) (v := ((gF w 1 11 i0) - (1 : Int32))) C hok.1 hP hS (hok.2.1 1 i0 h0) lk_X1_66 dX1_undoLatest_15 (fun H locs hP hS => ?_)
    refine lv_aload_n hx hb dX1_undoLatest_18 rfl (lv_at hl 0 rfl) ?_
    refine gt_1_7 (i := i0) C hP (hok.2.1 1 i0 h0) lk_X1_45 dX1_undoLatest_19 ?_
    refine lv_aload_n hx hb dX1_undoLatest_22 rfl (lv_at hl 0 rfl) ?_
    refine gt_1_11 (i := i0) C hP (hok.2.1 1 i0 h0) lk_X1_66 dX1_undoLatest_23 ?_
    obtain ⟨b1, hf⟩ := gsp hf
    refine ra_ild (k := 17) (i := i0) (n := 44) (f := (gA (sF w 1 11 i0 ((gF w 1 11 i0) - (1 : Int32))) 17 i0)) C hP (hok.2.1 17 i0 h0) rfl b1 dX1_undoLatest_26 ?_
    refine lv_if_ne (tgt := 43) hx hb dX1_undoLatest_27 (by decide) (fun c15 => ?_) (fun c15 => ?_)
    · have hf := ifn hf c15
      refine lv_aload_n hx hb dX1_undoLatest_43 rfl (lv_at hl 0 rfl) ?_
      refine gt_1_7 (i := i0) C hP (hok.2.1 1 i0 h0) lk_X1_45 dX1_undoLatest_44 ?_
      refine lv_aload_n hx hb dX1_undoLatest_47 rfl (lv_at hl 0 rfl) ?_
      refine gt_1_11 (i := i0) C hP (hok.2.1 1 i0 h0) lk_X1_66 dX1_undoLatest_48 ?_
      refine ra_ild (k := 17) (i := i0) (n := 44) (f := (gA (sF w 1 11 i0 ((gF w 1 11 i0) - (1 : Int32))) 17 i0)) C hP (hok.2.1 17 i0 h0) rfl b1 dX1_undoLatest_51 ?_
      refine lv_iconst (v := (1 : Int32)) hx hb dX1_undoLatest_52 (by decide) ?_
      refine lv_icmp_ne (tgt := 69) hx hb dX1_undoLatest_53 (by decide) (fun c14 => ?_) (fun c14 => ?_)
      · have hf := ifn hf c14
        refine lv_aload_n hx hb dX1_undoLatest_69 rfl (lv_at hl 0 rfl) ?_
        refine gt_1_0 (i := i0) C hP (hok.2.1 1 i0 h0) lk_X1_12 dX1_undoLatest_70 ?_
        obtain ⟨z2, q3, hf⟩ := bsp hf
        refine kc_V (ci := 7) (i := i0) (As := []) (rest := []) hok.2.2.1 C hP hS hl.1 (hok.2.1 7 i0 h0) rfl rfl cw_X7_dropTerm ml_X1_119 (c_X7_dropTerm l D ca ad PL Z A hok N (sF w 1 11 i0 ((gF w 1 11 i0) - (1 : Int32))) i0 h0 z2 q3) rfl ⟨rfl, rfl⟩ ⟨Nat.le_of_ble_eq_true rfl, Nat.le_of_ble_eq_true rfl⟩ ⟨Nat.zero_le _, Nat.zero_le _⟩ (Nat.le_of_ble_eq_true rfl) rfl dX1_undoLatest_73 (fun H locs hP hS => ?_)
        exact P_f_X1_undoLatest_76 z2 hf _ _ ls hP hS (lv_sub hl [0] rfl)
      · have hf := ifp hf c14
        refine lv_aload_n hx hb dX1_undoLatest_56 rfl (lv_at hl 0 rfl) ?_
        refine lv_dup hx hb dX1_undoLatest_57 rfl ?_
        refine gt_1_10 (i := i0) C hP (hok.2.1 1 i0 h0) lk_X1_63 dX1_undoLatest_58 ?_
        refine lv_iconst (v := (1 : Int32)) hx hb dX1_undoLatest_61 (by decide) ?_
        refine lv_isub hx hb dX1_undoLatest_62 ?_
        refine pt_1_10 (i := i0) (v := ((gF (sF w 1 11 i0 ((gF w 1 11 i0) - (1 : Int32))) 1 10 i0) - (1 : Int32))) C hok.1 hP hS (hok.2.1 1 i0 h0) lk_X1_63 dX1_undoLatest_63 (fun H locs hP hS => ?_)
        refine lv_goto (tgt := 76) hx hb dX1_undoLatest_66 (by decide) ?_
        exact P_f_X1_undoLatest_76 (sF (sF w 1 11 i0 ((gF w 1 11 i0) - (1 : Int32))) 1 10 i0 ((gF (sF w 1 11 i0 ((gF w 1 11 i0) - (1 : Int32))) 1 10 i0) - (1 : Int32))) hf _ _ ls hP hS (lv_sub hl [0] rfl)
    · have hf := ifp hf c15
      refine lv_aload_n hx hb dX1_undoLatest_30 rfl (lv_at hl 0 rfl) ?_
      refine lv_dup hx hb dX1_undoLatest_31 rfl ?_
      refine gt_1_9 (i := i0) C hP (hok.2.1 1 i0 h0) lk_X1_59 dX1_undoLatest_32 ?_
      refine lv_iconst (v := (1 : Int32)) hx hb dX1_undoLatest_35 (by decide) ?_
      refine lv_isub hx hb dX1_undoLatest_36 ?_
      refine pt_1_9 (i := i0) (v := ((gF (sF w 1 11 i0 ((gF w 1 11 i0) - (1 : Int32))) 1 9 i0) - (1 : Int32))) C hok.1 hP hS (hok.2.1 1 i0 h0) lk_X1_59 dX1_undoLatest_37 (fun H locs hP hS => ?_)
      refine lv_goto (tgt := 76) hx hb dX1_undoLatest_40 (by decide) ?_
      exact P_f_X1_undoLatest_76 (sF (sF w 1 11 i0 ((gF w 1 11 i0) - (1 : Int32))) 1 9 i0 ((gF (sF w 1 11 i0 ((gF w 1 11 i0) - (1 : Int32))) 1 9 i0) - (1 : Int32))) hf _ _ ls hP hS (lv_sub hl [0] rfl)
  · have hf := ifp hf c16
    exact kr_v hok.2.2.1 C hlocks hr hP hS (Option.some.inj hf) dX1_undoLatest_7
def f_X1_allSames (N : Nat) (w : Mem) (i0 : Nat) : Option (Int32) :=
  some (((1 : Int32) <<< ((gF w 1 9 i0) &&& 31)) - (1 : Int32))
set_option maxRecDepth 100000 in
set_option maxHeartbeats 4000000 in
theorem c_X1_allSames (l : Launch) (D : va_G) (ca : Nat → ClassId) (ad : Nat → Nat → Nat) (PL : List (Nat × Nat)) (Z : State → Prop) (A : Nat → Prop) (hok : okc bX Z A ad PL) (N : Nat) (w : Mem) (i0 : Nat) (h0 : i0 < 2) (r : Int32) (hf : f_X1_allSames N w i0 = some r) : CT l yX1_allSames (wsy yX1_allSames cX1_allSames 1 (some .int)) (rmk 0) D ca ad PL Z A [.ref (ad 1 i0)] w w (some (.int r)) := by
  refine Met.ofW (cc := cX1_allSames) (maxL := 1) (ret := (some .int)) (by decide +kernel) rfl ?_
  intro p e s m args below meth c s₁ B hml hv
  obtain ⟨rfl, hP, hK, hZ⟩ := hv
  have hx := B.exec
  have hb := B.bytes
  have hr := B.returns
  have hlocks := B.notSynchronized
  have hts : ∀ w ∈ ALL, w.before _ s = true := fun w hw => atoms_spec (ws := wsy yX1_allSames cX1_allSames 1 (some .int)) B.pre w (List.mem_cons_of_mem _ hw)
  have hown : s.vm.findClass RX1 = some m.cls := findClass_of_methodNamed B.named
  have C : CX p s m _ c cX1_allSames RX1 1 D ca Z := ⟨hx, hb, hml, hown, hts, hK, hZ⟩
  have hS : va_S A s.heap s.heap [] := va_S.rf
  have hl := lv_entry ([.ref (ad 1 i0)]) (n := 1) (Nat.le_of_ble_eq_true rfl)
  rw [lg_entry_eq]
  generalize (lg_sl ([.ref (ad 1 i0)]) ++ List.replicate (1 - (lg_sl ([.ref (ad 1 i0)])).length) Slot.unset).toArray = ls at hl ⊢
  have hl : lv_has ls 1 [(0, .ref (ad 1 i0))] := hl
  show W p l e (rmk 0) s m _ below meth c s.heap [] 0 0 _ _
  unfold f_X1_allSames at hf
  -- walk
  refine lv_iconst (v := (1 : Int32)) hx hb dX1_allSames_0 (by decide) ?_
  refine lv_aload_n hx hb dX1_allSames_1 rfl (lv_at hl 0 rfl) ?_
  refine gt_1_9 (i := i0) C hP (hok.2.1 1 i0 h0) lk_X1_59 dX1_allSames_2 ?_
  refine lv_ishl hx hb dX1_allSames_5 ?_
  refine lv_iconst (v := (1 : Int32)) hx hb dX1_allSames_6 (by decide) ?_
  refine lv_isub hx hb dX1_allSames_7 ?_
  exact kr_i hok.2.2.1 C hlocks hr rfl hP hS rfl (Option.some.inj hf) dX1_allSames_8
def f_X1_closeBy_51 (N : Nat) (w : Mem) (i0 : Nat) (i2 : Nat) : Option (Mem) :=
  (Option.bind (f_X7_close N w i0 i2) (fun z4 => some z4))
def lp_X1_closeBy_13 (k : Mem → Option (Mem)) (N : Nat) (i0 : Nat) (i2 : Nat) (v1 : Int32) : Nat → Mem → Int32 → Option (Mem)
  | 0, _, _ => none
  | n + 1, w, v3 => (if (gF w 1 9 i0) ≤ v3 then
(k w)
else
(if ((ushr v1 v3) &&& (1 : Int32)) = (0 : Int32) then
(lp_X1_closeBy_13 k N  i0 i2 v1 n w (v3 + (1 : Int32)))
else
(if inb v3 12 = true then (Option.bind (f_X3_unite N w i2 (gA w 13 i0 v3.toNatClampNeg) (gA w 14 i0 v3.toNatClampNeg)) (fun z7 => (lp_X1_closeBy_13 k N  i0 i2 v1 n z7 (v3 + (1 : Int32))))) else none)))
def f_X1_closeBy (N : Nat) (w : Mem) (i0 : Nat) (x1 : Int32) (i2 : Nat) : Option (Mem) :=
  (Option.bind (f_X3_partAll N w i2 (gF w 7 10 i0)) (fun z1 => (lp_X1_closeBy_13 (fun (w_3 : Mem) => (f_X1_closeBy_51 N w_3 i0 i2  )) N  i0 i2 x1 N z1 (0 : Int32))))
set_option maxRecDepth 100000 in
set_option maxHeartbeats 4000000 in
theorem c_X1_closeBy (l : Launch) (D : va_G) (ca : Nat → ClassId) (ad : Nat → Nat → Nat) (PL : List (Nat × Nat)) (Z : State → Prop) (A : Nat → Prop) (hok : okc bX Z A ad PL) (N : Nat) (w : Mem) (i0 : Nat) (h0 : i0 < 2) (x1 : Int32) (i2 : Nat) (h2 : i2 < 17) (w' : Mem) (hf : f_X1_closeBy N w i0 x1 i2 = some w') : CT l yX1_closeBy (wsy yX1_closeBy cX1_closeBy 4 none) (rmk 4) D ca ad PL Z A [.ref (ad 1 i0), .int x1, .ref (ad 3 i2)] w w' none := by
  refine Met.ofW (cc := cX1_closeBy) (maxL := 4) (ret := none) (by decide +kernel) rfl ?_
  intro p e s m args below meth c s₁ B hml hv
  obtain ⟨rfl, hP, hK, hZ⟩ := hv
  have hx := B.exec
  have hb := B.bytes
  have hr := B.returns
  have hlocks := B.notSynchronized
  have hts : ∀ w ∈ ALL, w.before _ s = true := fun w hw => atoms_spec (ws := wsy yX1_closeBy cX1_closeBy 4 none) B.pre w (List.mem_cons_of_mem _ hw)
  have hown : s.vm.findClass RX1 = some m.cls := findClass_of_methodNamed B.named
  have C : CX p s m _ c cX1_closeBy RX1 4 D ca Z := ⟨hx, hb, hml, hown, hts, hK, hZ⟩
  have hS : va_S A s.heap s.heap [] := va_S.rf
  have hl := lv_entry ([.ref (ad 1 i0), .int x1, .ref (ad 3 i2)]) (n := 4) (Nat.le_of_ble_eq_true rfl)
  rw [lg_entry_eq]
  generalize (lg_sl ([.ref (ad 1 i0), .int x1, .ref (ad 3 i2)]) ++ List.replicate (4 - (lg_sl ([.ref (ad 1 i0), .int x1, .ref (ad 3 i2)])).length) Slot.unset).toArray = ls at hl ⊢
  have hl : lv_has ls 4 [(0, .ref (ad 1 i0)), (1, .int x1), (2, .ref (ad 3 i2))] := hl
  show W p l e (rmk 4) s m _ below meth c s.heap [] 0 0 _ _
  have P_f_X1_closeBy_51 : ∀ (w : Mem), f_X1_closeBy_51 N w i0 i2   = some w' → WP p l e (rmk 4) s m [.ref (ad 1 i0), .int x1, .ref (ad 3 i2)].toArray below meth c D ca ad PL A (MQ below (qcR D ca ad PL Z A w' none) [.ref (ad 1 i0), .int x1, .ref (ad 3 i2)].toArray s 0 0 A) 4 51 [] [(0, .ref (ad 1 i0)), (2, .ref (ad 3 i2))] w := by
    intro w hf _ _ ls hP hS hl
    unfold f_X1_closeBy_51 at hf
    refine lv_aload_n hx hb dX1_closeBy_51 rfl (lv_at hl 0 rfl) ?_
    refine gt_1_0 (i := i0) C hP (hok.2.1 1 i0 h0) lk_X1_12 dX1_closeBy_52 ?_
    refine lv_aload_n hx hb dX1_closeBy_55 rfl (lv_at hl 1 rfl) ?_
    obtain ⟨z4, q5, hf⟩ := bsp hf
    refine kc_V (ci := 7) (i := i0) (As := [.ref (ad 3 i2)]) (rest := []) hok.2.2.1 C hP hS hl.1 (hok.2.1 7 i0 h0) rfl rfl cw_X7_close ml_X1_134 (c_X7_close l D ca ad PL Z A hok N w i0 h0 i2 h2 z4 q5) rfl ⟨rfl, rfl⟩ ⟨Nat.le_of_ble_eq_true rfl, Nat.le_of_ble_eq_true rfl⟩ ⟨Nat.zero_le _, Nat.zero_le _⟩ (Nat.le_of_ble_eq_true rfl) rfl dX1_closeBy_56 (fun H locs hP hS => ?_)
    exact kr_v hok.2.2.1 C hlocks hr hP hS (Option.some.inj hf) dX1_closeBy_59
  have L_lp_X1_closeBy_13 : ∀ (v1 : Int32) (k : Mem → Option (Mem)) (hk : ∀ (w : Mem), k w = some w' → WP p l e (rmk 4) s m [.ref (ad 1 i0), .int x1, .ref (ad 3 i2)].toArray below meth c D ca ad PL A (MQ below (qcR D ca ad PL Z A w' none) [.ref (ad 1 i0), .int x1, .ref (ad 3 i2)].toArray s 0 0 A) 4 51 [] [(0, .ref (ad 1 i0)), (2, .ref (ad 3 i2))] w) (n : Nat) (w : Mem) (v3 : Int32), lp_X1_closeBy_13 k N  i0 i2 v1 n w v3 = some w' → WP p l e (rmk 4) s m [.ref (ad 1 i0), .int x1, .ref (ad 3 i2)].toArray below meth c D ca ad PL A (MQ below (qcR D ca ad PL Z A w' none) [.ref (ad 1 i0), .int x1, .ref (ad 3 i2)].toArray s 0 0 A) 4 13 [] [(0, .ref (ad 1 i0)), (1, .int v1), (2, .ref (ad 3 i2)), (3, .int v3)] w := by
    intro v1 k hk n
    induction n with
    | zero => intro w v3 hf; rw [lp_X1_closeBy_13] at hf; cases hf
    | succ n ih =>
      intro w v3 hf _ _ ls hP hS hl
      rw [lp_X1_closeBy_13] at hf
      refine lv_iload_n hx hb dX1_closeBy_13 rfl (lv_at hl 3 rfl) ?_
      refine lv_aload_n hx hb dX1_closeBy_14 rfl (lv_at hl 0 rfl) ?_
      refine gt_1_9 (i := i0) C hP (hok.2.1 1 i0 h0) lk_X1_59 dX1_closeBy_15 ?_
      refine lv_icmp_ge (tgt := 51) hx hb dX1_closeBy_18 (by decide) (fun c10 => ?_) (fun c10 => ?_)
      · have hf := ifp hf c10
        exact hk w hf _ _ ls hP hS (lv_sub hl [0, 2] rfl)
      · have hf := ifn hf c10
        refine lv_iload_n hx hb dX1_closeBy_21 rfl (lv_at hl 1 rfl) ?_
        refine lv_iload_n hx hb dX1_closeBy_22 rfl (lv_at hl 3 rfl) ?_
        refine lv_iushr (v := (ushr v1 v3)) hx hb dX1_closeBy_23 rfl ?_
        refine lv_iconst (v := (1 : Int32)) hx hb dX1_closeBy_24 (by decide) ?_
        refine lv_iand hx hb dX1_closeBy_25 ?_
        refine lv_if_eq (tgt := 45) hx hb dX1_closeBy_26 (by decide) (fun c9 => ?_) (fun c9 => ?_)
        · have hf := ifp hf c9
          refine lv_iinc (v := (v3 + (1 : Int32))) (lv' := [(3, .int (v3 + (1 : Int32))), (0, .ref (ad 1 i0)), (1, .int v1), (2, .ref (ad 3 i2))]) hx hb dX1_closeBy_45 hl (k := 3) rfl rfl (by decide) rfl (fun ls hl => ?_)
          refine lv_goto (tgt := 13) hx hb dX1_closeBy_48 (by decide) ?_
          exact ih w (v3 + (1 : Int32)) hf _ _ ls hP hS (lv_sub hl [1, 2, 3, 0] rfl)
        · have hf := ifn hf c9
          refine lv_aload_n hx hb dX1_closeBy_29 rfl (lv_at hl 2 rfl) ?_
          refine lv_aload_n hx hb dX1_closeBy_30 rfl (lv_at hl 0 rfl) ?_
          refine gt_1_3 (i := i0) C hP (hok.2.1 1 i0 h0) lk_X1_32 dX1_closeBy_31 ?_
          refine lv_iload_n hx hb dX1_closeBy_34 rfl (lv_at hl 3 rfl) ?_
          obtain ⟨b6, hf⟩ := gsp hf
          refine ra_ild (k := 13) (i := i0) (n := 12) (f := (gA w 13 i0)) C hP (hok.2.1 13 i0 h0) rfl b6 dX1_closeBy_35 ?_
          refine lv_aload_n hx hb dX1_closeBy_36 rfl (lv_at hl 0 rfl) ?_
          refine gt_1_4 (i := i0) C hP (hok.2.1 1 i0 h0) lk_X1_36 dX1_closeBy_37 ?_
          refine lv_iload_n hx hb dX1_closeBy_40 rfl (lv_at hl 3 rfl) ?_
          refine ra_ild (k := 14) (i := i0) (n := 12) (f := (gA w 14 i0)) C hP (hok.2.1 14 i0 h0) rfl b6 dX1_closeBy_41 ?_
          obtain ⟨z7, q8, hf⟩ := bsp hf
          refine kc_V (ci := 3) (i := i2) (As := [.int (gA w 13 i0 v3.toNatClampNeg), .int (gA w 14 i0 v3.toNatClampNeg)]) (rest := []) hok.2.2.1 C hP hS hl.1 (hok.2.1 3 i2 h2) rfl rfl cw_X3_unite ml_X1_88 (c_X3_unite l D ca ad PL Z A hok N w i2 h2 (gA w 13 i0 v3.toNatClampNeg) (gA w 14 i0 v3.toNatClampNeg) z7 q8) rfl ⟨rfl, rfl⟩ ⟨Nat.le_of_ble_eq_true rfl, Nat.le_of_ble_eq_true rfl⟩ ⟨Nat.zero_le _, Nat.zero_le _⟩ (Nat.le_of_ble_eq_true rfl) rfl dX1_closeBy_42 (fun H locs hP hS => ?_)
          refine lv_iinc (v := (v3 + (1 : Int32))) (lv' := [(3, .int (v3 + (1 : Int32))), (0, .ref (ad 1 i0)), (1, .int v1), (2, .ref (ad 3 i2))]) hx hb dX1_closeBy_45 hl (k := 3) rfl rfl (by decide) rfl (fun ls hl => ?_)
          refine lv_goto (tgt := 13) hx hb dX1_closeBy_48 (by decide) ?_
          exact ih z7 (v3 + (1 : Int32)) hf _ _ ls hP hS (lv_sub hl [1, 2, 3, 0] rfl)
  unfold f_X1_closeBy at hf
  -- walk
  refine lv_aload_n hx hb dX1_closeBy_0 rfl (lv_at hl 2 rfl) ?_
  refine lv_aload_n hx hb dX1_closeBy_1 rfl (lv_at hl 0 rfl) ?_
  refine gt_1_0 (i := i0) C hP (hok.2.1 1 i0 h0) lk_X1_12 dX1_closeBy_2 ?_
  refine gt_7_10 (i := i0) C hP (hok.2.1 7 i0 h0) lk_X1_122 dX1_closeBy_5 ?_
  obtain ⟨z1, q2, hf⟩ := bsp hf
  refine kc_V (ci := 3) (i := i2) (As := [.int (gF w 7 10 i0)]) (rest := []) hok.2.2.1 C hP hS hl.1 (hok.2.1 3 i2 h2) rfl rfl cw_X3_partAll ml_X1_54 (c_X3_partAll l D ca ad PL Z A hok N w i2 h2 (gF w 7 10 i0) z1 q2) rfl ⟨rfl, rfl⟩ ⟨Nat.le_of_ble_eq_true rfl, Nat.le_of_ble_eq_true rfl⟩ ⟨Nat.zero_le _, Nat.zero_le _⟩ (Nat.le_of_ble_eq_true rfl) rfl dX1_closeBy_8 (fun H locs hP hS => ?_)
  refine lv_iconst (v := (0 : Int32)) hx hb dX1_closeBy_11 (by decide) ?_
  refine lv_istore_n (lv' := [(3, .int (0 : Int32)), (0, .ref (ad 1 i0)), (1, .int x1), (2, .ref (ad 3 i2))]) hx hb dX1_closeBy_12 rfl hl (by decide) rfl (fun ls hl => ?_)
  exact L_lp_X1_closeBy_13 x1 _ (fun w_3 hf H locs ls hP hS hl => P_f_X1_closeBy_51 w_3 hf _ _ ls hP hS (lv_sub hl [0, 1] rfl)) N z1 (0 : Int32) hf _ _ ls hP hS (lv_sub hl [1, 2, 3, 0] rfl)
def f_X1_supposeSame (N : Nat) (w : Mem) (i0 : Nat) (x1 : Int32) (x2 : Int32) (i3 : Nat) : Option (Mem) :=
  (Option.bind (f_X3_one N w i3 x1 x2) (fun z1 => (if z1 = (0 : Int32) then
(Option.bind (f_X3_unite N w i3 x1 x2) (fun z3 => (Option.bind (f_X7_close N z3 i0 i3) (fun z5 => some z5))))
else
some w)))
set_option maxRecDepth 100000 in
set_option maxHeartbeats 4000000 in
theorem c_X1_supposeSame (l : Launch) (D : va_G) (ca : Nat → ClassId) (ad : Nat → Nat → Nat) (PL : List (Nat × Nat)) (Z : State → Prop) (A : Nat → Prop) (hok : okc bX Z A ad PL) (N : Nat) (w : Mem) (i0 : Nat) (h0 : i0 < 2) (x1 : Int32) (x2 : Int32) (i3 : Nat) (h3 : i3 < 17) (w' : Mem) (hf : f_X1_supposeSame N w i0 x1 x2 i3 = some w') : CT l yX1_supposeSame (wsy yX1_supposeSame cX1_supposeSame 4 none) (rmk 4) D ca ad PL Z A [.ref (ad 1 i0), .int x1, .int x2, .ref (ad 3 i3)] w w' none := by
  refine Met.ofW (cc := cX1_supposeSame) (maxL := 4) (ret := none) (by decide +kernel) rfl ?_
  intro p e s m args below meth c s₁ B hml hv
  obtain ⟨rfl, hP, hK, hZ⟩ := hv
  have hx := B.exec
  have hb := B.bytes
  have hr := B.returns
  have hlocks := B.notSynchronized
  have hts : ∀ w ∈ ALL, w.before _ s = true := fun w hw => atoms_spec (ws := wsy yX1_supposeSame cX1_supposeSame 4 none) B.pre w (List.mem_cons_of_mem _ hw)
  have hown : s.vm.findClass RX1 = some m.cls := findClass_of_methodNamed B.named
  have C : CX p s m _ c cX1_supposeSame RX1 4 D ca Z := ⟨hx, hb, hml, hown, hts, hK, hZ⟩
  have hS : va_S A s.heap s.heap [] := va_S.rf
  have hl := lv_entry ([.ref (ad 1 i0), .int x1, .int x2, .ref (ad 3 i3)]) (n := 4) (Nat.le_of_ble_eq_true rfl)
  rw [lg_entry_eq]
  generalize (lg_sl ([.ref (ad 1 i0), .int x1, .int x2, .ref (ad 3 i3)]) ++ List.replicate (4 - (lg_sl ([.ref (ad 1 i0), .int x1, .int x2, .ref (ad 3 i3)])).length) Slot.unset).toArray = ls at hl ⊢
  have hl : lv_has ls 4 [(0, .ref (ad 1 i0)), (1, .int x1), (2, .int x2), (3, .ref (ad 3 i3))] := hl
  show W p l e (rmk 4) s m _ below meth c s.heap [] 0 0 _ _
  unfold f_X1_supposeSame at hf
  -- walk
  refine lv_aload_n hx hb dX1_supposeSame_0 rfl (lv_at hl 3 rfl) ?_
  refine lv_iload_n hx hb dX1_supposeSame_1 rfl (lv_at hl 1 rfl) ?_
  refine lv_iload_n hx hb dX1_supposeSame_2 rfl (lv_at hl 2 rfl) ?_
  obtain ⟨z1, q2, hf⟩ := bsp hf
  refine kc_V (ci := 3) (i := i3) (As := [.int x1, .int x2]) (rest := []) hok.2.2.1 C hP hS hl.1 (hok.2.1 3 i3 h3) rfl rfl cw_X3_one ml_X1_80 (c_X3_one l D ca ad PL Z A hok N w i3 h3 x1 x2 z1 q2) rfl ⟨rfl, rfl⟩ ⟨Nat.le_of_ble_eq_true rfl, Nat.le_of_ble_eq_true rfl⟩ ⟨Nat.zero_le _, Nat.zero_le _⟩ (Nat.le_of_ble_eq_true rfl) rfl dX1_supposeSame_3 (fun H locs hP hS => ?_)
  refine lv_if_ne (tgt := 23) hx hb dX1_supposeSame_6 (by decide) (fun c7 => ?_) (fun c7 => ?_)
  · have hf := ifn hf c7
    exact kr_v hok.2.2.1 C hlocks hr hP hS (Option.some.inj hf) dX1_supposeSame_23
  · have hf := ifp hf c7
    refine lv_aload_n hx hb dX1_supposeSame_9 rfl (lv_at hl 3 rfl) ?_
    refine lv_iload_n hx hb dX1_supposeSame_10 rfl (lv_at hl 1 rfl) ?_
    refine lv_iload_n hx hb dX1_supposeSame_11 rfl (lv_at hl 2 rfl) ?_
    obtain ⟨z3, q4, hf⟩ := bsp hf
    refine kc_V (ci := 3) (i := i3) (As := [.int x1, .int x2]) (rest := []) hok.2.2.1 C hP hS hl.1 (hok.2.1 3 i3 h3) rfl rfl cw_X3_unite ml_X1_88 (c_X3_unite l D ca ad PL Z A hok N w i3 h3 x1 x2 z3 q4) rfl ⟨rfl, rfl⟩ ⟨Nat.le_of_ble_eq_true rfl, Nat.le_of_ble_eq_true rfl⟩ ⟨Nat.zero_le _, Nat.zero_le _⟩ (Nat.le_of_ble_eq_true rfl) rfl dX1_supposeSame_12 (fun H locs hP hS => ?_)
    refine lv_aload_n hx hb dX1_supposeSame_15 rfl (lv_at hl 0 rfl) ?_
    refine gt_1_0 (i := i0) C hP (hok.2.1 1 i0 h0) lk_X1_12 dX1_supposeSame_16 ?_
    refine lv_aload_n hx hb dX1_supposeSame_19 rfl (lv_at hl 3 rfl) ?_
    obtain ⟨z5, q6, hf⟩ := bsp hf
    refine kc_V (ci := 7) (i := i0) (As := [.ref (ad 3 i3)]) (rest := []) hok.2.2.1 C hP hS hl.1 (hok.2.1 7 i0 h0) rfl rfl cw_X7_close ml_X1_134 (c_X7_close l D ca ad PL Z A hok N z3 i0 h0 i3 h3 z5 q6) rfl ⟨rfl, rfl⟩ ⟨Nat.le_of_ble_eq_true rfl, Nat.le_of_ble_eq_true rfl⟩ ⟨Nat.zero_le _, Nat.zero_le _⟩ (Nat.le_of_ble_eq_true rfl) rfl dX1_supposeSame_20 (fun H locs hP hS => ?_)
    exact kr_v hok.2.2.1 C hlocks hr hP hS (Option.some.inj hf) dX1_supposeSame_23
def f_X1_clashes (N : Nat) (w : Mem) (i0 : Nat) (x1 : Int32) (i2 : Nat) : Option (Int32) :=
  (if inb x1 8 = true then (Option.bind (f_X3_one N w i2 (gA w 15 i0 x1.toNatClampNeg) (gA w 16 i0 x1.toNatClampNeg)) (fun z2 => (if z2 = 0 ∨ z2 = 1 then some z2 else none))) else none)
set_option maxRecDepth 100000 in
set_option maxHeartbeats 4000000 in
theorem c_X1_clashes (l : Launch) (D : va_G) (ca : Nat → ClassId) (ad : Nat → Nat → Nat) (PL : List (Nat × Nat)) (Z : State → Prop) (A : Nat → Prop) (hok : okc bX Z A ad PL) (N : Nat) (w : Mem) (i0 : Nat) (h0 : i0 < 2) (x1 : Int32) (i2 : Nat) (h2 : i2 < 17) (r : Int32) (hf : f_X1_clashes N w i0 x1 i2 = some r) : CT l yX1_clashes (wsy yX1_clashes cX1_clashes 3 (some .boolean)) (rmk 1) D ca ad PL Z A [.ref (ad 1 i0), .int x1, .ref (ad 3 i2)] w w (some (.int r)) := by
  refine Met.ofW (cc := cX1_clashes) (maxL := 3) (ret := (some .boolean)) (by decide +kernel) rfl ?_
  intro p e s m args below meth c s₁ B hml hv
  obtain ⟨rfl, hP, hK, hZ⟩ := hv
  have hx := B.exec
  have hb := B.bytes
  have hr := B.returns
  have hlocks := B.notSynchronized
  have hts : ∀ w ∈ ALL, w.before _ s = true := fun w hw => atoms_spec (ws := wsy yX1_clashes cX1_clashes 3 (some .boolean)) B.pre w (List.mem_cons_of_mem _ hw)
  have hown : s.vm.findClass RX1 = some m.cls := findClass_of_methodNamed B.named
  have C : CX p s m _ c cX1_clashes RX1 3 D ca Z := ⟨hx, hb, hml, hown, hts, hK, hZ⟩
  have hS : va_S A s.heap s.heap [] := va_S.rf
  have hl := lv_entry ([.ref (ad 1 i0), .int x1, .ref (ad 3 i2)]) (n := 3) (Nat.le_of_ble_eq_true rfl)
  rw [lg_entry_eq]
  generalize (lg_sl ([.ref (ad 1 i0), .int x1, .ref (ad 3 i2)]) ++ List.replicate (3 - (lg_sl ([.ref (ad 1 i0), .int x1, .ref (ad 3 i2)])).length) Slot.unset).toArray = ls at hl ⊢
  have hl : lv_has ls 3 [(0, .ref (ad 1 i0)), (1, .int x1), (2, .ref (ad 3 i2))] := hl
  show W p l e (rmk 1) s m _ below meth c s.heap [] 0 0 _ _
  unfold f_X1_clashes at hf
  -- walk
  refine lv_aload_n hx hb dX1_clashes_0 rfl (lv_at hl 2 rfl) ?_
  refine lv_aload_n hx hb dX1_clashes_1 rfl (lv_at hl 0 rfl) ?_
  refine gt_1_5 (i := i0) C hP (hok.2.1 1 i0 h0) lk_X1_39 dX1_clashes_2 ?_
  refine lv_iload_n hx hb dX1_clashes_5 rfl (lv_at hl 1 rfl) ?_
  obtain ⟨b1, hf⟩ := gsp hf
  refine ra_ild (k := 15) (i := i0) (n := 8) (f := (gA w 15 i0)) C hP (hok.2.1 15 i0 h0) rfl b1 dX1_clashes_6 ?_
  refine lv_aload_n hx hb dX1_clashes_7 rfl (lv_at hl 0 rfl) ?_
  refine gt_1_6 (i := i0) C hP (hok.2.1 1 i0 h0) lk_X1_42 dX1_clashes_8 ?_
  refine lv_iload_n hx hb dX1_clashes_11 rfl (lv_at hl 1 rfl) ?_
  refine ra_ild (k := 16) (i := i0) (n := 8) (f := (gA w 16 i0)) C hP (hok.2.1 16 i0 h0) rfl b1 dX1_clashes_12 ?_
  obtain ⟨z2, q3, hf⟩ := bsp hf
  refine kc_V (ci := 3) (i := i2) (As := [.int (gA w 15 i0 x1.toNatClampNeg), .int (gA w 16 i0 x1.toNatClampNeg)]) (rest := []) hok.2.2.1 C hP hS hl.1 (hok.2.1 3 i2 h2) rfl rfl cw_X3_one ml_X1_80 (c_X3_one l D ca ad PL Z A hok N w i2 h2 (gA w 15 i0 x1.toNatClampNeg) (gA w 16 i0 x1.toNatClampNeg) z2 q3) rfl ⟨rfl, rfl⟩ ⟨Nat.le_of_ble_eq_true rfl, Nat.le_of_ble_eq_true rfl⟩ ⟨Nat.zero_le _, Nat.zero_le _⟩ (Nat.le_of_ble_eq_true rfl) rfl dX1_clashes_13 (fun H locs hP hS => ?_)
  obtain ⟨b4, hf⟩ := gsp hf
  exact kr_i hok.2.2.1 C hlocks hr (nar_z b4) hP hS rfl (Option.some.inj hf) dX1_clashes_16
def f_X1_firstClash_27 (N : Nat) (w : Mem) (i0 : Nat) (i1 : Nat) : Option (Int32) :=
  some (-2 : Int32)
def lp_X1_firstClash_2 (k : Option (Int32)) (N : Nat) (w : Mem) (i0 : Nat) (i1 : Nat) : Nat → Int32 → Option (Int32)
  | 0, _ => none
  | n + 1, v2 => (if (gF w 1 10 i0) ≤ v2 then
(k )
else
(Option.bind (f_X1_clashes N w i0 v2 i1) (fun z2 => (if z2 = (0 : Int32) then
(lp_X1_firstClash_2 k N w i0 i1  n (v2 + (1 : Int32)))
else
some v2))))
def f_X1_firstClash (N : Nat) (w : Mem) (i0 : Nat) (i1 : Nat) : Option (Int32) :=
  (lp_X1_firstClash_2 (f_X1_firstClash_27 N w i0 i1  ) N w i0 i1  N (0 : Int32))
set_option maxRecDepth 100000 in
set_option maxHeartbeats 4000000 in
theorem c_X1_firstClash (l : Launch) (D : va_G) (ca : Nat → ClassId) (ad : Nat → Nat → Nat) (PL : List (Nat × Nat)) (Z : State → Prop) (A : Nat → Prop) (hok : okc bX Z A ad PL) (N : Nat) (w : Mem) (i0 : Nat) (h0 : i0 < 2) (i1 : Nat) (h1 : i1 < 17) (r : Int32) (hf : f_X1_firstClash N w i0 i1 = some r) : CT l yX1_firstClash (wsy yX1_firstClash cX1_firstClash 3 (some .int)) (rmk 2) D ca ad PL Z A [.ref (ad 1 i0), .ref (ad 3 i1)] w w (some (.int r)) := by
  refine Met.ofW (cc := cX1_firstClash) (maxL := 3) (ret := (some .int)) (by decide +kernel) rfl ?_
  intro p e s m args below meth c s₁ B hml hv
  obtain ⟨rfl, hP, hK, hZ⟩ := hv
  have hx := B.exec
  have hb := B.bytes
  have hr := B.returns
  have hlocks := B.notSynchronized
  have hts : ∀ w ∈ ALL, w.before _ s = true := fun w hw => atoms_spec (ws := wsy yX1_firstClash cX1_firstClash 3 (some .int)) B.pre w (List.mem_cons_of_mem _ hw)
  have hown : s.vm.findClass RX1 = some m.cls := findClass_of_methodNamed B.named
  have C : CX p s m _ c cX1_firstClash RX1 3 D ca Z := ⟨hx, hb, hml, hown, hts, hK, hZ⟩
  have hS : va_S A s.heap s.heap [] := va_S.rf
  have hl := lv_entry ([.ref (ad 1 i0), .ref (ad 3 i1)]) (n := 3) (Nat.le_of_ble_eq_true rfl)
  rw [lg_entry_eq]
  generalize (lg_sl ([.ref (ad 1 i0), .ref (ad 3 i1)]) ++ List.replicate (3 - (lg_sl ([.ref (ad 1 i0), .ref (ad 3 i1)])).length) Slot.unset).toArray = ls at hl ⊢
  have hl : lv_has ls 3 [(0, .ref (ad 1 i0)), (1, .ref (ad 3 i1))] := hl
  show W p l e (rmk 2) s m _ below meth c s.heap [] 0 0 _ _
  have P_f_X1_firstClash_27 : f_X1_firstClash_27 N w i0 i1   = some r → WP p l e (rmk 2) s m [.ref (ad 1 i0), .ref (ad 3 i1)].toArray below meth c D ca ad PL A (MQ below (qcR D ca ad PL Z A w (some (.int r))) [.ref (ad 1 i0), .ref (ad 3 i1)].toArray s 0 0 A) 3 27 [] [] w := by
    intro  hf _ _ ls hP hS hl
    unfold f_X1_firstClash_27 at hf
    refine lv_bipush (v := (-2 : Int32)) hx hb dX1_firstClash_27 (by decide) ?_
    exact kr_i hok.2.2.1 C hlocks hr rfl hP hS rfl (Option.some.inj hf) dX1_firstClash_29
  have L_lp_X1_firstClash_2 : ∀ (k : Option (Int32)) (hk : k = some r → WP p l e (rmk 2) s m [.ref (ad 1 i0), .ref (ad 3 i1)].toArray below meth c D ca ad PL A (MQ below (qcR D ca ad PL Z A w (some (.int r))) [.ref (ad 1 i0), .ref (ad 3 i1)].toArray s 0 0 A) 3 27 [] [] w) (n : Nat) (v2 : Int32), lp_X1_firstClash_2 k N w i0 i1  n v2 = some r → WP p l e (rmk 2) s m [.ref (ad 1 i0), .ref (ad 3 i1)].toArray below meth c D ca ad PL A (MQ below (qcR D ca ad PL Z A w (some (.int r))) [.ref (ad 1 i0), .ref (ad 3 i1)].toArray s 0 0 A) 3 2 [] [(0, .ref (ad 1 i0)), (1, .ref (ad 3 i1)), (2, .int v2)] w := by
    intro k hk n
    induction n with
    | zero => intro v2 hf; rw [lp_X1_firstClash_2] at hf; cases hf
    | succ n ih =>
      intro v2 hf _ _ ls hP hS hl
      rw [lp_X1_firstClash_2] at hf
      refine lv_iload_n hx hb dX1_firstClash_2 rfl (lv_at hl 2 rfl) ?_
      refine lv_aload_n hx hb dX1_firstClash_3 rfl (lv_at hl 0 rfl) ?_
      refine gt_1_10 (i := i0) C hP (hok.2.1 1 i0 h0) lk_X1_63 dX1_firstClash_4 ?_
      refine lv_icmp_ge (tgt := 27) hx hb dX1_firstClash_7 (by decide) (fun c5 => ?_) (fun c5 => ?_)
      · have hf := ifp hf c5
        exact hk  hf _ _ ls hP hS (lv_sub hl [] rfl)
      · have hf := ifn hf c5
        refine lv_aload_n hx hb dX1_firstClash_10 rfl (lv_at hl 0 rfl) ?_
        refine lv_iload_n hx hb dX1_firstClash_11 rfl (lv_at hl 2 rfl) ?_
        refine lv_aload_n hx hb dX1_firstClash_12 rfl (lv_at hl 1 rfl) ?_
        obtain ⟨z2, q3, hf⟩ := bsp hf
        refine kc_V (ci := 1) (i := i0) (As := [.int v2, .ref (ad 3 i1)]) (rest := []) hok.2.2.1 C hP hS hl.1 (hok.2.1 1 i0 h0) rfl rfl cw_X1_clashes ml_X1_138 (c_X1_clashes l D ca ad PL Z A hok N w i0 h0 v2 i1 h1 z2 q3) rfl ⟨rfl, rfl⟩ ⟨Nat.le_of_ble_eq_true rfl, Nat.le_of_ble_eq_true rfl⟩ ⟨Nat.zero_le _, Nat.zero_le _⟩ (Nat.le_of_ble_eq_true rfl) rfl dX1_firstClash_13 (fun H locs hP hS => ?_)
        refine lv_if_eq (tgt := 21) hx hb dX1_firstClash_16 (by decide) (fun c4 => ?_) (fun c4 => ?_)
        · have hf := ifp hf c4
          refine lv_iinc (v := (v2 + (1 : Int32))) (lv' := [(2, .int (v2 + (1 : Int32))), (0, .ref (ad 1 i0)), (1, .ref (ad 3 i1))]) hx hb dX1_firstClash_21 hl (k := 2) rfl rfl (by decide) rfl (fun ls hl => ?_)
          refine lv_goto (tgt := 2) hx hb dX1_firstClash_24 (by decide) ?_
          exact ih (v2 + (1 : Int32)) hf _ _ ls hP hS (lv_sub hl [1, 2, 0] rfl)
        · have hf := ifn hf c4
          refine lv_iload_n hx hb dX1_firstClash_19 rfl (lv_at hl 2 rfl) ?_
          exact kr_i hok.2.2.1 C hlocks hr rfl hP hS rfl (Option.some.inj hf) dX1_firstClash_20
  unfold f_X1_firstClash at hf
  -- walk
  refine lv_iconst (v := (0 : Int32)) hx hb dX1_firstClash_0 (by decide) ?_
  refine lv_istore_n (lv' := [(2, .int (0 : Int32)), (0, .ref (ad 1 i0)), (1, .ref (ad 3 i1))]) hx hb dX1_firstClash_1 rfl hl (by decide) rfl (fun ls hl => ?_)
  exact L_lp_X1_firstClash_2 _ (fun hf H locs ls hP hS hl => P_f_X1_firstClash_27 hf _ _ ls hP hS (lv_sub hl [] rfl)) N (0 : Int32) hf _ _ ls hP hS (lv_sub hl [1, 2, 0] rfl)
