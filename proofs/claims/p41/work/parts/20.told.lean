def f_X9_next_28_s1 (N : Nat) (w : Mem) (sx : Nat × (Nat → Int32)) (v1 : Int32) (v2 : Int32) (s0 : Int32) : Option (Mem × Int32) :=
  (if ((v2 - v1) + (1 : Int32)) = 0 then none else some ((sF w 46 1 0 ((gF w 46 1 0) + (1 : Int32))), (v1 + (s0 - s0 / ((v2 - v1) + (1 : Int32)) * ((v2 - v1) + (1 : Int32))))))
def f_X9_next (N : Nat) (w : Mem) (sx : Nat × (Nat → Int32)) (x1 : Int32) (x2 : Int32) : Option (Mem × Int32) :=
  (if (nI sx.1) ≤ (gF w 46 1 0) then
(f_X9_next_28_s1 N w sx x1 x2 (0 : Int32))
else
(if inb (gF w 46 1 0) sx.1 = true then (f_X9_next_28_s1 N w sx x1 x2 ((sx.2 (gF w 46 1 0).toNatClampNeg) &&& (2147483647 : Int32))) else none))
set_option maxRecDepth 100000 in
set_option maxHeartbeats 4000000 in
theorem c_X9_next (l : Launch) (D : va_G) (ca : Nat → ClassId) (ad : Nat → Nat → Nat) (PL : List (Nat × Nat)) (Z : State → Prop) (A : Nat → Prop) (hok : okc bM Z A ad PL) (N : Nat) (w : Mem) (sx : Nat × (Nat → Int32)) (hsx : SCZ A Z (ad 47 0) sx) (x1 : Int32) (x2 : Int32) (w' : Mem) (r : Int32) (hf : f_X9_next N w sx x1 x2 = some (w', r)) : CT l yX9_next (wsy yX9_next cX9_next 4 (some .int)) (rmk 0) D ca ad PL Z A [.ref (ad 46 0), .int x1, .int x2] w w' (some (.int r)) := by
  refine Met.ofW (cc := cX9_next) (maxL := 4) (ret := (some .int)) (by decide +kernel) rfl ?_
  intro p e s m args below meth c s₁ B hml hv
  obtain ⟨rfl, hP, hK, hZ⟩ := hv
  have hx := B.exec
  have hb := B.bytes
  have hr := B.returns
  have hlocks := B.notSynchronized
  have hts : ∀ w ∈ ALL, w.before _ s = true := fun w hw => atoms_spec (ws := wsy yX9_next cX9_next 4 (some .int)) B.pre w (List.mem_cons_of_mem _ hw)
  have hown : s.vm.findClass RX9 = some m.cls := findClass_of_methodNamed B.named
  have C : CX p s m _ c cX9_next RX9 4 D ca Z := ⟨hx, hb, hml, hown, hts, hK, hZ⟩
  have hS : va_S A s.heap s.heap [] := va_S.rf
  have hl := lv_entry ([.ref (ad 46 0), .int x1, .int x2]) (n := 4) (Nat.le_of_ble_eq_true rfl)
  rw [lg_entry_eq]
  generalize (lg_sl ([.ref (ad 46 0), .int x1, .int x2]) ++ List.replicate (4 - (lg_sl ([.ref (ad 46 0), .int x1, .int x2])).length) Slot.unset).toArray = ls at hl ⊢
  have hl : lv_has ls 4 [(0, .ref (ad 46 0)), (1, .int x1), (2, .int x2)] := hl
  show W p l e (rmk 0) s m _ below meth c s.heap [] 0 0 _ _
  have P_f_X9_next_28_s1 : ∀ (w : Mem) (v1 : Int32) (v2 : Int32) (s0 : Int32), f_X9_next_28_s1 N w sx v1 v2 s0 = some (w', r) → WP p l e (rmk 0) s m [.ref (ad 46 0), .int x1, .int x2].toArray below meth c D ca ad PL A (MQ below (qcR D ca ad PL Z A w' (some (.int r))) [.ref (ad 46 0), .int x1, .int x2].toArray s 0 0 A) 4 28 [.int s0] [(0, .ref (ad 46 0)), (1, .int v1), (2, .int v2)] w := by
    intro w v1 v2 s0 hf _ _ ls hP hS hl
    unfold f_X9_next_28_s1 at hf
    refine lv_istore_n (lv' := [(3, .int s0), (0, .ref (ad 46 0)), (1, .int v1), (2, .int v2)]) hx hb dX9_next_28 rfl hl (by decide) rfl (fun ls hl => ?_)
    refine lv_aload_n hx hb dX9_next_29 rfl (lv_at hl 1 rfl) ?_
    refine lv_dup hx hb dX9_next_30 rfl ?_
    refine gt_9_1 (i := 0) C hP (hok.2.1 46 0 (Nat.le_of_ble_eq_true rfl)) lk_X9_13 dX9_next_31 ?_
    refine lv_iconst (v := (1 : Int32)) hx hb dX9_next_34 (by decide) ?_
    refine lv_iadd hx hb dX9_next_35 ?_
    refine pt_9_1 (i := 0) (v := ((gF w 46 1 0) + (1 : Int32))) C hok.1 hP hS (hok.2.1 46 0 (Nat.le_of_ble_eq_true rfl)) lk_X9_13 dX9_next_36 (fun H locs hP hS => ?_)
    refine lv_iload_n hx hb dX9_next_39 rfl (lv_at hl 2 rfl) ?_
    refine lv_iload_n hx hb dX9_next_40 rfl (lv_at hl 0 rfl) ?_
    refine lv_iload_n hx hb dX9_next_41 rfl (lv_at hl 3 rfl) ?_
    refine lv_iload_n hx hb dX9_next_42 rfl (lv_at hl 2 rfl) ?_
    refine lv_isub hx hb dX9_next_43 ?_
    refine lv_iconst (v := (1 : Int32)) hx hb dX9_next_44 (by decide) ?_
    refine lv_iadd hx hb dX9_next_45 ?_
    obtain ⟨b1, hf⟩ := gsn hf
    refine lv_irem hx hb dX9_next_46 b1 ?_
    refine lv_iadd hx hb dX9_next_47 ?_
    exact kr_i hok.2.2.1 C hlocks hr rfl hP hS (congrArg Prod.fst (Option.some.inj hf)) (congrArg Prod.snd (Option.some.inj hf)) dX9_next_48
  unfold f_X9_next at hf
  -- walk
  refine lv_aload_n hx hb dX9_next_0 rfl (lv_at hl 0 rfl) ?_
  refine gt_9_1 (i := 0) C hP (hok.2.1 46 0 (Nat.le_of_ble_eq_true rfl)) lk_X9_13 dX9_next_1 ?_
  refine lv_aload_n hx hb dX9_next_4 rfl (lv_at hl 0 rfl) ?_
  refine gt_9_0 (i := 0) C hP (hok.2.1 46 0 (Nat.le_of_ble_eq_true rfl)) lk_X9_7 dX9_next_5 ?_
  refine va_tlen hx hb (hsx.2 s hZ) hS (v := nI sx.1) rfl dX9_next_8 ?_
  refine lv_icmp_ge (tgt := 27) hx hb dX9_next_9 (by decide) (fun c3 => ?_) (fun c3 => ?_)
  · have hf := ifp hf c3
    refine lv_iconst (v := (0 : Int32)) hx hb dX9_next_27 (by decide) ?_
    exact P_f_X9_next_28_s1 w x1 x2 (0 : Int32) hf _ _ ls hP hS (lv_sub hl [0, 1, 2] rfl)
  · have hf := ifn hf c3
    refine lv_aload_n hx hb dX9_next_12 rfl (lv_at hl 0 rfl) ?_
    refine gt_9_0 (i := 0) C hP (hok.2.1 46 0 (Nat.le_of_ble_eq_true rfl)) lk_X9_7 dX9_next_13 ?_
    refine lv_aload_n hx hb dX9_next_16 rfl (lv_at hl 0 rfl) ?_
    refine gt_9_1 (i := 0) C hP (hok.2.1 46 0 (Nat.le_of_ble_eq_true rfl)) lk_X9_13 dX9_next_17 ?_
    obtain ⟨b2, hf⟩ := gsp hf
    refine va_ti hx hb (hsx.2 s hZ) hS (inb_in b2) rfl dX9_next_20 ?_
    refine lv_ldc (v := (2147483647 : Int32)) hx hb hown (hts _ kc_X9_17) dX9_next_21 ?_
    refine lv_iand hx hb dX9_next_23 ?_
    refine lv_goto (tgt := 28) hx hb dX9_next_24 (by decide) ?_
    exact P_f_X9_next_28_s1 w x1 x2 ((sx.2 (gF w 46 1 0).toNatClampNeg) &&& (2147483647 : Int32)) hf _ _ ls hP hS (lv_sub hl [0, 1, 2] rfl)
def f_X10_name (N : Nat) (w : Mem) (x0 : Int32) : Option (Int32) :=
  some ((i2c ((107 : Int32) + x0)))
set_option maxRecDepth 100000 in
set_option maxHeartbeats 4000000 in
theorem c_X10_name (l : Launch) (D : va_G) (ca : Nat → ClassId) (ad : Nat → Nat → Nat) (PL : List (Nat × Nat)) (Z : State → Prop) (A : Nat → Prop) (hok : okc bM Z A ad PL) (N : Nat) (w : Mem) (x0 : Int32) (r : Int32) (hf : f_X10_name N w x0 = some r) : CT l yX10_name (wsy yX10_name cX10_name 1 (some .char)) (rmk 0) D ca ad PL Z A [.int x0] w w (some (.int r)) := by
  refine Met.ofW (cc := cX10_name) (maxL := 1) (ret := (some .char)) (by decide +kernel) rfl ?_
  intro p e s m args below meth c s₁ B hml hv
  obtain ⟨rfl, hP, hK, hZ⟩ := hv
  have hx := B.exec
  have hb := B.bytes
  have hr := B.returns
  have hlocks := B.notSynchronized
  have hts : ∀ w ∈ ALL, w.before _ s = true := fun w hw => atoms_spec (ws := wsy yX10_name cX10_name 1 (some .char)) B.pre w (List.mem_cons_of_mem _ hw)
  have hown : s.vm.findClass RX10 = some m.cls := findClass_of_methodNamed B.named
  have C : CX p s m _ c cX10_name RX10 1 D ca Z := ⟨hx, hb, hml, hown, hts, hK, hZ⟩
  have hS : va_S A s.heap s.heap [] := va_S.rf
  have hl := lv_entry ([.int x0]) (n := 1) (Nat.le_of_ble_eq_true rfl)
  rw [lg_entry_eq]
  generalize (lg_sl ([.int x0]) ++ List.replicate (1 - (lg_sl ([.int x0])).length) Slot.unset).toArray = ls at hl ⊢
  have hl : lv_has ls 1 [(0, .int x0)] := hl
  show W p l e (rmk 0) s m _ below meth c s.heap [] 0 0 _ _
  unfold f_X10_name at hf
  -- walk
  refine lv_bipush (v := (107 : Int32)) hx hb dX10_name_0 (by decide) ?_
  refine lv_iload_n hx hb dX10_name_2 rfl (lv_at hl 0 rfl) ?_
  refine lv_iadd hx hb dX10_name_3 ?_
  refine lv_i2c (v := ((i2c ((107 : Int32) + x0)))) hx hb dX10_name_4 rfl ?_
  exact kr_i hok.2.2.1 C hlocks hr (nar_c _) hP hS rfl (Option.some.inj hf) dX10_name_5
def f_X10_unites_73 (N : Nat) (w : Mem)  : Option (Mem) :=
  some w
def lp_X10_unites_26 (k : Mem → Option (Mem)) (N : Nat)  (v3 : Int32) (v4 : Int32) (v5 : Int32) : Nat → Mem → Int32 → Option (Mem)
  | 0, _, _ => none
  | n + 1, w, v6 => (if (gF w 9 5 0) ≤ v6 then
(k w)
else
(if inb v6 12 = true then (if (gA w 45 0 v6.toNatClampNeg) = v3 then
(lp_X10_unites_26 k N   v3 v4 v5 n (sA w 45 0 v6.toNatClampNeg v5) (v6 + (1 : Int32)))
else
(if (gA w 45 0 v6.toNatClampNeg) = v4 then
(lp_X10_unites_26 k N   v3 v4 v5 n (sA w 45 0 v6.toNatClampNeg v5) (v6 + (1 : Int32)))
else
(lp_X10_unites_26 k N   v3 v4 v5 n w (v6 + (1 : Int32))))) else none))
def f_X10_unites (N : Nat) (w : Mem) (x1 : Int32) (x2 : Int32) : Option (Mem) :=
  (if inb x1 12 = true then (if inb x2 12 = true then (lp_X10_unites_26 (fun (w_3 : Mem) => (f_X10_unites_73 N w_3   )) N   (gA w 45 0 x1.toNatClampNeg) (gA w 45 0 x2.toNatClampNeg) (if (gA w 45 0 x2.toNatClampNeg) < (gA w 45 0 x1.toNatClampNeg) then (gA w 45 0 x2.toNatClampNeg) else (gA w 45 0 x1.toNatClampNeg)) N w (0 : Int32)) else none) else none)
set_option maxRecDepth 100000 in
set_option maxHeartbeats 4000000 in
theorem c_X10_unites (l : Launch) (D : va_G) (ca : Nat → ClassId) (ad : Nat → Nat → Nat) (PL : List (Nat × Nat)) (Z : State → Prop) (A : Nat → Prop) (hok : okc bM Z A ad PL) (N : Nat) (w : Mem) (x1 : Int32) (x2 : Int32) (w' : Mem) (hf : f_X10_unites N w x1 x2 = some w') : CT l yX10_unites (wsy yX10_unites cX10_unites 7 none) (rmk 1) D ca ad PL Z A [.ref (ad 9 0), .int x1, .int x2] w w' none := by
  refine Met.ofW (cc := cX10_unites) (maxL := 7) (ret := none) (by decide +kernel) rfl ?_
  intro p e s m args below meth c s₁ B hml hv
  obtain ⟨rfl, hP, hK, hZ⟩ := hv
  have hx := B.exec
  have hb := B.bytes
  have hr := B.returns
  have hlocks := B.notSynchronized
  have hts : ∀ w ∈ ALL, w.before _ s = true := fun w hw => atoms_spec (ws := wsy yX10_unites cX10_unites 7 none) B.pre w (List.mem_cons_of_mem _ hw)
  have hown : s.vm.findClass RX10 = some m.cls := findClass_of_methodNamed B.named
  have C : CX p s m _ c cX10_unites RX10 7 D ca Z := ⟨hx, hb, hml, hown, hts, hK, hZ⟩
  have hS : va_S A s.heap s.heap [] := va_S.rf
  have hl := lv_entry ([.ref (ad 9 0), .int x1, .int x2]) (n := 7) (Nat.le_of_ble_eq_true rfl)
  rw [lg_entry_eq]
  generalize (lg_sl ([.ref (ad 9 0), .int x1, .int x2]) ++ List.replicate (7 - (lg_sl ([.ref (ad 9 0), .int x1, .int x2])).length) Slot.unset).toArray = ls at hl ⊢
  have hl : lv_has ls 7 [(0, .ref (ad 9 0)), (1, .int x1), (2, .int x2)] := hl
  show W p l e (rmk 1) s m _ below meth c s.heap [] 0 0 _ _
  have P_f_X10_unites_73 : ∀ (w : Mem), f_X10_unites_73 N w    = some w' → WP p l e (rmk 1) s m [.ref (ad 9 0), .int x1, .int x2].toArray below meth c D ca ad PL A (MQ below (qcR D ca ad PL Z A w' none) [.ref (ad 9 0), .int x1, .int x2].toArray s 0 0 A) 7 73 [] [] w := by
    intro w hf _ _ ls hP hS hl
    unfold f_X10_unites_73 at hf
    exact kr_v hok.2.2.1 C hlocks hr hP hS (Option.some.inj hf) dX10_unites_73
  have L_lp_X10_unites_26 : ∀ (v3 : Int32) (v4 : Int32) (v5 : Int32) (k : Mem → Option (Mem)) (hk : ∀ (w : Mem), k w = some w' → WP p l e (rmk 1) s m [.ref (ad 9 0), .int x1, .int x2].toArray below meth c D ca ad PL A (MQ below (qcR D ca ad PL Z A w' none) [.ref (ad 9 0), .int x1, .int x2].toArray s 0 0 A) 7 73 [] [] w) (n : Nat) (w : Mem) (v6 : Int32), lp_X10_unites_26 k N   v3 v4 v5 n w v6 = some w' → WP p l e (rmk 1) s m [.ref (ad 9 0), .int x1, .int x2].toArray below meth c D ca ad PL A (MQ below (qcR D ca ad PL Z A w' none) [.ref (ad 9 0), .int x1, .int x2].toArray s 0 0 A) 7 26 [] [(0, .ref (ad 9 0)), (3, .int v3), (4, .int v4), (5, .int v5), (6, .int v6)] w := by
    intro v3 v4 v5 k hk n
    induction n with
    | zero => intro w v6 hf; rw [lp_X10_unites_26] at hf; cases hf
    | succ n ih =>
      intro w v6 hf _ _ ls hP hS hl
      rw [lp_X10_unites_26] at hf
      refine lv_iload hx hb dX10_unites_26 (lv_at hl 4 rfl) ?_
      refine lv_aload_n hx hb dX10_unites_28 rfl (lv_at hl 0 rfl) ?_
      refine gt_10_5 (i := 0) C hP (hok.2.1 9 0 (Nat.le_of_ble_eq_true rfl)) lk_X10_62 dX10_unites_29 ?_
      refine lv_icmp_ge (tgt := 73) hx hb dX10_unites_32 (by decide) (fun c7 => ?_) (fun c7 => ?_)
      · have hf := ifp hf c7
        exact hk w hf _ _ ls hP hS (lv_sub hl [] rfl)
      · have hf := ifn hf c7
        refine lv_aload_n hx hb dX10_unites_35 rfl (lv_at hl 0 rfl) ?_
        refine gt_10_7 (i := 0) C hP (hok.2.1 9 0 (Nat.le_of_ble_eq_true rfl)) lk_X10_25 dX10_unites_36 ?_
        refine lv_iload hx hb dX10_unites_39 (lv_at hl 4 rfl) ?_
        obtain ⟨b4, hf⟩ := gsp hf
        refine ra_ild (k := 45) (i := 0) (n := 12) (f := (gA w 45 0)) C hP (hok.2.1 45 0 (Nat.le_of_ble_eq_true rfl)) rfl b4 dX10_unites_41 ?_
        refine lv_iload_n hx hb dX10_unites_42 rfl (lv_at hl 1 rfl) ?_
        refine lv_icmp_eq (tgt := 58) hx hb dX10_unites_43 (by decide) (fun c6 => ?_) (fun c6 => ?_)
        · have hf := ifp hf c6
          refine lv_aload_n hx hb dX10_unites_58 rfl (lv_at hl 0 rfl) ?_
          refine gt_10_7 (i := 0) C hP (hok.2.1 9 0 (Nat.le_of_ble_eq_true rfl)) lk_X10_25 dX10_unites_59 ?_
          refine lv_iload hx hb dX10_unites_62 (lv_at hl 4 rfl) ?_
          refine lv_iload hx hb dX10_unites_64 (lv_at hl 3 rfl) ?_
          refine ra_ist (k := 45) (i := 0) (n := 12) C hok.1 hP hS (hok.2.1 45 0 (Nat.le_of_ble_eq_true rfl)) (fun _ => rfl) b4 dX10_unites_66 (fun H locs hP hS => ?_)
          refine lv_iinc (v := (v6 + (1 : Int32))) (lv' := [(6, .int (v6 + (1 : Int32))), (0, .ref (ad 9 0)), (3, .int v3), (4, .int v4), (5, .int v5)]) hx hb dX10_unites_67 hl (k := 4) rfl rfl (by decide) rfl (fun ls hl => ?_)
          refine lv_goto (tgt := 26) hx hb dX10_unites_70 (by decide) ?_
          exact ih (sA w 45 0 v6.toNatClampNeg v5) (v6 + (1 : Int32)) hf _ _ ls hP hS (lv_sub hl [1, 2, 3, 4, 0] rfl)
        · have hf := ifn hf c6
          refine lv_aload_n hx hb dX10_unites_46 rfl (lv_at hl 0 rfl) ?_
          refine gt_10_7 (i := 0) C hP (hok.2.1 9 0 (Nat.le_of_ble_eq_true rfl)) lk_X10_25 dX10_unites_47 ?_
          refine lv_iload hx hb dX10_unites_50 (lv_at hl 4 rfl) ?_
          refine ra_ild (k := 45) (i := 0) (n := 12) (f := (gA w 45 0)) C hP (hok.2.1 45 0 (Nat.le_of_ble_eq_true rfl)) rfl b4 dX10_unites_52 ?_
          refine lv_iload hx hb dX10_unites_53 (lv_at hl 2 rfl) ?_
          refine lv_icmp_ne (tgt := 67) hx hb dX10_unites_55 (by decide) (fun c5 => ?_) (fun c5 => ?_)
          · have hf := ifn hf c5
            refine lv_iinc (v := (v6 + (1 : Int32))) (lv' := [(6, .int (v6 + (1 : Int32))), (0, .ref (ad 9 0)), (3, .int v3), (4, .int v4), (5, .int v5)]) hx hb dX10_unites_67 hl (k := 4) rfl rfl (by decide) rfl (fun ls hl => ?_)
            refine lv_goto (tgt := 26) hx hb dX10_unites_70 (by decide) ?_
            exact ih w (v6 + (1 : Int32)) hf _ _ ls hP hS (lv_sub hl [1, 2, 3, 4, 0] rfl)
          · have hf := ifp hf c5
            refine lv_aload_n hx hb dX10_unites_58 rfl (lv_at hl 0 rfl) ?_
            refine gt_10_7 (i := 0) C hP (hok.2.1 9 0 (Nat.le_of_ble_eq_true rfl)) lk_X10_25 dX10_unites_59 ?_
            refine lv_iload hx hb dX10_unites_62 (lv_at hl 4 rfl) ?_
            refine lv_iload hx hb dX10_unites_64 (lv_at hl 3 rfl) ?_
            refine ra_ist (k := 45) (i := 0) (n := 12) C hok.1 hP hS (hok.2.1 45 0 (Nat.le_of_ble_eq_true rfl)) (fun _ => rfl) b4 dX10_unites_66 (fun H locs hP hS => ?_)
            refine lv_iinc (v := (v6 + (1 : Int32))) (lv' := [(6, .int (v6 + (1 : Int32))), (0, .ref (ad 9 0)), (3, .int v3), (4, .int v4), (5, .int v5)]) hx hb dX10_unites_67 hl (k := 4) rfl rfl (by decide) rfl (fun ls hl => ?_)
            refine lv_goto (tgt := 26) hx hb dX10_unites_70 (by decide) ?_
            exact ih (sA w 45 0 v6.toNatClampNeg v5) (v6 + (1 : Int32)) hf _ _ ls hP hS (lv_sub hl [1, 2, 3, 4, 0] rfl)
  unfold f_X10_unites at hf
  -- walk
  refine lv_aload_n hx hb dX10_unites_0 rfl (lv_at hl 0 rfl) ?_
  refine gt_10_7 (i := 0) C hP (hok.2.1 9 0 (Nat.le_of_ble_eq_true rfl)) lk_X10_25 dX10_unites_1 ?_
  refine lv_iload_n hx hb dX10_unites_4 rfl (lv_at hl 1 rfl) ?_
  obtain ⟨b1, hf⟩ := gsp hf
  refine ra_ild (k := 45) (i := 0) (n := 12) (f := (gA w 45 0)) C hP (hok.2.1 45 0 (Nat.le_of_ble_eq_true rfl)) rfl b1 dX10_unites_5 ?_
  refine lv_istore_n (lv' := [(3, .int (gA w 45 0 x1.toNatClampNeg)), (0, .ref (ad 9 0)), (1, .int x1), (2, .int x2)]) hx hb dX10_unites_6 rfl hl (by decide) rfl (fun ls hl => ?_)
  refine lv_aload_n hx hb dX10_unites_7 rfl (lv_at hl 1 rfl) ?_
  refine gt_10_7 (i := 0) C hP (hok.2.1 9 0 (Nat.le_of_ble_eq_true rfl)) lk_X10_25 dX10_unites_8 ?_
  refine lv_iload_n hx hb dX10_unites_11 rfl (lv_at hl 3 rfl) ?_
  obtain ⟨b2, hf⟩ := gsp hf
  refine ra_ild (k := 45) (i := 0) (n := 12) (f := (gA w 45 0)) C hP (hok.2.1 45 0 (Nat.le_of_ble_eq_true rfl)) rfl b2 dX10_unites_12 ?_
  refine lv_istore (lv' := [(4, .int (gA w 45 0 x2.toNatClampNeg)), (3, .int (gA w 45 0 x1.toNatClampNeg)), (0, .ref (ad 9 0)), (1, .int x1), (2, .int x2)]) hx hb dX10_unites_13 hl (by decide) rfl (fun ls hl => ?_)
  refine lv_iload_n hx hb dX10_unites_15 rfl (lv_at hl 1 rfl) ?_
  refine lv_iload hx hb dX10_unites_16 (lv_at hl 0 rfl) ?_
  refine km_min C hl.1 ml_X10_75 ⟨Nat.le_of_ble_eq_true rfl, Nat.le_of_ble_eq_true rfl⟩ ⟨Nat.zero_le _, Nat.zero_le _⟩ dX10_unites_18 ?_
  refine lv_istore (lv' := [(5, .int (if (gA w 45 0 x2.toNatClampNeg) < (gA w 45 0 x1.toNatClampNeg) then (gA w 45 0 x2.toNatClampNeg) else (gA w 45 0 x1.toNatClampNeg))), (4, .int (gA w 45 0 x2.toNatClampNeg)), (3, .int (gA w 45 0 x1.toNatClampNeg)), (0, .ref (ad 9 0)), (1, .int x1), (2, .int x2)]) hx hb dX10_unites_21 hl (by decide) rfl (fun ls hl => ?_)
  refine lv_iconst (v := (0 : Int32)) hx hb dX10_unites_23 (by decide) ?_
  refine lv_istore (lv' := [(6, .int (0 : Int32)), (5, .int (if (gA w 45 0 x2.toNatClampNeg) < (gA w 45 0 x1.toNatClampNeg) then (gA w 45 0 x2.toNatClampNeg) else (gA w 45 0 x1.toNatClampNeg))), (4, .int (gA w 45 0 x2.toNatClampNeg)), (3, .int (gA w 45 0 x1.toNatClampNeg)), (0, .ref (ad 9 0)), (1, .int x1), (2, .int x2)]) hx hb dX10_unites_24 hl (by decide) rfl (fun ls hl => ?_)
  exact L_lp_X10_unites_26 (gA w 45 0 x1.toNatClampNeg) (gA w 45 0 x2.toNatClampNeg) (if (gA w 45 0 x2.toNatClampNeg) < (gA w 45 0 x1.toNatClampNeg) then (gA w 45 0 x2.toNatClampNeg) else (gA w 45 0 x1.toNatClampNeg)) _ (fun w_3 hf H locs ls hP hS hl => P_f_X10_unites_73 w_3 hf _ _ ls hP hS (lv_sub hl [] rfl)) N w (0 : Int32) hf _ _ ls hP hS (lv_sub hl [4, 3, 2, 1, 0] rfl)
def f_X10_isAlike_50 (N : Nat) (w : Mem)  (v1 : Int32) (v2 : Int32) : Option (Int32) :=
  (if inb v1 12 = true then (if (gA w 40 0 v1.toNatClampNeg) < (4 : Int32) then
some (1 : Int32)
else
(if inb (gA w 42 0 v1.toNatClampNeg) 12 = true then (if inb v2 12 = true then (if inb (gA w 42 0 v2.toNatClampNeg) 12 = true then (if (gA w 45 0 (gA w 42 0 v1.toNatClampNeg).toNatClampNeg) = (gA w 45 0 (gA w 42 0 v2.toNatClampNeg).toNatClampNeg) then
some (1 : Int32)
else
some (0 : Int32)) else none) else none) else none)) else none)
def f_X10_isAlike (N : Nat) (w : Mem) (x1 : Int32) (x2 : Int32) : Option (Int32) :=
  (if inb x1 12 = true then (if inb x2 12 = true then (if (gA w 40 0 x1.toNatClampNeg) = (gA w 40 0 x2.toNatClampNeg) then
(if (gA w 40 0 x1.toNatClampNeg) < (3 : Int32) then
(f_X10_isAlike_50 N w  x1 x2 )
else
(if inb (gA w 41 0 x1.toNatClampNeg) 12 = true then (if inb (gA w 41 0 x2.toNatClampNeg) 12 = true then (if (gA w 45 0 (gA w 41 0 x1.toNatClampNeg).toNatClampNeg) = (gA w 45 0 (gA w 41 0 x2.toNatClampNeg).toNatClampNeg) then
(f_X10_isAlike_50 N w  x1 x2 )
else
some (0 : Int32)) else none) else none))
else
some (0 : Int32)) else none) else none)
set_option maxRecDepth 100000 in
set_option maxHeartbeats 4000000 in
theorem c_X10_isAlike (l : Launch) (D : va_G) (ca : Nat → ClassId) (ad : Nat → Nat → Nat) (PL : List (Nat × Nat)) (Z : State → Prop) (A : Nat → Prop) (hok : okc bM Z A ad PL) (N : Nat) (w : Mem) (x1 : Int32) (x2 : Int32) (r : Int32) (hf : f_X10_isAlike N w x1 x2 = some r) : CT l yX10_isAlike (wsy yX10_isAlike cX10_isAlike 3 (some .boolean)) (rmk 0) D ca ad PL Z A [.ref (ad 9 0), .int x1, .int x2] w w (some (.int r)) := by
  refine Met.ofW (cc := cX10_isAlike) (maxL := 3) (ret := (some .boolean)) (by decide +kernel) rfl ?_
  intro p e s m args below meth c s₁ B hml hv
  obtain ⟨rfl, hP, hK, hZ⟩ := hv
  have hx := B.exec
  have hb := B.bytes
  have hr := B.returns
  have hlocks := B.notSynchronized
  have hts : ∀ w ∈ ALL, w.before _ s = true := fun w hw => atoms_spec (ws := wsy yX10_isAlike cX10_isAlike 3 (some .boolean)) B.pre w (List.mem_cons_of_mem _ hw)
  have hown : s.vm.findClass RX10 = some m.cls := findClass_of_methodNamed B.named
  have C : CX p s m _ c cX10_isAlike RX10 3 D ca Z := ⟨hx, hb, hml, hown, hts, hK, hZ⟩
  have hS : va_S A s.heap s.heap [] := va_S.rf
  have hl := lv_entry ([.ref (ad 9 0), .int x1, .int x2]) (n := 3) (Nat.le_of_ble_eq_true rfl)
  rw [lg_entry_eq]
  generalize (lg_sl ([.ref (ad 9 0), .int x1, .int x2]) ++ List.replicate (3 - (lg_sl ([.ref (ad 9 0), .int x1, .int x2])).length) Slot.unset).toArray = ls at hl ⊢
  have hl : lv_has ls 3 [(0, .ref (ad 9 0)), (1, .int x1), (2, .int x2)] := hl
  show W p l e (rmk 0) s m _ below meth c s.heap [] 0 0 _ _
  have P_f_X10_isAlike_50 : ∀ (v1 : Int32) (v2 : Int32), f_X10_isAlike_50 N w  v1 v2  = some r → WP p l e (rmk 0) s m [.ref (ad 9 0), .int x1, .int x2].toArray below meth c D ca ad PL A (MQ below (qcR D ca ad PL Z A w (some (.int r))) [.ref (ad 9 0), .int x1, .int x2].toArray s 0 0 A) 3 50 [] [(0, .ref (ad 9 0)), (1, .int v1), (2, .int v2)] w := by
    intro v1 v2 hf _ _ ls hP hS hl
    unfold f_X10_isAlike_50 at hf
    refine lv_aload_n hx hb dX10_isAlike_50 rfl (lv_at hl 0 rfl) ?_
    refine gt_10_0 (i := 0) C hP (hok.2.1 9 0 (Nat.le_of_ble_eq_true rfl)) lk_X10_7 dX10_isAlike_51 ?_
    refine lv_iload_n hx hb dX10_isAlike_54 rfl (lv_at hl 1 rfl) ?_
    obtain ⟨b3, hf⟩ := gsp hf
    refine ra_ild (k := 40) (i := 0) (n := 12) (f := (gA w 40 0)) C hP (hok.2.1 40 0 (Nat.le_of_ble_eq_true rfl)) rfl b3 dX10_isAlike_55 ?_
    refine lv_iconst (v := (4 : Int32)) hx hb dX10_isAlike_56 (by decide) ?_
    refine lv_icmp_lt (tgt := 85) hx hb dX10_isAlike_57 (by decide) (fun c8 => ?_) (fun c8 => ?_)
    · have hf := ifp hf c8
      refine lv_iconst (v := (1 : Int32)) hx hb dX10_isAlike_85 (by decide) ?_
      refine lv_goto (tgt := 90) hx hb dX10_isAlike_86 (by decide) ?_
      exact kr_i hok.2.2.1 C hlocks hr rfl hP hS rfl (Option.some.inj hf) dX10_isAlike_90
    · have hf := ifn hf c8
      refine lv_aload_n hx hb dX10_isAlike_60 rfl (lv_at hl 0 rfl) ?_
      refine gt_10_7 (i := 0) C hP (hok.2.1 9 0 (Nat.le_of_ble_eq_true rfl)) lk_X10_25 dX10_isAlike_61 ?_
      refine lv_aload_n hx hb dX10_isAlike_64 rfl (lv_at hl 0 rfl) ?_
      refine gt_10_2 (i := 0) C hP (hok.2.1 9 0 (Nat.le_of_ble_eq_true rfl)) lk_X10_16 dX10_isAlike_65 ?_
      refine lv_iload_n hx hb dX10_isAlike_68 rfl (lv_at hl 1 rfl) ?_
      refine ra_ild (k := 42) (i := 0) (n := 12) (f := (gA w 42 0)) C hP (hok.2.1 42 0 (Nat.le_of_ble_eq_true rfl)) rfl b3 dX10_isAlike_69 ?_
      obtain ⟨b4, hf⟩ := gsp hf
      refine ra_ild (k := 45) (i := 0) (n := 12) (f := (gA w 45 0)) C hP (hok.2.1 45 0 (Nat.le_of_ble_eq_true rfl)) rfl b4 dX10_isAlike_70 ?_
      refine lv_aload_n hx hb dX10_isAlike_71 rfl (lv_at hl 0 rfl) ?_
      refine gt_10_7 (i := 0) C hP (hok.2.1 9 0 (Nat.le_of_ble_eq_true rfl)) lk_X10_25 dX10_isAlike_72 ?_
      refine lv_aload_n hx hb dX10_isAlike_75 rfl (lv_at hl 0 rfl) ?_
      refine gt_10_2 (i := 0) C hP (hok.2.1 9 0 (Nat.le_of_ble_eq_true rfl)) lk_X10_16 dX10_isAlike_76 ?_
      refine lv_iload_n hx hb dX10_isAlike_79 rfl (lv_at hl 2 rfl) ?_
      obtain ⟨b5, hf⟩ := gsp hf
      refine ra_ild (k := 42) (i := 0) (n := 12) (f := (gA w 42 0)) C hP (hok.2.1 42 0 (Nat.le_of_ble_eq_true rfl)) rfl b5 dX10_isAlike_80 ?_
      obtain ⟨b6, hf⟩ := gsp hf
      refine ra_ild (k := 45) (i := 0) (n := 12) (f := (gA w 45 0)) C hP (hok.2.1 45 0 (Nat.le_of_ble_eq_true rfl)) rfl b6 dX10_isAlike_81 ?_
      refine lv_icmp_ne (tgt := 89) hx hb dX10_isAlike_82 (by decide) (fun c7 => ?_) (fun c7 => ?_)
      · have hf := ifn hf c7
        refine lv_iconst (v := (0 : Int32)) hx hb dX10_isAlike_89 (by decide) ?_
        exact kr_i hok.2.2.1 C hlocks hr rfl hP hS rfl (Option.some.inj hf) dX10_isAlike_90
      · have hf := ifp hf c7
        refine lv_iconst (v := (1 : Int32)) hx hb dX10_isAlike_85 (by decide) ?_
        refine lv_goto (tgt := 90) hx hb dX10_isAlike_86 (by decide) ?_
        exact kr_i hok.2.2.1 C hlocks hr rfl hP hS rfl (Option.some.inj hf) dX10_isAlike_90
  unfold f_X10_isAlike at hf
  -- walk
  refine lv_aload_n hx hb dX10_isAlike_0 rfl (lv_at hl 0 rfl) ?_
  refine gt_10_0 (i := 0) C hP (hok.2.1 9 0 (Nat.le_of_ble_eq_true rfl)) lk_X10_7 dX10_isAlike_1 ?_
  refine lv_iload_n hx hb dX10_isAlike_4 rfl (lv_at hl 1 rfl) ?_
  obtain ⟨b1, hf⟩ := gsp hf
  refine ra_ild (k := 40) (i := 0) (n := 12) (f := (gA w 40 0)) C hP (hok.2.1 40 0 (Nat.le_of_ble_eq_true rfl)) rfl b1 dX10_isAlike_5 ?_
  refine lv_aload_n hx hb dX10_isAlike_6 rfl (lv_at hl 0 rfl) ?_
  refine gt_10_0 (i := 0) C hP (hok.2.1 9 0 (Nat.le_of_ble_eq_true rfl)) lk_X10_7 dX10_isAlike_7 ?_
  refine lv_iload_n hx hb dX10_isAlike_10 rfl (lv_at hl 2 rfl) ?_
  obtain ⟨b2, hf⟩ := gsp hf
  refine ra_ild (k := 40) (i := 0) (n := 12) (f := (gA w 40 0)) C hP (hok.2.1 40 0 (Nat.le_of_ble_eq_true rfl)) rfl b2 dX10_isAlike_11 ?_
  refine lv_icmp_ne (tgt := 89) hx hb dX10_isAlike_12 (by decide) (fun c13 => ?_) (fun c13 => ?_)
  · have hf := ifn hf c13
    refine lv_iconst (v := (0 : Int32)) hx hb dX10_isAlike_89 (by decide) ?_
    exact kr_i hok.2.2.1 C hlocks hr rfl hP hS rfl (Option.some.inj hf) dX10_isAlike_90
  · have hf := ifp hf c13
    refine lv_aload_n hx hb dX10_isAlike_15 rfl (lv_at hl 0 rfl) ?_
    refine gt_10_0 (i := 0) C hP (hok.2.1 9 0 (Nat.le_of_ble_eq_true rfl)) lk_X10_7 dX10_isAlike_16 ?_
    refine lv_iload_n hx hb dX10_isAlike_19 rfl (lv_at hl 1 rfl) ?_
    refine ra_ild (k := 40) (i := 0) (n := 12) (f := (gA w 40 0)) C hP (hok.2.1 40 0 (Nat.le_of_ble_eq_true rfl)) rfl b1 dX10_isAlike_20 ?_
    refine lv_iconst (v := (3 : Int32)) hx hb dX10_isAlike_21 (by decide) ?_
    refine lv_icmp_lt (tgt := 50) hx hb dX10_isAlike_22 (by decide) (fun c12 => ?_) (fun c12 => ?_)
    · have hf := ifp hf c12
      exact P_f_X10_isAlike_50 x1 x2 hf _ _ ls hP hS (lv_sub hl [0, 1, 2] rfl)
    · have hf := ifn hf c12
      refine lv_aload_n hx hb dX10_isAlike_25 rfl (lv_at hl 0 rfl) ?_
      refine gt_10_7 (i := 0) C hP (hok.2.1 9 0 (Nat.le_of_ble_eq_true rfl)) lk_X10_25 dX10_isAlike_26 ?_
      refine lv_aload_n hx hb dX10_isAlike_29 rfl (lv_at hl 0 rfl) ?_
      refine gt_10_1 (i := 0) C hP (hok.2.1 9 0 (Nat.le_of_ble_eq_true rfl)) lk_X10_13 dX10_isAlike_30 ?_
      refine lv_iload_n hx hb dX10_isAlike_33 rfl (lv_at hl 1 rfl) ?_
      refine ra_ild (k := 41) (i := 0) (n := 12) (f := (gA w 41 0)) C hP (hok.2.1 41 0 (Nat.le_of_ble_eq_true rfl)) rfl b1 dX10_isAlike_34 ?_
      obtain ⟨b9, hf⟩ := gsp hf
      refine ra_ild (k := 45) (i := 0) (n := 12) (f := (gA w 45 0)) C hP (hok.2.1 45 0 (Nat.le_of_ble_eq_true rfl)) rfl b9 dX10_isAlike_35 ?_
      refine lv_aload_n hx hb dX10_isAlike_36 rfl (lv_at hl 0 rfl) ?_
      refine gt_10_7 (i := 0) C hP (hok.2.1 9 0 (Nat.le_of_ble_eq_true rfl)) lk_X10_25 dX10_isAlike_37 ?_
      refine lv_aload_n hx hb dX10_isAlike_40 rfl (lv_at hl 0 rfl) ?_
      refine gt_10_1 (i := 0) C hP (hok.2.1 9 0 (Nat.le_of_ble_eq_true rfl)) lk_X10_13 dX10_isAlike_41 ?_
      refine lv_iload_n hx hb dX10_isAlike_44 rfl (lv_at hl 2 rfl) ?_
      refine ra_ild (k := 41) (i := 0) (n := 12) (f := (gA w 41 0)) C hP (hok.2.1 41 0 (Nat.le_of_ble_eq_true rfl)) rfl b2 dX10_isAlike_45 ?_
      obtain ⟨b10, hf⟩ := gsp hf
      refine ra_ild (k := 45) (i := 0) (n := 12) (f := (gA w 45 0)) C hP (hok.2.1 45 0 (Nat.le_of_ble_eq_true rfl)) rfl b10 dX10_isAlike_46 ?_
      refine lv_icmp_ne (tgt := 89) hx hb dX10_isAlike_47 (by decide) (fun c11 => ?_) (fun c11 => ?_)
      · have hf := ifn hf c11
        refine lv_iconst (v := (0 : Int32)) hx hb dX10_isAlike_89 (by decide) ?_
        exact kr_i hok.2.2.1 C hlocks hr rfl hP hS rfl (Option.some.inj hf) dX10_isAlike_90
      · have hf := ifp hf c11
        exact P_f_X10_isAlike_50 x1 x2 hf _ _ ls hP hS (lv_sub hl [0, 1, 2] rfl)
def f_X10_closes_144 (N : Nat) (w : Mem)  : Option (Mem) :=
  some w
def f_X10_closes_141_66 (rc : Mem → Int32 → Option (Mem)) (k : Mem → Option (Mem)) (N : Nat) (w : Mem)  (v2 : Int32) : Option (Mem) :=
  (rc w v2)
def f_X10_closes_135_74 (rc : Mem → Int32 → Int32 → Option (Mem)) (k : Mem → Int32 → Option (Mem)) (N : Nat) (w : Mem)  (v2 : Int32) (v3 : Int32) : Option (Mem) :=
  (rc w v2 (v3 + (1 : Int32)))
def lp_X10_closes_85 (k : Mem → Int32 → Option (Mem)) (N : Nat)  (v3 : Int32) : Nat → Mem → Int32 → Int32 → Option (Mem)
  | 0, _, _, _ => none
  | n + 1, w, v2, v4 => (if v3 ≤ v4 then
(k w v2)
else
(if inb v3 12 = true then (if inb v4 12 = true then (if (gA w 45 0 v3.toNatClampNeg) = (gA w 45 0 v4.toNatClampNeg) then
(lp_X10_closes_85 k N   v3 n w v2 (v4 + (1 : Int32)))
else
(Option.bind (f_X10_isAlike N w v3 v4) (fun z8 => (if z8 = (0 : Int32) then
(lp_X10_closes_85 k N   v3 n w v2 (v4 + (1 : Int32)))
else
(Option.bind (f_X10_unites N w v3 v4) (fun z10 => (lp_X10_closes_85 k N   v3 n z10 (1 : Int32) (v4 + (1 : Int32))))))))) else none) else none))
def lp_X10_closes_74 (k : Mem → Int32 → Option (Mem)) (N : Nat)  : Nat → Mem → Int32 → Int32 → Option (Mem)
  | 0, _, _, _ => none
  | n + 1, w, v2, v3 => (if (gF w 9 5 0) ≤ v3 then
(k w v2)
else
(lp_X10_closes_85 (fun (w_5 : Mem) (u2_5 : Int32) => (f_X10_closes_135_74 (fun (w : Mem) (v2 : Int32) (v3 : Int32) => lp_X10_closes_74 k N    n w v2 v3) k N w_5  u2_5 v3 )) N   v3 N w v2 (0 : Int32)))
def lp_X10_closes_66 (k : Mem → Option (Mem)) (N : Nat)  : Nat → Mem → Int32 → Option (Mem)
  | 0, _, _ => none
  | n + 1, w, v2 => (if v2 = (0 : Int32) then
(k w)
else
(lp_X10_closes_74 (fun (w_4 : Mem) (u2_4 : Int32) => (f_X10_closes_141_66 (fun (w : Mem) (v2 : Int32) => lp_X10_closes_66 k N    n w v2) k N w_4  u2_4 )) N    N w (0 : Int32) (0 : Int32)))
def f_X10_closes_64 (N : Nat) (w : Mem)  : Option (Mem) :=
  (lp_X10_closes_66 (fun (w_3 : Mem) => (f_X10_closes_144 N w_3   )) N    N w (1 : Int32))
def lp_X10_closes_25 (k : Mem → Option (Mem)) (N : Nat)  (v1 : Int32) : Nat → Mem → Int32 → Option (Mem)
  | 0, _, _ => none
  | n + 1, w, v2 => (if (gF w 9 6 0) ≤ v2 then
(k w)
else
(if ((v1 >>> (v2 &&& 31)) &&& (1 : Int32)) = (1 : Int32) then
(if inb v2 12 = true then (Option.bind (f_X10_unites N w (gA w 43 0 v2.toNatClampNeg) (gA w 44 0 v2.toNatClampNeg)) (fun z18 => (lp_X10_closes_25 k N   v1 n z18 (v2 + (1 : Int32))))) else none)
else
(lp_X10_closes_25 k N   v1 n w (v2 + (1 : Int32)))))
def f_X10_closes_23 (N : Nat) (w : Mem)  (v1 : Int32) : Option (Mem) :=
  (lp_X10_closes_25 (fun (w_2 : Mem) => (f_X10_closes_64 N w_2   )) N   v1 N w (0 : Int32))
def lp_X10_closes_2 (k : Mem → Option (Mem)) (N : Nat)  (v1 : Int32) : Nat → Mem → Int32 → Option (Mem)
  | 0, _, _ => none
  | n + 1, w, v2 => (if (gF w 9 5 0) ≤ v2 then
(k w)
else
(if inb v2 12 = true then (lp_X10_closes_2 k N   v1 n (sA w 45 0 v2.toNatClampNeg v2) (v2 + (1 : Int32))) else none))
def f_X10_closes (N : Nat) (w : Mem) (x1 : Int32) : Option (Mem) :=
  (lp_X10_closes_2 (fun (w_1 : Mem) => (f_X10_closes_23 N w_1  x1 )) N   x1 N w (0 : Int32))
set_option maxRecDepth 100000 in
set_option maxHeartbeats 4000000 in
theorem c_X10_closes (l : Launch) (D : va_G) (ca : Nat → ClassId) (ad : Nat → Nat → Nat) (PL : List (Nat × Nat)) (Z : State → Prop) (A : Nat → Prop) (hok : okc bM Z A ad PL) (N : Nat) (w : Mem) (x1 : Int32) (w' : Mem) (hf : f_X10_closes N w x1 = some w') : CT l yX10_closes (wsy yX10_closes cX10_closes 5 none) (rmk 2) D ca ad PL Z A [.ref (ad 9 0), .int x1] w w' none := by
  refine Met.ofW (cc := cX10_closes) (maxL := 5) (ret := none) (by decide +kernel) rfl ?_
  intro p e s m args below meth c s₁ B hml hv
  obtain ⟨rfl, hP, hK, hZ⟩ := hv
  have hx := B.exec
  have hb := B.bytes
  have hr := B.returns
  have hlocks := B.notSynchronized
  have hts : ∀ w ∈ ALL, w.before _ s = true := fun w hw => atoms_spec (ws := wsy yX10_closes cX10_closes 5 none) B.pre w (List.mem_cons_of_mem _ hw)
  have hown : s.vm.findClass RX10 = some m.cls := findClass_of_methodNamed B.named
  have C : CX p s m _ c cX10_closes RX10 5 D ca Z := ⟨hx, hb, hml, hown, hts, hK, hZ⟩
  have hS : va_S A s.heap s.heap [] := va_S.rf
  have hl := lv_entry ([.ref (ad 9 0), .int x1]) (n := 5) (Nat.le_of_ble_eq_true rfl)
  rw [lg_entry_eq]
  generalize (lg_sl ([.ref (ad 9 0), .int x1]) ++ List.replicate (5 - (lg_sl ([.ref (ad 9 0), .int x1])).length) Slot.unset).toArray = ls at hl ⊢
  have hl : lv_has ls 5 [(0, .ref (ad 9 0)), (1, .int x1)] := hl
  show W p l e (rmk 2) s m _ below meth c s.heap [] 0 0 _ _
  have P_f_X10_closes_144 : ∀ (w : Mem), f_X10_closes_144 N w    = some w' → WP p l e (rmk 2) s m [.ref (ad 9 0), .int x1].toArray below meth c D ca ad PL A (MQ below (qcR D ca ad PL Z A w' none) [.ref (ad 9 0), .int x1].toArray s 0 0 A) 5 144 [] [] w := by
    intro w hf _ _ ls hP hS hl
    unfold f_X10_closes_144 at hf
    exact kr_v hok.2.2.1 C hlocks hr hP hS (Option.some.inj hf) dX10_closes_144
  have P_f_X10_closes_141_66 : ∀ (rc : Mem → Int32 → Option (Mem)) (hrc : ∀ (w : Mem) (v2 : Int32), rc w v2 = some w' → WP p l e (rmk 2) s m [.ref (ad 9 0), .int x1].toArray below meth c D ca ad PL A (MQ below (qcR D ca ad PL Z A w' none) [.ref (ad 9 0), .int x1].toArray s 0 0 A) 5 66 [] [(0, .ref (ad 9 0)), (2, .int v2)] w) (k : Mem → Option (Mem)) (hk : ∀ (w : Mem), k w = some w' → WP p l e (rmk 2) s m [.ref (ad 9 0), .int x1].toArray below meth c D ca ad PL A (MQ below (qcR D ca ad PL Z A w' none) [.ref (ad 9 0), .int x1].toArray s 0 0 A) 5 144 [] [] w) (w : Mem) (v2 : Int32), f_X10_closes_141_66 rc k N w  v2  = some w' → WP p l e (rmk 2) s m [.ref (ad 9 0), .int x1].toArray below meth c D ca ad PL A (MQ below (qcR D ca ad PL Z A w' none) [.ref (ad 9 0), .int x1].toArray s 0 0 A) 5 141 [] [(0, .ref (ad 9 0)), (2, .int v2)] w := by
    intro rc hrc k hk w v2 hf _ _ ls hP hS hl
    unfold f_X10_closes_141_66 at hf
    refine lv_goto (tgt := 66) hx hb dX10_closes_141 (by decide) ?_
    exact hrc w v2 hf _ _ ls hP hS (lv_sub hl [0, 1] rfl)
  have P_f_X10_closes_135_74 : ∀ (rc : Mem → Int32 → Int32 → Option (Mem)) (hrc : ∀ (w : Mem) (v2 : Int32) (v3 : Int32), rc w v2 v3 = some w' → WP p l e (rmk 2) s m [.ref (ad 9 0), .int x1].toArray below meth c D ca ad PL A (MQ below (qcR D ca ad PL Z A w' none) [.ref (ad 9 0), .int x1].toArray s 0 0 A) 5 74 [] [(0, .ref (ad 9 0)), (2, .int v2), (3, .int v3)] w) (k : Mem → Int32 → Option (Mem)) (hk : ∀ (w : Mem) (v2 : Int32), k w v2 = some w' → WP p l e (rmk 2) s m [.ref (ad 9 0), .int x1].toArray below meth c D ca ad PL A (MQ below (qcR D ca ad PL Z A w' none) [.ref (ad 9 0), .int x1].toArray s 0 0 A) 5 141 [] [(0, .ref (ad 9 0)), (2, .int v2)] w) (w : Mem) (v2 : Int32) (v3 : Int32), f_X10_closes_135_74 rc k N w  v2 v3  = some w' → WP p l e (rmk 2) s m [.ref (ad 9 0), .int x1].toArray below meth c D ca ad PL A (MQ below (qcR D ca ad PL Z A w' none) [.ref (ad 9 0), .int x1].toArray s 0 0 A) 5 135 [] [(0, .ref (ad 9 0)), (2, .int v2), (3, .int v3)] w := by
    intro rc hrc k hk w v2 v3 hf _ _ ls hP hS hl
    unfold f_X10_closes_135_74 at hf
    refine lv_iinc (v := (v3 + (1 : Int32))) (lv' := [(3, .int (v3 + (1 : Int32))), (0, .ref (ad 9 0)), (2, .int v2)]) hx hb dX10_closes_135 hl (k := 2) rfl rfl (by decide) rfl (fun ls hl => ?_)
    refine lv_goto (tgt := 74) hx hb dX10_closes_138 (by decide) ?_
    exact hrc w v2 (v3 + (1 : Int32)) hf _ _ ls hP hS (lv_sub hl [1, 2, 0] rfl)
  have L_lp_X10_closes_85 : ∀ (v3 : Int32) (k : Mem → Int32 → Option (Mem)) (hk : ∀ (w : Mem) (v2 : Int32), k w v2 = some w' → WP p l e (rmk 2) s m [.ref (ad 9 0), .int x1].toArray below meth c D ca ad PL A (MQ below (qcR D ca ad PL Z A w' none) [.ref (ad 9 0), .int x1].toArray s 0 0 A) 5 135 [] [(0, .ref (ad 9 0)), (2, .int v2), (3, .int v3)] w) (n : Nat) (w : Mem) (v2 : Int32) (v4 : Int32), lp_X10_closes_85 k N   v3 n w v2 v4 = some w' → WP p l e (rmk 2) s m [.ref (ad 9 0), .int x1].toArray below meth c D ca ad PL A (MQ below (qcR D ca ad PL Z A w' none) [.ref (ad 9 0), .int x1].toArray s 0 0 A) 5 85 [] [(0, .ref (ad 9 0)), (2, .int v2), (3, .int v3), (4, .int v4)] w := by
    intro v3 k hk n
    induction n with
    | zero => intro w v2 v4 hf; rw [lp_X10_closes_85] at hf; cases hf
    | succ n ih =>
      intro w v2 v4 hf _ _ ls hP hS hl
      rw [lp_X10_closes_85] at hf
      refine lv_iload hx hb dX10_closes_85 (lv_at hl 3 rfl) ?_
      refine lv_iload_n hx hb dX10_closes_87 rfl (lv_at hl 2 rfl) ?_
      refine lv_icmp_ge (tgt := 135) hx hb dX10_closes_88 (by decide) (fun c14 => ?_) (fun c14 => ?_)
      · have hf := ifp hf c14
        exact hk w v2 hf _ _ ls hP hS (lv_sub hl [0, 1, 2] rfl)
      · have hf := ifn hf c14
        refine lv_aload_n hx hb dX10_closes_91 rfl (lv_at hl 0 rfl) ?_
        refine gt_10_7 (i := 0) C hP (hok.2.1 9 0 (Nat.le_of_ble_eq_true rfl)) lk_X10_25 dX10_closes_92 ?_
        refine lv_iload_n hx hb dX10_closes_95 rfl (lv_at hl 2 rfl) ?_
        obtain ⟨b6, hf⟩ := gsp hf
        refine ra_ild (k := 45) (i := 0) (n := 12) (f := (gA w 45 0)) C hP (hok.2.1 45 0 (Nat.le_of_ble_eq_true rfl)) rfl b6 dX10_closes_96 ?_
        refine lv_aload_n hx hb dX10_closes_97 rfl (lv_at hl 0 rfl) ?_
        refine gt_10_7 (i := 0) C hP (hok.2.1 9 0 (Nat.le_of_ble_eq_true rfl)) lk_X10_25 dX10_closes_98 ?_
        refine lv_iload hx hb dX10_closes_101 (lv_at hl 3 rfl) ?_
        obtain ⟨b7, hf⟩ := gsp hf
        refine ra_ild (k := 45) (i := 0) (n := 12) (f := (gA w 45 0)) C hP (hok.2.1 45 0 (Nat.le_of_ble_eq_true rfl)) rfl b7 dX10_closes_103 ?_
        refine lv_icmp_eq (tgt := 129) hx hb dX10_closes_104 (by decide) (fun c13 => ?_) (fun c13 => ?_)
        · have hf := ifp hf c13
          refine lv_iinc (v := (v4 + (1 : Int32))) (lv' := [(4, .int (v4 + (1 : Int32))), (0, .ref (ad 9 0)), (2, .int v2), (3, .int v3)]) hx hb dX10_closes_129 hl (k := 3) rfl rfl (by decide) rfl (fun ls hl => ?_)
          refine lv_goto (tgt := 85) hx hb dX10_closes_132 (by decide) ?_
          exact ih w v2 (v4 + (1 : Int32)) hf _ _ ls hP hS (lv_sub hl [1, 2, 3, 0] rfl)
        · have hf := ifn hf c13
          refine lv_aload_n hx hb dX10_closes_107 rfl (lv_at hl 0 rfl) ?_
          refine lv_iload_n hx hb dX10_closes_108 rfl (lv_at hl 2 rfl) ?_
          refine lv_iload hx hb dX10_closes_109 (lv_at hl 3 rfl) ?_
          obtain ⟨z8, q9, hf⟩ := bsp hf
          refine kc_V (ci := 9) (i := 0) (As := [.int v3, .int v4]) (rest := []) hok.2.2.1 C hP hS hl.1 (hok.2.1 9 0 (Nat.le_of_ble_eq_true rfl)) rfl rfl cw_X10_isAlike ml_X10_84 (c_X10_isAlike l D ca ad PL Z A hok N w v3 v4 z8 q9) rfl ⟨rfl, rfl⟩ ⟨Nat.le_of_ble_eq_true rfl, Nat.le_of_ble_eq_true rfl⟩ ⟨Nat.zero_le _, Nat.zero_le _⟩ (Nat.le_of_ble_eq_true rfl) rfl dX10_closes_111 (fun H locs hP hS => ?_)
          refine lv_if_ne (tgt := 120) hx hb dX10_closes_114 (by decide) (fun c12 => ?_) (fun c12 => ?_)
          · have hf := ifn hf c12
            refine lv_aload_n hx hb dX10_closes_120 rfl (lv_at hl 0 rfl) ?_
            refine lv_iload_n hx hb dX10_closes_121 rfl (lv_at hl 2 rfl) ?_
            refine lv_iload hx hb dX10_closes_122 (lv_at hl 3 rfl) ?_
            obtain ⟨z10, q11, hf⟩ := bsp hf
            refine kc_V (ci := 9) (i := 0) (As := [.int v3, .int v4]) (rest := []) hok.2.2.1 C hP hS hl.1 (hok.2.1 9 0 (Nat.le_of_ble_eq_true rfl)) rfl rfl cw_X10_unites ml_X10_80 (c_X10_unites l D ca ad PL Z A hok N w v3 v4 z10 q11) rfl ⟨rfl, rfl⟩ ⟨Nat.le_of_ble_eq_true rfl, Nat.le_of_ble_eq_true rfl⟩ ⟨Nat.zero_le _, Nat.zero_le _⟩ (Nat.le_of_ble_eq_true rfl) rfl dX10_closes_124 (fun H locs hP hS => ?_)
            refine lv_iconst (v := (1 : Int32)) hx hb dX10_closes_127 (by decide) ?_
            refine lv_istore_n (lv' := [(2, .int (1 : Int32)), (0, .ref (ad 9 0)), (3, .int v3), (4, .int v4)]) hx hb dX10_closes_128 rfl hl (by decide) rfl (fun ls hl => ?_)
            refine lv_iinc (v := (v4 + (1 : Int32))) (lv' := [(4, .int (v4 + (1 : Int32))), (2, .int (1 : Int32)), (0, .ref (ad 9 0)), (3, .int v3)]) hx hb dX10_closes_129 hl (k := 3) rfl rfl (by decide) rfl (fun ls hl => ?_)
            refine lv_goto (tgt := 85) hx hb dX10_closes_132 (by decide) ?_
            exact ih z10 (1 : Int32) (v4 + (1 : Int32)) hf _ _ ls hP hS (lv_sub hl [2, 1, 3, 0] rfl)
          · have hf := ifp hf c12
            refine lv_goto (tgt := 129) hx hb dX10_closes_117 (by decide) ?_
            refine lv_iinc (v := (v4 + (1 : Int32))) (lv' := [(4, .int (v4 + (1 : Int32))), (0, .ref (ad 9 0)), (2, .int v2), (3, .int v3)]) hx hb dX10_closes_129 hl (k := 3) rfl rfl (by decide) rfl (fun ls hl => ?_)
            refine lv_goto (tgt := 85) hx hb dX10_closes_132 (by decide) ?_
            exact ih w v2 (v4 + (1 : Int32)) hf _ _ ls hP hS (lv_sub hl [1, 2, 3, 0] rfl)
  have L_lp_X10_closes_74 : ∀ (k : Mem → Int32 → Option (Mem)) (hk : ∀ (w : Mem) (v2 : Int32), k w v2 = some w' → WP p l e (rmk 2) s m [.ref (ad 9 0), .int x1].toArray below meth c D ca ad PL A (MQ below (qcR D ca ad PL Z A w' none) [.ref (ad 9 0), .int x1].toArray s 0 0 A) 5 141 [] [(0, .ref (ad 9 0)), (2, .int v2)] w) (n : Nat) (w : Mem) (v2 : Int32) (v3 : Int32), lp_X10_closes_74 k N    n w v2 v3 = some w' → WP p l e (rmk 2) s m [.ref (ad 9 0), .int x1].toArray below meth c D ca ad PL A (MQ below (qcR D ca ad PL Z A w' none) [.ref (ad 9 0), .int x1].toArray s 0 0 A) 5 74 [] [(0, .ref (ad 9 0)), (2, .int v2), (3, .int v3)] w := by
    intro k hk n
    induction n with
    | zero => intro w v2 v3 hf; rw [lp_X10_closes_74] at hf; cases hf
    | succ n ih =>
      intro w v2 v3 hf _ _ ls hP hS hl
      rw [lp_X10_closes_74] at hf
      refine lv_iload_n hx hb dX10_closes_74 rfl (lv_at hl 2 rfl) ?_
      refine lv_aload_n hx hb dX10_closes_75 rfl (lv_at hl 0 rfl) ?_
      refine gt_10_5 (i := 0) C hP (hok.2.1 9 0 (Nat.le_of_ble_eq_true rfl)) lk_X10_62 dX10_closes_76 ?_
      refine lv_icmp_ge (tgt := 141) hx hb dX10_closes_79 (by decide) (fun c15 => ?_) (fun c15 => ?_)
      · have hf := ifp hf c15
        exact hk w v2 hf _ _ ls hP hS (lv_sub hl [0, 1] rfl)
      · have hf := ifn hf c15
        refine lv_iconst (v := (0 : Int32)) hx hb dX10_closes_82 (by decide) ?_
        refine lv_istore (lv' := [(4, .int (0 : Int32)), (0, .ref (ad 9 0)), (2, .int v2), (3, .int v3)]) hx hb dX10_closes_83 hl (by decide) rfl (fun ls hl => ?_)
        exact L_lp_X10_closes_85 v3 _ (fun w_5 u2_5 hf H locs ls hP hS hl => P_f_X10_closes_135_74 _ ih _ hk w_5 u2_5 v3 hf _ _ ls hP hS (lv_sub hl [0, 1, 2] rfl)) N w v2 (0 : Int32) hf _ _ ls hP hS (lv_sub hl [1, 2, 3, 0] rfl)
  have L_lp_X10_closes_66 : ∀ (k : Mem → Option (Mem)) (hk : ∀ (w : Mem), k w = some w' → WP p l e (rmk 2) s m [.ref (ad 9 0), .int x1].toArray below meth c D ca ad PL A (MQ below (qcR D ca ad PL Z A w' none) [.ref (ad 9 0), .int x1].toArray s 0 0 A) 5 144 [] [] w) (n : Nat) (w : Mem) (v2 : Int32), lp_X10_closes_66 k N    n w v2 = some w' → WP p l e (rmk 2) s m [.ref (ad 9 0), .int x1].toArray below meth c D ca ad PL A (MQ below (qcR D ca ad PL Z A w' none) [.ref (ad 9 0), .int x1].toArray s 0 0 A) 5 66 [] [(0, .ref (ad 9 0)), (2, .int v2)] w := by
    intro k hk n
    induction n with
    | zero => intro w v2 hf; rw [lp_X10_closes_66] at hf; cases hf
    | succ n ih =>
      intro w v2 hf _ _ ls hP hS hl
      rw [lp_X10_closes_66] at hf
      refine lv_iload_n hx hb dX10_closes_66 rfl (lv_at hl 1 rfl) ?_
      refine lv_if_eq (tgt := 144) hx hb dX10_closes_67 (by decide) (fun c16 => ?_) (fun c16 => ?_)
      · have hf := ifp hf c16
        exact hk w hf _ _ ls hP hS (lv_sub hl [] rfl)
      · have hf := ifn hf c16
        refine lv_iconst (v := (0 : Int32)) hx hb dX10_closes_70 (by decide) ?_
        refine lv_istore_n (lv' := [(2, .int (0 : Int32)), (0, .ref (ad 9 0))]) hx hb dX10_closes_71 rfl hl (by decide) rfl (fun ls hl => ?_)
        refine lv_iconst (v := (0 : Int32)) hx hb dX10_closes_72 (by decide) ?_
        refine lv_istore_n (lv' := [(3, .int (0 : Int32)), (2, .int (0 : Int32)), (0, .ref (ad 9 0))]) hx hb dX10_closes_73 rfl hl (by decide) rfl (fun ls hl => ?_)
        exact L_lp_X10_closes_74 _ (fun w_4 u2_4 hf H locs ls hP hS hl => P_f_X10_closes_141_66 _ ih _ hk w_4 u2_4 hf _ _ ls hP hS (lv_sub hl [0, 1] rfl)) N w (0 : Int32) (0 : Int32) hf _ _ ls hP hS (lv_sub hl [2, 1, 0] rfl)
  have P_f_X10_closes_64 : ∀ (w : Mem), f_X10_closes_64 N w    = some w' → WP p l e (rmk 2) s m [.ref (ad 9 0), .int x1].toArray below meth c D ca ad PL A (MQ below (qcR D ca ad PL Z A w' none) [.ref (ad 9 0), .int x1].toArray s 0 0 A) 5 64 [] [(0, .ref (ad 9 0))] w := by
    intro w hf _ _ ls hP hS hl
    unfold f_X10_closes_64 at hf
    refine lv_iconst (v := (1 : Int32)) hx hb dX10_closes_64 (by decide) ?_
    refine lv_istore_n (lv' := [(2, .int (1 : Int32)), (0, .ref (ad 9 0))]) hx hb dX10_closes_65 rfl hl (by decide) rfl (fun ls hl => ?_)
    exact L_lp_X10_closes_66 _ (fun w_3 hf H locs ls hP hS hl => P_f_X10_closes_144 w_3 hf _ _ ls hP hS (lv_sub hl [] rfl)) N w (1 : Int32) hf _ _ ls hP hS (lv_sub hl [1, 0] rfl)
  have L_lp_X10_closes_25 : ∀ (v1 : Int32) (k : Mem → Option (Mem)) (hk : ∀ (w : Mem), k w = some w' → WP p l e (rmk 2) s m [.ref (ad 9 0), .int x1].toArray below meth c D ca ad PL A (MQ below (qcR D ca ad PL Z A w' none) [.ref (ad 9 0), .int x1].toArray s 0 0 A) 5 64 [] [(0, .ref (ad 9 0))] w) (n : Nat) (w : Mem) (v2 : Int32), lp_X10_closes_25 k N   v1 n w v2 = some w' → WP p l e (rmk 2) s m [.ref (ad 9 0), .int x1].toArray below meth c D ca ad PL A (MQ below (qcR D ca ad PL Z A w' none) [.ref (ad 9 0), .int x1].toArray s 0 0 A) 5 25 [] [(0, .ref (ad 9 0)), (1, .int v1), (2, .int v2)] w := by
    intro v1 k hk n
    induction n with
    | zero => intro w v2 hf; rw [lp_X10_closes_25] at hf; cases hf
    | succ n ih =>
      intro w v2 hf _ _ ls hP hS hl
      rw [lp_X10_closes_25] at hf
      refine lv_iload_n hx hb dX10_closes_25 rfl (lv_at hl 2 rfl) ?_
      refine lv_aload_n hx hb dX10_closes_26 rfl (lv_at hl 0 rfl) ?_
      refine gt_10_6 (i := 0) C hP (hok.2.1 9 0 (Nat.le_of_ble_eq_true rfl)) lk_X10_66 dX10_closes_27 ?_
      refine lv_icmp_ge (tgt := 64) hx hb dX10_closes_30 (by decide) (fun c21 => ?_) (fun c21 => ?_)
      · have hf := ifp hf c21
        exact hk w hf _ _ ls hP hS (lv_sub hl [0] rfl)
      · have hf := ifn hf c21
        refine lv_iload_n hx hb dX10_closes_33 rfl (lv_at hl 1 rfl) ?_
        refine lv_iload_n hx hb dX10_closes_34 rfl (lv_at hl 2 rfl) ?_
        refine lv_ishr hx hb dX10_closes_35 ?_
        refine lv_iconst (v := (1 : Int32)) hx hb dX10_closes_36 (by decide) ?_
        refine lv_iand hx hb dX10_closes_37 ?_
        refine lv_iconst (v := (1 : Int32)) hx hb dX10_closes_38 (by decide) ?_
        refine lv_icmp_ne (tgt := 58) hx hb dX10_closes_39 (by decide) (fun c20 => ?_) (fun c20 => ?_)
        · have hf := ifn hf c20
          refine lv_iinc (v := (v2 + (1 : Int32))) (lv' := [(2, .int (v2 + (1 : Int32))), (0, .ref (ad 9 0)), (1, .int v1)]) hx hb dX10_closes_58 hl (k := 2) rfl rfl (by decide) rfl (fun ls hl => ?_)
          refine lv_goto (tgt := 25) hx hb dX10_closes_61 (by decide) ?_
          exact ih w (v2 + (1 : Int32)) hf _ _ ls hP hS (lv_sub hl [1, 2, 0] rfl)
        · have hf := ifp hf c20
          refine lv_aload_n hx hb dX10_closes_42 rfl (lv_at hl 0 rfl) ?_
          refine lv_aload_n hx hb dX10_closes_43 rfl (lv_at hl 0 rfl) ?_
          refine gt_10_3 (i := 0) C hP (hok.2.1 9 0 (Nat.le_of_ble_eq_true rfl)) lk_X10_19 dX10_closes_44 ?_
          refine lv_iload_n hx hb dX10_closes_47 rfl (lv_at hl 2 rfl) ?_
          obtain ⟨b17, hf⟩ := gsp hf
          refine ra_ild (k := 43) (i := 0) (n := 12) (f := (gA w 43 0)) C hP (hok.2.1 43 0 (Nat.le_of_ble_eq_true rfl)) rfl b17 dX10_closes_48 ?_
          refine lv_aload_n hx hb dX10_closes_49 rfl (lv_at hl 0 rfl) ?_
          refine gt_10_4 (i := 0) C hP (hok.2.1 9 0 (Nat.le_of_ble_eq_true rfl)) lk_X10_22 dX10_closes_50 ?_
          refine lv_iload_n hx hb dX10_closes_53 rfl (lv_at hl 2 rfl) ?_
          refine ra_ild (k := 44) (i := 0) (n := 12) (f := (gA w 44 0)) C hP (hok.2.1 44 0 (Nat.le_of_ble_eq_true rfl)) rfl b17 dX10_closes_54 ?_
          obtain ⟨z18, q19, hf⟩ := bsp hf
          refine kc_V (ci := 9) (i := 0) (As := [.int (gA w 43 0 v2.toNatClampNeg), .int (gA w 44 0 v2.toNatClampNeg)]) (rest := []) hok.2.2.1 C hP hS hl.1 (hok.2.1 9 0 (Nat.le_of_ble_eq_true rfl)) rfl rfl cw_X10_unites ml_X10_80 (c_X10_unites l D ca ad PL Z A hok N w (gA w 43 0 v2.toNatClampNeg) (gA w 44 0 v2.toNatClampNeg) z18 q19) rfl ⟨rfl, rfl⟩ ⟨Nat.le_of_ble_eq_true rfl, Nat.le_of_ble_eq_true rfl⟩ ⟨Nat.zero_le _, Nat.zero_le _⟩ (Nat.le_of_ble_eq_true rfl) rfl dX10_closes_55 (fun H locs hP hS => ?_)
          refine lv_iinc (v := (v2 + (1 : Int32))) (lv' := [(2, .int (v2 + (1 : Int32))), (0, .ref (ad 9 0)), (1, .int v1)]) hx hb dX10_closes_58 hl (k := 2) rfl rfl (by decide) rfl (fun ls hl => ?_)
          refine lv_goto (tgt := 25) hx hb dX10_closes_61 (by decide) ?_
          exact ih z18 (v2 + (1 : Int32)) hf _ _ ls hP hS (lv_sub hl [1, 2, 0] rfl)
  have P_f_X10_closes_23 : ∀ (w : Mem) (v1 : Int32), f_X10_closes_23 N w  v1  = some w' → WP p l e (rmk 2) s m [.ref (ad 9 0), .int x1].toArray below meth c D ca ad PL A (MQ below (qcR D ca ad PL Z A w' none) [.ref (ad 9 0), .int x1].toArray s 0 0 A) 5 23 [] [(0, .ref (ad 9 0)), (1, .int v1)] w := by
    intro w v1 hf _ _ ls hP hS hl
    unfold f_X10_closes_23 at hf
    refine lv_iconst (v := (0 : Int32)) hx hb dX10_closes_23 (by decide) ?_
    refine lv_istore_n (lv' := [(2, .int (0 : Int32)), (0, .ref (ad 9 0)), (1, .int v1)]) hx hb dX10_closes_24 rfl hl (by decide) rfl (fun ls hl => ?_)
    exact L_lp_X10_closes_25 v1 _ (fun w_2 hf H locs ls hP hS hl => P_f_X10_closes_64 w_2 hf _ _ ls hP hS (lv_sub hl [0] rfl)) N w (0 : Int32) hf _ _ ls hP hS (lv_sub hl [1, 2, 0] rfl)
  have L_lp_X10_closes_2 : ∀ (v1 : Int32) (k : Mem → Option (Mem)) (hk : ∀ (w : Mem), k w = some w' → WP p l e (rmk 2) s m [.ref (ad 9 0), .int x1].toArray below meth c D ca ad PL A (MQ below (qcR D ca ad PL Z A w' none) [.ref (ad 9 0), .int x1].toArray s 0 0 A) 5 23 [] [(0, .ref (ad 9 0)), (1, .int v1)] w) (n : Nat) (w : Mem) (v2 : Int32), lp_X10_closes_2 k N   v1 n w v2 = some w' → WP p l e (rmk 2) s m [.ref (ad 9 0), .int x1].toArray below meth c D ca ad PL A (MQ below (qcR D ca ad PL Z A w' none) [.ref (ad 9 0), .int x1].toArray s 0 0 A) 5 2 [] [(0, .ref (ad 9 0)), (1, .int v1), (2, .int v2)] w := by
    intro v1 k hk n
    induction n with
    | zero => intro w v2 hf; rw [lp_X10_closes_2] at hf; cases hf
    | succ n ih =>
      intro w v2 hf _ _ ls hP hS hl
      rw [lp_X10_closes_2] at hf
      refine lv_iload_n hx hb dX10_closes_2 rfl (lv_at hl 2 rfl) ?_
      refine lv_aload_n hx hb dX10_closes_3 rfl (lv_at hl 0 rfl) ?_
      refine gt_10_5 (i := 0) C hP (hok.2.1 9 0 (Nat.le_of_ble_eq_true rfl)) lk_X10_62 dX10_closes_4 ?_
      refine lv_icmp_ge (tgt := 23) hx hb dX10_closes_7 (by decide) (fun c23 => ?_) (fun c23 => ?_)
      · have hf := ifp hf c23
        exact hk w hf _ _ ls hP hS (lv_sub hl [0, 1] rfl)
      · have hf := ifn hf c23
        refine lv_aload_n hx hb dX10_closes_10 rfl (lv_at hl 0 rfl) ?_
        refine gt_10_7 (i := 0) C hP (hok.2.1 9 0 (Nat.le_of_ble_eq_true rfl)) lk_X10_25 dX10_closes_11 ?_
        refine lv_iload_n hx hb dX10_closes_14 rfl (lv_at hl 2 rfl) ?_
        refine lv_iload_n hx hb dX10_closes_15 rfl (lv_at hl 2 rfl) ?_
        obtain ⟨b22, hf⟩ := gsp hf
        refine ra_ist (k := 45) (i := 0) (n := 12) C hok.1 hP hS (hok.2.1 45 0 (Nat.le_of_ble_eq_true rfl)) (fun _ => rfl) b22 dX10_closes_16 (fun H locs hP hS => ?_)
        refine lv_iinc (v := (v2 + (1 : Int32))) (lv' := [(2, .int (v2 + (1 : Int32))), (0, .ref (ad 9 0)), (1, .int v1)]) hx hb dX10_closes_17 hl (k := 2) rfl rfl (by decide) rfl (fun ls hl => ?_)
        refine lv_goto (tgt := 2) hx hb dX10_closes_20 (by decide) ?_
        exact ih (sA w 45 0 v2.toNatClampNeg v2) (v2 + (1 : Int32)) hf _ _ ls hP hS (lv_sub hl [1, 2, 0] rfl)
  unfold f_X10_closes at hf
  -- walk
  refine lv_iconst (v := (0 : Int32)) hx hb dX10_closes_0 (by decide) ?_
  refine lv_istore_n (lv' := [(2, .int (0 : Int32)), (0, .ref (ad 9 0)), (1, .int x1)]) hx hb dX10_closes_1 rfl hl (by decide) rfl (fun ls hl => ?_)
  exact L_lp_X10_closes_2 x1 _ (fun w_1 hf H locs ls hP hS hl => P_f_X10_closes_23 w_1 x1 hf _ _ ls hP hS (lv_sub hl [0, 1] rfl)) N w (0 : Int32) hf _ _ ls hP hS (lv_sub hl [1, 2, 0] rfl)
