def f_X0_least (N : Nat) (w : Mem) (x1 : Int32) (x2 : Int32) : Option (Int32) :=
  (if inb ((x1 * (24 : Int32)) + x2) 576 = true then some (gA w 10 0 ((x1 * (24 : Int32)) + x2).toNatClampNeg) else none)
set_option maxRecDepth 100000 in
set_option maxHeartbeats 4000000 in
theorem c_X0_least (l : Launch) (D : va_G) (ca : Nat → ClassId) (ad : Nat → Nat → Nat) (PL : List (Nat × Nat)) (Z : State → Prop) (A : Nat → Prop) (hok : okc bX Z A ad PL) (N : Nat) (w : Mem) (x1 : Int32) (x2 : Int32) (r : Int32) (hf : f_X0_least N w x1 x2 = some r) : CT l yX0_least (wsy yX0_least cX0_least 3 (some .int)) (rmk 0) D ca ad PL Z A [.ref (ad 0 0), .int x1, .int x2] w w (some (.int r)) := by
  refine Met.ofW (cc := cX0_least) (maxL := 3) (ret := (some .int)) (by decide +kernel) rfl ?_
  intro p e s m args below meth c s₁ B hml hv
  obtain ⟨rfl, hP, hK, hZ⟩ := hv
  have hx := B.exec
  have hb := B.bytes
  have hr := B.returns
  have hlocks := B.notSynchronized
  have hts : ∀ w ∈ ALL, w.before _ s = true := fun w hw => atoms_spec (ws := wsy yX0_least cX0_least 3 (some .int)) B.pre w (List.mem_cons_of_mem _ hw)
  have hown : s.vm.findClass RX0 = some m.cls := findClass_of_methodNamed B.named
  have C : CX p s m _ c cX0_least RX0 3 D ca Z := ⟨hx, hb, hml, hown, hts, hK, hZ⟩
  have hS : va_S A s.heap s.heap [] := va_S.rf
  have hl := lv_entry ([.ref (ad 0 0), .int x1, .int x2]) (n := 3) (Nat.le_of_ble_eq_true rfl)
  rw [lg_entry_eq]
  generalize (lg_sl ([.ref (ad 0 0), .int x1, .int x2]) ++ List.replicate (3 - (lg_sl ([.ref (ad 0 0), .int x1, .int x2])).length) Slot.unset).toArray = ls at hl ⊢
  have hl : lv_has ls 3 [(0, .ref (ad 0 0)), (1, .int x1), (2, .int x2)] := hl
  show W p l e (rmk 0) s m _ below meth c s.heap [] 0 0 _ _
  unfold f_X0_least at hf
  -- walk
  refine lv_aload_n hx hb dX0_least_0 rfl (lv_at hl 0 rfl) ?_
  refine gt_0_0 (i := 0) C hP (hok.2.1 0 0 (Nat.le_of_ble_eq_true rfl)) lk_X0_9 dX0_least_1 ?_
  refine lv_iload_n hx hb dX0_least_4 rfl (lv_at hl 1 rfl) ?_
  refine lv_bipush (v := (24 : Int32)) hx hb dX0_least_5 (by decide) ?_
  refine lv_imul hx hb dX0_least_7 ?_
  refine lv_iload_n hx hb dX0_least_8 rfl (lv_at hl 2 rfl) ?_
  refine lv_iadd hx hb dX0_least_9 ?_
  obtain ⟨b1, hf⟩ := gsp hf
  refine ra_ild (k := 10) (i := 0) (n := 576) (f := (gA w 10 0)) C hP (hok.2.1 10 0 (Nat.le_of_ble_eq_true rfl)) rfl b1 dX0_least_10 ?_
  exact kr_i hok.2.2.1 C hlocks hr rfl hP hS rfl (Option.some.inj hf) dX0_least_11
def f_X0_plus (N : Nat) (w : Mem) (x1 : Int32) (x2 : Int32) : Option (Int32) :=
  some (if (x1 + x2) < (1000000000 : Int32) then (x1 + x2) else (1000000000 : Int32))
set_option maxRecDepth 100000 in
set_option maxHeartbeats 4000000 in
theorem c_X0_plus (l : Launch) (D : va_G) (ca : Nat → ClassId) (ad : Nat → Nat → Nat) (PL : List (Nat × Nat)) (Z : State → Prop) (A : Nat → Prop) (hok : okc bX Z A ad PL) (N : Nat) (w : Mem) (x1 : Int32) (x2 : Int32) (r : Int32) (hf : f_X0_plus N w x1 x2 = some r) : CT l yX0_plus (wsy yX0_plus cX0_plus 3 (some .int)) (rmk 1) D ca ad PL Z A [.ref (ad 0 0), .int x1, .int x2] w w (some (.int r)) := by
  refine Met.ofW (cc := cX0_plus) (maxL := 3) (ret := (some .int)) (by decide +kernel) rfl ?_
  intro p e s m args below meth c s₁ B hml hv
  obtain ⟨rfl, hP, hK, hZ⟩ := hv
  have hx := B.exec
  have hb := B.bytes
  have hr := B.returns
  have hlocks := B.notSynchronized
  have hts : ∀ w ∈ ALL, w.before _ s = true := fun w hw => atoms_spec (ws := wsy yX0_plus cX0_plus 3 (some .int)) B.pre w (List.mem_cons_of_mem _ hw)
  have hown : s.vm.findClass RX0 = some m.cls := findClass_of_methodNamed B.named
  have C : CX p s m _ c cX0_plus RX0 3 D ca Z := ⟨hx, hb, hml, hown, hts, hK, hZ⟩
  have hS : va_S A s.heap s.heap [] := va_S.rf
  have hl := lv_entry ([.ref (ad 0 0), .int x1, .int x2]) (n := 3) (Nat.le_of_ble_eq_true rfl)
  rw [lg_entry_eq]
  generalize (lg_sl ([.ref (ad 0 0), .int x1, .int x2]) ++ List.replicate (3 - (lg_sl ([.ref (ad 0 0), .int x1, .int x2])).length) Slot.unset).toArray = ls at hl ⊢
  have hl : lv_has ls 3 [(0, .ref (ad 0 0)), (1, .int x1), (2, .int x2)] := hl
  show W p l e (rmk 1) s m _ below meth c s.heap [] 0 0 _ _
  unfold f_X0_plus at hf
  -- walk
  refine lv_ldc (v := (1000000000 : Int32)) hx hb hown (hts _ kc_X0_39) dX0_plus_0 ?_
  refine lv_iload_n hx hb dX0_plus_2 rfl (lv_at hl 1 rfl) ?_
  refine lv_iload_n hx hb dX0_plus_3 rfl (lv_at hl 2 rfl) ?_
  refine lv_iadd hx hb dX0_plus_4 ?_
  refine km_min C hl.1 ml_X0_98 ⟨Nat.le_of_ble_eq_true rfl, Nat.le_of_ble_eq_true rfl⟩ ⟨Nat.zero_le _, Nat.zero_le _⟩ dX0_plus_5 ?_
  exact kr_i hok.2.2.1 C hlocks hr rfl hP hS rfl (Option.some.inj hf) dX0_plus_8
def f_X0_lay_133 (N : Nat) (w : Mem)  : Option (Mem × Int32) :=
  some (w, (1 : Int32))
def f_X0_lay_127_15 (rc : Mem → Int32 → Option (Mem × Int32)) (k : Mem → Option (Mem × Int32)) (N : Nat) (w : Mem)  (v1 : Int32) (v2 : Int32) (v3 : Int32) (v4 : Int32) : Option (Mem × Int32) :=
  (rc w (v4 + (1 : Int32)))
def lp_X0_lay_55 (k : Mem → Option (Mem × Int32)) (N : Nat)  (v1 : Int32) (v2 : Int32) (v3 : Int32) (v4 : Int32) (v5 : Int32) (v6 : Int32) : Nat → Mem → Int32 → Option (Mem × Int32)
  | 0, _, _ => none
  | n + 1, w, v7 => (if (gF w 0 3 0) ≤ v7 then
(k w)
else
(Option.bind (f_X0_least N w v2 v7) (fun z13 => (Option.bind (f_X0_plus N w v5 z13) (fun z15 => (Option.bind (f_X0_least N w v1 v7) (fun z17 => (Option.bind (f_X0_plus N w v6 z17) (fun z19 => (Option.bind (f_X0_least N w v4 v7) (fun z21 => (if inb ((v4 * (24 : Int32)) + v7) 576 = true then (lp_X0_lay_55 k N   v1 v2 v3 v4 v5 v6 n (sA w 10 0 ((v4 * (24 : Int32)) + v7).toNatClampNeg (if (if z19 < z15 then z19 else z15) < z21 then (if z19 < z15 then z19 else z15) else z21)) (v7 + (1 : Int32))) else none))))))))))))
def lp_X0_lay_15 (k : Mem → Option (Mem × Int32)) (N : Nat)  (v1 : Int32) (v2 : Int32) (v3 : Int32) : Nat → Mem → Int32 → Option (Mem × Int32)
  | 0, _, _ => none
  | n + 1, w, v4 => (if (gF w 0 3 0) ≤ v4 then
(k w)
else
(Option.bind (f_X0_least N w v4 v1) (fun z4 => (Option.bind (f_X0_plus N w z4 v3) (fun z6 => (Option.bind (f_X0_least N w v4 v2) (fun z8 => (Option.bind (f_X0_plus N w z8 v3) (fun z10 => (lp_X0_lay_55 (fun (w_12 : Mem) => (f_X0_lay_127_15 (fun (w : Mem) (v4 : Int32) => lp_X0_lay_15 k N   v1 v2 v3 n w v4) k N w_12  v1 v2 v3 v4 )) N   v1 v2 v3 v4 z6 z10 N w (0 : Int32)))))))))))
def f_X0_lay (N : Nat) (w : Mem) (x1 : Int32) (x2 : Int32) (x3 : Int32) : Option (Mem × Int32) :=
  (Option.bind (f_X0_least N w x1 x2) (fun z1 => (if x3 < z1 then
(lp_X0_lay_15 (fun (w_3 : Mem) => (f_X0_lay_133 N w_3   )) N   x1 x2 x3 N w (0 : Int32))
else
some (w, (0 : Int32)))))
set_option maxRecDepth 100000 in
set_option maxHeartbeats 4000000 in
theorem c_X0_lay (l : Launch) (D : va_G) (ca : Nat → ClassId) (ad : Nat → Nat → Nat) (PL : List (Nat × Nat)) (Z : State → Prop) (A : Nat → Prop) (hok : okc bX Z A ad PL) (N : Nat) (w : Mem) (x1 : Int32) (x2 : Int32) (x3 : Int32) (w' : Mem) (r : Int32) (hf : f_X0_lay N w x1 x2 x3 = some (w', r)) : CT l yX0_lay (wsy yX0_lay cX0_lay 9 (some .boolean)) (rmk 2) D ca ad PL Z A [.ref (ad 0 0), .int x1, .int x2, .int x3] w w' (some (.int r)) := by
  refine Met.ofW (cc := cX0_lay) (maxL := 9) (ret := (some .boolean)) (by decide +kernel) rfl ?_
  intro p e s m args below meth c s₁ B hml hv
  obtain ⟨rfl, hP, hK, hZ⟩ := hv
  have hx := B.exec
  have hb := B.bytes
  have hr := B.returns
  have hlocks := B.notSynchronized
  have hts : ∀ w ∈ ALL, w.before _ s = true := fun w hw => atoms_spec (ws := wsy yX0_lay cX0_lay 9 (some .boolean)) B.pre w (List.mem_cons_of_mem _ hw)
  have hown : s.vm.findClass RX0 = some m.cls := findClass_of_methodNamed B.named
  have C : CX p s m _ c cX0_lay RX0 9 D ca Z := ⟨hx, hb, hml, hown, hts, hK, hZ⟩
  have hS : va_S A s.heap s.heap [] := va_S.rf
  have hl := lv_entry ([.ref (ad 0 0), .int x1, .int x2, .int x3]) (n := 9) (Nat.le_of_ble_eq_true rfl)
  rw [lg_entry_eq]
  generalize (lg_sl ([.ref (ad 0 0), .int x1, .int x2, .int x3]) ++ List.replicate (9 - (lg_sl ([.ref (ad 0 0), .int x1, .int x2, .int x3])).length) Slot.unset).toArray = ls at hl ⊢
  have hl : lv_has ls 9 [(0, .ref (ad 0 0)), (1, .int x1), (2, .int x2), (3, .int x3)] := hl
  show W p l e (rmk 2) s m _ below meth c s.heap [] 0 0 _ _
  have P_f_X0_lay_133 : ∀ (w : Mem), f_X0_lay_133 N w    = some (w', r) → WP p l e (rmk 2) s m [.ref (ad 0 0), .int x1, .int x2, .int x3].toArray below meth c D ca ad PL A (MQ below (qcR D ca ad PL Z A w' (some (.int r))) [.ref (ad 0 0), .int x1, .int x2, .int x3].toArray s 0 0 A) 9 133 [] [] w := by
    intro w hf _ _ ls hP hS hl
    unfold f_X0_lay_133 at hf
    refine lv_iconst (v := (1 : Int32)) hx hb dX0_lay_133 (by decide) ?_
    exact kr_i hok.2.2.1 C hlocks hr rfl hP hS (congrArg Prod.fst (Option.some.inj hf)) (congrArg Prod.snd (Option.some.inj hf)) dX0_lay_134
  have P_f_X0_lay_127_15 : ∀ (v1 : Int32) (v2 : Int32) (v3 : Int32) (rc : Mem → Int32 → Option (Mem × Int32)) (hrc : ∀ (w : Mem) (v4 : Int32), rc w v4 = some (w', r) → WP p l e (rmk 2) s m [.ref (ad 0 0), .int x1, .int x2, .int x3].toArray below meth c D ca ad PL A (MQ below (qcR D ca ad PL Z A w' (some (.int r))) [.ref (ad 0 0), .int x1, .int x2, .int x3].toArray s 0 0 A) 9 15 [] [(0, .ref (ad 0 0)), (1, .int v1), (2, .int v2), (3, .int v3), (4, .int v4)] w) (k : Mem → Option (Mem × Int32)) (hk : ∀ (w : Mem), k w = some (w', r) → WP p l e (rmk 2) s m [.ref (ad 0 0), .int x1, .int x2, .int x3].toArray below meth c D ca ad PL A (MQ below (qcR D ca ad PL Z A w' (some (.int r))) [.ref (ad 0 0), .int x1, .int x2, .int x3].toArray s 0 0 A) 9 133 [] [] w) (w : Mem) (v4 : Int32), f_X0_lay_127_15 rc k N w  v1 v2 v3 v4  = some (w', r) → WP p l e (rmk 2) s m [.ref (ad 0 0), .int x1, .int x2, .int x3].toArray below meth c D ca ad PL A (MQ below (qcR D ca ad PL Z A w' (some (.int r))) [.ref (ad 0 0), .int x1, .int x2, .int x3].toArray s 0 0 A) 9 127 [] [(0, .ref (ad 0 0)), (1, .int v1), (2, .int v2), (3, .int v3), (4, .int v4)] w := by
    intro v1 v2 v3 rc hrc k hk w v4 hf _ _ ls hP hS hl
    unfold f_X0_lay_127_15 at hf
    refine lv_iinc (v := (v4 + (1 : Int32))) (lv' := [(4, .int (v4 + (1 : Int32))), (0, .ref (ad 0 0)), (1, .int v1), (2, .int v2), (3, .int v3)]) hx hb dX0_lay_127 hl (k := 4) rfl rfl (by decide) rfl (fun ls hl => ?_)
    refine lv_goto (tgt := 15) hx hb dX0_lay_130 (by decide) ?_
    exact hrc w (v4 + (1 : Int32)) hf _ _ ls hP hS (lv_sub hl [1, 2, 3, 4, 0] rfl)
  have L_lp_X0_lay_55 : ∀ (v1 : Int32) (v2 : Int32) (v3 : Int32) (v4 : Int32) (v5 : Int32) (v6 : Int32) (k : Mem → Option (Mem × Int32)) (hk : ∀ (w : Mem), k w = some (w', r) → WP p l e (rmk 2) s m [.ref (ad 0 0), .int x1, .int x2, .int x3].toArray below meth c D ca ad PL A (MQ below (qcR D ca ad PL Z A w' (some (.int r))) [.ref (ad 0 0), .int x1, .int x2, .int x3].toArray s 0 0 A) 9 127 [] [(0, .ref (ad 0 0)), (1, .int v1), (2, .int v2), (3, .int v3), (4, .int v4)] w) (n : Nat) (w : Mem) (v7 : Int32), lp_X0_lay_55 k N   v1 v2 v3 v4 v5 v6 n w v7 = some (w', r) → WP p l e (rmk 2) s m [.ref (ad 0 0), .int x1, .int x2, .int x3].toArray below meth c D ca ad PL A (MQ below (qcR D ca ad PL Z A w' (some (.int r))) [.ref (ad 0 0), .int x1, .int x2, .int x3].toArray s 0 0 A) 9 55 [] [(0, .ref (ad 0 0)), (1, .int v1), (2, .int v2), (3, .int v3), (4, .int v4), (5, .int v5), (6, .int v6), (7, .int v7)] w := by
    intro v1 v2 v3 v4 v5 v6 k hk n
    induction n with
    | zero => intro w v7 hf; rw [lp_X0_lay_55] at hf; cases hf
    | succ n ih =>
      intro w v7 hf _ _ ls hP hS hl
      rw [lp_X0_lay_55] at hf
      refine lv_iload hx hb dX0_lay_55 (lv_at hl 7 rfl) ?_
      refine lv_aload_n hx hb dX0_lay_57 rfl (lv_at hl 0 rfl) ?_
      refine gt_0_3 (i := 0) C hP (hok.2.1 0 0 (Nat.le_of_ble_eq_true rfl)) lk_X0_37 dX0_lay_58 ?_
      refine lv_icmp_ge (tgt := 127) hx hb dX0_lay_61 (by decide) (fun c24 => ?_) (fun c24 => ?_)
      · have hf := ifp hf c24
        exact hk w hf _ _ ls hP hS (lv_sub hl [0, 1, 2, 3, 4] rfl)
      · have hf := ifn hf c24
        refine lv_aload_n hx hb dX0_lay_64 rfl (lv_at hl 0 rfl) ?_
        refine lv_iload hx hb dX0_lay_65 (lv_at hl 5 rfl) ?_
        refine lv_aload_n hx hb dX0_lay_67 rfl (lv_at hl 0 rfl) ?_
        refine lv_iload_n hx hb dX0_lay_68 rfl (lv_at hl 2 rfl) ?_
        refine lv_iload hx hb dX0_lay_69 (lv_at hl 7 rfl) ?_
        obtain ⟨z13, q14, hf⟩ := bsp hf
        refine kc_V (ci := 0) (i := 0) (As := [.int v2, .int v7]) (rest := [.int v5, .ref (ad 0 0)]) hok.2.2.1 C hP hS hl.1 (hok.2.1 0 0 (Nat.le_of_ble_eq_true rfl)) rfl rfl cw_X0_least ml_X0_92 (c_X0_least l D ca ad PL Z A hok N w v2 v7 z13 q14) rfl ⟨rfl, rfl⟩ ⟨Nat.le_of_ble_eq_true rfl, Nat.le_of_ble_eq_true rfl⟩ ⟨Nat.zero_le _, Nat.zero_le _⟩ (Nat.le_of_ble_eq_true rfl) rfl dX0_lay_71 (fun H locs hP hS => ?_)
        obtain ⟨z15, q16, hf⟩ := bsp hf
        refine kc_V (ci := 0) (i := 0) (As := [.int v5, .int z13]) (rest := []) hok.2.2.1 C hP hS hl.1 (hok.2.1 0 0 (Nat.le_of_ble_eq_true rfl)) rfl rfl cw_X0_plus ml_X0_95 (c_X0_plus l D ca ad PL Z A hok N w v5 z13 z15 q16) rfl ⟨rfl, rfl⟩ ⟨Nat.le_of_ble_eq_true rfl, Nat.le_of_ble_eq_true rfl⟩ ⟨Nat.zero_le _, Nat.zero_le _⟩ (Nat.le_of_ble_eq_true rfl) rfl dX0_lay_74 (fun H locs hP hS => ?_)
        refine lv_aload_n hx hb dX0_lay_77 rfl (lv_at hl 0 rfl) ?_
        refine lv_iload hx hb dX0_lay_78 (lv_at hl 6 rfl) ?_
        refine lv_aload_n hx hb dX0_lay_80 rfl (lv_at hl 0 rfl) ?_
        refine lv_iload_n hx hb dX0_lay_81 rfl (lv_at hl 1 rfl) ?_
        refine lv_iload hx hb dX0_lay_82 (lv_at hl 7 rfl) ?_
        obtain ⟨z17, q18, hf⟩ := bsp hf
        refine kc_V (ci := 0) (i := 0) (As := [.int v1, .int v7]) (rest := [.int v6, .ref (ad 0 0), .int z15]) hok.2.2.1 C hP hS hl.1 (hok.2.1 0 0 (Nat.le_of_ble_eq_true rfl)) rfl rfl cw_X0_least ml_X0_92 (c_X0_least l D ca ad PL Z A hok N w v1 v7 z17 q18) rfl ⟨rfl, rfl⟩ ⟨Nat.le_of_ble_eq_true rfl, Nat.le_of_ble_eq_true rfl⟩ ⟨Nat.zero_le _, Nat.zero_le _⟩ (Nat.le_of_ble_eq_true rfl) rfl dX0_lay_84 (fun H locs hP hS => ?_)
        obtain ⟨z19, q20, hf⟩ := bsp hf
        refine kc_V (ci := 0) (i := 0) (As := [.int v6, .int z17]) (rest := [.int z15]) hok.2.2.1 C hP hS hl.1 (hok.2.1 0 0 (Nat.le_of_ble_eq_true rfl)) rfl rfl cw_X0_plus ml_X0_95 (c_X0_plus l D ca ad PL Z A hok N w v6 z17 z19 q20) rfl ⟨rfl, rfl⟩ ⟨Nat.le_of_ble_eq_true rfl, Nat.le_of_ble_eq_true rfl⟩ ⟨Nat.zero_le _, Nat.zero_le _⟩ (Nat.le_of_ble_eq_true rfl) rfl dX0_lay_87 (fun H locs hP hS => ?_)
        refine km_min C hl.1 ml_X0_98 ⟨Nat.le_of_ble_eq_true rfl, Nat.le_of_ble_eq_true rfl⟩ ⟨Nat.zero_le _, Nat.zero_le _⟩ dX0_lay_90 ?_
        refine lv_istore (lv' := [(8, .int (if z19 < z15 then z19 else z15)), (0, .ref (ad 0 0)), (1, .int v1), (2, .int v2), (3, .int v3), (4, .int v4), (5, .int v5), (6, .int v6), (7, .int v7)]) hx hb dX0_lay_93 hl (by decide) rfl (fun ls hl => ?_)
        refine lv_aload_n hx hb dX0_lay_95 rfl (lv_at hl 1 rfl) ?_
        refine gt_0_0 (i := 0) C hP (hok.2.1 0 0 (Nat.le_of_ble_eq_true rfl)) lk_X0_9 dX0_lay_96 ?_
        refine lv_iload hx hb dX0_lay_99 (lv_at hl 5 rfl) ?_
        refine lv_bipush (v := (24 : Int32)) hx hb dX0_lay_101 (by decide) ?_
        refine lv_imul hx hb dX0_lay_103 ?_
        refine lv_iload hx hb dX0_lay_104 (lv_at hl 8 rfl) ?_
        refine lv_iadd hx hb dX0_lay_106 ?_
        refine lv_aload_n hx hb dX0_lay_107 rfl (lv_at hl 1 rfl) ?_
        refine lv_iload hx hb dX0_lay_108 (lv_at hl 5 rfl) ?_
        refine lv_iload hx hb dX0_lay_110 (lv_at hl 8 rfl) ?_
        obtain ⟨z21, q22, hf⟩ := bsp hf
        refine kc_V (ci := 0) (i := 0) (As := [.int v4, .int v7]) (rest := [.int ((v4 * (24 : Int32)) + v7), .ref (ad 10 0)]) hok.2.2.1 C hP hS hl.1 (hok.2.1 0 0 (Nat.le_of_ble_eq_true rfl)) rfl rfl cw_X0_least ml_X0_92 (c_X0_least l D ca ad PL Z A hok N w v4 v7 z21 q22) rfl ⟨rfl, rfl⟩ ⟨Nat.le_of_ble_eq_true rfl, Nat.le_of_ble_eq_true rfl⟩ ⟨Nat.zero_le _, Nat.zero_le _⟩ (Nat.le_of_ble_eq_true rfl) rfl dX0_lay_112 (fun H locs hP hS => ?_)
        refine lv_iload hx hb dX0_lay_115 (lv_at hl 0 rfl) ?_
        refine km_min C hl.1 ml_X0_98 ⟨Nat.le_of_ble_eq_true rfl, Nat.le_of_ble_eq_true rfl⟩ ⟨Nat.zero_le _, Nat.zero_le _⟩ dX0_lay_117 ?_
        obtain ⟨b23, hf⟩ := gsp hf
        refine ra_ist (k := 10) (i := 0) (n := 576) C hok.1 hP hS (hok.2.1 10 0 (Nat.le_of_ble_eq_true rfl)) (fun _ => rfl) b23 dX0_lay_120 (fun H locs hP hS => ?_)
        refine lv_iinc (v := (v7 + (1 : Int32))) (lv' := [(7, .int (v7 + (1 : Int32))), (8, .int (if z19 < z15 then z19 else z15)), (0, .ref (ad 0 0)), (1, .int v1), (2, .int v2), (3, .int v3), (4, .int v4), (5, .int v5), (6, .int v6)]) hx hb dX0_lay_121 hl (k := 8) rfl rfl (by decide) rfl (fun ls hl => ?_)
        refine lv_goto (tgt := 55) hx hb dX0_lay_124 (by decide) ?_
        exact ih (sA w 10 0 ((v4 * (24 : Int32)) + v7).toNatClampNeg (if (if z19 < z15 then z19 else z15) < z21 then (if z19 < z15 then z19 else z15) else z21)) (v7 + (1 : Int32)) hf _ _ ls hP hS (lv_sub hl [2, 3, 4, 5, 6, 7, 8, 0] rfl)
  have L_lp_X0_lay_15 : ∀ (v1 : Int32) (v2 : Int32) (v3 : Int32) (k : Mem → Option (Mem × Int32)) (hk : ∀ (w : Mem), k w = some (w', r) → WP p l e (rmk 2) s m [.ref (ad 0 0), .int x1, .int x2, .int x3].toArray below meth c D ca ad PL A (MQ below (qcR D ca ad PL Z A w' (some (.int r))) [.ref (ad 0 0), .int x1, .int x2, .int x3].toArray s 0 0 A) 9 133 [] [] w) (n : Nat) (w : Mem) (v4 : Int32), lp_X0_lay_15 k N   v1 v2 v3 n w v4 = some (w', r) → WP p l e (rmk 2) s m [.ref (ad 0 0), .int x1, .int x2, .int x3].toArray below meth c D ca ad PL A (MQ below (qcR D ca ad PL Z A w' (some (.int r))) [.ref (ad 0 0), .int x1, .int x2, .int x3].toArray s 0 0 A) 9 15 [] [(0, .ref (ad 0 0)), (1, .int v1), (2, .int v2), (3, .int v3), (4, .int v4)] w := by
    intro v1 v2 v3 k hk n
    induction n with
    | zero => intro w v4 hf; rw [lp_X0_lay_15] at hf; cases hf
    | succ n ih =>
      intro w v4 hf _ _ ls hP hS hl
      rw [lp_X0_lay_15] at hf
      refine lv_iload hx hb dX0_lay_15 (lv_at hl 4 rfl) ?_
      refine lv_aload_n hx hb dX0_lay_17 rfl (lv_at hl 0 rfl) ?_
      refine gt_0_3 (i := 0) C hP (hok.2.1 0 0 (Nat.le_of_ble_eq_true rfl)) lk_X0_37 dX0_lay_18 ?_
      refine lv_icmp_ge (tgt := 133) hx hb dX0_lay_21 (by decide) (fun c25 => ?_) (fun c25 => ?_)
      · have hf := ifp hf c25
        exact hk w hf _ _ ls hP hS (lv_sub hl [] rfl)
      · have hf := ifn hf c25
        refine lv_aload_n hx hb dX0_lay_24 rfl (lv_at hl 0 rfl) ?_
        refine lv_aload_n hx hb dX0_lay_25 rfl (lv_at hl 0 rfl) ?_
        refine lv_iload hx hb dX0_lay_26 (lv_at hl 4 rfl) ?_
        refine lv_iload_n hx hb dX0_lay_28 rfl (lv_at hl 1 rfl) ?_
        obtain ⟨z4, q5, hf⟩ := bsp hf
        refine kc_V (ci := 0) (i := 0) (As := [.int v4, .int v1]) (rest := [.ref (ad 0 0)]) hok.2.2.1 C hP hS hl.1 (hok.2.1 0 0 (Nat.le_of_ble_eq_true rfl)) rfl rfl cw_X0_least ml_X0_92 (c_X0_least l D ca ad PL Z A hok N w v4 v1 z4 q5) rfl ⟨rfl, rfl⟩ ⟨Nat.le_of_ble_eq_true rfl, Nat.le_of_ble_eq_true rfl⟩ ⟨Nat.zero_le _, Nat.zero_le _⟩ (Nat.le_of_ble_eq_true rfl) rfl dX0_lay_29 (fun H locs hP hS => ?_)
        refine lv_iload_n hx hb dX0_lay_32 rfl (lv_at hl 3 rfl) ?_
        obtain ⟨z6, q7, hf⟩ := bsp hf
        refine kc_V (ci := 0) (i := 0) (As := [.int z4, .int v3]) (rest := []) hok.2.2.1 C hP hS hl.1 (hok.2.1 0 0 (Nat.le_of_ble_eq_true rfl)) rfl rfl cw_X0_plus ml_X0_95 (c_X0_plus l D ca ad PL Z A hok N w z4 v3 z6 q7) rfl ⟨rfl, rfl⟩ ⟨Nat.le_of_ble_eq_true rfl, Nat.le_of_ble_eq_true rfl⟩ ⟨Nat.zero_le _, Nat.zero_le _⟩ (Nat.le_of_ble_eq_true rfl) rfl dX0_lay_33 (fun H locs hP hS => ?_)
        refine lv_istore (lv' := [(5, .int z6), (0, .ref (ad 0 0)), (1, .int v1), (2, .int v2), (3, .int v3), (4, .int v4)]) hx hb dX0_lay_36 hl (by decide) rfl (fun ls hl => ?_)
        refine lv_aload_n hx hb dX0_lay_38 rfl (lv_at hl 1 rfl) ?_
        refine lv_aload_n hx hb dX0_lay_39 rfl (lv_at hl 1 rfl) ?_
        refine lv_iload hx hb dX0_lay_40 (lv_at hl 5 rfl) ?_
        refine lv_iload_n hx hb dX0_lay_42 rfl (lv_at hl 3 rfl) ?_
        obtain ⟨z8, q9, hf⟩ := bsp hf
        refine kc_V (ci := 0) (i := 0) (As := [.int v4, .int v2]) (rest := [.ref (ad 0 0)]) hok.2.2.1 C hP hS hl.1 (hok.2.1 0 0 (Nat.le_of_ble_eq_true rfl)) rfl rfl cw_X0_least ml_X0_92 (c_X0_least l D ca ad PL Z A hok N w v4 v2 z8 q9) rfl ⟨rfl, rfl⟩ ⟨Nat.le_of_ble_eq_true rfl, Nat.le_of_ble_eq_true rfl⟩ ⟨Nat.zero_le _, Nat.zero_le _⟩ (Nat.le_of_ble_eq_true rfl) rfl dX0_lay_43 (fun H locs hP hS => ?_)
        refine lv_iload_n hx hb dX0_lay_46 rfl (lv_at hl 4 rfl) ?_
        obtain ⟨z10, q11, hf⟩ := bsp hf
        refine kc_V (ci := 0) (i := 0) (As := [.int z8, .int v3]) (rest := []) hok.2.2.1 C hP hS hl.1 (hok.2.1 0 0 (Nat.le_of_ble_eq_true rfl)) rfl rfl cw_X0_plus ml_X0_95 (c_X0_plus l D ca ad PL Z A hok N w z8 v3 z10 q11) rfl ⟨rfl, rfl⟩ ⟨Nat.le_of_ble_eq_true rfl, Nat.le_of_ble_eq_true rfl⟩ ⟨Nat.zero_le _, Nat.zero_le _⟩ (Nat.le_of_ble_eq_true rfl) rfl dX0_lay_47 (fun H locs hP hS => ?_)
        refine lv_istore (lv' := [(6, .int z10), (5, .int z6), (0, .ref (ad 0 0)), (1, .int v1), (2, .int v2), (3, .int v3), (4, .int v4)]) hx hb dX0_lay_50 hl (by decide) rfl (fun ls hl => ?_)
        refine lv_iconst (v := (0 : Int32)) hx hb dX0_lay_52 (by decide) ?_
        refine lv_istore (lv' := [(7, .int (0 : Int32)), (6, .int z10), (5, .int z6), (0, .ref (ad 0 0)), (1, .int v1), (2, .int v2), (3, .int v3), (4, .int v4)]) hx hb dX0_lay_53 hl (by decide) rfl (fun ls hl => ?_)
        exact L_lp_X0_lay_55 v1 v2 v3 v4 z6 z10 _ (fun w_12 hf H locs ls hP hS hl => P_f_X0_lay_127_15 v1 v2 v3 _ ih _ hk w_12 v4 hf _ _ ls hP hS (lv_sub hl [0, 1, 2, 3, 4] rfl)) N w (0 : Int32) hf _ _ ls hP hS (lv_sub hl [3, 4, 5, 6, 7, 2, 1, 0] rfl)
  unfold f_X0_lay at hf
  -- walk
  refine lv_iload_n hx hb dX0_lay_0 rfl (lv_at hl 3 rfl) ?_
  refine lv_aload_n hx hb dX0_lay_1 rfl (lv_at hl 0 rfl) ?_
  refine lv_iload_n hx hb dX0_lay_2 rfl (lv_at hl 1 rfl) ?_
  refine lv_iload_n hx hb dX0_lay_3 rfl (lv_at hl 2 rfl) ?_
  obtain ⟨z1, q2, hf⟩ := bsp hf
  refine kc_V (ci := 0) (i := 0) (As := [.int x1, .int x2]) (rest := [.int x3]) hok.2.2.1 C hP hS hl.1 (hok.2.1 0 0 (Nat.le_of_ble_eq_true rfl)) rfl rfl cw_X0_least ml_X0_92 (c_X0_least l D ca ad PL Z A hok N w x1 x2 z1 q2) rfl ⟨rfl, rfl⟩ ⟨Nat.le_of_ble_eq_true rfl, Nat.le_of_ble_eq_true rfl⟩ ⟨Nat.zero_le _, Nat.zero_le _⟩ (Nat.le_of_ble_eq_true rfl) rfl dX0_lay_4 (fun H locs hP hS => ?_)
  refine lv_icmp_lt (tgt := 12) hx hb dX0_lay_7 (by decide) (fun c26 => ?_) (fun c26 => ?_)
  · have hf := ifp hf c26
    refine lv_iconst (v := (0 : Int32)) hx hb dX0_lay_12 (by decide) ?_
    refine lv_istore (lv' := [(4, .int (0 : Int32)), (0, .ref (ad 0 0)), (1, .int x1), (2, .int x2), (3, .int x3)]) hx hb dX0_lay_13 hl (by decide) rfl (fun ls hl => ?_)
    exact L_lp_X0_lay_15 x1 x2 x3 _ (fun w_3 hf H locs ls hP hS hl => P_f_X0_lay_133 w_3 hf _ _ ls hP hS (lv_sub hl [] rfl)) N w (0 : Int32) hf _ _ ls hP hS (lv_sub hl [1, 2, 3, 4, 0] rfl)
  · have hf := ifn hf c26
    refine lv_iconst (v := (0 : Int32)) hx hb dX0_lay_10 (by decide) ?_
    exact kr_i hok.2.2.1 C hlocks hr rfl hP hS (congrArg Prod.fst (Option.some.inj hf)) (congrArg Prod.snd (Option.some.inj hf)) dX0_lay_11
def f_X0_pave (N : Nat) (w : Mem) (x1 : Int32) (x2 : Int32) (x3 : Int32) : Option (Mem) :=
  (if inb ((x1 * (24 : Int32)) + x2) 576 = true then (if inb ((x2 * (24 : Int32)) + x1) 576 = true then some (sA (sA w 11 0 ((x1 * (24 : Int32)) + x2).toNatClampNeg (if (gA w 11 0 ((x1 * (24 : Int32)) + x2).toNatClampNeg) < x3 then (gA w 11 0 ((x1 * (24 : Int32)) + x2).toNatClampNeg) else x3)) 11 0 ((x2 * (24 : Int32)) + x1).toNatClampNeg (if (gA w 11 0 ((x1 * (24 : Int32)) + x2).toNatClampNeg) < x3 then (gA w 11 0 ((x1 * (24 : Int32)) + x2).toNatClampNeg) else x3)) else none) else none)
set_option maxRecDepth 100000 in
set_option maxHeartbeats 4000000 in
theorem c_X0_pave (l : Launch) (D : va_G) (ca : Nat → ClassId) (ad : Nat → Nat → Nat) (PL : List (Nat × Nat)) (Z : State → Prop) (A : Nat → Prop) (hok : okc bX Z A ad PL) (N : Nat) (w : Mem) (x1 : Int32) (x2 : Int32) (x3 : Int32) (w' : Mem) (hf : f_X0_pave N w x1 x2 x3 = some w') : CT l yX0_pave (wsy yX0_pave cX0_pave 5 none) (rmk 1) D ca ad PL Z A [.ref (ad 0 0), .int x1, .int x2, .int x3] w w' none := by
  refine Met.ofW (cc := cX0_pave) (maxL := 5) (ret := none) (by decide +kernel) rfl ?_
  intro p e s m args below meth c s₁ B hml hv
  obtain ⟨rfl, hP, hK, hZ⟩ := hv
  have hx := B.exec
  have hb := B.bytes
  have hr := B.returns
  have hlocks := B.notSynchronized
  have hts : ∀ w ∈ ALL, w.before _ s = true := fun w hw => atoms_spec (ws := wsy yX0_pave cX0_pave 5 none) B.pre w (List.mem_cons_of_mem _ hw)
  have hown : s.vm.findClass RX0 = some m.cls := findClass_of_methodNamed B.named
  have C : CX p s m _ c cX0_pave RX0 5 D ca Z := ⟨hx, hb, hml, hown, hts, hK, hZ⟩
  have hS : va_S A s.heap s.heap [] := va_S.rf
  have hl := lv_entry ([.ref (ad 0 0), .int x1, .int x2, .int x3]) (n := 5) (Nat.le_of_ble_eq_true rfl)
  rw [lg_entry_eq]
  generalize (lg_sl ([.ref (ad 0 0), .int x1, .int x2, .int x3]) ++ List.replicate (5 - (lg_sl ([.ref (ad 0 0), .int x1, .int x2, .int x3])).length) Slot.unset).toArray = ls at hl ⊢
  have hl : lv_has ls 5 [(0, .ref (ad 0 0)), (1, .int x1), (2, .int x2), (3, .int x3)] := hl
  show W p l e (rmk 1) s m _ below meth c s.heap [] 0 0 _ _
  unfold f_X0_pave at hf
  -- walk
  refine lv_iload_n hx hb dX0_pave_0 rfl (lv_at hl 3 rfl) ?_
  refine lv_aload_n hx hb dX0_pave_1 rfl (lv_at hl 0 rfl) ?_
  refine gt_0_1 (i := 0) C hP (hok.2.1 0 0 (Nat.le_of_ble_eq_true rfl)) lk_X0_15 dX0_pave_2 ?_
  refine lv_iload_n hx hb dX0_pave_5 rfl (lv_at hl 1 rfl) ?_
  refine lv_bipush (v := (24 : Int32)) hx hb dX0_pave_6 (by decide) ?_
  refine lv_imul hx hb dX0_pave_8 ?_
  refine lv_iload_n hx hb dX0_pave_9 rfl (lv_at hl 2 rfl) ?_
  refine lv_iadd hx hb dX0_pave_10 ?_
  obtain ⟨b1, hf⟩ := gsp hf
  refine ra_ild (k := 11) (i := 0) (n := 576) (f := (gA w 11 0)) C hP (hok.2.1 11 0 (Nat.le_of_ble_eq_true rfl)) rfl b1 dX0_pave_11 ?_
  refine km_min C hl.1 ml_X0_98 ⟨Nat.le_of_ble_eq_true rfl, Nat.le_of_ble_eq_true rfl⟩ ⟨Nat.zero_le _, Nat.zero_le _⟩ dX0_pave_12 ?_
  refine lv_istore (lv' := [(4, .int (if (gA w 11 0 ((x1 * (24 : Int32)) + x2).toNatClampNeg) < x3 then (gA w 11 0 ((x1 * (24 : Int32)) + x2).toNatClampNeg) else x3)), (0, .ref (ad 0 0)), (1, .int x1), (2, .int x2), (3, .int x3)]) hx hb dX0_pave_15 hl (by decide) rfl (fun ls hl => ?_)
  refine lv_aload_n hx hb dX0_pave_17 rfl (lv_at hl 1 rfl) ?_
  refine gt_0_1 (i := 0) C hP (hok.2.1 0 0 (Nat.le_of_ble_eq_true rfl)) lk_X0_15 dX0_pave_18 ?_
  refine lv_iload_n hx hb dX0_pave_21 rfl (lv_at hl 2 rfl) ?_
  refine lv_bipush (v := (24 : Int32)) hx hb dX0_pave_22 (by decide) ?_
  refine lv_imul hx hb dX0_pave_24 ?_
  refine lv_iload_n hx hb dX0_pave_25 rfl (lv_at hl 3 rfl) ?_
  refine lv_iadd hx hb dX0_pave_26 ?_
  refine lv_iload hx hb dX0_pave_27 (lv_at hl 0 rfl) ?_
  refine ra_ist (k := 11) (i := 0) (n := 576) C hok.1 hP hS (hok.2.1 11 0 (Nat.le_of_ble_eq_true rfl)) (fun _ => rfl) b1 dX0_pave_29 (fun H locs hP hS => ?_)
  refine lv_aload_n hx hb dX0_pave_30 rfl (lv_at hl 1 rfl) ?_
  refine gt_0_1 (i := 0) C hP (hok.2.1 0 0 (Nat.le_of_ble_eq_true rfl)) lk_X0_15 dX0_pave_31 ?_
  refine lv_iload_n hx hb dX0_pave_34 rfl (lv_at hl 3 rfl) ?_
  refine lv_bipush (v := (24 : Int32)) hx hb dX0_pave_35 (by decide) ?_
  refine lv_imul hx hb dX0_pave_37 ?_
  refine lv_iload_n hx hb dX0_pave_38 rfl (lv_at hl 2 rfl) ?_
  refine lv_iadd hx hb dX0_pave_39 ?_
  refine lv_iload hx hb dX0_pave_40 (lv_at hl 0 rfl) ?_
  obtain ⟨b2, hf⟩ := gsp hf
  refine ra_ist (k := 11) (i := 0) (n := 576) C hok.1 hP hS (hok.2.1 11 0 (Nat.le_of_ble_eq_true rfl)) (fun _ => rfl) b2 dX0_pave_42 (fun H locs hP hS => ?_)
  exact kr_v hok.2.2.1 C hlocks hr hP hS (Option.some.inj hf) dX0_pave_43
def f_X0_partSums_48 (N : Nat) (w : Mem) (i1 : Nat) (v4 : Int32) : Option (Int32) :=
  some v4
def lp_X0_partSums_6 (k : Int32 → Option (Int32)) (N : Nat) (w : Mem) (i1 : Nat) (v2 : Int32) (v3 : Int32) : Nat → Int32 → Int32 → Option (Int32)
  | 0, _, _ => none
  | n + 1, v4, v5 => (Option.bind (f_X7_partsOf N w i1 v2) (fun z2 => (if z2 ≤ v5 then
(k v4)
else
(Option.bind (f_X7_partAt N w i1 v2 v5) (fun z4 => (Option.bind (f_X7_partAt N w i1 v3 v5) (fun z6 => (Option.bind (f_X0_least N w z4 z6) (fun z8 => (Option.bind (f_X0_plus N w v4 z8) (fun z10 => (lp_X0_partSums_6 k N w i1 v2 v3 n z10 (v5 + (1 : Int32))))))))))))))
def f_X0_partSums (N : Nat) (w : Mem) (i1 : Nat) (x2 : Int32) (x3 : Int32) : Option (Int32) :=
  (lp_X0_partSums_6 (fun (u4_1 : Int32) => (f_X0_partSums_48 N w i1 u4_1 )) N w i1 x2 x3 N (0 : Int32) (0 : Int32))
set_option maxRecDepth 100000 in
set_option maxHeartbeats 4000000 in
theorem c_X0_partSums (l : Launch) (D : va_G) (ca : Nat → ClassId) (ad : Nat → Nat → Nat) (PL : List (Nat × Nat)) (Z : State → Prop) (A : Nat → Prop) (hok : okc bX Z A ad PL) (N : Nat) (w : Mem) (i1 : Nat) (h1 : i1 < 2) (x2 : Int32) (x3 : Int32) (r : Int32) (hf : f_X0_partSums N w i1 x2 x3 = some r) : CT l yX0_partSums (wsy yX0_partSums cX0_partSums 6 (some .int)) (rmk 2) D ca ad PL Z A [.ref (ad 0 0), .ref (ad 7 i1), .int x2, .int x3] w w (some (.int r)) := by
  refine Met.ofW (cc := cX0_partSums) (maxL := 6) (ret := (some .int)) (by decide +kernel) rfl ?_
  intro p e s m args below meth c s₁ B hml hv
  obtain ⟨rfl, hP, hK, hZ⟩ := hv
  have hx := B.exec
  have hb := B.bytes
  have hr := B.returns
  have hlocks := B.notSynchronized
  have hts : ∀ w ∈ ALL, w.before _ s = true := fun w hw => atoms_spec (ws := wsy yX0_partSums cX0_partSums 6 (some .int)) B.pre w (List.mem_cons_of_mem _ hw)
  have hown : s.vm.findClass RX0 = some m.cls := findClass_of_methodNamed B.named
  have C : CX p s m _ c cX0_partSums RX0 6 D ca Z := ⟨hx, hb, hml, hown, hts, hK, hZ⟩
  have hS : va_S A s.heap s.heap [] := va_S.rf
  have hl := lv_entry ([.ref (ad 0 0), .ref (ad 7 i1), .int x2, .int x3]) (n := 6) (Nat.le_of_ble_eq_true rfl)
  rw [lg_entry_eq]
  generalize (lg_sl ([.ref (ad 0 0), .ref (ad 7 i1), .int x2, .int x3]) ++ List.replicate (6 - (lg_sl ([.ref (ad 0 0), .ref (ad 7 i1), .int x2, .int x3])).length) Slot.unset).toArray = ls at hl ⊢
  have hl : lv_has ls 6 [(0, .ref (ad 0 0)), (1, .ref (ad 7 i1)), (2, .int x2), (3, .int x3)] := hl
  show W p l e (rmk 2) s m _ below meth c s.heap [] 0 0 _ _
  have P_f_X0_partSums_48 : ∀ (v4 : Int32), f_X0_partSums_48 N w i1 v4  = some r → WP p l e (rmk 2) s m [.ref (ad 0 0), .ref (ad 7 i1), .int x2, .int x3].toArray below meth c D ca ad PL A (MQ below (qcR D ca ad PL Z A w (some (.int r))) [.ref (ad 0 0), .ref (ad 7 i1), .int x2, .int x3].toArray s 0 0 A) 6 48 [] [(4, .int v4)] w := by
    intro v4 hf _ _ ls hP hS hl
    unfold f_X0_partSums_48 at hf
    refine lv_iload hx hb dX0_partSums_48 (lv_at hl 0 rfl) ?_
    exact kr_i hok.2.2.1 C hlocks hr rfl hP hS rfl (Option.some.inj hf) dX0_partSums_50
  have L_lp_X0_partSums_6 : ∀ (v2 : Int32) (v3 : Int32) (k : Int32 → Option (Int32)) (hk : ∀ (v4 : Int32), k v4 = some r → WP p l e (rmk 2) s m [.ref (ad 0 0), .ref (ad 7 i1), .int x2, .int x3].toArray below meth c D ca ad PL A (MQ below (qcR D ca ad PL Z A w (some (.int r))) [.ref (ad 0 0), .ref (ad 7 i1), .int x2, .int x3].toArray s 0 0 A) 6 48 [] [(4, .int v4)] w) (n : Nat) (v4 : Int32) (v5 : Int32), lp_X0_partSums_6 k N w i1 v2 v3 n v4 v5 = some r → WP p l e (rmk 2) s m [.ref (ad 0 0), .ref (ad 7 i1), .int x2, .int x3].toArray below meth c D ca ad PL A (MQ below (qcR D ca ad PL Z A w (some (.int r))) [.ref (ad 0 0), .ref (ad 7 i1), .int x2, .int x3].toArray s 0 0 A) 6 6 [] [(0, .ref (ad 0 0)), (1, .ref (ad 7 i1)), (2, .int v2), (3, .int v3), (4, .int v4), (5, .int v5)] w := by
    intro v2 v3 k hk n
    induction n with
    | zero => intro v4 v5 hf; rw [lp_X0_partSums_6] at hf; cases hf
    | succ n ih =>
      intro v4 v5 hf _ _ ls hP hS hl
      rw [lp_X0_partSums_6] at hf
      refine lv_iload hx hb dX0_partSums_6 (lv_at hl 5 rfl) ?_
      refine lv_aload_n hx hb dX0_partSums_8 rfl (lv_at hl 1 rfl) ?_
      refine lv_iload_n hx hb dX0_partSums_9 rfl (lv_at hl 2 rfl) ?_
      obtain ⟨z2, q3, hf⟩ := bsp hf
      refine kc_V (ci := 7) (i := i1) (As := [.int v2]) (rest := [.int v5]) hok.2.2.1 C hP hS hl.1 (hok.2.1 7 i1 h1) rfl rfl cw_X7_partsOf ml_X0_84 (c_X7_partsOf l D ca ad PL Z A hok N w i1 h1 v2 z2 q3) rfl ⟨rfl, rfl⟩ ⟨Nat.le_of_ble_eq_true rfl, Nat.le_of_ble_eq_true rfl⟩ ⟨Nat.zero_le _, Nat.zero_le _⟩ (Nat.le_of_ble_eq_true rfl) rfl dX0_partSums_10 (fun H locs hP hS => ?_)
      refine lv_icmp_ge (tgt := 48) hx hb dX0_partSums_13 (by decide) (fun c12 => ?_) (fun c12 => ?_)
      · have hf := ifp hf c12
        exact hk v4 hf _ _ ls hP hS (lv_sub hl [4] rfl)
      · have hf := ifn hf c12
        refine lv_aload_n hx hb dX0_partSums_16 rfl (lv_at hl 0 rfl) ?_
        refine lv_iload hx hb dX0_partSums_17 (lv_at hl 4 rfl) ?_
        refine lv_aload_n hx hb dX0_partSums_19 rfl (lv_at hl 0 rfl) ?_
        refine lv_aload_n hx hb dX0_partSums_20 rfl (lv_at hl 1 rfl) ?_
        refine lv_iload_n hx hb dX0_partSums_21 rfl (lv_at hl 2 rfl) ?_
        refine lv_iload hx hb dX0_partSums_22 (lv_at hl 5 rfl) ?_
        obtain ⟨z4, q5, hf⟩ := bsp hf
        refine kc_V (ci := 7) (i := i1) (As := [.int v2, .int v5]) (rest := [.ref (ad 0 0), .int v4, .ref (ad 0 0)]) hok.2.2.1 C hP hS hl.1 (hok.2.1 7 i1 h1) rfl rfl cw_X7_partAt ml_X0_88 (c_X7_partAt l D ca ad PL Z A hok N w i1 h1 v2 v5 z4 q5) rfl ⟨rfl, rfl⟩ ⟨Nat.le_of_ble_eq_true rfl, Nat.le_of_ble_eq_true rfl⟩ ⟨Nat.zero_le _, Nat.zero_le _⟩ (Nat.le_of_ble_eq_true rfl) rfl dX0_partSums_24 (fun H locs hP hS => ?_)
        refine lv_aload_n hx hb dX0_partSums_27 rfl (lv_at hl 1 rfl) ?_
        refine lv_iload_n hx hb dX0_partSums_28 rfl (lv_at hl 3 rfl) ?_
        refine lv_iload hx hb dX0_partSums_29 (lv_at hl 5 rfl) ?_
        obtain ⟨z6, q7, hf⟩ := bsp hf
        refine kc_V (ci := 7) (i := i1) (As := [.int v3, .int v5]) (rest := [.int z4, .ref (ad 0 0), .int v4, .ref (ad 0 0)]) hok.2.2.1 C hP hS hl.1 (hok.2.1 7 i1 h1) rfl rfl cw_X7_partAt ml_X0_88 (c_X7_partAt l D ca ad PL Z A hok N w i1 h1 v3 v5 z6 q7) rfl ⟨rfl, rfl⟩ ⟨Nat.le_of_ble_eq_true rfl, Nat.le_of_ble_eq_true rfl⟩ ⟨Nat.zero_le _, Nat.zero_le _⟩ (Nat.le_of_ble_eq_true rfl) rfl dX0_partSums_31 (fun H locs hP hS => ?_)
        obtain ⟨z8, q9, hf⟩ := bsp hf
        refine kc_V (ci := 0) (i := 0) (As := [.int z4, .int z6]) (rest := [.int v4, .ref (ad 0 0)]) hok.2.2.1 C hP hS hl.1 (hok.2.1 0 0 (Nat.le_of_ble_eq_true rfl)) rfl rfl cw_X0_least ml_X0_92 (c_X0_least l D ca ad PL Z A hok N w z4 z6 z8 q9) rfl ⟨rfl, rfl⟩ ⟨Nat.le_of_ble_eq_true rfl, Nat.le_of_ble_eq_true rfl⟩ ⟨Nat.zero_le _, Nat.zero_le _⟩ (Nat.le_of_ble_eq_true rfl) rfl dX0_partSums_34 (fun H locs hP hS => ?_)
        obtain ⟨z10, q11, hf⟩ := bsp hf
        refine kc_V (ci := 0) (i := 0) (As := [.int v4, .int z8]) (rest := []) hok.2.2.1 C hP hS hl.1 (hok.2.1 0 0 (Nat.le_of_ble_eq_true rfl)) rfl rfl cw_X0_plus ml_X0_95 (c_X0_plus l D ca ad PL Z A hok N w v4 z8 z10 q11) rfl ⟨rfl, rfl⟩ ⟨Nat.le_of_ble_eq_true rfl, Nat.le_of_ble_eq_true rfl⟩ ⟨Nat.zero_le _, Nat.zero_le _⟩ (Nat.le_of_ble_eq_true rfl) rfl dX0_partSums_37 (fun H locs hP hS => ?_)
        refine lv_istore (lv' := [(4, .int z10), (0, .ref (ad 0 0)), (1, .ref (ad 7 i1)), (2, .int v2), (3, .int v3), (5, .int v5)]) hx hb dX0_partSums_40 hl (by decide) rfl (fun ls hl => ?_)
        refine lv_iinc (v := (v5 + (1 : Int32))) (lv' := [(5, .int (v5 + (1 : Int32))), (4, .int z10), (0, .ref (ad 0 0)), (1, .ref (ad 7 i1)), (2, .int v2), (3, .int v3)]) hx hb dX0_partSums_42 hl (k := 5) rfl rfl (by decide) rfl (fun ls hl => ?_)
        refine lv_goto (tgt := 6) hx hb dX0_partSums_45 (by decide) ?_
        exact ih z10 (v5 + (1 : Int32)) hf _ _ ls hP hS (lv_sub hl [2, 3, 4, 5, 1, 0] rfl)
  unfold f_X0_partSums at hf
  -- walk
  refine lv_iconst (v := (0 : Int32)) hx hb dX0_partSums_0 (by decide) ?_
  refine lv_istore (lv' := [(4, .int (0 : Int32)), (0, .ref (ad 0 0)), (1, .ref (ad 7 i1)), (2, .int x2), (3, .int x3)]) hx hb dX0_partSums_1 hl (by decide) rfl (fun ls hl => ?_)
  refine lv_iconst (v := (0 : Int32)) hx hb dX0_partSums_3 (by decide) ?_
  refine lv_istore (lv' := [(5, .int (0 : Int32)), (4, .int (0 : Int32)), (0, .ref (ad 0 0)), (1, .ref (ad 7 i1)), (2, .int x2), (3, .int x3)]) hx hb dX0_partSums_4 hl (by decide) rfl (fun ls hl => ?_)
  exact L_lp_X0_partSums_6 x2 x3 _ (fun u4_1 hf H locs ls hP hS hl => P_f_X0_partSums_48 u4_1 hf _ _ ls hP hS (lv_sub hl [0] rfl)) N (0 : Int32) (0 : Int32) hf _ _ ls hP hS (lv_sub hl [2, 3, 4, 5, 1, 0] rfl)
def f_X0_layPairs_120 (N : Nat) (w : Mem) (i1 : Nat) : Option (Mem) :=
  some w
def f_X0_layPairs_114_4 (rc : Mem → Int32 → Int32 → Option (Mem)) (k : Mem → Option (Mem)) (N : Nat) (w : Mem) (i1 : Nat) (v2 : Int32) (v3 : Int32) : Option (Mem) :=
  (rc w v2 (v3 + (1 : Int32)))
def lp_X0_layPairs_19 (k : Mem → Int32 → Option (Mem)) (N : Nat) (i1 : Nat) (v3 : Int32) : Nat → Mem → Int32 → Int32 → Option (Mem)
  | 0, _, _, _ => none
  | n + 1, w, v2, v4 => (if (gF w 7 11 i1) ≤ v4 then
(k w v2)
else
(Option.bind (f_X7_alike N w i1 v4 (2 + i1)) (fun z3 => (if z3 = (0 : Int32) then
(lp_X0_layPairs_19 k N  i1 v3 n w v2 (v4 + (1 : Int32)))
else
(if inb v4 276 = true then (Option.bind (f_X0_partSums N w i1 (gA w 38 i1 v4.toNatClampNeg) (gA w 39 i1 v4.toNatClampNeg)) (fun z6 => (Option.bind (f_X0_pave N w (gA w 38 i1 v4.toNatClampNeg) (gA w 39 i1 v4.toNatClampNeg) z6) (fun z8 => (Option.bind (f_X0_lay N z8 (gA w 38 i1 v4.toNatClampNeg) (gA w 39 i1 v4.toNatClampNeg) z6) (fun z10 => (lp_X0_layPairs_19 k N  i1 v3 n z10.1 (v2 ||| z10.2) (v4 + (1 : Int32))))))))) else none)))))
def lp_X0_layPairs_4 (k : Mem → Option (Mem)) (N : Nat) (i1 : Nat) : Nat → Mem → Int32 → Int32 → Option (Mem)
  | 0, _, _, _ => none
  | n + 1, w, v2, v3 => (if v2 = (0 : Int32) then
(k w)
else
(if (1000000 : Int32) ≤ v3 then
(k w)
else
(lp_X0_layPairs_19 (fun (w_2 : Mem) (u2_2 : Int32) => (f_X0_layPairs_114_4 (fun (w : Mem) (v2 : Int32) (v3 : Int32) => lp_X0_layPairs_4 k N  i1  n w v2 v3) k N w_2 i1 u2_2 v3 )) N  i1 v3 N w (0 : Int32) (0 : Int32))))
def f_X0_layPairs (N : Nat) (w : Mem) (i1 : Nat) : Option (Mem) :=
  (lp_X0_layPairs_4 (fun (w_1 : Mem) => (f_X0_layPairs_120 N w_1 i1  )) N  i1  N w (1 : Int32) (0 : Int32))
set_option maxRecDepth 100000 in
set_option maxHeartbeats 4000000 in
theorem c_X0_layPairs (l : Launch) (D : va_G) (ca : Nat → ClassId) (ad : Nat → Nat → Nat) (PL : List (Nat × Nat)) (Z : State → Prop) (A : Nat → Prop) (hok : okc bX Z A ad PL) (N : Nat) (w : Mem) (i1 : Nat) (h1 : i1 < 2) (w' : Mem) (hf : f_X0_layPairs N w i1 = some w') : CT l yX0_layPairs (wsy yX0_layPairs cX0_layPairs 8 none) (rmk 3) D ca ad PL Z A [.ref (ad 0 0), .ref (ad 1 i1)] w w' none := by
  refine Met.ofW (cc := cX0_layPairs) (maxL := 8) (ret := none) (by decide +kernel) rfl ?_
  intro p e s m args below meth c s₁ B hml hv
  obtain ⟨rfl, hP, hK, hZ⟩ := hv
  have hx := B.exec
  have hb := B.bytes
  have hr := B.returns
  have hlocks := B.notSynchronized
  have hts : ∀ w ∈ ALL, w.before _ s = true := fun w hw => atoms_spec (ws := wsy yX0_layPairs cX0_layPairs 8 none) B.pre w (List.mem_cons_of_mem _ hw)
  have hown : s.vm.findClass RX0 = some m.cls := findClass_of_methodNamed B.named
  have C : CX p s m _ c cX0_layPairs RX0 8 D ca Z := ⟨hx, hb, hml, hown, hts, hK, hZ⟩
  have hS : va_S A s.heap s.heap [] := va_S.rf
  have hl := lv_entry ([.ref (ad 0 0), .ref (ad 1 i1)]) (n := 8) (Nat.le_of_ble_eq_true rfl)
  rw [lg_entry_eq]
  generalize (lg_sl ([.ref (ad 0 0), .ref (ad 1 i1)]) ++ List.replicate (8 - (lg_sl ([.ref (ad 0 0), .ref (ad 1 i1)])).length) Slot.unset).toArray = ls at hl ⊢
  have hl : lv_has ls 8 [(0, .ref (ad 0 0)), (1, .ref (ad 1 i1))] := hl
  show W p l e (rmk 3) s m _ below meth c s.heap [] 0 0 _ _
  have P_f_X0_layPairs_120 : ∀ (w : Mem), f_X0_layPairs_120 N w i1   = some w' → WP p l e (rmk 3) s m [.ref (ad 0 0), .ref (ad 1 i1)].toArray below meth c D ca ad PL A (MQ below (qcR D ca ad PL Z A w' none) [.ref (ad 0 0), .ref (ad 1 i1)].toArray s 0 0 A) 8 120 [] [] w := by
    intro w hf _ _ ls hP hS hl
    unfold f_X0_layPairs_120 at hf
    exact kr_v hok.2.2.1 C hlocks hr hP hS (Option.some.inj hf) dX0_layPairs_120
  have P_f_X0_layPairs_114_4 : ∀ (rc : Mem → Int32 → Int32 → Option (Mem)) (hrc : ∀ (w : Mem) (v2 : Int32) (v3 : Int32), rc w v2 v3 = some w' → WP p l e (rmk 3) s m [.ref (ad 0 0), .ref (ad 1 i1)].toArray below meth c D ca ad PL A (MQ below (qcR D ca ad PL Z A w' none) [.ref (ad 0 0), .ref (ad 1 i1)].toArray s 0 0 A) 8 4 [] [(0, .ref (ad 0 0)), (1, .ref (ad 1 i1)), (2, .int v2), (3, .int v3)] w) (k : Mem → Option (Mem)) (hk : ∀ (w : Mem), k w = some w' → WP p l e (rmk 3) s m [.ref (ad 0 0), .ref (ad 1 i1)].toArray below meth c D ca ad PL A (MQ below (qcR D ca ad PL Z A w' none) [.ref (ad 0 0), .ref (ad 1 i1)].toArray s 0 0 A) 8 120 [] [] w) (w : Mem) (v2 : Int32) (v3 : Int32), f_X0_layPairs_114_4 rc k N w i1 v2 v3  = some w' → WP p l e (rmk 3) s m [.ref (ad 0 0), .ref (ad 1 i1)].toArray below meth c D ca ad PL A (MQ below (qcR D ca ad PL Z A w' none) [.ref (ad 0 0), .ref (ad 1 i1)].toArray s 0 0 A) 8 114 [] [(0, .ref (ad 0 0)), (1, .ref (ad 1 i1)), (2, .int v2), (3, .int v3)] w := by
    intro rc hrc k hk w v2 v3 hf _ _ ls hP hS hl
    unfold f_X0_layPairs_114_4 at hf
    refine lv_iinc (v := (v3 + (1 : Int32))) (lv' := [(3, .int (v3 + (1 : Int32))), (0, .ref (ad 0 0)), (1, .ref (ad 1 i1)), (2, .int v2)]) hx hb dX0_layPairs_114 hl (k := 3) rfl rfl (by decide) rfl (fun ls hl => ?_)
    refine lv_goto (tgt := 4) hx hb dX0_layPairs_117 (by decide) ?_
    exact hrc w v2 (v3 + (1 : Int32)) hf _ _ ls hP hS (lv_sub hl [1, 2, 3, 0] rfl)
  have L_lp_X0_layPairs_19 : ∀ (v3 : Int32) (k : Mem → Int32 → Option (Mem)) (hk : ∀ (w : Mem) (v2 : Int32), k w v2 = some w' → WP p l e (rmk 3) s m [.ref (ad 0 0), .ref (ad 1 i1)].toArray below meth c D ca ad PL A (MQ below (qcR D ca ad PL Z A w' none) [.ref (ad 0 0), .ref (ad 1 i1)].toArray s 0 0 A) 8 114 [] [(0, .ref (ad 0 0)), (1, .ref (ad 1 i1)), (2, .int v2), (3, .int v3)] w) (n : Nat) (w : Mem) (v2 : Int32) (v4 : Int32), lp_X0_layPairs_19 k N  i1 v3 n w v2 v4 = some w' → WP p l e (rmk 3) s m [.ref (ad 0 0), .ref (ad 1 i1)].toArray below meth c D ca ad PL A (MQ below (qcR D ca ad PL Z A w' none) [.ref (ad 0 0), .ref (ad 1 i1)].toArray s 0 0 A) 8 19 [] [(0, .ref (ad 0 0)), (1, .ref (ad 1 i1)), (2, .int v2), (3, .int v3), (4, .int v4)] w := by
    intro v3 k hk n
    induction n with
    | zero => intro w v2 v4 hf; rw [lp_X0_layPairs_19] at hf; cases hf
    | succ n ih =>
      intro w v2 v4 hf _ _ ls hP hS hl
      rw [lp_X0_layPairs_19] at hf
      refine lv_iload hx hb dX0_layPairs_19 (lv_at hl 4 rfl) ?_
      refine lv_aload_n hx hb dX0_layPairs_21 rfl (lv_at hl 1 rfl) ?_
      refine gt_1_0 (i := i1) C hP (hok.2.1 1 i1 h1) lk_X0_25 dX0_layPairs_22 ?_
      refine gt_7_11 (i := i1) C hP (hok.2.1 7 i1 h1) lk_X0_63 dX0_layPairs_25 ?_
      refine lv_icmp_ge (tgt := 114) hx hb dX0_layPairs_28 (by decide) (fun c13 => ?_) (fun c13 => ?_)
      · have hf := ifp hf c13
        exact hk w v2 hf _ _ ls hP hS (lv_sub hl [0, 1, 2, 3] rfl)
      · have hf := ifn hf c13
        refine lv_aload_n hx hb dX0_layPairs_31 rfl (lv_at hl 1 rfl) ?_
        refine gt_1_0 (i := i1) C hP (hok.2.1 1 i1 h1) lk_X0_25 dX0_layPairs_32 ?_
        refine lv_iload hx hb dX0_layPairs_35 (lv_at hl 4 rfl) ?_
        refine lv_aload_n hx hb dX0_layPairs_37 rfl (lv_at hl 1 rfl) ?_
        refine gt_1_1 (i := i1) C hP (hok.2.1 1 i1 h1) lk_X0_66 dX0_layPairs_38 ?_
        obtain ⟨z3, q4, hf⟩ := bsp hf
        refine kc_V (ci := 7) (i := i1) (As := [.int v4, .ref (ad 3 (2 + i1))]) (rest := []) hok.2.2.1 C hP hS hl.1 (hok.2.1 7 i1 h1) rfl rfl cw_X7_alike ml_X0_70 (c_X7_alike l D ca ad PL Z A hok N w i1 h1 v4 (2 + i1) (Nat.lt_of_lt_of_le (Nat.add_lt_add_left h1 2) (Nat.le_of_ble_eq_true rfl)) z3 q4) rfl ⟨rfl, rfl⟩ ⟨Nat.le_of_ble_eq_true rfl, Nat.le_of_ble_eq_true rfl⟩ ⟨Nat.zero_le _, Nat.zero_le _⟩ (Nat.le_of_ble_eq_true rfl) rfl dX0_layPairs_41 (fun H locs hP hS => ?_)
        refine lv_if_eq (tgt := 108) hx hb dX0_layPairs_44 (by decide) (fun c12 => ?_) (fun c12 => ?_)
        · have hf := ifp hf c12
          refine lv_iinc (v := (v4 + (1 : Int32))) (lv' := [(4, .int (v4 + (1 : Int32))), (0, .ref (ad 0 0)), (1, .ref (ad 1 i1)), (2, .int v2), (3, .int v3)]) hx hb dX0_layPairs_108 hl (k := 4) rfl rfl (by decide) rfl (fun ls hl => ?_)
          refine lv_goto (tgt := 19) hx hb dX0_layPairs_111 (by decide) ?_
          exact ih w v2 (v4 + (1 : Int32)) hf _ _ ls hP hS (lv_sub hl [1, 2, 3, 4, 0] rfl)
        · have hf := ifn hf c12
          refine lv_aload_n hx hb dX0_layPairs_47 rfl (lv_at hl 1 rfl) ?_
          refine gt_1_0 (i := i1) C hP (hok.2.1 1 i1 h1) lk_X0_25 dX0_layPairs_48 ?_
          refine gt_7_7 (i := i1) C hP (hok.2.1 7 i1 h1) lk_X0_74 dX0_layPairs_51 ?_
          refine lv_iload hx hb dX0_layPairs_54 (lv_at hl 4 rfl) ?_
          obtain ⟨b5, hf⟩ := gsp hf
          refine ra_ild (k := 38) (i := i1) (n := 276) (f := (gA w 38 i1)) C hP (hok.2.1 38 i1 h1) rfl b5 dX0_layPairs_56 ?_
          refine lv_istore (lv' := [(5, .int (gA w 38 i1 v4.toNatClampNeg)), (0, .ref (ad 0 0)), (1, .ref (ad 1 i1)), (2, .int v2), (3, .int v3), (4, .int v4)]) hx hb dX0_layPairs_57 hl (by decide) rfl (fun ls hl => ?_)
          refine lv_aload_n hx hb dX0_layPairs_59 rfl (lv_at hl 2 rfl) ?_
          refine gt_1_0 (i := i1) C hP (hok.2.1 1 i1 h1) lk_X0_25 dX0_layPairs_60 ?_
          refine gt_7_8 (i := i1) C hP (hok.2.1 7 i1 h1) lk_X0_77 dX0_layPairs_63 ?_
          refine lv_iload hx hb dX0_layPairs_66 (lv_at hl 5 rfl) ?_
          refine ra_ild (k := 39) (i := i1) (n := 276) (f := (gA w 39 i1)) C hP (hok.2.1 39 i1 h1) rfl b5 dX0_layPairs_68 ?_
          refine lv_istore (lv' := [(6, .int (gA w 39 i1 v4.toNatClampNeg)), (5, .int (gA w 38 i1 v4.toNatClampNeg)), (0, .ref (ad 0 0)), (1, .ref (ad 1 i1)), (2, .int v2), (3, .int v3), (4, .int v4)]) hx hb dX0_layPairs_69 hl (by decide) rfl (fun ls hl => ?_)
          refine lv_aload_n hx hb dX0_layPairs_71 rfl (lv_at hl 2 rfl) ?_
          refine lv_aload_n hx hb dX0_layPairs_72 rfl (lv_at hl 3 rfl) ?_
          refine gt_1_0 (i := i1) C hP (hok.2.1 1 i1 h1) lk_X0_25 dX0_layPairs_73 ?_
          refine lv_iload hx hb dX0_layPairs_76 (lv_at hl 1 rfl) ?_
          refine lv_iload hx hb dX0_layPairs_78 (lv_at hl 0 rfl) ?_
          obtain ⟨z6, q7, hf⟩ := bsp hf
          refine kc_V (ci := 0) (i := 0) (As := [.ref (ad 7 i1), .int (gA w 38 i1 v4.toNatClampNeg), .int (gA w 39 i1 v4.toNatClampNeg)]) (rest := []) hok.2.2.1 C hP hS hl.1 (hok.2.1 0 0 (Nat.le_of_ble_eq_true rfl)) rfl rfl cw_X0_partSums ml_X0_80 (c_X0_partSums l D ca ad PL Z A hok N w i1 h1 (gA w 38 i1 v4.toNatClampNeg) (gA w 39 i1 v4.toNatClampNeg) z6 q7) rfl ⟨rfl, rfl⟩ ⟨Nat.le_of_ble_eq_true rfl, Nat.le_of_ble_eq_true rfl⟩ ⟨Nat.zero_le _, Nat.zero_le _⟩ (Nat.le_of_ble_eq_true rfl) rfl dX0_layPairs_80 (fun H locs hP hS => ?_)
          refine lv_istore (lv' := [(7, .int z6), (6, .int (gA w 39 i1 v4.toNatClampNeg)), (5, .int (gA w 38 i1 v4.toNatClampNeg)), (0, .ref (ad 0 0)), (1, .ref (ad 1 i1)), (2, .int v2), (3, .int v3), (4, .int v4)]) hx hb dX0_layPairs_83 hl (by decide) rfl (fun ls hl => ?_)
          refine lv_aload_n hx hb dX0_layPairs_85 rfl (lv_at hl 3 rfl) ?_
          refine lv_iload hx hb dX0_layPairs_86 (lv_at hl 2 rfl) ?_
          refine lv_iload hx hb dX0_layPairs_88 (lv_at hl 1 rfl) ?_
          refine lv_iload hx hb dX0_layPairs_90 (lv_at hl 0 rfl) ?_
          obtain ⟨z8, q9, hf⟩ := bsp hf
          refine kc_V (ci := 0) (i := 0) (As := [.int (gA w 38 i1 v4.toNatClampNeg), .int (gA w 39 i1 v4.toNatClampNeg), .int z6]) (rest := []) hok.2.2.1 C hP hS hl.1 (hok.2.1 0 0 (Nat.le_of_ble_eq_true rfl)) rfl rfl cw_X0_pave ml_X0_54 (c_X0_pave l D ca ad PL Z A hok N w (gA w 38 i1 v4.toNatClampNeg) (gA w 39 i1 v4.toNatClampNeg) z6 z8 q9) rfl ⟨rfl, rfl⟩ ⟨Nat.le_of_ble_eq_true rfl, Nat.le_of_ble_eq_true rfl⟩ ⟨Nat.zero_le _, Nat.zero_le _⟩ (Nat.le_of_ble_eq_true rfl) rfl dX0_layPairs_92 (fun H locs hP hS => ?_)
          refine lv_iload_n hx hb dX0_layPairs_95 rfl (lv_at hl 5 rfl) ?_
          refine lv_aload_n hx hb dX0_layPairs_96 rfl (lv_at hl 3 rfl) ?_
          refine lv_iload hx hb dX0_layPairs_97 (lv_at hl 2 rfl) ?_
          refine lv_iload hx hb dX0_layPairs_99 (lv_at hl 1 rfl) ?_
          refine lv_iload hx hb dX0_layPairs_101 (lv_at hl 0 rfl) ?_
          obtain ⟨z10, q11, hf⟩ := bsp hf
          refine kc_V (ci := 0) (i := 0) (As := [.int (gA w 38 i1 v4.toNatClampNeg), .int (gA w 39 i1 v4.toNatClampNeg), .int z6]) (rest := [.int v2]) hok.2.2.1 C hP hS hl.1 (hok.2.1 0 0 (Nat.le_of_ble_eq_true rfl)) rfl rfl cw_X0_lay ml_X0_50 (c_X0_lay l D ca ad PL Z A hok N z8 (gA w 38 i1 v4.toNatClampNeg) (gA w 39 i1 v4.toNatClampNeg) z6 z10.1 z10.2 q11) rfl ⟨rfl, rfl⟩ ⟨Nat.le_of_ble_eq_true rfl, Nat.le_of_ble_eq_true rfl⟩ ⟨Nat.zero_le _, Nat.zero_le _⟩ (Nat.le_of_ble_eq_true rfl) rfl dX0_layPairs_103 (fun H locs hP hS => ?_)
          refine lv_ior hx hb dX0_layPairs_106 ?_
          refine lv_istore_n (lv' := [(2, .int (v2 ||| z10.2)), (7, .int z6), (6, .int (gA w 39 i1 v4.toNatClampNeg)), (5, .int (gA w 38 i1 v4.toNatClampNeg)), (0, .ref (ad 0 0)), (1, .ref (ad 1 i1)), (3, .int v3), (4, .int v4)]) hx hb dX0_layPairs_107 rfl hl (by decide) rfl (fun ls hl => ?_)
          refine lv_iinc (v := (v4 + (1 : Int32))) (lv' := [(4, .int (v4 + (1 : Int32))), (2, .int (v2 ||| z10.2)), (7, .int z6), (6, .int (gA w 39 i1 v4.toNatClampNeg)), (5, .int (gA w 38 i1 v4.toNatClampNeg)), (0, .ref (ad 0 0)), (1, .ref (ad 1 i1)), (3, .int v3)]) hx hb dX0_layPairs_108 hl (k := 7) rfl rfl (by decide) rfl (fun ls hl => ?_)
          refine lv_goto (tgt := 19) hx hb dX0_layPairs_111 (by decide) ?_
          exact ih z10.1 (v2 ||| z10.2) (v4 + (1 : Int32)) hf _ _ ls hP hS (lv_sub hl [5, 6, 1, 7, 0] rfl)
  have L_lp_X0_layPairs_4 : ∀ (k : Mem → Option (Mem)) (hk : ∀ (w : Mem), k w = some w' → WP p l e (rmk 3) s m [.ref (ad 0 0), .ref (ad 1 i1)].toArray below meth c D ca ad PL A (MQ below (qcR D ca ad PL Z A w' none) [.ref (ad 0 0), .ref (ad 1 i1)].toArray s 0 0 A) 8 120 [] [] w) (n : Nat) (w : Mem) (v2 : Int32) (v3 : Int32), lp_X0_layPairs_4 k N  i1  n w v2 v3 = some w' → WP p l e (rmk 3) s m [.ref (ad 0 0), .ref (ad 1 i1)].toArray below meth c D ca ad PL A (MQ below (qcR D ca ad PL Z A w' none) [.ref (ad 0 0), .ref (ad 1 i1)].toArray s 0 0 A) 8 4 [] [(0, .ref (ad 0 0)), (1, .ref (ad 1 i1)), (2, .int v2), (3, .int v3)] w := by
    intro k hk n
    induction n with
    | zero => intro w v2 v3 hf; rw [lp_X0_layPairs_4] at hf; cases hf
    | succ n ih =>
      intro w v2 v3 hf _ _ ls hP hS hl
      rw [lp_X0_layPairs_4] at hf
      refine lv_iload_n hx hb dX0_layPairs_4 rfl (lv_at hl 2 rfl) ?_
      refine lv_if_eq (tgt := 120) hx hb dX0_layPairs_5 (by decide) (fun c15 => ?_) (fun c15 => ?_)
      · have hf := ifp hf c15
        exact hk w hf _ _ ls hP hS (lv_sub hl [] rfl)
      · have hf := ifn hf c15
        refine lv_iload_n hx hb dX0_layPairs_8 rfl (lv_at hl 3 rfl) ?_
        refine lv_ldc (v := (1000000 : Int32)) hx hb hown (hts _ kc_X0_62) dX0_layPairs_9 ?_
        refine lv_icmp_ge (tgt := 120) hx hb dX0_layPairs_11 (by decide) (fun c14 => ?_) (fun c14 => ?_)
        · have hf := ifp hf c14
          exact hk w hf _ _ ls hP hS (lv_sub hl [] rfl)
        · have hf := ifn hf c14
          refine lv_iconst (v := (0 : Int32)) hx hb dX0_layPairs_14 (by decide) ?_
          refine lv_istore_n (lv' := [(2, .int (0 : Int32)), (0, .ref (ad 0 0)), (1, .ref (ad 1 i1)), (3, .int v3)]) hx hb dX0_layPairs_15 rfl hl (by decide) rfl (fun ls hl => ?_)
          refine lv_iconst (v := (0 : Int32)) hx hb dX0_layPairs_16 (by decide) ?_
          refine lv_istore (lv' := [(4, .int (0 : Int32)), (2, .int (0 : Int32)), (0, .ref (ad 0 0)), (1, .ref (ad 1 i1)), (3, .int v3)]) hx hb dX0_layPairs_17 hl (by decide) rfl (fun ls hl => ?_)
          exact L_lp_X0_layPairs_19 v3 _ (fun w_2 u2_2 hf H locs ls hP hS hl => P_f_X0_layPairs_114_4 _ ih _ hk w_2 u2_2 v3 hf _ _ ls hP hS (lv_sub hl [0, 1, 2, 3] rfl)) N w (0 : Int32) (0 : Int32) hf _ _ ls hP hS (lv_sub hl [2, 3, 1, 4, 0] rfl)
  unfold f_X0_layPairs at hf
  -- walk
  refine lv_iconst (v := (1 : Int32)) hx hb dX0_layPairs_0 (by decide) ?_
  refine lv_istore_n (lv' := [(2, .int (1 : Int32)), (0, .ref (ad 0 0)), (1, .ref (ad 1 i1))]) hx hb dX0_layPairs_1 rfl hl (by decide) rfl (fun ls hl => ?_)
  refine lv_iconst (v := (0 : Int32)) hx hb dX0_layPairs_2 (by decide) ?_
  refine lv_istore_n (lv' := [(3, .int (0 : Int32)), (2, .int (1 : Int32)), (0, .ref (ad 0 0)), (1, .ref (ad 1 i1))]) hx hb dX0_layPairs_3 rfl hl (by decide) rfl (fun ls hl => ?_)
  exact L_lp_X0_layPairs_4 _ (fun w_1 hf H locs ls hP hS hl => P_f_X0_layPairs_120 w_1 hf _ _ ls hP hS (lv_sub hl [] rfl)) N w (1 : Int32) (0 : Int32) hf _ _ ls hP hS (lv_sub hl [2, 3, 1, 0] rfl)
def f_X0_settle_131 (N : Nat) (w : Mem) (i1 : Nat) : Option (Mem) :=
  (Option.bind (f_X0_layPairs N w i1) (fun z4 => some (sF z4 0 4 0 (1 : Int32))))
def lp_X0_settle_82 (k : Mem → Option (Mem)) (N : Nat) (i1 : Nat) : Nat → Mem → Int32 → Option (Mem)
  | 0, _, _ => none
  | n + 1, w, v2 => (if (gF w 1 9 i1) ≤ v2 then
(k w)
else
(if inb v2 12 = true then (Option.bind (f_X0_lay N w (gA w 13 i1 v2.toNatClampNeg) (gA w 14 i1 v2.toNatClampNeg) (1 : Int32)) (fun z7 => (Option.bind (f_X0_pave N z7.1 (gA z7.1 13 i1 v2.toNatClampNeg) (gA z7.1 14 i1 v2.toNatClampNeg) (1 : Int32)) (fun z9 => (lp_X0_settle_82 k N  i1  n z9 (v2 + (1 : Int32))))))) else none))
def f_X0_settle_80 (N : Nat) (w : Mem) (i1 : Nat) : Option (Mem) :=
  (lp_X0_settle_82 (fun (w_3 : Mem) => (f_X0_settle_131 N w_3 i1  )) N  i1  N w (0 : Int32))
def lp_X0_settle_54 (k : Mem → Option (Mem)) (N : Nat) (i1 : Nat) : Nat → Mem → Int32 → Option (Mem)
  | 0, _, _ => none
  | n + 1, w, v2 => (if (gF w 0 3 0) ≤ v2 then
(k w)
else
(if inb ((v2 * (24 : Int32)) + v2) 576 = true then (lp_X0_settle_54 k N  i1  n (sA w 10 0 ((v2 * (24 : Int32)) + v2).toNatClampNeg (0 : Int32)) (v2 + (1 : Int32))) else none))
def f_X0_settle_52 (N : Nat) (w : Mem) (i1 : Nat) : Option (Mem) :=
  (lp_X0_settle_54 (fun (w_2 : Mem) => (f_X0_settle_80 N w_2 i1  )) N  i1  N w (0 : Int32))
def lp_X0_settle_21 (k : Mem → Option (Mem)) (N : Nat) (i1 : Nat) : Nat → Mem → Int32 → Option (Mem)
  | 0, _, _ => none
  | n + 1, w, v2 => (if (576 : Int32) ≤ v2 then
(k w)
else
(if inb v2 576 = true then (lp_X0_settle_21 k N  i1  n (sA (sA w 10 0 v2.toNatClampNeg (1000000000 : Int32)) 11 0 v2.toNatClampNeg (1000000001 : Int32)) (v2 + (1 : Int32))) else none))
def f_X0_settle (N : Nat) (w : Mem) (i1 : Nat) : Option (Mem) :=
  (if (gF w 0 4 0) = (0 : Int32) then
(lp_X0_settle_21 (fun (w_1 : Mem) => (f_X0_settle_52 N w_1 i1  )) N  i1  N (sF w 0 3 0 (gF w 7 10 i1)) (0 : Int32))
else
some w)
set_option maxRecDepth 100000 in
set_option maxHeartbeats 4000000 in
theorem c_X0_settle (l : Launch) (D : va_G) (ca : Nat → ClassId) (ad : Nat → Nat → Nat) (PL : List (Nat × Nat)) (Z : State → Prop) (A : Nat → Prop) (hok : okc bX Z A ad PL) (N : Nat) (w : Mem) (i1 : Nat) (h1 : i1 < 2) (w' : Mem) (hf : f_X0_settle N w i1 = some w') : CT l yX0_settle (wsy yX0_settle cX0_settle 3 none) (rmk 4) D ca ad PL Z A [.ref (ad 0 0), .ref (ad 1 i1)] w w' none := by
  refine Met.ofW (cc := cX0_settle) (maxL := 3) (ret := none) (by decide +kernel) rfl ?_
  intro p e s m args below meth c s₁ B hml hv
  obtain ⟨rfl, hP, hK, hZ⟩ := hv
  have hx := B.exec
  have hb := B.bytes
  have hr := B.returns
  have hlocks := B.notSynchronized
  have hts : ∀ w ∈ ALL, w.before _ s = true := fun w hw => atoms_spec (ws := wsy yX0_settle cX0_settle 3 none) B.pre w (List.mem_cons_of_mem _ hw)
  have hown : s.vm.findClass RX0 = some m.cls := findClass_of_methodNamed B.named
  have C : CX p s m _ c cX0_settle RX0 3 D ca Z := ⟨hx, hb, hml, hown, hts, hK, hZ⟩
  have hS : va_S A s.heap s.heap [] := va_S.rf
  have hl := lv_entry ([.ref (ad 0 0), .ref (ad 1 i1)]) (n := 3) (Nat.le_of_ble_eq_true rfl)
  rw [lg_entry_eq]
  generalize (lg_sl ([.ref (ad 0 0), .ref (ad 1 i1)]) ++ List.replicate (3 - (lg_sl ([.ref (ad 0 0), .ref (ad 1 i1)])).length) Slot.unset).toArray = ls at hl ⊢
  have hl : lv_has ls 3 [(0, .ref (ad 0 0)), (1, .ref (ad 1 i1))] := hl
  show W p l e (rmk 4) s m _ below meth c s.heap [] 0 0 _ _
  have P_f_X0_settle_131 : ∀ (w : Mem), f_X0_settle_131 N w i1   = some w' → WP p l e (rmk 4) s m [.ref (ad 0 0), .ref (ad 1 i1)].toArray below meth c D ca ad PL A (MQ below (qcR D ca ad PL Z A w' none) [.ref (ad 0 0), .ref (ad 1 i1)].toArray s 0 0 A) 3 131 [] [(0, .ref (ad 0 0)), (1, .ref (ad 1 i1))] w := by
    intro w hf _ _ ls hP hS hl
    unfold f_X0_settle_131 at hf
    refine lv_aload_n hx hb dX0_settle_131 rfl (lv_at hl 0 rfl) ?_
    refine lv_aload_n hx hb dX0_settle_132 rfl (lv_at hl 1 rfl) ?_
    obtain ⟨z4, q5, hf⟩ := bsp hf
    refine kc_V (ci := 0) (i := 0) (As := [.ref (ad 1 i1)]) (rest := []) hok.2.2.1 C hP hS hl.1 (hok.2.1 0 0 (Nat.le_of_ble_eq_true rfl)) rfl rfl cw_X0_layPairs ml_X0_58 (c_X0_layPairs l D ca ad PL Z A hok N w i1 h1 z4 q5) rfl ⟨rfl, rfl⟩ ⟨Nat.le_of_ble_eq_true rfl, Nat.le_of_ble_eq_true rfl⟩ ⟨Nat.zero_le _, Nat.zero_le _⟩ (Nat.le_of_ble_eq_true rfl) rfl dX0_settle_133 (fun H locs hP hS => ?_)
    refine lv_aload_n hx hb dX0_settle_136 rfl (lv_at hl 0 rfl) ?_
    refine lv_iconst (v := (1 : Int32)) hx hb dX0_settle_137 (by decide) ?_
    refine pt_0_4 (i := 0) (v := (1 : Int32)) C hok.1 hP hS (hok.2.1 0 0 (Nat.le_of_ble_eq_true rfl)) (Or.inr rfl) lk_X0_21 dX0_settle_138 (fun H locs hP hS => ?_)
    exact kr_v hok.2.2.1 C hlocks hr hP hS (Option.some.inj hf) dX0_settle_141
  have L_lp_X0_settle_82 : ∀ (k : Mem → Option (Mem)) (hk : ∀ (w : Mem), k w = some w' → WP p l e (rmk 4) s m [.ref (ad 0 0), .ref (ad 1 i1)].toArray below meth c D ca ad PL A (MQ below (qcR D ca ad PL Z A w' none) [.ref (ad 0 0), .ref (ad 1 i1)].toArray s 0 0 A) 3 131 [] [(0, .ref (ad 0 0)), (1, .ref (ad 1 i1))] w) (n : Nat) (w : Mem) (v2 : Int32), lp_X0_settle_82 k N  i1  n w v2 = some w' → WP p l e (rmk 4) s m [.ref (ad 0 0), .ref (ad 1 i1)].toArray below meth c D ca ad PL A (MQ below (qcR D ca ad PL Z A w' none) [.ref (ad 0 0), .ref (ad 1 i1)].toArray s 0 0 A) 3 82 [] [(0, .ref (ad 0 0)), (1, .ref (ad 1 i1)), (2, .int v2)] w := by
    intro k hk n
    induction n with
    | zero => intro w v2 hf; rw [lp_X0_settle_82] at hf; cases hf
    | succ n ih =>
      intro w v2 hf _ _ ls hP hS hl
      rw [lp_X0_settle_82] at hf
      refine lv_iload_n hx hb dX0_settle_82 rfl (lv_at hl 2 rfl) ?_
      refine lv_aload_n hx hb dX0_settle_83 rfl (lv_at hl 1 rfl) ?_
      refine gt_1_9 (i := i1) C hP (hok.2.1 1 i1 h1) lk_X0_41 dX0_settle_84 ?_
      refine lv_icmp_ge (tgt := 131) hx hb dX0_settle_87 (by decide) (fun c11 => ?_) (fun c11 => ?_)
      · have hf := ifp hf c11
        exact hk w hf _ _ ls hP hS (lv_sub hl [0, 1] rfl)
      · have hf := ifn hf c11
        refine lv_aload_n hx hb dX0_settle_90 rfl (lv_at hl 0 rfl) ?_
        refine lv_aload_n hx hb dX0_settle_91 rfl (lv_at hl 1 rfl) ?_
        refine gt_1_3 (i := i1) C hP (hok.2.1 1 i1 h1) lk_X0_44 dX0_settle_92 ?_
        refine lv_iload_n hx hb dX0_settle_95 rfl (lv_at hl 2 rfl) ?_
        obtain ⟨b6, hf⟩ := gsp hf
        refine ra_ild (k := 13) (i := i1) (n := 12) (f := (gA w 13 i1)) C hP (hok.2.1 13 i1 h1) rfl b6 dX0_settle_96 ?_
        refine lv_aload_n hx hb dX0_settle_97 rfl (lv_at hl 1 rfl) ?_
        refine gt_1_4 (i := i1) C hP (hok.2.1 1 i1 h1) lk_X0_47 dX0_settle_98 ?_
        refine lv_iload_n hx hb dX0_settle_101 rfl (lv_at hl 2 rfl) ?_
        refine ra_ild (k := 14) (i := i1) (n := 12) (f := (gA w 14 i1)) C hP (hok.2.1 14 i1 h1) rfl b6 dX0_settle_102 ?_
        refine lv_iconst (v := (1 : Int32)) hx hb dX0_settle_103 (by decide) ?_
        obtain ⟨z7, q8, hf⟩ := bsp hf
        refine kc_V (ci := 0) (i := 0) (As := [.int (gA w 13 i1 v2.toNatClampNeg), .int (gA w 14 i1 v2.toNatClampNeg), .int (1 : Int32)]) (rest := []) hok.2.2.1 C hP hS hl.1 (hok.2.1 0 0 (Nat.le_of_ble_eq_true rfl)) rfl rfl cw_X0_lay ml_X0_50 (c_X0_lay l D ca ad PL Z A hok N w (gA w 13 i1 v2.toNatClampNeg) (gA w 14 i1 v2.toNatClampNeg) (1 : Int32) z7.1 z7.2 q8) rfl ⟨rfl, rfl⟩ ⟨Nat.le_of_ble_eq_true rfl, Nat.le_of_ble_eq_true rfl⟩ ⟨Nat.zero_le _, Nat.zero_le _⟩ (Nat.le_of_ble_eq_true rfl) rfl dX0_settle_104 (fun H locs hP hS => ?_)
        refine lv_pop hx hb dX0_settle_107 rfl ?_
        refine lv_aload_n hx hb dX0_settle_108 rfl (lv_at hl 0 rfl) ?_
        refine lv_aload_n hx hb dX0_settle_109 rfl (lv_at hl 1 rfl) ?_
        refine gt_1_3 (i := i1) C hP (hok.2.1 1 i1 h1) lk_X0_44 dX0_settle_110 ?_
        refine lv_iload_n hx hb dX0_settle_113 rfl (lv_at hl 2 rfl) ?_
        refine ra_ild (k := 13) (i := i1) (n := 12) (f := (gA z7.1 13 i1)) C hP (hok.2.1 13 i1 h1) rfl b6 dX0_settle_114 ?_
        refine lv_aload_n hx hb dX0_settle_115 rfl (lv_at hl 1 rfl) ?_
        refine gt_1_4 (i := i1) C hP (hok.2.1 1 i1 h1) lk_X0_47 dX0_settle_116 ?_
        refine lv_iload_n hx hb dX0_settle_119 rfl (lv_at hl 2 rfl) ?_
        refine ra_ild (k := 14) (i := i1) (n := 12) (f := (gA z7.1 14 i1)) C hP (hok.2.1 14 i1 h1) rfl b6 dX0_settle_120 ?_
        refine lv_iconst (v := (1 : Int32)) hx hb dX0_settle_121 (by decide) ?_
        obtain ⟨z9, q10, hf⟩ := bsp hf
        refine kc_V (ci := 0) (i := 0) (As := [.int (gA z7.1 13 i1 v2.toNatClampNeg), .int (gA z7.1 14 i1 v2.toNatClampNeg), .int (1 : Int32)]) (rest := []) hok.2.2.1 C hP hS hl.1 (hok.2.1 0 0 (Nat.le_of_ble_eq_true rfl)) rfl rfl cw_X0_pave ml_X0_54 (c_X0_pave l D ca ad PL Z A hok N z7.1 (gA z7.1 13 i1 v2.toNatClampNeg) (gA z7.1 14 i1 v2.toNatClampNeg) (1 : Int32) z9 q10) rfl ⟨rfl, rfl⟩ ⟨Nat.le_of_ble_eq_true rfl, Nat.le_of_ble_eq_true rfl⟩ ⟨Nat.zero_le _, Nat.zero_le _⟩ (Nat.le_of_ble_eq_true rfl) rfl dX0_settle_122 (fun H locs hP hS => ?_)
        refine lv_iinc (v := (v2 + (1 : Int32))) (lv' := [(2, .int (v2 + (1 : Int32))), (0, .ref (ad 0 0)), (1, .ref (ad 1 i1))]) hx hb dX0_settle_125 hl (k := 2) rfl rfl (by decide) rfl (fun ls hl => ?_)
        refine lv_goto (tgt := 82) hx hb dX0_settle_128 (by decide) ?_
        exact ih z9 (v2 + (1 : Int32)) hf _ _ ls hP hS (lv_sub hl [1, 2, 0] rfl)
  have P_f_X0_settle_80 : ∀ (w : Mem), f_X0_settle_80 N w i1   = some w' → WP p l e (rmk 4) s m [.ref (ad 0 0), .ref (ad 1 i1)].toArray below meth c D ca ad PL A (MQ below (qcR D ca ad PL Z A w' none) [.ref (ad 0 0), .ref (ad 1 i1)].toArray s 0 0 A) 3 80 [] [(0, .ref (ad 0 0)), (1, .ref (ad 1 i1))] w := by
    intro w hf _ _ ls hP hS hl
    unfold f_X0_settle_80 at hf
    refine lv_iconst (v := (0 : Int32)) hx hb dX0_settle_80 (by decide) ?_
    refine lv_istore_n (lv' := [(2, .int (0 : Int32)), (0, .ref (ad 0 0)), (1, .ref (ad 1 i1))]) hx hb dX0_settle_81 rfl hl (by decide) rfl (fun ls hl => ?_)
    exact L_lp_X0_settle_82 _ (fun w_3 hf H locs ls hP hS hl => P_f_X0_settle_131 w_3 hf _ _ ls hP hS (lv_sub hl [0, 1] rfl)) N w (0 : Int32) hf _ _ ls hP hS (lv_sub hl [1, 2, 0] rfl)
  have L_lp_X0_settle_54 : ∀ (k : Mem → Option (Mem)) (hk : ∀ (w : Mem), k w = some w' → WP p l e (rmk 4) s m [.ref (ad 0 0), .ref (ad 1 i1)].toArray below meth c D ca ad PL A (MQ below (qcR D ca ad PL Z A w' none) [.ref (ad 0 0), .ref (ad 1 i1)].toArray s 0 0 A) 3 80 [] [(0, .ref (ad 0 0)), (1, .ref (ad 1 i1))] w) (n : Nat) (w : Mem) (v2 : Int32), lp_X0_settle_54 k N  i1  n w v2 = some w' → WP p l e (rmk 4) s m [.ref (ad 0 0), .ref (ad 1 i1)].toArray below meth c D ca ad PL A (MQ below (qcR D ca ad PL Z A w' none) [.ref (ad 0 0), .ref (ad 1 i1)].toArray s 0 0 A) 3 54 [] [(0, .ref (ad 0 0)), (1, .ref (ad 1 i1)), (2, .int v2)] w := by
    intro k hk n
    induction n with
    | zero => intro w v2 hf; rw [lp_X0_settle_54] at hf; cases hf
    | succ n ih =>
      intro w v2 hf _ _ ls hP hS hl
      rw [lp_X0_settle_54] at hf
      refine lv_iload_n hx hb dX0_settle_54 rfl (lv_at hl 2 rfl) ?_
      refine lv_aload_n hx hb dX0_settle_55 rfl (lv_at hl 0 rfl) ?_
      refine gt_0_3 (i := 0) C hP (hok.2.1 0 0 (Nat.le_of_ble_eq_true rfl)) lk_X0_37 dX0_settle_56 ?_
      refine lv_icmp_ge (tgt := 80) hx hb dX0_settle_59 (by decide) (fun c13 => ?_) (fun c13 => ?_)
      · have hf := ifp hf c13
        exact hk w hf _ _ ls hP hS (lv_sub hl [0, 1] rfl)
      · have hf := ifn hf c13
        refine lv_aload_n hx hb dX0_settle_62 rfl (lv_at hl 0 rfl) ?_
        refine gt_0_0 (i := 0) C hP (hok.2.1 0 0 (Nat.le_of_ble_eq_true rfl)) lk_X0_9 dX0_settle_63 ?_
        refine lv_iload_n hx hb dX0_settle_66 rfl (lv_at hl 2 rfl) ?_
        refine lv_bipush (v := (24 : Int32)) hx hb dX0_settle_67 (by decide) ?_
        refine lv_imul hx hb dX0_settle_69 ?_
        refine lv_iload_n hx hb dX0_settle_70 rfl (lv_at hl 2 rfl) ?_
        refine lv_iadd hx hb dX0_settle_71 ?_
        refine lv_iconst (v := (0 : Int32)) hx hb dX0_settle_72 (by decide) ?_
        obtain ⟨b12, hf⟩ := gsp hf
        refine ra_ist (k := 10) (i := 0) (n := 576) C hok.1 hP hS (hok.2.1 10 0 (Nat.le_of_ble_eq_true rfl)) (fun _ => rfl) b12 dX0_settle_73 (fun H locs hP hS => ?_)
        refine lv_iinc (v := (v2 + (1 : Int32))) (lv' := [(2, .int (v2 + (1 : Int32))), (0, .ref (ad 0 0)), (1, .ref (ad 1 i1))]) hx hb dX0_settle_74 hl (k := 2) rfl rfl (by decide) rfl (fun ls hl => ?_)
        refine lv_goto (tgt := 54) hx hb dX0_settle_77 (by decide) ?_
        exact ih (sA w 10 0 ((v2 * (24 : Int32)) + v2).toNatClampNeg (0 : Int32)) (v2 + (1 : Int32)) hf _ _ ls hP hS (lv_sub hl [1, 2, 0] rfl)
  have P_f_X0_settle_52 : ∀ (w : Mem), f_X0_settle_52 N w i1   = some w' → WP p l e (rmk 4) s m [.ref (ad 0 0), .ref (ad 1 i1)].toArray below meth c D ca ad PL A (MQ below (qcR D ca ad PL Z A w' none) [.ref (ad 0 0), .ref (ad 1 i1)].toArray s 0 0 A) 3 52 [] [(0, .ref (ad 0 0)), (1, .ref (ad 1 i1))] w := by
    intro w hf _ _ ls hP hS hl
    unfold f_X0_settle_52 at hf
    refine lv_iconst (v := (0 : Int32)) hx hb dX0_settle_52 (by decide) ?_
    refine lv_istore_n (lv' := [(2, .int (0 : Int32)), (0, .ref (ad 0 0)), (1, .ref (ad 1 i1))]) hx hb dX0_settle_53 rfl hl (by decide) rfl (fun ls hl => ?_)
    exact L_lp_X0_settle_54 _ (fun w_2 hf H locs ls hP hS hl => P_f_X0_settle_80 w_2 hf _ _ ls hP hS (lv_sub hl [0, 1] rfl)) N w (0 : Int32) hf _ _ ls hP hS (lv_sub hl [1, 2, 0] rfl)
  have L_lp_X0_settle_21 : ∀ (k : Mem → Option (Mem)) (hk : ∀ (w : Mem), k w = some w' → WP p l e (rmk 4) s m [.ref (ad 0 0), .ref (ad 1 i1)].toArray below meth c D ca ad PL A (MQ below (qcR D ca ad PL Z A w' none) [.ref (ad 0 0), .ref (ad 1 i1)].toArray s 0 0 A) 3 52 [] [(0, .ref (ad 0 0)), (1, .ref (ad 1 i1))] w) (n : Nat) (w : Mem) (v2 : Int32), lp_X0_settle_21 k N  i1  n w v2 = some w' → WP p l e (rmk 4) s m [.ref (ad 0 0), .ref (ad 1 i1)].toArray below meth c D ca ad PL A (MQ below (qcR D ca ad PL Z A w' none) [.ref (ad 0 0), .ref (ad 1 i1)].toArray s 0 0 A) 3 21 [] [(0, .ref (ad 0 0)), (1, .ref (ad 1 i1)), (2, .int v2)] w := by
    intro k hk n
    induction n with
    | zero => intro w v2 hf; rw [lp_X0_settle_21] at hf; cases hf
    | succ n ih =>
      intro w v2 hf _ _ ls hP hS hl
      rw [lp_X0_settle_21] at hf
      refine lv_iload_n hx hb dX0_settle_21 rfl (lv_at hl 2 rfl) ?_
      refine lv_aload_n hx hb dX0_settle_22 rfl (lv_at hl 0 rfl) ?_
      refine gt_0_0 (i := 0) C hP (hok.2.1 0 0 (Nat.le_of_ble_eq_true rfl)) lk_X0_9 dX0_settle_23 ?_
      refine ra_len (n := 576) (t0 := 0) (q := ca 0) (v := (576 : Int32)) C hP (hok.2.1 10 0 (Nat.le_of_ble_eq_true rfl)) rfl rfl (by decide) dX0_settle_26 ?_
      refine lv_icmp_ge (tgt := 52) hx hb dX0_settle_27 (by decide) (fun c15 => ?_) (fun c15 => ?_)
      · have hf := ifp hf c15
        exact hk w hf _ _ ls hP hS (lv_sub hl [0, 1] rfl)
      · have hf := ifn hf c15
        refine lv_aload_n hx hb dX0_settle_30 rfl (lv_at hl 0 rfl) ?_
        refine gt_0_0 (i := 0) C hP (hok.2.1 0 0 (Nat.le_of_ble_eq_true rfl)) lk_X0_9 dX0_settle_31 ?_
        refine lv_iload_n hx hb dX0_settle_34 rfl (lv_at hl 2 rfl) ?_
        refine lv_ldc (v := (1000000000 : Int32)) hx hb hown (hts _ kc_X0_39) dX0_settle_35 ?_
        obtain ⟨b14, hf⟩ := gsp hf
        refine ra_ist (k := 10) (i := 0) (n := 576) C hok.1 hP hS (hok.2.1 10 0 (Nat.le_of_ble_eq_true rfl)) (fun _ => rfl) b14 dX0_settle_37 (fun H locs hP hS => ?_)
        refine lv_aload_n hx hb dX0_settle_38 rfl (lv_at hl 0 rfl) ?_
        refine gt_0_1 (i := 0) C hP (hok.2.1 0 0 (Nat.le_of_ble_eq_true rfl)) lk_X0_15 dX0_settle_39 ?_
        refine lv_iload_n hx hb dX0_settle_42 rfl (lv_at hl 2 rfl) ?_
        refine lv_ldc (v := (1000000001 : Int32)) hx hb hown (hts _ kc_X0_40) dX0_settle_43 ?_
        refine ra_ist (k := 11) (i := 0) (n := 576) C hok.1 hP hS (hok.2.1 11 0 (Nat.le_of_ble_eq_true rfl)) (fun _ => rfl) b14 dX0_settle_45 (fun H locs hP hS => ?_)
        refine lv_iinc (v := (v2 + (1 : Int32))) (lv' := [(2, .int (v2 + (1 : Int32))), (0, .ref (ad 0 0)), (1, .ref (ad 1 i1))]) hx hb dX0_settle_46 hl (k := 2) rfl rfl (by decide) rfl (fun ls hl => ?_)
        refine lv_goto (tgt := 21) hx hb dX0_settle_49 (by decide) ?_
        exact ih (sA (sA w 10 0 v2.toNatClampNeg (1000000000 : Int32)) 11 0 v2.toNatClampNeg (1000000001 : Int32)) (v2 + (1 : Int32)) hf _ _ ls hP hS (lv_sub hl [1, 2, 0] rfl)
  unfold f_X0_settle at hf
  -- walk
  refine lv_aload_n hx hb dX0_settle_0 rfl (lv_at hl 0 rfl) ?_
  refine gt_0_4 (i := 0) C hP (hok.2.1 0 0 (Nat.le_of_ble_eq_true rfl)) lk_X0_21 dX0_settle_1 ?_
  refine lv_if_eq (tgt := 8) hx hb dX0_settle_4 (by decide) (fun c16 => ?_) (fun c16 => ?_)
  · have hf := ifp hf c16
    refine lv_aload_n hx hb dX0_settle_8 rfl (lv_at hl 0 rfl) ?_
    refine lv_aload_n hx hb dX0_settle_9 rfl (lv_at hl 1 rfl) ?_
    refine gt_1_0 (i := i1) C hP (hok.2.1 1 i1 h1) lk_X0_25 dX0_settle_10 ?_
    refine gt_7_10 (i := i1) C hP (hok.2.1 7 i1 h1) lk_X0_31 dX0_settle_13 ?_
    refine pt_0_3 (i := 0) (v := (gF w 7 10 i1)) C hok.1 hP hS (hok.2.1 0 0 (Nat.le_of_ble_eq_true rfl)) lk_X0_37 dX0_settle_16 (fun H locs hP hS => ?_)
    refine lv_iconst (v := (0 : Int32)) hx hb dX0_settle_19 (by decide) ?_
    refine lv_istore_n (lv' := [(2, .int (0 : Int32)), (0, .ref (ad 0 0)), (1, .ref (ad 1 i1))]) hx hb dX0_settle_20 rfl hl (by decide) rfl (fun ls hl => ?_)
    exact L_lp_X0_settle_21 _ (fun w_1 hf H locs ls hP hS hl => P_f_X0_settle_52 w_1 hf _ _ ls hP hS (lv_sub hl [0, 1] rfl)) N (sF w 0 3 0 (gF w 7 10 i1)) (0 : Int32) hf _ _ ls hP hS (lv_sub hl [1, 2, 0] rfl)
  · have hf := ifn hf c16
    exact kr_v hok.2.2.1 C hlocks hr hP hS (Option.some.inj hf) dX0_settle_7
def f_X0_onwardSum (N : Nat) (w : Mem) (x1 : Int32) (x2 : Int32) (x3 : Int32) (x4 : Int32) : Option (Int32) :=
  (if inb ((x2 * (24 : Int32)) + x3) 576 = true then (if inb ((x4 * (24 : Int32)) + x3) 576 = true then (if (gA w 11 0 ((x2 * (24 : Int32)) + x3).toNatClampNeg) = (1000000001 : Int32) then
some (1000000001 : Int32)
else
(if (gA w 12 0 ((x4 * (24 : Int32)) + x3).toNatClampNeg) = (1000000001 : Int32) then
some (1000000001 : Int32)
else
(Option.bind (f_X0_plus N w x1 (gA w 11 0 ((x2 * (24 : Int32)) + x3).toNatClampNeg)) (fun z3 => (Option.bind (f_X0_plus N w z3 (gA w 12 0 ((x4 * (24 : Int32)) + x3).toNatClampNeg)) (fun z5 => some z5)))))) else none) else none)
set_option maxRecDepth 100000 in
set_option maxHeartbeats 4000000 in
theorem c_X0_onwardSum (l : Launch) (D : va_G) (ca : Nat → ClassId) (ad : Nat → Nat → Nat) (PL : List (Nat × Nat)) (Z : State → Prop) (A : Nat → Prop) (hok : okc bX Z A ad PL) (N : Nat) (w : Mem) (x1 : Int32) (x2 : Int32) (x3 : Int32) (x4 : Int32) (r : Int32) (hf : f_X0_onwardSum N w x1 x2 x3 x4 = some r) : CT l yX0_onwardSum (wsy yX0_onwardSum cX0_onwardSum 7 (some .int)) (rmk 2) D ca ad PL Z A [.ref (ad 0 0), .int x1, .int x2, .int x3, .int x4] w w (some (.int r)) := by
  refine Met.ofW (cc := cX0_onwardSum) (maxL := 7) (ret := (some .int)) (by decide +kernel) rfl ?_
  intro p e s m args below meth c s₁ B hml hv
  obtain ⟨rfl, hP, hK, hZ⟩ := hv
  have hx := B.exec
  have hb := B.bytes
  have hr := B.returns
  have hlocks := B.notSynchronized
  have hts : ∀ w ∈ ALL, w.before _ s = true := fun w hw => atoms_spec (ws := wsy yX0_onwardSum cX0_onwardSum 7 (some .int)) B.pre w (List.mem_cons_of_mem _ hw)
  have hown : s.vm.findClass RX0 = some m.cls := findClass_of_methodNamed B.named
  have C : CX p s m _ c cX0_onwardSum RX0 7 D ca Z := ⟨hx, hb, hml, hown, hts, hK, hZ⟩
  have hS : va_S A s.heap s.heap [] := va_S.rf
  have hl := lv_entry ([.ref (ad 0 0), .int x1, .int x2, .int x3, .int x4]) (n := 7) (Nat.le_of_ble_eq_true rfl)
  rw [lg_entry_eq]
  generalize (lg_sl ([.ref (ad 0 0), .int x1, .int x2, .int x3, .int x4]) ++ List.replicate (7 - (lg_sl ([.ref (ad 0 0), .int x1, .int x2, .int x3, .int x4])).length) Slot.unset).toArray = ls at hl ⊢
  have hl : lv_has ls 7 [(0, .ref (ad 0 0)), (1, .int x1), (2, .int x2), (3, .int x3), (4, .int x4)] := hl
  show W p l e (rmk 2) s m _ below meth c s.heap [] 0 0 _ _
  unfold f_X0_onwardSum at hf
  -- walk
  refine lv_aload_n hx hb dX0_onwardSum_0 rfl (lv_at hl 0 rfl) ?_
  refine gt_0_1 (i := 0) C hP (hok.2.1 0 0 (Nat.le_of_ble_eq_true rfl)) lk_X0_15 dX0_onwardSum_1 ?_
  refine lv_iload_n hx hb dX0_onwardSum_4 rfl (lv_at hl 2 rfl) ?_
  refine lv_bipush (v := (24 : Int32)) hx hb dX0_onwardSum_5 (by decide) ?_
  refine lv_imul hx hb dX0_onwardSum_7 ?_
  refine lv_iload_n hx hb dX0_onwardSum_8 rfl (lv_at hl 3 rfl) ?_
  refine lv_iadd hx hb dX0_onwardSum_9 ?_
  obtain ⟨b1, hf⟩ := gsp hf
  refine ra_ild (k := 11) (i := 0) (n := 576) (f := (gA w 11 0)) C hP (hok.2.1 11 0 (Nat.le_of_ble_eq_true rfl)) rfl b1 dX0_onwardSum_10 ?_
  refine lv_istore (lv' := [(5, .int (gA w 11 0 ((x2 * (24 : Int32)) + x3).toNatClampNeg)), (0, .ref (ad 0 0)), (1, .int x1), (2, .int x2), (3, .int x3), (4, .int x4)]) hx hb dX0_onwardSum_11 hl (by decide) rfl (fun ls hl => ?_)
  refine lv_aload_n hx hb dX0_onwardSum_13 rfl (lv_at hl 1 rfl) ?_
  refine gt_0_2 (i := 0) C hP (hok.2.1 0 0 (Nat.le_of_ble_eq_true rfl)) lk_X0_18 dX0_onwardSum_14 ?_
  refine lv_iload hx hb dX0_onwardSum_17 (lv_at hl 5 rfl) ?_
  refine lv_bipush (v := (24 : Int32)) hx hb dX0_onwardSum_19 (by decide) ?_
  refine lv_imul hx hb dX0_onwardSum_21 ?_
  refine lv_iload_n hx hb dX0_onwardSum_22 rfl (lv_at hl 4 rfl) ?_
  refine lv_iadd hx hb dX0_onwardSum_23 ?_
  obtain ⟨b2, hf⟩ := gsp hf
  refine ra_ild (k := 12) (i := 0) (n := 576) (f := (gA w 12 0)) C hP (hok.2.1 12 0 (Nat.le_of_ble_eq_true rfl)) rfl b2 dX0_onwardSum_24 ?_
  refine lv_istore (lv' := [(6, .int (gA w 12 0 ((x4 * (24 : Int32)) + x3).toNatClampNeg)), (5, .int (gA w 11 0 ((x2 * (24 : Int32)) + x3).toNatClampNeg)), (0, .ref (ad 0 0)), (1, .int x1), (2, .int x2), (3, .int x3), (4, .int x4)]) hx hb dX0_onwardSum_25 hl (by decide) rfl (fun ls hl => ?_)
  refine lv_iload hx hb dX0_onwardSum_27 (lv_at hl 1 rfl) ?_
  refine lv_ldc (v := (1000000001 : Int32)) hx hb hown (hts _ kc_X0_40) dX0_onwardSum_29 ?_
  refine lv_icmp_eq (tgt := 41) hx hb dX0_onwardSum_31 (by decide) (fun c8 => ?_) (fun c8 => ?_)
  · have hf := ifp hf c8
    refine lv_ldc (v := (1000000001 : Int32)) hx hb hown (hts _ kc_X0_40) dX0_onwardSum_41 ?_
    exact kr_i hok.2.2.1 C hlocks hr rfl hP hS rfl (Option.some.inj hf) dX0_onwardSum_43
  · have hf := ifn hf c8
    refine lv_iload hx hb dX0_onwardSum_34 (lv_at hl 0 rfl) ?_
    refine lv_ldc (v := (1000000001 : Int32)) hx hb hown (hts _ kc_X0_40) dX0_onwardSum_36 ?_
    refine lv_icmp_ne (tgt := 44) hx hb dX0_onwardSum_38 (by decide) (fun c7 => ?_) (fun c7 => ?_)
    · have hf := ifn hf c7
      refine lv_aload_n hx hb dX0_onwardSum_44 rfl (lv_at hl 2 rfl) ?_
      refine lv_aload_n hx hb dX0_onwardSum_45 rfl (lv_at hl 2 rfl) ?_
      refine lv_iload_n hx hb dX0_onwardSum_46 rfl (lv_at hl 3 rfl) ?_
      refine lv_iload hx hb dX0_onwardSum_47 (lv_at hl 1 rfl) ?_
      obtain ⟨z3, q4, hf⟩ := bsp hf
      refine kc_V (ci := 0) (i := 0) (As := [.int x1, .int (gA w 11 0 ((x2 * (24 : Int32)) + x3).toNatClampNeg)]) (rest := [.ref (ad 0 0)]) hok.2.2.1 C hP hS hl.1 (hok.2.1 0 0 (Nat.le_of_ble_eq_true rfl)) rfl rfl cw_X0_plus ml_X0_95 (c_X0_plus l D ca ad PL Z A hok N w x1 (gA w 11 0 ((x2 * (24 : Int32)) + x3).toNatClampNeg) z3 q4) rfl ⟨rfl, rfl⟩ ⟨Nat.le_of_ble_eq_true rfl, Nat.le_of_ble_eq_true rfl⟩ ⟨Nat.zero_le _, Nat.zero_le _⟩ (Nat.le_of_ble_eq_true rfl) rfl dX0_onwardSum_49 (fun H locs hP hS => ?_)
      refine lv_iload hx hb dX0_onwardSum_52 (lv_at hl 0 rfl) ?_
      obtain ⟨z5, q6, hf⟩ := bsp hf
      refine kc_V (ci := 0) (i := 0) (As := [.int z3, .int (gA w 12 0 ((x4 * (24 : Int32)) + x3).toNatClampNeg)]) (rest := []) hok.2.2.1 C hP hS hl.1 (hok.2.1 0 0 (Nat.le_of_ble_eq_true rfl)) rfl rfl cw_X0_plus ml_X0_95 (c_X0_plus l D ca ad PL Z A hok N w z3 (gA w 12 0 ((x4 * (24 : Int32)) + x3).toNatClampNeg) z5 q6) rfl ⟨rfl, rfl⟩ ⟨Nat.le_of_ble_eq_true rfl, Nat.le_of_ble_eq_true rfl⟩ ⟨Nat.zero_le _, Nat.zero_le _⟩ (Nat.le_of_ble_eq_true rfl) rfl dX0_onwardSum_54 (fun H locs hP hS => ?_)
      exact kr_i hok.2.2.1 C hlocks hr rfl hP hS rfl (Option.some.inj hf) dX0_onwardSum_57
    · have hf := ifp hf c7
      refine lv_ldc (v := (1000000001 : Int32)) hx hb hown (hts _ kc_X0_40) dX0_onwardSum_41 ?_
      exact kr_i hok.2.2.1 C hlocks hr rfl hP hS rfl (Option.some.inj hf) dX0_onwardSum_43
def f_X0_fillRow_74 (N : Nat) (w : Mem)  : Option (Mem) :=
  some w
def f_X0_fillRow_54_2 (rc : Mem → Int32 → Option (Mem)) (k : Mem → Option (Mem)) (N : Nat) (w : Mem)  (v1 : Int32) (v2 : Int32) (v3 : Int32) : Option (Mem) :=
  (if inb (((v1 + (1 : Int32)) * (24 : Int32)) + v2) 576 = true then (rc (sA w 12 0 (((v1 + (1 : Int32)) * (24 : Int32)) + v2).toNatClampNeg v3) (v2 + (1 : Int32))) else none)
def lp_X0_fillRow_25 (k : Int32 → Option (Mem)) (N : Nat) (w : Mem)  (v1 : Int32) (v2 : Int32) : Nat → Int32 → Int32 → Option (Mem)
  | 0, _, _ => none
  | n + 1, v3, v4 => (if (gF w 0 3 0) ≤ v4 then
(k v3)
else
(Option.bind (f_X0_onwardSum N w (0 : Int32) v2 v4 v1) (fun z5 => (lp_X0_fillRow_25 k N w  v1 v2 n (if z5 < v3 then z5 else v3) (v4 + (1 : Int32))))))
def lp_X0_fillRow_2 (k : Mem → Option (Mem)) (N : Nat)  (v1 : Int32) : Nat → Mem → Int32 → Option (Mem)
  | 0, _, _ => none
  | n + 1, w, v2 => (if (gF w 0 3 0) ≤ v2 then
(k w)
else
(if inb ((v1 * (24 : Int32)) + v2) 576 = true then (lp_X0_fillRow_25 (fun (u3_3 : Int32) => (f_X0_fillRow_54_2 (fun (w : Mem) (v2 : Int32) => lp_X0_fillRow_2 k N   v1 n w v2) k N w  v1 v2 u3_3 )) N w  v1 v2 N (gA w 12 0 ((v1 * (24 : Int32)) + v2).toNatClampNeg) (0 : Int32)) else none))
def f_X0_fillRow (N : Nat) (w : Mem) (x1 : Int32) : Option (Mem) :=
  (lp_X0_fillRow_2 (fun (w_1 : Mem) => (f_X0_fillRow_74 N w_1   )) N   x1 N w (0 : Int32))
set_option maxRecDepth 100000 in
set_option maxHeartbeats 4000000 in
theorem c_X0_fillRow (l : Launch) (D : va_G) (ca : Nat → ClassId) (ad : Nat → Nat → Nat) (PL : List (Nat × Nat)) (Z : State → Prop) (A : Nat → Prop) (hok : okc bX Z A ad PL) (N : Nat) (w : Mem) (x1 : Int32) (w' : Mem) (hf : f_X0_fillRow N w x1 = some w') : CT l yX0_fillRow (wsy yX0_fillRow cX0_fillRow 5 none) (rmk 3) D ca ad PL Z A [.ref (ad 0 0), .int x1] w w' none := by
  refine Met.ofW (cc := cX0_fillRow) (maxL := 5) (ret := none) (by decide +kernel) rfl ?_
  intro p e s m args below meth c s₁ B hml hv
  obtain ⟨rfl, hP, hK, hZ⟩ := hv
  have hx := B.exec
  have hb := B.bytes
  have hr := B.returns
  have hlocks := B.notSynchronized
  have hts : ∀ w ∈ ALL, w.before _ s = true := fun w hw => atoms_spec (ws := wsy yX0_fillRow cX0_fillRow 5 none) B.pre w (List.mem_cons_of_mem _ hw)
  have hown : s.vm.findClass RX0 = some m.cls := findClass_of_methodNamed B.named
  have C : CX p s m _ c cX0_fillRow RX0 5 D ca Z := ⟨hx, hb, hml, hown, hts, hK, hZ⟩
  have hS : va_S A s.heap s.heap [] := va_S.rf
  have hl := lv_entry ([.ref (ad 0 0), .int x1]) (n := 5) (Nat.le_of_ble_eq_true rfl)
  rw [lg_entry_eq]
  generalize (lg_sl ([.ref (ad 0 0), .int x1]) ++ List.replicate (5 - (lg_sl ([.ref (ad 0 0), .int x1])).length) Slot.unset).toArray = ls at hl ⊢
  have hl : lv_has ls 5 [(0, .ref (ad 0 0)), (1, .int x1)] := hl
  show W p l e (rmk 3) s m _ below meth c s.heap [] 0 0 _ _
  have P_f_X0_fillRow_74 : ∀ (w : Mem), f_X0_fillRow_74 N w    = some w' → WP p l e (rmk 3) s m [.ref (ad 0 0), .int x1].toArray below meth c D ca ad PL A (MQ below (qcR D ca ad PL Z A w' none) [.ref (ad 0 0), .int x1].toArray s 0 0 A) 5 74 [] [] w := by
    intro w hf _ _ ls hP hS hl
    unfold f_X0_fillRow_74 at hf
    exact kr_v hok.2.2.1 C hlocks hr hP hS (Option.some.inj hf) dX0_fillRow_74
  have P_f_X0_fillRow_54_2 : ∀ (v1 : Int32) (rc : Mem → Int32 → Option (Mem)) (hrc : ∀ (w : Mem) (v2 : Int32), rc w v2 = some w' → WP p l e (rmk 3) s m [.ref (ad 0 0), .int x1].toArray below meth c D ca ad PL A (MQ below (qcR D ca ad PL Z A w' none) [.ref (ad 0 0), .int x1].toArray s 0 0 A) 5 2 [] [(0, .ref (ad 0 0)), (1, .int v1), (2, .int v2)] w) (k : Mem → Option (Mem)) (hk : ∀ (w : Mem), k w = some w' → WP p l e (rmk 3) s m [.ref (ad 0 0), .int x1].toArray below meth c D ca ad PL A (MQ below (qcR D ca ad PL Z A w' none) [.ref (ad 0 0), .int x1].toArray s 0 0 A) 5 74 [] [] w) (w : Mem) (v2 : Int32) (v3 : Int32), f_X0_fillRow_54_2 rc k N w  v1 v2 v3  = some w' → WP p l e (rmk 3) s m [.ref (ad 0 0), .int x1].toArray below meth c D ca ad PL A (MQ below (qcR D ca ad PL Z A w' none) [.ref (ad 0 0), .int x1].toArray s 0 0 A) 5 54 [] [(0, .ref (ad 0 0)), (1, .int v1), (2, .int v2), (3, .int v3)] w := by
    intro v1 rc hrc k hk w v2 v3 hf _ _ ls hP hS hl
    unfold f_X0_fillRow_54_2 at hf
    refine lv_aload_n hx hb dX0_fillRow_54 rfl (lv_at hl 0 rfl) ?_
    refine gt_0_2 (i := 0) C hP (hok.2.1 0 0 (Nat.le_of_ble_eq_true rfl)) lk_X0_18 dX0_fillRow_55 ?_
    refine lv_iload_n hx hb dX0_fillRow_58 rfl (lv_at hl 1 rfl) ?_
    refine lv_iconst (v := (1 : Int32)) hx hb dX0_fillRow_59 (by decide) ?_
    refine lv_iadd hx hb dX0_fillRow_60 ?_
    refine lv_bipush (v := (24 : Int32)) hx hb dX0_fillRow_61 (by decide) ?_
    refine lv_imul hx hb dX0_fillRow_63 ?_
    refine lv_iload_n hx hb dX0_fillRow_64 rfl (lv_at hl 2 rfl) ?_
    refine lv_iadd hx hb dX0_fillRow_65 ?_
    refine lv_iload_n hx hb dX0_fillRow_66 rfl (lv_at hl 3 rfl) ?_
    obtain ⟨b4, hf⟩ := gsp hf
    refine ra_ist (k := 12) (i := 0) (n := 576) C hok.1 hP hS (hok.2.1 12 0 (Nat.le_of_ble_eq_true rfl)) (fun _ => rfl) b4 dX0_fillRow_67 (fun H locs hP hS => ?_)
    refine lv_iinc (v := (v2 + (1 : Int32))) (lv' := [(2, .int (v2 + (1 : Int32))), (0, .ref (ad 0 0)), (1, .int v1), (3, .int v3)]) hx hb dX0_fillRow_68 hl (k := 2) rfl rfl (by decide) rfl (fun ls hl => ?_)
    refine lv_goto (tgt := 2) hx hb dX0_fillRow_71 (by decide) ?_
    exact hrc (sA w 12 0 (((v1 + (1 : Int32)) * (24 : Int32)) + v2).toNatClampNeg v3) (v2 + (1 : Int32)) hf _ _ ls hP hS (lv_sub hl [1, 2, 0] rfl)
  have L_lp_X0_fillRow_25 : ∀ (w : Mem) (v1 : Int32) (v2 : Int32) (k : Int32 → Option (Mem)) (hk : ∀ (v3 : Int32), k v3 = some w' → WP p l e (rmk 3) s m [.ref (ad 0 0), .int x1].toArray below meth c D ca ad PL A (MQ below (qcR D ca ad PL Z A w' none) [.ref (ad 0 0), .int x1].toArray s 0 0 A) 5 54 [] [(0, .ref (ad 0 0)), (1, .int v1), (2, .int v2), (3, .int v3)] w) (n : Nat) (v3 : Int32) (v4 : Int32), lp_X0_fillRow_25 k N w  v1 v2 n v3 v4 = some w' → WP p l e (rmk 3) s m [.ref (ad 0 0), .int x1].toArray below meth c D ca ad PL A (MQ below (qcR D ca ad PL Z A w' none) [.ref (ad 0 0), .int x1].toArray s 0 0 A) 5 25 [] [(0, .ref (ad 0 0)), (1, .int v1), (2, .int v2), (3, .int v3), (4, .int v4)] w := by
    intro w v1 v2 k hk n
    induction n with
    | zero => intro v3 v4 hf; rw [lp_X0_fillRow_25] at hf; cases hf
    | succ n ih =>
      intro v3 v4 hf _ _ ls hP hS hl
      rw [lp_X0_fillRow_25] at hf
      refine lv_iload hx hb dX0_fillRow_25 (lv_at hl 4 rfl) ?_
      refine lv_aload_n hx hb dX0_fillRow_27 rfl (lv_at hl 0 rfl) ?_
      refine gt_0_3 (i := 0) C hP (hok.2.1 0 0 (Nat.le_of_ble_eq_true rfl)) lk_X0_37 dX0_fillRow_28 ?_
      refine lv_icmp_ge (tgt := 54) hx hb dX0_fillRow_31 (by decide) (fun c7 => ?_) (fun c7 => ?_)
      · have hf := ifp hf c7
        exact hk v3 hf _ _ ls hP hS (lv_sub hl [0, 1, 2, 3] rfl)
      · have hf := ifn hf c7
        refine lv_iload_n hx hb dX0_fillRow_34 rfl (lv_at hl 3 rfl) ?_
        refine lv_aload_n hx hb dX0_fillRow_35 rfl (lv_at hl 0 rfl) ?_
        refine lv_iconst (v := (0 : Int32)) hx hb dX0_fillRow_36 (by decide) ?_
        refine lv_iload_n hx hb dX0_fillRow_37 rfl (lv_at hl 2 rfl) ?_
        refine lv_iload hx hb dX0_fillRow_38 (lv_at hl 4 rfl) ?_
        refine lv_iload_n hx hb dX0_fillRow_40 rfl (lv_at hl 1 rfl) ?_
        obtain ⟨z5, q6, hf⟩ := bsp hf
        refine kc_V (ci := 0) (i := 0) (As := [.int (0 : Int32), .int v2, .int v4, .int v1]) (rest := [.int v3]) hok.2.2.1 C hP hS hl.1 (hok.2.1 0 0 (Nat.le_of_ble_eq_true rfl)) rfl rfl cw_X0_onwardSum ml_X0_114 (c_X0_onwardSum l D ca ad PL Z A hok N w (0 : Int32) v2 v4 v1 z5 q6) rfl ⟨rfl, rfl⟩ ⟨Nat.le_of_ble_eq_true rfl, Nat.le_of_ble_eq_true rfl⟩ ⟨Nat.zero_le _, Nat.zero_le _⟩ (Nat.le_of_ble_eq_true rfl) rfl dX0_fillRow_41 (fun H locs hP hS => ?_)
        refine km_min C hl.1 ml_X0_98 ⟨Nat.le_of_ble_eq_true rfl, Nat.le_of_ble_eq_true rfl⟩ ⟨Nat.zero_le _, Nat.zero_le _⟩ dX0_fillRow_44 ?_
        refine lv_istore_n (lv' := [(3, .int (if z5 < v3 then z5 else v3)), (0, .ref (ad 0 0)), (1, .int v1), (2, .int v2), (4, .int v4)]) hx hb dX0_fillRow_47 rfl hl (by decide) rfl (fun ls hl => ?_)
        refine lv_iinc (v := (v4 + (1 : Int32))) (lv' := [(4, .int (v4 + (1 : Int32))), (3, .int (if z5 < v3 then z5 else v3)), (0, .ref (ad 0 0)), (1, .int v1), (2, .int v2)]) hx hb dX0_fillRow_48 hl (k := 4) rfl rfl (by decide) rfl (fun ls hl => ?_)
        refine lv_goto (tgt := 25) hx hb dX0_fillRow_51 (by decide) ?_
        exact ih (if z5 < v3 then z5 else v3) (v4 + (1 : Int32)) hf _ _ ls hP hS (lv_sub hl [2, 3, 4, 1, 0] rfl)
  have L_lp_X0_fillRow_2 : ∀ (v1 : Int32) (k : Mem → Option (Mem)) (hk : ∀ (w : Mem), k w = some w' → WP p l e (rmk 3) s m [.ref (ad 0 0), .int x1].toArray below meth c D ca ad PL A (MQ below (qcR D ca ad PL Z A w' none) [.ref (ad 0 0), .int x1].toArray s 0 0 A) 5 74 [] [] w) (n : Nat) (w : Mem) (v2 : Int32), lp_X0_fillRow_2 k N   v1 n w v2 = some w' → WP p l e (rmk 3) s m [.ref (ad 0 0), .int x1].toArray below meth c D ca ad PL A (MQ below (qcR D ca ad PL Z A w' none) [.ref (ad 0 0), .int x1].toArray s 0 0 A) 5 2 [] [(0, .ref (ad 0 0)), (1, .int v1), (2, .int v2)] w := by
    intro v1 k hk n
    induction n with
    | zero => intro w v2 hf; rw [lp_X0_fillRow_2] at hf; cases hf
    | succ n ih =>
      intro w v2 hf _ _ ls hP hS hl
      rw [lp_X0_fillRow_2] at hf
      refine lv_iload_n hx hb dX0_fillRow_2 rfl (lv_at hl 2 rfl) ?_
      refine lv_aload_n hx hb dX0_fillRow_3 rfl (lv_at hl 0 rfl) ?_
      refine gt_0_3 (i := 0) C hP (hok.2.1 0 0 (Nat.le_of_ble_eq_true rfl)) lk_X0_37 dX0_fillRow_4 ?_
      refine lv_icmp_ge (tgt := 74) hx hb dX0_fillRow_7 (by decide) (fun c8 => ?_) (fun c8 => ?_)
      · have hf := ifp hf c8
        exact hk w hf _ _ ls hP hS (lv_sub hl [] rfl)
      · have hf := ifn hf c8
        refine lv_aload_n hx hb dX0_fillRow_10 rfl (lv_at hl 0 rfl) ?_
        refine gt_0_2 (i := 0) C hP (hok.2.1 0 0 (Nat.le_of_ble_eq_true rfl)) lk_X0_18 dX0_fillRow_11 ?_
        refine lv_iload_n hx hb dX0_fillRow_14 rfl (lv_at hl 1 rfl) ?_
        refine lv_bipush (v := (24 : Int32)) hx hb dX0_fillRow_15 (by decide) ?_
        refine lv_imul hx hb dX0_fillRow_17 ?_
        refine lv_iload_n hx hb dX0_fillRow_18 rfl (lv_at hl 2 rfl) ?_
        refine lv_iadd hx hb dX0_fillRow_19 ?_
        obtain ⟨b2, hf⟩ := gsp hf
        refine ra_ild (k := 12) (i := 0) (n := 576) (f := (gA w 12 0)) C hP (hok.2.1 12 0 (Nat.le_of_ble_eq_true rfl)) rfl b2 dX0_fillRow_20 ?_
        refine lv_istore_n (lv' := [(3, .int (gA w 12 0 ((v1 * (24 : Int32)) + v2).toNatClampNeg)), (0, .ref (ad 0 0)), (1, .int v1), (2, .int v2)]) hx hb dX0_fillRow_21 rfl hl (by decide) rfl (fun ls hl => ?_)
        refine lv_iconst (v := (0 : Int32)) hx hb dX0_fillRow_22 (by decide) ?_
        refine lv_istore (lv' := [(4, .int (0 : Int32)), (3, .int (gA w 12 0 ((v1 * (24 : Int32)) + v2).toNatClampNeg)), (0, .ref (ad 0 0)), (1, .int v1), (2, .int v2)]) hx hb dX0_fillRow_23 hl (by decide) rfl (fun ls hl => ?_)
        exact L_lp_X0_fillRow_25 w v1 v2 _ (fun u3_3 hf H locs ls hP hS hl => P_f_X0_fillRow_54_2 v1 _ ih _ hk w v2 u3_3 hf _ _ ls hP hS (lv_sub hl [0, 1, 2, 3] rfl)) N (gA w 12 0 ((v1 * (24 : Int32)) + v2).toNatClampNeg) (0 : Int32) hf _ _ ls hP hS (lv_sub hl [2, 3, 4, 1, 0] rfl)
  unfold f_X0_fillRow at hf
  -- walk
  refine lv_iconst (v := (0 : Int32)) hx hb dX0_fillRow_0 (by decide) ?_
  refine lv_istore_n (lv' := [(2, .int (0 : Int32)), (0, .ref (ad 0 0)), (1, .int x1)]) hx hb dX0_fillRow_1 rfl hl (by decide) rfl (fun ls hl => ?_)
  exact L_lp_X0_fillRow_2 x1 _ (fun w_1 hf H locs ls hP hS hl => P_f_X0_fillRow_74 w_1 hf _ _ ls hP hS (lv_sub hl [] rfl)) N w (0 : Int32) hf _ _ ls hP hS (lv_sub hl [1, 2, 0] rfl)
def f_X0_stepsOnWay_76 (N : Nat) (w : Mem)  (v3 : Int32) : Option (Mem × Int32) :=
  some (w, v3)
def lp_X0_stepsOnWay_35 (k : Mem → Int32 → Option (Mem × Int32)) (N : Nat)  (v1 : Int32) (v2 : Int32) : Nat → Mem → Int32 → Option (Mem × Int32)
  | 0, _, _ => none
  | n + 1, w, v3 => (if (gF w 0 3 0) ≤ (v3 + (1 : Int32)) then
(k w v3)
else
(if inb ((v3 * (24 : Int32)) + v1) 576 = true then (Option.bind (f_X0_least N w v1 v2) (fun z4 => (if (gA w 12 0 ((v3 * (24 : Int32)) + v1).toNatClampNeg) = z4 then
(k w v3)
else
(Option.bind (f_X0_fillRow N w v3) (fun z6 => (lp_X0_stepsOnWay_35 k N   v1 v2 n z6 (v3 + (1 : Int32)))))))) else none))
def f_X0_stepsOnWay_33 (N : Nat) (w : Mem)  (v1 : Int32) (v2 : Int32) : Option (Mem × Int32) :=
  (lp_X0_stepsOnWay_35 (fun (w_2 : Mem) (u3_2 : Int32) => (f_X0_stepsOnWay_76 N w_2  u3_2 )) N   v1 v2 N w (0 : Int32))
def lp_X0_stepsOnWay_2 (k : Mem → Option (Mem × Int32)) (N : Nat)  (v1 : Int32) (v2 : Int32) : Nat → Mem → Int32 → Option (Mem × Int32)
  | 0, _, _ => none
  | n + 1, w, v3 => (if (gF w 0 3 0) ≤ v3 then
(k w)
else
(if v3 = v2 then
(if inb v3 576 = true then (lp_X0_stepsOnWay_2 k N   v1 v2 n (sA w 12 0 v3.toNatClampNeg (0 : Int32)) (v3 + (1 : Int32))) else none)
else
(if inb v3 576 = true then (lp_X0_stepsOnWay_2 k N   v1 v2 n (sA w 12 0 v3.toNatClampNeg (1000000001 : Int32)) (v3 + (1 : Int32))) else none)))
def f_X0_stepsOnWay (N : Nat) (w : Mem) (x1 : Int32) (x2 : Int32) : Option (Mem × Int32) :=
  (lp_X0_stepsOnWay_2 (fun (w_1 : Mem) => (f_X0_stepsOnWay_33 N w_1  x1 x2 )) N   x1 x2 N w (0 : Int32))
set_option maxRecDepth 100000 in
set_option maxHeartbeats 4000000 in
theorem c_X0_stepsOnWay (l : Launch) (D : va_G) (ca : Nat → ClassId) (ad : Nat → Nat → Nat) (PL : List (Nat × Nat)) (Z : State → Prop) (A : Nat → Prop) (hok : okc bX Z A ad PL) (N : Nat) (w : Mem) (x1 : Int32) (x2 : Int32) (w' : Mem) (r : Int32) (hf : f_X0_stepsOnWay N w x1 x2 = some (w', r)) : CT l yX0_stepsOnWay (wsy yX0_stepsOnWay cX0_stepsOnWay 4 (some .int)) (rmk 4) D ca ad PL Z A [.ref (ad 0 0), .int x1, .int x2] w w' (some (.int r)) := by
  refine Met.ofW (cc := cX0_stepsOnWay) (maxL := 4) (ret := (some .int)) (by decide +kernel) rfl ?_
  intro p e s m args below meth c s₁ B hml hv
  obtain ⟨rfl, hP, hK, hZ⟩ := hv
  have hx := B.exec
  have hb := B.bytes
  have hr := B.returns
  have hlocks := B.notSynchronized
  have hts : ∀ w ∈ ALL, w.before _ s = true := fun w hw => atoms_spec (ws := wsy yX0_stepsOnWay cX0_stepsOnWay 4 (some .int)) B.pre w (List.mem_cons_of_mem _ hw)
  have hown : s.vm.findClass RX0 = some m.cls := findClass_of_methodNamed B.named
  have C : CX p s m _ c cX0_stepsOnWay RX0 4 D ca Z := ⟨hx, hb, hml, hown, hts, hK, hZ⟩
  have hS : va_S A s.heap s.heap [] := va_S.rf
  have hl := lv_entry ([.ref (ad 0 0), .int x1, .int x2]) (n := 4) (Nat.le_of_ble_eq_true rfl)
  rw [lg_entry_eq]
  generalize (lg_sl ([.ref (ad 0 0), .int x1, .int x2]) ++ List.replicate (4 - (lg_sl ([.ref (ad 0 0), .int x1, .int x2])).length) Slot.unset).toArray = ls at hl ⊢
  have hl : lv_has ls 4 [(0, .ref (ad 0 0)), (1, .int x1), (2, .int x2)] := hl
  show W p l e (rmk 4) s m _ below meth c s.heap [] 0 0 _ _
  have P_f_X0_stepsOnWay_76 : ∀ (w : Mem) (v3 : Int32), f_X0_stepsOnWay_76 N w  v3  = some (w', r) → WP p l e (rmk 4) s m [.ref (ad 0 0), .int x1, .int x2].toArray below meth c D ca ad PL A (MQ below (qcR D ca ad PL Z A w' (some (.int r))) [.ref (ad 0 0), .int x1, .int x2].toArray s 0 0 A) 4 76 [] [(3, .int v3)] w := by
    intro w v3 hf _ _ ls hP hS hl
    unfold f_X0_stepsOnWay_76 at hf
    refine lv_iload_n hx hb dX0_stepsOnWay_76 rfl (lv_at hl 0 rfl) ?_
    exact kr_i hok.2.2.1 C hlocks hr rfl hP hS (congrArg Prod.fst (Option.some.inj hf)) (congrArg Prod.snd (Option.some.inj hf)) dX0_stepsOnWay_77
  have L_lp_X0_stepsOnWay_35 : ∀ (v1 : Int32) (v2 : Int32) (k : Mem → Int32 → Option (Mem × Int32)) (hk : ∀ (w : Mem) (v3 : Int32), k w v3 = some (w', r) → WP p l e (rmk 4) s m [.ref (ad 0 0), .int x1, .int x2].toArray below meth c D ca ad PL A (MQ below (qcR D ca ad PL Z A w' (some (.int r))) [.ref (ad 0 0), .int x1, .int x2].toArray s 0 0 A) 4 76 [] [(3, .int v3)] w) (n : Nat) (w : Mem) (v3 : Int32), lp_X0_stepsOnWay_35 k N   v1 v2 n w v3 = some (w', r) → WP p l e (rmk 4) s m [.ref (ad 0 0), .int x1, .int x2].toArray below meth c D ca ad PL A (MQ below (qcR D ca ad PL Z A w' (some (.int r))) [.ref (ad 0 0), .int x1, .int x2].toArray s 0 0 A) 4 35 [] [(0, .ref (ad 0 0)), (1, .int v1), (2, .int v2), (3, .int v3)] w := by
    intro v1 v2 k hk n
    induction n with
    | zero => intro w v3 hf; rw [lp_X0_stepsOnWay_35] at hf; cases hf
    | succ n ih =>
      intro w v3 hf _ _ ls hP hS hl
      rw [lp_X0_stepsOnWay_35] at hf
      refine lv_iload_n hx hb dX0_stepsOnWay_35 rfl (lv_at hl 3 rfl) ?_
      refine lv_iconst (v := (1 : Int32)) hx hb dX0_stepsOnWay_36 (by decide) ?_
      refine lv_iadd hx hb dX0_stepsOnWay_37 ?_
      refine lv_aload_n hx hb dX0_stepsOnWay_38 rfl (lv_at hl 0 rfl) ?_
      refine gt_0_3 (i := 0) C hP (hok.2.1 0 0 (Nat.le_of_ble_eq_true rfl)) lk_X0_37 dX0_stepsOnWay_39 ?_
      refine lv_icmp_ge (tgt := 76) hx hb dX0_stepsOnWay_42 (by decide) (fun c9 => ?_) (fun c9 => ?_)
      · have hf := ifp hf c9
        exact hk w v3 hf _ _ ls hP hS (lv_sub hl [3] rfl)
      · have hf := ifn hf c9
        refine lv_aload_n hx hb dX0_stepsOnWay_45 rfl (lv_at hl 0 rfl) ?_
        refine gt_0_2 (i := 0) C hP (hok.2.1 0 0 (Nat.le_of_ble_eq_true rfl)) lk_X0_18 dX0_stepsOnWay_46 ?_
        refine lv_iload_n hx hb dX0_stepsOnWay_49 rfl (lv_at hl 3 rfl) ?_
        refine lv_bipush (v := (24 : Int32)) hx hb dX0_stepsOnWay_50 (by decide) ?_
        refine lv_imul hx hb dX0_stepsOnWay_52 ?_
        refine lv_iload_n hx hb dX0_stepsOnWay_53 rfl (lv_at hl 1 rfl) ?_
        refine lv_iadd hx hb dX0_stepsOnWay_54 ?_
        obtain ⟨b3, hf⟩ := gsp hf
        refine ra_ild (k := 12) (i := 0) (n := 576) (f := (gA w 12 0)) C hP (hok.2.1 12 0 (Nat.le_of_ble_eq_true rfl)) rfl b3 dX0_stepsOnWay_55 ?_
        refine lv_aload_n hx hb dX0_stepsOnWay_56 rfl (lv_at hl 0 rfl) ?_
        refine lv_iload_n hx hb dX0_stepsOnWay_57 rfl (lv_at hl 1 rfl) ?_
        refine lv_iload_n hx hb dX0_stepsOnWay_58 rfl (lv_at hl 2 rfl) ?_
        obtain ⟨z4, q5, hf⟩ := bsp hf
        refine kc_V (ci := 0) (i := 0) (As := [.int v1, .int v2]) (rest := [.int (gA w 12 0 ((v3 * (24 : Int32)) + v1).toNatClampNeg)]) hok.2.2.1 C hP hS hl.1 (hok.2.1 0 0 (Nat.le_of_ble_eq_true rfl)) rfl rfl cw_X0_least ml_X0_92 (c_X0_least l D ca ad PL Z A hok N w v1 v2 z4 q5) rfl ⟨rfl, rfl⟩ ⟨Nat.le_of_ble_eq_true rfl, Nat.le_of_ble_eq_true rfl⟩ ⟨Nat.zero_le _, Nat.zero_le _⟩ (Nat.le_of_ble_eq_true rfl) rfl dX0_stepsOnWay_59 (fun H locs hP hS => ?_)
        refine lv_icmp_eq (tgt := 76) hx hb dX0_stepsOnWay_62 (by decide) (fun c8 => ?_) (fun c8 => ?_)
        · have hf := ifp hf c8
          exact hk w v3 hf _ _ ls hP hS (lv_sub hl [3] rfl)
        · have hf := ifn hf c8
          refine lv_aload_n hx hb dX0_stepsOnWay_65 rfl (lv_at hl 0 rfl) ?_
          refine lv_iload_n hx hb dX0_stepsOnWay_66 rfl (lv_at hl 3 rfl) ?_
          obtain ⟨z6, q7, hf⟩ := bsp hf
          refine kc_V (ci := 0) (i := 0) (As := [.int v3]) (rest := []) hok.2.2.1 C hP hS hl.1 (hok.2.1 0 0 (Nat.le_of_ble_eq_true rfl)) rfl rfl cw_X0_fillRow ml_X0_110 (c_X0_fillRow l D ca ad PL Z A hok N w v3 z6 q7) rfl ⟨rfl, rfl⟩ ⟨Nat.le_of_ble_eq_true rfl, Nat.le_of_ble_eq_true rfl⟩ ⟨Nat.zero_le _, Nat.zero_le _⟩ (Nat.le_of_ble_eq_true rfl) rfl dX0_stepsOnWay_67 (fun H locs hP hS => ?_)
          refine lv_iinc (v := (v3 + (1 : Int32))) (lv' := [(3, .int (v3 + (1 : Int32))), (0, .ref (ad 0 0)), (1, .int v1), (2, .int v2)]) hx hb dX0_stepsOnWay_70 hl (k := 3) rfl rfl (by decide) rfl (fun ls hl => ?_)
          refine lv_goto (tgt := 35) hx hb dX0_stepsOnWay_73 (by decide) ?_
          exact ih z6 (v3 + (1 : Int32)) hf _ _ ls hP hS (lv_sub hl [1, 2, 3, 0] rfl)
  have P_f_X0_stepsOnWay_33 : ∀ (w : Mem) (v1 : Int32) (v2 : Int32), f_X0_stepsOnWay_33 N w  v1 v2  = some (w', r) → WP p l e (rmk 4) s m [.ref (ad 0 0), .int x1, .int x2].toArray below meth c D ca ad PL A (MQ below (qcR D ca ad PL Z A w' (some (.int r))) [.ref (ad 0 0), .int x1, .int x2].toArray s 0 0 A) 4 33 [] [(0, .ref (ad 0 0)), (1, .int v1), (2, .int v2)] w := by
    intro w v1 v2 hf _ _ ls hP hS hl
    unfold f_X0_stepsOnWay_33 at hf
    refine lv_iconst (v := (0 : Int32)) hx hb dX0_stepsOnWay_33 (by decide) ?_
    refine lv_istore_n (lv' := [(3, .int (0 : Int32)), (0, .ref (ad 0 0)), (1, .int v1), (2, .int v2)]) hx hb dX0_stepsOnWay_34 rfl hl (by decide) rfl (fun ls hl => ?_)
    exact L_lp_X0_stepsOnWay_35 v1 v2 _ (fun w_2 u3_2 hf H locs ls hP hS hl => P_f_X0_stepsOnWay_76 w_2 u3_2 hf _ _ ls hP hS (lv_sub hl [0] rfl)) N w (0 : Int32) hf _ _ ls hP hS (lv_sub hl [1, 2, 3, 0] rfl)
  have L_lp_X0_stepsOnWay_2 : ∀ (v1 : Int32) (v2 : Int32) (k : Mem → Option (Mem × Int32)) (hk : ∀ (w : Mem), k w = some (w', r) → WP p l e (rmk 4) s m [.ref (ad 0 0), .int x1, .int x2].toArray below meth c D ca ad PL A (MQ below (qcR D ca ad PL Z A w' (some (.int r))) [.ref (ad 0 0), .int x1, .int x2].toArray s 0 0 A) 4 33 [] [(0, .ref (ad 0 0)), (1, .int v1), (2, .int v2)] w) (n : Nat) (w : Mem) (v3 : Int32), lp_X0_stepsOnWay_2 k N   v1 v2 n w v3 = some (w', r) → WP p l e (rmk 4) s m [.ref (ad 0 0), .int x1, .int x2].toArray below meth c D ca ad PL A (MQ below (qcR D ca ad PL Z A w' (some (.int r))) [.ref (ad 0 0), .int x1, .int x2].toArray s 0 0 A) 4 2 [] [(0, .ref (ad 0 0)), (1, .int v1), (2, .int v2), (3, .int v3)] w := by
    intro v1 v2 k hk n
    induction n with
    | zero => intro w v3 hf; rw [lp_X0_stepsOnWay_2] at hf; cases hf
    | succ n ih =>
      intro w v3 hf _ _ ls hP hS hl
      rw [lp_X0_stepsOnWay_2] at hf
      refine lv_iload_n hx hb dX0_stepsOnWay_2 rfl (lv_at hl 3 rfl) ?_
      refine lv_aload_n hx hb dX0_stepsOnWay_3 rfl (lv_at hl 0 rfl) ?_
      refine gt_0_3 (i := 0) C hP (hok.2.1 0 0 (Nat.le_of_ble_eq_true rfl)) lk_X0_37 dX0_stepsOnWay_4 ?_
      refine lv_icmp_ge (tgt := 33) hx hb dX0_stepsOnWay_7 (by decide) (fun c13 => ?_) (fun c13 => ?_)
      · have hf := ifp hf c13
        exact hk w hf _ _ ls hP hS (lv_sub hl [0, 1, 2] rfl)
      · have hf := ifn hf c13
        refine lv_aload_n hx hb dX0_stepsOnWay_10 rfl (lv_at hl 0 rfl) ?_
        refine gt_0_2 (i := 0) C hP (hok.2.1 0 0 (Nat.le_of_ble_eq_true rfl)) lk_X0_18 dX0_stepsOnWay_11 ?_
        refine lv_iload_n hx hb dX0_stepsOnWay_14 rfl (lv_at hl 3 rfl) ?_
        refine lv_iload_n hx hb dX0_stepsOnWay_15 rfl (lv_at hl 3 rfl) ?_
        refine lv_iload_n hx hb dX0_stepsOnWay_16 rfl (lv_at hl 2 rfl) ?_
        refine lv_icmp_ne (tgt := 24) hx hb dX0_stepsOnWay_17 (by decide) (fun c12 => ?_) (fun c12 => ?_)
        · have hf := ifn hf c12
          refine lv_ldc (v := (1000000001 : Int32)) hx hb hown (hts _ kc_X0_40) dX0_stepsOnWay_24 ?_
          obtain ⟨b10, hf⟩ := gsp hf
          refine ra_ist (k := 12) (i := 0) (n := 576) C hok.1 hP hS (hok.2.1 12 0 (Nat.le_of_ble_eq_true rfl)) (fun _ => rfl) b10 dX0_stepsOnWay_26 (fun H locs hP hS => ?_)
          refine lv_iinc (v := (v3 + (1 : Int32))) (lv' := [(3, .int (v3 + (1 : Int32))), (0, .ref (ad 0 0)), (1, .int v1), (2, .int v2)]) hx hb dX0_stepsOnWay_27 hl (k := 3) rfl rfl (by decide) rfl (fun ls hl => ?_)
          refine lv_goto (tgt := 2) hx hb dX0_stepsOnWay_30 (by decide) ?_
          exact ih (sA w 12 0 v3.toNatClampNeg (1000000001 : Int32)) (v3 + (1 : Int32)) hf _ _ ls hP hS (lv_sub hl [1, 2, 3, 0] rfl)
        · have hf := ifp hf c12
          refine lv_iconst (v := (0 : Int32)) hx hb dX0_stepsOnWay_20 (by decide) ?_
          refine lv_goto (tgt := 26) hx hb dX0_stepsOnWay_21 (by decide) ?_
          obtain ⟨b11, hf⟩ := gsp hf
          refine ra_ist (k := 12) (i := 0) (n := 576) C hok.1 hP hS (hok.2.1 12 0 (Nat.le_of_ble_eq_true rfl)) (fun _ => rfl) b11 dX0_stepsOnWay_26 (fun H locs hP hS => ?_)
          refine lv_iinc (v := (v3 + (1 : Int32))) (lv' := [(3, .int (v3 + (1 : Int32))), (0, .ref (ad 0 0)), (1, .int v1), (2, .int v2)]) hx hb dX0_stepsOnWay_27 hl (k := 3) rfl rfl (by decide) rfl (fun ls hl => ?_)
          refine lv_goto (tgt := 2) hx hb dX0_stepsOnWay_30 (by decide) ?_
          exact ih (sA w 12 0 v3.toNatClampNeg (0 : Int32)) (v3 + (1 : Int32)) hf _ _ ls hP hS (lv_sub hl [1, 2, 3, 0] rfl)
  unfold f_X0_stepsOnWay at hf
  -- walk
  refine lv_iconst (v := (0 : Int32)) hx hb dX0_stepsOnWay_0 (by decide) ?_
  refine lv_istore_n (lv' := [(3, .int (0 : Int32)), (0, .ref (ad 0 0)), (1, .int x1), (2, .int x2)]) hx hb dX0_stepsOnWay_1 rfl hl (by decide) rfl (fun ls hl => ?_)
  exact L_lp_X0_stepsOnWay_2 x1 x2 _ (fun w_1 hf H locs ls hP hS hl => P_f_X0_stepsOnWay_33 w_1 x1 x2 hf _ _ ls hP hS (lv_sub hl [0, 1, 2] rfl)) N w (0 : Int32) hf _ _ ls hP hS (lv_sub hl [1, 2, 3, 0] rfl)
def f_X0_nextOnWay_35 (N : Nat) (w : Mem)  (v1 : Int32) : Option (Int32) :=
  some v1
def lp_X0_nextOnWay_3 (k : Option (Int32)) (N : Nat) (w : Mem)  (v1 : Int32) (v2 : Int32) (v3 : Int32) (v4 : Int32) : Nat → Int32 → Option (Int32)
  | 0, _ => none
  | n + 1, v5 => (if (gF w 0 3 0) ≤ v5 then
(k )
else
(Option.bind (f_X0_onwardSum N w v2 v1 v5 v3) (fun z2 => (if z2 = v4 then
some v5
else
(lp_X0_nextOnWay_3 k N w  v1 v2 v3 v4 n (v5 + (1 : Int32)))))))
def f_X0_nextOnWay (N : Nat) (w : Mem) (x1 : Int32) (x2 : Int32) (x3 : Int32) (x4 : Int32) : Option (Int32) :=
  (lp_X0_nextOnWay_3 (f_X0_nextOnWay_35 N w  x1 ) N w  x1 x2 x3 x4 N (0 : Int32))
set_option maxRecDepth 100000 in
set_option maxHeartbeats 4000000 in
theorem c_X0_nextOnWay (l : Launch) (D : va_G) (ca : Nat → ClassId) (ad : Nat → Nat → Nat) (PL : List (Nat × Nat)) (Z : State → Prop) (A : Nat → Prop) (hok : okc bX Z A ad PL) (N : Nat) (w : Mem) (x1 : Int32) (x2 : Int32) (x3 : Int32) (x4 : Int32) (r : Int32) (hf : f_X0_nextOnWay N w x1 x2 x3 x4 = some r) : CT l yX0_nextOnWay (wsy yX0_nextOnWay cX0_nextOnWay 6 (some .int)) (rmk 3) D ca ad PL Z A [.ref (ad 0 0), .int x1, .int x2, .int x3, .int x4] w w (some (.int r)) := by
  refine Met.ofW (cc := cX0_nextOnWay) (maxL := 6) (ret := (some .int)) (by decide +kernel) rfl ?_
  intro p e s m args below meth c s₁ B hml hv
  obtain ⟨rfl, hP, hK, hZ⟩ := hv
  have hx := B.exec
  have hb := B.bytes
  have hr := B.returns
  have hlocks := B.notSynchronized
  have hts : ∀ w ∈ ALL, w.before _ s = true := fun w hw => atoms_spec (ws := wsy yX0_nextOnWay cX0_nextOnWay 6 (some .int)) B.pre w (List.mem_cons_of_mem _ hw)
  have hown : s.vm.findClass RX0 = some m.cls := findClass_of_methodNamed B.named
  have C : CX p s m _ c cX0_nextOnWay RX0 6 D ca Z := ⟨hx, hb, hml, hown, hts, hK, hZ⟩
  have hS : va_S A s.heap s.heap [] := va_S.rf
  have hl := lv_entry ([.ref (ad 0 0), .int x1, .int x2, .int x3, .int x4]) (n := 6) (Nat.le_of_ble_eq_true rfl)
  rw [lg_entry_eq]
  generalize (lg_sl ([.ref (ad 0 0), .int x1, .int x2, .int x3, .int x4]) ++ List.replicate (6 - (lg_sl ([.ref (ad 0 0), .int x1, .int x2, .int x3, .int x4])).length) Slot.unset).toArray = ls at hl ⊢
  have hl : lv_has ls 6 [(0, .ref (ad 0 0)), (1, .int x1), (2, .int x2), (3, .int x3), (4, .int x4)] := hl
  show W p l e (rmk 3) s m _ below meth c s.heap [] 0 0 _ _
  have P_f_X0_nextOnWay_35 : ∀ (v1 : Int32), f_X0_nextOnWay_35 N w  v1  = some r → WP p l e (rmk 3) s m [.ref (ad 0 0), .int x1, .int x2, .int x3, .int x4].toArray below meth c D ca ad PL A (MQ below (qcR D ca ad PL Z A w (some (.int r))) [.ref (ad 0 0), .int x1, .int x2, .int x3, .int x4].toArray s 0 0 A) 6 35 [] [(1, .int v1)] w := by
    intro v1 hf _ _ ls hP hS hl
    unfold f_X0_nextOnWay_35 at hf
    refine lv_iload_n hx hb dX0_nextOnWay_35 rfl (lv_at hl 0 rfl) ?_
    exact kr_i hok.2.2.1 C hlocks hr rfl hP hS rfl (Option.some.inj hf) dX0_nextOnWay_36
  have L_lp_X0_nextOnWay_3 : ∀ (v1 : Int32) (v2 : Int32) (v3 : Int32) (v4 : Int32) (k : Option (Int32)) (hk : k = some r → WP p l e (rmk 3) s m [.ref (ad 0 0), .int x1, .int x2, .int x3, .int x4].toArray below meth c D ca ad PL A (MQ below (qcR D ca ad PL Z A w (some (.int r))) [.ref (ad 0 0), .int x1, .int x2, .int x3, .int x4].toArray s 0 0 A) 6 35 [] [(1, .int v1)] w) (n : Nat) (v5 : Int32), lp_X0_nextOnWay_3 k N w  v1 v2 v3 v4 n v5 = some r → WP p l e (rmk 3) s m [.ref (ad 0 0), .int x1, .int x2, .int x3, .int x4].toArray below meth c D ca ad PL A (MQ below (qcR D ca ad PL Z A w (some (.int r))) [.ref (ad 0 0), .int x1, .int x2, .int x3, .int x4].toArray s 0 0 A) 6 3 [] [(0, .ref (ad 0 0)), (1, .int v1), (2, .int v2), (3, .int v3), (4, .int v4), (5, .int v5)] w := by
    intro v1 v2 v3 v4 k hk n
    induction n with
    | zero => intro v5 hf; rw [lp_X0_nextOnWay_3] at hf; cases hf
    | succ n ih =>
      intro v5 hf _ _ ls hP hS hl
      rw [lp_X0_nextOnWay_3] at hf
      refine lv_iload hx hb dX0_nextOnWay_3 (lv_at hl 5 rfl) ?_
      refine lv_aload_n hx hb dX0_nextOnWay_5 rfl (lv_at hl 0 rfl) ?_
      refine gt_0_3 (i := 0) C hP (hok.2.1 0 0 (Nat.le_of_ble_eq_true rfl)) lk_X0_37 dX0_nextOnWay_6 ?_
      refine lv_icmp_ge (tgt := 35) hx hb dX0_nextOnWay_9 (by decide) (fun c5 => ?_) (fun c5 => ?_)
      · have hf := ifp hf c5
        exact hk  hf _ _ ls hP hS (lv_sub hl [1] rfl)
      · have hf := ifn hf c5
        refine lv_aload_n hx hb dX0_nextOnWay_12 rfl (lv_at hl 0 rfl) ?_
        refine lv_iload_n hx hb dX0_nextOnWay_13 rfl (lv_at hl 2 rfl) ?_
        refine lv_iload_n hx hb dX0_nextOnWay_14 rfl (lv_at hl 1 rfl) ?_
        refine lv_iload hx hb dX0_nextOnWay_15 (lv_at hl 5 rfl) ?_
        refine lv_iload_n hx hb dX0_nextOnWay_17 rfl (lv_at hl 3 rfl) ?_
        obtain ⟨z2, q3, hf⟩ := bsp hf
        refine kc_V (ci := 0) (i := 0) (As := [.int v2, .int v1, .int v5, .int v3]) (rest := []) hok.2.2.1 C hP hS hl.1 (hok.2.1 0 0 (Nat.le_of_ble_eq_true rfl)) rfl rfl cw_X0_onwardSum ml_X0_114 (c_X0_onwardSum l D ca ad PL Z A hok N w v2 v1 v5 v3 z2 q3) rfl ⟨rfl, rfl⟩ ⟨Nat.le_of_ble_eq_true rfl, Nat.le_of_ble_eq_true rfl⟩ ⟨Nat.zero_le _, Nat.zero_le _⟩ (Nat.le_of_ble_eq_true rfl) rfl dX0_nextOnWay_18 (fun H locs hP hS => ?_)
        refine lv_iload hx hb dX0_nextOnWay_21 (lv_at hl 4 rfl) ?_
        refine lv_icmp_ne (tgt := 29) hx hb dX0_nextOnWay_23 (by decide) (fun c4 => ?_) (fun c4 => ?_)
        · have hf := ifn hf c4
          refine lv_iinc (v := (v5 + (1 : Int32))) (lv' := [(5, .int (v5 + (1 : Int32))), (0, .ref (ad 0 0)), (1, .int v1), (2, .int v2), (3, .int v3), (4, .int v4)]) hx hb dX0_nextOnWay_29 hl (k := 5) rfl rfl (by decide) rfl (fun ls hl => ?_)
          refine lv_goto (tgt := 3) hx hb dX0_nextOnWay_32 (by decide) ?_
          exact ih (v5 + (1 : Int32)) hf _ _ ls hP hS (lv_sub hl [1, 2, 3, 4, 5, 0] rfl)
        · have hf := ifp hf c4
          refine lv_iload hx hb dX0_nextOnWay_26 (lv_at hl 5 rfl) ?_
          exact kr_i hok.2.2.1 C hlocks hr rfl hP hS rfl (Option.some.inj hf) dX0_nextOnWay_28
  unfold f_X0_nextOnWay at hf
  -- walk
  refine lv_iconst (v := (0 : Int32)) hx hb dX0_nextOnWay_0 (by decide) ?_
  refine lv_istore (lv' := [(5, .int (0 : Int32)), (0, .ref (ad 0 0)), (1, .int x1), (2, .int x2), (3, .int x3), (4, .int x4)]) hx hb dX0_nextOnWay_1 hl (by decide) rfl (fun ls hl => ?_)
  exact L_lp_X0_nextOnWay_3 x1 x2 x3 x4 _ (fun hf H locs ls hP hS hl => P_f_X0_nextOnWay_35 x1 hf _ _ ls hP hS (lv_sub hl [0] rfl)) N (0 : Int32) hf _ _ ls hP hS (lv_sub hl [1, 2, 3, 4, 5, 0] rfl)
def f_X0_termOnWay_92 (N : Nat) (w : Mem)  (v5 : Int32) : Option (Mem × Int32) :=
  some (w, v5)
def lp_X0_termOnWay_29 (k : Int32 → Option (Mem × Int32)) (N : Nat) (w : Mem)  (v1 : Int32) (v2 : Int32) (v3 : Int32) (v4 : Int32) : Nat → Int32 → Int32 → Int32 → Option (Mem × Int32)
  | 0, _, _, _ => none
  | n + 1, v5, v6, v7 => (if v7 < (v4 - v3) then
(k v5)
else
(if v7 < (0 : Int32) then
(k v5)
else
(Option.bind (f_X0_least N w v1 v2) (fun z4 => (Option.bind (f_X0_nextOnWay N w v5 v6 v7 z4) (fun z6 => (if inb ((v5 * (24 : Int32)) + z6) 576 = true then (Option.bind (f_X0_plus N w v6 (gA w 11 0 ((v5 * (24 : Int32)) + z6).toNatClampNeg)) (fun z9 => (lp_X0_termOnWay_29 k N w  v1 v2 v3 v4 n z6 z9 (v7 + (-1 : Int32))))) else none)))))))
def f_X0_termOnWay (N : Nat) (w : Mem) (x1 : Int32) (x2 : Int32) (x3 : Int32) : Option (Mem × Int32) :=
  (Option.bind (f_X0_stepsOnWay N w x1 x2) (fun z1 => (if x3 ≤ z1.2 then
(lp_X0_termOnWay_29 (fun (u5_3 : Int32) => (f_X0_termOnWay_92 N z1.1  u5_3 )) N z1.1  x1 x2 x3 z1.2 N x1 (0 : Int32) (z1.2 - (1 : Int32)))
else
some (z1.1, (-2 : Int32)))))
set_option maxRecDepth 100000 in
set_option maxHeartbeats 4000000 in
theorem c_X0_termOnWay (l : Launch) (D : va_G) (ca : Nat → ClassId) (ad : Nat → Nat → Nat) (PL : List (Nat × Nat)) (Z : State → Prop) (A : Nat → Prop) (hok : okc bX Z A ad PL) (N : Nat) (w : Mem) (x1 : Int32) (x2 : Int32) (x3 : Int32) (w' : Mem) (r : Int32) (hf : f_X0_termOnWay N w x1 x2 x3 = some (w', r)) : CT l yX0_termOnWay (wsy yX0_termOnWay cX0_termOnWay 9 (some .int)) (rmk 5) D ca ad PL Z A [.ref (ad 0 0), .int x1, .int x2, .int x3] w w' (some (.int r)) := by
  refine Met.ofW (cc := cX0_termOnWay) (maxL := 9) (ret := (some .int)) (by decide +kernel) rfl ?_
  intro p e s m args below meth c s₁ B hml hv
  obtain ⟨rfl, hP, hK, hZ⟩ := hv
  have hx := B.exec
  have hb := B.bytes
  have hr := B.returns
  have hlocks := B.notSynchronized
  have hts : ∀ w ∈ ALL, w.before _ s = true := fun w hw => atoms_spec (ws := wsy yX0_termOnWay cX0_termOnWay 9 (some .int)) B.pre w (List.mem_cons_of_mem _ hw)
  have hown : s.vm.findClass RX0 = some m.cls := findClass_of_methodNamed B.named
  have C : CX p s m _ c cX0_termOnWay RX0 9 D ca Z := ⟨hx, hb, hml, hown, hts, hK, hZ⟩
  have hS : va_S A s.heap s.heap [] := va_S.rf
  have hl := lv_entry ([.ref (ad 0 0), .int x1, .int x2, .int x3]) (n := 9) (Nat.le_of_ble_eq_true rfl)
  rw [lg_entry_eq]
  generalize (lg_sl ([.ref (ad 0 0), .int x1, .int x2, .int x3]) ++ List.replicate (9 - (lg_sl ([.ref (ad 0 0), .int x1, .int x2, .int x3])).length) Slot.unset).toArray = ls at hl ⊢
  have hl : lv_has ls 9 [(0, .ref (ad 0 0)), (1, .int x1), (2, .int x2), (3, .int x3)] := hl
  show W p l e (rmk 5) s m _ below meth c s.heap [] 0 0 _ _
  have P_f_X0_termOnWay_92 : ∀ (w : Mem) (v5 : Int32), f_X0_termOnWay_92 N w  v5  = some (w', r) → WP p l e (rmk 5) s m [.ref (ad 0 0), .int x1, .int x2, .int x3].toArray below meth c D ca ad PL A (MQ below (qcR D ca ad PL Z A w' (some (.int r))) [.ref (ad 0 0), .int x1, .int x2, .int x3].toArray s 0 0 A) 9 92 [] [(5, .int v5)] w := by
    intro w v5 hf _ _ ls hP hS hl
    unfold f_X0_termOnWay_92 at hf
    refine lv_iload hx hb dX0_termOnWay_92 (lv_at hl 0 rfl) ?_
    exact kr_i hok.2.2.1 C hlocks hr rfl hP hS (congrArg Prod.fst (Option.some.inj hf)) (congrArg Prod.snd (Option.some.inj hf)) dX0_termOnWay_94
  have L_lp_X0_termOnWay_29 : ∀ (w : Mem) (v1 : Int32) (v2 : Int32) (v3 : Int32) (v4 : Int32) (k : Int32 → Option (Mem × Int32)) (hk : ∀ (v5 : Int32), k v5 = some (w', r) → WP p l e (rmk 5) s m [.ref (ad 0 0), .int x1, .int x2, .int x3].toArray below meth c D ca ad PL A (MQ below (qcR D ca ad PL Z A w' (some (.int r))) [.ref (ad 0 0), .int x1, .int x2, .int x3].toArray s 0 0 A) 9 92 [] [(5, .int v5)] w) (n : Nat) (v5 : Int32) (v6 : Int32) (v7 : Int32), lp_X0_termOnWay_29 k N w  v1 v2 v3 v4 n v5 v6 v7 = some (w', r) → WP p l e (rmk 5) s m [.ref (ad 0 0), .int x1, .int x2, .int x3].toArray below meth c D ca ad PL A (MQ below (qcR D ca ad PL Z A w' (some (.int r))) [.ref (ad 0 0), .int x1, .int x2, .int x3].toArray s 0 0 A) 9 29 [] [(0, .ref (ad 0 0)), (1, .int v1), (2, .int v2), (3, .int v3), (4, .int v4), (5, .int v5), (6, .int v6), (7, .int v7)] w := by
    intro w v1 v2 v3 v4 k hk n
    induction n with
    | zero => intro v5 v6 v7 hf; rw [lp_X0_termOnWay_29] at hf; cases hf
    | succ n ih =>
      intro v5 v6 v7 hf _ _ ls hP hS hl
      rw [lp_X0_termOnWay_29] at hf
      refine lv_iload hx hb dX0_termOnWay_29 (lv_at hl 7 rfl) ?_
      refine lv_iload hx hb dX0_termOnWay_31 (lv_at hl 4 rfl) ?_
      refine lv_iload_n hx hb dX0_termOnWay_33 rfl (lv_at hl 3 rfl) ?_
      refine lv_isub hx hb dX0_termOnWay_34 ?_
      refine lv_icmp_lt (tgt := 92) hx hb dX0_termOnWay_35 (by decide) (fun c12 => ?_) (fun c12 => ?_)
      · have hf := ifp hf c12
        exact hk v5 hf _ _ ls hP hS (lv_sub hl [5] rfl)
      · have hf := ifn hf c12
        refine lv_iload hx hb dX0_termOnWay_38 (lv_at hl 7 rfl) ?_
        refine lv_if_lt (tgt := 92) hx hb dX0_termOnWay_40 (by decide) (fun c11 => ?_) (fun c11 => ?_)
        · have hf := ifp hf c11
          exact hk v5 hf _ _ ls hP hS (lv_sub hl [5] rfl)
        · have hf := ifn hf c11
          refine lv_aload_n hx hb dX0_termOnWay_43 rfl (lv_at hl 0 rfl) ?_
          refine lv_iload hx hb dX0_termOnWay_44 (lv_at hl 5 rfl) ?_
          refine lv_iload hx hb dX0_termOnWay_46 (lv_at hl 6 rfl) ?_
          refine lv_iload hx hb dX0_termOnWay_48 (lv_at hl 7 rfl) ?_
          refine lv_aload_n hx hb dX0_termOnWay_50 rfl (lv_at hl 0 rfl) ?_
          refine lv_iload_n hx hb dX0_termOnWay_51 rfl (lv_at hl 1 rfl) ?_
          refine lv_iload_n hx hb dX0_termOnWay_52 rfl (lv_at hl 2 rfl) ?_
          obtain ⟨z4, q5, hf⟩ := bsp hf
          refine kc_V (ci := 0) (i := 0) (As := [.int v1, .int v2]) (rest := [.int v7, .int v6, .int v5, .ref (ad 0 0)]) hok.2.2.1 C hP hS hl.1 (hok.2.1 0 0 (Nat.le_of_ble_eq_true rfl)) rfl rfl cw_X0_least ml_X0_92 (c_X0_least l D ca ad PL Z A hok N w v1 v2 z4 q5) rfl ⟨rfl, rfl⟩ ⟨Nat.le_of_ble_eq_true rfl, Nat.le_of_ble_eq_true rfl⟩ ⟨Nat.zero_le _, Nat.zero_le _⟩ (Nat.le_of_ble_eq_true rfl) rfl dX0_termOnWay_53 (fun H locs hP hS => ?_)
          obtain ⟨z6, q7, hf⟩ := bsp hf
          refine kc_V (ci := 0) (i := 0) (As := [.int v5, .int v6, .int v7, .int z4]) (rest := []) hok.2.2.1 C hP hS hl.1 (hok.2.1 0 0 (Nat.le_of_ble_eq_true rfl)) rfl rfl cw_X0_nextOnWay ml_X0_106 (c_X0_nextOnWay l D ca ad PL Z A hok N w v5 v6 v7 z4 z6 q7) rfl ⟨rfl, rfl⟩ ⟨Nat.le_of_ble_eq_true rfl, Nat.le_of_ble_eq_true rfl⟩ ⟨Nat.zero_le _, Nat.zero_le _⟩ (Nat.le_of_ble_eq_true rfl) rfl dX0_termOnWay_56 (fun H locs hP hS => ?_)
          refine lv_istore (lv' := [(8, .int z6), (0, .ref (ad 0 0)), (1, .int v1), (2, .int v2), (3, .int v3), (4, .int v4), (5, .int v5), (6, .int v6), (7, .int v7)]) hx hb dX0_termOnWay_59 hl (by decide) rfl (fun ls hl => ?_)
          refine lv_aload_n hx hb dX0_termOnWay_61 rfl (lv_at hl 1 rfl) ?_
          refine lv_iload hx hb dX0_termOnWay_62 (lv_at hl 7 rfl) ?_
          refine lv_aload_n hx hb dX0_termOnWay_64 rfl (lv_at hl 1 rfl) ?_
          refine gt_0_1 (i := 0) C hP (hok.2.1 0 0 (Nat.le_of_ble_eq_true rfl)) lk_X0_15 dX0_termOnWay_65 ?_
          refine lv_iload hx hb dX0_termOnWay_68 (lv_at hl 6 rfl) ?_
          refine lv_bipush (v := (24 : Int32)) hx hb dX0_termOnWay_70 (by decide) ?_
          refine lv_imul hx hb dX0_termOnWay_72 ?_
          refine lv_iload hx hb dX0_termOnWay_73 (lv_at hl 0 rfl) ?_
          refine lv_iadd hx hb dX0_termOnWay_75 ?_
          obtain ⟨b8, hf⟩ := gsp hf
          refine ra_ild (k := 11) (i := 0) (n := 576) (f := (gA w 11 0)) C hP (hok.2.1 11 0 (Nat.le_of_ble_eq_true rfl)) rfl b8 dX0_termOnWay_76 ?_
          obtain ⟨z9, q10, hf⟩ := bsp hf
          refine kc_V (ci := 0) (i := 0) (As := [.int v6, .int (gA w 11 0 ((v5 * (24 : Int32)) + z6).toNatClampNeg)]) (rest := []) hok.2.2.1 C hP hS hl.1 (hok.2.1 0 0 (Nat.le_of_ble_eq_true rfl)) rfl rfl cw_X0_plus ml_X0_95 (c_X0_plus l D ca ad PL Z A hok N w v6 (gA w 11 0 ((v5 * (24 : Int32)) + z6).toNatClampNeg) z9 q10) rfl ⟨rfl, rfl⟩ ⟨Nat.le_of_ble_eq_true rfl, Nat.le_of_ble_eq_true rfl⟩ ⟨Nat.zero_le _, Nat.zero_le _⟩ (Nat.le_of_ble_eq_true rfl) rfl dX0_termOnWay_77 (fun H locs hP hS => ?_)
          refine lv_istore (lv' := [(6, .int z9), (8, .int z6), (0, .ref (ad 0 0)), (1, .int v1), (2, .int v2), (3, .int v3), (4, .int v4), (5, .int v5), (7, .int v7)]) hx hb dX0_termOnWay_80 hl (by decide) rfl (fun ls hl => ?_)
          refine lv_iload hx hb dX0_termOnWay_82 (lv_at hl 1 rfl) ?_
          refine lv_istore (lv' := [(5, .int z6), (6, .int z9), (8, .int z6), (0, .ref (ad 0 0)), (1, .int v1), (2, .int v2), (3, .int v3), (4, .int v4), (7, .int v7)]) hx hb dX0_termOnWay_84 hl (by decide) rfl (fun ls hl => ?_)
          refine lv_iinc (v := (v7 + (-1 : Int32))) (lv' := [(7, .int (v7 + (-1 : Int32))), (5, .int z6), (6, .int z9), (8, .int z6), (0, .ref (ad 0 0)), (1, .int v1), (2, .int v2), (3, .int v3), (4, .int v4)]) hx hb dX0_termOnWay_86 hl (k := 8) rfl rfl (by decide) rfl (fun ls hl => ?_)
          refine lv_goto (tgt := 29) hx hb dX0_termOnWay_89 (by decide) ?_
          exact ih z6 z9 (v7 + (-1 : Int32)) hf _ _ ls hP hS (lv_sub hl [4, 5, 6, 7, 8, 1, 2, 0] rfl)
  unfold f_X0_termOnWay at hf
  -- walk
  refine lv_aload_n hx hb dX0_termOnWay_0 rfl (lv_at hl 0 rfl) ?_
  refine lv_iload_n hx hb dX0_termOnWay_1 rfl (lv_at hl 1 rfl) ?_
  refine lv_iload_n hx hb dX0_termOnWay_2 rfl (lv_at hl 2 rfl) ?_
  obtain ⟨z1, q2, hf⟩ := bsp hf
  refine kc_V (ci := 0) (i := 0) (As := [.int x1, .int x2]) (rest := []) hok.2.2.1 C hP hS hl.1 (hok.2.1 0 0 (Nat.le_of_ble_eq_true rfl)) rfl rfl cw_X0_stepsOnWay ml_X0_103 (c_X0_stepsOnWay l D ca ad PL Z A hok N w x1 x2 z1.1 z1.2 q2) rfl ⟨rfl, rfl⟩ ⟨Nat.le_of_ble_eq_true rfl, Nat.le_of_ble_eq_true rfl⟩ ⟨Nat.zero_le _, Nat.zero_le _⟩ (Nat.le_of_ble_eq_true rfl) rfl dX0_termOnWay_3 (fun H locs hP hS => ?_)
  refine lv_istore (lv' := [(4, .int z1.2), (0, .ref (ad 0 0)), (1, .int x1), (2, .int x2), (3, .int x3)]) hx hb dX0_termOnWay_6 hl (by decide) rfl (fun ls hl => ?_)
  refine lv_iload_n hx hb dX0_termOnWay_8 rfl (lv_at hl 4 rfl) ?_
  refine lv_iload hx hb dX0_termOnWay_9 (lv_at hl 0 rfl) ?_
  refine lv_icmp_le (tgt := 17) hx hb dX0_termOnWay_11 (by decide) (fun c13 => ?_) (fun c13 => ?_)
  · have hf := ifp hf c13
    refine lv_iload_n hx hb dX0_termOnWay_17 rfl (lv_at hl 2 rfl) ?_
    refine lv_istore (lv' := [(5, .int x1), (4, .int z1.2), (0, .ref (ad 0 0)), (1, .int x1), (2, .int x2), (3, .int x3)]) hx hb dX0_termOnWay_18 hl (by decide) rfl (fun ls hl => ?_)
    refine lv_iconst (v := (0 : Int32)) hx hb dX0_termOnWay_20 (by decide) ?_
    refine lv_istore (lv' := [(6, .int (0 : Int32)), (5, .int x1), (4, .int z1.2), (0, .ref (ad 0 0)), (1, .int x1), (2, .int x2), (3, .int x3)]) hx hb dX0_termOnWay_21 hl (by decide) rfl (fun ls hl => ?_)
    refine lv_iload hx hb dX0_termOnWay_23 (lv_at hl 2 rfl) ?_
    refine lv_iconst (v := (1 : Int32)) hx hb dX0_termOnWay_25 (by decide) ?_
    refine lv_isub hx hb dX0_termOnWay_26 ?_
    refine lv_istore (lv' := [(7, .int (z1.2 - (1 : Int32))), (6, .int (0 : Int32)), (5, .int x1), (4, .int z1.2), (0, .ref (ad 0 0)), (1, .int x1), (2, .int x2), (3, .int x3)]) hx hb dX0_termOnWay_27 hl (by decide) rfl (fun ls hl => ?_)
    exact L_lp_X0_termOnWay_29 z1.1 x1 x2 x3 z1.2 _ (fun u5_3 hf H locs ls hP hS hl => P_f_X0_termOnWay_92 z1.1 u5_3 hf _ _ ls hP hS (lv_sub hl [0] rfl)) N x1 (0 : Int32) (z1.2 - (1 : Int32)) hf _ _ ls hP hS (lv_sub hl [4, 5, 6, 7, 3, 2, 1, 0] rfl)
  · have hf := ifn hf c13
    refine lv_bipush (v := (-2 : Int32)) hx hb dX0_termOnWay_14 (by decide) ?_
    exact kr_i hok.2.2.1 C hlocks hr rfl hP hS (congrArg Prod.fst (Option.some.inj hf)) (congrArg Prod.snd (Option.some.inj hf)) dX0_termOnWay_16
