def f_X7_clear (N : Nat) (w : Mem) (i0 : Nat) : Option (Mem) :=
  some (sF (sF (sF w 7 9 i0 (0 : Int32)) 7 10 i0 (0 : Int32)) 7 11 i0 (0 : Int32))
set_option maxRecDepth 100000 in
set_option maxHeartbeats 4000000 in
theorem c_X7_clear (l : Launch) (D : va_G) (ca : Nat → ClassId) (ad : Nat → Nat → Nat) (PL : List (Nat × Nat)) (Z : State → Prop) (A : Nat → Prop) (hok : okc bX Z A ad PL) (N : Nat) (w : Mem) (i0 : Nat) (h0 : i0 < 2) (w' : Mem) (hf : f_X7_clear N w i0 = some w') : CT l yX7_clear (wsy yX7_clear cX7_clear 1 none) (rmk 0) D ca ad PL Z A [.ref (ad 7 i0)] w w' none := by
  refine Met.ofW (cc := cX7_clear) (maxL := 1) (ret := none) (by decide +kernel) rfl ?_
  intro p e s m args below meth c s₁ B hml hv
  obtain ⟨rfl, hP, hK, hZ⟩ := hv
  have hx := B.exec
  have hb := B.bytes
  have hr := B.returns
  have hlocks := B.notSynchronized
  have hts : ∀ w ∈ ALL, w.before _ s = true := fun w hw => atoms_spec (ws := wsy yX7_clear cX7_clear 1 none) B.pre w (List.mem_cons_of_mem _ hw)
  have hown : s.vm.findClass RX7 = some m.cls := findClass_of_methodNamed B.named
  have C : CX p s m _ c cX7_clear RX7 1 D ca Z := ⟨hx, hb, hml, hown, hts, hK, hZ⟩
  have hS : va_S A s.heap s.heap [] := va_S.rf
  have hl := lv_entry ([.ref (ad 7 i0)]) (n := 1) (Nat.le_of_ble_eq_true rfl)
  rw [lg_entry_eq]
  generalize (lg_sl ([.ref (ad 7 i0)]) ++ List.replicate (1 - (lg_sl ([.ref (ad 7 i0)])).length) Slot.unset).toArray = ls at hl ⊢
  have hl : lv_has ls 1 [(0, .ref (ad 7 i0))] := hl
  show W p l e (rmk 0) s m _ below meth c s.heap [] 0 0 _ _
  unfold f_X7_clear at hf
  -- walk
  refine lv_aload_n hx hb dX7_clear_0 rfl (lv_at hl 0 rfl) ?_
  refine lv_iconst (v := (0 : Int32)) hx hb dX7_clear_1 (by decide) ?_
  refine pt_7_9 (i := i0) (v := (0 : Int32)) C hok.1 hP hS (hok.2.1 7 i0 h0) lk_X7_39 dX7_clear_2 (fun H locs hP hS => ?_)
  refine lv_aload_n hx hb dX7_clear_5 rfl (lv_at hl 0 rfl) ?_
  refine lv_iconst (v := (0 : Int32)) hx hb dX7_clear_6 (by decide) ?_
  refine pt_7_10 (i := i0) (v := (0 : Int32)) C hok.1 hP hS (hok.2.1 7 i0 h0) lk_X7_43 dX7_clear_7 (fun H locs hP hS => ?_)
  refine lv_aload_n hx hb dX7_clear_10 rfl (lv_at hl 0 rfl) ?_
  refine lv_iconst (v := (0 : Int32)) hx hb dX7_clear_11 (by decide) ?_
  refine pt_7_11 (i := i0) (v := (0 : Int32)) C hok.1 hP hS (hok.2.1 7 i0 h0) lk_X7_46 dX7_clear_12 (fun H locs hP hS => ?_)
  exact kr_v hok.2.2.1 C hlocks hr hP hS (Option.some.inj hf) dX7_clear_15
def f_X7_listPairs_84 (N : Nat) (w : Mem) (i0 : Nat) : Option (Mem) :=
  some w
def f_X7_listPairs_78_7 (rc : Mem → Int32 → Option (Mem)) (k : Mem → Option (Mem)) (N : Nat) (w : Mem) (i0 : Nat) (v1 : Int32) : Option (Mem) :=
  (rc w (v1 + (1 : Int32)))
def lp_X7_listPairs_19 (k : Mem → Option (Mem)) (N : Nat) (i0 : Nat) (v1 : Int32) : Nat → Mem → Int32 → Option (Mem)
  | 0, _, _ => none
  | n + 1, w, v2 => (if (gF w 7 10 i0) ≤ v2 then
(k w)
else
(if inb v1 24 = true then (if inb v2 24 = true then (if (gA w 33 i0 v1.toNatClampNeg) = (gA w 33 i0 v2.toNatClampNeg) then
(if inb (gF w 7 11 i0) 276 = true then (if inb (gF (sA w 38 i0 (gF w 7 11 i0).toNatClampNeg v1) 7 11 i0) 276 = true then (lp_X7_listPairs_19 k N  i0 v1 n (sF (sA (sA w 38 i0 (gF w 7 11 i0).toNatClampNeg v1) 39 i0 (gF (sA w 38 i0 (gF w 7 11 i0).toNatClampNeg v1) 7 11 i0).toNatClampNeg v2) 7 11 i0 ((gF (sA (sA w 38 i0 (gF w 7 11 i0).toNatClampNeg v1) 39 i0 (gF (sA w 38 i0 (gF w 7 11 i0).toNatClampNeg v1) 7 11 i0).toNatClampNeg v2) 7 11 i0) + (1 : Int32))) (v2 + (1 : Int32))) else none) else none)
else
(lp_X7_listPairs_19 k N  i0 v1 n w (v2 + (1 : Int32)))) else none) else none))
def lp_X7_listPairs_7 (k : Mem → Option (Mem)) (N : Nat) (i0 : Nat) : Nat → Mem → Int32 → Option (Mem)
  | 0, _, _ => none
  | n + 1, w, v1 => (if (gF w 7 10 i0) ≤ v1 then
(k w)
else
(lp_X7_listPairs_19 (fun (w_2 : Mem) => (f_X7_listPairs_78_7 (fun (w : Mem) (v1 : Int32) => lp_X7_listPairs_7 k N  i0  n w v1) k N w_2 i0 v1 )) N  i0 v1 N w (v1 + (1 : Int32))))
def f_X7_listPairs (N : Nat) (w : Mem) (i0 : Nat) : Option (Mem) :=
  (lp_X7_listPairs_7 (fun (w_1 : Mem) => (f_X7_listPairs_84 N w_1 i0  )) N  i0  N (sF w 7 11 i0 (0 : Int32)) (0 : Int32))
set_option maxRecDepth 100000 in
set_option maxHeartbeats 4000000 in
theorem c_X7_listPairs (l : Launch) (D : va_G) (ca : Nat → ClassId) (ad : Nat → Nat → Nat) (PL : List (Nat × Nat)) (Z : State → Prop) (A : Nat → Prop) (hok : okc bX Z A ad PL) (N : Nat) (w : Mem) (i0 : Nat) (h0 : i0 < 2) (w' : Mem) (hf : f_X7_listPairs N w i0 = some w') : CT l yX7_listPairs (wsy yX7_listPairs cX7_listPairs 3 none) (rmk 0) D ca ad PL Z A [.ref (ad 7 i0)] w w' none := by
  refine Met.ofW (cc := cX7_listPairs) (maxL := 3) (ret := none) (by decide +kernel) rfl ?_
  intro p e s m args below meth c s₁ B hml hv
  obtain ⟨rfl, hP, hK, hZ⟩ := hv
  have hx := B.exec
  have hb := B.bytes
  have hr := B.returns
  have hlocks := B.notSynchronized
  have hts : ∀ w ∈ ALL, w.before _ s = true := fun w hw => atoms_spec (ws := wsy yX7_listPairs cX7_listPairs 3 none) B.pre w (List.mem_cons_of_mem _ hw)
  have hown : s.vm.findClass RX7 = some m.cls := findClass_of_methodNamed B.named
  have C : CX p s m _ c cX7_listPairs RX7 3 D ca Z := ⟨hx, hb, hml, hown, hts, hK, hZ⟩
  have hS : va_S A s.heap s.heap [] := va_S.rf
  have hl := lv_entry ([.ref (ad 7 i0)]) (n := 3) (Nat.le_of_ble_eq_true rfl)
  rw [lg_entry_eq]
  generalize (lg_sl ([.ref (ad 7 i0)]) ++ List.replicate (3 - (lg_sl ([.ref (ad 7 i0)])).length) Slot.unset).toArray = ls at hl ⊢
  have hl : lv_has ls 3 [(0, .ref (ad 7 i0))] := hl
  show W p l e (rmk 0) s m _ below meth c s.heap [] 0 0 _ _
  have P_f_X7_listPairs_84 : ∀ (w : Mem), f_X7_listPairs_84 N w i0   = some w' → WP p l e (rmk 0) s m [.ref (ad 7 i0)].toArray below meth c D ca ad PL A (MQ below (qcR D ca ad PL Z A w' none) [.ref (ad 7 i0)].toArray s 0 0 A) 3 84 [] [] w := by
    intro w hf _ _ ls hP hS hl
    unfold f_X7_listPairs_84 at hf
    exact kr_v hok.2.2.1 C hlocks hr hP hS (Option.some.inj hf) dX7_listPairs_84
  have P_f_X7_listPairs_78_7 : ∀ (rc : Mem → Int32 → Option (Mem)) (hrc : ∀ (w : Mem) (v1 : Int32), rc w v1 = some w' → WP p l e (rmk 0) s m [.ref (ad 7 i0)].toArray below meth c D ca ad PL A (MQ below (qcR D ca ad PL Z A w' none) [.ref (ad 7 i0)].toArray s 0 0 A) 3 7 [] [(0, .ref (ad 7 i0)), (1, .int v1)] w) (k : Mem → Option (Mem)) (hk : ∀ (w : Mem), k w = some w' → WP p l e (rmk 0) s m [.ref (ad 7 i0)].toArray below meth c D ca ad PL A (MQ below (qcR D ca ad PL Z A w' none) [.ref (ad 7 i0)].toArray s 0 0 A) 3 84 [] [] w) (w : Mem) (v1 : Int32), f_X7_listPairs_78_7 rc k N w i0 v1  = some w' → WP p l e (rmk 0) s m [.ref (ad 7 i0)].toArray below meth c D ca ad PL A (MQ below (qcR D ca ad PL Z A w' none) [.ref (ad 7 i0)].toArray s 0 0 A) 3 78 [] [(0, .ref (ad 7 i0)), (1, .int v1)] w := by
    intro rc hrc k hk w v1 hf _ _ ls hP hS hl
    unfold f_X7_listPairs_78_7 at hf
    refine lv_iinc (v := (v1 + (1 : Int32))) (lv' := [(1, .int (v1 + (1 : Int32))), (0, .ref (ad 7 i0))]) hx hb dX7_listPairs_78 hl (k := 1) rfl rfl (by decide) rfl (fun ls hl => ?_)
    refine lv_goto (tgt := 7) hx hb dX7_listPairs_81 (by decide) ?_
    exact hrc w (v1 + (1 : Int32)) hf _ _ ls hP hS (lv_sub hl [1, 0] rfl)
  have L_lp_X7_listPairs_19 : ∀ (v1 : Int32) (k : Mem → Option (Mem)) (hk : ∀ (w : Mem), k w = some w' → WP p l e (rmk 0) s m [.ref (ad 7 i0)].toArray below meth c D ca ad PL A (MQ below (qcR D ca ad PL Z A w' none) [.ref (ad 7 i0)].toArray s 0 0 A) 3 78 [] [(0, .ref (ad 7 i0)), (1, .int v1)] w) (n : Nat) (w : Mem) (v2 : Int32), lp_X7_listPairs_19 k N  i0 v1 n w v2 = some w' → WP p l e (rmk 0) s m [.ref (ad 7 i0)].toArray below meth c D ca ad PL A (MQ below (qcR D ca ad PL Z A w' none) [.ref (ad 7 i0)].toArray s 0 0 A) 3 19 [] [(0, .ref (ad 7 i0)), (1, .int v1), (2, .int v2)] w := by
    intro v1 k hk n
    induction n with
    | zero => intro w v2 hf; rw [lp_X7_listPairs_19] at hf; cases hf
    | succ n ih =>
      intro w v2 hf _ _ ls hP hS hl
      rw [lp_X7_listPairs_19] at hf
      refine lv_iload_n hx hb dX7_listPairs_19 rfl (lv_at hl 2 rfl) ?_
      refine lv_aload_n hx hb dX7_listPairs_20 rfl (lv_at hl 0 rfl) ?_
      refine gt_7_10 (i := i0) C hP (hok.2.1 7 i0 h0) lk_X7_43 dX7_listPairs_21 ?_
      refine lv_icmp_ge (tgt := 78) hx hb dX7_listPairs_24 (by decide) (fun c8 => ?_) (fun c8 => ?_)
      · have hf := ifp hf c8
        exact hk w hf _ _ ls hP hS (lv_sub hl [0, 1] rfl)
      · have hf := ifn hf c8
        refine lv_aload_n hx hb dX7_listPairs_27 rfl (lv_at hl 0 rfl) ?_
        refine gt_7_2 (i := i0) C hP (hok.2.1 7 i0 h0) lk_X7_18 dX7_listPairs_28 ?_
        refine lv_iload_n hx hb dX7_listPairs_31 rfl (lv_at hl 1 rfl) ?_
        obtain ⟨b3, hf⟩ := gsp hf
        refine ra_ild (k := 33) (i := i0) (n := 24) (f := (gA w 33 i0)) C hP (hok.2.1 33 i0 h0) rfl b3 dX7_listPairs_32 ?_
        refine lv_aload_n hx hb dX7_listPairs_33 rfl (lv_at hl 0 rfl) ?_
        refine gt_7_2 (i := i0) C hP (hok.2.1 7 i0 h0) lk_X7_18 dX7_listPairs_34 ?_
        refine lv_iload_n hx hb dX7_listPairs_37 rfl (lv_at hl 2 rfl) ?_
        obtain ⟨b4, hf⟩ := gsp hf
        refine ra_ild (k := 33) (i := i0) (n := 24) (f := (gA w 33 i0)) C hP (hok.2.1 33 i0 h0) rfl b4 dX7_listPairs_38 ?_
        refine lv_icmp_ne (tgt := 72) hx hb dX7_listPairs_39 (by decide) (fun c7 => ?_) (fun c7 => ?_)
        · have hf := ifn hf c7
          refine lv_iinc (v := (v2 + (1 : Int32))) (lv' := [(2, .int (v2 + (1 : Int32))), (0, .ref (ad 7 i0)), (1, .int v1)]) hx hb dX7_listPairs_72 hl (k := 2) rfl rfl (by decide) rfl (fun ls hl => ?_)
          refine lv_goto (tgt := 19) hx hb dX7_listPairs_75 (by decide) ?_
          exact ih w (v2 + (1 : Int32)) hf _ _ ls hP hS (lv_sub hl [1, 2, 0] rfl)
        · have hf := ifp hf c7
          refine lv_aload_n hx hb dX7_listPairs_42 rfl (lv_at hl 0 rfl) ?_
          refine gt_7_7 (i := i0) C hP (hok.2.1 7 i0 h0) lk_X7_33 dX7_listPairs_43 ?_
          refine lv_aload_n hx hb dX7_listPairs_46 rfl (lv_at hl 0 rfl) ?_
          refine gt_7_11 (i := i0) C hP (hok.2.1 7 i0 h0) lk_X7_46 dX7_listPairs_47 ?_
          refine lv_iload_n hx hb dX7_listPairs_50 rfl (lv_at hl 1 rfl) ?_
          obtain ⟨b5, hf⟩ := gsp hf
          refine ra_ist (k := 38) (i := i0) (n := 276) C hok.1 hP hS (hok.2.1 38 i0 h0) (fun _ => rfl) b5 dX7_listPairs_51 (fun H locs hP hS => ?_)
          refine lv_aload_n hx hb dX7_listPairs_52 rfl (lv_at hl 0 rfl) ?_
          refine gt_7_8 (i := i0) C hP (hok.2.1 7 i0 h0) lk_X7_36 dX7_listPairs_53 ?_
          refine lv_aload_n hx hb dX7_listPairs_56 rfl (lv_at hl 0 rfl) ?_
          refine gt_7_11 (i := i0) C hP (hok.2.1 7 i0 h0) lk_X7_46 dX7_listPairs_57 ?_
          refine lv_iload_n hx hb dX7_listPairs_60 rfl (lv_at hl 2 rfl) ?_
          obtain ⟨b6, hf⟩ := gsp hf
          refine ra_ist (k := 39) (i := i0) (n := 276) C hok.1 hP hS (hok.2.1 39 i0 h0) (fun _ => rfl) b6 dX7_listPairs_61 (fun H locs hP hS => ?_)
          refine lv_aload_n hx hb dX7_listPairs_62 rfl (lv_at hl 0 rfl) ?_
          refine lv_dup hx hb dX7_listPairs_63 rfl ?_
          refine gt_7_11 (i := i0) C hP (hok.2.1 7 i0 h0) lk_X7_46 dX7_listPairs_64 ?_
          refine lv_iconst (v := (1 : Int32)) hx hb dX7_listPairs_67 (by decide) ?_
          refine lv_iadd hx hb dX7_listPairs_68 ?_
          refine pt_7_11 (i := i0) (v := ((gF (sA (sA w 38 i0 (gF w 7 11 i0).toNatClampNeg v1) 39 i0 (gF (sA w 38 i0 (gF w 7 11 i0).toNatClampNeg v1) 7 11 i0).toNatClampNeg v2) 7 11 i0) + (1 : Int32))) C hok.1 hP hS (hok.2.1 7 i0 h0) lk_X7_46 dX7_listPairs_69 (fun H locs hP hS => ?_)
          refine lv_iinc (v := (v2 + (1 : Int32))) (lv' := [(2, .int (v2 + (1 : Int32))), (0, .ref (ad 7 i0)), (1, .int v1)]) hx hb dX7_listPairs_72 hl (k := 2) rfl rfl (by decide) rfl (fun ls hl => ?_)
          refine lv_goto (tgt := 19) hx hb dX7_listPairs_75 (by decide) ?_
          exact ih (sF (sA (sA w 38 i0 (gF w 7 11 i0).toNatClampNeg v1) 39 i0 (gF (sA w 38 i0 (gF w 7 11 i0).toNatClampNeg v1) 7 11 i0).toNatClampNeg v2) 7 11 i0 ((gF (sA (sA w 38 i0 (gF w 7 11 i0).toNatClampNeg v1) 39 i0 (gF (sA w 38 i0 (gF w 7 11 i0).toNatClampNeg v1) 7 11 i0).toNatClampNeg v2) 7 11 i0) + (1 : Int32))) (v2 + (1 : Int32)) hf _ _ ls hP hS (lv_sub hl [1, 2, 0] rfl)
  have L_lp_X7_listPairs_7 : ∀ (k : Mem → Option (Mem)) (hk : ∀ (w : Mem), k w = some w' → WP p l e (rmk 0) s m [.ref (ad 7 i0)].toArray below meth c D ca ad PL A (MQ below (qcR D ca ad PL Z A w' none) [.ref (ad 7 i0)].toArray s 0 0 A) 3 84 [] [] w) (n : Nat) (w : Mem) (v1 : Int32), lp_X7_listPairs_7 k N  i0  n w v1 = some w' → WP p l e (rmk 0) s m [.ref (ad 7 i0)].toArray below meth c D ca ad PL A (MQ below (qcR D ca ad PL Z A w' none) [.ref (ad 7 i0)].toArray s 0 0 A) 3 7 [] [(0, .ref (ad 7 i0)), (1, .int v1)] w := by
    intro k hk n
    induction n with
    | zero => intro w v1 hf; rw [lp_X7_listPairs_7] at hf; cases hf
    | succ n ih =>
      intro w v1 hf _ _ ls hP hS hl
      rw [lp_X7_listPairs_7] at hf
      refine lv_iload_n hx hb dX7_listPairs_7 rfl (lv_at hl 1 rfl) ?_
      refine lv_aload_n hx hb dX7_listPairs_8 rfl (lv_at hl 0 rfl) ?_
      refine gt_7_10 (i := i0) C hP (hok.2.1 7 i0 h0) lk_X7_43 dX7_listPairs_9 ?_
      refine lv_icmp_ge (tgt := 84) hx hb dX7_listPairs_12 (by decide) (fun c9 => ?_) (fun c9 => ?_)
      · have hf := ifp hf c9
        exact hk w hf _ _ ls hP hS (lv_sub hl [] rfl)
      · have hf := ifn hf c9
        refine lv_iload_n hx hb dX7_listPairs_15 rfl (lv_at hl 1 rfl) ?_
        refine lv_iconst (v := (1 : Int32)) hx hb dX7_listPairs_16 (by decide) ?_
        refine lv_iadd hx hb dX7_listPairs_17 ?_
        refine lv_istore_n (lv' := [(2, .int (v1 + (1 : Int32))), (0, .ref (ad 7 i0)), (1, .int v1)]) hx hb dX7_listPairs_18 rfl hl (by decide) rfl (fun ls hl => ?_)
        exact L_lp_X7_listPairs_19 v1 _ (fun w_2 hf H locs ls hP hS hl => P_f_X7_listPairs_78_7 _ ih _ hk w_2 v1 hf _ _ ls hP hS (lv_sub hl [0, 1] rfl)) N w (v1 + (1 : Int32)) hf _ _ ls hP hS (lv_sub hl [1, 2, 0] rfl)
  unfold f_X7_listPairs at hf
  -- walk
  refine lv_aload_n hx hb dX7_listPairs_0 rfl (lv_at hl 0 rfl) ?_
  refine lv_iconst (v := (0 : Int32)) hx hb dX7_listPairs_1 (by decide) ?_
  refine pt_7_11 (i := i0) (v := (0 : Int32)) C hok.1 hP hS (hok.2.1 7 i0 h0) lk_X7_46 dX7_listPairs_2 (fun H locs hP hS => ?_)
  refine lv_iconst (v := (0 : Int32)) hx hb dX7_listPairs_5 (by decide) ?_
  refine lv_istore_n (lv' := [(1, .int (0 : Int32)), (0, .ref (ad 7 i0))]) hx hb dX7_listPairs_6 rfl hl (by decide) rfl (fun ls hl => ?_)
  exact L_lp_X7_listPairs_7 _ (fun w_1 hf H locs ls hP hS hl => P_f_X7_listPairs_84 w_1 hf _ _ ls hP hS (lv_sub hl [] rfl)) N (sF w 7 11 i0 (0 : Int32)) (0 : Int32) hf _ _ ls hP hS (lv_sub hl [1, 0] rfl)
def f_X7_addTerm_115 (N : Nat) (w : Mem) (i0 : Nat) (v7 : Int32) : Option (Mem) :=
  (if inb (gF w 7 10 i0) 24 = true then (Option.bind (f_X7_listPairs N (sF (sA w 35 i0 (gF w 7 10 i0).toNatClampNeg v7) 7 10 i0 ((gF (sA w 35 i0 (gF w 7 10 i0).toNatClampNeg v7) 7 10 i0) + (1 : Int32))) i0) (fun z8 => some z8)) else none)
def lp_X7_addTerm_74 (k : Int32 → Option (Mem)) (N : Nat) (w : Mem) (i0 : Nat) (v2 : Int32) (v6 : Int32) : Nat → Int32 → Int32 → Option (Mem)
  | 0, _, _ => none
  | n + 1, v7, v8 => (if inb v2 8 = true then (if (gA w 31 i0 v2.toNatClampNeg) ≤ v8 then
(k v7)
else
(if inb (v6 + v8) 72 = true then (if inb (gA w 36 i0 (v6 + v8).toNatClampNeg) 24 = true then (lp_X7_addTerm_74 k N w i0 v2 v6 n (if v7 < ((1 : Int32) + (gA w 35 i0 (gA w 36 i0 (v6 + v8).toNatClampNeg).toNatClampNeg)) then ((1 : Int32) + (gA w 35 i0 (gA w 36 i0 (v6 + v8).toNatClampNeg).toNatClampNeg)) else v7) (v8 + (1 : Int32))) else none) else none)) else none)
def f_X7_addTerm (N : Nat) (w : Mem) (i0 : Nat) (x1 : Int32) (x2 : Int32) (x3 : Int32) (x4 : Int32) (x5 : Int32) : Option (Mem) :=
  (if (gF w 7 10 i0) < (24 : Int32) then
(if inb ((gF w 7 10 i0) * (3 : Int32)) 72 = true then (if inb (((gF w 7 10 i0) * (3 : Int32)) + (1 : Int32)) 72 = true then (if inb (((gF w 7 10 i0) * (3 : Int32)) + (2 : Int32)) 72 = true then (if inb (gF (sA (sA (sA w 36 i0 ((gF w 7 10 i0) * (3 : Int32)).toNatClampNeg x3) 36 i0 (((gF w 7 10 i0) * (3 : Int32)) + (1 : Int32)).toNatClampNeg x4) 36 i0 (((gF w 7 10 i0) * (3 : Int32)) + (2 : Int32)).toNatClampNeg x5) 7 10 i0) 24 = true then (if inb (gF (sA (sA (sA (sA w 36 i0 ((gF w 7 10 i0) * (3 : Int32)).toNatClampNeg x3) 36 i0 (((gF w 7 10 i0) * (3 : Int32)) + (1 : Int32)).toNatClampNeg x4) 36 i0 (((gF w 7 10 i0) * (3 : Int32)) + (2 : Int32)).toNatClampNeg x5) 34 i0 (gF (sA (sA (sA w 36 i0 ((gF w 7 10 i0) * (3 : Int32)).toNatClampNeg x3) 36 i0 (((gF w 7 10 i0) * (3 : Int32)) + (1 : Int32)).toNatClampNeg x4) 36 i0 (((gF w 7 10 i0) * (3 : Int32)) + (2 : Int32)).toNatClampNeg x5) 7 10 i0).toNatClampNeg x1) 7 10 i0) 24 = true then (lp_X7_addTerm_74 (fun (u7_6 : Int32) => (f_X7_addTerm_115 N (sA (sA (sA (sA (sA w 36 i0 ((gF w 7 10 i0) * (3 : Int32)).toNatClampNeg x3) 36 i0 (((gF w 7 10 i0) * (3 : Int32)) + (1 : Int32)).toNatClampNeg x4) 36 i0 (((gF w 7 10 i0) * (3 : Int32)) + (2 : Int32)).toNatClampNeg x5) 34 i0 (gF (sA (sA (sA w 36 i0 ((gF w 7 10 i0) * (3 : Int32)).toNatClampNeg x3) 36 i0 (((gF w 7 10 i0) * (3 : Int32)) + (1 : Int32)).toNatClampNeg x4) 36 i0 (((gF w 7 10 i0) * (3 : Int32)) + (2 : Int32)).toNatClampNeg x5) 7 10 i0).toNatClampNeg x1) 33 i0 (gF (sA (sA (sA (sA w 36 i0 ((gF w 7 10 i0) * (3 : Int32)).toNatClampNeg x3) 36 i0 (((gF w 7 10 i0) * (3 : Int32)) + (1 : Int32)).toNatClampNeg x4) 36 i0 (((gF w 7 10 i0) * (3 : Int32)) + (2 : Int32)).toNatClampNeg x5) 34 i0 (gF (sA (sA (sA w 36 i0 ((gF w 7 10 i0) * (3 : Int32)).toNatClampNeg x3) 36 i0 (((gF w 7 10 i0) * (3 : Int32)) + (1 : Int32)).toNatClampNeg x4) 36 i0 (((gF w 7 10 i0) * (3 : Int32)) + (2 : Int32)).toNatClampNeg x5) 7 10 i0).toNatClampNeg x1) 7 10 i0).toNatClampNeg x2) i0 u7_6 )) N (sA (sA (sA (sA (sA w 36 i0 ((gF w 7 10 i0) * (3 : Int32)).toNatClampNeg x3) 36 i0 (((gF w 7 10 i0) * (3 : Int32)) + (1 : Int32)).toNatClampNeg x4) 36 i0 (((gF w 7 10 i0) * (3 : Int32)) + (2 : Int32)).toNatClampNeg x5) 34 i0 (gF (sA (sA (sA w 36 i0 ((gF w 7 10 i0) * (3 : Int32)).toNatClampNeg x3) 36 i0 (((gF w 7 10 i0) * (3 : Int32)) + (1 : Int32)).toNatClampNeg x4) 36 i0 (((gF w 7 10 i0) * (3 : Int32)) + (2 : Int32)).toNatClampNeg x5) 7 10 i0).toNatClampNeg x1) 33 i0 (gF (sA (sA (sA (sA w 36 i0 ((gF w 7 10 i0) * (3 : Int32)).toNatClampNeg x3) 36 i0 (((gF w 7 10 i0) * (3 : Int32)) + (1 : Int32)).toNatClampNeg x4) 36 i0 (((gF w 7 10 i0) * (3 : Int32)) + (2 : Int32)).toNatClampNeg x5) 34 i0 (gF (sA (sA (sA w 36 i0 ((gF w 7 10 i0) * (3 : Int32)).toNatClampNeg x3) 36 i0 (((gF w 7 10 i0) * (3 : Int32)) + (1 : Int32)).toNatClampNeg x4) 36 i0 (((gF w 7 10 i0) * (3 : Int32)) + (2 : Int32)).toNatClampNeg x5) 7 10 i0).toNatClampNeg x1) 7 10 i0).toNatClampNeg x2) i0 x2 ((gF w 7 10 i0) * (3 : Int32)) N (0 : Int32) (0 : Int32)) else none) else none) else none) else none) else none)
else
some w)
set_option maxRecDepth 100000 in
set_option maxHeartbeats 4000000 in
theorem c_X7_addTerm (l : Launch) (D : va_G) (ca : Nat → ClassId) (ad : Nat → Nat → Nat) (PL : List (Nat × Nat)) (Z : State → Prop) (A : Nat → Prop) (hok : okc bX Z A ad PL) (N : Nat) (w : Mem) (i0 : Nat) (h0 : i0 < 2) (x1 : Int32) (x2 : Int32) (x3 : Int32) (x4 : Int32) (x5 : Int32) (w' : Mem) (hf : f_X7_addTerm N w i0 x1 x2 x3 x4 x5 = some w') : CT l yX7_addTerm (wsy yX7_addTerm cX7_addTerm 9 none) (rmk 1) D ca ad PL Z A [.ref (ad 7 i0), .int x1, .int x2, .int x3, .int x4, .int x5] w w' none := by
  refine Met.ofW (cc := cX7_addTerm) (maxL := 9) (ret := none) (by decide +kernel) rfl ?_
  intro p e s m args below meth c s₁ B hml hv
  obtain ⟨rfl, hP, hK, hZ⟩ := hv
  have hx := B.exec
  have hb := B.bytes
  have hr := B.returns
  have hlocks := B.notSynchronized
  have hts : ∀ w ∈ ALL, w.before _ s = true := fun w hw => atoms_spec (ws := wsy yX7_addTerm cX7_addTerm 9 none) B.pre w (List.mem_cons_of_mem _ hw)
  have hown : s.vm.findClass RX7 = some m.cls := findClass_of_methodNamed B.named
  have C : CX p s m _ c cX7_addTerm RX7 9 D ca Z := ⟨hx, hb, hml, hown, hts, hK, hZ⟩
  have hS : va_S A s.heap s.heap [] := va_S.rf
  have hl := lv_entry ([.ref (ad 7 i0), .int x1, .int x2, .int x3, .int x4, .int x5]) (n := 9) (Nat.le_of_ble_eq_true rfl)
  rw [lg_entry_eq]
  generalize (lg_sl ([.ref (ad 7 i0), .int x1, .int x2, .int x3, .int x4, .int x5]) ++ List.replicate (9 - (lg_sl ([.ref (ad 7 i0), .int x1, .int x2, .int x3, .int x4, .int x5])).length) Slot.unset).toArray = ls at hl ⊢
  have hl : lv_has ls 9 [(0, .ref (ad 7 i0)), (1, .int x1), (2, .int x2), (3, .int x3), (4, .int x4), (5, .int x5)] := hl
  show W p l e (rmk 1) s m _ below meth c s.heap [] 0 0 _ _
  have P_f_X7_addTerm_115 : ∀ (w : Mem) (v7 : Int32), f_X7_addTerm_115 N w i0 v7  = some w' → WP p l e (rmk 1) s m [.ref (ad 7 i0), .int x1, .int x2, .int x3, .int x4, .int x5].toArray below meth c D ca ad PL A (MQ below (qcR D ca ad PL Z A w' none) [.ref (ad 7 i0), .int x1, .int x2, .int x3, .int x4, .int x5].toArray s 0 0 A) 9 115 [] [(0, .ref (ad 7 i0)), (7, .int v7)] w := by
    intro w v7 hf _ _ ls hP hS hl
    unfold f_X7_addTerm_115 at hf
    refine lv_aload_n hx hb dX7_addTerm_115 rfl (lv_at hl 0 rfl) ?_
    refine gt_7_4 (i := i0) C hP (hok.2.1 7 i0 h0) lk_X7_24 dX7_addTerm_116 ?_
    refine lv_aload_n hx hb dX7_addTerm_119 rfl (lv_at hl 0 rfl) ?_
    refine gt_7_10 (i := i0) C hP (hok.2.1 7 i0 h0) lk_X7_43 dX7_addTerm_120 ?_
    refine lv_iload hx hb dX7_addTerm_123 (lv_at hl 1 rfl) ?_
    obtain ⟨b7, hf⟩ := gsp hf
    refine ra_ist (k := 35) (i := i0) (n := 24) C hok.1 hP hS (hok.2.1 35 i0 h0) (fun _ => rfl) b7 dX7_addTerm_125 (fun H locs hP hS => ?_)
    refine lv_aload_n hx hb dX7_addTerm_126 rfl (lv_at hl 0 rfl) ?_
    refine lv_dup hx hb dX7_addTerm_127 rfl ?_
    refine gt_7_10 (i := i0) C hP (hok.2.1 7 i0 h0) lk_X7_43 dX7_addTerm_128 ?_
    refine lv_iconst (v := (1 : Int32)) hx hb dX7_addTerm_131 (by decide) ?_
    refine lv_iadd hx hb dX7_addTerm_132 ?_
    refine pt_7_10 (i := i0) (v := ((gF (sA w 35 i0 (gF w 7 10 i0).toNatClampNeg v7) 7 10 i0) + (1 : Int32))) C hok.1 hP hS (hok.2.1 7 i0 h0) lk_X7_43 dX7_addTerm_133 (fun H locs hP hS => ?_)
    refine lv_aload_n hx hb dX7_addTerm_136 rfl (lv_at hl 0 rfl) ?_
    obtain ⟨z8, q9, hf⟩ := bsp hf
    refine kc_V (ci := 7) (i := i0) (As := []) (rest := []) hok.2.2.1 C hP hS hl.1 (hok.2.1 7 i0 h0) rfl rfl cw_X7_listPairs ml_X7_55 (c_X7_listPairs l D ca ad PL Z A hok N (sF (sA w 35 i0 (gF w 7 10 i0).toNatClampNeg v7) 7 10 i0 ((gF (sA w 35 i0 (gF w 7 10 i0).toNatClampNeg v7) 7 10 i0) + (1 : Int32))) i0 h0 z8 q9) rfl ⟨rfl, rfl⟩ ⟨Nat.le_of_ble_eq_true rfl, Nat.le_of_ble_eq_true rfl⟩ ⟨Nat.zero_le _, Nat.zero_le _⟩ (Nat.le_of_ble_eq_true rfl) rfl dX7_addTerm_137 (fun H locs hP hS => ?_)
    exact kr_v hok.2.2.1 C hlocks hr hP hS (Option.some.inj hf) dX7_addTerm_140
  have L_lp_X7_addTerm_74 : ∀ (w : Mem) (v2 : Int32) (v6 : Int32) (k : Int32 → Option (Mem)) (hk : ∀ (v7 : Int32), k v7 = some w' → WP p l e (rmk 1) s m [.ref (ad 7 i0), .int x1, .int x2, .int x3, .int x4, .int x5].toArray below meth c D ca ad PL A (MQ below (qcR D ca ad PL Z A w' none) [.ref (ad 7 i0), .int x1, .int x2, .int x3, .int x4, .int x5].toArray s 0 0 A) 9 115 [] [(0, .ref (ad 7 i0)), (7, .int v7)] w) (n : Nat) (v7 : Int32) (v8 : Int32), lp_X7_addTerm_74 k N w i0 v2 v6 n v7 v8 = some w' → WP p l e (rmk 1) s m [.ref (ad 7 i0), .int x1, .int x2, .int x3, .int x4, .int x5].toArray below meth c D ca ad PL A (MQ below (qcR D ca ad PL Z A w' none) [.ref (ad 7 i0), .int x1, .int x2, .int x3, .int x4, .int x5].toArray s 0 0 A) 9 74 [] [(0, .ref (ad 7 i0)), (2, .int v2), (6, .int v6), (7, .int v7), (8, .int v8)] w := by
    intro w v2 v6 k hk n
    induction n with
    | zero => intro v7 v8 hf; rw [lp_X7_addTerm_74] at hf; cases hf
    | succ n ih =>
      intro v7 v8 hf _ _ ls hP hS hl
      rw [lp_X7_addTerm_74] at hf
      refine lv_iload hx hb dX7_addTerm_74 (lv_at hl 4 rfl) ?_
      refine lv_aload_n hx hb dX7_addTerm_76 rfl (lv_at hl 0 rfl) ?_
      refine gt_7_0 (i := i0) C hP (hok.2.1 7 i0 h0) lk_X7_9 dX7_addTerm_77 ?_
      refine lv_iload_n hx hb dX7_addTerm_80 rfl (lv_at hl 1 rfl) ?_
      obtain ⟨b10, hf⟩ := gsp hf
      refine ra_ild (k := 31) (i := i0) (n := 8) (f := (gA w 31 i0)) C hP (hok.2.1 31 i0 h0) rfl b10 dX7_addTerm_81 ?_
      refine lv_icmp_ge (tgt := 115) hx hb dX7_addTerm_82 (by decide) (fun c13 => ?_) (fun c13 => ?_)
      · have hf := ifp hf c13
        exact hk v7 hf _ _ ls hP hS (lv_sub hl [0, 3] rfl)
      · have hf := ifn hf c13
        refine lv_iload hx hb dX7_addTerm_85 (lv_at hl 3 rfl) ?_
        refine lv_iconst (v := (1 : Int32)) hx hb dX7_addTerm_87 (by decide) ?_
        refine lv_aload_n hx hb dX7_addTerm_88 rfl (lv_at hl 0 rfl) ?_
        refine gt_7_4 (i := i0) C hP (hok.2.1 7 i0 h0) lk_X7_24 dX7_addTerm_89 ?_
        refine lv_aload_n hx hb dX7_addTerm_92 rfl (lv_at hl 0 rfl) ?_
        refine gt_7_5 (i := i0) C hP (hok.2.1 7 i0 h0) lk_X7_27 dX7_addTerm_93 ?_
        refine lv_iload hx hb dX7_addTerm_96 (lv_at hl 2 rfl) ?_
        refine lv_iload hx hb dX7_addTerm_98 (lv_at hl 4 rfl) ?_
        refine lv_iadd hx hb dX7_addTerm_100 ?_
        obtain ⟨b11, hf⟩ := gsp hf
        refine ra_ild (k := 36) (i := i0) (n := 72) (f := (gA w 36 i0)) C hP (hok.2.1 36 i0 h0) rfl b11 dX7_addTerm_101 ?_
        obtain ⟨b12, hf⟩ := gsp hf
        refine ra_ild (k := 35) (i := i0) (n := 24) (f := (gA w 35 i0)) C hP (hok.2.1 35 i0 h0) rfl b12 dX7_addTerm_102 ?_
        refine lv_iadd hx hb dX7_addTerm_103 ?_
        refine km_max C hl.1 ml_X7_49 ⟨Nat.le_of_ble_eq_true rfl, Nat.le_of_ble_eq_true rfl⟩ ⟨Nat.zero_le _, Nat.zero_le _⟩ dX7_addTerm_104 ?_
        refine lv_istore (lv' := [(7, .int (if v7 < ((1 : Int32) + (gA w 35 i0 (gA w 36 i0 (v6 + v8).toNatClampNeg).toNatClampNeg)) then ((1 : Int32) + (gA w 35 i0 (gA w 36 i0 (v6 + v8).toNatClampNeg).toNatClampNeg)) else v7)), (0, .ref (ad 7 i0)), (2, .int v2), (6, .int v6), (8, .int v8)]) hx hb dX7_addTerm_107 hl (by decide) rfl (fun ls hl => ?_)
        refine lv_iinc (v := (v8 + (1 : Int32))) (lv' := [(8, .int (v8 + (1 : Int32))), (7, .int (if v7 < ((1 : Int32) + (gA w 35 i0 (gA w 36 i0 (v6 + v8).toNatClampNeg).toNatClampNeg)) then ((1 : Int32) + (gA w 35 i0 (gA w 36 i0 (v6 + v8).toNatClampNeg).toNatClampNeg)) else v7)), (0, .ref (ad 7 i0)), (2, .int v2), (6, .int v6)]) hx hb dX7_addTerm_109 hl (k := 4) rfl rfl (by decide) rfl (fun ls hl => ?_)
        refine lv_goto (tgt := 74) hx hb dX7_addTerm_112 (by decide) ?_
        exact ih (if v7 < ((1 : Int32) + (gA w 35 i0 (gA w 36 i0 (v6 + v8).toNatClampNeg).toNatClampNeg)) then ((1 : Int32) + (gA w 35 i0 (gA w 36 i0 (v6 + v8).toNatClampNeg).toNatClampNeg)) else v7) (v8 + (1 : Int32)) hf _ _ ls hP hS (lv_sub hl [2, 3, 4, 1, 0] rfl)
  unfold f_X7_addTerm at hf
  -- walk
  refine lv_aload_n hx hb dX7_addTerm_0 rfl (lv_at hl 0 rfl) ?_
  refine gt_7_10 (i := i0) C hP (hok.2.1 7 i0 h0) lk_X7_43 dX7_addTerm_1 ?_
  refine lv_bipush (v := (24 : Int32)) hx hb dX7_addTerm_4 (by decide) ?_
  refine lv_icmp_lt (tgt := 10) hx hb dX7_addTerm_6 (by decide) (fun c14 => ?_) (fun c14 => ?_)
  · have hf := ifp hf c14
    refine lv_aload_n hx hb dX7_addTerm_10 rfl (lv_at hl 0 rfl) ?_
    refine gt_7_10 (i := i0) C hP (hok.2.1 7 i0 h0) lk_X7_43 dX7_addTerm_11 ?_
    refine lv_iconst (v := (3 : Int32)) hx hb dX7_addTerm_14 (by decide) ?_
    refine lv_imul hx hb dX7_addTerm_15 ?_
    refine lv_istore (lv' := [(6, .int ((gF w 7 10 i0) * (3 : Int32))), (0, .ref (ad 7 i0)), (1, .int x1), (2, .int x2), (3, .int x3), (4, .int x4), (5, .int x5)]) hx hb dX7_addTerm_16 hl (by decide) rfl (fun ls hl => ?_)
    refine lv_aload_n hx hb dX7_addTerm_18 rfl (lv_at hl 1 rfl) ?_
    refine gt_7_5 (i := i0) C hP (hok.2.1 7 i0 h0) lk_X7_27 dX7_addTerm_19 ?_
    refine lv_iload hx hb dX7_addTerm_22 (lv_at hl 0 rfl) ?_
    refine lv_iload_n hx hb dX7_addTerm_24 rfl (lv_at hl 4 rfl) ?_
    obtain ⟨b1, hf⟩ := gsp hf
    refine ra_ist (k := 36) (i := i0) (n := 72) C hok.1 hP hS (hok.2.1 36 i0 h0) (fun _ => rfl) b1 dX7_addTerm_25 (fun H locs hP hS => ?_)
    refine lv_aload_n hx hb dX7_addTerm_26 rfl (lv_at hl 1 rfl) ?_
    refine gt_7_5 (i := i0) C hP (hok.2.1 7 i0 h0) lk_X7_27 dX7_addTerm_27 ?_
    refine lv_iload hx hb dX7_addTerm_30 (lv_at hl 0 rfl) ?_
    refine lv_iconst (v := (1 : Int32)) hx hb dX7_addTerm_32 (by decide) ?_
    refine lv_iadd hx hb dX7_addTerm_33 ?_
    refine lv_iload hx hb dX7_addTerm_34 (lv_at hl 5 rfl) ?_
    obtain ⟨b2, hf⟩ := gsp hf
    refine ra_ist (k := 36) (i := i0) (n := 72) C hok.1 hP hS (hok.2.1 36 i0 h0) (fun _ => rfl) b2 dX7_addTerm_36 (fun H locs hP hS => ?_)
    refine lv_aload_n hx hb dX7_addTerm_37 rfl (lv_at hl 1 rfl) ?_
    refine gt_7_5 (i := i0) C hP (hok.2.1 7 i0 h0) lk_X7_27 dX7_addTerm_38 ?_
    refine lv_iload hx hb dX7_addTerm_41 (lv_at hl 0 rfl) ?_
    refine lv_iconst (v := (2 : Int32)) hx hb dX7_addTerm_43 (by decide) ?_
    refine lv_iadd hx hb dX7_addTerm_44 ?_
    refine lv_iload hx hb dX7_addTerm_45 (lv_at hl 6 rfl) ?_
    obtain ⟨b3, hf⟩ := gsp hf
    refine ra_ist (k := 36) (i := i0) (n := 72) C hok.1 hP hS (hok.2.1 36 i0 h0) (fun _ => rfl) b3 dX7_addTerm_47 (fun H locs hP hS => ?_)
    refine lv_aload_n hx hb dX7_addTerm_48 rfl (lv_at hl 1 rfl) ?_
    refine gt_7_3 (i := i0) C hP (hok.2.1 7 i0 h0) lk_X7_21 dX7_addTerm_49 ?_
    refine lv_aload_n hx hb dX7_addTerm_52 rfl (lv_at hl 1 rfl) ?_
    refine gt_7_10 (i := i0) C hP (hok.2.1 7 i0 h0) lk_X7_43 dX7_addTerm_53 ?_
    refine lv_iload_n hx hb dX7_addTerm_56 rfl (lv_at hl 2 rfl) ?_
    obtain ⟨b4, hf⟩ := gsp hf
    refine ra_ist (k := 34) (i := i0) (n := 24) C hok.1 hP hS (hok.2.1 34 i0 h0) (fun _ => rfl) b4 dX7_addTerm_57 (fun H locs hP hS => ?_)
    refine lv_aload_n hx hb dX7_addTerm_58 rfl (lv_at hl 1 rfl) ?_
    refine gt_7_2 (i := i0) C hP (hok.2.1 7 i0 h0) lk_X7_18 dX7_addTerm_59 ?_
    refine lv_aload_n hx hb dX7_addTerm_62 rfl (lv_at hl 1 rfl) ?_
    refine gt_7_10 (i := i0) C hP (hok.2.1 7 i0 h0) lk_X7_43 dX7_addTerm_63 ?_
    refine lv_iload_n hx hb dX7_addTerm_66 rfl (lv_at hl 3 rfl) ?_
    obtain ⟨b5, hf⟩ := gsp hf
    refine ra_ist (k := 33) (i := i0) (n := 24) C hok.1 hP hS (hok.2.1 33 i0 h0) (fun _ => rfl) b5 dX7_addTerm_67 (fun H locs hP hS => ?_)
    refine lv_iconst (v := (0 : Int32)) hx hb dX7_addTerm_68 (by decide) ?_
    refine lv_istore (lv' := [(7, .int (0 : Int32)), (6, .int ((gF w 7 10 i0) * (3 : Int32))), (0, .ref (ad 7 i0)), (1, .int x1), (2, .int x2), (3, .int x3), (4, .int x4), (5, .int x5)]) hx hb dX7_addTerm_69 hl (by decide) rfl (fun ls hl => ?_)
    refine lv_iconst (v := (0 : Int32)) hx hb dX7_addTerm_71 (by decide) ?_
    refine lv_istore (lv' := [(8, .int (0 : Int32)), (7, .int (0 : Int32)), (6, .int ((gF w 7 10 i0) * (3 : Int32))), (0, .ref (ad 7 i0)), (1, .int x1), (2, .int x2), (3, .int x3), (4, .int x4), (5, .int x5)]) hx hb dX7_addTerm_72 hl (by decide) rfl (fun ls hl => ?_)
    exact L_lp_X7_addTerm_74 (sA (sA (sA (sA (sA w 36 i0 ((gF w 7 10 i0) * (3 : Int32)).toNatClampNeg x3) 36 i0 (((gF w 7 10 i0) * (3 : Int32)) + (1 : Int32)).toNatClampNeg x4) 36 i0 (((gF w 7 10 i0) * (3 : Int32)) + (2 : Int32)).toNatClampNeg x5) 34 i0 (gF (sA (sA (sA w 36 i0 ((gF w 7 10 i0) * (3 : Int32)).toNatClampNeg x3) 36 i0 (((gF w 7 10 i0) * (3 : Int32)) + (1 : Int32)).toNatClampNeg x4) 36 i0 (((gF w 7 10 i0) * (3 : Int32)) + (2 : Int32)).toNatClampNeg x5) 7 10 i0).toNatClampNeg x1) 33 i0 (gF (sA (sA (sA (sA w 36 i0 ((gF w 7 10 i0) * (3 : Int32)).toNatClampNeg x3) 36 i0 (((gF w 7 10 i0) * (3 : Int32)) + (1 : Int32)).toNatClampNeg x4) 36 i0 (((gF w 7 10 i0) * (3 : Int32)) + (2 : Int32)).toNatClampNeg x5) 34 i0 (gF (sA (sA (sA w 36 i0 ((gF w 7 10 i0) * (3 : Int32)).toNatClampNeg x3) 36 i0 (((gF w 7 10 i0) * (3 : Int32)) + (1 : Int32)).toNatClampNeg x4) 36 i0 (((gF w 7 10 i0) * (3 : Int32)) + (2 : Int32)).toNatClampNeg x5) 7 10 i0).toNatClampNeg x1) 7 10 i0).toNatClampNeg x2) x2 ((gF w 7 10 i0) * (3 : Int32)) _ (fun u7_6 hf H locs ls hP hS hl => P_f_X7_addTerm_115 (sA (sA (sA (sA (sA w 36 i0 ((gF w 7 10 i0) * (3 : Int32)).toNatClampNeg x3) 36 i0 (((gF w 7 10 i0) * (3 : Int32)) + (1 : Int32)).toNatClampNeg x4) 36 i0 (((gF w 7 10 i0) * (3 : Int32)) + (2 : Int32)).toNatClampNeg x5) 34 i0 (gF (sA (sA (sA w 36 i0 ((gF w 7 10 i0) * (3 : Int32)).toNatClampNeg x3) 36 i0 (((gF w 7 10 i0) * (3 : Int32)) + (1 : Int32)).toNatClampNeg x4) 36 i0 (((gF w 7 10 i0) * (3 : Int32)) + (2 : Int32)).toNatClampNeg x5) 7 10 i0).toNatClampNeg x1) 33 i0 (gF (sA (sA (sA (sA w 36 i0 ((gF w 7 10 i0) * (3 : Int32)).toNatClampNeg x3) 36 i0 (((gF w 7 10 i0) * (3 : Int32)) + (1 : Int32)).toNatClampNeg x4) 36 i0 (((gF w 7 10 i0) * (3 : Int32)) + (2 : Int32)).toNatClampNeg x5) 34 i0 (gF (sA (sA (sA w 36 i0 ((gF w 7 10 i0) * (3 : Int32)).toNatClampNeg x3) 36 i0 (((gF w 7 10 i0) * (3 : Int32)) + (1 : Int32)).toNatClampNeg x4) 36 i0 (((gF w 7 10 i0) * (3 : Int32)) + (2 : Int32)).toNatClampNeg x5) 7 10 i0).toNatClampNeg x1) 7 10 i0).toNatClampNeg x2) u7_6 hf _ _ ls hP hS (lv_sub hl [0, 1] rfl)) N (0 : Int32) (0 : Int32) hf _ _ ls hP hS (lv_sub hl [3, 5, 2, 1, 0] rfl)
  · have hf := ifn hf c14
    exact kr_v hok.2.2.1 C hlocks hr hP hS (Option.some.inj hf) dX7_addTerm_9
def f_X7_alike_87 (N : Nat) (w : Mem) (i0 : Nat) (i2 : Nat) : Option (Int32) :=
  some (1 : Int32)
def lp_X7_alike_40 (k : Option (Int32)) (N : Nat) (w : Mem) (i0 : Nat) (i2 : Nat) (v3 : Int32) (v4 : Int32) (v5 : Int32) : Nat → Int32 → Option (Int32)
  | 0, _ => none
  | n + 1, v6 => (if v5 ≤ v6 then
(k )
else
(if inb (v3 + v6) 72 = true then (if inb (gA w 36 i0 (v3 + v6).toNatClampNeg) 24 = true then (if inb (v4 + v6) 72 = true then (if inb (gA w 36 i0 (v4 + v6).toNatClampNeg) 24 = true then (if (gA w 25 i2 (gA w 36 i0 (v3 + v6).toNatClampNeg).toNatClampNeg) = (gA w 25 i2 (gA w 36 i0 (v4 + v6).toNatClampNeg).toNatClampNeg) then
(lp_X7_alike_40 k N w i0 i2 v3 v4 v5 n (v6 + (1 : Int32)))
else
some (0 : Int32)) else none) else none) else none) else none))
def f_X7_alike (N : Nat) (w : Mem) (i0 : Nat) (x1 : Int32) (i2 : Nat) : Option (Int32) :=
  (if inb x1 276 = true then (if inb (gA w 38 i0 x1.toNatClampNeg) 24 = true then (if inb (gA w 33 i0 (gA w 38 i0 x1.toNatClampNeg).toNatClampNeg) 8 = true then (lp_X7_alike_40 (f_X7_alike_87 N w i0 i2  ) N w i0 i2 ((gA w 38 i0 x1.toNatClampNeg) * (3 : Int32)) ((gA w 39 i0 x1.toNatClampNeg) * (3 : Int32)) (gA w 31 i0 (gA w 33 i0 (gA w 38 i0 x1.toNatClampNeg).toNatClampNeg).toNatClampNeg) N (0 : Int32)) else none) else none) else none)
set_option maxRecDepth 100000 in
set_option maxHeartbeats 4000000 in
theorem c_X7_alike (l : Launch) (D : va_G) (ca : Nat → ClassId) (ad : Nat → Nat → Nat) (PL : List (Nat × Nat)) (Z : State → Prop) (A : Nat → Prop) (hok : okc bX Z A ad PL) (N : Nat) (w : Mem) (i0 : Nat) (h0 : i0 < 2) (x1 : Int32) (i2 : Nat) (h2 : i2 < 17) (r : Int32) (hf : f_X7_alike N w i0 x1 i2 = some r) : CT l yX7_alike (wsy yX7_alike cX7_alike 7 (some .boolean)) (rmk 0) D ca ad PL Z A [.ref (ad 7 i0), .int x1, .ref (ad 3 i2)] w w (some (.int r)) := by
  refine Met.ofW (cc := cX7_alike) (maxL := 7) (ret := (some .boolean)) (by decide +kernel) rfl ?_
  intro p e s m args below meth c s₁ B hml hv
  obtain ⟨rfl, hP, hK, hZ⟩ := hv
  have hx := B.exec
  have hb := B.bytes
  have hr := B.returns
  have hlocks := B.notSynchronized
  have hts : ∀ w ∈ ALL, w.before _ s = true := fun w hw => atoms_spec (ws := wsy yX7_alike cX7_alike 7 (some .boolean)) B.pre w (List.mem_cons_of_mem _ hw)
  have hown : s.vm.findClass RX7 = some m.cls := findClass_of_methodNamed B.named
  have C : CX p s m _ c cX7_alike RX7 7 D ca Z := ⟨hx, hb, hml, hown, hts, hK, hZ⟩
  have hS : va_S A s.heap s.heap [] := va_S.rf
  have hl := lv_entry ([.ref (ad 7 i0), .int x1, .ref (ad 3 i2)]) (n := 7) (Nat.le_of_ble_eq_true rfl)
  rw [lg_entry_eq]
  generalize (lg_sl ([.ref (ad 7 i0), .int x1, .ref (ad 3 i2)]) ++ List.replicate (7 - (lg_sl ([.ref (ad 7 i0), .int x1, .ref (ad 3 i2)])).length) Slot.unset).toArray = ls at hl ⊢
  have hl : lv_has ls 7 [(0, .ref (ad 7 i0)), (1, .int x1), (2, .ref (ad 3 i2))] := hl
  show W p l e (rmk 0) s m _ below meth c s.heap [] 0 0 _ _
  have P_f_X7_alike_87 : f_X7_alike_87 N w i0 i2   = some r → WP p l e (rmk 0) s m [.ref (ad 7 i0), .int x1, .ref (ad 3 i2)].toArray below meth c D ca ad PL A (MQ below (qcR D ca ad PL Z A w (some (.int r))) [.ref (ad 7 i0), .int x1, .ref (ad 3 i2)].toArray s 0 0 A) 7 87 [] [] w := by
    intro  hf _ _ ls hP hS hl
    unfold f_X7_alike_87 at hf
    refine lv_iconst (v := (1 : Int32)) hx hb dX7_alike_87 (by decide) ?_
    exact kr_i hok.2.2.1 C hlocks hr rfl hP hS rfl (Option.some.inj hf) dX7_alike_88
  have L_lp_X7_alike_40 : ∀ (v3 : Int32) (v4 : Int32) (v5 : Int32) (k : Option (Int32)) (hk : k = some r → WP p l e (rmk 0) s m [.ref (ad 7 i0), .int x1, .ref (ad 3 i2)].toArray below meth c D ca ad PL A (MQ below (qcR D ca ad PL Z A w (some (.int r))) [.ref (ad 7 i0), .int x1, .ref (ad 3 i2)].toArray s 0 0 A) 7 87 [] [] w) (n : Nat) (v6 : Int32), lp_X7_alike_40 k N w i0 i2 v3 v4 v5 n v6 = some r → WP p l e (rmk 0) s m [.ref (ad 7 i0), .int x1, .ref (ad 3 i2)].toArray below meth c D ca ad PL A (MQ below (qcR D ca ad PL Z A w (some (.int r))) [.ref (ad 7 i0), .int x1, .ref (ad 3 i2)].toArray s 0 0 A) 7 40 [] [(0, .ref (ad 7 i0)), (2, .ref (ad 3 i2)), (3, .int v3), (4, .int v4), (5, .int v5), (6, .int v6)] w := by
    intro v3 v4 v5 k hk n
    induction n with
    | zero => intro v6 hf; rw [lp_X7_alike_40] at hf; cases hf
    | succ n ih =>
      intro v6 hf _ _ ls hP hS hl
      rw [lp_X7_alike_40] at hf
      refine lv_iload hx hb dX7_alike_40 (lv_at hl 5 rfl) ?_
      refine lv_iload hx hb dX7_alike_42 (lv_at hl 4 rfl) ?_
      refine lv_icmp_ge (tgt := 87) hx hb dX7_alike_44 (by decide) (fun c10 => ?_) (fun c10 => ?_)
      · have hf := ifp hf c10
        exact hk  hf _ _ ls hP hS (lv_sub hl [] rfl)
      · have hf := ifn hf c10
        refine lv_aload_n hx hb dX7_alike_47 rfl (lv_at hl 1 rfl) ?_
        refine gt_3_0 (i := i2) C hP (hok.2.1 3 i2 h2) lk_X7_58 dX7_alike_48 ?_
        refine lv_aload_n hx hb dX7_alike_51 rfl (lv_at hl 0 rfl) ?_
        refine gt_7_5 (i := i0) C hP (hok.2.1 7 i0 h0) lk_X7_27 dX7_alike_52 ?_
        refine lv_iload_n hx hb dX7_alike_55 rfl (lv_at hl 2 rfl) ?_
        refine lv_iload hx hb dX7_alike_56 (lv_at hl 5 rfl) ?_
        refine lv_iadd hx hb dX7_alike_58 ?_
        obtain ⟨b5, hf⟩ := gsp hf
        refine ra_ild (k := 36) (i := i0) (n := 72) (f := (gA w 36 i0)) C hP (hok.2.1 36 i0 h0) rfl b5 dX7_alike_59 ?_
        obtain ⟨b6, hf⟩ := gsp hf
        refine ra_ild (k := 25) (i := i2) (n := 24) (f := (gA w 25 i2)) C hP (hok.2.1 25 i2 h2) rfl b6 dX7_alike_60 ?_
        refine lv_aload_n hx hb dX7_alike_61 rfl (lv_at hl 1 rfl) ?_
        refine gt_3_0 (i := i2) C hP (hok.2.1 3 i2 h2) lk_X7_58 dX7_alike_62 ?_
        refine lv_aload_n hx hb dX7_alike_65 rfl (lv_at hl 0 rfl) ?_
        refine gt_7_5 (i := i0) C hP (hok.2.1 7 i0 h0) lk_X7_27 dX7_alike_66 ?_
        refine lv_iload hx hb dX7_alike_69 (lv_at hl 3 rfl) ?_
        refine lv_iload hx hb dX7_alike_71 (lv_at hl 5 rfl) ?_
        refine lv_iadd hx hb dX7_alike_73 ?_
        obtain ⟨b7, hf⟩ := gsp hf
        refine ra_ild (k := 36) (i := i0) (n := 72) (f := (gA w 36 i0)) C hP (hok.2.1 36 i0 h0) rfl b7 dX7_alike_74 ?_
        obtain ⟨b8, hf⟩ := gsp hf
        refine ra_ild (k := 25) (i := i2) (n := 24) (f := (gA w 25 i2)) C hP (hok.2.1 25 i2 h2) rfl b8 dX7_alike_75 ?_
        refine lv_icmp_eq (tgt := 81) hx hb dX7_alike_76 (by decide) (fun c9 => ?_) (fun c9 => ?_)
        · have hf := ifp hf c9
          refine lv_iinc (v := (v6 + (1 : Int32))) (lv' := [(6, .int (v6 + (1 : Int32))), (0, .ref (ad 7 i0)), (2, .ref (ad 3 i2)), (3, .int v3), (4, .int v4), (5, .int v5)]) hx hb dX7_alike_81 hl (k := 5) rfl rfl (by decide) rfl (fun ls hl => ?_)
          refine lv_goto (tgt := 40) hx hb dX7_alike_84 (by decide) ?_
          exact ih (v6 + (1 : Int32)) hf _ _ ls hP hS (lv_sub hl [1, 2, 3, 4, 5, 0] rfl)
        · have hf := ifn hf c9
          refine lv_iconst (v := (0 : Int32)) hx hb dX7_alike_79 (by decide) ?_
          exact kr_i hok.2.2.1 C hlocks hr rfl hP hS rfl (Option.some.inj hf) dX7_alike_80
  unfold f_X7_alike at hf
  -- walk
  refine lv_aload_n hx hb dX7_alike_0 rfl (lv_at hl 0 rfl) ?_
  refine gt_7_7 (i := i0) C hP (hok.2.1 7 i0 h0) lk_X7_33 dX7_alike_1 ?_
  refine lv_iload_n hx hb dX7_alike_4 rfl (lv_at hl 1 rfl) ?_
  obtain ⟨b1, hf⟩ := gsp hf
  refine ra_ild (k := 38) (i := i0) (n := 276) (f := (gA w 38 i0)) C hP (hok.2.1 38 i0 h0) rfl b1 dX7_alike_5 ?_
  refine lv_iconst (v := (3 : Int32)) hx hb dX7_alike_6 (by decide) ?_
  refine lv_imul hx hb dX7_alike_7 ?_
  refine lv_istore_n (lv' := [(3, .int ((gA w 38 i0 x1.toNatClampNeg) * (3 : Int32))), (0, .ref (ad 7 i0)), (1, .int x1), (2, .ref (ad 3 i2))]) hx hb dX7_alike_8 rfl hl (by decide) rfl (fun ls hl => ?_)
  refine lv_aload_n hx hb dX7_alike_9 rfl (lv_at hl 1 rfl) ?_
  refine gt_7_8 (i := i0) C hP (hok.2.1 7 i0 h0) lk_X7_36 dX7_alike_10 ?_
  refine lv_iload_n hx hb dX7_alike_13 rfl (lv_at hl 2 rfl) ?_
  refine ra_ild (k := 39) (i := i0) (n := 276) (f := (gA w 39 i0)) C hP (hok.2.1 39 i0 h0) rfl b1 dX7_alike_14 ?_
  refine lv_iconst (v := (3 : Int32)) hx hb dX7_alike_15 (by decide) ?_
  refine lv_imul hx hb dX7_alike_16 ?_
  refine lv_istore (lv' := [(4, .int ((gA w 39 i0 x1.toNatClampNeg) * (3 : Int32))), (3, .int ((gA w 38 i0 x1.toNatClampNeg) * (3 : Int32))), (0, .ref (ad 7 i0)), (1, .int x1), (2, .ref (ad 3 i2))]) hx hb dX7_alike_17 hl (by decide) rfl (fun ls hl => ?_)
  refine lv_aload_n hx hb dX7_alike_19 rfl (lv_at hl 2 rfl) ?_
  refine gt_7_0 (i := i0) C hP (hok.2.1 7 i0 h0) lk_X7_9 dX7_alike_20 ?_
  refine lv_aload_n hx hb dX7_alike_23 rfl (lv_at hl 2 rfl) ?_
  refine gt_7_2 (i := i0) C hP (hok.2.1 7 i0 h0) lk_X7_18 dX7_alike_24 ?_
  refine lv_aload_n hx hb dX7_alike_27 rfl (lv_at hl 2 rfl) ?_
  refine gt_7_7 (i := i0) C hP (hok.2.1 7 i0 h0) lk_X7_33 dX7_alike_28 ?_
  refine lv_iload_n hx hb dX7_alike_31 rfl (lv_at hl 3 rfl) ?_
  refine ra_ild (k := 38) (i := i0) (n := 276) (f := (gA w 38 i0)) C hP (hok.2.1 38 i0 h0) rfl b1 dX7_alike_32 ?_
  obtain ⟨b2, hf⟩ := gsp hf
  refine ra_ild (k := 33) (i := i0) (n := 24) (f := (gA w 33 i0)) C hP (hok.2.1 33 i0 h0) rfl b2 dX7_alike_33 ?_
  obtain ⟨b3, hf⟩ := gsp hf
  refine ra_ild (k := 31) (i := i0) (n := 8) (f := (gA w 31 i0)) C hP (hok.2.1 31 i0 h0) rfl b3 dX7_alike_34 ?_
  refine lv_istore (lv' := [(5, .int (gA w 31 i0 (gA w 33 i0 (gA w 38 i0 x1.toNatClampNeg).toNatClampNeg).toNatClampNeg)), (4, .int ((gA w 39 i0 x1.toNatClampNeg) * (3 : Int32))), (3, .int ((gA w 38 i0 x1.toNatClampNeg) * (3 : Int32))), (0, .ref (ad 7 i0)), (1, .int x1), (2, .ref (ad 3 i2))]) hx hb dX7_alike_35 hl (by decide) rfl (fun ls hl => ?_)
  refine lv_iconst (v := (0 : Int32)) hx hb dX7_alike_37 (by decide) ?_
  refine lv_istore (lv' := [(6, .int (0 : Int32)), (5, .int (gA w 31 i0 (gA w 33 i0 (gA w 38 i0 x1.toNatClampNeg).toNatClampNeg).toNatClampNeg)), (4, .int ((gA w 39 i0 x1.toNatClampNeg) * (3 : Int32))), (3, .int ((gA w 38 i0 x1.toNatClampNeg) * (3 : Int32))), (0, .ref (ad 7 i0)), (1, .int x1), (2, .ref (ad 3 i2))]) hx hb dX7_alike_38 hl (by decide) rfl (fun ls hl => ?_)
  exact L_lp_X7_alike_40 ((gA w 38 i0 x1.toNatClampNeg) * (3 : Int32)) ((gA w 39 i0 x1.toNatClampNeg) * (3 : Int32)) (gA w 31 i0 (gA w 33 i0 (gA w 38 i0 x1.toNatClampNeg).toNatClampNeg).toNatClampNeg) _ (fun hf H locs ls hP hS hl => P_f_X7_alike_87 hf _ _ ls hP hS (lv_sub hl [] rfl)) N (0 : Int32) hf _ _ ls hP hS (lv_sub hl [4, 6, 3, 2, 1, 0] rfl)
def f_X7_nextPair_46 (N : Nat) (w : Mem) (i0 : Nat) (i1 : Nat) : Option (Int32) :=
  some (-1 : Int32)
def lp_X7_nextPair_2 (k : Option (Int32)) (N : Nat) (w : Mem) (i0 : Nat) (i1 : Nat) : Nat → Int32 → Option (Int32)
  | 0, _ => none
  | n + 1, v2 => (if (gF w 7 11 i0) ≤ v2 then
(k )
else
(if inb v2 276 = true then (Option.bind (f_X3_one N w i1 (gA w 38 i0 v2.toNatClampNeg) (gA w 39 i0 v2.toNatClampNeg)) (fun z3 => (if z3 = (0 : Int32) then
(Option.bind (f_X7_alike N w i0 v2 i1) (fun z5 => (if z5 = (0 : Int32) then
(lp_X7_nextPair_2 k N w i0 i1  n (v2 + (1 : Int32)))
else
some v2)))
else
(lp_X7_nextPair_2 k N w i0 i1  n (v2 + (1 : Int32)))))) else none))
def f_X7_nextPair (N : Nat) (w : Mem) (i0 : Nat) (i1 : Nat) : Option (Int32) :=
  (lp_X7_nextPair_2 (f_X7_nextPair_46 N w i0 i1  ) N w i0 i1  N (0 : Int32))
set_option maxRecDepth 100000 in
set_option maxHeartbeats 4000000 in
theorem c_X7_nextPair (l : Launch) (D : va_G) (ca : Nat → ClassId) (ad : Nat → Nat → Nat) (PL : List (Nat × Nat)) (Z : State → Prop) (A : Nat → Prop) (hok : okc bX Z A ad PL) (N : Nat) (w : Mem) (i0 : Nat) (h0 : i0 < 2) (i1 : Nat) (h1 : i1 < 17) (r : Int32) (hf : f_X7_nextPair N w i0 i1 = some r) : CT l yX7_nextPair (wsy yX7_nextPair cX7_nextPair 3 (some .int)) (rmk 1) D ca ad PL Z A [.ref (ad 7 i0), .ref (ad 3 i1)] w w (some (.int r)) := by
  refine Met.ofW (cc := cX7_nextPair) (maxL := 3) (ret := (some .int)) (by decide +kernel) rfl ?_
  intro p e s m args below meth c s₁ B hml hv
  obtain ⟨rfl, hP, hK, hZ⟩ := hv
  have hx := B.exec
  have hb := B.bytes
  have hr := B.returns
  have hlocks := B.notSynchronized
  have hts : ∀ w ∈ ALL, w.before _ s = true := fun w hw => atoms_spec (ws := wsy yX7_nextPair cX7_nextPair 3 (some .int)) B.pre w (List.mem_cons_of_mem _ hw)
  have hown : s.vm.findClass RX7 = some m.cls := findClass_of_methodNamed B.named
  have C : CX p s m _ c cX7_nextPair RX7 3 D ca Z := ⟨hx, hb, hml, hown, hts, hK, hZ⟩
  have hS : va_S A s.heap s.heap [] := va_S.rf
  have hl := lv_entry ([.ref (ad 7 i0), .ref (ad 3 i1)]) (n := 3) (Nat.le_of_ble_eq_true rfl)
  rw [lg_entry_eq]
  generalize (lg_sl ([.ref (ad 7 i0), .ref (ad 3 i1)]) ++ List.replicate (3 - (lg_sl ([.ref (ad 7 i0), .ref (ad 3 i1)])).length) Slot.unset).toArray = ls at hl ⊢
  have hl : lv_has ls 3 [(0, .ref (ad 7 i0)), (1, .ref (ad 3 i1))] := hl
  show W p l e (rmk 1) s m _ below meth c s.heap [] 0 0 _ _
  have P_f_X7_nextPair_46 : f_X7_nextPair_46 N w i0 i1   = some r → WP p l e (rmk 1) s m [.ref (ad 7 i0), .ref (ad 3 i1)].toArray below meth c D ca ad PL A (MQ below (qcR D ca ad PL Z A w (some (.int r))) [.ref (ad 7 i0), .ref (ad 3 i1)].toArray s 0 0 A) 3 46 [] [] w := by
    intro  hf _ _ ls hP hS hl
    unfold f_X7_nextPair_46 at hf
    refine lv_iconst (v := (-1 : Int32)) hx hb dX7_nextPair_46 (by decide) ?_
    exact kr_i hok.2.2.1 C hlocks hr rfl hP hS rfl (Option.some.inj hf) dX7_nextPair_47
  have L_lp_X7_nextPair_2 : ∀ (k : Option (Int32)) (hk : k = some r → WP p l e (rmk 1) s m [.ref (ad 7 i0), .ref (ad 3 i1)].toArray below meth c D ca ad PL A (MQ below (qcR D ca ad PL Z A w (some (.int r))) [.ref (ad 7 i0), .ref (ad 3 i1)].toArray s 0 0 A) 3 46 [] [] w) (n : Nat) (v2 : Int32), lp_X7_nextPair_2 k N w i0 i1  n v2 = some r → WP p l e (rmk 1) s m [.ref (ad 7 i0), .ref (ad 3 i1)].toArray below meth c D ca ad PL A (MQ below (qcR D ca ad PL Z A w (some (.int r))) [.ref (ad 7 i0), .ref (ad 3 i1)].toArray s 0 0 A) 3 2 [] [(0, .ref (ad 7 i0)), (1, .ref (ad 3 i1)), (2, .int v2)] w := by
    intro k hk n
    induction n with
    | zero => intro v2 hf; rw [lp_X7_nextPair_2] at hf; cases hf
    | succ n ih =>
      intro v2 hf _ _ ls hP hS hl
      rw [lp_X7_nextPair_2] at hf
      refine lv_iload_n hx hb dX7_nextPair_2 rfl (lv_at hl 2 rfl) ?_
      refine lv_aload_n hx hb dX7_nextPair_3 rfl (lv_at hl 0 rfl) ?_
      refine gt_7_11 (i := i0) C hP (hok.2.1 7 i0 h0) lk_X7_46 dX7_nextPair_4 ?_
      refine lv_icmp_ge (tgt := 46) hx hb dX7_nextPair_7 (by decide) (fun c9 => ?_) (fun c9 => ?_)
      · have hf := ifp hf c9
        exact hk  hf _ _ ls hP hS (lv_sub hl [] rfl)
      · have hf := ifn hf c9
        refine lv_aload_n hx hb dX7_nextPair_10 rfl (lv_at hl 1 rfl) ?_
        refine lv_aload_n hx hb dX7_nextPair_11 rfl (lv_at hl 0 rfl) ?_
        refine gt_7_7 (i := i0) C hP (hok.2.1 7 i0 h0) lk_X7_33 dX7_nextPair_12 ?_
        refine lv_iload_n hx hb dX7_nextPair_15 rfl (lv_at hl 2 rfl) ?_
        obtain ⟨b2, hf⟩ := gsp hf
        refine ra_ild (k := 38) (i := i0) (n := 276) (f := (gA w 38 i0)) C hP (hok.2.1 38 i0 h0) rfl b2 dX7_nextPair_16 ?_
        refine lv_aload_n hx hb dX7_nextPair_17 rfl (lv_at hl 0 rfl) ?_
        refine gt_7_8 (i := i0) C hP (hok.2.1 7 i0 h0) lk_X7_36 dX7_nextPair_18 ?_
        refine lv_iload_n hx hb dX7_nextPair_21 rfl (lv_at hl 2 rfl) ?_
        refine ra_ild (k := 39) (i := i0) (n := 276) (f := (gA w 39 i0)) C hP (hok.2.1 39 i0 h0) rfl b2 dX7_nextPair_22 ?_
        obtain ⟨z3, q4, hf⟩ := bsp hf
        refine kc_V (ci := 3) (i := i1) (As := [.int (gA w 38 i0 v2.toNatClampNeg), .int (gA w 39 i0 v2.toNatClampNeg)]) (rest := []) hok.2.2.1 C hP hS hl.1 (hok.2.1 3 i1 h1) rfl rfl cw_X3_one ml_X7_79 (c_X3_one l D ca ad PL Z A hok N w i1 h1 (gA w 38 i0 v2.toNatClampNeg) (gA w 39 i0 v2.toNatClampNeg) z3 q4) rfl ⟨rfl, rfl⟩ ⟨Nat.le_of_ble_eq_true rfl, Nat.le_of_ble_eq_true rfl⟩ ⟨Nat.zero_le _, Nat.zero_le _⟩ (Nat.le_of_ble_eq_true rfl) rfl dX7_nextPair_23 (fun H locs hP hS => ?_)
        refine lv_if_ne (tgt := 40) hx hb dX7_nextPair_26 (by decide) (fun c8 => ?_) (fun c8 => ?_)
        · have hf := ifn hf c8
          refine lv_iinc (v := (v2 + (1 : Int32))) (lv' := [(2, .int (v2 + (1 : Int32))), (0, .ref (ad 7 i0)), (1, .ref (ad 3 i1))]) hx hb dX7_nextPair_40 hl (k := 2) rfl rfl (by decide) rfl (fun ls hl => ?_)
          refine lv_goto (tgt := 2) hx hb dX7_nextPair_43 (by decide) ?_
          exact ih (v2 + (1 : Int32)) hf _ _ ls hP hS (lv_sub hl [1, 2, 0] rfl)
        · have hf := ifp hf c8
          refine lv_aload_n hx hb dX7_nextPair_29 rfl (lv_at hl 0 rfl) ?_
          refine lv_iload_n hx hb dX7_nextPair_30 rfl (lv_at hl 2 rfl) ?_
          refine lv_aload_n hx hb dX7_nextPair_31 rfl (lv_at hl 1 rfl) ?_
          obtain ⟨z5, q6, hf⟩ := bsp hf
          refine kc_V (ci := 7) (i := i0) (As := [.int v2, .ref (ad 3 i1)]) (rest := []) hok.2.2.1 C hP hS hl.1 (hok.2.1 7 i0 h0) rfl rfl cw_X7_alike ml_X7_83 (c_X7_alike l D ca ad PL Z A hok N w i0 h0 v2 i1 h1 z5 q6) rfl ⟨rfl, rfl⟩ ⟨Nat.le_of_ble_eq_true rfl, Nat.le_of_ble_eq_true rfl⟩ ⟨Nat.zero_le _, Nat.zero_le _⟩ (Nat.le_of_ble_eq_true rfl) rfl dX7_nextPair_32 (fun H locs hP hS => ?_)
          refine lv_if_eq (tgt := 40) hx hb dX7_nextPair_35 (by decide) (fun c7 => ?_) (fun c7 => ?_)
          · have hf := ifp hf c7
            refine lv_iinc (v := (v2 + (1 : Int32))) (lv' := [(2, .int (v2 + (1 : Int32))), (0, .ref (ad 7 i0)), (1, .ref (ad 3 i1))]) hx hb dX7_nextPair_40 hl (k := 2) rfl rfl (by decide) rfl (fun ls hl => ?_)
            refine lv_goto (tgt := 2) hx hb dX7_nextPair_43 (by decide) ?_
            exact ih (v2 + (1 : Int32)) hf _ _ ls hP hS (lv_sub hl [1, 2, 0] rfl)
          · have hf := ifn hf c7
            refine lv_iload_n hx hb dX7_nextPair_38 rfl (lv_at hl 2 rfl) ?_
            exact kr_i hok.2.2.1 C hlocks hr rfl hP hS rfl (Option.some.inj hf) dX7_nextPair_39
  unfold f_X7_nextPair at hf
  -- walk
  refine lv_iconst (v := (0 : Int32)) hx hb dX7_nextPair_0 (by decide) ?_
  refine lv_istore_n (lv' := [(2, .int (0 : Int32)), (0, .ref (ad 7 i0)), (1, .ref (ad 3 i1))]) hx hb dX7_nextPair_1 rfl hl (by decide) rfl (fun ls hl => ?_)
  exact L_lp_X7_nextPair_2 _ (fun hf H locs ls hP hS hl => P_f_X7_nextPair_46 hf _ _ ls hP hS (lv_sub hl [] rfl)) N (0 : Int32) hf _ _ ls hP hS (lv_sub hl [1, 2, 0] rfl)
def f_X7_partsOf (N : Nat) (w : Mem) (i0 : Nat) (x1 : Int32) : Option (Int32) :=
  (if inb x1 24 = true then (if inb (gA w 33 i0 x1.toNatClampNeg) 8 = true then some (gA w 31 i0 (gA w 33 i0 x1.toNatClampNeg).toNatClampNeg) else none) else none)
set_option maxRecDepth 100000 in
set_option maxHeartbeats 4000000 in
theorem c_X7_partsOf (l : Launch) (D : va_G) (ca : Nat → ClassId) (ad : Nat → Nat → Nat) (PL : List (Nat × Nat)) (Z : State → Prop) (A : Nat → Prop) (hok : okc bX Z A ad PL) (N : Nat) (w : Mem) (i0 : Nat) (h0 : i0 < 2) (x1 : Int32) (r : Int32) (hf : f_X7_partsOf N w i0 x1 = some r) : CT l yX7_partsOf (wsy yX7_partsOf cX7_partsOf 2 (some .int)) (rmk 0) D ca ad PL Z A [.ref (ad 7 i0), .int x1] w w (some (.int r)) := by
  refine Met.ofW (cc := cX7_partsOf) (maxL := 2) (ret := (some .int)) (by decide +kernel) rfl ?_
  intro p e s m args below meth c s₁ B hml hv
  obtain ⟨rfl, hP, hK, hZ⟩ := hv
  have hx := B.exec
  have hb := B.bytes
  have hr := B.returns
  have hlocks := B.notSynchronized
  have hts : ∀ w ∈ ALL, w.before _ s = true := fun w hw => atoms_spec (ws := wsy yX7_partsOf cX7_partsOf 2 (some .int)) B.pre w (List.mem_cons_of_mem _ hw)
  have hown : s.vm.findClass RX7 = some m.cls := findClass_of_methodNamed B.named
  have C : CX p s m _ c cX7_partsOf RX7 2 D ca Z := ⟨hx, hb, hml, hown, hts, hK, hZ⟩
  have hS : va_S A s.heap s.heap [] := va_S.rf
  have hl := lv_entry ([.ref (ad 7 i0), .int x1]) (n := 2) (Nat.le_of_ble_eq_true rfl)
  rw [lg_entry_eq]
  generalize (lg_sl ([.ref (ad 7 i0), .int x1]) ++ List.replicate (2 - (lg_sl ([.ref (ad 7 i0), .int x1])).length) Slot.unset).toArray = ls at hl ⊢
  have hl : lv_has ls 2 [(0, .ref (ad 7 i0)), (1, .int x1)] := hl
  show W p l e (rmk 0) s m _ below meth c s.heap [] 0 0 _ _
  unfold f_X7_partsOf at hf
  -- walk
  refine lv_aload_n hx hb dX7_partsOf_0 rfl (lv_at hl 0 rfl) ?_
  refine gt_7_0 (i := i0) C hP (hok.2.1 7 i0 h0) lk_X7_9 dX7_partsOf_1 ?_
  refine lv_aload_n hx hb dX7_partsOf_4 rfl (lv_at hl 0 rfl) ?_
  refine gt_7_2 (i := i0) C hP (hok.2.1 7 i0 h0) lk_X7_18 dX7_partsOf_5 ?_
  refine lv_iload_n hx hb dX7_partsOf_8 rfl (lv_at hl 1 rfl) ?_
  obtain ⟨b1, hf⟩ := gsp hf
  refine ra_ild (k := 33) (i := i0) (n := 24) (f := (gA w 33 i0)) C hP (hok.2.1 33 i0 h0) rfl b1 dX7_partsOf_9 ?_
  obtain ⟨b2, hf⟩ := gsp hf
  refine ra_ild (k := 31) (i := i0) (n := 8) (f := (gA w 31 i0)) C hP (hok.2.1 31 i0 h0) rfl b2 dX7_partsOf_10 ?_
  exact kr_i hok.2.2.1 C hlocks hr rfl hP hS rfl (Option.some.inj hf) dX7_partsOf_11
def f_X7_partAt (N : Nat) (w : Mem) (i0 : Nat) (x1 : Int32) (x2 : Int32) : Option (Int32) :=
  (if inb ((x1 * (3 : Int32)) + x2) 72 = true then some (gA w 36 i0 ((x1 * (3 : Int32)) + x2).toNatClampNeg) else none)
set_option maxRecDepth 100000 in
set_option maxHeartbeats 4000000 in
theorem c_X7_partAt (l : Launch) (D : va_G) (ca : Nat → ClassId) (ad : Nat → Nat → Nat) (PL : List (Nat × Nat)) (Z : State → Prop) (A : Nat → Prop) (hok : okc bX Z A ad PL) (N : Nat) (w : Mem) (i0 : Nat) (h0 : i0 < 2) (x1 : Int32) (x2 : Int32) (r : Int32) (hf : f_X7_partAt N w i0 x1 x2 = some r) : CT l yX7_partAt (wsy yX7_partAt cX7_partAt 3 (some .int)) (rmk 0) D ca ad PL Z A [.ref (ad 7 i0), .int x1, .int x2] w w (some (.int r)) := by
  refine Met.ofW (cc := cX7_partAt) (maxL := 3) (ret := (some .int)) (by decide +kernel) rfl ?_
  intro p e s m args below meth c s₁ B hml hv
  obtain ⟨rfl, hP, hK, hZ⟩ := hv
  have hx := B.exec
  have hb := B.bytes
  have hr := B.returns
  have hlocks := B.notSynchronized
  have hts : ∀ w ∈ ALL, w.before _ s = true := fun w hw => atoms_spec (ws := wsy yX7_partAt cX7_partAt 3 (some .int)) B.pre w (List.mem_cons_of_mem _ hw)
  have hown : s.vm.findClass RX7 = some m.cls := findClass_of_methodNamed B.named
  have C : CX p s m _ c cX7_partAt RX7 3 D ca Z := ⟨hx, hb, hml, hown, hts, hK, hZ⟩
  have hS : va_S A s.heap s.heap [] := va_S.rf
  have hl := lv_entry ([.ref (ad 7 i0), .int x1, .int x2]) (n := 3) (Nat.le_of_ble_eq_true rfl)
  rw [lg_entry_eq]
  generalize (lg_sl ([.ref (ad 7 i0), .int x1, .int x2]) ++ List.replicate (3 - (lg_sl ([.ref (ad 7 i0), .int x1, .int x2])).length) Slot.unset).toArray = ls at hl ⊢
  have hl : lv_has ls 3 [(0, .ref (ad 7 i0)), (1, .int x1), (2, .int x2)] := hl
  show W p l e (rmk 0) s m _ below meth c s.heap [] 0 0 _ _
  unfold f_X7_partAt at hf
  -- walk
  refine lv_aload_n hx hb dX7_partAt_0 rfl (lv_at hl 0 rfl) ?_
  refine gt_7_5 (i := i0) C hP (hok.2.1 7 i0 h0) lk_X7_27 dX7_partAt_1 ?_
  refine lv_iload_n hx hb dX7_partAt_4 rfl (lv_at hl 1 rfl) ?_
  refine lv_iconst (v := (3 : Int32)) hx hb dX7_partAt_5 (by decide) ?_
  refine lv_imul hx hb dX7_partAt_6 ?_
  refine lv_iload_n hx hb dX7_partAt_7 rfl (lv_at hl 2 rfl) ?_
  refine lv_iadd hx hb dX7_partAt_8 ?_
  obtain ⟨b1, hf⟩ := gsp hf
  refine ra_ild (k := 36) (i := i0) (n := 72) (f := (gA w 36 i0)) C hP (hok.2.1 36 i0 h0) rfl b1 dX7_partAt_9 ?_
  exact kr_i hok.2.2.1 C hlocks hr rfl hP hS rfl (Option.some.inj hf) dX7_partAt_10
def f_X7_dropTerm (N : Nat) (w : Mem) (i0 : Nat) : Option (Mem) :=
  (if (gF w 7 10 i0) ≤ (0 : Int32) then
some w
else
(Option.bind (f_X7_listPairs N (sF w 7 10 i0 ((gF w 7 10 i0) - (1 : Int32))) i0) (fun z1 => some z1)))
set_option maxRecDepth 100000 in
set_option maxHeartbeats 4000000 in
theorem c_X7_dropTerm (l : Launch) (D : va_G) (ca : Nat → ClassId) (ad : Nat → Nat → Nat) (PL : List (Nat × Nat)) (Z : State → Prop) (A : Nat → Prop) (hok : okc bX Z A ad PL) (N : Nat) (w : Mem) (i0 : Nat) (h0 : i0 < 2) (w' : Mem) (hf : f_X7_dropTerm N w i0 = some w') : CT l yX7_dropTerm (wsy yX7_dropTerm cX7_dropTerm 1 none) (rmk 1) D ca ad PL Z A [.ref (ad 7 i0)] w w' none := by
  refine Met.ofW (cc := cX7_dropTerm) (maxL := 1) (ret := none) (by decide +kernel) rfl ?_
  intro p e s m args below meth c s₁ B hml hv
  obtain ⟨rfl, hP, hK, hZ⟩ := hv
  have hx := B.exec
  have hb := B.bytes
  have hr := B.returns
  have hlocks := B.notSynchronized
  have hts : ∀ w ∈ ALL, w.before _ s = true := fun w hw => atoms_spec (ws := wsy yX7_dropTerm cX7_dropTerm 1 none) B.pre w (List.mem_cons_of_mem _ hw)
  have hown : s.vm.findClass RX7 = some m.cls := findClass_of_methodNamed B.named
  have C : CX p s m _ c cX7_dropTerm RX7 1 D ca Z := ⟨hx, hb, hml, hown, hts, hK, hZ⟩
  have hS : va_S A s.heap s.heap [] := va_S.rf
  have hl := lv_entry ([.ref (ad 7 i0)]) (n := 1) (Nat.le_of_ble_eq_true rfl)
  rw [lg_entry_eq]
  generalize (lg_sl ([.ref (ad 7 i0)]) ++ List.replicate (1 - (lg_sl ([.ref (ad 7 i0)])).length) Slot.unset).toArray = ls at hl ⊢
  have hl : lv_has ls 1 [(0, .ref (ad 7 i0))] := hl
  show W p l e (rmk 1) s m _ below meth c s.heap [] 0 0 _ _
  unfold f_X7_dropTerm at hf
  -- walk
  refine lv_aload_n hx hb dX7_dropTerm_0 rfl (lv_at hl 0 rfl) ?_
  refine gt_7_10 (i := i0) C hP (hok.2.1 7 i0 h0) lk_X7_43 dX7_dropTerm_1 ?_
  refine lv_if_le (tgt := 21) hx hb dX7_dropTerm_4 (by decide) (fun c3 => ?_) (fun c3 => ?_)
  · have hf := ifp hf c3
    exact kr_v hok.2.2.1 C hlocks hr hP hS (Option.some.inj hf) dX7_dropTerm_21
  · have hf := ifn hf c3
    refine lv_aload_n hx hb dX7_dropTerm_7 rfl (lv_at hl 0 rfl) ?_
    refine lv_dup hx hb dX7_dropTerm_8 rfl ?_
    refine gt_7_10 (i := i0) C hP (hok.2.1 7 i0 h0) lk_X7_43 dX7_dropTerm_9 ?_
    refine lv_iconst (v := (1 : Int32)) hx hb dX7_dropTerm_12 (by decide) ?_
    refine lv_isub hx hb dX7_dropTerm_13 ?_
    refine pt_7_10 (i := i0) (v := ((gF w 7 10 i0) - (1 : Int32))) C hok.1 hP hS (hok.2.1 7 i0 h0) lk_X7_43 dX7_dropTerm_14 (fun H locs hP hS => ?_)
    refine lv_aload_n hx hb dX7_dropTerm_17 rfl (lv_at hl 0 rfl) ?_
    obtain ⟨z1, q2, hf⟩ := bsp hf
    refine kc_V (ci := 7) (i := i0) (As := []) (rest := []) hok.2.2.1 C hP hS hl.1 (hok.2.1 7 i0 h0) rfl rfl cw_X7_listPairs ml_X7_55 (c_X7_listPairs l D ca ad PL Z A hok N (sF w 7 10 i0 ((gF w 7 10 i0) - (1 : Int32))) i0 h0 z1 q2) rfl ⟨rfl, rfl⟩ ⟨Nat.le_of_ble_eq_true rfl, Nat.le_of_ble_eq_true rfl⟩ ⟨Nat.zero_le _, Nat.zero_le _⟩ (Nat.le_of_ble_eq_true rfl) rfl dX7_dropTerm_18 (fun H locs hP hS => ?_)
    exact kr_v hok.2.2.1 C hlocks hr hP hS (Option.some.inj hf) dX7_dropTerm_21
def f_X7_madeOf_49 (N : Nat) (w : Mem) (i0 : Nat) (i2 : Nat) (v3 : Int32) : Option (Int32) :=
  some v3
def lp_X7_madeOf_5 (k : Int32 → Option (Int32)) (N : Nat) (w : Mem) (i0 : Nat) (i2 : Nat) (v1 : Int32) : Nat → Int32 → Int32 → Option (Int32)
  | 0, _, _ => none
  | n + 1, v3, v4 => (if inb v1 24 = true then (if inb (gA w 33 i0 v1.toNatClampNeg) 8 = true then (if (gA w 31 i0 (gA w 33 i0 v1.toNatClampNeg).toNatClampNeg) ≤ v4 then
(k v3)
else
(if inb ((v1 * (3 : Int32)) + v4) 72 = true then (if inb (gA w 36 i0 ((v1 * (3 : Int32)) + v4).toNatClampNeg) 24 = true then (lp_X7_madeOf_5 k N w i0 i2 v1 n ((v3 * (24 : Int32)) + (gA w 25 i2 (gA w 36 i0 ((v1 * (3 : Int32)) + v4).toNatClampNeg).toNatClampNeg)) (v4 + (1 : Int32))) else none) else none)) else none) else none)
def f_X7_madeOf (N : Nat) (w : Mem) (i0 : Nat) (x1 : Int32) (i2 : Nat) : Option (Int32) :=
  (lp_X7_madeOf_5 (fun (u3_1 : Int32) => (f_X7_madeOf_49 N w i0 i2 u3_1 )) N w i0 i2 x1 N (0 : Int32) (0 : Int32))
set_option maxRecDepth 100000 in
set_option maxHeartbeats 4000000 in
theorem c_X7_madeOf (l : Launch) (D : va_G) (ca : Nat → ClassId) (ad : Nat → Nat → Nat) (PL : List (Nat × Nat)) (Z : State → Prop) (A : Nat → Prop) (hok : okc bX Z A ad PL) (N : Nat) (w : Mem) (i0 : Nat) (h0 : i0 < 2) (x1 : Int32) (i2 : Nat) (h2 : i2 < 17) (r : Int32) (hf : f_X7_madeOf N w i0 x1 i2 = some r) : CT l yX7_madeOf (wsy yX7_madeOf cX7_madeOf 5 (some .int)) (rmk 0) D ca ad PL Z A [.ref (ad 7 i0), .int x1, .ref (ad 3 i2)] w w (some (.int r)) := by
  refine Met.ofW (cc := cX7_madeOf) (maxL := 5) (ret := (some .int)) (by decide +kernel) rfl ?_
  intro p e s m args below meth c s₁ B hml hv
  obtain ⟨rfl, hP, hK, hZ⟩ := hv
  have hx := B.exec
  have hb := B.bytes
  have hr := B.returns
  have hlocks := B.notSynchronized
  have hts : ∀ w ∈ ALL, w.before _ s = true := fun w hw => atoms_spec (ws := wsy yX7_madeOf cX7_madeOf 5 (some .int)) B.pre w (List.mem_cons_of_mem _ hw)
  have hown : s.vm.findClass RX7 = some m.cls := findClass_of_methodNamed B.named
  have C : CX p s m _ c cX7_madeOf RX7 5 D ca Z := ⟨hx, hb, hml, hown, hts, hK, hZ⟩
  have hS : va_S A s.heap s.heap [] := va_S.rf
  have hl := lv_entry ([.ref (ad 7 i0), .int x1, .ref (ad 3 i2)]) (n := 5) (Nat.le_of_ble_eq_true rfl)
  rw [lg_entry_eq]
  generalize (lg_sl ([.ref (ad 7 i0), .int x1, .ref (ad 3 i2)]) ++ List.replicate (5 - (lg_sl ([.ref (ad 7 i0), .int x1, .ref (ad 3 i2)])).length) Slot.unset).toArray = ls at hl ⊢
  have hl : lv_has ls 5 [(0, .ref (ad 7 i0)), (1, .int x1), (2, .ref (ad 3 i2))] := hl
  show W p l e (rmk 0) s m _ below meth c s.heap [] 0 0 _ _
  have P_f_X7_madeOf_49 : ∀ (v3 : Int32), f_X7_madeOf_49 N w i0 i2 v3  = some r → WP p l e (rmk 0) s m [.ref (ad 7 i0), .int x1, .ref (ad 3 i2)].toArray below meth c D ca ad PL A (MQ below (qcR D ca ad PL Z A w (some (.int r))) [.ref (ad 7 i0), .int x1, .ref (ad 3 i2)].toArray s 0 0 A) 5 49 [] [(3, .int v3)] w := by
    intro v3 hf _ _ ls hP hS hl
    unfold f_X7_madeOf_49 at hf
    refine lv_iload_n hx hb dX7_madeOf_49 rfl (lv_at hl 0 rfl) ?_
    exact kr_i hok.2.2.1 C hlocks hr rfl hP hS rfl (Option.some.inj hf) dX7_madeOf_50
  have L_lp_X7_madeOf_5 : ∀ (v1 : Int32) (k : Int32 → Option (Int32)) (hk : ∀ (v3 : Int32), k v3 = some r → WP p l e (rmk 0) s m [.ref (ad 7 i0), .int x1, .ref (ad 3 i2)].toArray below meth c D ca ad PL A (MQ below (qcR D ca ad PL Z A w (some (.int r))) [.ref (ad 7 i0), .int x1, .ref (ad 3 i2)].toArray s 0 0 A) 5 49 [] [(3, .int v3)] w) (n : Nat) (v3 : Int32) (v4 : Int32), lp_X7_madeOf_5 k N w i0 i2 v1 n v3 v4 = some r → WP p l e (rmk 0) s m [.ref (ad 7 i0), .int x1, .ref (ad 3 i2)].toArray below meth c D ca ad PL A (MQ below (qcR D ca ad PL Z A w (some (.int r))) [.ref (ad 7 i0), .int x1, .ref (ad 3 i2)].toArray s 0 0 A) 5 5 [] [(0, .ref (ad 7 i0)), (1, .int v1), (2, .ref (ad 3 i2)), (3, .int v3), (4, .int v4)] w := by
    intro v1 k hk n
    induction n with
    | zero => intro v3 v4 hf; rw [lp_X7_madeOf_5] at hf; cases hf
    | succ n ih =>
      intro v3 v4 hf _ _ ls hP hS hl
      rw [lp_X7_madeOf_5] at hf
      refine lv_iload hx hb dX7_madeOf_5 (lv_at hl 4 rfl) ?_
      refine lv_aload_n hx hb dX7_madeOf_7 rfl (lv_at hl 0 rfl) ?_
      refine gt_7_0 (i := i0) C hP (hok.2.1 7 i0 h0) lk_X7_9 dX7_madeOf_8 ?_
      refine lv_aload_n hx hb dX7_madeOf_11 rfl (lv_at hl 0 rfl) ?_
      refine gt_7_2 (i := i0) C hP (hok.2.1 7 i0 h0) lk_X7_18 dX7_madeOf_12 ?_
      refine lv_iload_n hx hb dX7_madeOf_15 rfl (lv_at hl 1 rfl) ?_
      obtain ⟨b2, hf⟩ := gsp hf
      refine ra_ild (k := 33) (i := i0) (n := 24) (f := (gA w 33 i0)) C hP (hok.2.1 33 i0 h0) rfl b2 dX7_madeOf_16 ?_
      obtain ⟨b3, hf⟩ := gsp hf
      refine ra_ild (k := 31) (i := i0) (n := 8) (f := (gA w 31 i0)) C hP (hok.2.1 31 i0 h0) rfl b3 dX7_madeOf_17 ?_
      refine lv_icmp_ge (tgt := 49) hx hb dX7_madeOf_18 (by decide) (fun c6 => ?_) (fun c6 => ?_)
      · have hf := ifp hf c6
        exact hk v3 hf _ _ ls hP hS (lv_sub hl [3] rfl)
      · have hf := ifn hf c6
        refine lv_iload_n hx hb dX7_madeOf_21 rfl (lv_at hl 3 rfl) ?_
        refine lv_bipush (v := (24 : Int32)) hx hb dX7_madeOf_22 (by decide) ?_
        refine lv_imul hx hb dX7_madeOf_24 ?_
        refine lv_aload_n hx hb dX7_madeOf_25 rfl (lv_at hl 2 rfl) ?_
        refine gt_3_0 (i := i2) C hP (hok.2.1 3 i2 h2) lk_X7_58 dX7_madeOf_26 ?_
        refine lv_aload_n hx hb dX7_madeOf_29 rfl (lv_at hl 0 rfl) ?_
        refine gt_7_5 (i := i0) C hP (hok.2.1 7 i0 h0) lk_X7_27 dX7_madeOf_30 ?_
        refine lv_iload_n hx hb dX7_madeOf_33 rfl (lv_at hl 1 rfl) ?_
        refine lv_iconst (v := (3 : Int32)) hx hb dX7_madeOf_34 (by decide) ?_
        refine lv_imul hx hb dX7_madeOf_35 ?_
        refine lv_iload hx hb dX7_madeOf_36 (lv_at hl 4 rfl) ?_
        refine lv_iadd hx hb dX7_madeOf_38 ?_
        obtain ⟨b4, hf⟩ := gsp hf
        refine ra_ild (k := 36) (i := i0) (n := 72) (f := (gA w 36 i0)) C hP (hok.2.1 36 i0 h0) rfl b4 dX7_madeOf_39 ?_
        obtain ⟨b5, hf⟩ := gsp hf
        refine ra_ild (k := 25) (i := i2) (n := 24) (f := (gA w 25 i2)) C hP (hok.2.1 25 i2 h2) rfl b5 dX7_madeOf_40 ?_
        refine lv_iadd hx hb dX7_madeOf_41 ?_
        refine lv_istore_n (lv' := [(3, .int ((v3 * (24 : Int32)) + (gA w 25 i2 (gA w 36 i0 ((v1 * (3 : Int32)) + v4).toNatClampNeg).toNatClampNeg))), (0, .ref (ad 7 i0)), (1, .int v1), (2, .ref (ad 3 i2)), (4, .int v4)]) hx hb dX7_madeOf_42 rfl hl (by decide) rfl (fun ls hl => ?_)
        refine lv_iinc (v := (v4 + (1 : Int32))) (lv' := [(4, .int (v4 + (1 : Int32))), (3, .int ((v3 * (24 : Int32)) + (gA w 25 i2 (gA w 36 i0 ((v1 * (3 : Int32)) + v4).toNatClampNeg).toNatClampNeg))), (0, .ref (ad 7 i0)), (1, .int v1), (2, .ref (ad 3 i2))]) hx hb dX7_madeOf_43 hl (k := 4) rfl rfl (by decide) rfl (fun ls hl => ?_)
        refine lv_goto (tgt := 5) hx hb dX7_madeOf_46 (by decide) ?_
        exact ih ((v3 * (24 : Int32)) + (gA w 25 i2 (gA w 36 i0 ((v1 * (3 : Int32)) + v4).toNatClampNeg).toNatClampNeg)) (v4 + (1 : Int32)) hf _ _ ls hP hS (lv_sub hl [2, 3, 4, 1, 0] rfl)
  unfold f_X7_madeOf at hf
  -- walk
  refine lv_iconst (v := (0 : Int32)) hx hb dX7_madeOf_0 (by decide) ?_
  refine lv_istore_n (lv' := [(3, .int (0 : Int32)), (0, .ref (ad 7 i0)), (1, .int x1), (2, .ref (ad 3 i2))]) hx hb dX7_madeOf_1 rfl hl (by decide) rfl (fun ls hl => ?_)
  refine lv_iconst (v := (0 : Int32)) hx hb dX7_madeOf_2 (by decide) ?_
  refine lv_istore (lv' := [(4, .int (0 : Int32)), (3, .int (0 : Int32)), (0, .ref (ad 7 i0)), (1, .int x1), (2, .ref (ad 3 i2))]) hx hb dX7_madeOf_3 hl (by decide) rfl (fun ls hl => ?_)
  exact L_lp_X7_madeOf_5 x1 _ (fun u3_1 hf H locs ls hP hS hl => P_f_X7_madeOf_49 u3_1 hf _ _ ls hP hS (lv_sub hl [0] rfl)) N (0 : Int32) (0 : Int32) hf _ _ ls hP hS (lv_sub hl [2, 3, 4, 1, 0] rfl)
def f_X7_climb_85 (N : Nat) (w : Mem) (i0 : Nat) (i1 : Nat) (i2 : Nat) : Option (Mem) :=
  some w
def lp_X7_climb_30 (k : Mem → Option (Mem)) (N : Nat) (i0 : Nat) (i1 : Nat) (i2 : Nat) : Nat → Mem → Int32 → Option (Mem)
  | 0, _, _ => none
  | n + 1, w, v3 => (if (gF w 7 11 i0) ≤ v3 then
(k w)
else
(if inb v3 276 = true then (if inb (gA w 38 i0 v3.toNatClampNeg) 24 = true then (if inb (gA w 39 i0 v3.toNatClampNeg) 24 = true then (if (gA w 37 i0 (gA w 38 i0 v3.toNatClampNeg).toNatClampNeg) = (gA w 37 i0 (gA w 39 i0 v3.toNatClampNeg).toNatClampNeg) then
(Option.bind (f_X3_unite N w i2 (gA w 38 i0 v3.toNatClampNeg) (gA w 39 i0 v3.toNatClampNeg)) (fun z6 => (lp_X7_climb_30 k N  i0 i1 i2  n z6 (v3 + (1 : Int32)))))
else
(lp_X7_climb_30 k N  i0 i1 i2  n w (v3 + (1 : Int32)))) else none) else none) else none))
def f_X7_climb_28 (N : Nat) (w : Mem) (i0 : Nat) (i1 : Nat) (i2 : Nat) : Option (Mem) :=
  (lp_X7_climb_30 (fun (w_2 : Mem) => (f_X7_climb_85 N w_2 i0 i1 i2  )) N  i0 i1 i2  N w (0 : Int32))
def lp_X7_climb_2 (k : Mem → Option (Mem)) (N : Nat) (i0 : Nat) (i1 : Nat) (i2 : Nat) : Nat → Mem → Int32 → Option (Mem)
  | 0, _, _ => none
  | n + 1, w, v3 => (if (gF w 7 10 i0) ≤ v3 then
(k w)
else
(Option.bind (f_X7_madeOf N w i0 v3 i1) (fun z10 => (if inb v3 24 = true then (lp_X7_climb_2 k N  i0 i1 i2  n (sA w 37 i0 v3.toNatClampNeg z10) (v3 + (1 : Int32))) else none))))
def f_X7_climb (N : Nat) (w : Mem) (i0 : Nat) (i1 : Nat) (i2 : Nat) : Option (Mem) :=
  (lp_X7_climb_2 (fun (w_1 : Mem) => (f_X7_climb_28 N w_1 i0 i1 i2  )) N  i0 i1 i2  N w (0 : Int32))
set_option maxRecDepth 100000 in
set_option maxHeartbeats 4000000 in
theorem c_X7_climb (l : Launch) (D : va_G) (ca : Nat → ClassId) (ad : Nat → Nat → Nat) (PL : List (Nat × Nat)) (Z : State → Prop) (A : Nat → Prop) (hok : okc bX Z A ad PL) (N : Nat) (w : Mem) (i0 : Nat) (h0 : i0 < 2) (i1 : Nat) (h1 : i1 < 17) (i2 : Nat) (h2 : i2 < 17) (w' : Mem) (hf : f_X7_climb N w i0 i1 i2 = some w') : CT l yX7_climb (wsy yX7_climb cX7_climb 4 none) (rmk 2) D ca ad PL Z A [.ref (ad 7 i0), .ref (ad 3 i1), .ref (ad 3 i2)] w w' none := by
  refine Met.ofW (cc := cX7_climb) (maxL := 4) (ret := none) (by decide +kernel) rfl ?_
  intro p e s m args below meth c s₁ B hml hv
  obtain ⟨rfl, hP, hK, hZ⟩ := hv
  have hx := B.exec
  have hb := B.bytes
  have hr := B.returns
  have hlocks := B.notSynchronized
  have hts : ∀ w ∈ ALL, w.before _ s = true := fun w hw => atoms_spec (ws := wsy yX7_climb cX7_climb 4 none) B.pre w (List.mem_cons_of_mem _ hw)
  have hown : s.vm.findClass RX7 = some m.cls := findClass_of_methodNamed B.named
  have C : CX p s m _ c cX7_climb RX7 4 D ca Z := ⟨hx, hb, hml, hown, hts, hK, hZ⟩
  have hS : va_S A s.heap s.heap [] := va_S.rf
  have hl := lv_entry ([.ref (ad 7 i0), .ref (ad 3 i1), .ref (ad 3 i2)]) (n := 4) (Nat.le_of_ble_eq_true rfl)
  rw [lg_entry_eq]
  generalize (lg_sl ([.ref (ad 7 i0), .ref (ad 3 i1), .ref (ad 3 i2)]) ++ List.replicate (4 - (lg_sl ([.ref (ad 7 i0), .ref (ad 3 i1), .ref (ad 3 i2)])).length) Slot.unset).toArray = ls at hl ⊢
  have hl : lv_has ls 4 [(0, .ref (ad 7 i0)), (1, .ref (ad 3 i1)), (2, .ref (ad 3 i2))] := hl
  show W p l e (rmk 2) s m _ below meth c s.heap [] 0 0 _ _
  have P_f_X7_climb_85 : ∀ (w : Mem), f_X7_climb_85 N w i0 i1 i2   = some w' → WP p l e (rmk 2) s m [.ref (ad 7 i0), .ref (ad 3 i1), .ref (ad 3 i2)].toArray below meth c D ca ad PL A (MQ below (qcR D ca ad PL Z A w' none) [.ref (ad 7 i0), .ref (ad 3 i1), .ref (ad 3 i2)].toArray s 0 0 A) 4 85 [] [] w := by
    intro w hf _ _ ls hP hS hl
    unfold f_X7_climb_85 at hf
    exact kr_v hok.2.2.1 C hlocks hr hP hS (Option.some.inj hf) dX7_climb_85
  have L_lp_X7_climb_30 : ∀ (k : Mem → Option (Mem)) (hk : ∀ (w : Mem), k w = some w' → WP p l e (rmk 2) s m [.ref (ad 7 i0), .ref (ad 3 i1), .ref (ad 3 i2)].toArray below meth c D ca ad PL A (MQ below (qcR D ca ad PL Z A w' none) [.ref (ad 7 i0), .ref (ad 3 i1), .ref (ad 3 i2)].toArray s 0 0 A) 4 85 [] [] w) (n : Nat) (w : Mem) (v3 : Int32), lp_X7_climb_30 k N  i0 i1 i2  n w v3 = some w' → WP p l e (rmk 2) s m [.ref (ad 7 i0), .ref (ad 3 i1), .ref (ad 3 i2)].toArray below meth c D ca ad PL A (MQ below (qcR D ca ad PL Z A w' none) [.ref (ad 7 i0), .ref (ad 3 i1), .ref (ad 3 i2)].toArray s 0 0 A) 4 30 [] [(0, .ref (ad 7 i0)), (2, .ref (ad 3 i2)), (3, .int v3)] w := by
    intro k hk n
    induction n with
    | zero => intro w v3 hf; rw [lp_X7_climb_30] at hf; cases hf
    | succ n ih =>
      intro w v3 hf _ _ ls hP hS hl
      rw [lp_X7_climb_30] at hf
      refine lv_iload_n hx hb dX7_climb_30 rfl (lv_at hl 2 rfl) ?_
      refine lv_aload_n hx hb dX7_climb_31 rfl (lv_at hl 0 rfl) ?_
      refine gt_7_11 (i := i0) C hP (hok.2.1 7 i0 h0) lk_X7_46 dX7_climb_32 ?_
      refine lv_icmp_ge (tgt := 85) hx hb dX7_climb_35 (by decide) (fun c9 => ?_) (fun c9 => ?_)
      · have hf := ifp hf c9
        exact hk w hf _ _ ls hP hS (lv_sub hl [] rfl)
      · have hf := ifn hf c9
        refine lv_aload_n hx hb dX7_climb_38 rfl (lv_at hl 0 rfl) ?_
        refine gt_7_6 (i := i0) C hP (hok.2.1 7 i0 h0) lk_X7_30 dX7_climb_39 ?_
        refine lv_aload_n hx hb dX7_climb_42 rfl (lv_at hl 0 rfl) ?_
        refine gt_7_7 (i := i0) C hP (hok.2.1 7 i0 h0) lk_X7_33 dX7_climb_43 ?_
        refine lv_iload_n hx hb dX7_climb_46 rfl (lv_at hl 2 rfl) ?_
        obtain ⟨b3, hf⟩ := gsp hf
        refine ra_ild (k := 38) (i := i0) (n := 276) (f := (gA w 38 i0)) C hP (hok.2.1 38 i0 h0) rfl b3 dX7_climb_47 ?_
        obtain ⟨b4, hf⟩ := gsp hf
        refine ra_ild (k := 37) (i := i0) (n := 24) (f := (gA w 37 i0)) C hP (hok.2.1 37 i0 h0) rfl b4 dX7_climb_48 ?_
        refine lv_aload_n hx hb dX7_climb_49 rfl (lv_at hl 0 rfl) ?_
        refine gt_7_6 (i := i0) C hP (hok.2.1 7 i0 h0) lk_X7_30 dX7_climb_50 ?_
        refine lv_aload_n hx hb dX7_climb_53 rfl (lv_at hl 0 rfl) ?_
        refine gt_7_8 (i := i0) C hP (hok.2.1 7 i0 h0) lk_X7_36 dX7_climb_54 ?_
        refine lv_iload_n hx hb dX7_climb_57 rfl (lv_at hl 2 rfl) ?_
        refine ra_ild (k := 39) (i := i0) (n := 276) (f := (gA w 39 i0)) C hP (hok.2.1 39 i0 h0) rfl b3 dX7_climb_58 ?_
        obtain ⟨b5, hf⟩ := gsp hf
        refine ra_ild (k := 37) (i := i0) (n := 24) (f := (gA w 37 i0)) C hP (hok.2.1 37 i0 h0) rfl b5 dX7_climb_59 ?_
        refine lv_icmp_ne (tgt := 79) hx hb dX7_climb_60 (by decide) (fun c8 => ?_) (fun c8 => ?_)
        · have hf := ifn hf c8
          refine lv_iinc (v := (v3 + (1 : Int32))) (lv' := [(3, .int (v3 + (1 : Int32))), (0, .ref (ad 7 i0)), (2, .ref (ad 3 i2))]) hx hb dX7_climb_79 hl (k := 2) rfl rfl (by decide) rfl (fun ls hl => ?_)
          refine lv_goto (tgt := 30) hx hb dX7_climb_82 (by decide) ?_
          exact ih w (v3 + (1 : Int32)) hf _ _ ls hP hS (lv_sub hl [1, 2, 0] rfl)
        · have hf := ifp hf c8
          refine lv_aload_n hx hb dX7_climb_63 rfl (lv_at hl 1 rfl) ?_
          refine lv_aload_n hx hb dX7_climb_64 rfl (lv_at hl 0 rfl) ?_
          refine gt_7_7 (i := i0) C hP (hok.2.1 7 i0 h0) lk_X7_33 dX7_climb_65 ?_
          refine lv_iload_n hx hb dX7_climb_68 rfl (lv_at hl 2 rfl) ?_
          refine ra_ild (k := 38) (i := i0) (n := 276) (f := (gA w 38 i0)) C hP (hok.2.1 38 i0 h0) rfl b3 dX7_climb_69 ?_
          refine lv_aload_n hx hb dX7_climb_70 rfl (lv_at hl 0 rfl) ?_
          refine gt_7_8 (i := i0) C hP (hok.2.1 7 i0 h0) lk_X7_36 dX7_climb_71 ?_
          refine lv_iload_n hx hb dX7_climb_74 rfl (lv_at hl 2 rfl) ?_
          refine ra_ild (k := 39) (i := i0) (n := 276) (f := (gA w 39 i0)) C hP (hok.2.1 39 i0 h0) rfl b3 dX7_climb_75 ?_
          obtain ⟨z6, q7, hf⟩ := bsp hf
          refine kc_V (ci := 3) (i := i2) (As := [.int (gA w 38 i0 v3.toNatClampNeg), .int (gA w 39 i0 v3.toNatClampNeg)]) (rest := []) hok.2.2.1 C hP hS hl.1 (hok.2.1 3 i2 h2) rfl rfl cw_X3_unite ml_X7_97 (c_X3_unite l D ca ad PL Z A hok N w i2 h2 (gA w 38 i0 v3.toNatClampNeg) (gA w 39 i0 v3.toNatClampNeg) z6 q7) rfl ⟨rfl, rfl⟩ ⟨Nat.le_of_ble_eq_true rfl, Nat.le_of_ble_eq_true rfl⟩ ⟨Nat.zero_le _, Nat.zero_le _⟩ (Nat.le_of_ble_eq_true rfl) rfl dX7_climb_76 (fun H locs hP hS => ?_)
          refine lv_iinc (v := (v3 + (1 : Int32))) (lv' := [(3, .int (v3 + (1 : Int32))), (0, .ref (ad 7 i0)), (2, .ref (ad 3 i2))]) hx hb dX7_climb_79 hl (k := 2) rfl rfl (by decide) rfl (fun ls hl => ?_)
          refine lv_goto (tgt := 30) hx hb dX7_climb_82 (by decide) ?_
          exact ih z6 (v3 + (1 : Int32)) hf _ _ ls hP hS (lv_sub hl [1, 2, 0] rfl)
  have P_f_X7_climb_28 : ∀ (w : Mem), f_X7_climb_28 N w i0 i1 i2   = some w' → WP p l e (rmk 2) s m [.ref (ad 7 i0), .ref (ad 3 i1), .ref (ad 3 i2)].toArray below meth c D ca ad PL A (MQ below (qcR D ca ad PL Z A w' none) [.ref (ad 7 i0), .ref (ad 3 i1), .ref (ad 3 i2)].toArray s 0 0 A) 4 28 [] [(0, .ref (ad 7 i0)), (2, .ref (ad 3 i2))] w := by
    intro w hf _ _ ls hP hS hl
    unfold f_X7_climb_28 at hf
    refine lv_iconst (v := (0 : Int32)) hx hb dX7_climb_28 (by decide) ?_
    refine lv_istore_n (lv' := [(3, .int (0 : Int32)), (0, .ref (ad 7 i0)), (2, .ref (ad 3 i2))]) hx hb dX7_climb_29 rfl hl (by decide) rfl (fun ls hl => ?_)
    exact L_lp_X7_climb_30 _ (fun w_2 hf H locs ls hP hS hl => P_f_X7_climb_85 w_2 hf _ _ ls hP hS (lv_sub hl [] rfl)) N w (0 : Int32) hf _ _ ls hP hS (lv_sub hl [1, 2, 0] rfl)
  have L_lp_X7_climb_2 : ∀ (k : Mem → Option (Mem)) (hk : ∀ (w : Mem), k w = some w' → WP p l e (rmk 2) s m [.ref (ad 7 i0), .ref (ad 3 i1), .ref (ad 3 i2)].toArray below meth c D ca ad PL A (MQ below (qcR D ca ad PL Z A w' none) [.ref (ad 7 i0), .ref (ad 3 i1), .ref (ad 3 i2)].toArray s 0 0 A) 4 28 [] [(0, .ref (ad 7 i0)), (2, .ref (ad 3 i2))] w) (n : Nat) (w : Mem) (v3 : Int32), lp_X7_climb_2 k N  i0 i1 i2  n w v3 = some w' → WP p l e (rmk 2) s m [.ref (ad 7 i0), .ref (ad 3 i1), .ref (ad 3 i2)].toArray below meth c D ca ad PL A (MQ below (qcR D ca ad PL Z A w' none) [.ref (ad 7 i0), .ref (ad 3 i1), .ref (ad 3 i2)].toArray s 0 0 A) 4 2 [] [(0, .ref (ad 7 i0)), (1, .ref (ad 3 i1)), (2, .ref (ad 3 i2)), (3, .int v3)] w := by
    intro k hk n
    induction n with
    | zero => intro w v3 hf; rw [lp_X7_climb_2] at hf; cases hf
    | succ n ih =>
      intro w v3 hf _ _ ls hP hS hl
      rw [lp_X7_climb_2] at hf
      refine lv_iload_n hx hb dX7_climb_2 rfl (lv_at hl 3 rfl) ?_
      refine lv_aload_n hx hb dX7_climb_3 rfl (lv_at hl 0 rfl) ?_
      refine gt_7_10 (i := i0) C hP (hok.2.1 7 i0 h0) lk_X7_43 dX7_climb_4 ?_
      refine lv_icmp_ge (tgt := 28) hx hb dX7_climb_7 (by decide) (fun c13 => ?_) (fun c13 => ?_)
      · have hf := ifp hf c13
        exact hk w hf _ _ ls hP hS (lv_sub hl [0, 2] rfl)
      · have hf := ifn hf c13
        refine lv_aload_n hx hb dX7_climb_10 rfl (lv_at hl 0 rfl) ?_
        refine gt_7_6 (i := i0) C hP (hok.2.1 7 i0 h0) lk_X7_30 dX7_climb_11 ?_
        refine lv_iload_n hx hb dX7_climb_14 rfl (lv_at hl 3 rfl) ?_
        refine lv_aload_n hx hb dX7_climb_15 rfl (lv_at hl 0 rfl) ?_
        refine lv_iload_n hx hb dX7_climb_16 rfl (lv_at hl 3 rfl) ?_
        refine lv_aload_n hx hb dX7_climb_17 rfl (lv_at hl 1 rfl) ?_
        obtain ⟨z10, q11, hf⟩ := bsp hf
        refine kc_V (ci := 7) (i := i0) (As := [.int v3, .ref (ad 3 i1)]) (rest := [.int v3, .ref (ad 37 i0)]) hok.2.2.1 C hP hS hl.1 (hok.2.1 7 i0 h0) rfl rfl cw_X7_madeOf ml_X7_94 (c_X7_madeOf l D ca ad PL Z A hok N w i0 h0 v3 i1 h1 z10 q11) rfl ⟨rfl, rfl⟩ ⟨Nat.le_of_ble_eq_true rfl, Nat.le_of_ble_eq_true rfl⟩ ⟨Nat.zero_le _, Nat.zero_le _⟩ (Nat.le_of_ble_eq_true rfl) rfl dX7_climb_18 (fun H locs hP hS => ?_)
        obtain ⟨b12, hf⟩ := gsp hf
        refine ra_ist (k := 37) (i := i0) (n := 24) C hok.1 hP hS (hok.2.1 37 i0 h0) (fun _ => rfl) b12 dX7_climb_21 (fun H locs hP hS => ?_)
        refine lv_iinc (v := (v3 + (1 : Int32))) (lv' := [(3, .int (v3 + (1 : Int32))), (0, .ref (ad 7 i0)), (1, .ref (ad 3 i1)), (2, .ref (ad 3 i2))]) hx hb dX7_climb_22 hl (k := 3) rfl rfl (by decide) rfl (fun ls hl => ?_)
        refine lv_goto (tgt := 2) hx hb dX7_climb_25 (by decide) ?_
        exact ih (sA w 37 i0 v3.toNatClampNeg z10) (v3 + (1 : Int32)) hf _ _ ls hP hS (lv_sub hl [1, 2, 3, 0] rfl)
  unfold f_X7_climb at hf
  -- walk
  refine lv_iconst (v := (0 : Int32)) hx hb dX7_climb_0 (by decide) ?_
  refine lv_istore_n (lv' := [(3, .int (0 : Int32)), (0, .ref (ad 7 i0)), (1, .ref (ad 3 i1)), (2, .ref (ad 3 i2))]) hx hb dX7_climb_1 rfl hl (by decide) rfl (fun ls hl => ?_)
  exact L_lp_X7_climb_2 _ (fun w_1 hf H locs ls hP hS hl => P_f_X7_climb_28 w_1 hf _ _ ls hP hS (lv_sub hl [0, 1] rfl)) N w (0 : Int32) hf _ _ ls hP hS (lv_sub hl [1, 2, 3, 0] rfl)
def f_X7_close_47 (N : Nat) (w : Mem) (i0 : Nat) (i1 : Nat) : Option (Mem) :=
  some w
def lp_X7_close_4 (k : Mem → Option (Mem)) (N : Nat) (i0 : Nat) (i1 : Nat) : Nat → Mem → Int32 → Int32 → Option (Mem)
  | 0, _, _, _ => none
  | n + 1, w, v2, v3 => (if v2 = (0 : Int32) then
(k w)
else
(if (24 : Int32) < v3 then
(k w)
else
(Option.bind (f_X7_climb N w i0 i1 i1) (fun z2 => (if (gF w 3 2 i1) ≤ (gF z2 3 2 i1) then
(lp_X7_close_4 k N  i0 i1  n z2 (0 : Int32) (v3 + (1 : Int32)))
else
(lp_X7_close_4 k N  i0 i1  n z2 (1 : Int32) (v3 + (1 : Int32))))))))
def f_X7_close (N : Nat) (w : Mem) (i0 : Nat) (i1 : Nat) : Option (Mem) :=
  (lp_X7_close_4 (fun (w_1 : Mem) => (f_X7_close_47 N w_1 i0 i1  )) N  i0 i1  N w (1 : Int32) (0 : Int32))
set_option maxRecDepth 100000 in
set_option maxHeartbeats 4000000 in
theorem c_X7_close (l : Launch) (D : va_G) (ca : Nat → ClassId) (ad : Nat → Nat → Nat) (PL : List (Nat × Nat)) (Z : State → Prop) (A : Nat → Prop) (hok : okc bX Z A ad PL) (N : Nat) (w : Mem) (i0 : Nat) (h0 : i0 < 2) (i1 : Nat) (h1 : i1 < 17) (w' : Mem) (hf : f_X7_close N w i0 i1 = some w') : CT l yX7_close (wsy yX7_close cX7_close 5 none) (rmk 3) D ca ad PL Z A [.ref (ad 7 i0), .ref (ad 3 i1)] w w' none := by
  refine Met.ofW (cc := cX7_close) (maxL := 5) (ret := none) (by decide +kernel) rfl ?_
  intro p e s m args below meth c s₁ B hml hv
  obtain ⟨rfl, hP, hK, hZ⟩ := hv
  have hx := B.exec
  have hb := B.bytes
  have hr := B.returns
  have hlocks := B.notSynchronized
  have hts : ∀ w ∈ ALL, w.before _ s = true := fun w hw => atoms_spec (ws := wsy yX7_close cX7_close 5 none) B.pre w (List.mem_cons_of_mem _ hw)
  have hown : s.vm.findClass RX7 = some m.cls := findClass_of_methodNamed B.named
  have C : CX p s m _ c cX7_close RX7 5 D ca Z := ⟨hx, hb, hml, hown, hts, hK, hZ⟩
  have hS : va_S A s.heap s.heap [] := va_S.rf
  have hl := lv_entry ([.ref (ad 7 i0), .ref (ad 3 i1)]) (n := 5) (Nat.le_of_ble_eq_true rfl)
  rw [lg_entry_eq]
  generalize (lg_sl ([.ref (ad 7 i0), .ref (ad 3 i1)]) ++ List.replicate (5 - (lg_sl ([.ref (ad 7 i0), .ref (ad 3 i1)])).length) Slot.unset).toArray = ls at hl ⊢
  have hl : lv_has ls 5 [(0, .ref (ad 7 i0)), (1, .ref (ad 3 i1))] := hl
  show W p l e (rmk 3) s m _ below meth c s.heap [] 0 0 _ _
  have P_f_X7_close_47 : ∀ (w : Mem), f_X7_close_47 N w i0 i1   = some w' → WP p l e (rmk 3) s m [.ref (ad 7 i0), .ref (ad 3 i1)].toArray below meth c D ca ad PL A (MQ below (qcR D ca ad PL Z A w' none) [.ref (ad 7 i0), .ref (ad 3 i1)].toArray s 0 0 A) 5 47 [] [] w := by
    intro w hf _ _ ls hP hS hl
    unfold f_X7_close_47 at hf
    exact kr_v hok.2.2.1 C hlocks hr hP hS (Option.some.inj hf) dX7_close_47
  have L_lp_X7_close_4 : ∀ (k : Mem → Option (Mem)) (hk : ∀ (w : Mem), k w = some w' → WP p l e (rmk 3) s m [.ref (ad 7 i0), .ref (ad 3 i1)].toArray below meth c D ca ad PL A (MQ below (qcR D ca ad PL Z A w' none) [.ref (ad 7 i0), .ref (ad 3 i1)].toArray s 0 0 A) 5 47 [] [] w) (n : Nat) (w : Mem) (v2 : Int32) (v3 : Int32), lp_X7_close_4 k N  i0 i1  n w v2 v3 = some w' → WP p l e (rmk 3) s m [.ref (ad 7 i0), .ref (ad 3 i1)].toArray below meth c D ca ad PL A (MQ below (qcR D ca ad PL Z A w' none) [.ref (ad 7 i0), .ref (ad 3 i1)].toArray s 0 0 A) 5 4 [] [(0, .ref (ad 7 i0)), (1, .ref (ad 3 i1)), (2, .int v2), (3, .int v3)] w := by
    intro k hk n
    induction n with
    | zero => intro w v2 v3 hf; rw [lp_X7_close_4] at hf; cases hf
    | succ n ih =>
      intro w v2 v3 hf _ _ ls hP hS hl
      rw [lp_X7_close_4] at hf
      refine lv_iload_n hx hb dX7_close_4 rfl (lv_at hl 2 rfl) ?_
      refine lv_if_eq (tgt := 47) hx hb dX7_close_5 (by decide) (fun c6 => ?_) (fun c6 => ?_)
      · have hf := ifp hf c6
        exact hk w hf _ _ ls hP hS (lv_sub hl [] rfl)
      · have hf := ifn hf c6
        refine lv_iload_n hx hb dX7_close_8 rfl (lv_at hl 3 rfl) ?_
        refine lv_bipush (v := (24 : Int32)) hx hb dX7_close_9 (by decide) ?_
        refine lv_icmp_gt (tgt := 47) hx hb dX7_close_11 (by decide) (fun c5 => ?_) (fun c5 => ?_)
        · have hf := ifp hf c5
          exact hk w hf _ _ ls hP hS (lv_sub hl [] rfl)
        · have hf := ifn hf c5
          refine lv_aload_n hx hb dX7_close_14 rfl (lv_at hl 1 rfl) ?_
          refine gt_3_2 (i := i1) C hP (hok.2.1 3 i1 h1) lk_X7_87 dX7_close_15 ?_
          refine lv_istore (lv' := [(4, .int (gF w 3 2 i1)), (0, .ref (ad 7 i0)), (1, .ref (ad 3 i1)), (2, .int v2), (3, .int v3)]) hx hb dX7_close_18 hl (by decide) rfl (fun ls hl => ?_)
          refine lv_aload_n hx hb dX7_close_20 rfl (lv_at hl 1 rfl) ?_
          refine lv_aload_n hx hb dX7_close_21 rfl (lv_at hl 2 rfl) ?_
          refine lv_aload_n hx hb dX7_close_22 rfl (lv_at hl 2 rfl) ?_
          obtain ⟨z2, q3, hf⟩ := bsp hf
          refine kc_V (ci := 7) (i := i0) (As := [.ref (ad 3 i1), .ref (ad 3 i1)]) (rest := []) hok.2.2.1 C hP hS hl.1 (hok.2.1 7 i0 h0) rfl rfl cw_X7_climb ml_X7_90 (c_X7_climb l D ca ad PL Z A hok N w i0 h0 i1 h1 i1 h1 z2 q3) rfl ⟨rfl, rfl⟩ ⟨Nat.le_of_ble_eq_true rfl, Nat.le_of_ble_eq_true rfl⟩ ⟨Nat.zero_le _, Nat.zero_le _⟩ (Nat.le_of_ble_eq_true rfl) rfl dX7_close_23 (fun H locs hP hS => ?_)
          refine lv_aload_n hx hb dX7_close_26 rfl (lv_at hl 2 rfl) ?_
          refine gt_3_2 (i := i1) C hP (hok.2.1 3 i1 h1) lk_X7_87 dX7_close_27 ?_
          refine lv_iload hx hb dX7_close_30 (lv_at hl 0 rfl) ?_
          refine lv_icmp_ge (tgt := 39) hx hb dX7_close_32 (by decide) (fun c4 => ?_) (fun c4 => ?_)
          · have hf := ifp hf c4
            refine lv_iconst (v := (0 : Int32)) hx hb dX7_close_39 (by decide) ?_
            refine lv_istore_n (lv' := [(2, .int (0 : Int32)), (4, .int (gF w 3 2 i1)), (0, .ref (ad 7 i0)), (1, .ref (ad 3 i1)), (3, .int v3)]) hx hb dX7_close_40 rfl hl (by decide) rfl (fun ls hl => ?_)
            refine lv_iinc (v := (v3 + (1 : Int32))) (lv' := [(3, .int (v3 + (1 : Int32))), (2, .int (0 : Int32)), (4, .int (gF w 3 2 i1)), (0, .ref (ad 7 i0)), (1, .ref (ad 3 i1))]) hx hb dX7_close_41 hl (k := 4) rfl rfl (by decide) rfl (fun ls hl => ?_)
            refine lv_goto (tgt := 4) hx hb dX7_close_44 (by decide) ?_
            exact ih z2 (0 : Int32) (v3 + (1 : Int32)) hf _ _ ls hP hS (lv_sub hl [3, 4, 1, 0] rfl)
          · have hf := ifn hf c4
            refine lv_iconst (v := (1 : Int32)) hx hb dX7_close_35 (by decide) ?_
            refine lv_goto (tgt := 40) hx hb dX7_close_36 (by decide) ?_
            refine lv_istore_n (lv' := [(2, .int (1 : Int32)), (4, .int (gF w 3 2 i1)), (0, .ref (ad 7 i0)), (1, .ref (ad 3 i1)), (3, .int v3)]) hx hb dX7_close_40 rfl hl (by decide) rfl (fun ls hl => ?_)
            refine lv_iinc (v := (v3 + (1 : Int32))) (lv' := [(3, .int (v3 + (1 : Int32))), (2, .int (1 : Int32)), (4, .int (gF w 3 2 i1)), (0, .ref (ad 7 i0)), (1, .ref (ad 3 i1))]) hx hb dX7_close_41 hl (k := 4) rfl rfl (by decide) rfl (fun ls hl => ?_)
            refine lv_goto (tgt := 4) hx hb dX7_close_44 (by decide) ?_
            exact ih z2 (1 : Int32) (v3 + (1 : Int32)) hf _ _ ls hP hS (lv_sub hl [3, 4, 1, 0] rfl)
  unfold f_X7_close at hf
  -- walk
  refine lv_iconst (v := (1 : Int32)) hx hb dX7_close_0 (by decide) ?_
  refine lv_istore_n (lv' := [(2, .int (1 : Int32)), (0, .ref (ad 7 i0)), (1, .ref (ad 3 i1))]) hx hb dX7_close_1 rfl hl (by decide) rfl (fun ls hl => ?_)
  refine lv_iconst (v := (0 : Int32)) hx hb dX7_close_2 (by decide) ?_
  refine lv_istore_n (lv' := [(3, .int (0 : Int32)), (2, .int (1 : Int32)), (0, .ref (ad 7 i0)), (1, .ref (ad 3 i1))]) hx hb dX7_close_3 rfl hl (by decide) rfl (fun ls hl => ?_)
  exact L_lp_X7_close_4 _ (fun w_1 hf H locs ls hP hS hl => P_f_X7_close_47 w_1 hf _ _ ls hP hS (lv_sub hl [] rfl)) N w (1 : Int32) (0 : Int32) hf _ _ ls hP hS (lv_sub hl [2, 3, 1, 0] rfl)
def f_X7_functionNamed_28 (N : Nat) (w : Mem) (i0 : Nat) : Option (Int32) :=
  some (-1 : Int32)
def lp_X7_functionNamed_2 (k : Option (Int32)) (N : Nat) (w : Mem) (i0 : Nat) (v1 : Int32) : Nat → Int32 → Option (Int32)
  | 0, _ => none
  | n + 1, v2 => (if (gF w 7 9 i0) ≤ v2 then
(k )
else
(if inb v2 8 = true then (if (gA w 32 i0 v2.toNatClampNeg) = v1 then
some v2
else
(lp_X7_functionNamed_2 k N w i0 v1 n (v2 + (1 : Int32)))) else none))
def f_X7_functionNamed (N : Nat) (w : Mem) (i0 : Nat) (x1 : Int32) : Option (Int32) :=
  (lp_X7_functionNamed_2 (f_X7_functionNamed_28 N w i0  ) N w i0 x1 N (0 : Int32))
set_option maxRecDepth 100000 in
set_option maxHeartbeats 4000000 in
theorem c_X7_functionNamed (l : Launch) (D : va_G) (ca : Nat → ClassId) (ad : Nat → Nat → Nat) (PL : List (Nat × Nat)) (Z : State → Prop) (A : Nat → Prop) (hok : okc bX Z A ad PL) (N : Nat) (w : Mem) (i0 : Nat) (h0 : i0 < 2) (x1 : Int32) (r : Int32) (hf : f_X7_functionNamed N w i0 x1 = some r) : CT l yX7_functionNamed (wsy yX7_functionNamed cX7_functionNamed 3 (some .int)) (rmk 0) D ca ad PL Z A [.ref (ad 7 i0), .int x1] w w (some (.int r)) := by
  refine Met.ofW (cc := cX7_functionNamed) (maxL := 3) (ret := (some .int)) (by decide +kernel) rfl ?_
  intro p e s m args below meth c s₁ B hml hv
  obtain ⟨rfl, hP, hK, hZ⟩ := hv
  have hx := B.exec
  have hb := B.bytes
  have hr := B.returns
  have hlocks := B.notSynchronized
  have hts : ∀ w ∈ ALL, w.before _ s = true := fun w hw => atoms_spec (ws := wsy yX7_functionNamed cX7_functionNamed 3 (some .int)) B.pre w (List.mem_cons_of_mem _ hw)
  have hown : s.vm.findClass RX7 = some m.cls := findClass_of_methodNamed B.named
  have C : CX p s m _ c cX7_functionNamed RX7 3 D ca Z := ⟨hx, hb, hml, hown, hts, hK, hZ⟩
  have hS : va_S A s.heap s.heap [] := va_S.rf
  have hl := lv_entry ([.ref (ad 7 i0), .int x1]) (n := 3) (Nat.le_of_ble_eq_true rfl)
  rw [lg_entry_eq]
  generalize (lg_sl ([.ref (ad 7 i0), .int x1]) ++ List.replicate (3 - (lg_sl ([.ref (ad 7 i0), .int x1])).length) Slot.unset).toArray = ls at hl ⊢
  have hl : lv_has ls 3 [(0, .ref (ad 7 i0)), (1, .int x1)] := hl
  show W p l e (rmk 0) s m _ below meth c s.heap [] 0 0 _ _
  have P_f_X7_functionNamed_28 : f_X7_functionNamed_28 N w i0   = some r → WP p l e (rmk 0) s m [.ref (ad 7 i0), .int x1].toArray below meth c D ca ad PL A (MQ below (qcR D ca ad PL Z A w (some (.int r))) [.ref (ad 7 i0), .int x1].toArray s 0 0 A) 3 28 [] [] w := by
    intro  hf _ _ ls hP hS hl
    unfold f_X7_functionNamed_28 at hf
    refine lv_iconst (v := (-1 : Int32)) hx hb dX7_functionNamed_28 (by decide) ?_
    exact kr_i hok.2.2.1 C hlocks hr rfl hP hS rfl (Option.some.inj hf) dX7_functionNamed_29
  have L_lp_X7_functionNamed_2 : ∀ (v1 : Int32) (k : Option (Int32)) (hk : k = some r → WP p l e (rmk 0) s m [.ref (ad 7 i0), .int x1].toArray below meth c D ca ad PL A (MQ below (qcR D ca ad PL Z A w (some (.int r))) [.ref (ad 7 i0), .int x1].toArray s 0 0 A) 3 28 [] [] w) (n : Nat) (v2 : Int32), lp_X7_functionNamed_2 k N w i0 v1 n v2 = some r → WP p l e (rmk 0) s m [.ref (ad 7 i0), .int x1].toArray below meth c D ca ad PL A (MQ below (qcR D ca ad PL Z A w (some (.int r))) [.ref (ad 7 i0), .int x1].toArray s 0 0 A) 3 2 [] [(0, .ref (ad 7 i0)), (1, .int v1), (2, .int v2)] w := by
    intro v1 k hk n
    induction n with
    | zero => intro v2 hf; rw [lp_X7_functionNamed_2] at hf; cases hf
    | succ n ih =>
      intro v2 hf _ _ ls hP hS hl
      rw [lp_X7_functionNamed_2] at hf
      refine lv_iload_n hx hb dX7_functionNamed_2 rfl (lv_at hl 2 rfl) ?_
      refine lv_aload_n hx hb dX7_functionNamed_3 rfl (lv_at hl 0 rfl) ?_
      refine gt_7_9 (i := i0) C hP (hok.2.1 7 i0 h0) lk_X7_39 dX7_functionNamed_4 ?_
      refine lv_icmp_ge (tgt := 28) hx hb dX7_functionNamed_7 (by decide) (fun c4 => ?_) (fun c4 => ?_)
      · have hf := ifp hf c4
        exact hk  hf _ _ ls hP hS (lv_sub hl [] rfl)
      · have hf := ifn hf c4
        refine lv_aload_n hx hb dX7_functionNamed_10 rfl (lv_at hl 0 rfl) ?_
        refine gt_7_1 (i := i0) C hP (hok.2.1 7 i0 h0) lk_X7_15 dX7_functionNamed_11 ?_
        refine lv_iload_n hx hb dX7_functionNamed_14 rfl (lv_at hl 2 rfl) ?_
        obtain ⟨b2, hf⟩ := gsp hf
        refine ra_ild (k := 32) (i := i0) (n := 8) (f := (gA w 32 i0)) C hP (hok.2.1 32 i0 h0) rfl b2 dX7_functionNamed_15 ?_
        refine lv_iload_n hx hb dX7_functionNamed_16 rfl (lv_at hl 1 rfl) ?_
        refine lv_icmp_ne (tgt := 22) hx hb dX7_functionNamed_17 (by decide) (fun c3 => ?_) (fun c3 => ?_)
        · have hf := ifn hf c3
          refine lv_iinc (v := (v2 + (1 : Int32))) (lv' := [(2, .int (v2 + (1 : Int32))), (0, .ref (ad 7 i0)), (1, .int v1)]) hx hb dX7_functionNamed_22 hl (k := 2) rfl rfl (by decide) rfl (fun ls hl => ?_)
          refine lv_goto (tgt := 2) hx hb dX7_functionNamed_25 (by decide) ?_
          exact ih (v2 + (1 : Int32)) hf _ _ ls hP hS (lv_sub hl [1, 2, 0] rfl)
        · have hf := ifp hf c3
          refine lv_iload_n hx hb dX7_functionNamed_20 rfl (lv_at hl 2 rfl) ?_
          exact kr_i hok.2.2.1 C hlocks hr rfl hP hS rfl (Option.some.inj hf) dX7_functionNamed_21
  unfold f_X7_functionNamed at hf
  -- walk
  refine lv_iconst (v := (0 : Int32)) hx hb dX7_functionNamed_0 (by decide) ?_
  refine lv_istore_n (lv' := [(2, .int (0 : Int32)), (0, .ref (ad 7 i0)), (1, .int x1)]) hx hb dX7_functionNamed_1 rfl hl (by decide) rfl (fun ls hl => ?_)
  exact L_lp_X7_functionNamed_2 x1 _ (fun hf H locs ls hP hS hl => P_f_X7_functionNamed_28 hf _ _ ls hP hS (lv_sub hl [] rfl)) N (0 : Int32) hf _ _ ls hP hS (lv_sub hl [1, 2, 0] rfl)
def f_X7_termNamed_32 (N : Nat) (w : Mem) (i0 : Nat) : Option (Int32) :=
  some (-1 : Int32)
def lp_X7_termNamed_2 (k : Option (Int32)) (N : Nat) (w : Mem) (i0 : Nat) (v1 : Int32) : Nat → Int32 → Option (Int32)
  | 0, _ => none
  | n + 1, v2 => (if (gF w 7 10 i0) ≤ v2 then
(k )
else
(if v1 ≤ (0 : Int32) then
(k )
else
(if inb v2 24 = true then (if (gA w 34 i0 v2.toNatClampNeg) = v1 then
some v2
else
(lp_X7_termNamed_2 k N w i0 v1 n (v2 + (1 : Int32)))) else none)))
def f_X7_termNamed (N : Nat) (w : Mem) (i0 : Nat) (x1 : Int32) : Option (Int32) :=
  (lp_X7_termNamed_2 (f_X7_termNamed_32 N w i0  ) N w i0 x1 N (0 : Int32))
set_option maxRecDepth 100000 in
set_option maxHeartbeats 4000000 in
theorem c_X7_termNamed (l : Launch) (D : va_G) (ca : Nat → ClassId) (ad : Nat → Nat → Nat) (PL : List (Nat × Nat)) (Z : State → Prop) (A : Nat → Prop) (hok : okc bX Z A ad PL) (N : Nat) (w : Mem) (i0 : Nat) (h0 : i0 < 2) (x1 : Int32) (r : Int32) (hf : f_X7_termNamed N w i0 x1 = some r) : CT l yX7_termNamed (wsy yX7_termNamed cX7_termNamed 3 (some .int)) (rmk 0) D ca ad PL Z A [.ref (ad 7 i0), .int x1] w w (some (.int r)) := by
  refine Met.ofW (cc := cX7_termNamed) (maxL := 3) (ret := (some .int)) (by decide +kernel) rfl ?_
  intro p e s m args below meth c s₁ B hml hv
  obtain ⟨rfl, hP, hK, hZ⟩ := hv
  have hx := B.exec
  have hb := B.bytes
  have hr := B.returns
  have hlocks := B.notSynchronized
  have hts : ∀ w ∈ ALL, w.before _ s = true := fun w hw => atoms_spec (ws := wsy yX7_termNamed cX7_termNamed 3 (some .int)) B.pre w (List.mem_cons_of_mem _ hw)
  have hown : s.vm.findClass RX7 = some m.cls := findClass_of_methodNamed B.named
  have C : CX p s m _ c cX7_termNamed RX7 3 D ca Z := ⟨hx, hb, hml, hown, hts, hK, hZ⟩
  have hS : va_S A s.heap s.heap [] := va_S.rf
  have hl := lv_entry ([.ref (ad 7 i0), .int x1]) (n := 3) (Nat.le_of_ble_eq_true rfl)
  rw [lg_entry_eq]
  generalize (lg_sl ([.ref (ad 7 i0), .int x1]) ++ List.replicate (3 - (lg_sl ([.ref (ad 7 i0), .int x1])).length) Slot.unset).toArray = ls at hl ⊢
  have hl : lv_has ls 3 [(0, .ref (ad 7 i0)), (1, .int x1)] := hl
  show W p l e (rmk 0) s m _ below meth c s.heap [] 0 0 _ _
  have P_f_X7_termNamed_32 : f_X7_termNamed_32 N w i0   = some r → WP p l e (rmk 0) s m [.ref (ad 7 i0), .int x1].toArray below meth c D ca ad PL A (MQ below (qcR D ca ad PL Z A w (some (.int r))) [.ref (ad 7 i0), .int x1].toArray s 0 0 A) 3 32 [] [] w := by
    intro  hf _ _ ls hP hS hl
    unfold f_X7_termNamed_32 at hf
    refine lv_iconst (v := (-1 : Int32)) hx hb dX7_termNamed_32 (by decide) ?_
    exact kr_i hok.2.2.1 C hlocks hr rfl hP hS rfl (Option.some.inj hf) dX7_termNamed_33
  have L_lp_X7_termNamed_2 : ∀ (v1 : Int32) (k : Option (Int32)) (hk : k = some r → WP p l e (rmk 0) s m [.ref (ad 7 i0), .int x1].toArray below meth c D ca ad PL A (MQ below (qcR D ca ad PL Z A w (some (.int r))) [.ref (ad 7 i0), .int x1].toArray s 0 0 A) 3 32 [] [] w) (n : Nat) (v2 : Int32), lp_X7_termNamed_2 k N w i0 v1 n v2 = some r → WP p l e (rmk 0) s m [.ref (ad 7 i0), .int x1].toArray below meth c D ca ad PL A (MQ below (qcR D ca ad PL Z A w (some (.int r))) [.ref (ad 7 i0), .int x1].toArray s 0 0 A) 3 2 [] [(0, .ref (ad 7 i0)), (1, .int v1), (2, .int v2)] w := by
    intro v1 k hk n
    induction n with
    | zero => intro v2 hf; rw [lp_X7_termNamed_2] at hf; cases hf
    | succ n ih =>
      intro v2 hf _ _ ls hP hS hl
      rw [lp_X7_termNamed_2] at hf
      refine lv_iload_n hx hb dX7_termNamed_2 rfl (lv_at hl 2 rfl) ?_
      refine lv_aload_n hx hb dX7_termNamed_3 rfl (lv_at hl 0 rfl) ?_
      refine gt_7_10 (i := i0) C hP (hok.2.1 7 i0 h0) lk_X7_43 dX7_termNamed_4 ?_
      refine lv_icmp_ge (tgt := 32) hx hb dX7_termNamed_7 (by decide) (fun c5 => ?_) (fun c5 => ?_)
      · have hf := ifp hf c5
        exact hk  hf _ _ ls hP hS (lv_sub hl [] rfl)
      · have hf := ifn hf c5
        refine lv_iload_n hx hb dX7_termNamed_10 rfl (lv_at hl 1 rfl) ?_
        refine lv_if_le (tgt := 32) hx hb dX7_termNamed_11 (by decide) (fun c4 => ?_) (fun c4 => ?_)
        · have hf := ifp hf c4
          exact hk  hf _ _ ls hP hS (lv_sub hl [] rfl)
        · have hf := ifn hf c4
          refine lv_aload_n hx hb dX7_termNamed_14 rfl (lv_at hl 0 rfl) ?_
          refine gt_7_3 (i := i0) C hP (hok.2.1 7 i0 h0) lk_X7_21 dX7_termNamed_15 ?_
          refine lv_iload_n hx hb dX7_termNamed_18 rfl (lv_at hl 2 rfl) ?_
          obtain ⟨b2, hf⟩ := gsp hf
          refine ra_ild (k := 34) (i := i0) (n := 24) (f := (gA w 34 i0)) C hP (hok.2.1 34 i0 h0) rfl b2 dX7_termNamed_19 ?_
          refine lv_iload_n hx hb dX7_termNamed_20 rfl (lv_at hl 1 rfl) ?_
          refine lv_icmp_ne (tgt := 26) hx hb dX7_termNamed_21 (by decide) (fun c3 => ?_) (fun c3 => ?_)
          · have hf := ifn hf c3
            refine lv_iinc (v := (v2 + (1 : Int32))) (lv' := [(2, .int (v2 + (1 : Int32))), (0, .ref (ad 7 i0)), (1, .int v1)]) hx hb dX7_termNamed_26 hl (k := 2) rfl rfl (by decide) rfl (fun ls hl => ?_)
            refine lv_goto (tgt := 2) hx hb dX7_termNamed_29 (by decide) ?_
            exact ih (v2 + (1 : Int32)) hf _ _ ls hP hS (lv_sub hl [1, 2, 0] rfl)
          · have hf := ifp hf c3
            refine lv_iload_n hx hb dX7_termNamed_24 rfl (lv_at hl 2 rfl) ?_
            exact kr_i hok.2.2.1 C hlocks hr rfl hP hS rfl (Option.some.inj hf) dX7_termNamed_25
  unfold f_X7_termNamed at hf
  -- walk
  refine lv_iconst (v := (0 : Int32)) hx hb dX7_termNamed_0 (by decide) ?_
  refine lv_istore_n (lv' := [(2, .int (0 : Int32)), (0, .ref (ad 7 i0)), (1, .int x1)]) hx hb dX7_termNamed_1 rfl hl (by decide) rfl (fun ls hl => ?_)
  exact L_lp_X7_termNamed_2 x1 _ (fun hf H locs ls hP hS hl => P_f_X7_termNamed_32 hf _ _ ls hP hS (lv_sub hl [] rfl)) N (0 : Int32) hf _ _ ls hP hS (lv_sub hl [1, 2, 0] rfl)
def f_X7_addFunction (N : Nat) (w : Mem) (i0 : Nat) (x1 : Int32) (x2 : Int32) : Option (Mem) :=
  (if (8 : Int32) ≤ (gF w 7 9 i0) then
some w
else
(if inb (gF w 7 9 i0) 8 = true then (if inb (gF (sA w 32 i0 (gF w 7 9 i0).toNatClampNeg x1) 7 9 i0) 8 = true then some (sF (sA (sA w 32 i0 (gF w 7 9 i0).toNatClampNeg x1) 31 i0 (gF (sA w 32 i0 (gF w 7 9 i0).toNatClampNeg x1) 7 9 i0).toNatClampNeg x2) 7 9 i0 ((gF (sA (sA w 32 i0 (gF w 7 9 i0).toNatClampNeg x1) 31 i0 (gF (sA w 32 i0 (gF w 7 9 i0).toNatClampNeg x1) 7 9 i0).toNatClampNeg x2) 7 9 i0) + (1 : Int32))) else none) else none))
set_option maxRecDepth 100000 in
set_option maxHeartbeats 4000000 in
theorem c_X7_addFunction (l : Launch) (D : va_G) (ca : Nat → ClassId) (ad : Nat → Nat → Nat) (PL : List (Nat × Nat)) (Z : State → Prop) (A : Nat → Prop) (hok : okc bX Z A ad PL) (N : Nat) (w : Mem) (i0 : Nat) (h0 : i0 < 2) (x1 : Int32) (x2 : Int32) (w' : Mem) (hf : f_X7_addFunction N w i0 x1 x2 = some w') : CT l yX7_addFunction (wsy yX7_addFunction cX7_addFunction 3 none) (rmk 0) D ca ad PL Z A [.ref (ad 7 i0), .int x1, .int x2] w w' none := by
  refine Met.ofW (cc := cX7_addFunction) (maxL := 3) (ret := none) (by decide +kernel) rfl ?_
  intro p e s m args below meth c s₁ B hml hv
  obtain ⟨rfl, hP, hK, hZ⟩ := hv
  have hx := B.exec
  have hb := B.bytes
  have hr := B.returns
  have hlocks := B.notSynchronized
  have hts : ∀ w ∈ ALL, w.before _ s = true := fun w hw => atoms_spec (ws := wsy yX7_addFunction cX7_addFunction 3 none) B.pre w (List.mem_cons_of_mem _ hw)
  have hown : s.vm.findClass RX7 = some m.cls := findClass_of_methodNamed B.named
  have C : CX p s m _ c cX7_addFunction RX7 3 D ca Z := ⟨hx, hb, hml, hown, hts, hK, hZ⟩
  have hS : va_S A s.heap s.heap [] := va_S.rf
  have hl := lv_entry ([.ref (ad 7 i0), .int x1, .int x2]) (n := 3) (Nat.le_of_ble_eq_true rfl)
  rw [lg_entry_eq]
  generalize (lg_sl ([.ref (ad 7 i0), .int x1, .int x2]) ++ List.replicate (3 - (lg_sl ([.ref (ad 7 i0), .int x1, .int x2])).length) Slot.unset).toArray = ls at hl ⊢
  have hl : lv_has ls 3 [(0, .ref (ad 7 i0)), (1, .int x1), (2, .int x2)] := hl
  show W p l e (rmk 0) s m _ below meth c s.heap [] 0 0 _ _
  unfold f_X7_addFunction at hf
  -- walk
  refine lv_aload_n hx hb dX7_addFunction_0 rfl (lv_at hl 0 rfl) ?_
  refine gt_7_9 (i := i0) C hP (hok.2.1 7 i0 h0) lk_X7_39 dX7_addFunction_1 ?_
  refine lv_bipush (v := (8 : Int32)) hx hb dX7_addFunction_4 (by decide) ?_
  refine lv_icmp_ge (tgt := 39) hx hb dX7_addFunction_6 (by decide) (fun c3 => ?_) (fun c3 => ?_)
  · have hf := ifp hf c3
    exact kr_v hok.2.2.1 C hlocks hr hP hS (Option.some.inj hf) dX7_addFunction_39
  · have hf := ifn hf c3
    refine lv_aload_n hx hb dX7_addFunction_9 rfl (lv_at hl 0 rfl) ?_
    refine gt_7_1 (i := i0) C hP (hok.2.1 7 i0 h0) lk_X7_15 dX7_addFunction_10 ?_
    refine lv_aload_n hx hb dX7_addFunction_13 rfl (lv_at hl 0 rfl) ?_
    refine gt_7_9 (i := i0) C hP (hok.2.1 7 i0 h0) lk_X7_39 dX7_addFunction_14 ?_
    refine lv_iload_n hx hb dX7_addFunction_17 rfl (lv_at hl 1 rfl) ?_
    obtain ⟨b1, hf⟩ := gsp hf
    refine ra_ist (k := 32) (i := i0) (n := 8) C hok.1 hP hS (hok.2.1 32 i0 h0) (fun _ => rfl) b1 dX7_addFunction_18 (fun H locs hP hS => ?_)
    refine lv_aload_n hx hb dX7_addFunction_19 rfl (lv_at hl 0 rfl) ?_
    refine gt_7_0 (i := i0) C hP (hok.2.1 7 i0 h0) lk_X7_9 dX7_addFunction_20 ?_
    refine lv_aload_n hx hb dX7_addFunction_23 rfl (lv_at hl 0 rfl) ?_
    refine gt_7_9 (i := i0) C hP (hok.2.1 7 i0 h0) lk_X7_39 dX7_addFunction_24 ?_
    refine lv_iload_n hx hb dX7_addFunction_27 rfl (lv_at hl 2 rfl) ?_
    obtain ⟨b2, hf⟩ := gsp hf
    refine ra_ist (k := 31) (i := i0) (n := 8) C hok.1 hP hS (hok.2.1 31 i0 h0) (fun _ => rfl) b2 dX7_addFunction_28 (fun H locs hP hS => ?_)
    refine lv_aload_n hx hb dX7_addFunction_29 rfl (lv_at hl 0 rfl) ?_
    refine lv_dup hx hb dX7_addFunction_30 rfl ?_
    refine gt_7_9 (i := i0) C hP (hok.2.1 7 i0 h0) lk_X7_39 dX7_addFunction_31 ?_
    refine lv_iconst (v := (1 : Int32)) hx hb dX7_addFunction_34 (by decide) ?_
    refine lv_iadd hx hb dX7_addFunction_35 ?_
    refine pt_7_9 (i := i0) (v := ((gF (sA (sA w 32 i0 (gF w 7 9 i0).toNatClampNeg x1) 31 i0 (gF (sA w 32 i0 (gF w 7 9 i0).toNatClampNeg x1) 7 9 i0).toNatClampNeg x2) 7 9 i0) + (1 : Int32))) C hok.1 hP hS (hok.2.1 7 i0 h0) lk_X7_39 dX7_addFunction_36 (fun H locs hP hS => ?_)
    exact kr_v hok.2.2.1 C hlocks hr hP hS (Option.some.inj hf) dX7_addFunction_39
def f_X7_partLeads_38 (N : Nat) (w : Mem) (i0 : Nat) (i2 : Nat) (v3 : Int32) : Option (Int32) :=
  some v3
def lp_X7_partLeads_5 (k : Int32 → Option (Int32)) (N : Nat) (w : Mem) (i0 : Nat) (i2 : Nat) (v1 : Int32) : Nat → Int32 → Int32 → Option (Int32)
  | 0, _, _ => none
  | n + 1, v3, v4 => (Option.bind (f_X7_partsOf N w i0 v1) (fun z2 => (if z2 ≤ v4 then
(k v3)
else
(Option.bind (f_X7_partAt N w i0 v1 v4) (fun z4 => (if inb z4 24 = true then (lp_X7_partLeads_5 k N w i0 i2 v1 n (v3 ||| ((1 : Int32) <<< ((gA w 25 i2 z4.toNatClampNeg) &&& 31))) (v4 + (1 : Int32))) else none))))))
def f_X7_partLeads (N : Nat) (w : Mem) (i0 : Nat) (x1 : Int32) (i2 : Nat) : Option (Int32) :=
  (lp_X7_partLeads_5 (fun (u3_1 : Int32) => (f_X7_partLeads_38 N w i0 i2 u3_1 )) N w i0 i2 x1 N (0 : Int32) (0 : Int32))
set_option maxRecDepth 100000 in
set_option maxHeartbeats 4000000 in
theorem c_X7_partLeads (l : Launch) (D : va_G) (ca : Nat → ClassId) (ad : Nat → Nat → Nat) (PL : List (Nat × Nat)) (Z : State → Prop) (A : Nat → Prop) (hok : okc bX Z A ad PL) (N : Nat) (w : Mem) (i0 : Nat) (h0 : i0 < 2) (x1 : Int32) (i2 : Nat) (h2 : i2 < 17) (r : Int32) (hf : f_X7_partLeads N w i0 x1 i2 = some r) : CT l yX7_partLeads (wsy yX7_partLeads cX7_partLeads 5 (some .int)) (rmk 1) D ca ad PL Z A [.ref (ad 7 i0), .int x1, .ref (ad 3 i2)] w w (some (.int r)) := by
  refine Met.ofW (cc := cX7_partLeads) (maxL := 5) (ret := (some .int)) (by decide +kernel) rfl ?_
  intro p e s m args below meth c s₁ B hml hv
  obtain ⟨rfl, hP, hK, hZ⟩ := hv
  have hx := B.exec
  have hb := B.bytes
  have hr := B.returns
  have hlocks := B.notSynchronized
  have hts : ∀ w ∈ ALL, w.before _ s = true := fun w hw => atoms_spec (ws := wsy yX7_partLeads cX7_partLeads 5 (some .int)) B.pre w (List.mem_cons_of_mem _ hw)
  have hown : s.vm.findClass RX7 = some m.cls := findClass_of_methodNamed B.named
  have C : CX p s m _ c cX7_partLeads RX7 5 D ca Z := ⟨hx, hb, hml, hown, hts, hK, hZ⟩
  have hS : va_S A s.heap s.heap [] := va_S.rf
  have hl := lv_entry ([.ref (ad 7 i0), .int x1, .ref (ad 3 i2)]) (n := 5) (Nat.le_of_ble_eq_true rfl)
  rw [lg_entry_eq]
  generalize (lg_sl ([.ref (ad 7 i0), .int x1, .ref (ad 3 i2)]) ++ List.replicate (5 - (lg_sl ([.ref (ad 7 i0), .int x1, .ref (ad 3 i2)])).length) Slot.unset).toArray = ls at hl ⊢
  have hl : lv_has ls 5 [(0, .ref (ad 7 i0)), (1, .int x1), (2, .ref (ad 3 i2))] := hl
  show W p l e (rmk 1) s m _ below meth c s.heap [] 0 0 _ _
  have P_f_X7_partLeads_38 : ∀ (v3 : Int32), f_X7_partLeads_38 N w i0 i2 v3  = some r → WP p l e (rmk 1) s m [.ref (ad 7 i0), .int x1, .ref (ad 3 i2)].toArray below meth c D ca ad PL A (MQ below (qcR D ca ad PL Z A w (some (.int r))) [.ref (ad 7 i0), .int x1, .ref (ad 3 i2)].toArray s 0 0 A) 5 38 [] [(3, .int v3)] w := by
    intro v3 hf _ _ ls hP hS hl
    unfold f_X7_partLeads_38 at hf
    refine lv_iload_n hx hb dX7_partLeads_38 rfl (lv_at hl 0 rfl) ?_
    exact kr_i hok.2.2.1 C hlocks hr rfl hP hS rfl (Option.some.inj hf) dX7_partLeads_39
  have L_lp_X7_partLeads_5 : ∀ (v1 : Int32) (k : Int32 → Option (Int32)) (hk : ∀ (v3 : Int32), k v3 = some r → WP p l e (rmk 1) s m [.ref (ad 7 i0), .int x1, .ref (ad 3 i2)].toArray below meth c D ca ad PL A (MQ below (qcR D ca ad PL Z A w (some (.int r))) [.ref (ad 7 i0), .int x1, .ref (ad 3 i2)].toArray s 0 0 A) 5 38 [] [(3, .int v3)] w) (n : Nat) (v3 : Int32) (v4 : Int32), lp_X7_partLeads_5 k N w i0 i2 v1 n v3 v4 = some r → WP p l e (rmk 1) s m [.ref (ad 7 i0), .int x1, .ref (ad 3 i2)].toArray below meth c D ca ad PL A (MQ below (qcR D ca ad PL Z A w (some (.int r))) [.ref (ad 7 i0), .int x1, .ref (ad 3 i2)].toArray s 0 0 A) 5 5 [] [(0, .ref (ad 7 i0)), (1, .int v1), (2, .ref (ad 3 i2)), (3, .int v3), (4, .int v4)] w := by
    intro v1 k hk n
    induction n with
    | zero => intro v3 v4 hf; rw [lp_X7_partLeads_5] at hf; cases hf
    | succ n ih =>
      intro v3 v4 hf _ _ ls hP hS hl
      rw [lp_X7_partLeads_5] at hf
      refine lv_iload hx hb dX7_partLeads_5 (lv_at hl 4 rfl) ?_
      refine lv_aload_n hx hb dX7_partLeads_7 rfl (lv_at hl 0 rfl) ?_
      refine lv_iload_n hx hb dX7_partLeads_8 rfl (lv_at hl 1 rfl) ?_
      obtain ⟨z2, q3, hf⟩ := bsp hf
      refine kc_V (ci := 7) (i := i0) (As := [.int v1]) (rest := [.int v4]) hok.2.2.1 C hP hS hl.1 (hok.2.1 7 i0 h0) rfl rfl cw_X7_partsOf ml_X7_73 (c_X7_partsOf l D ca ad PL Z A hok N w i0 h0 v1 z2 q3) rfl ⟨rfl, rfl⟩ ⟨Nat.le_of_ble_eq_true rfl, Nat.le_of_ble_eq_true rfl⟩ ⟨Nat.zero_le _, Nat.zero_le _⟩ (Nat.le_of_ble_eq_true rfl) rfl dX7_partLeads_9 (fun H locs hP hS => ?_)
      refine lv_icmp_ge (tgt := 38) hx hb dX7_partLeads_12 (by decide) (fun c7 => ?_) (fun c7 => ?_)
      · have hf := ifp hf c7
        exact hk v3 hf _ _ ls hP hS (lv_sub hl [3] rfl)
      · have hf := ifn hf c7
        refine lv_iload_n hx hb dX7_partLeads_15 rfl (lv_at hl 3 rfl) ?_
        refine lv_iconst (v := (1 : Int32)) hx hb dX7_partLeads_16 (by decide) ?_
        refine lv_aload_n hx hb dX7_partLeads_17 rfl (lv_at hl 2 rfl) ?_
        refine gt_3_0 (i := i2) C hP (hok.2.1 3 i2 h2) lk_X7_58 dX7_partLeads_18 ?_
        refine lv_aload_n hx hb dX7_partLeads_21 rfl (lv_at hl 0 rfl) ?_
        refine lv_iload_n hx hb dX7_partLeads_22 rfl (lv_at hl 1 rfl) ?_
        refine lv_iload hx hb dX7_partLeads_23 (lv_at hl 4 rfl) ?_
        obtain ⟨z4, q5, hf⟩ := bsp hf
        refine kc_V (ci := 7) (i := i0) (As := [.int v1, .int v4]) (rest := [.ref (ad 25 i2), .int (1 : Int32), .int v3]) hok.2.2.1 C hP hS hl.1 (hok.2.1 7 i0 h0) rfl rfl cw_X7_partAt ml_X7_76 (c_X7_partAt l D ca ad PL Z A hok N w i0 h0 v1 v4 z4 q5) rfl ⟨rfl, rfl⟩ ⟨Nat.le_of_ble_eq_true rfl, Nat.le_of_ble_eq_true rfl⟩ ⟨Nat.zero_le _, Nat.zero_le _⟩ (Nat.le_of_ble_eq_true rfl) rfl dX7_partLeads_25 (fun H locs hP hS => ?_)
        obtain ⟨b6, hf⟩ := gsp hf
        refine ra_ild (k := 25) (i := i2) (n := 24) (f := (gA w 25 i2)) C hP (hok.2.1 25 i2 h2) rfl b6 dX7_partLeads_28 ?_
        refine lv_ishl hx hb dX7_partLeads_29 ?_
        refine lv_ior hx hb dX7_partLeads_30 ?_
        refine lv_istore_n (lv' := [(3, .int (v3 ||| ((1 : Int32) <<< ((gA w 25 i2 z4.toNatClampNeg) &&& 31)))), (0, .ref (ad 7 i0)), (1, .int v1), (2, .ref (ad 3 i2)), (4, .int v4)]) hx hb dX7_partLeads_31 rfl hl (by decide) rfl (fun ls hl => ?_)
        refine lv_iinc (v := (v4 + (1 : Int32))) (lv' := [(4, .int (v4 + (1 : Int32))), (3, .int (v3 ||| ((1 : Int32) <<< ((gA w 25 i2 z4.toNatClampNeg) &&& 31)))), (0, .ref (ad 7 i0)), (1, .int v1), (2, .ref (ad 3 i2))]) hx hb dX7_partLeads_32 hl (k := 4) rfl rfl (by decide) rfl (fun ls hl => ?_)
        refine lv_goto (tgt := 5) hx hb dX7_partLeads_35 (by decide) ?_
        exact ih (v3 ||| ((1 : Int32) <<< ((gA w 25 i2 z4.toNatClampNeg) &&& 31))) (v4 + (1 : Int32)) hf _ _ ls hP hS (lv_sub hl [2, 3, 4, 1, 0] rfl)
  unfold f_X7_partLeads at hf
  -- walk
  refine lv_iconst (v := (0 : Int32)) hx hb dX7_partLeads_0 (by decide) ?_
  refine lv_istore_n (lv' := [(3, .int (0 : Int32)), (0, .ref (ad 7 i0)), (1, .int x1), (2, .ref (ad 3 i2))]) hx hb dX7_partLeads_1 rfl hl (by decide) rfl (fun ls hl => ?_)
  refine lv_iconst (v := (0 : Int32)) hx hb dX7_partLeads_2 (by decide) ?_
  refine lv_istore (lv' := [(4, .int (0 : Int32)), (3, .int (0 : Int32)), (0, .ref (ad 7 i0)), (1, .int x1), (2, .ref (ad 3 i2))]) hx hb dX7_partLeads_3 hl (by decide) rfl (fun ls hl => ?_)
  exact L_lp_X7_partLeads_5 x1 _ (fun u3_1 hf H locs ls hP hS hl => P_f_X7_partLeads_38 u3_1 hf _ _ ls hP hS (lv_sub hl [0] rfl)) N (0 : Int32) (0 : Int32) hf _ _ ls hP hS (lv_sub hl [2, 3, 4, 1, 0] rfl)
def f_X7_termsAbove_42 (N : Nat) (w : Mem) (i0 : Nat) (i2 : Nat) (v3 : Int32) : Option (Int32) :=
  some v3
def lp_X7_termsAbove_5 (k : Int32 → Option (Int32)) (N : Nat) (w : Mem) (i0 : Nat) (i2 : Nat) (v1 : Int32) : Nat → Int32 → Int32 → Option (Int32)
  | 0, _, _ => none
  | n + 1, v3, v4 => (if (gF w 7 10 i0) ≤ v4 then
(k v3)
else
(Option.bind (f_X7_partLeads N w i0 v4 i2) (fun z2 => (if inb v1 24 = true then (if ((ushr z2 (gA w 25 i2 v1.toNatClampNeg)) &&& (1 : Int32)) = (0 : Int32) then
(lp_X7_termsAbove_5 k N w i0 i2 v1 n v3 (v4 + (1 : Int32)))
else
(lp_X7_termsAbove_5 k N w i0 i2 v1 n (v3 + (1 : Int32)) (v4 + (1 : Int32)))) else none))))
def f_X7_termsAbove (N : Nat) (w : Mem) (i0 : Nat) (x1 : Int32) (i2 : Nat) : Option (Int32) :=
  (lp_X7_termsAbove_5 (fun (u3_1 : Int32) => (f_X7_termsAbove_42 N w i0 i2 u3_1 )) N w i0 i2 x1 N (0 : Int32) (0 : Int32))
set_option maxRecDepth 100000 in
set_option maxHeartbeats 4000000 in
theorem c_X7_termsAbove (l : Launch) (D : va_G) (ca : Nat → ClassId) (ad : Nat → Nat → Nat) (PL : List (Nat × Nat)) (Z : State → Prop) (A : Nat → Prop) (hok : okc bX Z A ad PL) (N : Nat) (w : Mem) (i0 : Nat) (h0 : i0 < 2) (x1 : Int32) (i2 : Nat) (h2 : i2 < 17) (r : Int32) (hf : f_X7_termsAbove N w i0 x1 i2 = some r) : CT l yX7_termsAbove (wsy yX7_termsAbove cX7_termsAbove 5 (some .int)) (rmk 2) D ca ad PL Z A [.ref (ad 7 i0), .int x1, .ref (ad 3 i2)] w w (some (.int r)) := by
  refine Met.ofW (cc := cX7_termsAbove) (maxL := 5) (ret := (some .int)) (by decide +kernel) rfl ?_
  intro p e s m args below meth c s₁ B hml hv
  obtain ⟨rfl, hP, hK, hZ⟩ := hv
  have hx := B.exec
  have hb := B.bytes
  have hr := B.returns
  have hlocks := B.notSynchronized
  have hts : ∀ w ∈ ALL, w.before _ s = true := fun w hw => atoms_spec (ws := wsy yX7_termsAbove cX7_termsAbove 5 (some .int)) B.pre w (List.mem_cons_of_mem _ hw)
  have hown : s.vm.findClass RX7 = some m.cls := findClass_of_methodNamed B.named
  have C : CX p s m _ c cX7_termsAbove RX7 5 D ca Z := ⟨hx, hb, hml, hown, hts, hK, hZ⟩
  have hS : va_S A s.heap s.heap [] := va_S.rf
  have hl := lv_entry ([.ref (ad 7 i0), .int x1, .ref (ad 3 i2)]) (n := 5) (Nat.le_of_ble_eq_true rfl)
  rw [lg_entry_eq]
  generalize (lg_sl ([.ref (ad 7 i0), .int x1, .ref (ad 3 i2)]) ++ List.replicate (5 - (lg_sl ([.ref (ad 7 i0), .int x1, .ref (ad 3 i2)])).length) Slot.unset).toArray = ls at hl ⊢
  have hl : lv_has ls 5 [(0, .ref (ad 7 i0)), (1, .int x1), (2, .ref (ad 3 i2))] := hl
  show W p l e (rmk 2) s m _ below meth c s.heap [] 0 0 _ _
  have P_f_X7_termsAbove_42 : ∀ (v3 : Int32), f_X7_termsAbove_42 N w i0 i2 v3  = some r → WP p l e (rmk 2) s m [.ref (ad 7 i0), .int x1, .ref (ad 3 i2)].toArray below meth c D ca ad PL A (MQ below (qcR D ca ad PL Z A w (some (.int r))) [.ref (ad 7 i0), .int x1, .ref (ad 3 i2)].toArray s 0 0 A) 5 42 [] [(3, .int v3)] w := by
    intro v3 hf _ _ ls hP hS hl
    unfold f_X7_termsAbove_42 at hf
    refine lv_iload_n hx hb dX7_termsAbove_42 rfl (lv_at hl 0 rfl) ?_
    exact kr_i hok.2.2.1 C hlocks hr rfl hP hS rfl (Option.some.inj hf) dX7_termsAbove_43
  have L_lp_X7_termsAbove_5 : ∀ (v1 : Int32) (k : Int32 → Option (Int32)) (hk : ∀ (v3 : Int32), k v3 = some r → WP p l e (rmk 2) s m [.ref (ad 7 i0), .int x1, .ref (ad 3 i2)].toArray below meth c D ca ad PL A (MQ below (qcR D ca ad PL Z A w (some (.int r))) [.ref (ad 7 i0), .int x1, .ref (ad 3 i2)].toArray s 0 0 A) 5 42 [] [(3, .int v3)] w) (n : Nat) (v3 : Int32) (v4 : Int32), lp_X7_termsAbove_5 k N w i0 i2 v1 n v3 v4 = some r → WP p l e (rmk 2) s m [.ref (ad 7 i0), .int x1, .ref (ad 3 i2)].toArray below meth c D ca ad PL A (MQ below (qcR D ca ad PL Z A w (some (.int r))) [.ref (ad 7 i0), .int x1, .ref (ad 3 i2)].toArray s 0 0 A) 5 5 [] [(0, .ref (ad 7 i0)), (1, .int v1), (2, .ref (ad 3 i2)), (3, .int v3), (4, .int v4)] w := by
    intro v1 k hk n
    induction n with
    | zero => intro v3 v4 hf; rw [lp_X7_termsAbove_5] at hf; cases hf
    | succ n ih =>
      intro v3 v4 hf _ _ ls hP hS hl
      rw [lp_X7_termsAbove_5] at hf
      refine lv_iload hx hb dX7_termsAbove_5 (lv_at hl 4 rfl) ?_
      refine lv_aload_n hx hb dX7_termsAbove_7 rfl (lv_at hl 0 rfl) ?_
      refine gt_7_10 (i := i0) C hP (hok.2.1 7 i0 h0) lk_X7_43 dX7_termsAbove_8 ?_
      refine lv_icmp_ge (tgt := 42) hx hb dX7_termsAbove_11 (by decide) (fun c6 => ?_) (fun c6 => ?_)
      · have hf := ifp hf c6
        exact hk v3 hf _ _ ls hP hS (lv_sub hl [3] rfl)
      · have hf := ifn hf c6
        refine lv_aload_n hx hb dX7_termsAbove_14 rfl (lv_at hl 0 rfl) ?_
        refine lv_iload hx hb dX7_termsAbove_15 (lv_at hl 4 rfl) ?_
        refine lv_aload_n hx hb dX7_termsAbove_17 rfl (lv_at hl 2 rfl) ?_
        obtain ⟨z2, q3, hf⟩ := bsp hf
        refine kc_V (ci := 7) (i := i0) (As := [.int v4, .ref (ad 3 i2)]) (rest := []) hok.2.2.1 C hP hS hl.1 (hok.2.1 7 i0 h0) rfl rfl cw_X7_partLeads ml_X7_69 (c_X7_partLeads l D ca ad PL Z A hok N w i0 h0 v4 i2 h2 z2 q3) rfl ⟨rfl, rfl⟩ ⟨Nat.le_of_ble_eq_true rfl, Nat.le_of_ble_eq_true rfl⟩ ⟨Nat.zero_le _, Nat.zero_le _⟩ (Nat.le_of_ble_eq_true rfl) rfl dX7_termsAbove_18 (fun H locs hP hS => ?_)
        refine lv_aload_n hx hb dX7_termsAbove_21 rfl (lv_at hl 2 rfl) ?_
        refine gt_3_0 (i := i2) C hP (hok.2.1 3 i2 h2) lk_X7_58 dX7_termsAbove_22 ?_
        refine lv_iload_n hx hb dX7_termsAbove_25 rfl (lv_at hl 1 rfl) ?_
        obtain ⟨b4, hf⟩ := gsp hf
        refine ra_ild (k := 25) (i := i2) (n := 24) (f := (gA w 25 i2)) C hP (hok.2.1 25 i2 h2) rfl b4 dX7_termsAbove_26 ?_
        refine lv_iushr (v := (ushr z2 (gA w 25 i2 v1.toNatClampNeg))) hx hb dX7_termsAbove_27 rfl ?_
        refine lv_iconst (v := (1 : Int32)) hx hb dX7_termsAbove_28 (by decide) ?_
        refine lv_iand hx hb dX7_termsAbove_29 ?_
        refine lv_if_eq (tgt := 36) hx hb dX7_termsAbove_30 (by decide) (fun c5 => ?_) (fun c5 => ?_)
        · have hf := ifp hf c5
          refine lv_iinc (v := (v4 + (1 : Int32))) (lv' := [(4, .int (v4 + (1 : Int32))), (0, .ref (ad 7 i0)), (1, .int v1), (2, .ref (ad 3 i2)), (3, .int v3)]) hx hb dX7_termsAbove_36 hl (k := 4) rfl rfl (by decide) rfl (fun ls hl => ?_)
          refine lv_goto (tgt := 5) hx hb dX7_termsAbove_39 (by decide) ?_
          exact ih v3 (v4 + (1 : Int32)) hf _ _ ls hP hS (lv_sub hl [1, 2, 3, 4, 0] rfl)
        · have hf := ifn hf c5
          refine lv_iinc (v := (v3 + (1 : Int32))) (lv' := [(3, .int (v3 + (1 : Int32))), (0, .ref (ad 7 i0)), (1, .int v1), (2, .ref (ad 3 i2)), (4, .int v4)]) hx hb dX7_termsAbove_33 hl (k := 3) rfl rfl (by decide) rfl (fun ls hl => ?_)
          refine lv_iinc (v := (v4 + (1 : Int32))) (lv' := [(4, .int (v4 + (1 : Int32))), (3, .int (v3 + (1 : Int32))), (0, .ref (ad 7 i0)), (1, .int v1), (2, .ref (ad 3 i2))]) hx hb dX7_termsAbove_36 hl (k := 4) rfl rfl (by decide) rfl (fun ls hl => ?_)
          refine lv_goto (tgt := 5) hx hb dX7_termsAbove_39 (by decide) ?_
          exact ih (v3 + (1 : Int32)) (v4 + (1 : Int32)) hf _ _ ls hP hS (lv_sub hl [2, 3, 4, 1, 0] rfl)
  unfold f_X7_termsAbove at hf
  -- walk
  refine lv_iconst (v := (0 : Int32)) hx hb dX7_termsAbove_0 (by decide) ?_
  refine lv_istore_n (lv' := [(3, .int (0 : Int32)), (0, .ref (ad 7 i0)), (1, .int x1), (2, .ref (ad 3 i2))]) hx hb dX7_termsAbove_1 rfl hl (by decide) rfl (fun ls hl => ?_)
  refine lv_iconst (v := (0 : Int32)) hx hb dX7_termsAbove_2 (by decide) ?_
  refine lv_istore (lv' := [(4, .int (0 : Int32)), (3, .int (0 : Int32)), (0, .ref (ad 7 i0)), (1, .int x1), (2, .ref (ad 3 i2))]) hx hb dX7_termsAbove_3 hl (by decide) rfl (fun ls hl => ?_)
  exact L_lp_X7_termsAbove_5 x1 _ (fun u3_1 hf H locs ls hP hS hl => P_f_X7_termsAbove_42 u3_1 hf _ _ ls hP hS (lv_sub hl [0] rfl)) N (0 : Int32) (0 : Int32) hf _ _ ls hP hS (lv_sub hl [2, 3, 4, 1, 0] rfl)
