def f_X4_pickBearing_160 (N : Nat) (w : Mem) (i1 : Nat) : Option (Mem) :=
  some w
def lp_X4_pickBearing_102 (k : Mem → Option (Mem)) (N : Nat) (i1 : Nat) (v2 : Int32) : Nat → Mem → Int32 → Option (Mem)
  | 0, _, _ => none
  | n + 1, w, v4 => (if (gF w 1 9 i1) ≤ v4 then
(k w)
else
(if inb v4 12 = true then (if inb (gA w 13 i1 v4.toNatClampNeg) 24 = true then (if ((ushr v2 (gA w 25 (2 + i1) (gA w 13 i1 v4.toNatClampNeg).toNatClampNeg)) &&& (1 : Int32)) = (0 : Int32) then
(lp_X4_pickBearing_102 k N  i1 v2 n w (v4 + (1 : Int32)))
else
(if inb (gF w 4 3 0) 12 = true then (lp_X4_pickBearing_102 k N  i1 v2 n (sF (sA w 27 0 (gF w 4 3 0).toNatClampNeg v4) 4 3 0 ((gF (sA w 27 0 (gF w 4 3 0).toNatClampNeg v4) 4 3 0) + (1 : Int32))) (v4 + (1 : Int32))) else none)) else none) else none))
def f_X4_pickBearing_94 (N : Nat) (w : Mem) (i1 : Nat) (v2 : Int32) : Option (Mem) :=
  (lp_X4_pickBearing_102 (fun (w_3 : Mem) => (f_X4_pickBearing_160 N w_3 i1  )) N  i1 v2 N (sF w 4 3 0 (0 : Int32)) (0 : Int32))
def f_X4_pickBearing_88_20 (rc : Int32 → Int32 → Int32 → Option (Mem)) (k : Int32 → Option (Mem)) (N : Nat) (w : Mem) (i1 : Nat) (v2 : Int32) (v3 : Int32) (v4 : Int32) : Option (Mem) :=
  (rc v2 v3 (v4 + (1 : Int32)))
def lp_X4_pickBearing_37 (k : Int32 → Option (Mem)) (N : Nat) (w : Mem) (i1 : Nat) (v3 : Int32) (v4 : Int32) : Nat → Int32 → Int32 → Option (Mem)
  | 0, _, _ => none
  | n + 1, v2, v5 => (if (gF w 7 10 i1) ≤ v5 then
(k v2)
else
(if inb v5 24 = true then (if ((ushr v2 (gA w 25 (2 + i1) v5.toNatClampNeg)) &&& (1 : Int32)) = (0 : Int32) then
(lp_X4_pickBearing_37 k N w i1 v3 v4 n v2 (v5 + (1 : Int32)))
else
(Option.bind (f_X7_partLeads N w i1 v5 (2 + i1)) (fun z11 => (lp_X4_pickBearing_37 k N w i1 v3 v4 n (v2 ||| z11) (v5 + (1 : Int32)))))) else none))
def lp_X4_pickBearing_20 (k : Int32 → Option (Mem)) (N : Nat) (w : Mem) (i1 : Nat) : Nat → Int32 → Int32 → Int32 → Option (Mem)
  | 0, _, _, _ => none
  | n + 1, v2, v3, v4 => (if (24 : Int32) < v4 then
(k v2)
else
(if v2 = v3 then
(k v2)
else
(lp_X4_pickBearing_37 (fun (u2_9 : Int32) => (f_X4_pickBearing_88_20 (fun (v2 : Int32) (v3 : Int32) (v4 : Int32) => lp_X4_pickBearing_20 k N w i1  n v2 v3 v4) k N w i1 u2_9 v2 v4 )) N w i1 v2 v4 N v2 (0 : Int32))))
def f_X4_pickBearing (N : Nat) (w : Mem) (i1 : Nat) : Option (Mem) :=
  (if inb (gF w 4 4 0) 24 = true then (lp_X4_pickBearing_20 (fun (u2_2 : Int32) => (f_X4_pickBearing_94 N w i1 u2_2 )) N w i1  N ((1 : Int32) <<< ((gA w 25 (2 + i1) (gF w 4 4 0).toNatClampNeg) &&& 31)) (0 : Int32) (0 : Int32)) else none)
set_option maxRecDepth 100000 in
set_option maxHeartbeats 4000000 in
theorem c_X4_pickBearing (l : Launch) (D : va_G) (ca : Nat → ClassId) (ad : Nat → Nat → Nat) (PL : List (Nat × Nat)) (Z : State → Prop) (A : Nat → Prop) (hok : okc bX Z A ad PL) (N : Nat) (w : Mem) (i1 : Nat) (h1 : i1 < 2) (w' : Mem) (hf : f_X4_pickBearing N w i1 = some w') : CT l yX4_pickBearing (wsy yX4_pickBearing cX4_pickBearing 6 none) (rmk 2) D ca ad PL Z A [.ref (ad 4 0), .ref (ad 1 i1)] w w' none := by
  refine Met.ofW (cc := cX4_pickBearing) (maxL := 6) (ret := none) (by decide +kernel) rfl ?_
  intro p e s m args below meth c s₁ B hml hv
  obtain ⟨rfl, hP, hK, hZ⟩ := hv
  have hx := B.exec
  have hb := B.bytes
  have hr := B.returns
  have hlocks := B.notSynchronized
  have hts : ∀ w ∈ ALL, w.before _ s = true := fun w hw => atoms_spec (ws := wsy yX4_pickBearing cX4_pickBearing 6 none) B.pre w (List.mem_cons_of_mem _ hw)
  have hown : s.vm.findClass RX4 = some m.cls := findClass_of_methodNamed B.named
  have C : CX p s m _ c cX4_pickBearing RX4 6 D ca Z := ⟨hx, hb, hml, hown, hts, hK, hZ⟩
  have hS : va_S A s.heap s.heap [] := va_S.rf
  have hl := lv_entry ([.ref (ad 4 0), .ref (ad 1 i1)]) (n := 6) (Nat.le_of_ble_eq_true rfl)
  rw [lg_entry_eq]
  generalize (lg_sl ([.ref (ad 4 0), .ref (ad 1 i1)]) ++ List.replicate (6 - (lg_sl ([.ref (ad 4 0), .ref (ad 1 i1)])).length) Slot.unset).toArray = ls at hl ⊢
  have hl : lv_has ls 6 [(0, .ref (ad 4 0)), (1, .ref (ad 1 i1))] := hl
  show W p l e (rmk 2) s m _ below meth c s.heap [] 0 0 _ _
  have P_f_X4_pickBearing_160 : ∀ (w : Mem), f_X4_pickBearing_160 N w i1   = some w' → WP p l e (rmk 2) s m [.ref (ad 4 0), .ref (ad 1 i1)].toArray below meth c D ca ad PL A (MQ below (qcR D ca ad PL Z A w' none) [.ref (ad 4 0), .ref (ad 1 i1)].toArray s 0 0 A) 6 160 [] [] w := by
    intro w hf _ _ ls hP hS hl
    unfold f_X4_pickBearing_160 at hf
    exact kr_v hok.2.2.1 C hlocks hr hP hS (Option.some.inj hf) dX4_pickBearing_160
  have L_lp_X4_pickBearing_102 : ∀ (v2 : Int32) (k : Mem → Option (Mem)) (hk : ∀ (w : Mem), k w = some w' → WP p l e (rmk 2) s m [.ref (ad 4 0), .ref (ad 1 i1)].toArray below meth c D ca ad PL A (MQ below (qcR D ca ad PL Z A w' none) [.ref (ad 4 0), .ref (ad 1 i1)].toArray s 0 0 A) 6 160 [] [] w) (n : Nat) (w : Mem) (v4 : Int32), lp_X4_pickBearing_102 k N  i1 v2 n w v4 = some w' → WP p l e (rmk 2) s m [.ref (ad 4 0), .ref (ad 1 i1)].toArray below meth c D ca ad PL A (MQ below (qcR D ca ad PL Z A w' none) [.ref (ad 4 0), .ref (ad 1 i1)].toArray s 0 0 A) 6 102 [] [(0, .ref (ad 4 0)), (1, .ref (ad 1 i1)), (2, .int v2), (4, .int v4)] w := by
    intro v2 k hk n
    induction n with
    | zero => intro w v4 hf; rw [lp_X4_pickBearing_102] at hf; cases hf
    | succ n ih =>
      intro w v4 hf _ _ ls hP hS hl
      rw [lp_X4_pickBearing_102] at hf
      refine lv_iload hx hb dX4_pickBearing_102 (lv_at hl 3 rfl) ?_
      refine lv_aload_n hx hb dX4_pickBearing_104 rfl (lv_at hl 1 rfl) ?_
      refine gt_1_9 (i := i1) C hP (hok.2.1 1 i1 h1) lk_X4_90 dX4_pickBearing_105 ?_
      refine lv_icmp_ge (tgt := 160) hx hb dX4_pickBearing_108 (by decide) (fun c8 => ?_) (fun c8 => ?_)
      · have hf := ifp hf c8
        exact hk w hf _ _ ls hP hS (lv_sub hl [] rfl)
      · have hf := ifn hf c8
        refine lv_iload_n hx hb dX4_pickBearing_111 rfl (lv_at hl 2 rfl) ?_
        refine lv_aload_n hx hb dX4_pickBearing_112 rfl (lv_at hl 1 rfl) ?_
        refine gt_1_1 (i := i1) C hP (hok.2.1 1 i1 h1) lk_X4_70 dX4_pickBearing_113 ?_
        refine gt_3_0 (i := (2 + i1)) C hP (hok.2.1 3 (2 + i1) (Nat.lt_of_lt_of_le (Nat.add_lt_add_left h1 2) (Nat.le_of_ble_eq_true rfl))) lk_X4_74 dX4_pickBearing_116 ?_
        refine lv_aload_n hx hb dX4_pickBearing_119 rfl (lv_at hl 1 rfl) ?_
        refine gt_1_3 (i := i1) C hP (hok.2.1 1 i1 h1) lk_X4_93 dX4_pickBearing_120 ?_
        refine lv_iload hx hb dX4_pickBearing_123 (lv_at hl 3 rfl) ?_
        obtain ⟨b4, hf⟩ := gsp hf
        refine ra_ild (k := 13) (i := i1) (n := 12) (f := (gA w 13 i1)) C hP (hok.2.1 13 i1 h1) rfl b4 dX4_pickBearing_125 ?_
        obtain ⟨b5, hf⟩ := gsp hf
        refine ra_ild (k := 25) (i := (2 + i1)) (n := 24) (f := (gA w 25 (2 + i1))) C hP (hok.2.1 25 (2 + i1) (Nat.lt_of_lt_of_le (Nat.add_lt_add_left h1 2) (Nat.le_of_ble_eq_true rfl))) rfl b5 dX4_pickBearing_126 ?_
        refine lv_iushr (v := (ushr v2 (gA w 25 (2 + i1) (gA w 13 i1 v4.toNatClampNeg).toNatClampNeg))) hx hb dX4_pickBearing_127 rfl ?_
        refine lv_iconst (v := (1 : Int32)) hx hb dX4_pickBearing_128 (by decide) ?_
        refine lv_iand hx hb dX4_pickBearing_129 ?_
        refine lv_if_eq (tgt := 154) hx hb dX4_pickBearing_130 (by decide) (fun c7 => ?_) (fun c7 => ?_)
        · have hf := ifp hf c7
          refine lv_iinc (v := (v4 + (1 : Int32))) (lv' := [(4, .int (v4 + (1 : Int32))), (0, .ref (ad 4 0)), (1, .ref (ad 1 i1)), (2, .int v2)]) hx hb dX4_pickBearing_154 hl (k := 3) rfl rfl (by decide) rfl (fun ls hl => ?_)
          refine lv_goto (tgt := 102) hx hb dX4_pickBearing_157 (by decide) ?_
          exact ih w (v4 + (1 : Int32)) hf _ _ ls hP hS (lv_sub hl [1, 2, 3, 0] rfl)
        · have hf := ifn hf c7
          refine lv_aload_n hx hb dX4_pickBearing_133 rfl (lv_at hl 0 rfl) ?_
          refine gt_4_1 (i := 0) C hP (hok.2.1 4 0 (Nat.le_of_ble_eq_true rfl)) lk_X4_17 dX4_pickBearing_134 ?_
          refine lv_aload_n hx hb dX4_pickBearing_137 rfl (lv_at hl 0 rfl) ?_
          refine gt_4_3 (i := 0) C hP (hok.2.1 4 0 (Nat.le_of_ble_eq_true rfl)) lk_X4_41 dX4_pickBearing_138 ?_
          refine lv_iload hx hb dX4_pickBearing_141 (lv_at hl 3 rfl) ?_
          obtain ⟨b6, hf⟩ := gsp hf
          refine ra_ist (k := 27) (i := 0) (n := 12) C hok.1 hP hS (hok.2.1 27 0 (Nat.le_of_ble_eq_true rfl)) (fun _ => rfl) b6 dX4_pickBearing_143 (fun H locs hP hS => ?_)
          refine lv_aload_n hx hb dX4_pickBearing_144 rfl (lv_at hl 0 rfl) ?_
          refine lv_dup hx hb dX4_pickBearing_145 rfl ?_
          refine gt_4_3 (i := 0) C hP (hok.2.1 4 0 (Nat.le_of_ble_eq_true rfl)) lk_X4_41 dX4_pickBearing_146 ?_
          refine lv_iconst (v := (1 : Int32)) hx hb dX4_pickBearing_149 (by decide) ?_
          refine lv_iadd hx hb dX4_pickBearing_150 ?_
          refine pt_4_3 (i := 0) (v := ((gF (sA w 27 0 (gF w 4 3 0).toNatClampNeg v4) 4 3 0) + (1 : Int32))) C hok.1 hP hS (hok.2.1 4 0 (Nat.le_of_ble_eq_true rfl)) lk_X4_41 dX4_pickBearing_151 (fun H locs hP hS => ?_)
          refine lv_iinc (v := (v4 + (1 : Int32))) (lv' := [(4, .int (v4 + (1 : Int32))), (0, .ref (ad 4 0)), (1, .ref (ad 1 i1)), (2, .int v2)]) hx hb dX4_pickBearing_154 hl (k := 3) rfl rfl (by decide) rfl (fun ls hl => ?_)
          refine lv_goto (tgt := 102) hx hb dX4_pickBearing_157 (by decide) ?_
          exact ih (sF (sA w 27 0 (gF w 4 3 0).toNatClampNeg v4) 4 3 0 ((gF (sA w 27 0 (gF w 4 3 0).toNatClampNeg v4) 4 3 0) + (1 : Int32))) (v4 + (1 : Int32)) hf _ _ ls hP hS (lv_sub hl [1, 2, 3, 0] rfl)
  have P_f_X4_pickBearing_94 : ∀ (w : Mem) (v2 : Int32), f_X4_pickBearing_94 N w i1 v2  = some w' → WP p l e (rmk 2) s m [.ref (ad 4 0), .ref (ad 1 i1)].toArray below meth c D ca ad PL A (MQ below (qcR D ca ad PL Z A w' none) [.ref (ad 4 0), .ref (ad 1 i1)].toArray s 0 0 A) 6 94 [] [(0, .ref (ad 4 0)), (1, .ref (ad 1 i1)), (2, .int v2)] w := by
    intro w v2 hf _ _ ls hP hS hl
    unfold f_X4_pickBearing_94 at hf
    refine lv_aload_n hx hb dX4_pickBearing_94 rfl (lv_at hl 0 rfl) ?_
    refine lv_iconst (v := (0 : Int32)) hx hb dX4_pickBearing_95 (by decide) ?_
    refine pt_4_3 (i := 0) (v := (0 : Int32)) C hok.1 hP hS (hok.2.1 4 0 (Nat.le_of_ble_eq_true rfl)) lk_X4_41 dX4_pickBearing_96 (fun H locs hP hS => ?_)
    refine lv_iconst (v := (0 : Int32)) hx hb dX4_pickBearing_99 (by decide) ?_
    refine lv_istore (lv' := [(4, .int (0 : Int32)), (0, .ref (ad 4 0)), (1, .ref (ad 1 i1)), (2, .int v2)]) hx hb dX4_pickBearing_100 hl (by decide) rfl (fun ls hl => ?_)
    exact L_lp_X4_pickBearing_102 v2 _ (fun w_3 hf H locs ls hP hS hl => P_f_X4_pickBearing_160 w_3 hf _ _ ls hP hS (lv_sub hl [] rfl)) N (sF w 4 3 0 (0 : Int32)) (0 : Int32) hf _ _ ls hP hS (lv_sub hl [1, 2, 3, 0] rfl)
  have P_f_X4_pickBearing_88_20 : ∀ (w : Mem) (rc : Int32 → Int32 → Int32 → Option (Mem)) (hrc : ∀ (v2 : Int32) (v3 : Int32) (v4 : Int32), rc v2 v3 v4 = some w' → WP p l e (rmk 2) s m [.ref (ad 4 0), .ref (ad 1 i1)].toArray below meth c D ca ad PL A (MQ below (qcR D ca ad PL Z A w' none) [.ref (ad 4 0), .ref (ad 1 i1)].toArray s 0 0 A) 6 20 [] [(0, .ref (ad 4 0)), (1, .ref (ad 1 i1)), (2, .int v2), (3, .int v3), (4, .int v4)] w) (k : Int32 → Option (Mem)) (hk : ∀ (v2 : Int32), k v2 = some w' → WP p l e (rmk 2) s m [.ref (ad 4 0), .ref (ad 1 i1)].toArray below meth c D ca ad PL A (MQ below (qcR D ca ad PL Z A w' none) [.ref (ad 4 0), .ref (ad 1 i1)].toArray s 0 0 A) 6 94 [] [(0, .ref (ad 4 0)), (1, .ref (ad 1 i1)), (2, .int v2)] w) (v2 : Int32) (v3 : Int32) (v4 : Int32), f_X4_pickBearing_88_20 rc k N w i1 v2 v3 v4  = some w' → WP p l e (rmk 2) s m [.ref (ad 4 0), .ref (ad 1 i1)].toArray below meth c D ca ad PL A (MQ below (qcR D ca ad PL Z A w' none) [.ref (ad 4 0), .ref (ad 1 i1)].toArray s 0 0 A) 6 88 [] [(0, .ref (ad 4 0)), (1, .ref (ad 1 i1)), (2, .int v2), (3, .int v3), (4, .int v4)] w := by
    intro w rc hrc k hk v2 v3 v4 hf _ _ ls hP hS hl
    unfold f_X4_pickBearing_88_20 at hf
    refine lv_iinc (v := (v4 + (1 : Int32))) (lv' := [(4, .int (v4 + (1 : Int32))), (0, .ref (ad 4 0)), (1, .ref (ad 1 i1)), (2, .int v2), (3, .int v3)]) hx hb dX4_pickBearing_88 hl (k := 4) rfl rfl (by decide) rfl (fun ls hl => ?_)
    refine lv_goto (tgt := 20) hx hb dX4_pickBearing_91 (by decide) ?_
    exact hrc v2 v3 (v4 + (1 : Int32)) hf _ _ ls hP hS (lv_sub hl [1, 2, 3, 4, 0] rfl)
  have L_lp_X4_pickBearing_37 : ∀ (w : Mem) (v3 : Int32) (v4 : Int32) (k : Int32 → Option (Mem)) (hk : ∀ (v2 : Int32), k v2 = some w' → WP p l e (rmk 2) s m [.ref (ad 4 0), .ref (ad 1 i1)].toArray below meth c D ca ad PL A (MQ below (qcR D ca ad PL Z A w' none) [.ref (ad 4 0), .ref (ad 1 i1)].toArray s 0 0 A) 6 88 [] [(0, .ref (ad 4 0)), (1, .ref (ad 1 i1)), (2, .int v2), (3, .int v3), (4, .int v4)] w) (n : Nat) (v2 : Int32) (v5 : Int32), lp_X4_pickBearing_37 k N w i1 v3 v4 n v2 v5 = some w' → WP p l e (rmk 2) s m [.ref (ad 4 0), .ref (ad 1 i1)].toArray below meth c D ca ad PL A (MQ below (qcR D ca ad PL Z A w' none) [.ref (ad 4 0), .ref (ad 1 i1)].toArray s 0 0 A) 6 37 [] [(0, .ref (ad 4 0)), (1, .ref (ad 1 i1)), (2, .int v2), (3, .int v3), (4, .int v4), (5, .int v5)] w := by
    intro w v3 v4 k hk n
    induction n with
    | zero => intro v2 v5 hf; rw [lp_X4_pickBearing_37] at hf; cases hf
    | succ n ih =>
      intro v2 v5 hf _ _ ls hP hS hl
      rw [lp_X4_pickBearing_37] at hf
      refine lv_iload hx hb dX4_pickBearing_37 (lv_at hl 5 rfl) ?_
      refine lv_aload_n hx hb dX4_pickBearing_39 rfl (lv_at hl 1 rfl) ?_
      refine gt_1_0 (i := i1) C hP (hok.2.1 1 i1 h1) lk_X4_77 dX4_pickBearing_40 ?_
      refine gt_7_10 (i := i1) C hP (hok.2.1 7 i1 h1) lk_X4_81 dX4_pickBearing_43 ?_
      refine lv_icmp_ge (tgt := 88) hx hb dX4_pickBearing_46 (by decide) (fun c14 => ?_) (fun c14 => ?_)
      · have hf := ifp hf c14
        exact hk v2 hf _ _ ls hP hS (lv_sub hl [0, 1, 2, 3, 4] rfl)
      · have hf := ifn hf c14
        refine lv_iload_n hx hb dX4_pickBearing_49 rfl (lv_at hl 2 rfl) ?_
        refine lv_aload_n hx hb dX4_pickBearing_50 rfl (lv_at hl 1 rfl) ?_
        refine gt_1_1 (i := i1) C hP (hok.2.1 1 i1 h1) lk_X4_70 dX4_pickBearing_51 ?_
        refine gt_3_0 (i := (2 + i1)) C hP (hok.2.1 3 (2 + i1) (Nat.lt_of_lt_of_le (Nat.add_lt_add_left h1 2) (Nat.le_of_ble_eq_true rfl))) lk_X4_74 dX4_pickBearing_54 ?_
        refine lv_iload hx hb dX4_pickBearing_57 (lv_at hl 5 rfl) ?_
        obtain ⟨b10, hf⟩ := gsp hf
        refine ra_ild (k := 25) (i := (2 + i1)) (n := 24) (f := (gA w 25 (2 + i1))) C hP (hok.2.1 25 (2 + i1) (Nat.lt_of_lt_of_le (Nat.add_lt_add_left h1 2) (Nat.le_of_ble_eq_true rfl))) rfl b10 dX4_pickBearing_59 ?_
        refine lv_iushr (v := (ushr v2 (gA w 25 (2 + i1) v5.toNatClampNeg))) hx hb dX4_pickBearing_60 rfl ?_
        refine lv_iconst (v := (1 : Int32)) hx hb dX4_pickBearing_61 (by decide) ?_
        refine lv_iand hx hb dX4_pickBearing_62 ?_
        refine lv_if_eq (tgt := 82) hx hb dX4_pickBearing_63 (by decide) (fun c13 => ?_) (fun c13 => ?_)
        · have hf := ifp hf c13
          refine lv_iinc (v := (v5 + (1 : Int32))) (lv' := [(5, .int (v5 + (1 : Int32))), (0, .ref (ad 4 0)), (1, .ref (ad 1 i1)), (2, .int v2), (3, .int v3), (4, .int v4)]) hx hb dX4_pickBearing_82 hl (k := 5) rfl rfl (by decide) rfl (fun ls hl => ?_)
          refine lv_goto (tgt := 37) hx hb dX4_pickBearing_85 (by decide) ?_
          exact ih v2 (v5 + (1 : Int32)) hf _ _ ls hP hS (lv_sub hl [1, 2, 3, 4, 5, 0] rfl)
        · have hf := ifn hf c13
          refine lv_iload_n hx hb dX4_pickBearing_66 rfl (lv_at hl 2 rfl) ?_
          refine lv_aload_n hx hb dX4_pickBearing_67 rfl (lv_at hl 1 rfl) ?_
          refine gt_1_0 (i := i1) C hP (hok.2.1 1 i1 h1) lk_X4_77 dX4_pickBearing_68 ?_
          refine lv_iload hx hb dX4_pickBearing_71 (lv_at hl 5 rfl) ?_
          refine lv_aload_n hx hb dX4_pickBearing_73 rfl (lv_at hl 1 rfl) ?_
          refine gt_1_1 (i := i1) C hP (hok.2.1 1 i1 h1) lk_X4_70 dX4_pickBearing_74 ?_
          obtain ⟨z11, q12, hf⟩ := bsp hf
          refine kc_V (ci := 7) (i := i1) (As := [.int v5, .ref (ad 3 (2 + i1))]) (rest := [.int v2]) hok.2.2.1 C hP hS hl.1 (hok.2.1 7 i1 h1) rfl rfl cw_X7_partLeads ml_X4_86 (c_X7_partLeads l D ca ad PL Z A hok N w i1 h1 v5 (2 + i1) (Nat.lt_of_lt_of_le (Nat.add_lt_add_left h1 2) (Nat.le_of_ble_eq_true rfl)) z11 q12) rfl ⟨rfl, rfl⟩ ⟨Nat.le_of_ble_eq_true rfl, Nat.le_of_ble_eq_true rfl⟩ ⟨Nat.zero_le _, Nat.zero_le _⟩ (Nat.le_of_ble_eq_true rfl) rfl dX4_pickBearing_77 (fun H locs hP hS => ?_)
          refine lv_ior hx hb dX4_pickBearing_80 ?_
          refine lv_istore_n (lv' := [(2, .int (v2 ||| z11)), (0, .ref (ad 4 0)), (1, .ref (ad 1 i1)), (3, .int v3), (4, .int v4), (5, .int v5)]) hx hb dX4_pickBearing_81 rfl hl (by decide) rfl (fun ls hl => ?_)
          refine lv_iinc (v := (v5 + (1 : Int32))) (lv' := [(5, .int (v5 + (1 : Int32))), (2, .int (v2 ||| z11)), (0, .ref (ad 4 0)), (1, .ref (ad 1 i1)), (3, .int v3), (4, .int v4)]) hx hb dX4_pickBearing_82 hl (k := 5) rfl rfl (by decide) rfl (fun ls hl => ?_)
          refine lv_goto (tgt := 37) hx hb dX4_pickBearing_85 (by decide) ?_
          exact ih (v2 ||| z11) (v5 + (1 : Int32)) hf _ _ ls hP hS (lv_sub hl [2, 3, 1, 4, 5, 0] rfl)
  have L_lp_X4_pickBearing_20 : ∀ (w : Mem) (k : Int32 → Option (Mem)) (hk : ∀ (v2 : Int32), k v2 = some w' → WP p l e (rmk 2) s m [.ref (ad 4 0), .ref (ad 1 i1)].toArray below meth c D ca ad PL A (MQ below (qcR D ca ad PL Z A w' none) [.ref (ad 4 0), .ref (ad 1 i1)].toArray s 0 0 A) 6 94 [] [(0, .ref (ad 4 0)), (1, .ref (ad 1 i1)), (2, .int v2)] w) (n : Nat) (v2 : Int32) (v3 : Int32) (v4 : Int32), lp_X4_pickBearing_20 k N w i1  n v2 v3 v4 = some w' → WP p l e (rmk 2) s m [.ref (ad 4 0), .ref (ad 1 i1)].toArray below meth c D ca ad PL A (MQ below (qcR D ca ad PL Z A w' none) [.ref (ad 4 0), .ref (ad 1 i1)].toArray s 0 0 A) 6 20 [] [(0, .ref (ad 4 0)), (1, .ref (ad 1 i1)), (2, .int v2), (3, .int v3), (4, .int v4)] w := by
    intro w k hk n
    induction n with
    | zero => intro v2 v3 v4 hf; rw [lp_X4_pickBearing_20] at hf; cases hf
    | succ n ih =>
      intro v2 v3 v4 hf _ _ ls hP hS hl
      rw [lp_X4_pickBearing_20] at hf
      refine lv_iload hx hb dX4_pickBearing_20 (lv_at hl 4 rfl) ?_
      refine lv_bipush (v := (24 : Int32)) hx hb dX4_pickBearing_22 (by decide) ?_
      refine lv_icmp_gt (tgt := 94) hx hb dX4_pickBearing_24 (by decide) (fun c16 => ?_) (fun c16 => ?_)
      · have hf := ifp hf c16
        exact hk v2 hf _ _ ls hP hS (lv_sub hl [0, 1, 2] rfl)
      · have hf := ifn hf c16
        refine lv_iload_n hx hb dX4_pickBearing_27 rfl (lv_at hl 2 rfl) ?_
        refine lv_iload_n hx hb dX4_pickBearing_28 rfl (lv_at hl 3 rfl) ?_
        refine lv_icmp_eq (tgt := 94) hx hb dX4_pickBearing_29 (by decide) (fun c15 => ?_) (fun c15 => ?_)
        · have hf := ifp hf c15
          exact hk v2 hf _ _ ls hP hS (lv_sub hl [0, 1, 2] rfl)
        · have hf := ifn hf c15
          refine lv_iload_n hx hb dX4_pickBearing_32 rfl (lv_at hl 2 rfl) ?_
          refine lv_istore_n (lv' := [(3, .int v2), (0, .ref (ad 4 0)), (1, .ref (ad 1 i1)), (2, .int v2), (4, .int v4)]) hx hb dX4_pickBearing_33 rfl hl (by decide) rfl (fun ls hl => ?_)
          refine lv_iconst (v := (0 : Int32)) hx hb dX4_pickBearing_34 (by decide) ?_
          refine lv_istore (lv' := [(5, .int (0 : Int32)), (3, .int v2), (0, .ref (ad 4 0)), (1, .ref (ad 1 i1)), (2, .int v2), (4, .int v4)]) hx hb dX4_pickBearing_35 hl (by decide) rfl (fun ls hl => ?_)
          exact L_lp_X4_pickBearing_37 w v2 v4 _ (fun u2_9 hf H locs ls hP hS hl => P_f_X4_pickBearing_88_20 w _ ih _ hk u2_9 v2 v4 hf _ _ ls hP hS (lv_sub hl [0, 1, 2, 3, 4] rfl)) N v2 (0 : Int32) hf _ _ ls hP hS (lv_sub hl [2, 3, 4, 1, 5, 0] rfl)
  unfold f_X4_pickBearing at hf
  -- walk
  refine lv_iconst (v := (1 : Int32)) hx hb dX4_pickBearing_0 (by decide) ?_
  refine lv_aload_n hx hb dX4_pickBearing_1 rfl (lv_at hl 1 rfl) ?_
  refine gt_1_1 (i := i1) C hP (hok.2.1 1 i1 h1) lk_X4_70 dX4_pickBearing_2 ?_
  refine gt_3_0 (i := (2 + i1)) C hP (hok.2.1 3 (2 + i1) (Nat.lt_of_lt_of_le (Nat.add_lt_add_left h1 2) (Nat.le_of_ble_eq_true rfl))) lk_X4_74 dX4_pickBearing_5 ?_
  refine lv_aload_n hx hb dX4_pickBearing_8 rfl (lv_at hl 0 rfl) ?_
  refine gt_4_4 (i := 0) C hP (hok.2.1 4 0 (Nat.le_of_ble_eq_true rfl)) lk_X4_54 dX4_pickBearing_9 ?_
  obtain ⟨b1, hf⟩ := gsp hf
  refine ra_ild (k := 25) (i := (2 + i1)) (n := 24) (f := (gA w 25 (2 + i1))) C hP (hok.2.1 25 (2 + i1) (Nat.lt_of_lt_of_le (Nat.add_lt_add_left h1 2) (Nat.le_of_ble_eq_true rfl))) rfl b1 dX4_pickBearing_12 ?_
  refine lv_ishl hx hb dX4_pickBearing_13 ?_
  refine lv_istore_n (lv' := [(2, .int ((1 : Int32) <<< ((gA w 25 (2 + i1) (gF w 4 4 0).toNatClampNeg) &&& 31))), (0, .ref (ad 4 0)), (1, .ref (ad 1 i1))]) hx hb dX4_pickBearing_14 rfl hl (by decide) rfl (fun ls hl => ?_)
  refine lv_iconst (v := (0 : Int32)) hx hb dX4_pickBearing_15 (by decide) ?_
  refine lv_istore_n (lv' := [(3, .int (0 : Int32)), (2, .int ((1 : Int32) <<< ((gA w 25 (2 + i1) (gF w 4 4 0).toNatClampNeg) &&& 31))), (0, .ref (ad 4 0)), (1, .ref (ad 1 i1))]) hx hb dX4_pickBearing_16 rfl hl (by decide) rfl (fun ls hl => ?_)
  refine lv_iconst (v := (0 : Int32)) hx hb dX4_pickBearing_17 (by decide) ?_
  refine lv_istore (lv' := [(4, .int (0 : Int32)), (3, .int (0 : Int32)), (2, .int ((1 : Int32) <<< ((gA w 25 (2 + i1) (gF w 4 4 0).toNatClampNeg) &&& 31))), (0, .ref (ad 4 0)), (1, .ref (ad 1 i1))]) hx hb dX4_pickBearing_18 hl (by decide) rfl (fun ls hl => ?_)
  exact L_lp_X4_pickBearing_20 w _ (fun u2_2 hf H locs ls hP hS hl => P_f_X4_pickBearing_94 w u2_2 hf _ _ ls hP hS (lv_sub hl [0, 1, 2] rfl)) N ((1 : Int32) <<< ((gA w 25 (2 + i1) (gF w 4 4 0).toNatClampNeg) &&& 31)) (0 : Int32) (0 : Int32) hf _ _ ls hP hS (lv_sub hl [3, 4, 2, 1, 0] rfl)
def f_X4_begin (N : Nat) (w : Mem) (i1 : Nat) (x2 : Int32) (x3 : Int32) : Option (Mem) :=
  (Option.bind (f_X4_pickBearing N (sF (sF w 4 4 0 x2) 4 5 0 x3) i1) (fun z1 => (if inb (gF z1 4 3 0) 13 = true then (Option.bind (f_X1_closeBy N z1 i1 (0 : Int32) (4 + (gF z1 4 3 0).toNatClampNeg)) (fun z4 => some z4)) else none)))
set_option maxRecDepth 100000 in
set_option maxHeartbeats 4000000 in
theorem c_X4_begin (l : Launch) (D : va_G) (ca : Nat → ClassId) (ad : Nat → Nat → Nat) (PL : List (Nat × Nat)) (Z : State → Prop) (A : Nat → Prop) (hok : okc bX Z A ad PL) (N : Nat) (w : Mem) (i1 : Nat) (h1 : i1 < 2) (x2 : Int32) (x3 : Int32) (w' : Mem) (hf : f_X4_begin N w i1 x2 x3 = some w') : CT l yX4_begin (wsy yX4_begin cX4_begin 4 none) (rmk 5) D ca ad PL Z A [.ref (ad 4 0), .ref (ad 1 i1), .int x2, .int x3] w w' none := by
  refine Met.ofW (cc := cX4_begin) (maxL := 4) (ret := none) (by decide +kernel) rfl ?_
  intro p e s m args below meth c s₁ B hml hv
  obtain ⟨rfl, hP, hK, hZ⟩ := hv
  have hx := B.exec
  have hb := B.bytes
  have hr := B.returns
  have hlocks := B.notSynchronized
  have hts : ∀ w ∈ ALL, w.before _ s = true := fun w hw => atoms_spec (ws := wsy yX4_begin cX4_begin 4 none) B.pre w (List.mem_cons_of_mem _ hw)
  have hown : s.vm.findClass RX4 = some m.cls := findClass_of_methodNamed B.named
  have C : CX p s m _ c cX4_begin RX4 4 D ca Z := ⟨hx, hb, hml, hown, hts, hK, hZ⟩
  have hS : va_S A s.heap s.heap [] := va_S.rf
  have hl := lv_entry ([.ref (ad 4 0), .ref (ad 1 i1), .int x2, .int x3]) (n := 4) (Nat.le_of_ble_eq_true rfl)
  rw [lg_entry_eq]
  generalize (lg_sl ([.ref (ad 4 0), .ref (ad 1 i1), .int x2, .int x3]) ++ List.replicate (4 - (lg_sl ([.ref (ad 4 0), .ref (ad 1 i1), .int x2, .int x3])).length) Slot.unset).toArray = ls at hl ⊢
  have hl : lv_has ls 4 [(0, .ref (ad 4 0)), (1, .ref (ad 1 i1)), (2, .int x2), (3, .int x3)] := hl
  show W p l e (rmk 5) s m _ below meth c s.heap [] 0 0 _ _
  unfold f_X4_begin at hf
  -- walk
  refine lv_aload_n hx hb dX4_begin_0 rfl (lv_at hl 0 rfl) ?_
  refine lv_iload_n hx hb dX4_begin_1 rfl (lv_at hl 2 rfl) ?_
  refine pt_4_4 (i := 0) (v := x2) C hok.1 hP hS (hok.2.1 4 0 (Nat.le_of_ble_eq_true rfl)) lk_X4_54 dX4_begin_2 (fun H locs hP hS => ?_)
  refine lv_aload_n hx hb dX4_begin_5 rfl (lv_at hl 0 rfl) ?_
  refine lv_iload_n hx hb dX4_begin_6 rfl (lv_at hl 3 rfl) ?_
  refine pt_4_5 (i := 0) (v := x3) C hok.1 hP hS (hok.2.1 4 0 (Nat.le_of_ble_eq_true rfl)) lk_X4_57 dX4_begin_7 (fun H locs hP hS => ?_)
  refine lv_aload_n hx hb dX4_begin_10 rfl (lv_at hl 0 rfl) ?_
  refine lv_aload_n hx hb dX4_begin_11 rfl (lv_at hl 1 rfl) ?_
  obtain ⟨z1, q2, hf⟩ := bsp hf
  refine kc_V (ci := 4) (i := 0) (As := [.ref (ad 1 i1)]) (rest := []) hok.2.2.1 C hP hS hl.1 (hok.2.1 4 0 (Nat.le_of_ble_eq_true rfl)) rfl rfl cw_X4_pickBearing ml_X4_60 (c_X4_pickBearing l D ca ad PL Z A hok N (sF (sF w 4 4 0 x2) 4 5 0 x3) i1 h1 z1 q2) rfl ⟨rfl, rfl⟩ ⟨Nat.le_of_ble_eq_true rfl, Nat.le_of_ble_eq_true rfl⟩ ⟨Nat.zero_le _, Nat.zero_le _⟩ (Nat.le_of_ble_eq_true rfl) rfl dX4_begin_12 (fun H locs hP hS => ?_)
  refine lv_aload_n hx hb dX4_begin_15 rfl (lv_at hl 1 rfl) ?_
  refine lv_iconst (v := (0 : Int32)) hx hb dX4_begin_16 (by decide) ?_
  refine lv_aload_n hx hb dX4_begin_17 rfl (lv_at hl 0 rfl) ?_
  refine gt_4_0 (i := 0) C hP (hok.2.1 4 0 (Nat.le_of_ble_eq_true rfl)) lk_X4_11 dX4_begin_18 ?_
  refine lv_aload_n hx hb dX4_begin_21 rfl (lv_at hl 0 rfl) ?_
  refine gt_4_3 (i := 0) C hP (hok.2.1 4 0 (Nat.le_of_ble_eq_true rfl)) lk_X4_41 dX4_begin_22 ?_
  obtain ⟨b3, hf⟩ := gsp hf
  refine ra_qld (k := 26) (i := 0) (n := 13) (f := (fun j => ad 3 (4 + j))) C hP (hok.2.1 26 0 (Nat.le_of_ble_eq_true rfl)) rfl b3 dX4_begin_25 ?_
  obtain ⟨z4, q5, hf⟩ := bsp hf
  refine kc_V (ci := 1) (i := i1) (As := [.int (0 : Int32), .ref (ad 3 (4 + (gF z1 4 3 0).toNatClampNeg))]) (rest := []) hok.2.2.1 C hP hS hl.1 (hok.2.1 1 i1 h1) rfl rfl cw_X1_closeBy ml_X4_64 (c_X1_closeBy l D ca ad PL Z A hok N z1 i1 h1 (0 : Int32) (4 + (gF z1 4 3 0).toNatClampNeg) (Nat.add_lt_add_left (inb_lt b3) 4) z4 q5) rfl ⟨rfl, rfl⟩ ⟨Nat.le_of_ble_eq_true rfl, Nat.le_of_ble_eq_true rfl⟩ ⟨Nat.zero_le _, Nat.zero_le _⟩ (Nat.le_of_ble_eq_true rfl) rfl dX4_begin_26 (fun H locs hP hS => ?_)
  exact kr_v hok.2.2.1 C hlocks hr hP hS (Option.some.inj hf) dX4_begin_29
def f_X4_note_54 (N : Nat) (w : Mem)  : Option (Mem) :=
  some w
def lp_X4_note_23 (k : Mem → Option (Mem)) (N : Nat)  (v1 : Int32) (v2 : Int32) : Nat → Mem → Int32 → Option (Mem)
  | 0, _, _ => none
  | n + 1, w, v3 => (if (v1 + v2) ≤ v3 then
(k w)
else
(if inb (ushr v3 (6 : Int32)) 64 = true then (lp_X4_note_23 k N   v1 v2 n (sL w 28 0 (ushr v3 (6 : Int32)).toNatClampNeg ((gL w 28 0 (ushr v3 (6 : Int32)).toNatClampNeg) ||| (lshl (1 : Int64) (v3 &&& (63 : Int32))))) (v3 + (1 : Int32))) else none))
def f_X4_note (N : Nat) (w : Mem) (x1 : Int32) (x2 : Int32) : Option (Mem) :=
  (if (gF w 4 6 0) = (0 : Int32) then
(lp_X4_note_23 (fun (w_1 : Mem) => (f_X4_note_54 N w_1   )) N   x1 x2 N w x1)
else
(Option.bind (f_J6_bitCount_0f7a4 N (sF w 4 8 0 x1) x1) (fun z4 => some (sF (sF w 4 8 0 x1) 4 7 0 z4))))
set_option maxRecDepth 100000 in
set_option maxHeartbeats 4000000 in
theorem c_X4_note (l : Launch) (D : va_G) (ca : Nat → ClassId) (ad : Nat → Nat → Nat) (PL : List (Nat × Nat)) (Z : State → Prop) (A : Nat → Prop) (hok : okc bX Z A ad PL) (N : Nat) (w : Mem) (x1 : Int32) (x2 : Int32) (w' : Mem) (hf : f_X4_note N w x1 x2 = some w') : CT l yX4_note (wsy yX4_note cX4_note 4 none) (rmk 1) D ca ad PL Z A [.ref (ad 4 0), .int x1, .int x2] w w' none := by
  refine Met.ofW (cc := cX4_note) (maxL := 4) (ret := none) (by decide +kernel) rfl ?_
  intro p e s m args below meth c s₁ B hml hv
  obtain ⟨rfl, hP, hK, hZ⟩ := hv
  have hx := B.exec
  have hb := B.bytes
  have hr := B.returns
  have hlocks := B.notSynchronized
  have hts : ∀ w ∈ ALL, w.before _ s = true := fun w hw => atoms_spec (ws := wsy yX4_note cX4_note 4 none) B.pre w (List.mem_cons_of_mem _ hw)
  have hown : s.vm.findClass RX4 = some m.cls := findClass_of_methodNamed B.named
  have C : CX p s m _ c cX4_note RX4 4 D ca Z := ⟨hx, hb, hml, hown, hts, hK, hZ⟩
  have hS : va_S A s.heap s.heap [] := va_S.rf
  have hl := lv_entry ([.ref (ad 4 0), .int x1, .int x2]) (n := 4) (Nat.le_of_ble_eq_true rfl)
  rw [lg_entry_eq]
  generalize (lg_sl ([.ref (ad 4 0), .int x1, .int x2]) ++ List.replicate (4 - (lg_sl ([.ref (ad 4 0), .int x1, .int x2])).length) Slot.unset).toArray = ls at hl ⊢
  have hl : lv_has ls 4 [(0, .ref (ad 4 0)), (1, .int x1), (2, .int x2)] := hl
  show W p l e (rmk 1) s m _ below meth c s.heap [] 0 0 _ _
  have P_f_X4_note_54 : ∀ (w : Mem), f_X4_note_54 N w    = some w' → WP p l e (rmk 1) s m [.ref (ad 4 0), .int x1, .int x2].toArray below meth c D ca ad PL A (MQ below (qcR D ca ad PL Z A w' none) [.ref (ad 4 0), .int x1, .int x2].toArray s 0 0 A) 4 54 [] [] w := by
    intro w hf _ _ ls hP hS hl
    unfold f_X4_note_54 at hf
    exact kr_v hok.2.2.1 C hlocks hr hP hS (Option.some.inj hf) dX4_note_54
  have L_lp_X4_note_23 : ∀ (v1 : Int32) (v2 : Int32) (k : Mem → Option (Mem)) (hk : ∀ (w : Mem), k w = some w' → WP p l e (rmk 1) s m [.ref (ad 4 0), .int x1, .int x2].toArray below meth c D ca ad PL A (MQ below (qcR D ca ad PL Z A w' none) [.ref (ad 4 0), .int x1, .int x2].toArray s 0 0 A) 4 54 [] [] w) (n : Nat) (w : Mem) (v3 : Int32), lp_X4_note_23 k N   v1 v2 n w v3 = some w' → WP p l e (rmk 1) s m [.ref (ad 4 0), .int x1, .int x2].toArray below meth c D ca ad PL A (MQ below (qcR D ca ad PL Z A w' none) [.ref (ad 4 0), .int x1, .int x2].toArray s 0 0 A) 4 23 [] [(0, .ref (ad 4 0)), (1, .int v1), (2, .int v2), (3, .int v3)] w := by
    intro v1 v2 k hk n
    induction n with
    | zero => intro w v3 hf; rw [lp_X4_note_23] at hf; cases hf
    | succ n ih =>
      intro w v3 hf _ _ ls hP hS hl
      rw [lp_X4_note_23] at hf
      refine lv_iload_n hx hb dX4_note_23 rfl (lv_at hl 3 rfl) ?_
      refine lv_iload_n hx hb dX4_note_24 rfl (lv_at hl 1 rfl) ?_
      refine lv_iload_n hx hb dX4_note_25 rfl (lv_at hl 2 rfl) ?_
      refine lv_iadd hx hb dX4_note_26 ?_
      refine lv_icmp_ge (tgt := 54) hx hb dX4_note_27 (by decide) (fun c3 => ?_) (fun c3 => ?_)
      · have hf := ifp hf c3
        exact hk w hf _ _ ls hP hS (lv_sub hl [] rfl)
      · have hf := ifn hf c3
        refine lv_aload_n hx hb dX4_note_30 rfl (lv_at hl 0 rfl) ?_
        refine gt_4_2 (i := 0) C hP (hok.2.1 4 0 (Nat.le_of_ble_eq_true rfl)) lk_X4_21 dX4_note_31 ?_
        refine lv_iload_n hx hb dX4_note_34 rfl (lv_at hl 3 rfl) ?_
        refine lv_bipush (v := (6 : Int32)) hx hb dX4_note_35 (by decide) ?_
        refine lv_iushr (v := (ushr v3 (6 : Int32))) hx hb dX4_note_37 rfl ?_
        refine lv_dup2_11 hx hb dX4_note_38 rfl rfl ?_
        obtain ⟨b2, hf⟩ := gsp hf
        refine ra_lld (k := 28) (i := 0) (n := 64) (f := (gL w 28 0)) C hP (hok.2.1 28 0 (Nat.le_of_ble_eq_true rfl)) rfl b2 dX4_note_39 ?_
        refine lv_lconst (v := (1 : Int64)) hx hb dX4_note_40 (by decide) ?_
        refine lv_iload_n hx hb dX4_note_41 rfl (lv_at hl 3 rfl) ?_
        refine lv_bipush (v := (63 : Int32)) hx hb dX4_note_42 (by decide) ?_
        refine lv_iand hx hb dX4_note_44 ?_
        refine lv_lshl (v := (lshl (1 : Int64) (v3 &&& (63 : Int32)))) hx hb dX4_note_45 rfl ?_
        refine lv_lor hx hb dX4_note_46 ?_
        refine ra_lst (k := 28) (i := 0) (n := 64) C hok.1 hP hS (hok.2.1 28 0 (Nat.le_of_ble_eq_true rfl)) (fun _ => rfl) b2 dX4_note_47 (fun H locs hP hS => ?_)
        refine lv_iinc (v := (v3 + (1 : Int32))) (lv' := [(3, .int (v3 + (1 : Int32))), (0, .ref (ad 4 0)), (1, .int v1), (2, .int v2)]) hx hb dX4_note_48 hl (k := 3) rfl rfl (by decide) rfl (fun ls hl => ?_)
        refine lv_goto (tgt := 23) hx hb dX4_note_51 (by decide) ?_
        exact ih (sL w 28 0 (ushr v3 (6 : Int32)).toNatClampNeg ((gL w 28 0 (ushr v3 (6 : Int32)).toNatClampNeg) ||| (lshl (1 : Int64) (v3 &&& (63 : Int32))))) (v3 + (1 : Int32)) hf _ _ ls hP hS (lv_sub hl [1, 2, 3, 0] rfl)
  unfold f_X4_note at hf
  -- walk
  refine lv_aload_n hx hb dX4_note_0 rfl (lv_at hl 0 rfl) ?_
  refine gt_4_6 (i := 0) C hP (hok.2.1 4 0 (Nat.le_of_ble_eq_true rfl)) lk_X4_30 dX4_note_1 ?_
  refine lv_if_eq (tgt := 21) hx hb dX4_note_4 (by decide) (fun c6 => ?_) (fun c6 => ?_)
  · have hf := ifp hf c6
    refine lv_iload_n hx hb dX4_note_21 rfl (lv_at hl 1 rfl) ?_
    refine lv_istore_n (lv' := [(3, .int x1), (0, .ref (ad 4 0)), (1, .int x1), (2, .int x2)]) hx hb dX4_note_22 rfl hl (by decide) rfl (fun ls hl => ?_)
    exact L_lp_X4_note_23 x1 x2 _ (fun w_1 hf H locs ls hP hS hl => P_f_X4_note_54 w_1 hf _ _ ls hP hS (lv_sub hl [] rfl)) N w x1 hf _ _ ls hP hS (lv_sub hl [1, 2, 3, 0] rfl)
  · have hf := ifn hf c6
    refine lv_aload_n hx hb dX4_note_7 rfl (lv_at hl 0 rfl) ?_
    refine lv_iload_n hx hb dX4_note_8 rfl (lv_at hl 1 rfl) ?_
    refine pt_4_8 (i := 0) (v := x1) C hok.1 hP hS (hok.2.1 4 0 (Nat.le_of_ble_eq_true rfl)) lk_X4_38 dX4_note_9 (fun H locs hP hS => ?_)
    refine lv_aload_n hx hb dX4_note_12 rfl (lv_at hl 0 rfl) ?_
    refine lv_iload_n hx hb dX4_note_13 rfl (lv_at hl 1 rfl) ?_
    obtain ⟨z4, q5, hf⟩ := bsp hf
    refine kc_S (As := [.int x1]) (rest := [.ref (ad 4 0)]) hok.2.2.1 C hP hS hl.1 cw_J6_bitCount_0f7a4 ml_X4_104 (c_J6_bitCount_0f7a4 l D ca ad PL Z A (okJ hok) N (sF w 4 8 0 x1) x1 z4 q5) rfl ⟨rfl, rfl⟩ ⟨Nat.le_of_ble_eq_true rfl, Nat.le_of_ble_eq_true rfl⟩ ⟨Nat.zero_le _, Nat.zero_le _⟩ (Nat.le_of_ble_eq_true rfl) rfl dX4_note_14 (fun H locs hP hS => ?_)
    refine pt_4_7 (i := 0) (v := z4) C hok.1 hP hS (hok.2.1 4 0 (Nat.le_of_ble_eq_true rfl)) lk_X4_34 dX4_note_17 (fun H locs hP hS => ?_)
    exact kr_v hok.2.2.1 C hlocks hr hP hS (Option.some.inj hf) dX4_note_20
def f_X4_canDoWithout_61 (N : Nat) (w : Mem) (i1 : Nat) (v2 : Int32) : Option (Mem × Int32) :=
  (if inb v2 13 = true then (Option.bind (f_X7_close N w i1 (4 + v2.toNatClampNeg)) (fun z7 => (Option.bind (f_X3_one N z7 (4 + v2.toNatClampNeg) (gF z7 4 4 0) (gF z7 4 5 0)) (fun z9 => (if z9 = 0 ∨ z9 = 1 then some (z7, z9) else none))))) else none)
def lp_X4_canDoWithout_19 (k : Mem → Option (Mem × Int32)) (N : Nat) (i1 : Nat) (v2 : Int32) : Nat → Mem → Int32 → Option (Mem × Int32)
  | 0, _, _ => none
  | n + 1, w, v3 => (if v2 ≤ v3 then
(k w)
else
(if inb v2 13 = true then (if inb v3 12 = true then (if inb (gA w 27 0 v3.toNatClampNeg) 12 = true then (Option.bind (f_X3_unite N w (4 + v2.toNatClampNeg) (gA w 13 i1 (gA w 27 0 v3.toNatClampNeg).toNatClampNeg) (gA w 14 i1 (gA w 27 0 v3.toNatClampNeg).toNatClampNeg)) (fun z15 => (lp_X4_canDoWithout_19 k N  i1 v2 n z15 (v3 + (1 : Int32))))) else none) else none) else none))
def f_X4_canDoWithout (N : Nat) (w : Mem) (i1 : Nat) (x2 : Int32) : Option (Mem × Int32) :=
  (if inb x2 13 = true then (if inb (x2 + (1 : Int32)) 13 = true then (Option.bind (f_X3_copyFrom N w (4 + x2.toNatClampNeg) (4 + (x2 + (1 : Int32)).toNatClampNeg)) (fun z3 => (lp_X4_canDoWithout_19 (fun (w_5 : Mem) => (f_X4_canDoWithout_61 N w_5 i1 x2 )) N  i1 x2 N z3 (0 : Int32)))) else none) else none)
set_option maxRecDepth 100000 in
set_option maxHeartbeats 4000000 in
theorem c_X4_canDoWithout (l : Launch) (D : va_G) (ca : Nat → ClassId) (ad : Nat → Nat → Nat) (PL : List (Nat × Nat)) (Z : State → Prop) (A : Nat → Prop) (hok : okc bX Z A ad PL) (N : Nat) (w : Mem) (i1 : Nat) (h1 : i1 < 2) (x2 : Int32) (w' : Mem) (r : Int32) (hf : f_X4_canDoWithout N w i1 x2 = some (w', r)) : CT l yX4_canDoWithout (wsy yX4_canDoWithout cX4_canDoWithout 4 (some .boolean)) (rmk 4) D ca ad PL Z A [.ref (ad 4 0), .ref (ad 1 i1), .int x2] w w' (some (.int r)) := by
  refine Met.ofW (cc := cX4_canDoWithout) (maxL := 4) (ret := (some .boolean)) (by decide +kernel) rfl ?_
  intro p e s m args below meth c s₁ B hml hv
  obtain ⟨rfl, hP, hK, hZ⟩ := hv
  have hx := B.exec
  have hb := B.bytes
  have hr := B.returns
  have hlocks := B.notSynchronized
  have hts : ∀ w ∈ ALL, w.before _ s = true := fun w hw => atoms_spec (ws := wsy yX4_canDoWithout cX4_canDoWithout 4 (some .boolean)) B.pre w (List.mem_cons_of_mem _ hw)
  have hown : s.vm.findClass RX4 = some m.cls := findClass_of_methodNamed B.named
  have C : CX p s m _ c cX4_canDoWithout RX4 4 D ca Z := ⟨hx, hb, hml, hown, hts, hK, hZ⟩
  have hS : va_S A s.heap s.heap [] := va_S.rf
  have hl := lv_entry ([.ref (ad 4 0), .ref (ad 1 i1), .int x2]) (n := 4) (Nat.le_of_ble_eq_true rfl)
  rw [lg_entry_eq]
  generalize (lg_sl ([.ref (ad 4 0), .ref (ad 1 i1), .int x2]) ++ List.replicate (4 - (lg_sl ([.ref (ad 4 0), .ref (ad 1 i1), .int x2])).length) Slot.unset).toArray = ls at hl ⊢
  have hl : lv_has ls 4 [(0, .ref (ad 4 0)), (1, .ref (ad 1 i1)), (2, .int x2)] := hl
  show W p l e (rmk 4) s m _ below meth c s.heap [] 0 0 _ _
  have P_f_X4_canDoWithout_61 : ∀ (w : Mem) (v2 : Int32), f_X4_canDoWithout_61 N w i1 v2  = some (w', r) → WP p l e (rmk 4) s m [.ref (ad 4 0), .ref (ad 1 i1), .int x2].toArray below meth c D ca ad PL A (MQ below (qcR D ca ad PL Z A w' (some (.int r))) [.ref (ad 4 0), .ref (ad 1 i1), .int x2].toArray s 0 0 A) 4 61 [] [(0, .ref (ad 4 0)), (1, .ref (ad 1 i1)), (2, .int v2)] w := by
    intro w v2 hf _ _ ls hP hS hl
    unfold f_X4_canDoWithout_61 at hf
    refine lv_aload_n hx hb dX4_canDoWithout_61 rfl (lv_at hl 1 rfl) ?_
    refine gt_1_0 (i := i1) C hP (hok.2.1 1 i1 h1) lk_X4_77 dX4_canDoWithout_62 ?_
    refine lv_aload_n hx hb dX4_canDoWithout_65 rfl (lv_at hl 0 rfl) ?_
    refine gt_4_0 (i := 0) C hP (hok.2.1 4 0 (Nat.le_of_ble_eq_true rfl)) lk_X4_11 dX4_canDoWithout_66 ?_
    refine lv_iload_n hx hb dX4_canDoWithout_69 rfl (lv_at hl 2 rfl) ?_
    obtain ⟨b6, hf⟩ := gsp hf
    refine ra_qld (k := 26) (i := 0) (n := 13) (f := (fun j => ad 3 (4 + j))) C hP (hok.2.1 26 0 (Nat.le_of_ble_eq_true rfl)) rfl b6 dX4_canDoWithout_70 ?_
    obtain ⟨z7, q8, hf⟩ := bsp hf
    refine kc_V (ci := 7) (i := i1) (As := [.ref (ad 3 (4 + v2.toNatClampNeg))]) (rest := []) hok.2.2.1 C hP hS hl.1 (hok.2.1 7 i1 h1) rfl rfl cw_X7_close ml_X4_128 (c_X7_close l D ca ad PL Z A hok N w i1 h1 (4 + v2.toNatClampNeg) (Nat.add_lt_add_left (inb_lt b6) 4) z7 q8) rfl ⟨rfl, rfl⟩ ⟨Nat.le_of_ble_eq_true rfl, Nat.le_of_ble_eq_true rfl⟩ ⟨Nat.zero_le _, Nat.zero_le _⟩ (Nat.le_of_ble_eq_true rfl) rfl dX4_canDoWithout_71 (fun H locs hP hS => ?_)
    refine lv_aload_n hx hb dX4_canDoWithout_74 rfl (lv_at hl 0 rfl) ?_
    refine gt_4_0 (i := 0) C hP (hok.2.1 4 0 (Nat.le_of_ble_eq_true rfl)) lk_X4_11 dX4_canDoWithout_75 ?_
    refine lv_iload_n hx hb dX4_canDoWithout_78 rfl (lv_at hl 2 rfl) ?_
    refine ra_qld (k := 26) (i := 0) (n := 13) (f := (fun j => ad 3 (4 + j))) C hP (hok.2.1 26 0 (Nat.le_of_ble_eq_true rfl)) rfl b6 dX4_canDoWithout_79 ?_
    refine lv_aload_n hx hb dX4_canDoWithout_80 rfl (lv_at hl 0 rfl) ?_
    refine gt_4_4 (i := 0) C hP (hok.2.1 4 0 (Nat.le_of_ble_eq_true rfl)) lk_X4_54 dX4_canDoWithout_81 ?_
    refine lv_aload_n hx hb dX4_canDoWithout_84 rfl (lv_at hl 0 rfl) ?_
    refine gt_4_5 (i := 0) C hP (hok.2.1 4 0 (Nat.le_of_ble_eq_true rfl)) lk_X4_57 dX4_canDoWithout_85 ?_
    obtain ⟨z9, q10, hf⟩ := bsp hf
    refine kc_V (ci := 3) (i := (4 + v2.toNatClampNeg)) (As := [.int (gF z7 4 4 0), .int (gF z7 4 5 0)]) (rest := []) hok.2.2.1 C hP hS hl.1 (hok.2.1 3 (4 + v2.toNatClampNeg) (Nat.add_lt_add_left (inb_lt b6) 4)) rfl rfl cw_X3_one ml_X4_96 (c_X3_one l D ca ad PL Z A hok N z7 (4 + v2.toNatClampNeg) (Nat.add_lt_add_left (inb_lt b6) 4) (gF z7 4 4 0) (gF z7 4 5 0) z9 q10) rfl ⟨rfl, rfl⟩ ⟨Nat.le_of_ble_eq_true rfl, Nat.le_of_ble_eq_true rfl⟩ ⟨Nat.zero_le _, Nat.zero_le _⟩ (Nat.le_of_ble_eq_true rfl) rfl dX4_canDoWithout_88 (fun H locs hP hS => ?_)
    obtain ⟨b11, hf⟩ := gsp hf
    exact kr_i hok.2.2.1 C hlocks hr (nar_z b11) hP hS (congrArg Prod.fst (Option.some.inj hf)) (congrArg Prod.snd (Option.some.inj hf)) dX4_canDoWithout_91
  have L_lp_X4_canDoWithout_19 : ∀ (v2 : Int32) (k : Mem → Option (Mem × Int32)) (hk : ∀ (w : Mem), k w = some (w', r) → WP p l e (rmk 4) s m [.ref (ad 4 0), .ref (ad 1 i1), .int x2].toArray below meth c D ca ad PL A (MQ below (qcR D ca ad PL Z A w' (some (.int r))) [.ref (ad 4 0), .ref (ad 1 i1), .int x2].toArray s 0 0 A) 4 61 [] [(0, .ref (ad 4 0)), (1, .ref (ad 1 i1)), (2, .int v2)] w) (n : Nat) (w : Mem) (v3 : Int32), lp_X4_canDoWithout_19 k N  i1 v2 n w v3 = some (w', r) → WP p l e (rmk 4) s m [.ref (ad 4 0), .ref (ad 1 i1), .int x2].toArray below meth c D ca ad PL A (MQ below (qcR D ca ad PL Z A w' (some (.int r))) [.ref (ad 4 0), .ref (ad 1 i1), .int x2].toArray s 0 0 A) 4 19 [] [(0, .ref (ad 4 0)), (1, .ref (ad 1 i1)), (2, .int v2), (3, .int v3)] w := by
    intro v2 k hk n
    induction n with
    | zero => intro w v3 hf; rw [lp_X4_canDoWithout_19] at hf; cases hf
    | succ n ih =>
      intro w v3 hf _ _ ls hP hS hl
      rw [lp_X4_canDoWithout_19] at hf
      refine lv_iload_n hx hb dX4_canDoWithout_19 rfl (lv_at hl 3 rfl) ?_
      refine lv_iload_n hx hb dX4_canDoWithout_20 rfl (lv_at hl 2 rfl) ?_
      refine lv_icmp_ge (tgt := 61) hx hb dX4_canDoWithout_21 (by decide) (fun c17 => ?_) (fun c17 => ?_)
      · have hf := ifp hf c17
        exact hk w hf _ _ ls hP hS (lv_sub hl [0, 1, 2] rfl)
      · have hf := ifn hf c17
        refine lv_aload_n hx hb dX4_canDoWithout_24 rfl (lv_at hl 0 rfl) ?_
        refine gt_4_0 (i := 0) C hP (hok.2.1 4 0 (Nat.le_of_ble_eq_true rfl)) lk_X4_11 dX4_canDoWithout_25 ?_
        refine lv_iload_n hx hb dX4_canDoWithout_28 rfl (lv_at hl 2 rfl) ?_
        obtain ⟨b12, hf⟩ := gsp hf
        refine ra_qld (k := 26) (i := 0) (n := 13) (f := (fun j => ad 3 (4 + j))) C hP (hok.2.1 26 0 (Nat.le_of_ble_eq_true rfl)) rfl b12 dX4_canDoWithout_29 ?_
        refine lv_aload_n hx hb dX4_canDoWithout_30 rfl (lv_at hl 1 rfl) ?_
        refine gt_1_3 (i := i1) C hP (hok.2.1 1 i1 h1) lk_X4_93 dX4_canDoWithout_31 ?_
        refine lv_aload_n hx hb dX4_canDoWithout_34 rfl (lv_at hl 0 rfl) ?_
        refine gt_4_1 (i := 0) C hP (hok.2.1 4 0 (Nat.le_of_ble_eq_true rfl)) lk_X4_17 dX4_canDoWithout_35 ?_
        refine lv_iload_n hx hb dX4_canDoWithout_38 rfl (lv_at hl 3 rfl) ?_
        obtain ⟨b13, hf⟩ := gsp hf
        refine ra_ild (k := 27) (i := 0) (n := 12) (f := (gA w 27 0)) C hP (hok.2.1 27 0 (Nat.le_of_ble_eq_true rfl)) rfl b13 dX4_canDoWithout_39 ?_
        obtain ⟨b14, hf⟩ := gsp hf
        refine ra_ild (k := 13) (i := i1) (n := 12) (f := (gA w 13 i1)) C hP (hok.2.1 13 i1 h1) rfl b14 dX4_canDoWithout_40 ?_
        refine lv_aload_n hx hb dX4_canDoWithout_41 rfl (lv_at hl 1 rfl) ?_
        refine gt_1_4 (i := i1) C hP (hok.2.1 1 i1 h1) lk_X4_110 dX4_canDoWithout_42 ?_
        refine lv_aload_n hx hb dX4_canDoWithout_45 rfl (lv_at hl 0 rfl) ?_
        refine gt_4_1 (i := 0) C hP (hok.2.1 4 0 (Nat.le_of_ble_eq_true rfl)) lk_X4_17 dX4_canDoWithout_46 ?_
        refine lv_iload_n hx hb dX4_canDoWithout_49 rfl (lv_at hl 3 rfl) ?_
        refine ra_ild (k := 27) (i := 0) (n := 12) (f := (gA w 27 0)) C hP (hok.2.1 27 0 (Nat.le_of_ble_eq_true rfl)) rfl b13 dX4_canDoWithout_50 ?_
        refine ra_ild (k := 14) (i := i1) (n := 12) (f := (gA w 14 i1)) C hP (hok.2.1 14 i1 h1) rfl b14 dX4_canDoWithout_51 ?_
        obtain ⟨z15, q16, hf⟩ := bsp hf
        refine kc_V (ci := 3) (i := (4 + v2.toNatClampNeg)) (As := [.int (gA w 13 i1 (gA w 27 0 v3.toNatClampNeg).toNatClampNeg), .int (gA w 14 i1 (gA w 27 0 v3.toNatClampNeg).toNatClampNeg)]) (rest := []) hok.2.2.1 C hP hS hl.1 (hok.2.1 3 (4 + v2.toNatClampNeg) (Nat.add_lt_add_left (inb_lt b12) 4)) rfl rfl cw_X3_unite ml_X4_125 (c_X3_unite l D ca ad PL Z A hok N w (4 + v2.toNatClampNeg) (Nat.add_lt_add_left (inb_lt b12) 4) (gA w 13 i1 (gA w 27 0 v3.toNatClampNeg).toNatClampNeg) (gA w 14 i1 (gA w 27 0 v3.toNatClampNeg).toNatClampNeg) z15 q16) rfl ⟨rfl, rfl⟩ ⟨Nat.le_of_ble_eq_true rfl, Nat.le_of_ble_eq_true rfl⟩ ⟨Nat.zero_le _, Nat.zero_le _⟩ (Nat.le_of_ble_eq_true rfl) rfl dX4_canDoWithout_52 (fun H locs hP hS => ?_)
        refine lv_iinc (v := (v3 + (1 : Int32))) (lv' := [(3, .int (v3 + (1 : Int32))), (0, .ref (ad 4 0)), (1, .ref (ad 1 i1)), (2, .int v2)]) hx hb dX4_canDoWithout_55 hl (k := 3) rfl rfl (by decide) rfl (fun ls hl => ?_)
        refine lv_goto (tgt := 19) hx hb dX4_canDoWithout_58 (by decide) ?_
        exact ih z15 (v3 + (1 : Int32)) hf _ _ ls hP hS (lv_sub hl [1, 2, 3, 0] rfl)
  unfold f_X4_canDoWithout at hf
  -- walk
  refine lv_aload_n hx hb dX4_canDoWithout_0 rfl (lv_at hl 0 rfl) ?_
  refine gt_4_0 (i := 0) C hP (hok.2.1 4 0 (Nat.le_of_ble_eq_true rfl)) lk_X4_11 dX4_canDoWithout_1 ?_
  refine lv_iload_n hx hb dX4_canDoWithout_4 rfl (lv_at hl 2 rfl) ?_
  obtain ⟨b1, hf⟩ := gsp hf
  refine ra_qld (k := 26) (i := 0) (n := 13) (f := (fun j => ad 3 (4 + j))) C hP (hok.2.1 26 0 (Nat.le_of_ble_eq_true rfl)) rfl b1 dX4_canDoWithout_5 ?_
  refine lv_aload_n hx hb dX4_canDoWithout_6 rfl (lv_at hl 0 rfl) ?_
  refine gt_4_0 (i := 0) C hP (hok.2.1 4 0 (Nat.le_of_ble_eq_true rfl)) lk_X4_11 dX4_canDoWithout_7 ?_
  refine lv_iload_n hx hb dX4_canDoWithout_10 rfl (lv_at hl 2 rfl) ?_
  refine lv_iconst (v := (1 : Int32)) hx hb dX4_canDoWithout_11 (by decide) ?_
  refine lv_iadd hx hb dX4_canDoWithout_12 ?_
  obtain ⟨b2, hf⟩ := gsp hf
  refine ra_qld (k := 26) (i := 0) (n := 13) (f := (fun j => ad 3 (4 + j))) C hP (hok.2.1 26 0 (Nat.le_of_ble_eq_true rfl)) rfl b2 dX4_canDoWithout_13 ?_
  obtain ⟨z3, q4, hf⟩ := bsp hf
  refine kc_V (ci := 3) (i := (4 + x2.toNatClampNeg)) (As := [.ref (ad 3 (4 + (x2 + (1 : Int32)).toNatClampNeg))]) (rest := []) hok.2.2.1 C hP hS hl.1 (hok.2.1 3 (4 + x2.toNatClampNeg) (Nat.add_lt_add_left (inb_lt b1) 4)) rfl rfl cw_X3_copyFrom ml_X4_117 (c_X3_copyFrom l D ca ad PL Z A hok N w (4 + x2.toNatClampNeg) (Nat.add_lt_add_left (inb_lt b1) 4) (4 + (x2 + (1 : Int32)).toNatClampNeg) (Nat.add_lt_add_left (inb_lt b2) 4) z3 q4) rfl ⟨rfl, rfl⟩ ⟨Nat.le_of_ble_eq_true rfl, Nat.le_of_ble_eq_true rfl⟩ ⟨Nat.zero_le _, Nat.zero_le _⟩ (Nat.le_of_ble_eq_true rfl) rfl dX4_canDoWithout_14 (fun H locs hP hS => ?_)
  refine lv_iconst (v := (0 : Int32)) hx hb dX4_canDoWithout_17 (by decide) ?_
  refine lv_istore_n (lv' := [(3, .int (0 : Int32)), (0, .ref (ad 4 0)), (1, .ref (ad 1 i1)), (2, .int x2)]) hx hb dX4_canDoWithout_18 rfl hl (by decide) rfl (fun ls hl => ?_)
  exact L_lp_X4_canDoWithout_19 x2 _ (fun w_5 hf H locs ls hP hS hl => P_f_X4_canDoWithout_61 w_5 x2 hf _ _ ls hP hS (lv_sub hl [0, 1, 2] rfl)) N z3 (0 : Int32) hf _ _ ls hP hS (lv_sub hl [1, 2, 3, 0] rfl)
def f_X4_visit (N : Nat) : Nat → Mem → Nat → Int32 → Int32 → Option (Mem)
  | 0, _, _, _, _ => none
  | nn + 1, w, i1, x2, x3 => (if inb x2 13 = true then (Option.bind (f_X3_one N w (4 + x2.toNatClampNeg) (gF w 4 4 0) (gF w 4 5 0)) (fun z2 => (if z2 = (0 : Int32) then
(if x2 = (0 : Int32) then
some w
else
(Option.bind (f_J6_bitCount_0f7a4 N w x3) (fun z4 => (if (z4 + (1 : Int32)) < (gF w 4 7 0) then
(if inb (x2 - (1 : Int32)) 12 = true then (if inb (gA w 27 0 (x2 - (1 : Int32)).toNatClampNeg) 12 = true then (Option.bind (f_X3_one N w (4 + x2.toNatClampNeg) (gA w 13 i1 (gA w 27 0 (x2 - (1 : Int32)).toNatClampNeg).toNatClampNeg) (gA w 14 i1 (gA w 27 0 (x2 - (1 : Int32)).toNatClampNeg).toNatClampNeg)) (fun z8 => (if z8 = (0 : Int32) then
(Option.bind (f_X4_canDoWithout N w i1 (x2 - (1 : Int32))) (fun z25 => (if z25.2 = (0 : Int32) then
(if z8 = (0 : Int32) then
(Option.bind (f_J6_bitCount_0f7a4 N z25.1 x3) (fun z27 => (if (gF z25.1 4 7 0) ≤ (z27 + (1 : Int32)) then
some z25.1
else
(if inb (x2 - (1 : Int32)) 13 = true then (Option.bind (f_X3_copyFrom N z25.1 (4 + (x2 - (1 : Int32)).toNatClampNeg) (4 + x2.toNatClampNeg)) (fun z30 => (Option.bind (f_X1_supposeSame N z30 i1 (gA w 13 i1 (gA w 27 0 (x2 - (1 : Int32)).toNatClampNeg).toNatClampNeg) (gA w 14 i1 (gA w 27 0 (x2 - (1 : Int32)).toNatClampNeg).toNatClampNeg) (4 + (x2 - (1 : Int32)).toNatClampNeg)) (fun z32 => (Option.bind (f_X4_visit N nn z32 i1 (x2 - (1 : Int32)) (x3 ||| ((1 : Int32) <<< ((x2 - (1 : Int32)) &&& 31)))) (fun z34 => some z34)))))) else none))))
else
some z25.1)
else
(if inb (x2 - (1 : Int32)) 13 = true then (Option.bind (f_X3_copyFrom N z25.1 (4 + (x2 - (1 : Int32)).toNatClampNeg) (4 + x2.toNatClampNeg)) (fun z39 => (Option.bind (f_X4_visit N nn z39 i1 (x2 - (1 : Int32)) x3) (fun z41 => (if z8 = (0 : Int32) then
(Option.bind (f_J6_bitCount_0f7a4 N z41 x3) (fun z43 => (if (gF z41 4 7 0) ≤ (z43 + (1 : Int32)) then
some z41
else
(Option.bind (f_X3_copyFrom N z41 (4 + (x2 - (1 : Int32)).toNatClampNeg) (4 + x2.toNatClampNeg)) (fun z45 => (Option.bind (f_X1_supposeSame N z45 i1 (gA w 13 i1 (gA w 27 0 (x2 - (1 : Int32)).toNatClampNeg).toNatClampNeg) (gA w 14 i1 (gA w 27 0 (x2 - (1 : Int32)).toNatClampNeg).toNatClampNeg) (4 + (x2 - (1 : Int32)).toNatClampNeg)) (fun z47 => (Option.bind (f_X4_visit N nn z47 i1 (x2 - (1 : Int32)) (x3 ||| ((1 : Int32) <<< ((x2 - (1 : Int32)) &&& 31)))) (fun z49 => some z49)))))))))
else
some z41))))) else none))))
else
(if inb (x2 - (1 : Int32)) 13 = true then (Option.bind (f_X3_copyFrom N w (4 + (x2 - (1 : Int32)).toNatClampNeg) (4 + x2.toNatClampNeg)) (fun z11 => (Option.bind (f_X4_visit N nn z11 i1 (x2 - (1 : Int32)) x3) (fun z13 => (if z8 = (0 : Int32) then
(Option.bind (f_J6_bitCount_0f7a4 N z13 x3) (fun z15 => (if (gF z13 4 7 0) ≤ (z15 + (1 : Int32)) then
some z13
else
(Option.bind (f_X3_copyFrom N z13 (4 + (x2 - (1 : Int32)).toNatClampNeg) (4 + x2.toNatClampNeg)) (fun z17 => (Option.bind (f_X1_supposeSame N z17 i1 (gA w 13 i1 (gA w 27 0 (x2 - (1 : Int32)).toNatClampNeg).toNatClampNeg) (gA w 14 i1 (gA w 27 0 (x2 - (1 : Int32)).toNatClampNeg).toNatClampNeg) (4 + (x2 - (1 : Int32)).toNatClampNeg)) (fun z19 => (Option.bind (f_X4_visit N nn z19 i1 (x2 - (1 : Int32)) (x3 ||| ((1 : Int32) <<< ((x2 - (1 : Int32)) &&& 31)))) (fun z21 => some z21)))))))))
else
some z13))))) else none)))) else none) else none)
else
some w))))
else
(Option.bind (f_X4_note N w x3 ((1 : Int32) <<< (x2 &&& 31))) (fun z57 => some z57))))) else none)
set_option maxRecDepth 100000 in
set_option maxHeartbeats 4000000 in
theorem c_X4_visit (l : Launch) (D : va_G) (ca : Nat → ClassId) (ad : Nat → Nat → Nat) (PL : List (Nat × Nat)) (Z : State → Prop) (A : Nat → Prop) (hok : okc bX Z A ad PL) (N : Nat) (nn : Nat) : ∀ (w : Mem) (i1 : Nat) (h1 : i1 < 2) (x2 : Int32) (x3 : Int32) (w' : Mem) (hf : f_X4_visit N nn w i1 x2 x3 = some w'), CT l yX4_visit (wsy yX4_visit cX4_visit 8 none) (rmk (5 + nn)) D ca ad PL Z A [.ref (ad 4 0), .ref (ad 1 i1), .int x2, .int x3] w w' none := by
  induction nn with
  | zero => intro w i1 h1 x2 x3 w' hf; rw [f_X4_visit] at hf; cases hf
  | succ nn ihn =>
  intro w i1 h1 x2 x3 w' hf
  refine Met.ofW (cc := cX4_visit) (maxL := 8) (ret := none) (by decide +kernel) rfl ?_
  intro p e s m args below meth c s₁ B hml hv
  obtain ⟨rfl, hP, hK, hZ⟩ := hv
  have hx := B.exec
  have hb := B.bytes
  have hr := B.returns
  have hlocks := B.notSynchronized
  have hts : ∀ w ∈ ALL, w.before _ s = true := fun w hw => atoms_spec (ws := wsy yX4_visit cX4_visit 8 none) B.pre w (List.mem_cons_of_mem _ hw)
  have hown : s.vm.findClass RX4 = some m.cls := findClass_of_methodNamed B.named
  have C : CX p s m _ c cX4_visit RX4 8 D ca Z := ⟨hx, hb, hml, hown, hts, hK, hZ⟩
  have hS : va_S A s.heap s.heap [] := va_S.rf
  have hl := lv_entry ([.ref (ad 4 0), .ref (ad 1 i1), .int x2, .int x3]) (n := 8) (Nat.le_of_ble_eq_true rfl)
  rw [lg_entry_eq]
  generalize (lg_sl ([.ref (ad 4 0), .ref (ad 1 i1), .int x2, .int x3]) ++ List.replicate (8 - (lg_sl ([.ref (ad 4 0), .ref (ad 1 i1), .int x2, .int x3])).length) Slot.unset).toArray = ls at hl ⊢
  have hl : lv_has ls 8 [(0, .ref (ad 4 0)), (1, .ref (ad 1 i1)), (2, .int x2), (3, .int x3)] := hl
  show W p l e (rmk (5 + (nn + 1))) s m _ below meth c s.heap [] 0 0 _ _
  rw [f_X4_visit] at hf
  -- walk
  refine lv_aload_n hx hb dX4_visit_0 rfl (lv_at hl 0 rfl) ?_
  refine gt_4_0 (i := 0) C hP (hok.2.1 4 0 (Nat.le_of_ble_eq_true rfl)) lk_X4_11 dX4_visit_1 ?_
  refine lv_iload_n hx hb dX4_visit_4 rfl (lv_at hl 2 rfl) ?_
  obtain ⟨b1, hf⟩ := gsp hf
  refine ra_qld (k := 26) (i := 0) (n := 13) (f := (fun j => ad 3 (4 + j))) C hP (hok.2.1 26 0 (Nat.le_of_ble_eq_true rfl)) rfl b1 dX4_visit_5 ?_
  refine lv_aload_n hx hb dX4_visit_6 rfl (lv_at hl 0 rfl) ?_
  refine gt_4_4 (i := 0) C hP (hok.2.1 4 0 (Nat.le_of_ble_eq_true rfl)) lk_X4_54 dX4_visit_7 ?_
  refine lv_aload_n hx hb dX4_visit_10 rfl (lv_at hl 0 rfl) ?_
  refine gt_4_5 (i := 0) C hP (hok.2.1 4 0 (Nat.le_of_ble_eq_true rfl)) lk_X4_57 dX4_visit_11 ?_
  obtain ⟨z2, q3, hf⟩ := bsp hf
  refine kc_V (ci := 3) (i := (4 + x2.toNatClampNeg)) (As := [.int (gF w 4 4 0), .int (gF w 4 5 0)]) (rest := []) hok.2.2.1 C hP hS hl.1 (hok.2.1 3 (4 + x2.toNatClampNeg) (Nat.add_lt_add_left (inb_lt b1) 4)) rfl rfl cw_X3_one ml_X4_96 (c_X3_one l D ca ad PL Z A hok N w (4 + x2.toNatClampNeg) (Nat.add_lt_add_left (inb_lt b1) 4) (gF w 4 4 0) (gF w 4 5 0) z2 q3) rfl ⟨rfl, rfl⟩ ⟨by show _ ≤ _; simp only [rmk]; omega, by show _ ≤ _; simp only [rmk]; omega⟩ ⟨Nat.zero_le _, Nat.zero_le _⟩ (Nat.le_of_ble_eq_true rfl) rfl dX4_visit_14 (fun H locs hP hS => ?_)
  refine lv_if_eq (tgt := 29) hx hb dX4_visit_17 (by decide) (fun c59 => ?_) (fun c59 => ?_)
  · have hf := ifp hf c59
    refine lv_iload_n hx hb dX4_visit_29 rfl (lv_at hl 2 rfl) ?_
    refine lv_if_eq (tgt := 46) hx hb dX4_visit_30 (by decide) (fun c56 => ?_) (fun c56 => ?_)
    · have hf := ifp hf c56
      exact kr_v hok.2.2.1 C hlocks hr hP hS (Option.some.inj hf) dX4_visit_46
    · have hf := ifn hf c56
      refine lv_iload_n hx hb dX4_visit_33 rfl (lv_at hl 3 rfl) ?_
      obtain ⟨z4, q5, hf⟩ := bsp hf
      refine kc_S (As := [.int x3]) (rest := []) hok.2.2.1 C hP hS hl.1 cw_J6_bitCount_0f7a4 ml_X4_104 (c_J6_bitCount_0f7a4 l D ca ad PL Z A (okJ hok) N w x3 z4 q5) rfl ⟨rfl, rfl⟩ ⟨by show _ ≤ _; simp only [rmk]; omega, by show _ ≤ _; simp only [rmk]; omega⟩ ⟨Nat.zero_le _, Nat.zero_le _⟩ (Nat.le_of_ble_eq_true rfl) rfl dX4_visit_34 (fun H locs hP hS => ?_)
      refine lv_iconst (v := (1 : Int32)) hx hb dX4_visit_37 (by decide) ?_
      refine lv_iadd hx hb dX4_visit_38 ?_
      refine lv_aload_n hx hb dX4_visit_39 rfl (lv_at hl 0 rfl) ?_
      refine gt_4_7 (i := 0) C hP (hok.2.1 4 0 (Nat.le_of_ble_eq_true rfl)) lk_X4_34 dX4_visit_40 ?_
      refine lv_icmp_lt (tgt := 47) hx hb dX4_visit_43 (by decide) (fun c55 => ?_) (fun c55 => ?_)
      · have hf := ifp hf c55
        refine lv_iload_n hx hb dX4_visit_47 rfl (lv_at hl 2 rfl) ?_
        refine lv_iconst (v := (1 : Int32)) hx hb dX4_visit_48 (by decide) ?_
        refine lv_isub hx hb dX4_visit_49 ?_
        refine lv_istore (lv' := [(4, .int (x2 - (1 : Int32))), (0, .ref (ad 4 0)), (1, .ref (ad 1 i1)), (2, .int x2), (3, .int x3)]) hx hb dX4_visit_50 hl (by decide) rfl (fun ls hl => ?_)
        refine lv_aload_n hx hb dX4_visit_52 rfl (lv_at hl 2 rfl) ?_
        refine gt_1_3 (i := i1) C hP (hok.2.1 1 i1 h1) lk_X4_93 dX4_visit_53 ?_
        refine lv_aload_n hx hb dX4_visit_56 rfl (lv_at hl 1 rfl) ?_
        refine gt_4_1 (i := 0) C hP (hok.2.1 4 0 (Nat.le_of_ble_eq_true rfl)) lk_X4_17 dX4_visit_57 ?_
        refine lv_iload hx hb dX4_visit_60 (lv_at hl 0 rfl) ?_
        obtain ⟨b6, hf⟩ := gsp hf
        refine ra_ild (k := 27) (i := 0) (n := 12) (f := (gA w 27 0)) C hP (hok.2.1 27 0 (Nat.le_of_ble_eq_true rfl)) rfl b6 dX4_visit_62 ?_
        obtain ⟨b7, hf⟩ := gsp hf
        refine ra_ild (k := 13) (i := i1) (n := 12) (f := (gA w 13 i1)) C hP (hok.2.1 13 i1 h1) rfl b7 dX4_visit_63 ?_
        refine lv_istore (lv' := [(5, .int (gA w 13 i1 (gA w 27 0 (x2 - (1 : Int32)).toNatClampNeg).toNatClampNeg)), (4, .int (x2 - (1 : Int32))), (0, .ref (ad 4 0)), (1, .ref (ad 1 i1)), (2, .int x2), (3, .int x3)]) hx hb dX4_visit_64 hl (by decide) rfl (fun ls hl => ?_)
        refine lv_aload_n hx hb dX4_visit_66 rfl (lv_at hl 3 rfl) ?_
        refine gt_1_4 (i := i1) C hP (hok.2.1 1 i1 h1) lk_X4_110 dX4_visit_67 ?_
        refine lv_aload_n hx hb dX4_visit_70 rfl (lv_at hl 2 rfl) ?_
        refine gt_4_1 (i := 0) C hP (hok.2.1 4 0 (Nat.le_of_ble_eq_true rfl)) lk_X4_17 dX4_visit_71 ?_
        refine lv_iload hx hb dX4_visit_74 (lv_at hl 1 rfl) ?_
        refine ra_ild (k := 27) (i := 0) (n := 12) (f := (gA w 27 0)) C hP (hok.2.1 27 0 (Nat.le_of_ble_eq_true rfl)) rfl b6 dX4_visit_76 ?_
        refine ra_ild (k := 14) (i := i1) (n := 12) (f := (gA w 14 i1)) C hP (hok.2.1 14 i1 h1) rfl b7 dX4_visit_77 ?_
        refine lv_istore (lv' := [(6, .int (gA w 14 i1 (gA w 27 0 (x2 - (1 : Int32)).toNatClampNeg).toNatClampNeg)), (5, .int (gA w 13 i1 (gA w 27 0 (x2 - (1 : Int32)).toNatClampNeg).toNatClampNeg)), (4, .int (x2 - (1 : Int32))), (0, .ref (ad 4 0)), (1, .ref (ad 1 i1)), (2, .int x2), (3, .int x3)]) hx hb dX4_visit_78 hl (by decide) rfl (fun ls hl => ?_)
        refine lv_aload_n hx hb dX4_visit_80 rfl (lv_at hl 3 rfl) ?_
        refine gt_4_0 (i := 0) C hP (hok.2.1 4 0 (Nat.le_of_ble_eq_true rfl)) lk_X4_11 dX4_visit_81 ?_
        refine lv_iload_n hx hb dX4_visit_84 rfl (lv_at hl 5 rfl) ?_
        refine ra_qld (k := 26) (i := 0) (n := 13) (f := (fun j => ad 3 (4 + j))) C hP (hok.2.1 26 0 (Nat.le_of_ble_eq_true rfl)) rfl b1 dX4_visit_85 ?_
        refine lv_iload hx hb dX4_visit_86 (lv_at hl 1 rfl) ?_
        refine lv_iload hx hb dX4_visit_88 (lv_at hl 0 rfl) ?_
        obtain ⟨z8, q9, hf⟩ := bsp hf
        refine kc_V (ci := 3) (i := (4 + x2.toNatClampNeg)) (As := [.int (gA w 13 i1 (gA w 27 0 (x2 - (1 : Int32)).toNatClampNeg).toNatClampNeg), .int (gA w 14 i1 (gA w 27 0 (x2 - (1 : Int32)).toNatClampNeg).toNatClampNeg)]) (rest := []) hok.2.2.1 C hP hS hl.1 (hok.2.1 3 (4 + x2.toNatClampNeg) (Nat.add_lt_add_left (inb_lt b1) 4)) rfl rfl cw_X3_one ml_X4_96 (c_X3_one l D ca ad PL Z A hok N w (4 + x2.toNatClampNeg) (Nat.add_lt_add_left (inb_lt b1) 4) (gA w 13 i1 (gA w 27 0 (x2 - (1 : Int32)).toNatClampNeg).toNatClampNeg) (gA w 14 i1 (gA w 27 0 (x2 - (1 : Int32)).toNatClampNeg).toNatClampNeg) z8 q9) rfl ⟨rfl, rfl⟩ ⟨by show _ ≤ _; simp only [rmk]; omega, by show _ ≤ _; simp only [rmk]; omega⟩ ⟨Nat.zero_le _, Nat.zero_le _⟩ (Nat.le_of_ble_eq_true rfl) rfl dX4_visit_90 (fun H locs hP hS => ?_)
        refine lv_istore (lv' := [(7, .int z8), (6, .int (gA w 14 i1 (gA w 27 0 (x2 - (1 : Int32)).toNatClampNeg).toNatClampNeg)), (5, .int (gA w 13 i1 (gA w 27 0 (x2 - (1 : Int32)).toNatClampNeg).toNatClampNeg)), (4, .int (x2 - (1 : Int32))), (0, .ref (ad 4 0)), (1, .ref (ad 1 i1)), (2, .int x2), (3, .int x3)]) hx hb dX4_visit_93 hl (by decide) rfl (fun ls hl => ?_)
        refine lv_iload hx hb dX4_visit_95 (lv_at hl 0 rfl) ?_
        refine lv_if_ne (tgt := 110) hx hb dX4_visit_97 (by decide) (fun c54 => ?_) (fun c54 => ?_)
        · have hf := ifn hf c54
          refine lv_aload_n hx hb dX4_visit_110 rfl (lv_at hl 4 rfl) ?_
          refine gt_4_0 (i := 0) C hP (hok.2.1 4 0 (Nat.le_of_ble_eq_true rfl)) lk_X4_11 dX4_visit_111 ?_
          refine lv_iload hx hb dX4_visit_114 (lv_at hl 3 rfl) ?_
          obtain ⟨b10, hf⟩ := gsp hf
          refine ra_qld (k := 26) (i := 0) (n := 13) (f := (fun j => ad 3 (4 + j))) C hP (hok.2.1 26 0 (Nat.le_of_ble_eq_true rfl)) rfl b10 dX4_visit_116 ?_
          refine lv_aload_n hx hb dX4_visit_117 rfl (lv_at hl 4 rfl) ?_
          refine gt_4_0 (i := 0) C hP (hok.2.1 4 0 (Nat.le_of_ble_eq_true rfl)) lk_X4_11 dX4_visit_118 ?_
          refine lv_iload_n hx hb dX4_visit_121 rfl (lv_at hl 6 rfl) ?_
          refine ra_qld (k := 26) (i := 0) (n := 13) (f := (fun j => ad 3 (4 + j))) C hP (hok.2.1 26 0 (Nat.le_of_ble_eq_true rfl)) rfl b1 dX4_visit_122 ?_
          obtain ⟨z11, q12, hf⟩ := bsp hf
          refine kc_V (ci := 3) (i := (4 + (x2 - (1 : Int32)).toNatClampNeg)) (As := [.ref (ad 3 (4 + x2.toNatClampNeg))]) (rest := []) hok.2.2.1 C hP hS hl.1 (hok.2.1 3 (4 + (x2 - (1 : Int32)).toNatClampNeg) (Nat.add_lt_add_left (inb_lt b10) 4)) rfl rfl cw_X3_copyFrom ml_X4_117 (c_X3_copyFrom l D ca ad PL Z A hok N w (4 + (x2 - (1 : Int32)).toNatClampNeg) (Nat.add_lt_add_left (inb_lt b10) 4) (4 + x2.toNatClampNeg) (Nat.add_lt_add_left (inb_lt b1) 4) z11 q12) rfl ⟨rfl, rfl⟩ ⟨by show _ ≤ _; simp only [rmk]; omega, by show _ ≤ _; simp only [rmk]; omega⟩ ⟨Nat.zero_le _, Nat.zero_le _⟩ (Nat.le_of_ble_eq_true rfl) rfl dX4_visit_123 (fun H locs hP hS => ?_)
          refine lv_aload_n hx hb dX4_visit_126 rfl (lv_at hl 4 rfl) ?_
          refine lv_aload_n hx hb dX4_visit_127 rfl (lv_at hl 5 rfl) ?_
          refine lv_iload hx hb dX4_visit_128 (lv_at hl 3 rfl) ?_
          refine lv_iload_n hx hb dX4_visit_130 rfl (lv_at hl 7 rfl) ?_
          obtain ⟨z13, q14, hf⟩ := bsp hf
          refine kc_V (ci := 4) (i := 0) (As := [.ref (ad 1 i1), .int (x2 - (1 : Int32)), .int x3]) (rest := []) hok.2.2.1 C hP hS hl.1 (hok.2.1 4 0 (Nat.le_of_ble_eq_true rfl)) rfl rfl cw_X4_visit ml_X4_44 (ihn z11 i1 h1 (x2 - (1 : Int32)) x3 z13 q14) rfl ⟨rfl, rfl⟩ ⟨by show _ ≤ _; simp only [rmk]; omega, by show _ ≤ _; simp only [rmk]; omega⟩ ⟨Nat.zero_le _, Nat.zero_le _⟩ (Nat.le_of_ble_eq_true rfl) rfl dX4_visit_131 (fun H locs hP hS => ?_)
          refine lv_iload hx hb dX4_visit_134 (lv_at hl 0 rfl) ?_
          refine lv_if_ne (tgt := 196) hx hb dX4_visit_136 (by decide) (fun c24 => ?_) (fun c24 => ?_)
          · have hf := ifn hf c24
            exact kr_v hok.2.2.1 C hlocks hr hP hS (Option.some.inj hf) dX4_visit_196
          · have hf := ifp hf c24
            refine lv_iload_n hx hb dX4_visit_139 rfl (lv_at hl 7 rfl) ?_
            obtain ⟨z15, q16, hf⟩ := bsp hf
            refine kc_S (As := [.int x3]) (rest := []) hok.2.2.1 C hP hS hl.1 cw_J6_bitCount_0f7a4 ml_X4_104 (c_J6_bitCount_0f7a4 l D ca ad PL Z A (okJ hok) N z13 x3 z15 q16) rfl ⟨rfl, rfl⟩ ⟨by show _ ≤ _; simp only [rmk]; omega, by show _ ≤ _; simp only [rmk]; omega⟩ ⟨Nat.zero_le _, Nat.zero_le _⟩ (Nat.le_of_ble_eq_true rfl) rfl dX4_visit_140 (fun H locs hP hS => ?_)
            refine lv_iconst (v := (1 : Int32)) hx hb dX4_visit_143 (by decide) ?_
            refine lv_iadd hx hb dX4_visit_144 ?_
            refine lv_aload_n hx hb dX4_visit_145 rfl (lv_at hl 4 rfl) ?_
            refine gt_4_7 (i := 0) C hP (hok.2.1 4 0 (Nat.le_of_ble_eq_true rfl)) lk_X4_34 dX4_visit_146 ?_
            refine lv_icmp_ge (tgt := 196) hx hb dX4_visit_149 (by decide) (fun c23 => ?_) (fun c23 => ?_)
            · have hf := ifp hf c23
              exact kr_v hok.2.2.1 C hlocks hr hP hS (Option.some.inj hf) dX4_visit_196
            · have hf := ifn hf c23
              refine lv_aload_n hx hb dX4_visit_152 rfl (lv_at hl 4 rfl) ?_
              refine gt_4_0 (i := 0) C hP (hok.2.1 4 0 (Nat.le_of_ble_eq_true rfl)) lk_X4_11 dX4_visit_153 ?_
              refine lv_iload hx hb dX4_visit_156 (lv_at hl 3 rfl) ?_
              refine ra_qld (k := 26) (i := 0) (n := 13) (f := (fun j => ad 3 (4 + j))) C hP (hok.2.1 26 0 (Nat.le_of_ble_eq_true rfl)) rfl b10 dX4_visit_158 ?_
              refine lv_aload_n hx hb dX4_visit_159 rfl (lv_at hl 4 rfl) ?_
              refine gt_4_0 (i := 0) C hP (hok.2.1 4 0 (Nat.le_of_ble_eq_true rfl)) lk_X4_11 dX4_visit_160 ?_
              refine lv_iload_n hx hb dX4_visit_163 rfl (lv_at hl 6 rfl) ?_
              refine ra_qld (k := 26) (i := 0) (n := 13) (f := (fun j => ad 3 (4 + j))) C hP (hok.2.1 26 0 (Nat.le_of_ble_eq_true rfl)) rfl b1 dX4_visit_164 ?_
              obtain ⟨z17, q18, hf⟩ := bsp hf
              refine kc_V (ci := 3) (i := (4 + (x2 - (1 : Int32)).toNatClampNeg)) (As := [.ref (ad 3 (4 + x2.toNatClampNeg))]) (rest := []) hok.2.2.1 C hP hS hl.1 (hok.2.1 3 (4 + (x2 - (1 : Int32)).toNatClampNeg) (Nat.add_lt_add_left (inb_lt b10) 4)) rfl rfl cw_X3_copyFrom ml_X4_117 (c_X3_copyFrom l D ca ad PL Z A hok N z13 (4 + (x2 - (1 : Int32)).toNatClampNeg) (Nat.add_lt_add_left (inb_lt b10) 4) (4 + x2.toNatClampNeg) (Nat.add_lt_add_left (inb_lt b1) 4) z17 q18) rfl ⟨rfl, rfl⟩ ⟨by show _ ≤ _; simp only [rmk]; omega, by show _ ≤ _; simp only [rmk]; omega⟩ ⟨Nat.zero_le _, Nat.zero_le _⟩ (Nat.le_of_ble_eq_true rfl) rfl dX4_visit_165 (fun H locs hP hS => ?_)
              refine lv_aload_n hx hb dX4_visit_168 rfl (lv_at hl 5 rfl) ?_
              refine lv_iload hx hb dX4_visit_169 (lv_at hl 2 rfl) ?_
              refine lv_iload hx hb dX4_visit_171 (lv_at hl 1 rfl) ?_
              refine lv_aload_n hx hb dX4_visit_173 rfl (lv_at hl 4 rfl) ?_
              refine gt_4_0 (i := 0) C hP (hok.2.1 4 0 (Nat.le_of_ble_eq_true rfl)) lk_X4_11 dX4_visit_174 ?_
              refine lv_iload hx hb dX4_visit_177 (lv_at hl 3 rfl) ?_
              refine ra_qld (k := 26) (i := 0) (n := 13) (f := (fun j => ad 3 (4 + j))) C hP (hok.2.1 26 0 (Nat.le_of_ble_eq_true rfl)) rfl b10 dX4_visit_179 ?_
              obtain ⟨z19, q20, hf⟩ := bsp hf
              refine kc_V (ci := 1) (i := i1) (As := [.int (gA w 13 i1 (gA w 27 0 (x2 - (1 : Int32)).toNatClampNeg).toNatClampNeg), .int (gA w 14 i1 (gA w 27 0 (x2 - (1 : Int32)).toNatClampNeg).toNatClampNeg), .ref (ad 3 (4 + (x2 - (1 : Int32)).toNatClampNeg))]) (rest := []) hok.2.2.1 C hP hS hl.1 (hok.2.1 1 i1 h1) rfl rfl cw_X1_supposeSame ml_X4_121 (c_X1_supposeSame l D ca ad PL Z A hok N z17 i1 h1 (gA w 13 i1 (gA w 27 0 (x2 - (1 : Int32)).toNatClampNeg).toNatClampNeg) (gA w 14 i1 (gA w 27 0 (x2 - (1 : Int32)).toNatClampNeg).toNatClampNeg) (4 + (x2 - (1 : Int32)).toNatClampNeg) (Nat.add_lt_add_left (inb_lt b10) 4) z19 q20) rfl ⟨rfl, rfl⟩ ⟨by show _ ≤ _; simp only [rmk]; omega, by show _ ≤ _; simp only [rmk]; omega⟩ ⟨Nat.zero_le _, Nat.zero_le _⟩ (Nat.le_of_ble_eq_true rfl) rfl dX4_visit_180 (fun H locs hP hS => ?_)
              refine lv_aload_n hx hb dX4_visit_183 rfl (lv_at hl 4 rfl) ?_
              refine lv_aload_n hx hb dX4_visit_184 rfl (lv_at hl 5 rfl) ?_
              refine lv_iload hx hb dX4_visit_185 (lv_at hl 3 rfl) ?_
              refine lv_iload_n hx hb dX4_visit_187 rfl (lv_at hl 7 rfl) ?_
              refine lv_iconst (v := (1 : Int32)) hx hb dX4_visit_188 (by decide) ?_
              refine lv_iload hx hb dX4_visit_189 (lv_at hl 3 rfl) ?_
              refine lv_ishl hx hb dX4_visit_191 ?_
              refine lv_ior hx hb dX4_visit_192 ?_
              obtain ⟨z21, q22, hf⟩ := bsp hf
              refine kc_V (ci := 4) (i := 0) (As := [.ref (ad 1 i1), .int (x2 - (1 : Int32)), .int (x3 ||| ((1 : Int32) <<< ((x2 - (1 : Int32)) &&& 31)))]) (rest := []) hok.2.2.1 C hP hS hl.1 (hok.2.1 4 0 (Nat.le_of_ble_eq_true rfl)) rfl rfl cw_X4_visit ml_X4_44 (ihn z19 i1 h1 (x2 - (1 : Int32)) (x3 ||| ((1 : Int32) <<< ((x2 - (1 : Int32)) &&& 31))) z21 q22) rfl ⟨rfl, rfl⟩ ⟨by show _ ≤ _; simp only [rmk]; omega, by show _ ≤ _; simp only [rmk]; omega⟩ ⟨Nat.zero_le _, Nat.zero_le _⟩ (Nat.le_of_ble_eq_true rfl) rfl dX4_visit_193 (fun H locs hP hS => ?_)
              exact kr_v hok.2.2.1 C hlocks hr hP hS (Option.some.inj hf) dX4_visit_196
        · have hf := ifp hf c54
          refine lv_aload_n hx hb dX4_visit_100 rfl (lv_at hl 4 rfl) ?_
          refine lv_aload_n hx hb dX4_visit_101 rfl (lv_at hl 5 rfl) ?_
          refine lv_iload hx hb dX4_visit_102 (lv_at hl 3 rfl) ?_
          obtain ⟨z25, q26, hf⟩ := bsp hf
          refine kc_V (ci := 4) (i := 0) (As := [.ref (ad 1 i1), .int (x2 - (1 : Int32))]) (rest := []) hok.2.2.1 C hP hS hl.1 (hok.2.1 4 0 (Nat.le_of_ble_eq_true rfl)) rfl rfl cw_X4_canDoWithout ml_X4_113 (c_X4_canDoWithout l D ca ad PL Z A hok N w i1 h1 (x2 - (1 : Int32)) z25.1 z25.2 q26) rfl ⟨rfl, rfl⟩ ⟨by show _ ≤ _; simp only [rmk]; omega, by show _ ≤ _; simp only [rmk]; omega⟩ ⟨Nat.zero_le _, Nat.zero_le _⟩ (Nat.le_of_ble_eq_true rfl) rfl dX4_visit_104 (fun H locs hP hS => ?_)
          refine lv_if_eq (tgt := 134) hx hb dX4_visit_107 (by decide) (fun c53 => ?_) (fun c53 => ?_)
          · have hf := ifp hf c53
            refine lv_iload hx hb dX4_visit_134 (lv_at hl 0 rfl) ?_
            refine lv_if_ne (tgt := 196) hx hb dX4_visit_136 (by decide) (fun c37 => ?_) (fun c37 => ?_)
            · have hf := ifn hf c37
              exact kr_v hok.2.2.1 C hlocks hr hP hS (Option.some.inj hf) dX4_visit_196
            · have hf := ifp hf c37
              refine lv_iload_n hx hb dX4_visit_139 rfl (lv_at hl 7 rfl) ?_
              obtain ⟨z27, q28, hf⟩ := bsp hf
              refine kc_S (As := [.int x3]) (rest := []) hok.2.2.1 C hP hS hl.1 cw_J6_bitCount_0f7a4 ml_X4_104 (c_J6_bitCount_0f7a4 l D ca ad PL Z A (okJ hok) N z25.1 x3 z27 q28) rfl ⟨rfl, rfl⟩ ⟨by show _ ≤ _; simp only [rmk]; omega, by show _ ≤ _; simp only [rmk]; omega⟩ ⟨Nat.zero_le _, Nat.zero_le _⟩ (Nat.le_of_ble_eq_true rfl) rfl dX4_visit_140 (fun H locs hP hS => ?_)
              refine lv_iconst (v := (1 : Int32)) hx hb dX4_visit_143 (by decide) ?_
              refine lv_iadd hx hb dX4_visit_144 ?_
              refine lv_aload_n hx hb dX4_visit_145 rfl (lv_at hl 4 rfl) ?_
              refine gt_4_7 (i := 0) C hP (hok.2.1 4 0 (Nat.le_of_ble_eq_true rfl)) lk_X4_34 dX4_visit_146 ?_
              refine lv_icmp_ge (tgt := 196) hx hb dX4_visit_149 (by decide) (fun c36 => ?_) (fun c36 => ?_)
              · have hf := ifp hf c36
                exact kr_v hok.2.2.1 C hlocks hr hP hS (Option.some.inj hf) dX4_visit_196
              · have hf := ifn hf c36
                refine lv_aload_n hx hb dX4_visit_152 rfl (lv_at hl 4 rfl) ?_
                refine gt_4_0 (i := 0) C hP (hok.2.1 4 0 (Nat.le_of_ble_eq_true rfl)) lk_X4_11 dX4_visit_153 ?_
                refine lv_iload hx hb dX4_visit_156 (lv_at hl 3 rfl) ?_
                obtain ⟨b29, hf⟩ := gsp hf
                refine ra_qld (k := 26) (i := 0) (n := 13) (f := (fun j => ad 3 (4 + j))) C hP (hok.2.1 26 0 (Nat.le_of_ble_eq_true rfl)) rfl b29 dX4_visit_158 ?_
                refine lv_aload_n hx hb dX4_visit_159 rfl (lv_at hl 4 rfl) ?_
                refine gt_4_0 (i := 0) C hP (hok.2.1 4 0 (Nat.le_of_ble_eq_true rfl)) lk_X4_11 dX4_visit_160 ?_
                refine lv_iload_n hx hb dX4_visit_163 rfl (lv_at hl 6 rfl) ?_
                refine ra_qld (k := 26) (i := 0) (n := 13) (f := (fun j => ad 3 (4 + j))) C hP (hok.2.1 26 0 (Nat.le_of_ble_eq_true rfl)) rfl b1 dX4_visit_164 ?_
                obtain ⟨z30, q31, hf⟩ := bsp hf
                refine kc_V (ci := 3) (i := (4 + (x2 - (1 : Int32)).toNatClampNeg)) (As := [.ref (ad 3 (4 + x2.toNatClampNeg))]) (rest := []) hok.2.2.1 C hP hS hl.1 (hok.2.1 3 (4 + (x2 - (1 : Int32)).toNatClampNeg) (Nat.add_lt_add_left (inb_lt b29) 4)) rfl rfl cw_X3_copyFrom ml_X4_117 (c_X3_copyFrom l D ca ad PL Z A hok N z25.1 (4 + (x2 - (1 : Int32)).toNatClampNeg) (Nat.add_lt_add_left (inb_lt b29) 4) (4 + x2.toNatClampNeg) (Nat.add_lt_add_left (inb_lt b1) 4) z30 q31) rfl ⟨rfl, rfl⟩ ⟨by show _ ≤ _; simp only [rmk]; omega, by show _ ≤ _; simp only [rmk]; omega⟩ ⟨Nat.zero_le _, Nat.zero_le _⟩ (Nat.le_of_ble_eq_true rfl) rfl dX4_visit_165 (fun H locs hP hS => ?_)
                refine lv_aload_n hx hb dX4_visit_168 rfl (lv_at hl 5 rfl) ?_
                refine lv_iload hx hb dX4_visit_169 (lv_at hl 2 rfl) ?_
                refine lv_iload hx hb dX4_visit_171 (lv_at hl 1 rfl) ?_
                refine lv_aload_n hx hb dX4_visit_173 rfl (lv_at hl 4 rfl) ?_
                refine gt_4_0 (i := 0) C hP (hok.2.1 4 0 (Nat.le_of_ble_eq_true rfl)) lk_X4_11 dX4_visit_174 ?_
                refine lv_iload hx hb dX4_visit_177 (lv_at hl 3 rfl) ?_
                refine ra_qld (k := 26) (i := 0) (n := 13) (f := (fun j => ad 3 (4 + j))) C hP (hok.2.1 26 0 (Nat.le_of_ble_eq_true rfl)) rfl b29 dX4_visit_179 ?_
                obtain ⟨z32, q33, hf⟩ := bsp hf
                refine kc_V (ci := 1) (i := i1) (As := [.int (gA w 13 i1 (gA w 27 0 (x2 - (1 : Int32)).toNatClampNeg).toNatClampNeg), .int (gA w 14 i1 (gA w 27 0 (x2 - (1 : Int32)).toNatClampNeg).toNatClampNeg), .ref (ad 3 (4 + (x2 - (1 : Int32)).toNatClampNeg))]) (rest := []) hok.2.2.1 C hP hS hl.1 (hok.2.1 1 i1 h1) rfl rfl cw_X1_supposeSame ml_X4_121 (c_X1_supposeSame l D ca ad PL Z A hok N z30 i1 h1 (gA w 13 i1 (gA w 27 0 (x2 - (1 : Int32)).toNatClampNeg).toNatClampNeg) (gA w 14 i1 (gA w 27 0 (x2 - (1 : Int32)).toNatClampNeg).toNatClampNeg) (4 + (x2 - (1 : Int32)).toNatClampNeg) (Nat.add_lt_add_left (inb_lt b29) 4) z32 q33) rfl ⟨rfl, rfl⟩ ⟨by show _ ≤ _; simp only [rmk]; omega, by show _ ≤ _; simp only [rmk]; omega⟩ ⟨Nat.zero_le _, Nat.zero_le _⟩ (Nat.le_of_ble_eq_true rfl) rfl dX4_visit_180 (fun H locs hP hS => ?_)
                refine lv_aload_n hx hb dX4_visit_183 rfl (lv_at hl 4 rfl) ?_
                refine lv_aload_n hx hb dX4_visit_184 rfl (lv_at hl 5 rfl) ?_
                refine lv_iload hx hb dX4_visit_185 (lv_at hl 3 rfl) ?_
                refine lv_iload_n hx hb dX4_visit_187 rfl (lv_at hl 7 rfl) ?_
                refine lv_iconst (v := (1 : Int32)) hx hb dX4_visit_188 (by decide) ?_
                refine lv_iload hx hb dX4_visit_189 (lv_at hl 3 rfl) ?_
                refine lv_ishl hx hb dX4_visit_191 ?_
                refine lv_ior hx hb dX4_visit_192 ?_
                obtain ⟨z34, q35, hf⟩ := bsp hf
                refine kc_V (ci := 4) (i := 0) (As := [.ref (ad 1 i1), .int (x2 - (1 : Int32)), .int (x3 ||| ((1 : Int32) <<< ((x2 - (1 : Int32)) &&& 31)))]) (rest := []) hok.2.2.1 C hP hS hl.1 (hok.2.1 4 0 (Nat.le_of_ble_eq_true rfl)) rfl rfl cw_X4_visit ml_X4_44 (ihn z32 i1 h1 (x2 - (1 : Int32)) (x3 ||| ((1 : Int32) <<< ((x2 - (1 : Int32)) &&& 31))) z34 q35) rfl ⟨rfl, rfl⟩ ⟨by show _ ≤ _; simp only [rmk]; omega, by show _ ≤ _; simp only [rmk]; omega⟩ ⟨Nat.zero_le _, Nat.zero_le _⟩ (Nat.le_of_ble_eq_true rfl) rfl dX4_visit_193 (fun H locs hP hS => ?_)
                exact kr_v hok.2.2.1 C hlocks hr hP hS (Option.some.inj hf) dX4_visit_196
          · have hf := ifn hf c53
            refine lv_aload_n hx hb dX4_visit_110 rfl (lv_at hl 4 rfl) ?_
            refine gt_4_0 (i := 0) C hP (hok.2.1 4 0 (Nat.le_of_ble_eq_true rfl)) lk_X4_11 dX4_visit_111 ?_
            refine lv_iload hx hb dX4_visit_114 (lv_at hl 3 rfl) ?_
            obtain ⟨b38, hf⟩ := gsp hf
            refine ra_qld (k := 26) (i := 0) (n := 13) (f := (fun j => ad 3 (4 + j))) C hP (hok.2.1 26 0 (Nat.le_of_ble_eq_true rfl)) rfl b38 dX4_visit_116 ?_
            refine lv_aload_n hx hb dX4_visit_117 rfl (lv_at hl 4 rfl) ?_
            refine gt_4_0 (i := 0) C hP (hok.2.1 4 0 (Nat.le_of_ble_eq_true rfl)) lk_X4_11 dX4_visit_118 ?_
            refine lv_iload_n hx hb dX4_visit_121 rfl (lv_at hl 6 rfl) ?_
            refine ra_qld (k := 26) (i := 0) (n := 13) (f := (fun j => ad 3 (4 + j))) C hP (hok.2.1 26 0 (Nat.le_of_ble_eq_true rfl)) rfl b1 dX4_visit_122 ?_
            obtain ⟨z39, q40, hf⟩ := bsp hf
            refine kc_V (ci := 3) (i := (4 + (x2 - (1 : Int32)).toNatClampNeg)) (As := [.ref (ad 3 (4 + x2.toNatClampNeg))]) (rest := []) hok.2.2.1 C hP hS hl.1 (hok.2.1 3 (4 + (x2 - (1 : Int32)).toNatClampNeg) (Nat.add_lt_add_left (inb_lt b38) 4)) rfl rfl cw_X3_copyFrom ml_X4_117 (c_X3_copyFrom l D ca ad PL Z A hok N z25.1 (4 + (x2 - (1 : Int32)).toNatClampNeg) (Nat.add_lt_add_left (inb_lt b38) 4) (4 + x2.toNatClampNeg) (Nat.add_lt_add_left (inb_lt b1) 4) z39 q40) rfl ⟨rfl, rfl⟩ ⟨by show _ ≤ _; simp only [rmk]; omega, by show _ ≤ _; simp only [rmk]; omega⟩ ⟨Nat.zero_le _, Nat.zero_le _⟩ (Nat.le_of_ble_eq_true rfl) rfl dX4_visit_123 (fun H locs hP hS => ?_)
            refine lv_aload_n hx hb dX4_visit_126 rfl (lv_at hl 4 rfl) ?_
            refine lv_aload_n hx hb dX4_visit_127 rfl (lv_at hl 5 rfl) ?_
            refine lv_iload hx hb dX4_visit_128 (lv_at hl 3 rfl) ?_
            refine lv_iload_n hx hb dX4_visit_130 rfl (lv_at hl 7 rfl) ?_
            obtain ⟨z41, q42, hf⟩ := bsp hf
            refine kc_V (ci := 4) (i := 0) (As := [.ref (ad 1 i1), .int (x2 - (1 : Int32)), .int x3]) (rest := []) hok.2.2.1 C hP hS hl.1 (hok.2.1 4 0 (Nat.le_of_ble_eq_true rfl)) rfl rfl cw_X4_visit ml_X4_44 (ihn z39 i1 h1 (x2 - (1 : Int32)) x3 z41 q42) rfl ⟨rfl, rfl⟩ ⟨by show _ ≤ _; simp only [rmk]; omega, by show _ ≤ _; simp only [rmk]; omega⟩ ⟨Nat.zero_le _, Nat.zero_le _⟩ (Nat.le_of_ble_eq_true rfl) rfl dX4_visit_131 (fun H locs hP hS => ?_)
            refine lv_iload hx hb dX4_visit_134 (lv_at hl 0 rfl) ?_
            refine lv_if_ne (tgt := 196) hx hb dX4_visit_136 (by decide) (fun c52 => ?_) (fun c52 => ?_)
            · have hf := ifn hf c52
              exact kr_v hok.2.2.1 C hlocks hr hP hS (Option.some.inj hf) dX4_visit_196
            · have hf := ifp hf c52
              refine lv_iload_n hx hb dX4_visit_139 rfl (lv_at hl 7 rfl) ?_
              obtain ⟨z43, q44, hf⟩ := bsp hf
              refine kc_S (As := [.int x3]) (rest := []) hok.2.2.1 C hP hS hl.1 cw_J6_bitCount_0f7a4 ml_X4_104 (c_J6_bitCount_0f7a4 l D ca ad PL Z A (okJ hok) N z41 x3 z43 q44) rfl ⟨rfl, rfl⟩ ⟨by show _ ≤ _; simp only [rmk]; omega, by show _ ≤ _; simp only [rmk]; omega⟩ ⟨Nat.zero_le _, Nat.zero_le _⟩ (Nat.le_of_ble_eq_true rfl) rfl dX4_visit_140 (fun H locs hP hS => ?_)
              refine lv_iconst (v := (1 : Int32)) hx hb dX4_visit_143 (by decide) ?_
              refine lv_iadd hx hb dX4_visit_144 ?_
              refine lv_aload_n hx hb dX4_visit_145 rfl (lv_at hl 4 rfl) ?_
              refine gt_4_7 (i := 0) C hP (hok.2.1 4 0 (Nat.le_of_ble_eq_true rfl)) lk_X4_34 dX4_visit_146 ?_
              refine lv_icmp_ge (tgt := 196) hx hb dX4_visit_149 (by decide) (fun c51 => ?_) (fun c51 => ?_)
              · have hf := ifp hf c51
                exact kr_v hok.2.2.1 C hlocks hr hP hS (Option.some.inj hf) dX4_visit_196
              · have hf := ifn hf c51
                refine lv_aload_n hx hb dX4_visit_152 rfl (lv_at hl 4 rfl) ?_
                refine gt_4_0 (i := 0) C hP (hok.2.1 4 0 (Nat.le_of_ble_eq_true rfl)) lk_X4_11 dX4_visit_153 ?_
                refine lv_iload hx hb dX4_visit_156 (lv_at hl 3 rfl) ?_
                refine ra_qld (k := 26) (i := 0) (n := 13) (f := (fun j => ad 3 (4 + j))) C hP (hok.2.1 26 0 (Nat.le_of_ble_eq_true rfl)) rfl b38 dX4_visit_158 ?_
                refine lv_aload_n hx hb dX4_visit_159 rfl (lv_at hl 4 rfl) ?_
                refine gt_4_0 (i := 0) C hP (hok.2.1 4 0 (Nat.le_of_ble_eq_true rfl)) lk_X4_11 dX4_visit_160 ?_
                refine lv_iload_n hx hb dX4_visit_163 rfl (lv_at hl 6 rfl) ?_
                refine ra_qld (k := 26) (i := 0) (n := 13) (f := (fun j => ad 3 (4 + j))) C hP (hok.2.1 26 0 (Nat.le_of_ble_eq_true rfl)) rfl b1 dX4_visit_164 ?_
                obtain ⟨z45, q46, hf⟩ := bsp hf
                refine kc_V (ci := 3) (i := (4 + (x2 - (1 : Int32)).toNatClampNeg)) (As := [.ref (ad 3 (4 + x2.toNatClampNeg))]) (rest := []) hok.2.2.1 C hP hS hl.1 (hok.2.1 3 (4 + (x2 - (1 : Int32)).toNatClampNeg) (Nat.add_lt_add_left (inb_lt b38) 4)) rfl rfl cw_X3_copyFrom ml_X4_117 (c_X3_copyFrom l D ca ad PL Z A hok N z41 (4 + (x2 - (1 : Int32)).toNatClampNeg) (Nat.add_lt_add_left (inb_lt b38) 4) (4 + x2.toNatClampNeg) (Nat.add_lt_add_left (inb_lt b1) 4) z45 q46) rfl ⟨rfl, rfl⟩ ⟨by show _ ≤ _; simp only [rmk]; omega, by show _ ≤ _; simp only [rmk]; omega⟩ ⟨Nat.zero_le _, Nat.zero_le _⟩ (Nat.le_of_ble_eq_true rfl) rfl dX4_visit_165 (fun H locs hP hS => ?_)
                refine lv_aload_n hx hb dX4_visit_168 rfl (lv_at hl 5 rfl) ?_
                refine lv_iload hx hb dX4_visit_169 (lv_at hl 2 rfl) ?_
                refine lv_iload hx hb dX4_visit_171 (lv_at hl 1 rfl) ?_
                refine lv_aload_n hx hb dX4_visit_173 rfl (lv_at hl 4 rfl) ?_
                refine gt_4_0 (i := 0) C hP (hok.2.1 4 0 (Nat.le_of_ble_eq_true rfl)) lk_X4_11 dX4_visit_174 ?_
                refine lv_iload hx hb dX4_visit_177 (lv_at hl 3 rfl) ?_
                refine ra_qld (k := 26) (i := 0) (n := 13) (f := (fun j => ad 3 (4 + j))) C hP (hok.2.1 26 0 (Nat.le_of_ble_eq_true rfl)) rfl b38 dX4_visit_179 ?_
                obtain ⟨z47, q48, hf⟩ := bsp hf
                refine kc_V (ci := 1) (i := i1) (As := [.int (gA w 13 i1 (gA w 27 0 (x2 - (1 : Int32)).toNatClampNeg).toNatClampNeg), .int (gA w 14 i1 (gA w 27 0 (x2 - (1 : Int32)).toNatClampNeg).toNatClampNeg), .ref (ad 3 (4 + (x2 - (1 : Int32)).toNatClampNeg))]) (rest := []) hok.2.2.1 C hP hS hl.1 (hok.2.1 1 i1 h1) rfl rfl cw_X1_supposeSame ml_X4_121 (c_X1_supposeSame l D ca ad PL Z A hok N z45 i1 h1 (gA w 13 i1 (gA w 27 0 (x2 - (1 : Int32)).toNatClampNeg).toNatClampNeg) (gA w 14 i1 (gA w 27 0 (x2 - (1 : Int32)).toNatClampNeg).toNatClampNeg) (4 + (x2 - (1 : Int32)).toNatClampNeg) (Nat.add_lt_add_left (inb_lt b38) 4) z47 q48) rfl ⟨rfl, rfl⟩ ⟨by show _ ≤ _; simp only [rmk]; omega, by show _ ≤ _; simp only [rmk]; omega⟩ ⟨Nat.zero_le _, Nat.zero_le _⟩ (Nat.le_of_ble_eq_true rfl) rfl dX4_visit_180 (fun H locs hP hS => ?_)
                refine lv_aload_n hx hb dX4_visit_183 rfl (lv_at hl 4 rfl) ?_
                refine lv_aload_n hx hb dX4_visit_184 rfl (lv_at hl 5 rfl) ?_
                refine lv_iload hx hb dX4_visit_185 (lv_at hl 3 rfl) ?_
                refine lv_iload_n hx hb dX4_visit_187 rfl (lv_at hl 7 rfl) ?_
                refine lv_iconst (v := (1 : Int32)) hx hb dX4_visit_188 (by decide) ?_
                refine lv_iload hx hb dX4_visit_189 (lv_at hl 3 rfl) ?_
                refine lv_ishl hx hb dX4_visit_191 ?_
                refine lv_ior hx hb dX4_visit_192 ?_
                obtain ⟨z49, q50, hf⟩ := bsp hf
                refine kc_V (ci := 4) (i := 0) (As := [.ref (ad 1 i1), .int (x2 - (1 : Int32)), .int (x3 ||| ((1 : Int32) <<< ((x2 - (1 : Int32)) &&& 31)))]) (rest := []) hok.2.2.1 C hP hS hl.1 (hok.2.1 4 0 (Nat.le_of_ble_eq_true rfl)) rfl rfl cw_X4_visit ml_X4_44 (ihn z47 i1 h1 (x2 - (1 : Int32)) (x3 ||| ((1 : Int32) <<< ((x2 - (1 : Int32)) &&& 31))) z49 q50) rfl ⟨rfl, rfl⟩ ⟨by show _ ≤ _; simp only [rmk]; omega, by show _ ≤ _; simp only [rmk]; omega⟩ ⟨Nat.zero_le _, Nat.zero_le _⟩ (Nat.le_of_ble_eq_true rfl) rfl dX4_visit_193 (fun H locs hP hS => ?_)
                exact kr_v hok.2.2.1 C hlocks hr hP hS (Option.some.inj hf) dX4_visit_196
      · have hf := ifn hf c55
        exact kr_v hok.2.2.1 C hlocks hr hP hS (Option.some.inj hf) dX4_visit_46
  · have hf := ifn hf c59
    refine lv_aload_n hx hb dX4_visit_20 rfl (lv_at hl 0 rfl) ?_
    refine lv_iload_n hx hb dX4_visit_21 rfl (lv_at hl 3 rfl) ?_
    refine lv_iconst (v := (1 : Int32)) hx hb dX4_visit_22 (by decide) ?_
    refine lv_iload_n hx hb dX4_visit_23 rfl (lv_at hl 2 rfl) ?_
    refine lv_ishl hx hb dX4_visit_24 ?_
    obtain ⟨z57, q58, hf⟩ := bsp hf
    refine kc_V (ci := 4) (i := 0) (As := [.int x3, .int ((1 : Int32) <<< (x2 &&& 31))]) (rest := []) hok.2.2.1 C hP hS hl.1 (hok.2.1 4 0 (Nat.le_of_ble_eq_true rfl)) rfl rfl cw_X4_note ml_X4_100 (c_X4_note l D ca ad PL Z A hok N w x3 ((1 : Int32) <<< (x2 &&& 31)) z57 q58) rfl ⟨rfl, rfl⟩ ⟨by show _ ≤ _; simp only [rmk]; omega, by show _ ≤ _; simp only [rmk]; omega⟩ ⟨Nat.zero_le _, Nat.zero_le _⟩ (Nat.le_of_ble_eq_true rfl) rfl dX4_visit_25 (fun H locs hP hS => ?_)
    exact kr_v hok.2.2.1 C hlocks hr hP hS (Option.some.inj hf) dX4_visit_28
def f_X4_fewestSames_87 (N : Nat) (w : Mem) (i1 : Nat) (v5 : Int32) : Option (Mem × Int32) :=
  some (w, v5)
def lp_X4_fewestSames_50 (k : Int32 → Option (Mem × Int32)) (N : Nat) (w : Mem) (i1 : Nat) : Nat → Int32 → Int32 → Option (Mem × Int32)
  | 0, _, _ => none
  | n + 1, v5, v6 => (if (gF w 4 3 0) ≤ v6 then
(k v5)
else
(if inb v6 12 = true then (lp_X4_fewestSames_50 k N w i1  n (v5 ||| (((ushr (gF w 4 8 0) v6) &&& (1 : Int32)) <<< ((gA w 27 0 v6.toNatClampNeg) &&& 31))) (v6 + (1 : Int32))) else none))
def f_X4_fewestSames (N : Nat) (w : Mem) (i1 : Nat) (x2 : Int32) (x3 : Int32) (x4 : Int32) : Option (Mem × Int32) :=
  (Option.bind (f_X4_begin N w i1 x2 x3) (fun z1 => (Option.bind (f_X4_visit N 14 (sF (sF (sF z1 4 6 0 (1 : Int32)) 4 7 0 (x4 + (1 : Int32))) 4 8 0 (-1 : Int32)) i1 (gF (sF (sF (sF z1 4 6 0 (1 : Int32)) 4 7 0 (x4 + (1 : Int32))) 4 8 0 (-1 : Int32)) 4 3 0) (0 : Int32)) (fun z3 => (if (0 : Int32) ≤ (gF z3 4 8 0) then
(lp_X4_fewestSames_50 (fun (u5_5 : Int32) => (f_X4_fewestSames_87 N z3 i1 u5_5 )) N z3 i1  N (0 : Int32) (0 : Int32))
else
some (z3, (-1 : Int32)))))))
set_option maxRecDepth 100000 in
set_option maxHeartbeats 4000000 in
theorem c_X4_fewestSames (l : Launch) (D : va_G) (ca : Nat → ClassId) (ad : Nat → Nat → Nat) (PL : List (Nat × Nat)) (Z : State → Prop) (A : Nat → Prop) (hok : okc bX Z A ad PL) (N : Nat) (w : Mem) (i1 : Nat) (h1 : i1 < 2) (x2 : Int32) (x3 : Int32) (x4 : Int32) (w' : Mem) (r : Int32) (hf : f_X4_fewestSames N w i1 x2 x3 x4 = some (w', r)) : CT l yX4_fewestSames (wsy yX4_fewestSames cX4_fewestSames 7 (some .int)) (rmk 20) D ca ad PL Z A [.ref (ad 4 0), .ref (ad 1 i1), .int x2, .int x3, .int x4] w w' (some (.int r)) := by
  refine Met.ofW (cc := cX4_fewestSames) (maxL := 7) (ret := (some .int)) (by decide +kernel) rfl ?_
  intro p e s m args below meth c s₁ B hml hv
  obtain ⟨rfl, hP, hK, hZ⟩ := hv
  have hx := B.exec
  have hb := B.bytes
  have hr := B.returns
  have hlocks := B.notSynchronized
  have hts : ∀ w ∈ ALL, w.before _ s = true := fun w hw => atoms_spec (ws := wsy yX4_fewestSames cX4_fewestSames 7 (some .int)) B.pre w (List.mem_cons_of_mem _ hw)
  have hown : s.vm.findClass RX4 = some m.cls := findClass_of_methodNamed B.named
  have C : CX p s m _ c cX4_fewestSames RX4 7 D ca Z := ⟨hx, hb, hml, hown, hts, hK, hZ⟩
  have hS : va_S A s.heap s.heap [] := va_S.rf
  have hl := lv_entry ([.ref (ad 4 0), .ref (ad 1 i1), .int x2, .int x3, .int x4]) (n := 7) (Nat.le_of_ble_eq_true rfl)
  rw [lg_entry_eq]
  generalize (lg_sl ([.ref (ad 4 0), .ref (ad 1 i1), .int x2, .int x3, .int x4]) ++ List.replicate (7 - (lg_sl ([.ref (ad 4 0), .ref (ad 1 i1), .int x2, .int x3, .int x4])).length) Slot.unset).toArray = ls at hl ⊢
  have hl : lv_has ls 7 [(0, .ref (ad 4 0)), (1, .ref (ad 1 i1)), (2, .int x2), (3, .int x3), (4, .int x4)] := hl
  show W p l e (rmk 20) s m _ below meth c s.heap [] 0 0 _ _
  have P_f_X4_fewestSames_87 : ∀ (w : Mem) (v5 : Int32), f_X4_fewestSames_87 N w i1 v5  = some (w', r) → WP p l e (rmk 20) s m [.ref (ad 4 0), .ref (ad 1 i1), .int x2, .int x3, .int x4].toArray below meth c D ca ad PL A (MQ below (qcR D ca ad PL Z A w' (some (.int r))) [.ref (ad 4 0), .ref (ad 1 i1), .int x2, .int x3, .int x4].toArray s 0 0 A) 7 87 [] [(5, .int v5)] w := by
    intro w v5 hf _ _ ls hP hS hl
    unfold f_X4_fewestSames_87 at hf
    refine lv_iload hx hb dX4_fewestSames_87 (lv_at hl 0 rfl) ?_
    exact kr_i hok.2.2.1 C hlocks hr rfl hP hS (congrArg Prod.fst (Option.some.inj hf)) (congrArg Prod.snd (Option.some.inj hf)) dX4_fewestSames_89
  have L_lp_X4_fewestSames_50 : ∀ (w : Mem) (k : Int32 → Option (Mem × Int32)) (hk : ∀ (v5 : Int32), k v5 = some (w', r) → WP p l e (rmk 20) s m [.ref (ad 4 0), .ref (ad 1 i1), .int x2, .int x3, .int x4].toArray below meth c D ca ad PL A (MQ below (qcR D ca ad PL Z A w' (some (.int r))) [.ref (ad 4 0), .ref (ad 1 i1), .int x2, .int x3, .int x4].toArray s 0 0 A) 7 87 [] [(5, .int v5)] w) (n : Nat) (v5 : Int32) (v6 : Int32), lp_X4_fewestSames_50 k N w i1  n v5 v6 = some (w', r) → WP p l e (rmk 20) s m [.ref (ad 4 0), .ref (ad 1 i1), .int x2, .int x3, .int x4].toArray below meth c D ca ad PL A (MQ below (qcR D ca ad PL Z A w' (some (.int r))) [.ref (ad 4 0), .ref (ad 1 i1), .int x2, .int x3, .int x4].toArray s 0 0 A) 7 50 [] [(0, .ref (ad 4 0)), (5, .int v5), (6, .int v6)] w := by
    intro w k hk n
    induction n with
    | zero => intro v5 v6 hf; rw [lp_X4_fewestSames_50] at hf; cases hf
    | succ n ih =>
      intro v5 v6 hf _ _ ls hP hS hl
      rw [lp_X4_fewestSames_50] at hf
      refine lv_iload hx hb dX4_fewestSames_50 (lv_at hl 2 rfl) ?_
      refine lv_aload_n hx hb dX4_fewestSames_52 rfl (lv_at hl 0 rfl) ?_
      refine gt_4_3 (i := 0) C hP (hok.2.1 4 0 (Nat.le_of_ble_eq_true rfl)) lk_X4_41 dX4_fewestSames_53 ?_
      refine lv_icmp_ge (tgt := 87) hx hb dX4_fewestSames_56 (by decide) (fun c7 => ?_) (fun c7 => ?_)
      · have hf := ifp hf c7
        exact hk v5 hf _ _ ls hP hS (lv_sub hl [1] rfl)
      · have hf := ifn hf c7
        refine lv_iload hx hb dX4_fewestSames_59 (lv_at hl 1 rfl) ?_
        refine lv_aload_n hx hb dX4_fewestSames_61 rfl (lv_at hl 0 rfl) ?_
        refine gt_4_8 (i := 0) C hP (hok.2.1 4 0 (Nat.le_of_ble_eq_true rfl)) lk_X4_38 dX4_fewestSames_62 ?_
        refine lv_iload hx hb dX4_fewestSames_65 (lv_at hl 2 rfl) ?_
        refine lv_iushr (v := (ushr (gF w 4 8 0) v6)) hx hb dX4_fewestSames_67 rfl ?_
        refine lv_iconst (v := (1 : Int32)) hx hb dX4_fewestSames_68 (by decide) ?_
        refine lv_iand hx hb dX4_fewestSames_69 ?_
        refine lv_aload_n hx hb dX4_fewestSames_70 rfl (lv_at hl 0 rfl) ?_
        refine gt_4_1 (i := 0) C hP (hok.2.1 4 0 (Nat.le_of_ble_eq_true rfl)) lk_X4_17 dX4_fewestSames_71 ?_
        refine lv_iload hx hb dX4_fewestSames_74 (lv_at hl 2 rfl) ?_
        obtain ⟨b6, hf⟩ := gsp hf
        refine ra_ild (k := 27) (i := 0) (n := 12) (f := (gA w 27 0)) C hP (hok.2.1 27 0 (Nat.le_of_ble_eq_true rfl)) rfl b6 dX4_fewestSames_76 ?_
        refine lv_ishl hx hb dX4_fewestSames_77 ?_
        refine lv_ior hx hb dX4_fewestSames_78 ?_
        refine lv_istore (lv' := [(5, .int (v5 ||| (((ushr (gF w 4 8 0) v6) &&& (1 : Int32)) <<< ((gA w 27 0 v6.toNatClampNeg) &&& 31)))), (0, .ref (ad 4 0)), (6, .int v6)]) hx hb dX4_fewestSames_79 hl (by decide) rfl (fun ls hl => ?_)
        refine lv_iinc (v := (v6 + (1 : Int32))) (lv' := [(6, .int (v6 + (1 : Int32))), (5, .int (v5 ||| (((ushr (gF w 4 8 0) v6) &&& (1 : Int32)) <<< ((gA w 27 0 v6.toNatClampNeg) &&& 31)))), (0, .ref (ad 4 0))]) hx hb dX4_fewestSames_81 hl (k := 2) rfl rfl (by decide) rfl (fun ls hl => ?_)
        refine lv_goto (tgt := 50) hx hb dX4_fewestSames_84 (by decide) ?_
        exact ih (v5 ||| (((ushr (gF w 4 8 0) v6) &&& (1 : Int32)) <<< ((gA w 27 0 v6.toNatClampNeg) &&& 31))) (v6 + (1 : Int32)) hf _ _ ls hP hS (lv_sub hl [2, 1, 0] rfl)
  unfold f_X4_fewestSames at hf
  -- walk
  refine lv_aload_n hx hb dX4_fewestSames_0 rfl (lv_at hl 0 rfl) ?_
  refine lv_aload_n hx hb dX4_fewestSames_1 rfl (lv_at hl 1 rfl) ?_
  refine lv_iload_n hx hb dX4_fewestSames_2 rfl (lv_at hl 2 rfl) ?_
  refine lv_iload_n hx hb dX4_fewestSames_3 rfl (lv_at hl 3 rfl) ?_
  obtain ⟨z1, q2, hf⟩ := bsp hf
  refine kc_V (ci := 4) (i := 0) (As := [.ref (ad 1 i1), .int x2, .int x3]) (rest := []) hok.2.2.1 C hP hS hl.1 (hok.2.1 4 0 (Nat.le_of_ble_eq_true rfl)) rfl rfl cw_X4_begin ml_X4_26 (c_X4_begin l D ca ad PL Z A hok N w i1 h1 x2 x3 z1 q2) rfl ⟨rfl, rfl⟩ ⟨Nat.le_of_ble_eq_true rfl, Nat.le_of_ble_eq_true rfl⟩ ⟨Nat.zero_le _, Nat.zero_le _⟩ (Nat.le_of_ble_eq_true rfl) rfl dX4_fewestSames_4 (fun H locs hP hS => ?_)
  refine lv_aload_n hx hb dX4_fewestSames_7 rfl (lv_at hl 0 rfl) ?_
  refine lv_iconst (v := (1 : Int32)) hx hb dX4_fewestSames_8 (by decide) ?_
  refine pt_4_6 (i := 0) (v := (1 : Int32)) C hok.1 hP hS (hok.2.1 4 0 (Nat.le_of_ble_eq_true rfl)) (Or.inr rfl) lk_X4_30 dX4_fewestSames_9 (fun H locs hP hS => ?_)
  refine lv_aload_n hx hb dX4_fewestSames_12 rfl (lv_at hl 0 rfl) ?_
  refine lv_iload hx hb dX4_fewestSames_13 (lv_at hl 4 rfl) ?_
  refine lv_iconst (v := (1 : Int32)) hx hb dX4_fewestSames_15 (by decide) ?_
  refine lv_iadd hx hb dX4_fewestSames_16 ?_
  refine pt_4_7 (i := 0) (v := (x4 + (1 : Int32))) C hok.1 hP hS (hok.2.1 4 0 (Nat.le_of_ble_eq_true rfl)) lk_X4_34 dX4_fewestSames_17 (fun H locs hP hS => ?_)
  refine lv_aload_n hx hb dX4_fewestSames_20 rfl (lv_at hl 0 rfl) ?_
  refine lv_iconst (v := (-1 : Int32)) hx hb dX4_fewestSames_21 (by decide) ?_
  refine pt_4_8 (i := 0) (v := (-1 : Int32)) C hok.1 hP hS (hok.2.1 4 0 (Nat.le_of_ble_eq_true rfl)) lk_X4_38 dX4_fewestSames_22 (fun H locs hP hS => ?_)
  refine lv_aload_n hx hb dX4_fewestSames_25 rfl (lv_at hl 0 rfl) ?_
  refine lv_aload_n hx hb dX4_fewestSames_26 rfl (lv_at hl 1 rfl) ?_
  refine lv_aload_n hx hb dX4_fewestSames_27 rfl (lv_at hl 0 rfl) ?_
  refine gt_4_3 (i := 0) C hP (hok.2.1 4 0 (Nat.le_of_ble_eq_true rfl)) lk_X4_41 dX4_fewestSames_28 ?_
  refine lv_iconst (v := (0 : Int32)) hx hb dX4_fewestSames_31 (by decide) ?_
  obtain ⟨z3, q4, hf⟩ := bsp hf
  refine kc_V (ci := 4) (i := 0) (As := [.ref (ad 1 i1), .int (gF (sF (sF (sF z1 4 6 0 (1 : Int32)) 4 7 0 (x4 + (1 : Int32))) 4 8 0 (-1 : Int32)) 4 3 0), .int (0 : Int32)]) (rest := []) hok.2.2.1 C hP hS hl.1 (hok.2.1 4 0 (Nat.le_of_ble_eq_true rfl)) rfl rfl cw_X4_visit ml_X4_44 (c_X4_visit l D ca ad PL Z A hok N 14 (sF (sF (sF z1 4 6 0 (1 : Int32)) 4 7 0 (x4 + (1 : Int32))) 4 8 0 (-1 : Int32)) i1 h1 (gF (sF (sF (sF z1 4 6 0 (1 : Int32)) 4 7 0 (x4 + (1 : Int32))) 4 8 0 (-1 : Int32)) 4 3 0) (0 : Int32) z3 q4) rfl ⟨rfl, rfl⟩ ⟨Nat.le_of_ble_eq_true rfl, Nat.le_of_ble_eq_true rfl⟩ ⟨Nat.zero_le _, Nat.zero_le _⟩ (Nat.le_of_ble_eq_true rfl) rfl dX4_fewestSames_32 (fun H locs hP hS => ?_)
  refine lv_aload_n hx hb dX4_fewestSames_35 rfl (lv_at hl 0 rfl) ?_
  refine gt_4_8 (i := 0) C hP (hok.2.1 4 0 (Nat.le_of_ble_eq_true rfl)) lk_X4_38 dX4_fewestSames_36 ?_
  refine lv_if_ge (tgt := 44) hx hb dX4_fewestSames_39 (by decide) (fun c8 => ?_) (fun c8 => ?_)
  · have hf := ifp hf c8
    refine lv_iconst (v := (0 : Int32)) hx hb dX4_fewestSames_44 (by decide) ?_
    refine lv_istore (lv' := [(5, .int (0 : Int32)), (0, .ref (ad 4 0)), (1, .ref (ad 1 i1)), (2, .int x2), (3, .int x3), (4, .int x4)]) hx hb dX4_fewestSames_45 hl (by decide) rfl (fun ls hl => ?_)
    refine lv_iconst (v := (0 : Int32)) hx hb dX4_fewestSames_47 (by decide) ?_
    refine lv_istore (lv' := [(6, .int (0 : Int32)), (5, .int (0 : Int32)), (0, .ref (ad 4 0)), (1, .ref (ad 1 i1)), (2, .int x2), (3, .int x3), (4, .int x4)]) hx hb dX4_fewestSames_48 hl (by decide) rfl (fun ls hl => ?_)
    exact L_lp_X4_fewestSames_50 z3 _ (fun u5_5 hf H locs ls hP hS hl => P_f_X4_fewestSames_87 z3 u5_5 hf _ _ ls hP hS (lv_sub hl [0] rfl)) N (0 : Int32) (0 : Int32) hf _ _ ls hP hS (lv_sub hl [2, 1, 0] rfl)
  · have hf := ifn hf c8
    refine lv_iconst (v := (-1 : Int32)) hx hb dX4_fewestSames_42 (by decide) ?_
    exact kr_i hok.2.2.1 C hlocks hr rfl hP hS (congrArg Prod.fst (Option.some.inj hf)) (congrArg Prod.snd (Option.some.inj hf)) dX4_fewestSames_43
def f_X4_holds (N : Nat) (w : Mem) (x1 : Int32) : Option (Int32) :=
  (if inb (ushr x1 (6 : Int32)) 64 = true then (if (lg_cmp ((lushr (gL w 28 0 (ushr x1 (6 : Int32)).toNatClampNeg) (x1 &&& (63 : Int32))) &&& (1 : Int64)) (0 : Int64)) = (0 : Int32) then
some (0 : Int32)
else
some (1 : Int32)) else none)
set_option maxRecDepth 100000 in
set_option maxHeartbeats 4000000 in
theorem c_X4_holds (l : Launch) (D : va_G) (ca : Nat → ClassId) (ad : Nat → Nat → Nat) (PL : List (Nat × Nat)) (Z : State → Prop) (A : Nat → Prop) (hok : okc bX Z A ad PL) (N : Nat) (w : Mem) (x1 : Int32) (r : Int32) (hf : f_X4_holds N w x1 = some r) : CT l yX4_holds (wsy yX4_holds cX4_holds 2 (some .boolean)) (rmk 0) D ca ad PL Z A [.ref (ad 4 0), .int x1] w w (some (.int r)) := by
  refine Met.ofW (cc := cX4_holds) (maxL := 2) (ret := (some .boolean)) (by decide +kernel) rfl ?_
  intro p e s m args below meth c s₁ B hml hv
  obtain ⟨rfl, hP, hK, hZ⟩ := hv
  have hx := B.exec
  have hb := B.bytes
  have hr := B.returns
  have hlocks := B.notSynchronized
  have hts : ∀ w ∈ ALL, w.before _ s = true := fun w hw => atoms_spec (ws := wsy yX4_holds cX4_holds 2 (some .boolean)) B.pre w (List.mem_cons_of_mem _ hw)
  have hown : s.vm.findClass RX4 = some m.cls := findClass_of_methodNamed B.named
  have C : CX p s m _ c cX4_holds RX4 2 D ca Z := ⟨hx, hb, hml, hown, hts, hK, hZ⟩
  have hS : va_S A s.heap s.heap [] := va_S.rf
  have hl := lv_entry ([.ref (ad 4 0), .int x1]) (n := 2) (Nat.le_of_ble_eq_true rfl)
  rw [lg_entry_eq]
  generalize (lg_sl ([.ref (ad 4 0), .int x1]) ++ List.replicate (2 - (lg_sl ([.ref (ad 4 0), .int x1])).length) Slot.unset).toArray = ls at hl ⊢
  have hl : lv_has ls 2 [(0, .ref (ad 4 0)), (1, .int x1)] := hl
  show W p l e (rmk 0) s m _ below meth c s.heap [] 0 0 _ _
  unfold f_X4_holds at hf
  -- walk
  refine lv_aload_n hx hb dX4_holds_0 rfl (lv_at hl 0 rfl) ?_
  refine gt_4_2 (i := 0) C hP (hok.2.1 4 0 (Nat.le_of_ble_eq_true rfl)) lk_X4_21 dX4_holds_1 ?_
  refine lv_iload_n hx hb dX4_holds_4 rfl (lv_at hl 1 rfl) ?_
  refine lv_bipush (v := (6 : Int32)) hx hb dX4_holds_5 (by decide) ?_
  refine lv_iushr (v := (ushr x1 (6 : Int32))) hx hb dX4_holds_7 rfl ?_
  obtain ⟨b1, hf⟩ := gsp hf
  refine ra_lld (k := 28) (i := 0) (n := 64) (f := (gL w 28 0)) C hP (hok.2.1 28 0 (Nat.le_of_ble_eq_true rfl)) rfl b1 dX4_holds_8 ?_
  refine lv_iload_n hx hb dX4_holds_9 rfl (lv_at hl 1 rfl) ?_
  refine lv_bipush (v := (63 : Int32)) hx hb dX4_holds_10 (by decide) ?_
  refine lv_iand hx hb dX4_holds_12 ?_
  refine lv_lushr (v := (lushr (gL w 28 0 (ushr x1 (6 : Int32)).toNatClampNeg) (x1 &&& (63 : Int32)))) hx hb dX4_holds_13 rfl ?_
  refine lv_lconst (v := (1 : Int64)) hx hb dX4_holds_14 (by decide) ?_
  refine lv_land hx hb dX4_holds_15 ?_
  refine lv_lconst (v := (0 : Int64)) hx hb dX4_holds_16 (by decide) ?_
  refine W.lcmp hx hb dX4_holds_17 ?_
  refine lv_if_eq (tgt := 25) hx hb dX4_holds_18 (by decide) (fun c2 => ?_) (fun c2 => ?_)
  · have hf := ifp hf c2
    refine lv_iconst (v := (0 : Int32)) hx hb dX4_holds_25 (by decide) ?_
    exact kr_i hok.2.2.1 C hlocks hr rfl hP hS rfl (Option.some.inj hf) dX4_holds_26
  · have hf := ifn hf c2
    refine lv_iconst (v := (1 : Int32)) hx hb dX4_holds_21 (by decide) ?_
    refine lv_goto (tgt := 26) hx hb dX4_holds_22 (by decide) ?_
    exact kr_i hok.2.2.1 C hlocks hr rfl hP hS rfl (Option.some.inj hf) dX4_holds_26
def f_X4_holdsWithLess_40 (N : Nat) (w : Mem)  : Option (Int32) :=
  some (0 : Int32)
def lp_X4_holdsWithLess_2 (k : Option (Int32)) (N : Nat) (w : Mem)  (v1 : Int32) : Nat → Int32 → Option (Int32)
  | 0, _ => none
  | n + 1, v2 => (if (gF w 4 3 0) ≤ v2 then
(k )
else
(if ((ushr v1 v2) &&& (1 : Int32)) = (0 : Int32) then
(lp_X4_holdsWithLess_2 k N w  v1 n (v2 + (1 : Int32)))
else
(Option.bind (f_X4_holds N w (v1 &&& (((1 : Int32) <<< (v2 &&& 31)) ^^^ (-1 : Int32)))) (fun z2 => (if z2 = (0 : Int32) then
(lp_X4_holdsWithLess_2 k N w  v1 n (v2 + (1 : Int32)))
else
some (1 : Int32))))))
def f_X4_holdsWithLess (N : Nat) (w : Mem) (x1 : Int32) : Option (Int32) :=
  (lp_X4_holdsWithLess_2 (f_X4_holdsWithLess_40 N w   ) N w  x1 N (0 : Int32))
set_option maxRecDepth 100000 in
set_option maxHeartbeats 4000000 in
theorem c_X4_holdsWithLess (l : Launch) (D : va_G) (ca : Nat → ClassId) (ad : Nat → Nat → Nat) (PL : List (Nat × Nat)) (Z : State → Prop) (A : Nat → Prop) (hok : okc bX Z A ad PL) (N : Nat) (w : Mem) (x1 : Int32) (r : Int32) (hf : f_X4_holdsWithLess N w x1 = some r) : CT l yX4_holdsWithLess (wsy yX4_holdsWithLess cX4_holdsWithLess 3 (some .boolean)) (rmk 1) D ca ad PL Z A [.ref (ad 4 0), .int x1] w w (some (.int r)) := by
  refine Met.ofW (cc := cX4_holdsWithLess) (maxL := 3) (ret := (some .boolean)) (by decide +kernel) rfl ?_
  intro p e s m args below meth c s₁ B hml hv
  obtain ⟨rfl, hP, hK, hZ⟩ := hv
  have hx := B.exec
  have hb := B.bytes
  have hr := B.returns
  have hlocks := B.notSynchronized
  have hts : ∀ w ∈ ALL, w.before _ s = true := fun w hw => atoms_spec (ws := wsy yX4_holdsWithLess cX4_holdsWithLess 3 (some .boolean)) B.pre w (List.mem_cons_of_mem _ hw)
  have hown : s.vm.findClass RX4 = some m.cls := findClass_of_methodNamed B.named
  have C : CX p s m _ c cX4_holdsWithLess RX4 3 D ca Z := ⟨hx, hb, hml, hown, hts, hK, hZ⟩
  have hS : va_S A s.heap s.heap [] := va_S.rf
  have hl := lv_entry ([.ref (ad 4 0), .int x1]) (n := 3) (Nat.le_of_ble_eq_true rfl)
  rw [lg_entry_eq]
  generalize (lg_sl ([.ref (ad 4 0), .int x1]) ++ List.replicate (3 - (lg_sl ([.ref (ad 4 0), .int x1])).length) Slot.unset).toArray = ls at hl ⊢
  have hl : lv_has ls 3 [(0, .ref (ad 4 0)), (1, .int x1)] := hl
  show W p l e (rmk 1) s m _ below meth c s.heap [] 0 0 _ _
  have P_f_X4_holdsWithLess_40 : f_X4_holdsWithLess_40 N w    = some r → WP p l e (rmk 1) s m [.ref (ad 4 0), .int x1].toArray below meth c D ca ad PL A (MQ below (qcR D ca ad PL Z A w (some (.int r))) [.ref (ad 4 0), .int x1].toArray s 0 0 A) 3 40 [] [] w := by
    intro  hf _ _ ls hP hS hl
    unfold f_X4_holdsWithLess_40 at hf
    refine lv_iconst (v := (0 : Int32)) hx hb dX4_holdsWithLess_40 (by decide) ?_
    exact kr_i hok.2.2.1 C hlocks hr rfl hP hS rfl (Option.some.inj hf) dX4_holdsWithLess_41
  have L_lp_X4_holdsWithLess_2 : ∀ (v1 : Int32) (k : Option (Int32)) (hk : k = some r → WP p l e (rmk 1) s m [.ref (ad 4 0), .int x1].toArray below meth c D ca ad PL A (MQ below (qcR D ca ad PL Z A w (some (.int r))) [.ref (ad 4 0), .int x1].toArray s 0 0 A) 3 40 [] [] w) (n : Nat) (v2 : Int32), lp_X4_holdsWithLess_2 k N w  v1 n v2 = some r → WP p l e (rmk 1) s m [.ref (ad 4 0), .int x1].toArray below meth c D ca ad PL A (MQ below (qcR D ca ad PL Z A w (some (.int r))) [.ref (ad 4 0), .int x1].toArray s 0 0 A) 3 2 [] [(0, .ref (ad 4 0)), (1, .int v1), (2, .int v2)] w := by
    intro v1 k hk n
    induction n with
    | zero => intro v2 hf; rw [lp_X4_holdsWithLess_2] at hf; cases hf
    | succ n ih =>
      intro v2 hf _ _ ls hP hS hl
      rw [lp_X4_holdsWithLess_2] at hf
      refine lv_iload_n hx hb dX4_holdsWithLess_2 rfl (lv_at hl 2 rfl) ?_
      refine lv_aload_n hx hb dX4_holdsWithLess_3 rfl (lv_at hl 0 rfl) ?_
      refine gt_4_3 (i := 0) C hP (hok.2.1 4 0 (Nat.le_of_ble_eq_true rfl)) lk_X4_41 dX4_holdsWithLess_4 ?_
      refine lv_icmp_ge (tgt := 40) hx hb dX4_holdsWithLess_7 (by decide) (fun c6 => ?_) (fun c6 => ?_)
      · have hf := ifp hf c6
        exact hk  hf _ _ ls hP hS (lv_sub hl [] rfl)
      · have hf := ifn hf c6
        refine lv_iload_n hx hb dX4_holdsWithLess_10 rfl (lv_at hl 1 rfl) ?_
        refine lv_iload_n hx hb dX4_holdsWithLess_11 rfl (lv_at hl 2 rfl) ?_
        refine lv_iushr (v := (ushr v1 v2)) hx hb dX4_holdsWithLess_12 rfl ?_
        refine lv_iconst (v := (1 : Int32)) hx hb dX4_holdsWithLess_13 (by decide) ?_
        refine lv_iand hx hb dX4_holdsWithLess_14 ?_
        refine lv_if_eq (tgt := 34) hx hb dX4_holdsWithLess_15 (by decide) (fun c5 => ?_) (fun c5 => ?_)
        · have hf := ifp hf c5
          refine lv_iinc (v := (v2 + (1 : Int32))) (lv' := [(2, .int (v2 + (1 : Int32))), (0, .ref (ad 4 0)), (1, .int v1)]) hx hb dX4_holdsWithLess_34 hl (k := 2) rfl rfl (by decide) rfl (fun ls hl => ?_)
          refine lv_goto (tgt := 2) hx hb dX4_holdsWithLess_37 (by decide) ?_
          exact ih (v2 + (1 : Int32)) hf _ _ ls hP hS (lv_sub hl [1, 2, 0] rfl)
        · have hf := ifn hf c5
          refine lv_aload_n hx hb dX4_holdsWithLess_18 rfl (lv_at hl 0 rfl) ?_
          refine lv_iload_n hx hb dX4_holdsWithLess_19 rfl (lv_at hl 1 rfl) ?_
          refine lv_iconst (v := (1 : Int32)) hx hb dX4_holdsWithLess_20 (by decide) ?_
          refine lv_iload_n hx hb dX4_holdsWithLess_21 rfl (lv_at hl 2 rfl) ?_
          refine lv_ishl hx hb dX4_holdsWithLess_22 ?_
          refine lv_iconst (v := (-1 : Int32)) hx hb dX4_holdsWithLess_23 (by decide) ?_
          refine lv_ixor hx hb dX4_holdsWithLess_24 ?_
          refine lv_iand hx hb dX4_holdsWithLess_25 ?_
          obtain ⟨z2, q3, hf⟩ := bsp hf
          refine kc_V (ci := 4) (i := 0) (As := [.int (v1 &&& (((1 : Int32) <<< (v2 &&& 31)) ^^^ (-1 : Int32)))]) (rest := []) hok.2.2.1 C hP hS hl.1 (hok.2.1 4 0 (Nat.le_of_ble_eq_true rfl)) rfl rfl cw_X4_holds ml_X4_47 (c_X4_holds l D ca ad PL Z A hok N w (v1 &&& (((1 : Int32) <<< (v2 &&& 31)) ^^^ (-1 : Int32))) z2 q3) rfl ⟨rfl, rfl⟩ ⟨Nat.le_of_ble_eq_true rfl, Nat.le_of_ble_eq_true rfl⟩ ⟨Nat.zero_le _, Nat.zero_le _⟩ (Nat.le_of_ble_eq_true rfl) rfl dX4_holdsWithLess_26 (fun H locs hP hS => ?_)
          refine lv_if_eq (tgt := 34) hx hb dX4_holdsWithLess_29 (by decide) (fun c4 => ?_) (fun c4 => ?_)
          · have hf := ifp hf c4
            refine lv_iinc (v := (v2 + (1 : Int32))) (lv' := [(2, .int (v2 + (1 : Int32))), (0, .ref (ad 4 0)), (1, .int v1)]) hx hb dX4_holdsWithLess_34 hl (k := 2) rfl rfl (by decide) rfl (fun ls hl => ?_)
            refine lv_goto (tgt := 2) hx hb dX4_holdsWithLess_37 (by decide) ?_
            exact ih (v2 + (1 : Int32)) hf _ _ ls hP hS (lv_sub hl [1, 2, 0] rfl)
          · have hf := ifn hf c4
            refine lv_iconst (v := (1 : Int32)) hx hb dX4_holdsWithLess_32 (by decide) ?_
            exact kr_i hok.2.2.1 C hlocks hr rfl hP hS rfl (Option.some.inj hf) dX4_holdsWithLess_33
  unfold f_X4_holdsWithLess at hf
  -- walk
  refine lv_iconst (v := (0 : Int32)) hx hb dX4_holdsWithLess_0 (by decide) ?_
  refine lv_istore_n (lv' := [(2, .int (0 : Int32)), (0, .ref (ad 4 0)), (1, .int x1)]) hx hb dX4_holdsWithLess_1 rfl hl (by decide) rfl (fun ls hl => ?_)
  exact L_lp_X4_holdsWithLess_2 x1 _ (fun hf H locs ls hP hS hl => P_f_X4_holdsWithLess_40 hf _ _ ls hP hS (lv_sub hl [] rfl)) N (0 : Int32) hf _ _ ls hP hS (lv_sub hl [1, 2, 0] rfl)
def f_X4_leastSets_99 (N : Nat) (w : Mem) (i1 : Nat) (v4 : Int32) : Option (Mem × Int32) :=
  some (w, v4)
def lp_X4_leastSets_61 (k : Int32 → Option (Mem × Int32)) (N : Nat) (w : Mem) (i1 : Nat) : Nat → Int32 → Int32 → Option (Mem × Int32)
  | 0, _, _ => none
  | n + 1, v4, v5 => (if ((1 : Int32) <<< ((gF w 4 3 0) &&& 31)) ≤ v5 then
(k v4)
else
(Option.bind (f_X4_holds N w v5) (fun z7 => (if z7 = (0 : Int32) then
(lp_X4_leastSets_61 k N w i1  n v4 (v5 + (1 : Int32)))
else
(Option.bind (f_X4_holdsWithLess N w v5) (fun z9 => (if z9 = (0 : Int32) then
(lp_X4_leastSets_61 k N w i1  n (v4 + (1 : Int32)) (v5 + (1 : Int32)))
else
(lp_X4_leastSets_61 k N w i1  n v4 (v5 + (1 : Int32))))))))))
def f_X4_leastSets_45 (N : Nat) (w : Mem) (i1 : Nat) : Option (Mem × Int32) :=
  (Option.bind (f_X4_visit N 14 w i1 (gF w 4 3 0) (0 : Int32)) (fun z4 => (lp_X4_leastSets_61 (fun (u4_6 : Int32) => (f_X4_leastSets_99 N z4 i1 u4_6 )) N z4 i1  N (0 : Int32) (0 : Int32))))
def lp_X4_leastSets_21 (k : Mem → Option (Mem × Int32)) (N : Nat) (i1 : Nat) : Nat → Mem → Int32 → Option (Mem × Int32)
  | 0, _, _ => none
  | n + 1, w, v4 => (if (64 : Int32) ≤ v4 then
(k w)
else
(if inb v4 64 = true then (lp_X4_leastSets_21 k N  i1  n (sL w 28 0 v4.toNatClampNeg (0 : Int64)) (v4 + (1 : Int32))) else none))
def f_X4_leastSets (N : Nat) (w : Mem) (i1 : Nat) (x2 : Int32) (x3 : Int32) : Option (Mem × Int32) :=
  (Option.bind (f_X4_begin N w i1 x2 x3) (fun z1 => (lp_X4_leastSets_21 (fun (w_3 : Mem) => (f_X4_leastSets_45 N w_3 i1  )) N  i1  N (sF (sF z1 4 6 0 (0 : Int32)) 4 7 0 (13 : Int32)) (0 : Int32))))
set_option maxRecDepth 100000 in
set_option maxHeartbeats 4000000 in
theorem c_X4_leastSets (l : Launch) (D : va_G) (ca : Nat → ClassId) (ad : Nat → Nat → Nat) (PL : List (Nat × Nat)) (Z : State → Prop) (A : Nat → Prop) (hok : okc bX Z A ad PL) (N : Nat) (w : Mem) (i1 : Nat) (h1 : i1 < 2) (x2 : Int32) (x3 : Int32) (w' : Mem) (r : Int32) (hf : f_X4_leastSets N w i1 x2 x3 = some (w', r)) : CT l yX4_leastSets (wsy yX4_leastSets cX4_leastSets 6 (some .int)) (rmk 20) D ca ad PL Z A [.ref (ad 4 0), .ref (ad 1 i1), .int x2, .int x3] w w' (some (.int r)) := by
  refine Met.ofW (cc := cX4_leastSets) (maxL := 6) (ret := (some .int)) (by decide +kernel) rfl ?_
  intro p e s m args below meth c s₁ B hml hv
  obtain ⟨rfl, hP, hK, hZ⟩ := hv
  have hx := B.exec
  have hb := B.bytes
  have hr := B.returns
  have hlocks := B.notSynchronized
  have hts : ∀ w ∈ ALL, w.before _ s = true := fun w hw => atoms_spec (ws := wsy yX4_leastSets cX4_leastSets 6 (some .int)) B.pre w (List.mem_cons_of_mem _ hw)
  have hown : s.vm.findClass RX4 = some m.cls := findClass_of_methodNamed B.named
  have C : CX p s m _ c cX4_leastSets RX4 6 D ca Z := ⟨hx, hb, hml, hown, hts, hK, hZ⟩
  have hS : va_S A s.heap s.heap [] := va_S.rf
  have hl := lv_entry ([.ref (ad 4 0), .ref (ad 1 i1), .int x2, .int x3]) (n := 6) (Nat.le_of_ble_eq_true rfl)
  rw [lg_entry_eq]
  generalize (lg_sl ([.ref (ad 4 0), .ref (ad 1 i1), .int x2, .int x3]) ++ List.replicate (6 - (lg_sl ([.ref (ad 4 0), .ref (ad 1 i1), .int x2, .int x3])).length) Slot.unset).toArray = ls at hl ⊢
  have hl : lv_has ls 6 [(0, .ref (ad 4 0)), (1, .ref (ad 1 i1)), (2, .int x2), (3, .int x3)] := hl
  show W p l e (rmk 20) s m _ below meth c s.heap [] 0 0 _ _
  have P_f_X4_leastSets_99 : ∀ (w : Mem) (v4 : Int32), f_X4_leastSets_99 N w i1 v4  = some (w', r) → WP p l e (rmk 20) s m [.ref (ad 4 0), .ref (ad 1 i1), .int x2, .int x3].toArray below meth c D ca ad PL A (MQ below (qcR D ca ad PL Z A w' (some (.int r))) [.ref (ad 4 0), .ref (ad 1 i1), .int x2, .int x3].toArray s 0 0 A) 6 99 [] [(4, .int v4)] w := by
    intro w v4 hf _ _ ls hP hS hl
    unfold f_X4_leastSets_99 at hf
    refine lv_iload hx hb dX4_leastSets_99 (lv_at hl 0 rfl) ?_
    exact kr_i hok.2.2.1 C hlocks hr rfl hP hS (congrArg Prod.fst (Option.some.inj hf)) (congrArg Prod.snd (Option.some.inj hf)) dX4_leastSets_101
  have L_lp_X4_leastSets_61 : ∀ (w : Mem) (k : Int32 → Option (Mem × Int32)) (hk : ∀ (v4 : Int32), k v4 = some (w', r) → WP p l e (rmk 20) s m [.ref (ad 4 0), .ref (ad 1 i1), .int x2, .int x3].toArray below meth c D ca ad PL A (MQ below (qcR D ca ad PL Z A w' (some (.int r))) [.ref (ad 4 0), .ref (ad 1 i1), .int x2, .int x3].toArray s 0 0 A) 6 99 [] [(4, .int v4)] w) (n : Nat) (v4 : Int32) (v5 : Int32), lp_X4_leastSets_61 k N w i1  n v4 v5 = some (w', r) → WP p l e (rmk 20) s m [.ref (ad 4 0), .ref (ad 1 i1), .int x2, .int x3].toArray below meth c D ca ad PL A (MQ below (qcR D ca ad PL Z A w' (some (.int r))) [.ref (ad 4 0), .ref (ad 1 i1), .int x2, .int x3].toArray s 0 0 A) 6 61 [] [(0, .ref (ad 4 0)), (4, .int v4), (5, .int v5)] w := by
    intro w k hk n
    induction n with
    | zero => intro v4 v5 hf; rw [lp_X4_leastSets_61] at hf; cases hf
    | succ n ih =>
      intro v4 v5 hf _ _ ls hP hS hl
      rw [lp_X4_leastSets_61] at hf
      refine lv_iload hx hb dX4_leastSets_61 (lv_at hl 2 rfl) ?_
      refine lv_iconst (v := (1 : Int32)) hx hb dX4_leastSets_63 (by decide) ?_
      refine lv_aload_n hx hb dX4_leastSets_64 rfl (lv_at hl 0 rfl) ?_
      refine gt_4_3 (i := 0) C hP (hok.2.1 4 0 (Nat.le_of_ble_eq_true rfl)) lk_X4_41 dX4_leastSets_65 ?_
      refine lv_ishl hx hb dX4_leastSets_68 ?_
      refine lv_icmp_ge (tgt := 99) hx hb dX4_leastSets_69 (by decide) (fun c13 => ?_) (fun c13 => ?_)
      · have hf := ifp hf c13
        exact hk v4 hf _ _ ls hP hS (lv_sub hl [1] rfl)
      · have hf := ifn hf c13
        refine lv_aload_n hx hb dX4_leastSets_72 rfl (lv_at hl 0 rfl) ?_
        refine lv_iload hx hb dX4_leastSets_73 (lv_at hl 2 rfl) ?_
        obtain ⟨z7, q8, hf⟩ := bsp hf
        refine kc_V (ci := 4) (i := 0) (As := [.int v5]) (rest := []) hok.2.2.1 C hP hS hl.1 (hok.2.1 4 0 (Nat.le_of_ble_eq_true rfl)) rfl rfl cw_X4_holds ml_X4_47 (c_X4_holds l D ca ad PL Z A hok N w v5 z7 q8) rfl ⟨rfl, rfl⟩ ⟨Nat.le_of_ble_eq_true rfl, Nat.le_of_ble_eq_true rfl⟩ ⟨Nat.zero_le _, Nat.zero_le _⟩ (Nat.le_of_ble_eq_true rfl) rfl dX4_leastSets_75 (fun H locs hP hS => ?_)
        refine lv_if_eq (tgt := 93) hx hb dX4_leastSets_78 (by decide) (fun c12 => ?_) (fun c12 => ?_)
        · have hf := ifp hf c12
          refine lv_iinc (v := (v5 + (1 : Int32))) (lv' := [(5, .int (v5 + (1 : Int32))), (0, .ref (ad 4 0)), (4, .int v4)]) hx hb dX4_leastSets_93 hl (k := 2) rfl rfl (by decide) rfl (fun ls hl => ?_)
          refine lv_goto (tgt := 61) hx hb dX4_leastSets_96 (by decide) ?_
          exact ih v4 (v5 + (1 : Int32)) hf _ _ ls hP hS (lv_sub hl [1, 2, 0] rfl)
        · have hf := ifn hf c12
          refine lv_aload_n hx hb dX4_leastSets_81 rfl (lv_at hl 0 rfl) ?_
          refine lv_iload hx hb dX4_leastSets_82 (lv_at hl 2 rfl) ?_
          obtain ⟨z9, q10, hf⟩ := bsp hf
          refine kc_V (ci := 4) (i := 0) (As := [.int v5]) (rest := []) hok.2.2.1 C hP hS hl.1 (hok.2.1 4 0 (Nat.le_of_ble_eq_true rfl)) rfl rfl cw_X4_holdsWithLess ml_X4_51 (c_X4_holdsWithLess l D ca ad PL Z A hok N w v5 z9 q10) rfl ⟨rfl, rfl⟩ ⟨Nat.le_of_ble_eq_true rfl, Nat.le_of_ble_eq_true rfl⟩ ⟨Nat.zero_le _, Nat.zero_le _⟩ (Nat.le_of_ble_eq_true rfl) rfl dX4_leastSets_84 (fun H locs hP hS => ?_)
          refine lv_if_ne (tgt := 93) hx hb dX4_leastSets_87 (by decide) (fun c11 => ?_) (fun c11 => ?_)
          · have hf := ifn hf c11
            refine lv_iinc (v := (v5 + (1 : Int32))) (lv' := [(5, .int (v5 + (1 : Int32))), (0, .ref (ad 4 0)), (4, .int v4)]) hx hb dX4_leastSets_93 hl (k := 2) rfl rfl (by decide) rfl (fun ls hl => ?_)
            refine lv_goto (tgt := 61) hx hb dX4_leastSets_96 (by decide) ?_
            exact ih v4 (v5 + (1 : Int32)) hf _ _ ls hP hS (lv_sub hl [1, 2, 0] rfl)
          · have hf := ifp hf c11
            refine lv_iinc (v := (v4 + (1 : Int32))) (lv' := [(4, .int (v4 + (1 : Int32))), (0, .ref (ad 4 0)), (5, .int v5)]) hx hb dX4_leastSets_90 hl (k := 1) rfl rfl (by decide) rfl (fun ls hl => ?_)
            refine lv_iinc (v := (v5 + (1 : Int32))) (lv' := [(5, .int (v5 + (1 : Int32))), (4, .int (v4 + (1 : Int32))), (0, .ref (ad 4 0))]) hx hb dX4_leastSets_93 hl (k := 2) rfl rfl (by decide) rfl (fun ls hl => ?_)
            refine lv_goto (tgt := 61) hx hb dX4_leastSets_96 (by decide) ?_
            exact ih (v4 + (1 : Int32)) (v5 + (1 : Int32)) hf _ _ ls hP hS (lv_sub hl [2, 1, 0] rfl)
  have P_f_X4_leastSets_45 : ∀ (w : Mem), f_X4_leastSets_45 N w i1   = some (w', r) → WP p l e (rmk 20) s m [.ref (ad 4 0), .ref (ad 1 i1), .int x2, .int x3].toArray below meth c D ca ad PL A (MQ below (qcR D ca ad PL Z A w' (some (.int r))) [.ref (ad 4 0), .ref (ad 1 i1), .int x2, .int x3].toArray s 0 0 A) 6 45 [] [(0, .ref (ad 4 0)), (1, .ref (ad 1 i1))] w := by
    intro w hf _ _ ls hP hS hl
    unfold f_X4_leastSets_45 at hf
    refine lv_aload_n hx hb dX4_leastSets_45 rfl (lv_at hl 0 rfl) ?_
    refine lv_aload_n hx hb dX4_leastSets_46 rfl (lv_at hl 1 rfl) ?_
    refine lv_aload_n hx hb dX4_leastSets_47 rfl (lv_at hl 0 rfl) ?_
    refine gt_4_3 (i := 0) C hP (hok.2.1 4 0 (Nat.le_of_ble_eq_true rfl)) lk_X4_41 dX4_leastSets_48 ?_
    refine lv_iconst (v := (0 : Int32)) hx hb dX4_leastSets_51 (by decide) ?_
    obtain ⟨z4, q5, hf⟩ := bsp hf
    refine kc_V (ci := 4) (i := 0) (As := [.ref (ad 1 i1), .int (gF w 4 3 0), .int (0 : Int32)]) (rest := []) hok.2.2.1 C hP hS hl.1 (hok.2.1 4 0 (Nat.le_of_ble_eq_true rfl)) rfl rfl cw_X4_visit ml_X4_44 (c_X4_visit l D ca ad PL Z A hok N 14 w i1 h1 (gF w 4 3 0) (0 : Int32) z4 q5) rfl ⟨rfl, rfl⟩ ⟨Nat.le_of_ble_eq_true rfl, Nat.le_of_ble_eq_true rfl⟩ ⟨Nat.zero_le _, Nat.zero_le _⟩ (Nat.le_of_ble_eq_true rfl) rfl dX4_leastSets_52 (fun H locs hP hS => ?_)
    refine lv_iconst (v := (0 : Int32)) hx hb dX4_leastSets_55 (by decide) ?_
    refine lv_istore (lv' := [(4, .int (0 : Int32)), (0, .ref (ad 4 0)), (1, .ref (ad 1 i1))]) hx hb dX4_leastSets_56 hl (by decide) rfl (fun ls hl => ?_)
    refine lv_iconst (v := (0 : Int32)) hx hb dX4_leastSets_58 (by decide) ?_
    refine lv_istore (lv' := [(5, .int (0 : Int32)), (4, .int (0 : Int32)), (0, .ref (ad 4 0)), (1, .ref (ad 1 i1))]) hx hb dX4_leastSets_59 hl (by decide) rfl (fun ls hl => ?_)
    exact L_lp_X4_leastSets_61 z4 _ (fun u4_6 hf H locs ls hP hS hl => P_f_X4_leastSets_99 z4 u4_6 hf _ _ ls hP hS (lv_sub hl [0] rfl)) N (0 : Int32) (0 : Int32) hf _ _ ls hP hS (lv_sub hl [2, 1, 0] rfl)
  have L_lp_X4_leastSets_21 : ∀ (k : Mem → Option (Mem × Int32)) (hk : ∀ (w : Mem), k w = some (w', r) → WP p l e (rmk 20) s m [.ref (ad 4 0), .ref (ad 1 i1), .int x2, .int x3].toArray below meth c D ca ad PL A (MQ below (qcR D ca ad PL Z A w' (some (.int r))) [.ref (ad 4 0), .ref (ad 1 i1), .int x2, .int x3].toArray s 0 0 A) 6 45 [] [(0, .ref (ad 4 0)), (1, .ref (ad 1 i1))] w) (n : Nat) (w : Mem) (v4 : Int32), lp_X4_leastSets_21 k N  i1  n w v4 = some (w', r) → WP p l e (rmk 20) s m [.ref (ad 4 0), .ref (ad 1 i1), .int x2, .int x3].toArray below meth c D ca ad PL A (MQ below (qcR D ca ad PL Z A w' (some (.int r))) [.ref (ad 4 0), .ref (ad 1 i1), .int x2, .int x3].toArray s 0 0 A) 6 21 [] [(0, .ref (ad 4 0)), (1, .ref (ad 1 i1)), (4, .int v4)] w := by
    intro k hk n
    induction n with
    | zero => intro w v4 hf; rw [lp_X4_leastSets_21] at hf; cases hf
    | succ n ih =>
      intro w v4 hf _ _ ls hP hS hl
      rw [lp_X4_leastSets_21] at hf
      refine lv_iload hx hb dX4_leastSets_21 (lv_at hl 2 rfl) ?_
      refine lv_aload_n hx hb dX4_leastSets_23 rfl (lv_at hl 0 rfl) ?_
      refine gt_4_2 (i := 0) C hP (hok.2.1 4 0 (Nat.le_of_ble_eq_true rfl)) lk_X4_21 dX4_leastSets_24 ?_
      refine ra_len (n := 64) (t0 := 2) (q := ca 2) (v := (64 : Int32)) C hP (hok.2.1 28 0 (Nat.le_of_ble_eq_true rfl)) rfl rfl (by decide) dX4_leastSets_27 ?_
      refine lv_icmp_ge (tgt := 45) hx hb dX4_leastSets_28 (by decide) (fun c15 => ?_) (fun c15 => ?_)
      · have hf := ifp hf c15
        exact hk w hf _ _ ls hP hS (lv_sub hl [0, 1] rfl)
      · have hf := ifn hf c15
        refine lv_aload_n hx hb dX4_leastSets_31 rfl (lv_at hl 0 rfl) ?_
        refine gt_4_2 (i := 0) C hP (hok.2.1 4 0 (Nat.le_of_ble_eq_true rfl)) lk_X4_21 dX4_leastSets_32 ?_
        refine lv_iload hx hb dX4_leastSets_35 (lv_at hl 2 rfl) ?_
        refine lv_lconst (v := (0 : Int64)) hx hb dX4_leastSets_37 (by decide) ?_
        obtain ⟨b14, hf⟩ := gsp hf
        refine ra_lst (k := 28) (i := 0) (n := 64) C hok.1 hP hS (hok.2.1 28 0 (Nat.le_of_ble_eq_true rfl)) (fun _ => rfl) b14 dX4_leastSets_38 (fun H locs hP hS => ?_)
        refine lv_iinc (v := (v4 + (1 : Int32))) (lv' := [(4, .int (v4 + (1 : Int32))), (0, .ref (ad 4 0)), (1, .ref (ad 1 i1))]) hx hb dX4_leastSets_39 hl (k := 2) rfl rfl (by decide) rfl (fun ls hl => ?_)
        refine lv_goto (tgt := 21) hx hb dX4_leastSets_42 (by decide) ?_
        exact ih (sL w 28 0 v4.toNatClampNeg (0 : Int64)) (v4 + (1 : Int32)) hf _ _ ls hP hS (lv_sub hl [1, 2, 0] rfl)
  unfold f_X4_leastSets at hf
  -- walk
  refine lv_aload_n hx hb dX4_leastSets_0 rfl (lv_at hl 0 rfl) ?_
  refine lv_aload_n hx hb dX4_leastSets_1 rfl (lv_at hl 1 rfl) ?_
  refine lv_iload_n hx hb dX4_leastSets_2 rfl (lv_at hl 2 rfl) ?_
  refine lv_iload_n hx hb dX4_leastSets_3 rfl (lv_at hl 3 rfl) ?_
  obtain ⟨z1, q2, hf⟩ := bsp hf
  refine kc_V (ci := 4) (i := 0) (As := [.ref (ad 1 i1), .int x2, .int x3]) (rest := []) hok.2.2.1 C hP hS hl.1 (hok.2.1 4 0 (Nat.le_of_ble_eq_true rfl)) rfl rfl cw_X4_begin ml_X4_26 (c_X4_begin l D ca ad PL Z A hok N w i1 h1 x2 x3 z1 q2) rfl ⟨rfl, rfl⟩ ⟨Nat.le_of_ble_eq_true rfl, Nat.le_of_ble_eq_true rfl⟩ ⟨Nat.zero_le _, Nat.zero_le _⟩ (Nat.le_of_ble_eq_true rfl) rfl dX4_leastSets_4 (fun H locs hP hS => ?_)
  refine lv_aload_n hx hb dX4_leastSets_7 rfl (lv_at hl 0 rfl) ?_
  refine lv_iconst (v := (0 : Int32)) hx hb dX4_leastSets_8 (by decide) ?_
  refine pt_4_6 (i := 0) (v := (0 : Int32)) C hok.1 hP hS (hok.2.1 4 0 (Nat.le_of_ble_eq_true rfl)) (Or.inl rfl) lk_X4_30 dX4_leastSets_9 (fun H locs hP hS => ?_)
  refine lv_aload_n hx hb dX4_leastSets_12 rfl (lv_at hl 0 rfl) ?_
  refine lv_bipush (v := (13 : Int32)) hx hb dX4_leastSets_13 (by decide) ?_
  refine pt_4_7 (i := 0) (v := (13 : Int32)) C hok.1 hP hS (hok.2.1 4 0 (Nat.le_of_ble_eq_true rfl)) lk_X4_34 dX4_leastSets_15 (fun H locs hP hS => ?_)
  refine lv_iconst (v := (0 : Int32)) hx hb dX4_leastSets_18 (by decide) ?_
  refine lv_istore (lv' := [(4, .int (0 : Int32)), (0, .ref (ad 4 0)), (1, .ref (ad 1 i1)), (2, .int x2), (3, .int x3)]) hx hb dX4_leastSets_19 hl (by decide) rfl (fun ls hl => ?_)
  exact L_lp_X4_leastSets_21 _ (fun w_3 hf H locs ls hP hS hl => P_f_X4_leastSets_45 w_3 hf _ _ ls hP hS (lv_sub hl [0, 1] rfl)) N (sF (sF z1 4 6 0 (0 : Int32)) 4 7 0 (13 : Int32)) (0 : Int32) hf _ _ ls hP hS (lv_sub hl [1, 2, 0] rfl)
