def f_X2_clear (N : Nat) (w : Mem) (i0 : Nat) : Option (Mem) :=
  some (sF (sF w 2 6 i0 (0 : Int32)) 2 7 i0 (0 : Int32))
set_option maxRecDepth 100000 in
set_option maxHeartbeats 4000000 in
theorem c_X2_clear (l : Launch) (D : va_G) (ca : Nat → ClassId) (ad : Nat → Nat → Nat) (PL : List (Nat × Nat)) (Z : State → Prop) (A : Nat → Prop) (hok : okc bX Z A ad PL) (N : Nat) (w : Mem) (i0 : Nat) (h0 : i0 < 2) (w' : Mem) (hf : f_X2_clear N w i0 = some w') : CT l yX2_clear (wsy yX2_clear cX2_clear 1 none) (rmk 0) D ca ad PL Z A [.ref (ad 2 i0)] w w' none := by
  refine Met.ofW (cc := cX2_clear) (maxL := 1) (ret := none) (by decide +kernel) rfl ?_
  intro p e s m args below meth c s₁ B hml hv
  obtain ⟨rfl, hP, hK, hZ⟩ := hv
  have hx := B.exec
  have hb := B.bytes
  have hr := B.returns
  have hlocks := B.notSynchronized
  have hts : ∀ w ∈ ALL, w.before _ s = true := fun w hw => atoms_spec (ws := wsy yX2_clear cX2_clear 1 none) B.pre w (List.mem_cons_of_mem _ hw)
  have hown : s.vm.findClass RX2 = some m.cls := findClass_of_methodNamed B.named
  have C : CX p s m _ c cX2_clear RX2 1 D ca Z := ⟨hx, hb, hml, hown, hts, hK, hZ⟩
  have hS : va_S A s.heap s.heap [] := va_S.rf
  have hl := lv_entry ([.ref (ad 2 i0)]) (n := 1) (Nat.le_of_ble_eq_true rfl)
  rw [lg_entry_eq]
  generalize (lg_sl ([.ref (ad 2 i0)]) ++ List.replicate (1 - (lg_sl ([.ref (ad 2 i0)])).length) Slot.unset).toArray = ls at hl ⊢
  have hl : lv_has ls 1 [(0, .ref (ad 2 i0))] := hl
  show W p l e (rmk 0) s m _ below meth c s.heap [] 0 0 _ _
  unfold f_X2_clear at hf
  -- walk
  refine lv_aload_n hx hb dX2_clear_0 rfl (lv_at hl 0 rfl) ?_
  refine lv_iconst (v := (0 : Int32)) hx hb dX2_clear_1 (by decide) ?_
  refine pt_2_6 (i := i0) (v := (0 : Int32)) C hok.1 hP hS (hok.2.1 2 i0 h0) lk_X2_30 dX2_clear_2 (fun H locs hP hS => ?_)
  refine lv_aload_n hx hb dX2_clear_5 rfl (lv_at hl 0 rfl) ?_
  refine lv_iconst (v := (0 : Int32)) hx hb dX2_clear_6 (by decide) ?_
  refine pt_2_7 (i := i0) (v := (0 : Int32)) C hok.1 hP hS (hok.2.1 2 i0 h0) lk_X2_34 dX2_clear_7 (fun H locs hP hS => ?_)
  exact kr_v hok.2.2.1 C hlocks hr hP hS (Option.some.inj hf) dX2_clear_10
def f_X2_addLone (N : Nat) (w : Mem) (i0 : Nat) : Option (Mem) :=
  (if (24 : Int32) ≤ (gF w 2 6 i0) then
some w
else
(if inb (gF w 2 6 i0) 24 = true then (if inb (gF (sA w 19 i0 (gF w 2 6 i0).toNatClampNeg (-1 : Int32)) 2 6 i0) 24 = true then some (sF (sA (sA w 19 i0 (gF w 2 6 i0).toNatClampNeg (-1 : Int32)) 20 i0 (gF (sA w 19 i0 (gF w 2 6 i0).toNatClampNeg (-1 : Int32)) 2 6 i0).toNatClampNeg (-1 : Int32)) 2 6 i0 ((gF (sA (sA w 19 i0 (gF w 2 6 i0).toNatClampNeg (-1 : Int32)) 20 i0 (gF (sA w 19 i0 (gF w 2 6 i0).toNatClampNeg (-1 : Int32)) 2 6 i0).toNatClampNeg (-1 : Int32)) 2 6 i0) + (1 : Int32))) else none) else none))
set_option maxRecDepth 100000 in
set_option maxHeartbeats 4000000 in
theorem c_X2_addLone (l : Launch) (D : va_G) (ca : Nat → ClassId) (ad : Nat → Nat → Nat) (PL : List (Nat × Nat)) (Z : State → Prop) (A : Nat → Prop) (hok : okc bX Z A ad PL) (N : Nat) (w : Mem) (i0 : Nat) (h0 : i0 < 2) (w' : Mem) (hf : f_X2_addLone N w i0 = some w') : CT l yX2_addLone (wsy yX2_addLone cX2_addLone 1 none) (rmk 0) D ca ad PL Z A [.ref (ad 2 i0)] w w' none := by
  refine Met.ofW (cc := cX2_addLone) (maxL := 1) (ret := none) (by decide +kernel) rfl ?_
  intro p e s m args below meth c s₁ B hml hv
  obtain ⟨rfl, hP, hK, hZ⟩ := hv
  have hx := B.exec
  have hb := B.bytes
  have hr := B.returns
  have hlocks := B.notSynchronized
  have hts : ∀ w ∈ ALL, w.before _ s = true := fun w hw => atoms_spec (ws := wsy yX2_addLone cX2_addLone 1 none) B.pre w (List.mem_cons_of_mem _ hw)
  have hown : s.vm.findClass RX2 = some m.cls := findClass_of_methodNamed B.named
  have C : CX p s m _ c cX2_addLone RX2 1 D ca Z := ⟨hx, hb, hml, hown, hts, hK, hZ⟩
  have hS : va_S A s.heap s.heap [] := va_S.rf
  have hl := lv_entry ([.ref (ad 2 i0)]) (n := 1) (Nat.le_of_ble_eq_true rfl)
  rw [lg_entry_eq]
  generalize (lg_sl ([.ref (ad 2 i0)]) ++ List.replicate (1 - (lg_sl ([.ref (ad 2 i0)])).length) Slot.unset).toArray = ls at hl ⊢
  have hl : lv_has ls 1 [(0, .ref (ad 2 i0))] := hl
  show W p l e (rmk 0) s m _ below meth c s.heap [] 0 0 _ _
  unfold f_X2_addLone at hf
  -- walk
  refine lv_aload_n hx hb dX2_addLone_0 rfl (lv_at hl 0 rfl) ?_
  refine gt_2_6 (i := i0) C hP (hok.2.1 2 i0 h0) lk_X2_30 dX2_addLone_1 ?_
  refine lv_bipush (v := (24 : Int32)) hx hb dX2_addLone_4 (by decide) ?_
  refine lv_icmp_ge (tgt := 39) hx hb dX2_addLone_6 (by decide) (fun c3 => ?_) (fun c3 => ?_)
  · have hf := ifp hf c3
    exact kr_v hok.2.2.1 C hlocks hr hP hS (Option.some.inj hf) dX2_addLone_39
  · have hf := ifn hf c3
    refine lv_aload_n hx hb dX2_addLone_9 rfl (lv_at hl 0 rfl) ?_
    refine gt_2_0 (i := i0) C hP (hok.2.1 2 i0 h0) lk_X2_9 dX2_addLone_10 ?_
    refine lv_aload_n hx hb dX2_addLone_13 rfl (lv_at hl 0 rfl) ?_
    refine gt_2_6 (i := i0) C hP (hok.2.1 2 i0 h0) lk_X2_30 dX2_addLone_14 ?_
    refine lv_iconst (v := (-1 : Int32)) hx hb dX2_addLone_17 (by decide) ?_
    obtain ⟨b1, hf⟩ := gsp hf
    refine ra_ist (k := 19) (i := i0) (n := 24) C hok.1 hP hS (hok.2.1 19 i0 h0) (fun _ => rfl) b1 dX2_addLone_18 (fun H locs hP hS => ?_)
    refine lv_aload_n hx hb dX2_addLone_19 rfl (lv_at hl 0 rfl) ?_
    refine gt_2_1 (i := i0) C hP (hok.2.1 2 i0 h0) lk_X2_15 dX2_addLone_20 ?_
    refine lv_aload_n hx hb dX2_addLone_23 rfl (lv_at hl 0 rfl) ?_
    refine gt_2_6 (i := i0) C hP (hok.2.1 2 i0 h0) lk_X2_30 dX2_addLone_24 ?_
    refine lv_iconst (v := (-1 : Int32)) hx hb dX2_addLone_27 (by decide) ?_
    obtain ⟨b2, hf⟩ := gsp hf
    refine ra_ist (k := 20) (i := i0) (n := 24) C hok.1 hP hS (hok.2.1 20 i0 h0) (fun _ => rfl) b2 dX2_addLone_28 (fun H locs hP hS => ?_)
    refine lv_aload_n hx hb dX2_addLone_29 rfl (lv_at hl 0 rfl) ?_
    refine lv_dup hx hb dX2_addLone_30 rfl ?_
    refine gt_2_6 (i := i0) C hP (hok.2.1 2 i0 h0) lk_X2_30 dX2_addLone_31 ?_
    refine lv_iconst (v := (1 : Int32)) hx hb dX2_addLone_34 (by decide) ?_
    refine lv_iadd hx hb dX2_addLone_35 ?_
    refine pt_2_6 (i := i0) (v := ((gF (sA (sA w 19 i0 (gF w 2 6 i0).toNatClampNeg (-1 : Int32)) 20 i0 (gF (sA w 19 i0 (gF w 2 6 i0).toNatClampNeg (-1 : Int32)) 2 6 i0).toNatClampNeg (-1 : Int32)) 2 6 i0) + (1 : Int32))) C hok.1 hP hS (hok.2.1 2 i0 h0) lk_X2_30 dX2_addLone_36 (fun H locs hP hS => ?_)
    exact kr_v hok.2.2.1 C hlocks hr hP hS (Option.some.inj hf) dX2_addLone_39
def f_X2_reasonsBetween_178 (N : Nat) (w : Mem) (i0 : Nat) (v5 : Int32) : Option (Int32) :=
  some v5
def lp_X2_reasonsBetween_122 (k : Int32 → Option (Int32)) (N : Nat) (w : Mem) (i0 : Nat) (v6 : Int32) : Nat → Int32 → Int32 → Int32 → Option (Int32)
  | 0, _, _, _ => none
  | n + 1, v4, v5, v7 => (if (24 : Int32) ≤ v7 then
(k v5)
else
(if v4 = v6 then
(k v5)
else
(if inb v4 24 = true then (if (gA w 19 i0 v4.toNatClampNeg) < (0 : Int32) then
(k v5)
else
(if inb (gA w 20 i0 v4.toNatClampNeg) 24 = true then (lp_X2_reasonsBetween_122 k N w i0 v6 n (gA w 19 i0 v4.toNatClampNeg) (v5 ||| (gA w 24 i0 (gA w 20 i0 v4.toNatClampNeg).toNatClampNeg)) (v7 + (1 : Int32))) else none)) else none)))
def f_X2_reasonsBetween_116 (N : Nat) (w : Mem) (i0 : Nat) (v1 : Int32) (v5 : Int32) (v6 : Int32) : Option (Int32) :=
  (lp_X2_reasonsBetween_122 (fun (u5_3 : Int32) => (f_X2_reasonsBetween_178 N w i0 u5_3 )) N w i0 v6 N v1 v5 (0 : Int32))
def lp_X2_reasonsBetween_58 (k : Int32 → Int32 → Option (Int32)) (N : Nat) (w : Mem) (i0 : Nat) (v1 : Int32) (v3 : Int32) : Nat → Int32 → Int32 → Int32 → Option (Int32)
  | 0, _, _, _ => none
  | n + 1, v5, v6, v7 => (if (24 : Int32) ≤ v7 then
(k v5 v6)
else
(if ((ushr v3 v6) &&& (1 : Int32)) = (0 : Int32) then
(if inb v6 24 = true then (if (gA w 19 i0 v6.toNatClampNeg) < (0 : Int32) then
(k v5 v6)
else
(if inb (gA w 20 i0 v6.toNatClampNeg) 24 = true then (lp_X2_reasonsBetween_58 k N w i0 v1 v3 n (v5 ||| (gA w 24 i0 (gA w 20 i0 v6.toNatClampNeg).toNatClampNeg)) (gA w 19 i0 v6.toNatClampNeg) (v7 + (1 : Int32))) else none)) else none)
else
(k v5 v6)))
def f_X2_reasonsBetween_49 (N : Nat) (w : Mem) (i0 : Nat) (v1 : Int32) (v2 : Int32) (v3 : Int32) : Option (Int32) :=
  (lp_X2_reasonsBetween_58 (fun (u5_2 : Int32) (u6_2 : Int32) => (f_X2_reasonsBetween_116 N w i0 v1 u5_2 u6_2 )) N w i0 v1 v3 N (0 : Int32) v2 (0 : Int32))
def lp_X2_reasonsBetween_10 (k : Int32 → Option (Int32)) (N : Nat) (w : Mem) (i0 : Nat) (v1 : Int32) (v2 : Int32) : Nat → Int32 → Int32 → Int32 → Option (Int32)
  | 0, _, _, _ => none
  | n + 1, v3, v4, v5 => (if (24 : Int32) ≤ v5 then
(k v3)
else
(if inb v4 24 = true then (if (gA w 19 i0 v4.toNatClampNeg) < (0 : Int32) then
(k v3)
else
(lp_X2_reasonsBetween_10 k N w i0 v1 v2 n (v3 ||| ((1 : Int32) <<< ((gA w 19 i0 v4.toNatClampNeg) &&& 31))) (gA w 19 i0 v4.toNatClampNeg) (v5 + (1 : Int32)))) else none))
def f_X2_reasonsBetween (N : Nat) (w : Mem) (i0 : Nat) (x1 : Int32) (x2 : Int32) : Option (Int32) :=
  (lp_X2_reasonsBetween_10 (fun (u3_1 : Int32) => (f_X2_reasonsBetween_49 N w i0 x1 x2 u3_1 )) N w i0 x1 x2 N ((1 : Int32) <<< (x1 &&& 31)) x1 (0 : Int32))
set_option maxRecDepth 100000 in
set_option maxHeartbeats 4000000 in
theorem c_X2_reasonsBetween (l : Launch) (D : va_G) (ca : Nat → ClassId) (ad : Nat → Nat → Nat) (PL : List (Nat × Nat)) (Z : State → Prop) (A : Nat → Prop) (hok : okc bX Z A ad PL) (N : Nat) (w : Mem) (i0 : Nat) (h0 : i0 < 2) (x1 : Int32) (x2 : Int32) (r : Int32) (hf : f_X2_reasonsBetween N w i0 x1 x2 = some r) : CT l yX2_reasonsBetween (wsy yX2_reasonsBetween cX2_reasonsBetween 8 (some .int)) (rmk 0) D ca ad PL Z A [.ref (ad 2 i0), .int x1, .int x2] w w (some (.int r)) := by
  refine Met.ofW (cc := cX2_reasonsBetween) (maxL := 8) (ret := (some .int)) (by decide +kernel) rfl ?_
  intro p e s m args below meth c s₁ B hml hv
  obtain ⟨rfl, hP, hK, hZ⟩ := hv
  have hx := B.exec
  have hb := B.bytes
  have hr := B.returns
  have hlocks := B.notSynchronized
  have hts : ∀ w ∈ ALL, w.before _ s = true := fun w hw => atoms_spec (ws := wsy yX2_reasonsBetween cX2_reasonsBetween 8 (some .int)) B.pre w (List.mem_cons_of_mem _ hw)
  have hown : s.vm.findClass RX2 = some m.cls := findClass_of_methodNamed B.named
  have C : CX p s m _ c cX2_reasonsBetween RX2 8 D ca Z := ⟨hx, hb, hml, hown, hts, hK, hZ⟩
  have hS : va_S A s.heap s.heap [] := va_S.rf
  have hl := lv_entry ([.ref (ad 2 i0), .int x1, .int x2]) (n := 8) (Nat.le_of_ble_eq_true rfl)
  rw [lg_entry_eq]
  generalize (lg_sl ([.ref (ad 2 i0), .int x1, .int x2]) ++ List.replicate (8 - (lg_sl ([.ref (ad 2 i0), .int x1, .int x2])).length) Slot.unset).toArray = ls at hl ⊢
  have hl : lv_has ls 8 [(0, .ref (ad 2 i0)), (1, .int x1), (2, .int x2)] := hl
  show W p l e (rmk 0) s m _ below meth c s.heap [] 0 0 _ _
  have P_f_X2_reasonsBetween_178 : ∀ (v5 : Int32), f_X2_reasonsBetween_178 N w i0 v5  = some r → WP p l e (rmk 0) s m [.ref (ad 2 i0), .int x1, .int x2].toArray below meth c D ca ad PL A (MQ below (qcR D ca ad PL Z A w (some (.int r))) [.ref (ad 2 i0), .int x1, .int x2].toArray s 0 0 A) 8 178 [] [(5, .int v5)] w := by
    intro v5 hf _ _ ls hP hS hl
    unfold f_X2_reasonsBetween_178 at hf
    refine lv_iload hx hb dX2_reasonsBetween_178 (lv_at hl 0 rfl) ?_
    exact kr_i hok.2.2.1 C hlocks hr rfl hP hS rfl (Option.some.inj hf) dX2_reasonsBetween_180
  have L_lp_X2_reasonsBetween_122 : ∀ (v6 : Int32) (k : Int32 → Option (Int32)) (hk : ∀ (v5 : Int32), k v5 = some r → WP p l e (rmk 0) s m [.ref (ad 2 i0), .int x1, .int x2].toArray below meth c D ca ad PL A (MQ below (qcR D ca ad PL Z A w (some (.int r))) [.ref (ad 2 i0), .int x1, .int x2].toArray s 0 0 A) 8 178 [] [(5, .int v5)] w) (n : Nat) (v4 : Int32) (v5 : Int32) (v7 : Int32), lp_X2_reasonsBetween_122 k N w i0 v6 n v4 v5 v7 = some r → WP p l e (rmk 0) s m [.ref (ad 2 i0), .int x1, .int x2].toArray below meth c D ca ad PL A (MQ below (qcR D ca ad PL Z A w (some (.int r))) [.ref (ad 2 i0), .int x1, .int x2].toArray s 0 0 A) 8 122 [] [(0, .ref (ad 2 i0)), (4, .int v4), (5, .int v5), (6, .int v6), (7, .int v7)] w := by
    intro v6 k hk n
    induction n with
    | zero => intro v4 v5 v7 hf; rw [lp_X2_reasonsBetween_122] at hf; cases hf
    | succ n ih =>
      intro v4 v5 v7 hf _ _ ls hP hS hl
      rw [lp_X2_reasonsBetween_122] at hf
      refine lv_iload hx hb dX2_reasonsBetween_122 (lv_at hl 4 rfl) ?_
      refine lv_bipush (v := (24 : Int32)) hx hb dX2_reasonsBetween_124 (by decide) ?_
      refine lv_icmp_ge (tgt := 178) hx hb dX2_reasonsBetween_126 (by decide) (fun c8 => ?_) (fun c8 => ?_)
      · have hf := ifp hf c8
        exact hk v5 hf _ _ ls hP hS (lv_sub hl [2] rfl)
      · have hf := ifn hf c8
        refine lv_iload hx hb dX2_reasonsBetween_129 (lv_at hl 1 rfl) ?_
        refine lv_iload hx hb dX2_reasonsBetween_131 (lv_at hl 3 rfl) ?_
        refine lv_icmp_eq (tgt := 178) hx hb dX2_reasonsBetween_133 (by decide) (fun c7 => ?_) (fun c7 => ?_)
        · have hf := ifp hf c7
          exact hk v5 hf _ _ ls hP hS (lv_sub hl [2] rfl)
        · have hf := ifn hf c7
          refine lv_aload_n hx hb dX2_reasonsBetween_136 rfl (lv_at hl 0 rfl) ?_
          refine gt_2_0 (i := i0) C hP (hok.2.1 2 i0 h0) lk_X2_9 dX2_reasonsBetween_137 ?_
          refine lv_iload hx hb dX2_reasonsBetween_140 (lv_at hl 1 rfl) ?_
          obtain ⟨b4, hf⟩ := gsp hf
          refine ra_ild (k := 19) (i := i0) (n := 24) (f := (gA w 19 i0)) C hP (hok.2.1 19 i0 h0) rfl b4 dX2_reasonsBetween_142 ?_
          refine lv_if_lt (tgt := 178) hx hb dX2_reasonsBetween_143 (by decide) (fun c6 => ?_) (fun c6 => ?_)
          · have hf := ifp hf c6
            exact hk v5 hf _ _ ls hP hS (lv_sub hl [2] rfl)
          · have hf := ifn hf c6
            refine lv_iload hx hb dX2_reasonsBetween_146 (lv_at hl 2 rfl) ?_
            refine lv_aload_n hx hb dX2_reasonsBetween_148 rfl (lv_at hl 0 rfl) ?_
            refine gt_2_5 (i := i0) C hP (hok.2.1 2 i0 h0) lk_X2_27 dX2_reasonsBetween_149 ?_
            refine lv_aload_n hx hb dX2_reasonsBetween_152 rfl (lv_at hl 0 rfl) ?_
            refine gt_2_1 (i := i0) C hP (hok.2.1 2 i0 h0) lk_X2_15 dX2_reasonsBetween_153 ?_
            refine lv_iload hx hb dX2_reasonsBetween_156 (lv_at hl 1 rfl) ?_
            refine ra_ild (k := 20) (i := i0) (n := 24) (f := (gA w 20 i0)) C hP (hok.2.1 20 i0 h0) rfl b4 dX2_reasonsBetween_158 ?_
            obtain ⟨b5, hf⟩ := gsp hf
            refine ra_ild (k := 24) (i := i0) (n := 24) (f := (gA w 24 i0)) C hP (hok.2.1 24 i0 h0) rfl b5 dX2_reasonsBetween_159 ?_
            refine lv_ior hx hb dX2_reasonsBetween_160 ?_
            refine lv_istore (lv' := [(5, .int (v5 ||| (gA w 24 i0 (gA w 20 i0 v4.toNatClampNeg).toNatClampNeg))), (0, .ref (ad 2 i0)), (4, .int v4), (6, .int v6), (7, .int v7)]) hx hb dX2_reasonsBetween_161 hl (by decide) rfl (fun ls hl => ?_)
            refine lv_aload_n hx hb dX2_reasonsBetween_163 rfl (lv_at hl 1 rfl) ?_
            refine gt_2_0 (i := i0) C hP (hok.2.1 2 i0 h0) lk_X2_9 dX2_reasonsBetween_164 ?_
            refine lv_iload hx hb dX2_reasonsBetween_167 (lv_at hl 2 rfl) ?_
            refine ra_ild (k := 19) (i := i0) (n := 24) (f := (gA w 19 i0)) C hP (hok.2.1 19 i0 h0) rfl b4 dX2_reasonsBetween_169 ?_
            refine lv_istore (lv' := [(4, .int (gA w 19 i0 v4.toNatClampNeg)), (5, .int (v5 ||| (gA w 24 i0 (gA w 20 i0 v4.toNatClampNeg).toNatClampNeg))), (0, .ref (ad 2 i0)), (6, .int v6), (7, .int v7)]) hx hb dX2_reasonsBetween_170 hl (by decide) rfl (fun ls hl => ?_)
            refine lv_iinc (v := (v7 + (1 : Int32))) (lv' := [(7, .int (v7 + (1 : Int32))), (4, .int (gA w 19 i0 v4.toNatClampNeg)), (5, .int (v5 ||| (gA w 24 i0 (gA w 20 i0 v4.toNatClampNeg).toNatClampNeg))), (0, .ref (ad 2 i0)), (6, .int v6)]) hx hb dX2_reasonsBetween_172 hl (k := 4) rfl rfl (by decide) rfl (fun ls hl => ?_)
            refine lv_goto (tgt := 122) hx hb dX2_reasonsBetween_175 (by decide) ?_
            exact ih (gA w 19 i0 v4.toNatClampNeg) (v5 ||| (gA w 24 i0 (gA w 20 i0 v4.toNatClampNeg).toNatClampNeg)) (v7 + (1 : Int32)) hf _ _ ls hP hS (lv_sub hl [3, 1, 2, 4, 0] rfl)
  have P_f_X2_reasonsBetween_116 : ∀ (v1 : Int32) (v5 : Int32) (v6 : Int32), f_X2_reasonsBetween_116 N w i0 v1 v5 v6  = some r → WP p l e (rmk 0) s m [.ref (ad 2 i0), .int x1, .int x2].toArray below meth c D ca ad PL A (MQ below (qcR D ca ad PL Z A w (some (.int r))) [.ref (ad 2 i0), .int x1, .int x2].toArray s 0 0 A) 8 116 [] [(0, .ref (ad 2 i0)), (1, .int v1), (5, .int v5), (6, .int v6)] w := by
    intro v1 v5 v6 hf _ _ ls hP hS hl
    unfold f_X2_reasonsBetween_116 at hf
    refine lv_iload_n hx hb dX2_reasonsBetween_116 rfl (lv_at hl 1 rfl) ?_
    refine lv_istore (lv' := [(4, .int v1), (0, .ref (ad 2 i0)), (1, .int v1), (5, .int v5), (6, .int v6)]) hx hb dX2_reasonsBetween_117 hl (by decide) rfl (fun ls hl => ?_)
    refine lv_iconst (v := (0 : Int32)) hx hb dX2_reasonsBetween_119 (by decide) ?_
    refine lv_istore (lv' := [(7, .int (0 : Int32)), (4, .int v1), (0, .ref (ad 2 i0)), (1, .int v1), (5, .int v5), (6, .int v6)]) hx hb dX2_reasonsBetween_120 hl (by decide) rfl (fun ls hl => ?_)
    exact L_lp_X2_reasonsBetween_122 v6 _ (fun u5_3 hf H locs ls hP hS hl => P_f_X2_reasonsBetween_178 u5_3 hf _ _ ls hP hS (lv_sub hl [0] rfl)) N v1 v5 (0 : Int32) hf _ _ ls hP hS (lv_sub hl [2, 1, 4, 5, 0] rfl)
  have L_lp_X2_reasonsBetween_58 : ∀ (v1 : Int32) (v3 : Int32) (k : Int32 → Int32 → Option (Int32)) (hk : ∀ (v5 : Int32) (v6 : Int32), k v5 v6 = some r → WP p l e (rmk 0) s m [.ref (ad 2 i0), .int x1, .int x2].toArray below meth c D ca ad PL A (MQ below (qcR D ca ad PL Z A w (some (.int r))) [.ref (ad 2 i0), .int x1, .int x2].toArray s 0 0 A) 8 116 [] [(0, .ref (ad 2 i0)), (1, .int v1), (5, .int v5), (6, .int v6)] w) (n : Nat) (v5 : Int32) (v6 : Int32) (v7 : Int32), lp_X2_reasonsBetween_58 k N w i0 v1 v3 n v5 v6 v7 = some r → WP p l e (rmk 0) s m [.ref (ad 2 i0), .int x1, .int x2].toArray below meth c D ca ad PL A (MQ below (qcR D ca ad PL Z A w (some (.int r))) [.ref (ad 2 i0), .int x1, .int x2].toArray s 0 0 A) 8 58 [] [(0, .ref (ad 2 i0)), (1, .int v1), (3, .int v3), (5, .int v5), (6, .int v6), (7, .int v7)] w := by
    intro v1 v3 k hk n
    induction n with
    | zero => intro v5 v6 v7 hf; rw [lp_X2_reasonsBetween_58] at hf; cases hf
    | succ n ih =>
      intro v5 v6 v7 hf _ _ ls hP hS hl
      rw [lp_X2_reasonsBetween_58] at hf
      refine lv_iload hx hb dX2_reasonsBetween_58 (lv_at hl 5 rfl) ?_
      refine lv_bipush (v := (24 : Int32)) hx hb dX2_reasonsBetween_60 (by decide) ?_
      refine lv_icmp_ge (tgt := 116) hx hb dX2_reasonsBetween_62 (by decide) (fun c13 => ?_) (fun c13 => ?_)
      · have hf := ifp hf c13
        exact hk v5 v6 hf _ _ ls hP hS (lv_sub hl [0, 1, 3, 4] rfl)
      · have hf := ifn hf c13
        refine lv_iload_n hx hb dX2_reasonsBetween_65 rfl (lv_at hl 2 rfl) ?_
        refine lv_iload hx hb dX2_reasonsBetween_66 (lv_at hl 4 rfl) ?_
        refine lv_iushr (v := (ushr v3 v6)) hx hb dX2_reasonsBetween_68 rfl ?_
        refine lv_iconst (v := (1 : Int32)) hx hb dX2_reasonsBetween_69 (by decide) ?_
        refine lv_iand hx hb dX2_reasonsBetween_70 ?_
        refine lv_if_ne (tgt := 116) hx hb dX2_reasonsBetween_71 (by decide) (fun c12 => ?_) (fun c12 => ?_)
        · have hf := ifn hf c12
          exact hk v5 v6 hf _ _ ls hP hS (lv_sub hl [0, 1, 3, 4] rfl)
        · have hf := ifp hf c12
          refine lv_aload_n hx hb dX2_reasonsBetween_74 rfl (lv_at hl 0 rfl) ?_
          refine gt_2_0 (i := i0) C hP (hok.2.1 2 i0 h0) lk_X2_9 dX2_reasonsBetween_75 ?_
          refine lv_iload hx hb dX2_reasonsBetween_78 (lv_at hl 4 rfl) ?_
          obtain ⟨b9, hf⟩ := gsp hf
          refine ra_ild (k := 19) (i := i0) (n := 24) (f := (gA w 19 i0)) C hP (hok.2.1 19 i0 h0) rfl b9 dX2_reasonsBetween_80 ?_
          refine lv_if_lt (tgt := 116) hx hb dX2_reasonsBetween_81 (by decide) (fun c11 => ?_) (fun c11 => ?_)
          · have hf := ifp hf c11
            exact hk v5 v6 hf _ _ ls hP hS (lv_sub hl [0, 1, 3, 4] rfl)
          · have hf := ifn hf c11
            refine lv_iload hx hb dX2_reasonsBetween_84 (lv_at hl 3 rfl) ?_
            refine lv_aload_n hx hb dX2_reasonsBetween_86 rfl (lv_at hl 0 rfl) ?_
            refine gt_2_5 (i := i0) C hP (hok.2.1 2 i0 h0) lk_X2_27 dX2_reasonsBetween_87 ?_
            refine lv_aload_n hx hb dX2_reasonsBetween_90 rfl (lv_at hl 0 rfl) ?_
            refine gt_2_1 (i := i0) C hP (hok.2.1 2 i0 h0) lk_X2_15 dX2_reasonsBetween_91 ?_
            refine lv_iload hx hb dX2_reasonsBetween_94 (lv_at hl 4 rfl) ?_
            refine ra_ild (k := 20) (i := i0) (n := 24) (f := (gA w 20 i0)) C hP (hok.2.1 20 i0 h0) rfl b9 dX2_reasonsBetween_96 ?_
            obtain ⟨b10, hf⟩ := gsp hf
            refine ra_ild (k := 24) (i := i0) (n := 24) (f := (gA w 24 i0)) C hP (hok.2.1 24 i0 h0) rfl b10 dX2_reasonsBetween_97 ?_
            refine lv_ior hx hb dX2_reasonsBetween_98 ?_
            refine lv_istore (lv' := [(5, .int (v5 ||| (gA w 24 i0 (gA w 20 i0 v6.toNatClampNeg).toNatClampNeg))), (0, .ref (ad 2 i0)), (1, .int v1), (3, .int v3), (6, .int v6), (7, .int v7)]) hx hb dX2_reasonsBetween_99 hl (by decide) rfl (fun ls hl => ?_)
            refine lv_aload_n hx hb dX2_reasonsBetween_101 rfl (lv_at hl 1 rfl) ?_
            refine gt_2_0 (i := i0) C hP (hok.2.1 2 i0 h0) lk_X2_9 dX2_reasonsBetween_102 ?_
            refine lv_iload hx hb dX2_reasonsBetween_105 (lv_at hl 4 rfl) ?_
            refine ra_ild (k := 19) (i := i0) (n := 24) (f := (gA w 19 i0)) C hP (hok.2.1 19 i0 h0) rfl b9 dX2_reasonsBetween_107 ?_
            refine lv_istore (lv' := [(6, .int (gA w 19 i0 v6.toNatClampNeg)), (5, .int (v5 ||| (gA w 24 i0 (gA w 20 i0 v6.toNatClampNeg).toNatClampNeg))), (0, .ref (ad 2 i0)), (1, .int v1), (3, .int v3), (7, .int v7)]) hx hb dX2_reasonsBetween_108 hl (by decide) rfl (fun ls hl => ?_)
            refine lv_iinc (v := (v7 + (1 : Int32))) (lv' := [(7, .int (v7 + (1 : Int32))), (6, .int (gA w 19 i0 v6.toNatClampNeg)), (5, .int (v5 ||| (gA w 24 i0 (gA w 20 i0 v6.toNatClampNeg).toNatClampNeg))), (0, .ref (ad 2 i0)), (1, .int v1), (3, .int v3)]) hx hb dX2_reasonsBetween_110 hl (k := 5) rfl rfl (by decide) rfl (fun ls hl => ?_)
            refine lv_goto (tgt := 58) hx hb dX2_reasonsBetween_113 (by decide) ?_
            exact ih (v5 ||| (gA w 24 i0 (gA w 20 i0 v6.toNatClampNeg).toNatClampNeg)) (gA w 19 i0 v6.toNatClampNeg) (v7 + (1 : Int32)) hf _ _ ls hP hS (lv_sub hl [3, 4, 5, 2, 1, 0] rfl)
  have P_f_X2_reasonsBetween_49 : ∀ (v1 : Int32) (v2 : Int32) (v3 : Int32), f_X2_reasonsBetween_49 N w i0 v1 v2 v3  = some r → WP p l e (rmk 0) s m [.ref (ad 2 i0), .int x1, .int x2].toArray below meth c D ca ad PL A (MQ below (qcR D ca ad PL Z A w (some (.int r))) [.ref (ad 2 i0), .int x1, .int x2].toArray s 0 0 A) 8 49 [] [(0, .ref (ad 2 i0)), (1, .int v1), (2, .int v2), (3, .int v3)] w := by
    intro v1 v2 v3 hf _ _ ls hP hS hl
    unfold f_X2_reasonsBetween_49 at hf
    refine lv_iconst (v := (0 : Int32)) hx hb dX2_reasonsBetween_49 (by decide) ?_
    refine lv_istore (lv' := [(5, .int (0 : Int32)), (0, .ref (ad 2 i0)), (1, .int v1), (2, .int v2), (3, .int v3)]) hx hb dX2_reasonsBetween_50 hl (by decide) rfl (fun ls hl => ?_)
    refine lv_iload_n hx hb dX2_reasonsBetween_52 rfl (lv_at hl 3 rfl) ?_
    refine lv_istore (lv' := [(6, .int v2), (5, .int (0 : Int32)), (0, .ref (ad 2 i0)), (1, .int v1), (2, .int v2), (3, .int v3)]) hx hb dX2_reasonsBetween_53 hl (by decide) rfl (fun ls hl => ?_)
    refine lv_iconst (v := (0 : Int32)) hx hb dX2_reasonsBetween_55 (by decide) ?_
    refine lv_istore (lv' := [(7, .int (0 : Int32)), (6, .int v2), (5, .int (0 : Int32)), (0, .ref (ad 2 i0)), (1, .int v1), (2, .int v2), (3, .int v3)]) hx hb dX2_reasonsBetween_56 hl (by decide) rfl (fun ls hl => ?_)
    exact L_lp_X2_reasonsBetween_58 v1 v3 _ (fun u5_2 u6_2 hf H locs ls hP hS hl => P_f_X2_reasonsBetween_116 v1 u5_2 u6_2 hf _ _ ls hP hS (lv_sub hl [0, 1, 2, 3] rfl)) N (0 : Int32) v2 (0 : Int32) hf _ _ ls hP hS (lv_sub hl [3, 4, 6, 2, 1, 0] rfl)
  have L_lp_X2_reasonsBetween_10 : ∀ (v1 : Int32) (v2 : Int32) (k : Int32 → Option (Int32)) (hk : ∀ (v3 : Int32), k v3 = some r → WP p l e (rmk 0) s m [.ref (ad 2 i0), .int x1, .int x2].toArray below meth c D ca ad PL A (MQ below (qcR D ca ad PL Z A w (some (.int r))) [.ref (ad 2 i0), .int x1, .int x2].toArray s 0 0 A) 8 49 [] [(0, .ref (ad 2 i0)), (1, .int v1), (2, .int v2), (3, .int v3)] w) (n : Nat) (v3 : Int32) (v4 : Int32) (v5 : Int32), lp_X2_reasonsBetween_10 k N w i0 v1 v2 n v3 v4 v5 = some r → WP p l e (rmk 0) s m [.ref (ad 2 i0), .int x1, .int x2].toArray below meth c D ca ad PL A (MQ below (qcR D ca ad PL Z A w (some (.int r))) [.ref (ad 2 i0), .int x1, .int x2].toArray s 0 0 A) 8 10 [] [(0, .ref (ad 2 i0)), (1, .int v1), (2, .int v2), (3, .int v3), (4, .int v4), (5, .int v5)] w := by
    intro v1 v2 k hk n
    induction n with
    | zero => intro v3 v4 v5 hf; rw [lp_X2_reasonsBetween_10] at hf; cases hf
    | succ n ih =>
      intro v3 v4 v5 hf _ _ ls hP hS hl
      rw [lp_X2_reasonsBetween_10] at hf
      refine lv_iload hx hb dX2_reasonsBetween_10 (lv_at hl 5 rfl) ?_
      refine lv_bipush (v := (24 : Int32)) hx hb dX2_reasonsBetween_12 (by decide) ?_
      refine lv_icmp_ge (tgt := 49) hx hb dX2_reasonsBetween_14 (by decide) (fun c16 => ?_) (fun c16 => ?_)
      · have hf := ifp hf c16
        exact hk v3 hf _ _ ls hP hS (lv_sub hl [0, 1, 2, 3] rfl)
      · have hf := ifn hf c16
        refine lv_aload_n hx hb dX2_reasonsBetween_17 rfl (lv_at hl 0 rfl) ?_
        refine gt_2_0 (i := i0) C hP (hok.2.1 2 i0 h0) lk_X2_9 dX2_reasonsBetween_18 ?_
        refine lv_iload hx hb dX2_reasonsBetween_21 (lv_at hl 4 rfl) ?_
        obtain ⟨b14, hf⟩ := gsp hf
        refine ra_ild (k := 19) (i := i0) (n := 24) (f := (gA w 19 i0)) C hP (hok.2.1 19 i0 h0) rfl b14 dX2_reasonsBetween_23 ?_
        refine lv_if_lt (tgt := 49) hx hb dX2_reasonsBetween_24 (by decide) (fun c15 => ?_) (fun c15 => ?_)
        · have hf := ifp hf c15
          exact hk v3 hf _ _ ls hP hS (lv_sub hl [0, 1, 2, 3] rfl)
        · have hf := ifn hf c15
          refine lv_aload_n hx hb dX2_reasonsBetween_27 rfl (lv_at hl 0 rfl) ?_
          refine gt_2_0 (i := i0) C hP (hok.2.1 2 i0 h0) lk_X2_9 dX2_reasonsBetween_28 ?_
          refine lv_iload hx hb dX2_reasonsBetween_31 (lv_at hl 4 rfl) ?_
          refine ra_ild (k := 19) (i := i0) (n := 24) (f := (gA w 19 i0)) C hP (hok.2.1 19 i0 h0) rfl b14 dX2_reasonsBetween_33 ?_
          refine lv_istore (lv' := [(4, .int (gA w 19 i0 v4.toNatClampNeg)), (0, .ref (ad 2 i0)), (1, .int v1), (2, .int v2), (3, .int v3), (5, .int v5)]) hx hb dX2_reasonsBetween_34 hl (by decide) rfl (fun ls hl => ?_)
          refine lv_iload_n hx hb dX2_reasonsBetween_36 rfl (lv_at hl 4 rfl) ?_
          refine lv_iconst (v := (1 : Int32)) hx hb dX2_reasonsBetween_37 (by decide) ?_
          refine lv_iload hx hb dX2_reasonsBetween_38 (lv_at hl 0 rfl) ?_
          refine lv_ishl hx hb dX2_reasonsBetween_40 ?_
          refine lv_ior hx hb dX2_reasonsBetween_41 ?_
          refine lv_istore_n (lv' := [(3, .int (v3 ||| ((1 : Int32) <<< ((gA w 19 i0 v4.toNatClampNeg) &&& 31)))), (4, .int (gA w 19 i0 v4.toNatClampNeg)), (0, .ref (ad 2 i0)), (1, .int v1), (2, .int v2), (5, .int v5)]) hx hb dX2_reasonsBetween_42 rfl hl (by decide) rfl (fun ls hl => ?_)
          refine lv_iinc (v := (v5 + (1 : Int32))) (lv' := [(5, .int (v5 + (1 : Int32))), (3, .int (v3 ||| ((1 : Int32) <<< ((gA w 19 i0 v4.toNatClampNeg) &&& 31)))), (4, .int (gA w 19 i0 v4.toNatClampNeg)), (0, .ref (ad 2 i0)), (1, .int v1), (2, .int v2)]) hx hb dX2_reasonsBetween_43 hl (k := 5) rfl rfl (by decide) rfl (fun ls hl => ?_)
          refine lv_goto (tgt := 10) hx hb dX2_reasonsBetween_46 (by decide) ?_
          exact ih (v3 ||| ((1 : Int32) <<< ((gA w 19 i0 v4.toNatClampNeg) &&& 31))) (gA w 19 i0 v4.toNatClampNeg) (v5 + (1 : Int32)) hf _ _ ls hP hS (lv_sub hl [3, 4, 5, 1, 2, 0] rfl)
  unfold f_X2_reasonsBetween at hf
  -- walk
  refine lv_iconst (v := (1 : Int32)) hx hb dX2_reasonsBetween_0 (by decide) ?_
  refine lv_iload_n hx hb dX2_reasonsBetween_1 rfl (lv_at hl 1 rfl) ?_
  refine lv_ishl hx hb dX2_reasonsBetween_2 ?_
  refine lv_istore_n (lv' := [(3, .int ((1 : Int32) <<< (x1 &&& 31))), (0, .ref (ad 2 i0)), (1, .int x1), (2, .int x2)]) hx hb dX2_reasonsBetween_3 rfl hl (by decide) rfl (fun ls hl => ?_)
  refine lv_iload_n hx hb dX2_reasonsBetween_4 rfl (lv_at hl 2 rfl) ?_
  refine lv_istore (lv' := [(4, .int x1), (3, .int ((1 : Int32) <<< (x1 &&& 31))), (0, .ref (ad 2 i0)), (1, .int x1), (2, .int x2)]) hx hb dX2_reasonsBetween_5 hl (by decide) rfl (fun ls hl => ?_)
  refine lv_iconst (v := (0 : Int32)) hx hb dX2_reasonsBetween_7 (by decide) ?_
  refine lv_istore (lv' := [(5, .int (0 : Int32)), (4, .int x1), (3, .int ((1 : Int32) <<< (x1 &&& 31))), (0, .ref (ad 2 i0)), (1, .int x1), (2, .int x2)]) hx hb dX2_reasonsBetween_8 hl (by decide) rfl (fun ls hl => ?_)
  exact L_lp_X2_reasonsBetween_10 x1 x2 _ (fun u3_1 hf H locs ls hP hS hl => P_f_X2_reasonsBetween_49 x1 x2 u3_1 hf _ _ ls hP hS (lv_sub hl [0, 1, 2, 3] rfl)) N ((1 : Int32) <<< (x1 &&& 31)) x1 (0 : Int32) hf _ _ ls hP hS (lv_sub hl [3, 4, 5, 2, 1, 0] rfl)
def f_X2_hang_82 (N : Nat) (w : Mem) (i0 : Nat) : Option (Mem) :=
  some w
def lp_X2_hang_20 (k : Mem → Option (Mem)) (N : Nat) (i0 : Nat) : Nat → Mem → Int32 → Int32 → Int32 → Int32 → Option (Mem)
  | 0, _, _, _, _, _ => none
  | n + 1, w, v2, v3, v4, v5 => (if (24 : Int32) ≤ v5 then
(k w)
else
(if v4 < (0 : Int32) then
(k w)
else
(if inb v4 24 = true then (lp_X2_hang_20 k N  i0  n (sA (sA w 19 i0 v4.toNatClampNeg v2) 20 i0 v4.toNatClampNeg v3) v4 (gA w 20 i0 v4.toNatClampNeg) (gA w 19 i0 v4.toNatClampNeg) (v5 + (1 : Int32))) else none)))
def f_X2_hang (N : Nat) (w : Mem) (i0 : Nat) (x1 : Int32) : Option (Mem) :=
  (if inb x1 24 = true then (lp_X2_hang_20 (fun (w_2 : Mem) => (f_X2_hang_82 N w_2 i0  )) N  i0  N w (gA w 21 i0 x1.toNatClampNeg) x1 (gA w 22 i0 x1.toNatClampNeg) (0 : Int32)) else none)
set_option maxRecDepth 100000 in
set_option maxHeartbeats 4000000 in
theorem c_X2_hang (l : Launch) (D : va_G) (ca : Nat → ClassId) (ad : Nat → Nat → Nat) (PL : List (Nat × Nat)) (Z : State → Prop) (A : Nat → Prop) (hok : okc bX Z A ad PL) (N : Nat) (w : Mem) (i0 : Nat) (h0 : i0 < 2) (x1 : Int32) (w' : Mem) (hf : f_X2_hang N w i0 x1 = some w') : CT l yX2_hang (wsy yX2_hang cX2_hang 8 none) (rmk 0) D ca ad PL Z A [.ref (ad 2 i0), .int x1] w w' none := by
  refine Met.ofW (cc := cX2_hang) (maxL := 8) (ret := none) (by decide +kernel) rfl ?_
  intro p e s m args below meth c s₁ B hml hv
  obtain ⟨rfl, hP, hK, hZ⟩ := hv
  have hx := B.exec
  have hb := B.bytes
  have hr := B.returns
  have hlocks := B.notSynchronized
  have hts : ∀ w ∈ ALL, w.before _ s = true := fun w hw => atoms_spec (ws := wsy yX2_hang cX2_hang 8 none) B.pre w (List.mem_cons_of_mem _ hw)
  have hown : s.vm.findClass RX2 = some m.cls := findClass_of_methodNamed B.named
  have C : CX p s m _ c cX2_hang RX2 8 D ca Z := ⟨hx, hb, hml, hown, hts, hK, hZ⟩
  have hS : va_S A s.heap s.heap [] := va_S.rf
  have hl := lv_entry ([.ref (ad 2 i0), .int x1]) (n := 8) (Nat.le_of_ble_eq_true rfl)
  rw [lg_entry_eq]
  generalize (lg_sl ([.ref (ad 2 i0), .int x1]) ++ List.replicate (8 - (lg_sl ([.ref (ad 2 i0), .int x1])).length) Slot.unset).toArray = ls at hl ⊢
  have hl : lv_has ls 8 [(0, .ref (ad 2 i0)), (1, .int x1)] := hl
  show W p l e (rmk 0) s m _ below meth c s.heap [] 0 0 _ _
  have P_f_X2_hang_82 : ∀ (w : Mem), f_X2_hang_82 N w i0   = some w' → WP p l e (rmk 0) s m [.ref (ad 2 i0), .int x1].toArray below meth c D ca ad PL A (MQ below (qcR D ca ad PL Z A w' none) [.ref (ad 2 i0), .int x1].toArray s 0 0 A) 8 82 [] [] w := by
    intro w hf _ _ ls hP hS hl
    unfold f_X2_hang_82 at hf
    exact kr_v hok.2.2.1 C hlocks hr hP hS (Option.some.inj hf) dX2_hang_82
  have L_lp_X2_hang_20 : ∀ (k : Mem → Option (Mem)) (hk : ∀ (w : Mem), k w = some w' → WP p l e (rmk 0) s m [.ref (ad 2 i0), .int x1].toArray below meth c D ca ad PL A (MQ below (qcR D ca ad PL Z A w' none) [.ref (ad 2 i0), .int x1].toArray s 0 0 A) 8 82 [] [] w) (n : Nat) (w : Mem) (v2 : Int32) (v3 : Int32) (v4 : Int32) (v5 : Int32), lp_X2_hang_20 k N  i0  n w v2 v3 v4 v5 = some w' → WP p l e (rmk 0) s m [.ref (ad 2 i0), .int x1].toArray below meth c D ca ad PL A (MQ below (qcR D ca ad PL Z A w' none) [.ref (ad 2 i0), .int x1].toArray s 0 0 A) 8 20 [] [(0, .ref (ad 2 i0)), (2, .int v2), (3, .int v3), (4, .int v4), (5, .int v5)] w := by
    intro k hk n
    induction n with
    | zero => intro w v2 v3 v4 v5 hf; rw [lp_X2_hang_20] at hf; cases hf
    | succ n ih =>
      intro w v2 v3 v4 v5 hf _ _ ls hP hS hl
      rw [lp_X2_hang_20] at hf
      refine lv_iload hx hb dX2_hang_20 (lv_at hl 4 rfl) ?_
      refine lv_bipush (v := (24 : Int32)) hx hb dX2_hang_22 (by decide) ?_
      refine lv_icmp_ge (tgt := 82) hx hb dX2_hang_24 (by decide) (fun c5 => ?_) (fun c5 => ?_)
      · have hf := ifp hf c5
        exact hk w hf _ _ ls hP hS (lv_sub hl [] rfl)
      · have hf := ifn hf c5
        refine lv_iload hx hb dX2_hang_27 (lv_at hl 3 rfl) ?_
        refine lv_if_lt (tgt := 82) hx hb dX2_hang_29 (by decide) (fun c4 => ?_) (fun c4 => ?_)
        · have hf := ifp hf c4
          exact hk w hf _ _ ls hP hS (lv_sub hl [] rfl)
        · have hf := ifn hf c4
          refine lv_aload_n hx hb dX2_hang_32 rfl (lv_at hl 0 rfl) ?_
          refine gt_2_0 (i := i0) C hP (hok.2.1 2 i0 h0) lk_X2_9 dX2_hang_33 ?_
          refine lv_iload hx hb dX2_hang_36 (lv_at hl 3 rfl) ?_
          obtain ⟨b3, hf⟩ := gsp hf
          refine ra_ild (k := 19) (i := i0) (n := 24) (f := (gA w 19 i0)) C hP (hok.2.1 19 i0 h0) rfl b3 dX2_hang_38 ?_
          refine lv_istore (lv' := [(6, .int (gA w 19 i0 v4.toNatClampNeg)), (0, .ref (ad 2 i0)), (2, .int v2), (3, .int v3), (4, .int v4), (5, .int v5)]) hx hb dX2_hang_39 hl (by decide) rfl (fun ls hl => ?_)
          refine lv_aload_n hx hb dX2_hang_41 rfl (lv_at hl 1 rfl) ?_
          refine gt_2_1 (i := i0) C hP (hok.2.1 2 i0 h0) lk_X2_15 dX2_hang_42 ?_
          refine lv_iload hx hb dX2_hang_45 (lv_at hl 4 rfl) ?_
          refine ra_ild (k := 20) (i := i0) (n := 24) (f := (gA w 20 i0)) C hP (hok.2.1 20 i0 h0) rfl b3 dX2_hang_47 ?_
          refine lv_istore (lv' := [(7, .int (gA w 20 i0 v4.toNatClampNeg)), (6, .int (gA w 19 i0 v4.toNatClampNeg)), (0, .ref (ad 2 i0)), (2, .int v2), (3, .int v3), (4, .int v4), (5, .int v5)]) hx hb dX2_hang_48 hl (by decide) rfl (fun ls hl => ?_)
          refine lv_aload_n hx hb dX2_hang_50 rfl (lv_at hl 2 rfl) ?_
          refine gt_2_0 (i := i0) C hP (hok.2.1 2 i0 h0) lk_X2_9 dX2_hang_51 ?_
          refine lv_iload hx hb dX2_hang_54 (lv_at hl 5 rfl) ?_
          refine lv_iload_n hx hb dX2_hang_56 rfl (lv_at hl 3 rfl) ?_
          refine ra_ist (k := 19) (i := i0) (n := 24) C hok.1 hP hS (hok.2.1 19 i0 h0) (fun _ => rfl) b3 dX2_hang_57 (fun H locs hP hS => ?_)
          refine lv_aload_n hx hb dX2_hang_58 rfl (lv_at hl 2 rfl) ?_
          refine gt_2_1 (i := i0) C hP (hok.2.1 2 i0 h0) lk_X2_15 dX2_hang_59 ?_
          refine lv_iload hx hb dX2_hang_62 (lv_at hl 5 rfl) ?_
          refine lv_iload_n hx hb dX2_hang_64 rfl (lv_at hl 4 rfl) ?_
          refine ra_ist (k := 20) (i := i0) (n := 24) C hok.1 hP hS (hok.2.1 20 i0 h0) (fun _ => rfl) b3 dX2_hang_65 (fun H locs hP hS => ?_)
          refine lv_iload hx hb dX2_hang_66 (lv_at hl 5 rfl) ?_
          refine lv_istore_n (lv' := [(2, .int v4), (7, .int (gA w 20 i0 v4.toNatClampNeg)), (6, .int (gA w 19 i0 v4.toNatClampNeg)), (0, .ref (ad 2 i0)), (3, .int v3), (4, .int v4), (5, .int v5)]) hx hb dX2_hang_68 rfl hl (by decide) rfl (fun ls hl => ?_)
          refine lv_iload hx hb dX2_hang_69 (lv_at hl 1 rfl) ?_
          refine lv_istore_n (lv' := [(3, .int (gA w 20 i0 v4.toNatClampNeg)), (2, .int v4), (7, .int (gA w 20 i0 v4.toNatClampNeg)), (6, .int (gA w 19 i0 v4.toNatClampNeg)), (0, .ref (ad 2 i0)), (4, .int v4), (5, .int v5)]) hx hb dX2_hang_71 rfl hl (by decide) rfl (fun ls hl => ?_)
          refine lv_iload hx hb dX2_hang_72 (lv_at hl 3 rfl) ?_
          refine lv_istore (lv' := [(4, .int (gA w 19 i0 v4.toNatClampNeg)), (3, .int (gA w 20 i0 v4.toNatClampNeg)), (2, .int v4), (7, .int (gA w 20 i0 v4.toNatClampNeg)), (6, .int (gA w 19 i0 v4.toNatClampNeg)), (0, .ref (ad 2 i0)), (5, .int v5)]) hx hb dX2_hang_74 hl (by decide) rfl (fun ls hl => ?_)
          refine lv_iinc (v := (v5 + (1 : Int32))) (lv' := [(5, .int (v5 + (1 : Int32))), (4, .int (gA w 19 i0 v4.toNatClampNeg)), (3, .int (gA w 20 i0 v4.toNatClampNeg)), (2, .int v4), (7, .int (gA w 20 i0 v4.toNatClampNeg)), (6, .int (gA w 19 i0 v4.toNatClampNeg)), (0, .ref (ad 2 i0))]) hx hb dX2_hang_76 hl (k := 6) rfl rfl (by decide) rfl (fun ls hl => ?_)
          refine lv_goto (tgt := 20) hx hb dX2_hang_79 (by decide) ?_
          exact ih (sA (sA w 19 i0 v4.toNatClampNeg v2) 20 i0 v4.toNatClampNeg v3) v4 (gA w 20 i0 v4.toNatClampNeg) (gA w 19 i0 v4.toNatClampNeg) (v5 + (1 : Int32)) hf _ _ ls hP hS (lv_sub hl [6, 3, 2, 1, 0] rfl)
  unfold f_X2_hang at hf
  -- walk
  refine lv_aload_n hx hb dX2_hang_0 rfl (lv_at hl 0 rfl) ?_
  refine gt_2_2 (i := i0) C hP (hok.2.1 2 i0 h0) lk_X2_18 dX2_hang_1 ?_
  refine lv_iload_n hx hb dX2_hang_4 rfl (lv_at hl 1 rfl) ?_
  obtain ⟨b1, hf⟩ := gsp hf
  refine ra_ild (k := 21) (i := i0) (n := 24) (f := (gA w 21 i0)) C hP (hok.2.1 21 i0 h0) rfl b1 dX2_hang_5 ?_
  refine lv_istore_n (lv' := [(2, .int (gA w 21 i0 x1.toNatClampNeg)), (0, .ref (ad 2 i0)), (1, .int x1)]) hx hb dX2_hang_6 rfl hl (by decide) rfl (fun ls hl => ?_)
  refine lv_iload_n hx hb dX2_hang_7 rfl (lv_at hl 2 rfl) ?_
  refine lv_istore_n (lv' := [(3, .int x1), (2, .int (gA w 21 i0 x1.toNatClampNeg)), (0, .ref (ad 2 i0)), (1, .int x1)]) hx hb dX2_hang_8 rfl hl (by decide) rfl (fun ls hl => ?_)
  refine lv_aload_n hx hb dX2_hang_9 rfl (lv_at hl 2 rfl) ?_
  refine gt_2_3 (i := i0) C hP (hok.2.1 2 i0 h0) lk_X2_21 dX2_hang_10 ?_
  refine lv_iload_n hx hb dX2_hang_13 rfl (lv_at hl 3 rfl) ?_
  refine ra_ild (k := 22) (i := i0) (n := 24) (f := (gA w 22 i0)) C hP (hok.2.1 22 i0 h0) rfl b1 dX2_hang_14 ?_
  refine lv_istore (lv' := [(4, .int (gA w 22 i0 x1.toNatClampNeg)), (3, .int x1), (2, .int (gA w 21 i0 x1.toNatClampNeg)), (0, .ref (ad 2 i0)), (1, .int x1)]) hx hb dX2_hang_15 hl (by decide) rfl (fun ls hl => ?_)
  refine lv_iconst (v := (0 : Int32)) hx hb dX2_hang_17 (by decide) ?_
  refine lv_istore (lv' := [(5, .int (0 : Int32)), (4, .int (gA w 22 i0 x1.toNatClampNeg)), (3, .int x1), (2, .int (gA w 21 i0 x1.toNatClampNeg)), (0, .ref (ad 2 i0)), (1, .int x1)]) hx hb dX2_hang_18 hl (by decide) rfl (fun ls hl => ?_)
  exact L_lp_X2_hang_20 _ (fun w_2 hf H locs ls hP hS hl => P_f_X2_hang_82 w_2 hf _ _ ls hP hS (lv_sub hl [] rfl)) N w (gA w 21 i0 x1.toNatClampNeg) x1 (gA w 22 i0 x1.toNatClampNeg) (0 : Int32) hf _ _ ls hP hS (lv_sub hl [4, 3, 2, 1, 0] rfl)
def f_X2_addJoin (N : Nat) (w : Mem) (i0 : Nat) (x1 : Int32) (x2 : Int32) (x3 : Int32) (x4 : Int32) : Option (Mem) :=
  (if (gF w 2 7 i0) < (24 : Int32) then
(if inb (gF w 2 7 i0) 24 = true then (if inb (gF (sA w 21 i0 (gF w 2 7 i0).toNatClampNeg x1) 2 7 i0) 24 = true then (if inb (gF (sA (sA w 21 i0 (gF w 2 7 i0).toNatClampNeg x1) 22 i0 (gF (sA w 21 i0 (gF w 2 7 i0).toNatClampNeg x1) 2 7 i0).toNatClampNeg x2) 2 7 i0) 24 = true then (if inb (gF (sA (sA (sA w 21 i0 (gF w 2 7 i0).toNatClampNeg x1) 22 i0 (gF (sA w 21 i0 (gF w 2 7 i0).toNatClampNeg x1) 2 7 i0).toNatClampNeg x2) 23 i0 (gF (sA (sA w 21 i0 (gF w 2 7 i0).toNatClampNeg x1) 22 i0 (gF (sA w 21 i0 (gF w 2 7 i0).toNatClampNeg x1) 2 7 i0).toNatClampNeg x2) 2 7 i0).toNatClampNeg x3) 2 7 i0) 24 = true then (Option.bind (f_X2_hang N (sA (sA (sA (sA w 21 i0 (gF w 2 7 i0).toNatClampNeg x1) 22 i0 (gF (sA w 21 i0 (gF w 2 7 i0).toNatClampNeg x1) 2 7 i0).toNatClampNeg x2) 23 i0 (gF (sA (sA w 21 i0 (gF w 2 7 i0).toNatClampNeg x1) 22 i0 (gF (sA w 21 i0 (gF w 2 7 i0).toNatClampNeg x1) 2 7 i0).toNatClampNeg x2) 2 7 i0).toNatClampNeg x3) 24 i0 (gF (sA (sA (sA w 21 i0 (gF w 2 7 i0).toNatClampNeg x1) 22 i0 (gF (sA w 21 i0 (gF w 2 7 i0).toNatClampNeg x1) 2 7 i0).toNatClampNeg x2) 23 i0 (gF (sA (sA w 21 i0 (gF w 2 7 i0).toNatClampNeg x1) 22 i0 (gF (sA w 21 i0 (gF w 2 7 i0).toNatClampNeg x1) 2 7 i0).toNatClampNeg x2) 2 7 i0).toNatClampNeg x3) 2 7 i0).toNatClampNeg x4) i0 (gF (sA (sA (sA (sA w 21 i0 (gF w 2 7 i0).toNatClampNeg x1) 22 i0 (gF (sA w 21 i0 (gF w 2 7 i0).toNatClampNeg x1) 2 7 i0).toNatClampNeg x2) 23 i0 (gF (sA (sA w 21 i0 (gF w 2 7 i0).toNatClampNeg x1) 22 i0 (gF (sA w 21 i0 (gF w 2 7 i0).toNatClampNeg x1) 2 7 i0).toNatClampNeg x2) 2 7 i0).toNatClampNeg x3) 24 i0 (gF (sA (sA (sA w 21 i0 (gF w 2 7 i0).toNatClampNeg x1) 22 i0 (gF (sA w 21 i0 (gF w 2 7 i0).toNatClampNeg x1) 2 7 i0).toNatClampNeg x2) 23 i0 (gF (sA (sA w 21 i0 (gF w 2 7 i0).toNatClampNeg x1) 22 i0 (gF (sA w 21 i0 (gF w 2 7 i0).toNatClampNeg x1) 2 7 i0).toNatClampNeg x2) 2 7 i0).toNatClampNeg x3) 2 7 i0).toNatClampNeg x4) 2 7 i0)) (fun z5 => some (sF z5 2 7 i0 ((gF z5 2 7 i0) + (1 : Int32))))) else none) else none) else none) else none)
else
some w)
set_option maxRecDepth 100000 in
set_option maxHeartbeats 4000000 in
theorem c_X2_addJoin (l : Launch) (D : va_G) (ca : Nat → ClassId) (ad : Nat → Nat → Nat) (PL : List (Nat × Nat)) (Z : State → Prop) (A : Nat → Prop) (hok : okc bX Z A ad PL) (N : Nat) (w : Mem) (i0 : Nat) (h0 : i0 < 2) (x1 : Int32) (x2 : Int32) (x3 : Int32) (x4 : Int32) (w' : Mem) (hf : f_X2_addJoin N w i0 x1 x2 x3 x4 = some w') : CT l yX2_addJoin (wsy yX2_addJoin cX2_addJoin 5 none) (rmk 1) D ca ad PL Z A [.ref (ad 2 i0), .int x1, .int x2, .int x3, .int x4] w w' none := by
  refine Met.ofW (cc := cX2_addJoin) (maxL := 5) (ret := none) (by decide +kernel) rfl ?_
  intro p e s m args below meth c s₁ B hml hv
  obtain ⟨rfl, hP, hK, hZ⟩ := hv
  have hx := B.exec
  have hb := B.bytes
  have hr := B.returns
  have hlocks := B.notSynchronized
  have hts : ∀ w ∈ ALL, w.before _ s = true := fun w hw => atoms_spec (ws := wsy yX2_addJoin cX2_addJoin 5 none) B.pre w (List.mem_cons_of_mem _ hw)
  have hown : s.vm.findClass RX2 = some m.cls := findClass_of_methodNamed B.named
  have C : CX p s m _ c cX2_addJoin RX2 5 D ca Z := ⟨hx, hb, hml, hown, hts, hK, hZ⟩
  have hS : va_S A s.heap s.heap [] := va_S.rf
  have hl := lv_entry ([.ref (ad 2 i0), .int x1, .int x2, .int x3, .int x4]) (n := 5) (Nat.le_of_ble_eq_true rfl)
  rw [lg_entry_eq]
  generalize (lg_sl ([.ref (ad 2 i0), .int x1, .int x2, .int x3, .int x4]) ++ List.replicate (5 - (lg_sl ([.ref (ad 2 i0), .int x1, .int x2, .int x3, .int x4])).length) Slot.unset).toArray = ls at hl ⊢
  have hl : lv_has ls 5 [(0, .ref (ad 2 i0)), (1, .int x1), (2, .int x2), (3, .int x3), (4, .int x4)] := hl
  show W p l e (rmk 1) s m _ below meth c s.heap [] 0 0 _ _
  unfold f_X2_addJoin at hf
  -- walk
  refine lv_aload_n hx hb dX2_addJoin_0 rfl (lv_at hl 0 rfl) ?_
  refine gt_2_7 (i := i0) C hP (hok.2.1 2 i0 h0) lk_X2_34 dX2_addJoin_1 ?_
  refine lv_bipush (v := (24 : Int32)) hx hb dX2_addJoin_4 (by decide) ?_
  refine lv_icmp_lt (tgt := 10) hx hb dX2_addJoin_6 (by decide) (fun c7 => ?_) (fun c7 => ?_)
  · have hf := ifp hf c7
    refine lv_aload_n hx hb dX2_addJoin_10 rfl (lv_at hl 0 rfl) ?_
    refine gt_2_2 (i := i0) C hP (hok.2.1 2 i0 h0) lk_X2_18 dX2_addJoin_11 ?_
    refine lv_aload_n hx hb dX2_addJoin_14 rfl (lv_at hl 0 rfl) ?_
    refine gt_2_7 (i := i0) C hP (hok.2.1 2 i0 h0) lk_X2_34 dX2_addJoin_15 ?_
    refine lv_iload_n hx hb dX2_addJoin_18 rfl (lv_at hl 1 rfl) ?_
    obtain ⟨b1, hf⟩ := gsp hf
    refine ra_ist (k := 21) (i := i0) (n := 24) C hok.1 hP hS (hok.2.1 21 i0 h0) (fun _ => rfl) b1 dX2_addJoin_19 (fun H locs hP hS => ?_)
    refine lv_aload_n hx hb dX2_addJoin_20 rfl (lv_at hl 0 rfl) ?_
    refine gt_2_3 (i := i0) C hP (hok.2.1 2 i0 h0) lk_X2_21 dX2_addJoin_21 ?_
    refine lv_aload_n hx hb dX2_addJoin_24 rfl (lv_at hl 0 rfl) ?_
    refine gt_2_7 (i := i0) C hP (hok.2.1 2 i0 h0) lk_X2_34 dX2_addJoin_25 ?_
    refine lv_iload_n hx hb dX2_addJoin_28 rfl (lv_at hl 2 rfl) ?_
    obtain ⟨b2, hf⟩ := gsp hf
    refine ra_ist (k := 22) (i := i0) (n := 24) C hok.1 hP hS (hok.2.1 22 i0 h0) (fun _ => rfl) b2 dX2_addJoin_29 (fun H locs hP hS => ?_)
    refine lv_aload_n hx hb dX2_addJoin_30 rfl (lv_at hl 0 rfl) ?_
    refine gt_2_4 (i := i0) C hP (hok.2.1 2 i0 h0) lk_X2_24 dX2_addJoin_31 ?_
    refine lv_aload_n hx hb dX2_addJoin_34 rfl (lv_at hl 0 rfl) ?_
    refine gt_2_7 (i := i0) C hP (hok.2.1 2 i0 h0) lk_X2_34 dX2_addJoin_35 ?_
    refine lv_iload_n hx hb dX2_addJoin_38 rfl (lv_at hl 3 rfl) ?_
    obtain ⟨b3, hf⟩ := gsp hf
    refine ra_ist (k := 23) (i := i0) (n := 24) C hok.1 hP hS (hok.2.1 23 i0 h0) (fun _ => rfl) b3 dX2_addJoin_39 (fun H locs hP hS => ?_)
    refine lv_aload_n hx hb dX2_addJoin_40 rfl (lv_at hl 0 rfl) ?_
    refine gt_2_5 (i := i0) C hP (hok.2.1 2 i0 h0) lk_X2_27 dX2_addJoin_41 ?_
    refine lv_aload_n hx hb dX2_addJoin_44 rfl (lv_at hl 0 rfl) ?_
    refine gt_2_7 (i := i0) C hP (hok.2.1 2 i0 h0) lk_X2_34 dX2_addJoin_45 ?_
    refine lv_iload hx hb dX2_addJoin_48 (lv_at hl 4 rfl) ?_
    obtain ⟨b4, hf⟩ := gsp hf
    refine ra_ist (k := 24) (i := i0) (n := 24) C hok.1 hP hS (hok.2.1 24 i0 h0) (fun _ => rfl) b4 dX2_addJoin_50 (fun H locs hP hS => ?_)
    refine lv_aload_n hx hb dX2_addJoin_51 rfl (lv_at hl 0 rfl) ?_
    refine lv_aload_n hx hb dX2_addJoin_52 rfl (lv_at hl 0 rfl) ?_
    refine gt_2_7 (i := i0) C hP (hok.2.1 2 i0 h0) lk_X2_34 dX2_addJoin_53 ?_
    obtain ⟨z5, q6, hf⟩ := bsp hf
    refine kc_V (ci := 2) (i := i0) (As := [.int (gF (sA (sA (sA (sA w 21 i0 (gF w 2 7 i0).toNatClampNeg x1) 22 i0 (gF (sA w 21 i0 (gF w 2 7 i0).toNatClampNeg x1) 2 7 i0).toNatClampNeg x2) 23 i0 (gF (sA (sA w 21 i0 (gF w 2 7 i0).toNatClampNeg x1) 22 i0 (gF (sA w 21 i0 (gF w 2 7 i0).toNatClampNeg x1) 2 7 i0).toNatClampNeg x2) 2 7 i0).toNatClampNeg x3) 24 i0 (gF (sA (sA (sA w 21 i0 (gF w 2 7 i0).toNatClampNeg x1) 22 i0 (gF (sA w 21 i0 (gF w 2 7 i0).toNatClampNeg x1) 2 7 i0).toNatClampNeg x2) 23 i0 (gF (sA (sA w 21 i0 (gF w 2 7 i0).toNatClampNeg x1) 22 i0 (gF (sA w 21 i0 (gF w 2 7 i0).toNatClampNeg x1) 2 7 i0).toNatClampNeg x2) 2 7 i0).toNatClampNeg x3) 2 7 i0).toNatClampNeg x4) 2 7 i0)]) (rest := []) hok.2.2.1 C hP hS hl.1 (hok.2.1 2 i0 h0) rfl rfl cw_X2_hang ml_X2_37 (c_X2_hang l D ca ad PL Z A hok N (sA (sA (sA (sA w 21 i0 (gF w 2 7 i0).toNatClampNeg x1) 22 i0 (gF (sA w 21 i0 (gF w 2 7 i0).toNatClampNeg x1) 2 7 i0).toNatClampNeg x2) 23 i0 (gF (sA (sA w 21 i0 (gF w 2 7 i0).toNatClampNeg x1) 22 i0 (gF (sA w 21 i0 (gF w 2 7 i0).toNatClampNeg x1) 2 7 i0).toNatClampNeg x2) 2 7 i0).toNatClampNeg x3) 24 i0 (gF (sA (sA (sA w 21 i0 (gF w 2 7 i0).toNatClampNeg x1) 22 i0 (gF (sA w 21 i0 (gF w 2 7 i0).toNatClampNeg x1) 2 7 i0).toNatClampNeg x2) 23 i0 (gF (sA (sA w 21 i0 (gF w 2 7 i0).toNatClampNeg x1) 22 i0 (gF (sA w 21 i0 (gF w 2 7 i0).toNatClampNeg x1) 2 7 i0).toNatClampNeg x2) 2 7 i0).toNatClampNeg x3) 2 7 i0).toNatClampNeg x4) i0 h0 (gF (sA (sA (sA (sA w 21 i0 (gF w 2 7 i0).toNatClampNeg x1) 22 i0 (gF (sA w 21 i0 (gF w 2 7 i0).toNatClampNeg x1) 2 7 i0).toNatClampNeg x2) 23 i0 (gF (sA (sA w 21 i0 (gF w 2 7 i0).toNatClampNeg x1) 22 i0 (gF (sA w 21 i0 (gF w 2 7 i0).toNatClampNeg x1) 2 7 i0).toNatClampNeg x2) 2 7 i0).toNatClampNeg x3) 24 i0 (gF (sA (sA (sA w 21 i0 (gF w 2 7 i0).toNatClampNeg x1) 22 i0 (gF (sA w 21 i0 (gF w 2 7 i0).toNatClampNeg x1) 2 7 i0).toNatClampNeg x2) 23 i0 (gF (sA (sA w 21 i0 (gF w 2 7 i0).toNatClampNeg x1) 22 i0 (gF (sA w 21 i0 (gF w 2 7 i0).toNatClampNeg x1) 2 7 i0).toNatClampNeg x2) 2 7 i0).toNatClampNeg x3) 2 7 i0).toNatClampNeg x4) 2 7 i0) z5 q6) rfl ⟨rfl, rfl⟩ ⟨Nat.le_of_ble_eq_true rfl, Nat.le_of_ble_eq_true rfl⟩ ⟨Nat.zero_le _, Nat.zero_le _⟩ (Nat.le_of_ble_eq_true rfl) rfl dX2_addJoin_56 (fun H locs hP hS => ?_)
    refine lv_aload_n hx hb dX2_addJoin_59 rfl (lv_at hl 0 rfl) ?_
    refine lv_dup hx hb dX2_addJoin_60 rfl ?_
    refine gt_2_7 (i := i0) C hP (hok.2.1 2 i0 h0) lk_X2_34 dX2_addJoin_61 ?_
    refine lv_iconst (v := (1 : Int32)) hx hb dX2_addJoin_64 (by decide) ?_
    refine lv_iadd hx hb dX2_addJoin_65 ?_
    refine pt_2_7 (i := i0) (v := ((gF z5 2 7 i0) + (1 : Int32))) C hok.1 hP hS (hok.2.1 2 i0 h0) lk_X2_34 dX2_addJoin_66 (fun H locs hP hS => ?_)
    exact kr_v hok.2.2.1 C hlocks hr hP hS (Option.some.inj hf) dX2_addJoin_69
  · have hf := ifn hf c7
    exact kr_v hok.2.2.1 C hlocks hr hP hS (Option.some.inj hf) dX2_addJoin_9
def f_X2_cutBack_48 (N : Nat) (w : Mem) (i0 : Nat) : Option (Mem) :=
  some w
def lp_X2_cutBack_29 (k : Mem → Option (Mem)) (N : Nat) (i0 : Nat) : Nat → Mem → Int32 → Option (Mem)
  | 0, _, _ => none
  | n + 1, w, v3 => (if (gF w 2 7 i0) ≤ v3 then
(k w)
else
(Option.bind (f_X2_hang N w i0 v3) (fun z3 => (lp_X2_cutBack_29 k N  i0  n z3 (v3 + (1 : Int32))))))
def f_X2_cutBack_22 (N : Nat) (w : Mem) (i0 : Nat) (v2 : Int32) : Option (Mem) :=
  (lp_X2_cutBack_29 (fun (w_2 : Mem) => (f_X2_cutBack_48 N w_2 i0  )) N  i0  N (sF w 2 7 i0 v2) (0 : Int32))
def lp_X2_cutBack_7 (k : Mem → Option (Mem)) (N : Nat) (i0 : Nat) (v1 : Int32) (v2 : Int32) : Nat → Mem → Int32 → Option (Mem)
  | 0, _, _ => none
  | n + 1, w, v3 => (if v1 ≤ v3 then
(k w)
else
(Option.bind (f_X2_addLone N w i0) (fun z6 => (lp_X2_cutBack_7 k N  i0 v1 v2 n z6 (v3 + (1 : Int32))))))
def f_X2_cutBack (N : Nat) (w : Mem) (i0 : Nat) (x1 : Int32) (x2 : Int32) : Option (Mem) :=
  (lp_X2_cutBack_7 (fun (w_1 : Mem) => (f_X2_cutBack_22 N w_1 i0 x2 )) N  i0 x1 x2 N (sF w 2 6 i0 (0 : Int32)) (0 : Int32))
set_option maxRecDepth 100000 in
set_option maxHeartbeats 4000000 in
theorem c_X2_cutBack (l : Launch) (D : va_G) (ca : Nat → ClassId) (ad : Nat → Nat → Nat) (PL : List (Nat × Nat)) (Z : State → Prop) (A : Nat → Prop) (hok : okc bX Z A ad PL) (N : Nat) (w : Mem) (i0 : Nat) (h0 : i0 < 2) (x1 : Int32) (x2 : Int32) (w' : Mem) (hf : f_X2_cutBack N w i0 x1 x2 = some w') : CT l yX2_cutBack (wsy yX2_cutBack cX2_cutBack 4 none) (rmk 1) D ca ad PL Z A [.ref (ad 2 i0), .int x1, .int x2] w w' none := by
  refine Met.ofW (cc := cX2_cutBack) (maxL := 4) (ret := none) (by decide +kernel) rfl ?_
  intro p e s m args below meth c s₁ B hml hv
  obtain ⟨rfl, hP, hK, hZ⟩ := hv
  have hx := B.exec
  have hb := B.bytes
  have hr := B.returns
  have hlocks := B.notSynchronized
  have hts : ∀ w ∈ ALL, w.before _ s = true := fun w hw => atoms_spec (ws := wsy yX2_cutBack cX2_cutBack 4 none) B.pre w (List.mem_cons_of_mem _ hw)
  have hown : s.vm.findClass RX2 = some m.cls := findClass_of_methodNamed B.named
  have C : CX p s m _ c cX2_cutBack RX2 4 D ca Z := ⟨hx, hb, hml, hown, hts, hK, hZ⟩
  have hS : va_S A s.heap s.heap [] := va_S.rf
  have hl := lv_entry ([.ref (ad 2 i0), .int x1, .int x2]) (n := 4) (Nat.le_of_ble_eq_true rfl)
  rw [lg_entry_eq]
  generalize (lg_sl ([.ref (ad 2 i0), .int x1, .int x2]) ++ List.replicate (4 - (lg_sl ([.ref (ad 2 i0), .int x1, .int x2])).length) Slot.unset).toArray = ls at hl ⊢
  have hl : lv_has ls 4 [(0, .ref (ad 2 i0)), (1, .int x1), (2, .int x2)] := hl
  show W p l e (rmk 1) s m _ below meth c s.heap [] 0 0 _ _
  have P_f_X2_cutBack_48 : ∀ (w : Mem), f_X2_cutBack_48 N w i0   = some w' → WP p l e (rmk 1) s m [.ref (ad 2 i0), .int x1, .int x2].toArray below meth c D ca ad PL A (MQ below (qcR D ca ad PL Z A w' none) [.ref (ad 2 i0), .int x1, .int x2].toArray s 0 0 A) 4 48 [] [] w := by
    intro w hf _ _ ls hP hS hl
    unfold f_X2_cutBack_48 at hf
    exact kr_v hok.2.2.1 C hlocks hr hP hS (Option.some.inj hf) dX2_cutBack_48
  have L_lp_X2_cutBack_29 : ∀ (k : Mem → Option (Mem)) (hk : ∀ (w : Mem), k w = some w' → WP p l e (rmk 1) s m [.ref (ad 2 i0), .int x1, .int x2].toArray below meth c D ca ad PL A (MQ below (qcR D ca ad PL Z A w' none) [.ref (ad 2 i0), .int x1, .int x2].toArray s 0 0 A) 4 48 [] [] w) (n : Nat) (w : Mem) (v3 : Int32), lp_X2_cutBack_29 k N  i0  n w v3 = some w' → WP p l e (rmk 1) s m [.ref (ad 2 i0), .int x1, .int x2].toArray below meth c D ca ad PL A (MQ below (qcR D ca ad PL Z A w' none) [.ref (ad 2 i0), .int x1, .int x2].toArray s 0 0 A) 4 29 [] [(0, .ref (ad 2 i0)), (3, .int v3)] w := by
    intro k hk n
    induction n with
    | zero => intro w v3 hf; rw [lp_X2_cutBack_29] at hf; cases hf
    | succ n ih =>
      intro w v3 hf _ _ ls hP hS hl
      rw [lp_X2_cutBack_29] at hf
      refine lv_iload_n hx hb dX2_cutBack_29 rfl (lv_at hl 1 rfl) ?_
      refine lv_aload_n hx hb dX2_cutBack_30 rfl (lv_at hl 0 rfl) ?_
      refine gt_2_7 (i := i0) C hP (hok.2.1 2 i0 h0) lk_X2_34 dX2_cutBack_31 ?_
      refine lv_icmp_ge (tgt := 48) hx hb dX2_cutBack_34 (by decide) (fun c5 => ?_) (fun c5 => ?_)
      · have hf := ifp hf c5
        exact hk w hf _ _ ls hP hS (lv_sub hl [] rfl)
      · have hf := ifn hf c5
        refine lv_aload_n hx hb dX2_cutBack_37 rfl (lv_at hl 0 rfl) ?_
        refine lv_iload_n hx hb dX2_cutBack_38 rfl (lv_at hl 1 rfl) ?_
        obtain ⟨z3, q4, hf⟩ := bsp hf
        refine kc_V (ci := 2) (i := i0) (As := [.int v3]) (rest := []) hok.2.2.1 C hP hS hl.1 (hok.2.1 2 i0 h0) rfl rfl cw_X2_hang ml_X2_37 (c_X2_hang l D ca ad PL Z A hok N w i0 h0 v3 z3 q4) rfl ⟨rfl, rfl⟩ ⟨Nat.le_of_ble_eq_true rfl, Nat.le_of_ble_eq_true rfl⟩ ⟨Nat.zero_le _, Nat.zero_le _⟩ (Nat.le_of_ble_eq_true rfl) rfl dX2_cutBack_39 (fun H locs hP hS => ?_)
        refine lv_iinc (v := (v3 + (1 : Int32))) (lv' := [(3, .int (v3 + (1 : Int32))), (0, .ref (ad 2 i0))]) hx hb dX2_cutBack_42 hl (k := 1) rfl rfl (by decide) rfl (fun ls hl => ?_)
        refine lv_goto (tgt := 29) hx hb dX2_cutBack_45 (by decide) ?_
        exact ih z3 (v3 + (1 : Int32)) hf _ _ ls hP hS (lv_sub hl [1, 0] rfl)
  have P_f_X2_cutBack_22 : ∀ (w : Mem) (v2 : Int32), f_X2_cutBack_22 N w i0 v2  = some w' → WP p l e (rmk 1) s m [.ref (ad 2 i0), .int x1, .int x2].toArray below meth c D ca ad PL A (MQ below (qcR D ca ad PL Z A w' none) [.ref (ad 2 i0), .int x1, .int x2].toArray s 0 0 A) 4 22 [] [(0, .ref (ad 2 i0)), (2, .int v2)] w := by
    intro w v2 hf _ _ ls hP hS hl
    unfold f_X2_cutBack_22 at hf
    refine lv_aload_n hx hb dX2_cutBack_22 rfl (lv_at hl 0 rfl) ?_
    refine lv_iload_n hx hb dX2_cutBack_23 rfl (lv_at hl 1 rfl) ?_
    refine pt_2_7 (i := i0) (v := v2) C hok.1 hP hS (hok.2.1 2 i0 h0) lk_X2_34 dX2_cutBack_24 (fun H locs hP hS => ?_)
    refine lv_iconst (v := (0 : Int32)) hx hb dX2_cutBack_27 (by decide) ?_
    refine lv_istore_n (lv' := [(3, .int (0 : Int32)), (0, .ref (ad 2 i0)), (2, .int v2)]) hx hb dX2_cutBack_28 rfl hl (by decide) rfl (fun ls hl => ?_)
    exact L_lp_X2_cutBack_29 _ (fun w_2 hf H locs ls hP hS hl => P_f_X2_cutBack_48 w_2 hf _ _ ls hP hS (lv_sub hl [] rfl)) N (sF w 2 7 i0 v2) (0 : Int32) hf _ _ ls hP hS (lv_sub hl [1, 0] rfl)
  have L_lp_X2_cutBack_7 : ∀ (v1 : Int32) (v2 : Int32) (k : Mem → Option (Mem)) (hk : ∀ (w : Mem), k w = some w' → WP p l e (rmk 1) s m [.ref (ad 2 i0), .int x1, .int x2].toArray below meth c D ca ad PL A (MQ below (qcR D ca ad PL Z A w' none) [.ref (ad 2 i0), .int x1, .int x2].toArray s 0 0 A) 4 22 [] [(0, .ref (ad 2 i0)), (2, .int v2)] w) (n : Nat) (w : Mem) (v3 : Int32), lp_X2_cutBack_7 k N  i0 v1 v2 n w v3 = some w' → WP p l e (rmk 1) s m [.ref (ad 2 i0), .int x1, .int x2].toArray below meth c D ca ad PL A (MQ below (qcR D ca ad PL Z A w' none) [.ref (ad 2 i0), .int x1, .int x2].toArray s 0 0 A) 4 7 [] [(0, .ref (ad 2 i0)), (1, .int v1), (2, .int v2), (3, .int v3)] w := by
    intro v1 v2 k hk n
    induction n with
    | zero => intro w v3 hf; rw [lp_X2_cutBack_7] at hf; cases hf
    | succ n ih =>
      intro w v3 hf _ _ ls hP hS hl
      rw [lp_X2_cutBack_7] at hf
      refine lv_iload_n hx hb dX2_cutBack_7 rfl (lv_at hl 3 rfl) ?_
      refine lv_iload_n hx hb dX2_cutBack_8 rfl (lv_at hl 1 rfl) ?_
      refine lv_icmp_ge (tgt := 22) hx hb dX2_cutBack_9 (by decide) (fun c8 => ?_) (fun c8 => ?_)
      · have hf := ifp hf c8
        exact hk w hf _ _ ls hP hS (lv_sub hl [0, 2] rfl)
      · have hf := ifn hf c8
        refine lv_aload_n hx hb dX2_cutBack_12 rfl (lv_at hl 0 rfl) ?_
        obtain ⟨z6, q7, hf⟩ := bsp hf
        refine kc_V (ci := 2) (i := i0) (As := []) (rest := []) hok.2.2.1 C hP hS hl.1 (hok.2.1 2 i0 h0) rfl rfl cw_X2_addLone ml_X2_41 (c_X2_addLone l D ca ad PL Z A hok N w i0 h0 z6 q7) rfl ⟨rfl, rfl⟩ ⟨Nat.le_of_ble_eq_true rfl, Nat.le_of_ble_eq_true rfl⟩ ⟨Nat.zero_le _, Nat.zero_le _⟩ (Nat.le_of_ble_eq_true rfl) rfl dX2_cutBack_13 (fun H locs hP hS => ?_)
        refine lv_iinc (v := (v3 + (1 : Int32))) (lv' := [(3, .int (v3 + (1 : Int32))), (0, .ref (ad 2 i0)), (1, .int v1), (2, .int v2)]) hx hb dX2_cutBack_16 hl (k := 3) rfl rfl (by decide) rfl (fun ls hl => ?_)
        refine lv_goto (tgt := 7) hx hb dX2_cutBack_19 (by decide) ?_
        exact ih z6 (v3 + (1 : Int32)) hf _ _ ls hP hS (lv_sub hl [1, 2, 3, 0] rfl)
  unfold f_X2_cutBack at hf
  -- walk
  refine lv_aload_n hx hb dX2_cutBack_0 rfl (lv_at hl 0 rfl) ?_
  refine lv_iconst (v := (0 : Int32)) hx hb dX2_cutBack_1 (by decide) ?_
  refine pt_2_6 (i := i0) (v := (0 : Int32)) C hok.1 hP hS (hok.2.1 2 i0 h0) lk_X2_30 dX2_cutBack_2 (fun H locs hP hS => ?_)
  refine lv_iconst (v := (0 : Int32)) hx hb dX2_cutBack_5 (by decide) ?_
  refine lv_istore_n (lv' := [(3, .int (0 : Int32)), (0, .ref (ad 2 i0)), (1, .int x1), (2, .int x2)]) hx hb dX2_cutBack_6 rfl hl (by decide) rfl (fun ls hl => ?_)
  exact L_lp_X2_cutBack_7 x1 x2 _ (fun w_1 hf H locs ls hP hS hl => P_f_X2_cutBack_22 w_1 x2 hf _ _ ls hP hS (lv_sub hl [0, 1] rfl)) N (sF w 2 6 i0 (0 : Int32)) (0 : Int32) hf _ _ ls hP hS (lv_sub hl [1, 2, 3, 0] rfl)
def f_X2_stepsUp_32 (N : Nat) (w : Mem) (i0 : Nat) (v2 : Int32) : Option (Int32) :=
  some v2
def lp_X2_stepsUp_9 (k : Int32 → Option (Int32)) (N : Nat) (w : Mem) (i0 : Nat) : Nat → Int32 → Int32 → Option (Int32)
  | 0, _, _ => none
  | n + 1, v2, v3 => (if v3 < (0 : Int32) then
(k v2)
else
(if (24 : Int32) ≤ v2 then
(k v2)
else
(if inb v3 24 = true then (lp_X2_stepsUp_9 k N w i0  n (v2 + (1 : Int32)) (gA w 19 i0 v3.toNatClampNeg)) else none)))
def f_X2_stepsUp (N : Nat) (w : Mem) (i0 : Nat) (x1 : Int32) : Option (Int32) :=
  (if inb x1 24 = true then (lp_X2_stepsUp_9 (fun (u2_2 : Int32) => (f_X2_stepsUp_32 N w i0 u2_2 )) N w i0  N (0 : Int32) (gA w 19 i0 x1.toNatClampNeg)) else none)
set_option maxRecDepth 100000 in
set_option maxHeartbeats 4000000 in
theorem c_X2_stepsUp (l : Launch) (D : va_G) (ca : Nat → ClassId) (ad : Nat → Nat → Nat) (PL : List (Nat × Nat)) (Z : State → Prop) (A : Nat → Prop) (hok : okc bX Z A ad PL) (N : Nat) (w : Mem) (i0 : Nat) (h0 : i0 < 2) (x1 : Int32) (r : Int32) (hf : f_X2_stepsUp N w i0 x1 = some r) : CT l yX2_stepsUp (wsy yX2_stepsUp cX2_stepsUp 4 (some .int)) (rmk 0) D ca ad PL Z A [.ref (ad 2 i0), .int x1] w w (some (.int r)) := by
  refine Met.ofW (cc := cX2_stepsUp) (maxL := 4) (ret := (some .int)) (by decide +kernel) rfl ?_
  intro p e s m args below meth c s₁ B hml hv
  obtain ⟨rfl, hP, hK, hZ⟩ := hv
  have hx := B.exec
  have hb := B.bytes
  have hr := B.returns
  have hlocks := B.notSynchronized
  have hts : ∀ w ∈ ALL, w.before _ s = true := fun w hw => atoms_spec (ws := wsy yX2_stepsUp cX2_stepsUp 4 (some .int)) B.pre w (List.mem_cons_of_mem _ hw)
  have hown : s.vm.findClass RX2 = some m.cls := findClass_of_methodNamed B.named
  have C : CX p s m _ c cX2_stepsUp RX2 4 D ca Z := ⟨hx, hb, hml, hown, hts, hK, hZ⟩
  have hS : va_S A s.heap s.heap [] := va_S.rf
  have hl := lv_entry ([.ref (ad 2 i0), .int x1]) (n := 4) (Nat.le_of_ble_eq_true rfl)
  rw [lg_entry_eq]
  generalize (lg_sl ([.ref (ad 2 i0), .int x1]) ++ List.replicate (4 - (lg_sl ([.ref (ad 2 i0), .int x1])).length) Slot.unset).toArray = ls at hl ⊢
  have hl : lv_has ls 4 [(0, .ref (ad 2 i0)), (1, .int x1)] := hl
  show W p l e (rmk 0) s m _ below meth c s.heap [] 0 0 _ _
  have P_f_X2_stepsUp_32 : ∀ (v2 : Int32), f_X2_stepsUp_32 N w i0 v2  = some r → WP p l e (rmk 0) s m [.ref (ad 2 i0), .int x1].toArray below meth c D ca ad PL A (MQ below (qcR D ca ad PL Z A w (some (.int r))) [.ref (ad 2 i0), .int x1].toArray s 0 0 A) 4 32 [] [(2, .int v2)] w := by
    intro v2 hf _ _ ls hP hS hl
    unfold f_X2_stepsUp_32 at hf
    refine lv_iload_n hx hb dX2_stepsUp_32 rfl (lv_at hl 0 rfl) ?_
    exact kr_i hok.2.2.1 C hlocks hr rfl hP hS rfl (Option.some.inj hf) dX2_stepsUp_33
  have L_lp_X2_stepsUp_9 : ∀ (k : Int32 → Option (Int32)) (hk : ∀ (v2 : Int32), k v2 = some r → WP p l e (rmk 0) s m [.ref (ad 2 i0), .int x1].toArray below meth c D ca ad PL A (MQ below (qcR D ca ad PL Z A w (some (.int r))) [.ref (ad 2 i0), .int x1].toArray s 0 0 A) 4 32 [] [(2, .int v2)] w) (n : Nat) (v2 : Int32) (v3 : Int32), lp_X2_stepsUp_9 k N w i0  n v2 v3 = some r → WP p l e (rmk 0) s m [.ref (ad 2 i0), .int x1].toArray below meth c D ca ad PL A (MQ below (qcR D ca ad PL Z A w (some (.int r))) [.ref (ad 2 i0), .int x1].toArray s 0 0 A) 4 9 [] [(0, .ref (ad 2 i0)), (2, .int v2), (3, .int v3)] w := by
    intro k hk n
    induction n with
    | zero => intro v2 v3 hf; rw [lp_X2_stepsUp_9] at hf; cases hf
    | succ n ih =>
      intro v2 v3 hf _ _ ls hP hS hl
      rw [lp_X2_stepsUp_9] at hf
      refine lv_iload_n hx hb dX2_stepsUp_9 rfl (lv_at hl 2 rfl) ?_
      refine lv_if_lt (tgt := 32) hx hb dX2_stepsUp_10 (by decide) (fun c5 => ?_) (fun c5 => ?_)
      · have hf := ifp hf c5
        exact hk v2 hf _ _ ls hP hS (lv_sub hl [1] rfl)
      · have hf := ifn hf c5
        refine lv_iload_n hx hb dX2_stepsUp_13 rfl (lv_at hl 1 rfl) ?_
        refine lv_bipush (v := (24 : Int32)) hx hb dX2_stepsUp_14 (by decide) ?_
        refine lv_icmp_ge (tgt := 32) hx hb dX2_stepsUp_16 (by decide) (fun c4 => ?_) (fun c4 => ?_)
        · have hf := ifp hf c4
          exact hk v2 hf _ _ ls hP hS (lv_sub hl [1] rfl)
        · have hf := ifn hf c4
          refine lv_iinc (v := (v2 + (1 : Int32))) (lv' := [(2, .int (v2 + (1 : Int32))), (0, .ref (ad 2 i0)), (3, .int v3)]) hx hb dX2_stepsUp_19 hl (k := 1) rfl rfl (by decide) rfl (fun ls hl => ?_)
          refine lv_aload_n hx hb dX2_stepsUp_22 rfl (lv_at hl 1 rfl) ?_
          refine gt_2_0 (i := i0) C hP (hok.2.1 2 i0 h0) lk_X2_9 dX2_stepsUp_23 ?_
          refine lv_iload_n hx hb dX2_stepsUp_26 rfl (lv_at hl 2 rfl) ?_
          obtain ⟨b3, hf⟩ := gsp hf
          refine ra_ild (k := 19) (i := i0) (n := 24) (f := (gA w 19 i0)) C hP (hok.2.1 19 i0 h0) rfl b3 dX2_stepsUp_27 ?_
          refine lv_istore_n (lv' := [(3, .int (gA w 19 i0 v3.toNatClampNeg)), (2, .int (v2 + (1 : Int32))), (0, .ref (ad 2 i0))]) hx hb dX2_stepsUp_28 rfl hl (by decide) rfl (fun ls hl => ?_)
          refine lv_goto (tgt := 9) hx hb dX2_stepsUp_29 (by decide) ?_
          exact ih (v2 + (1 : Int32)) (gA w 19 i0 v3.toNatClampNeg) hf _ _ ls hP hS (lv_sub hl [2, 1, 0] rfl)
  unfold f_X2_stepsUp at hf
  -- walk
  refine lv_iconst (v := (0 : Int32)) hx hb dX2_stepsUp_0 (by decide) ?_
  refine lv_istore_n (lv' := [(2, .int (0 : Int32)), (0, .ref (ad 2 i0)), (1, .int x1)]) hx hb dX2_stepsUp_1 rfl hl (by decide) rfl (fun ls hl => ?_)
  refine lv_aload_n hx hb dX2_stepsUp_2 rfl (lv_at hl 1 rfl) ?_
  refine gt_2_0 (i := i0) C hP (hok.2.1 2 i0 h0) lk_X2_9 dX2_stepsUp_3 ?_
  refine lv_iload_n hx hb dX2_stepsUp_6 rfl (lv_at hl 2 rfl) ?_
  obtain ⟨b1, hf⟩ := gsp hf
  refine ra_ild (k := 19) (i := i0) (n := 24) (f := (gA w 19 i0)) C hP (hok.2.1 19 i0 h0) rfl b1 dX2_stepsUp_7 ?_
  refine lv_istore_n (lv' := [(3, .int (gA w 19 i0 x1.toNatClampNeg)), (2, .int (0 : Int32)), (0, .ref (ad 2 i0)), (1, .int x1)]) hx hb dX2_stepsUp_8 rfl hl (by decide) rfl (fun ls hl => ?_)
  exact L_lp_X2_stepsUp_9 _ (fun u2_2 hf H locs ls hP hS hl => P_f_X2_stepsUp_32 u2_2 hf _ _ ls hP hS (lv_sub hl [0] rfl)) N (0 : Int32) (gA w 19 i0 x1.toNatClampNeg) hf _ _ ls hP hS (lv_sub hl [2, 1, 0] rfl)
def f_X2_hangingOn_42 (N : Nat) (w : Mem) (i0 : Nat) : Option (Int32) :=
  some (-2 : Int32)
def lp_X2_hangingOn_5 (k : Option (Int32)) (N : Nat) (w : Mem) (i0 : Nat) (v1 : Int32) (v2 : Int32) : Nat → Int32 → Int32 → Option (Int32)
  | 0, _, _ => none
  | n + 1, v3, v4 => (if (gF w 2 6 i0) ≤ v4 then
(k )
else
(if inb v4 24 = true then (if (gA w 19 i0 v4.toNatClampNeg) = v1 then
(if v3 = v2 then
some v4
else
(lp_X2_hangingOn_5 k N w i0 v1 v2 n (v3 + (1 : Int32)) (v4 + (1 : Int32))))
else
(lp_X2_hangingOn_5 k N w i0 v1 v2 n v3 (v4 + (1 : Int32)))) else none))
def f_X2_hangingOn (N : Nat) (w : Mem) (i0 : Nat) (x1 : Int32) (x2 : Int32) : Option (Int32) :=
  (lp_X2_hangingOn_5 (f_X2_hangingOn_42 N w i0  ) N w i0 x1 x2 N (0 : Int32) (0 : Int32))
set_option maxRecDepth 100000 in
set_option maxHeartbeats 4000000 in
theorem c_X2_hangingOn (l : Launch) (D : va_G) (ca : Nat → ClassId) (ad : Nat → Nat → Nat) (PL : List (Nat × Nat)) (Z : State → Prop) (A : Nat → Prop) (hok : okc bX Z A ad PL) (N : Nat) (w : Mem) (i0 : Nat) (h0 : i0 < 2) (x1 : Int32) (x2 : Int32) (r : Int32) (hf : f_X2_hangingOn N w i0 x1 x2 = some r) : CT l yX2_hangingOn (wsy yX2_hangingOn cX2_hangingOn 5 (some .int)) (rmk 0) D ca ad PL Z A [.ref (ad 2 i0), .int x1, .int x2] w w (some (.int r)) := by
  refine Met.ofW (cc := cX2_hangingOn) (maxL := 5) (ret := (some .int)) (by decide +kernel) rfl ?_
  intro p e s m args below meth c s₁ B hml hv
  obtain ⟨rfl, hP, hK, hZ⟩ := hv
  have hx := B.exec
  have hb := B.bytes
  have hr := B.returns
  have hlocks := B.notSynchronized
  have hts : ∀ w ∈ ALL, w.before _ s = true := fun w hw => atoms_spec (ws := wsy yX2_hangingOn cX2_hangingOn 5 (some .int)) B.pre w (List.mem_cons_of_mem _ hw)
  have hown : s.vm.findClass RX2 = some m.cls := findClass_of_methodNamed B.named
  have C : CX p s m _ c cX2_hangingOn RX2 5 D ca Z := ⟨hx, hb, hml, hown, hts, hK, hZ⟩
  have hS : va_S A s.heap s.heap [] := va_S.rf
  have hl := lv_entry ([.ref (ad 2 i0), .int x1, .int x2]) (n := 5) (Nat.le_of_ble_eq_true rfl)
  rw [lg_entry_eq]
  generalize (lg_sl ([.ref (ad 2 i0), .int x1, .int x2]) ++ List.replicate (5 - (lg_sl ([.ref (ad 2 i0), .int x1, .int x2])).length) Slot.unset).toArray = ls at hl ⊢
  have hl : lv_has ls 5 [(0, .ref (ad 2 i0)), (1, .int x1), (2, .int x2)] := hl
  show W p l e (rmk 0) s m _ below meth c s.heap [] 0 0 _ _
  have P_f_X2_hangingOn_42 : f_X2_hangingOn_42 N w i0   = some r → WP p l e (rmk 0) s m [.ref (ad 2 i0), .int x1, .int x2].toArray below meth c D ca ad PL A (MQ below (qcR D ca ad PL Z A w (some (.int r))) [.ref (ad 2 i0), .int x1, .int x2].toArray s 0 0 A) 5 42 [] [] w := by
    intro  hf _ _ ls hP hS hl
    unfold f_X2_hangingOn_42 at hf
    refine lv_bipush (v := (-2 : Int32)) hx hb dX2_hangingOn_42 (by decide) ?_
    exact kr_i hok.2.2.1 C hlocks hr rfl hP hS rfl (Option.some.inj hf) dX2_hangingOn_44
  have L_lp_X2_hangingOn_5 : ∀ (v1 : Int32) (v2 : Int32) (k : Option (Int32)) (hk : k = some r → WP p l e (rmk 0) s m [.ref (ad 2 i0), .int x1, .int x2].toArray below meth c D ca ad PL A (MQ below (qcR D ca ad PL Z A w (some (.int r))) [.ref (ad 2 i0), .int x1, .int x2].toArray s 0 0 A) 5 42 [] [] w) (n : Nat) (v3 : Int32) (v4 : Int32), lp_X2_hangingOn_5 k N w i0 v1 v2 n v3 v4 = some r → WP p l e (rmk 0) s m [.ref (ad 2 i0), .int x1, .int x2].toArray below meth c D ca ad PL A (MQ below (qcR D ca ad PL Z A w (some (.int r))) [.ref (ad 2 i0), .int x1, .int x2].toArray s 0 0 A) 5 5 [] [(0, .ref (ad 2 i0)), (1, .int v1), (2, .int v2), (3, .int v3), (4, .int v4)] w := by
    intro v1 v2 k hk n
    induction n with
    | zero => intro v3 v4 hf; rw [lp_X2_hangingOn_5] at hf; cases hf
    | succ n ih =>
      intro v3 v4 hf _ _ ls hP hS hl
      rw [lp_X2_hangingOn_5] at hf
      refine lv_iload hx hb dX2_hangingOn_5 (lv_at hl 4 rfl) ?_
      refine lv_aload_n hx hb dX2_hangingOn_7 rfl (lv_at hl 0 rfl) ?_
      refine gt_2_6 (i := i0) C hP (hok.2.1 2 i0 h0) lk_X2_30 dX2_hangingOn_8 ?_
      refine lv_icmp_ge (tgt := 42) hx hb dX2_hangingOn_11 (by decide) (fun c5 => ?_) (fun c5 => ?_)
      · have hf := ifp hf c5
        exact hk  hf _ _ ls hP hS (lv_sub hl [] rfl)
      · have hf := ifn hf c5
        refine lv_aload_n hx hb dX2_hangingOn_14 rfl (lv_at hl 0 rfl) ?_
        refine gt_2_0 (i := i0) C hP (hok.2.1 2 i0 h0) lk_X2_9 dX2_hangingOn_15 ?_
        refine lv_iload hx hb dX2_hangingOn_18 (lv_at hl 4 rfl) ?_
        obtain ⟨b2, hf⟩ := gsp hf
        refine ra_ild (k := 19) (i := i0) (n := 24) (f := (gA w 19 i0)) C hP (hok.2.1 19 i0 h0) rfl b2 dX2_hangingOn_20 ?_
        refine lv_iload_n hx hb dX2_hangingOn_21 rfl (lv_at hl 1 rfl) ?_
        refine lv_icmp_ne (tgt := 36) hx hb dX2_hangingOn_22 (by decide) (fun c4 => ?_) (fun c4 => ?_)
        · have hf := ifn hf c4
          refine lv_iinc (v := (v4 + (1 : Int32))) (lv' := [(4, .int (v4 + (1 : Int32))), (0, .ref (ad 2 i0)), (1, .int v1), (2, .int v2), (3, .int v3)]) hx hb dX2_hangingOn_36 hl (k := 4) rfl rfl (by decide) rfl (fun ls hl => ?_)
          refine lv_goto (tgt := 5) hx hb dX2_hangingOn_39 (by decide) ?_
          exact ih v3 (v4 + (1 : Int32)) hf _ _ ls hP hS (lv_sub hl [1, 2, 3, 4, 0] rfl)
        · have hf := ifp hf c4
          refine lv_iload_n hx hb dX2_hangingOn_25 rfl (lv_at hl 3 rfl) ?_
          refine lv_iload_n hx hb dX2_hangingOn_26 rfl (lv_at hl 2 rfl) ?_
          refine lv_icmp_ne (tgt := 33) hx hb dX2_hangingOn_27 (by decide) (fun c3 => ?_) (fun c3 => ?_)
          · have hf := ifn hf c3
            refine lv_iinc (v := (v3 + (1 : Int32))) (lv' := [(3, .int (v3 + (1 : Int32))), (0, .ref (ad 2 i0)), (1, .int v1), (2, .int v2), (4, .int v4)]) hx hb dX2_hangingOn_33 hl (k := 3) rfl rfl (by decide) rfl (fun ls hl => ?_)
            refine lv_iinc (v := (v4 + (1 : Int32))) (lv' := [(4, .int (v4 + (1 : Int32))), (3, .int (v3 + (1 : Int32))), (0, .ref (ad 2 i0)), (1, .int v1), (2, .int v2)]) hx hb dX2_hangingOn_36 hl (k := 4) rfl rfl (by decide) rfl (fun ls hl => ?_)
            refine lv_goto (tgt := 5) hx hb dX2_hangingOn_39 (by decide) ?_
            exact ih (v3 + (1 : Int32)) (v4 + (1 : Int32)) hf _ _ ls hP hS (lv_sub hl [2, 3, 4, 1, 0] rfl)
          · have hf := ifp hf c3
            refine lv_iload hx hb dX2_hangingOn_30 (lv_at hl 4 rfl) ?_
            exact kr_i hok.2.2.1 C hlocks hr rfl hP hS rfl (Option.some.inj hf) dX2_hangingOn_32
  unfold f_X2_hangingOn at hf
  -- walk
  refine lv_iconst (v := (0 : Int32)) hx hb dX2_hangingOn_0 (by decide) ?_
  refine lv_istore_n (lv' := [(3, .int (0 : Int32)), (0, .ref (ad 2 i0)), (1, .int x1), (2, .int x2)]) hx hb dX2_hangingOn_1 rfl hl (by decide) rfl (fun ls hl => ?_)
  refine lv_iconst (v := (0 : Int32)) hx hb dX2_hangingOn_2 (by decide) ?_
  refine lv_istore (lv' := [(4, .int (0 : Int32)), (3, .int (0 : Int32)), (0, .ref (ad 2 i0)), (1, .int x1), (2, .int x2)]) hx hb dX2_hangingOn_3 hl (by decide) rfl (fun ls hl => ?_)
  exact L_lp_X2_hangingOn_5 x1 x2 _ (fun hf H locs ls hP hS hl => P_f_X2_hangingOn_42 hf _ _ ls hP hS (lv_sub hl [] rfl)) N (0 : Int32) (0 : Int32) hf _ _ ls hP hS (lv_sub hl [2, 3, 4, 1, 0] rfl)
