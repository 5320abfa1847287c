def f_X6_behindBlanks_27 (N : Nat) (w : Mem)  (v3 : Int32) : Option (Int32) :=
  some v3
def lp_X6_behindBlanks_2 (k : Int32 → Option (Int32)) (N : Nat) (w : Mem)  (v2 : Int32) : Nat → Int32 → Option (Int32)
  | 0, _ => none
  | n + 1, v3 => (if v2 ≤ v3 then
(k v3)
else
(if inb v3 500 = true then (if (gA w 30 0 v3.toNatClampNeg) = (32 : Int32) then
(lp_X6_behindBlanks_2 k N w  v2 n (v3 + (1 : Int32)))
else
(k v3)) else none))
def f_X6_behindBlanks (N : Nat) (w : Mem) (x1 : Int32) (x2 : Int32) : Option (Int32) :=
  (lp_X6_behindBlanks_2 (fun (u3_1 : Int32) => (f_X6_behindBlanks_27 N w  u3_1 )) N w  x2 N x1)
set_option maxRecDepth 100000 in
set_option maxHeartbeats 4000000 in
theorem c_X6_behindBlanks (l : Launch) (D : va_G) (ca : Nat → ClassId) (ad : Nat → Nat → Nat) (PL : List (Nat × Nat)) (Z : State → Prop) (A : Nat → Prop) (hok : okc bX Z A ad PL) (N : Nat) (w : Mem) (x1 : Int32) (x2 : Int32) (r : Int32) (hf : f_X6_behindBlanks N w x1 x2 = some r) : CT l yX6_behindBlanks (wsy yX6_behindBlanks cX6_behindBlanks 4 (some .int)) (rmk 0) D ca ad PL Z A [.ref (ad 6 0), .int x1, .int x2] w w (some (.int r)) := by
  refine Met.ofW (cc := cX6_behindBlanks) (maxL := 4) (ret := (some .int)) (by decide +kernel) rfl ?_
  intro p e s m args below meth c s₁ B hml hv
  obtain ⟨rfl, hP, hK, hZ⟩ := hv
  have hx := B.exec
  have hb := B.bytes
  have hr := B.returns
  have hlocks := B.notSynchronized
  have hts : ∀ w ∈ ALL, w.before _ s = true := fun w hw => atoms_spec (ws := wsy yX6_behindBlanks cX6_behindBlanks 4 (some .int)) B.pre w (List.mem_cons_of_mem _ hw)
  have hown : s.vm.findClass RX6 = some m.cls := findClass_of_methodNamed B.named
  have C : CX p s m _ c cX6_behindBlanks RX6 4 D ca Z := ⟨hx, hb, hml, hown, hts, hK, hZ⟩
  have hS : va_S A s.heap s.heap [] := va_S.rf
  have hl := lv_entry ([.ref (ad 6 0), .int x1, .int x2]) (n := 4) (Nat.le_of_ble_eq_true rfl)
  rw [lg_entry_eq]
  generalize (lg_sl ([.ref (ad 6 0), .int x1, .int x2]) ++ List.replicate (4 - (lg_sl ([.ref (ad 6 0), .int x1, .int x2])).length) Slot.unset).toArray = ls at hl ⊢
  have hl : lv_has ls 4 [(0, .ref (ad 6 0)), (1, .int x1), (2, .int x2)] := hl
  show W p l e (rmk 0) s m _ below meth c s.heap [] 0 0 _ _
  have P_f_X6_behindBlanks_27 : ∀ (v3 : Int32), f_X6_behindBlanks_27 N w  v3  = some r → WP p l e (rmk 0) s m [.ref (ad 6 0), .int x1, .int x2].toArray below meth c D ca ad PL A (MQ below (qcR D ca ad PL Z A w (some (.int r))) [.ref (ad 6 0), .int x1, .int x2].toArray s 0 0 A) 4 27 [] [(3, .int v3)] w := by
    intro v3 hf _ _ ls hP hS hl
    unfold f_X6_behindBlanks_27 at hf
    refine lv_iload_n hx hb dX6_behindBlanks_27 rfl (lv_at hl 0 rfl) ?_
    exact kr_i hok.2.2.1 C hlocks hr rfl hP hS rfl (Option.some.inj hf) dX6_behindBlanks_28
  have L_lp_X6_behindBlanks_2 : ∀ (v2 : Int32) (k : Int32 → Option (Int32)) (hk : ∀ (v3 : Int32), k v3 = some r → WP p l e (rmk 0) s m [.ref (ad 6 0), .int x1, .int x2].toArray below meth c D ca ad PL A (MQ below (qcR D ca ad PL Z A w (some (.int r))) [.ref (ad 6 0), .int x1, .int x2].toArray s 0 0 A) 4 27 [] [(3, .int v3)] w) (n : Nat) (v3 : Int32), lp_X6_behindBlanks_2 k N w  v2 n v3 = some r → WP p l e (rmk 0) s m [.ref (ad 6 0), .int x1, .int x2].toArray below meth c D ca ad PL A (MQ below (qcR D ca ad PL Z A w (some (.int r))) [.ref (ad 6 0), .int x1, .int x2].toArray s 0 0 A) 4 2 [] [(0, .ref (ad 6 0)), (2, .int v2), (3, .int v3)] w := by
    intro v2 k hk n
    induction n with
    | zero => intro v3 hf; rw [lp_X6_behindBlanks_2] at hf; cases hf
    | succ n ih =>
      intro v3 hf _ _ ls hP hS hl
      rw [lp_X6_behindBlanks_2] at hf
      refine lv_iload_n hx hb dX6_behindBlanks_2 rfl (lv_at hl 2 rfl) ?_
      refine lv_iload_n hx hb dX6_behindBlanks_3 rfl (lv_at hl 1 rfl) ?_
      refine lv_icmp_ge (tgt := 27) hx hb dX6_behindBlanks_4 (by decide) (fun c4 => ?_) (fun c4 => ?_)
      · have hf := ifp hf c4
        exact hk v3 hf _ _ ls hP hS (lv_sub hl [2] rfl)
      · have hf := ifn hf c4
        refine lv_aload_n hx hb dX6_behindBlanks_7 rfl (lv_at hl 0 rfl) ?_
        refine gt_6_0 (i := 0) C hP (hok.2.1 6 0 (Nat.le_of_ble_eq_true rfl)) lk_X6_9 dX6_behindBlanks_8 ?_
        refine lv_iload_n hx hb dX6_behindBlanks_11 rfl (lv_at hl 2 rfl) ?_
        obtain ⟨b2, hf⟩ := gsp hf
        refine ra_bld (k := 30) (i := 0) (n := 500) (f := (gA w 30 0)) C hP (hok.2.1 30 0 (Nat.le_of_ble_eq_true rfl)) rfl b2 dX6_behindBlanks_12 ?_
        refine lv_bipush (v := (32 : Int32)) hx hb dX6_behindBlanks_13 (by decide) ?_
        refine lv_icmp_eq (tgt := 21) hx hb dX6_behindBlanks_15 (by decide) (fun c3 => ?_) (fun c3 => ?_)
        · have hf := ifp hf c3
          refine lv_iinc (v := (v3 + (1 : Int32))) (lv' := [(3, .int (v3 + (1 : Int32))), (0, .ref (ad 6 0)), (2, .int v2)]) hx hb dX6_behindBlanks_21 hl (k := 2) rfl rfl (by decide) rfl (fun ls hl => ?_)
          refine lv_goto (tgt := 2) hx hb dX6_behindBlanks_24 (by decide) ?_
          exact ih (v3 + (1 : Int32)) hf _ _ ls hP hS (lv_sub hl [1, 2, 0] rfl)
        · have hf := ifn hf c3
          refine lv_goto (tgt := 27) hx hb dX6_behindBlanks_18 (by decide) ?_
          exact hk v3 hf _ _ ls hP hS (lv_sub hl [2] rfl)
  unfold f_X6_behindBlanks at hf
  -- walk
  refine lv_iload_n hx hb dX6_behindBlanks_0 rfl (lv_at hl 1 rfl) ?_
  refine lv_istore_n (lv' := [(3, .int x1), (0, .ref (ad 6 0)), (1, .int x1), (2, .int x2)]) hx hb dX6_behindBlanks_1 rfl hl (by decide) rfl (fun ls hl => ?_)
  exact L_lp_X6_behindBlanks_2 x2 _ (fun u3_1 hf H locs ls hP hS hl => P_f_X6_behindBlanks_27 u3_1 hf _ _ ls hP hS (lv_sub hl [0] rfl)) N x1 hf _ _ ls hP hS (lv_sub hl [1, 3, 0] rfl)
def f_X6_isLetter (N : Nat) (w : Mem) (x1 : Int32) : Option (Int32) :=
  (if inb x1 500 = true then (if (gA w 30 0 x1.toNatClampNeg) < (97 : Int32) then
some (0 : Int32)
else
(if (122 : Int32) < (gA w 30 0 x1.toNatClampNeg) then
some (0 : Int32)
else
some (1 : Int32))) else none)
set_option maxRecDepth 100000 in
set_option maxHeartbeats 4000000 in
theorem c_X6_isLetter (l : Launch) (D : va_G) (ca : Nat → ClassId) (ad : Nat → Nat → Nat) (PL : List (Nat × Nat)) (Z : State → Prop) (A : Nat → Prop) (hok : okc bX Z A ad PL) (N : Nat) (w : Mem) (x1 : Int32) (r : Int32) (hf : f_X6_isLetter N w x1 = some r) : CT l yX6_isLetter (wsy yX6_isLetter cX6_isLetter 2 (some .boolean)) (rmk 0) D ca ad PL Z A [.ref (ad 6 0), .int x1] w w (some (.int r)) := by
  refine Met.ofW (cc := cX6_isLetter) (maxL := 2) (ret := (some .boolean)) (by decide +kernel) rfl ?_
  intro p e s m args below meth c s₁ B hml hv
  obtain ⟨rfl, hP, hK, hZ⟩ := hv
  have hx := B.exec
  have hb := B.bytes
  have hr := B.returns
  have hlocks := B.notSynchronized
  have hts : ∀ w ∈ ALL, w.before _ s = true := fun w hw => atoms_spec (ws := wsy yX6_isLetter cX6_isLetter 2 (some .boolean)) B.pre w (List.mem_cons_of_mem _ hw)
  have hown : s.vm.findClass RX6 = some m.cls := findClass_of_methodNamed B.named
  have C : CX p s m _ c cX6_isLetter RX6 2 D ca Z := ⟨hx, hb, hml, hown, hts, hK, hZ⟩
  have hS : va_S A s.heap s.heap [] := va_S.rf
  have hl := lv_entry ([.ref (ad 6 0), .int x1]) (n := 2) (Nat.le_of_ble_eq_true rfl)
  rw [lg_entry_eq]
  generalize (lg_sl ([.ref (ad 6 0), .int x1]) ++ List.replicate (2 - (lg_sl ([.ref (ad 6 0), .int x1])).length) Slot.unset).toArray = ls at hl ⊢
  have hl : lv_has ls 2 [(0, .ref (ad 6 0)), (1, .int x1)] := hl
  show W p l e (rmk 0) s m _ below meth c s.heap [] 0 0 _ _
  unfold f_X6_isLetter at hf
  -- walk
  refine lv_aload_n hx hb dX6_isLetter_0 rfl (lv_at hl 0 rfl) ?_
  refine gt_6_0 (i := 0) C hP (hok.2.1 6 0 (Nat.le_of_ble_eq_true rfl)) lk_X6_9 dX6_isLetter_1 ?_
  refine lv_iload_n hx hb dX6_isLetter_4 rfl (lv_at hl 1 rfl) ?_
  obtain ⟨b1, hf⟩ := gsp hf
  refine ra_bld (k := 30) (i := 0) (n := 500) (f := (gA w 30 0)) C hP (hok.2.1 30 0 (Nat.le_of_ble_eq_true rfl)) rfl b1 dX6_isLetter_5 ?_
  refine lv_bipush (v := (97 : Int32)) hx hb dX6_isLetter_6 (by decide) ?_
  refine lv_icmp_lt (tgt := 26) hx hb dX6_isLetter_8 (by decide) (fun c3 => ?_) (fun c3 => ?_)
  · have hf := ifp hf c3
    refine lv_iconst (v := (0 : Int32)) hx hb dX6_isLetter_26 (by decide) ?_
    exact kr_i hok.2.2.1 C hlocks hr rfl hP hS rfl (Option.some.inj hf) dX6_isLetter_27
  · have hf := ifn hf c3
    refine lv_aload_n hx hb dX6_isLetter_11 rfl (lv_at hl 0 rfl) ?_
    refine gt_6_0 (i := 0) C hP (hok.2.1 6 0 (Nat.le_of_ble_eq_true rfl)) lk_X6_9 dX6_isLetter_12 ?_
    refine lv_iload_n hx hb dX6_isLetter_15 rfl (lv_at hl 1 rfl) ?_
    refine ra_bld (k := 30) (i := 0) (n := 500) (f := (gA w 30 0)) C hP (hok.2.1 30 0 (Nat.le_of_ble_eq_true rfl)) rfl b1 dX6_isLetter_16 ?_
    refine lv_bipush (v := (122 : Int32)) hx hb dX6_isLetter_17 (by decide) ?_
    refine lv_icmp_gt (tgt := 26) hx hb dX6_isLetter_19 (by decide) (fun c2 => ?_) (fun c2 => ?_)
    · have hf := ifp hf c2
      refine lv_iconst (v := (0 : Int32)) hx hb dX6_isLetter_26 (by decide) ?_
      exact kr_i hok.2.2.1 C hlocks hr rfl hP hS rfl (Option.some.inj hf) dX6_isLetter_27
    · have hf := ifn hf c2
      refine lv_iconst (v := (1 : Int32)) hx hb dX6_isLetter_22 (by decide) ?_
      refine lv_goto (tgt := 27) hx hb dX6_isLetter_23 (by decide) ?_
      exact kr_i hok.2.2.1 C hlocks hr rfl hP hS rfl (Option.some.inj hf) dX6_isLetter_27
def f_X6_behindLetters_24 (N : Nat) (w : Mem)  (v3 : Int32) : Option (Int32) :=
  some v3
def lp_X6_behindLetters_2 (k : Int32 → Option (Int32)) (N : Nat) (w : Mem)  (v2 : Int32) : Nat → Int32 → Option (Int32)
  | 0, _ => none
  | n + 1, v3 => (if v2 ≤ v3 then
(k v3)
else
(Option.bind (f_X6_isLetter N w v3) (fun z2 => (if z2 = (0 : Int32) then
(k v3)
else
(lp_X6_behindLetters_2 k N w  v2 n (v3 + (1 : Int32)))))))
def f_X6_behindLetters (N : Nat) (w : Mem) (x1 : Int32) (x2 : Int32) : Option (Int32) :=
  (lp_X6_behindLetters_2 (fun (u3_1 : Int32) => (f_X6_behindLetters_24 N w  u3_1 )) N w  x2 N x1)
set_option maxRecDepth 100000 in
set_option maxHeartbeats 4000000 in
theorem c_X6_behindLetters (l : Launch) (D : va_G) (ca : Nat → ClassId) (ad : Nat → Nat → Nat) (PL : List (Nat × Nat)) (Z : State → Prop) (A : Nat → Prop) (hok : okc bX Z A ad PL) (N : Nat) (w : Mem) (x1 : Int32) (x2 : Int32) (r : Int32) (hf : f_X6_behindLetters N w x1 x2 = some r) : CT l yX6_behindLetters (wsy yX6_behindLetters cX6_behindLetters 4 (some .int)) (rmk 1) D ca ad PL Z A [.ref (ad 6 0), .int x1, .int x2] w w (some (.int r)) := by
  refine Met.ofW (cc := cX6_behindLetters) (maxL := 4) (ret := (some .int)) (by decide +kernel) rfl ?_
  intro p e s m args below meth c s₁ B hml hv
  obtain ⟨rfl, hP, hK, hZ⟩ := hv
  have hx := B.exec
  have hb := B.bytes
  have hr := B.returns
  have hlocks := B.notSynchronized
  have hts : ∀ w ∈ ALL, w.before _ s = true := fun w hw => atoms_spec (ws := wsy yX6_behindLetters cX6_behindLetters 4 (some .int)) B.pre w (List.mem_cons_of_mem _ hw)
  have hown : s.vm.findClass RX6 = some m.cls := findClass_of_methodNamed B.named
  have C : CX p s m _ c cX6_behindLetters RX6 4 D ca Z := ⟨hx, hb, hml, hown, hts, hK, hZ⟩
  have hS : va_S A s.heap s.heap [] := va_S.rf
  have hl := lv_entry ([.ref (ad 6 0), .int x1, .int x2]) (n := 4) (Nat.le_of_ble_eq_true rfl)
  rw [lg_entry_eq]
  generalize (lg_sl ([.ref (ad 6 0), .int x1, .int x2]) ++ List.replicate (4 - (lg_sl ([.ref (ad 6 0), .int x1, .int x2])).length) Slot.unset).toArray = ls at hl ⊢
  have hl : lv_has ls 4 [(0, .ref (ad 6 0)), (1, .int x1), (2, .int x2)] := hl
  show W p l e (rmk 1) s m _ below meth c s.heap [] 0 0 _ _
  have P_f_X6_behindLetters_24 : ∀ (v3 : Int32), f_X6_behindLetters_24 N w  v3  = some r → WP p l e (rmk 1) s m [.ref (ad 6 0), .int x1, .int x2].toArray below meth c D ca ad PL A (MQ below (qcR D ca ad PL Z A w (some (.int r))) [.ref (ad 6 0), .int x1, .int x2].toArray s 0 0 A) 4 24 [] [(3, .int v3)] w := by
    intro v3 hf _ _ ls hP hS hl
    unfold f_X6_behindLetters_24 at hf
    refine lv_iload_n hx hb dX6_behindLetters_24 rfl (lv_at hl 0 rfl) ?_
    exact kr_i hok.2.2.1 C hlocks hr rfl hP hS rfl (Option.some.inj hf) dX6_behindLetters_25
  have L_lp_X6_behindLetters_2 : ∀ (v2 : Int32) (k : Int32 → Option (Int32)) (hk : ∀ (v3 : Int32), k v3 = some r → WP p l e (rmk 1) s m [.ref (ad 6 0), .int x1, .int x2].toArray below meth c D ca ad PL A (MQ below (qcR D ca ad PL Z A w (some (.int r))) [.ref (ad 6 0), .int x1, .int x2].toArray s 0 0 A) 4 24 [] [(3, .int v3)] w) (n : Nat) (v3 : Int32), lp_X6_behindLetters_2 k N w  v2 n v3 = some r → WP p l e (rmk 1) s m [.ref (ad 6 0), .int x1, .int x2].toArray below meth c D ca ad PL A (MQ below (qcR D ca ad PL Z A w (some (.int r))) [.ref (ad 6 0), .int x1, .int x2].toArray s 0 0 A) 4 2 [] [(0, .ref (ad 6 0)), (2, .int v2), (3, .int v3)] w := by
    intro v2 k hk n
    induction n with
    | zero => intro v3 hf; rw [lp_X6_behindLetters_2] at hf; cases hf
    | succ n ih =>
      intro v3 hf _ _ ls hP hS hl
      rw [lp_X6_behindLetters_2] at hf
      refine lv_iload_n hx hb dX6_behindLetters_2 rfl (lv_at hl 2 rfl) ?_
      refine lv_iload_n hx hb dX6_behindLetters_3 rfl (lv_at hl 1 rfl) ?_
      refine lv_icmp_ge (tgt := 24) hx hb dX6_behindLetters_4 (by decide) (fun c5 => ?_) (fun c5 => ?_)
      · have hf := ifp hf c5
        exact hk v3 hf _ _ ls hP hS (lv_sub hl [2] rfl)
      · have hf := ifn hf c5
        refine lv_aload_n hx hb dX6_behindLetters_7 rfl (lv_at hl 0 rfl) ?_
        refine lv_iload_n hx hb dX6_behindLetters_8 rfl (lv_at hl 2 rfl) ?_
        obtain ⟨z2, q3, hf⟩ := bsp hf
        refine kc_V (ci := 6) (i := 0) (As := [.int v3]) (rest := []) hok.2.2.1 C hP hS hl.1 (hok.2.1 6 0 (Nat.le_of_ble_eq_true rfl)) rfl rfl cw_X6_isLetter ml_X6_19 (c_X6_isLetter l D ca ad PL Z A hok N w v3 z2 q3) rfl ⟨rfl, rfl⟩ ⟨Nat.le_of_ble_eq_true rfl, Nat.le_of_ble_eq_true rfl⟩ ⟨Nat.zero_le _, Nat.zero_le _⟩ (Nat.le_of_ble_eq_true rfl) rfl dX6_behindLetters_9 (fun H locs hP hS => ?_)
        refine lv_if_ne (tgt := 18) hx hb dX6_behindLetters_12 (by decide) (fun c4 => ?_) (fun c4 => ?_)
        · have hf := ifn hf c4
          refine lv_iinc (v := (v3 + (1 : Int32))) (lv' := [(3, .int (v3 + (1 : Int32))), (0, .ref (ad 6 0)), (2, .int v2)]) hx hb dX6_behindLetters_18 hl (k := 2) rfl rfl (by decide) rfl (fun ls hl => ?_)
          refine lv_goto (tgt := 2) hx hb dX6_behindLetters_21 (by decide) ?_
          exact ih (v3 + (1 : Int32)) hf _ _ ls hP hS (lv_sub hl [1, 2, 0] rfl)
        · have hf := ifp hf c4
          refine lv_goto (tgt := 24) hx hb dX6_behindLetters_15 (by decide) ?_
          exact hk v3 hf _ _ ls hP hS (lv_sub hl [2] rfl)
  unfold f_X6_behindLetters at hf
  -- walk
  refine lv_iload_n hx hb dX6_behindLetters_0 rfl (lv_at hl 1 rfl) ?_
  refine lv_istore_n (lv' := [(3, .int x1), (0, .ref (ad 6 0)), (1, .int x1), (2, .int x2)]) hx hb dX6_behindLetters_1 rfl hl (by decide) rfl (fun ls hl => ?_)
  exact L_lp_X6_behindLetters_2 x2 _ (fun u3_1 hf H locs ls hP hS hl => P_f_X6_behindLetters_24 u3_1 hf _ _ ls hP hS (lv_sub hl [0] rfl)) N x1 hf _ _ ls hP hS (lv_sub hl [1, 3, 0] rfl)
def f_X6_wordNumber_45 (N : Nat) (w : Mem)  (v3 : Int32) : Option (Int32) :=
  some v3
def lp_X6_wordNumber_15 (k : Int32 → Option (Int32)) (N : Nat) (w : Mem)  (v2 : Int32) : Nat → Int32 → Int32 → Option (Int32)
  | 0, _, _ => none
  | n + 1, v3, v4 => (if v2 ≤ v4 then
(k v3)
else
(if inb v4 500 = true then (lp_X6_wordNumber_15 k N w  v2 n ((v3 * (27 : Int32)) + (((gA w 30 0 v4.toNatClampNeg) - (97 : Int32)) + (1 : Int32))) (v4 + (1 : Int32))) else none))
def f_X6_wordNumber (N : Nat) (w : Mem) (x1 : Int32) (x2 : Int32) : Option (Int32) :=
  (if (x2 - x1) ≤ (6 : Int32) then
(lp_X6_wordNumber_15 (fun (u3_1 : Int32) => (f_X6_wordNumber_45 N w  u3_1 )) N w  x2 N (0 : Int32) x1)
else
some (0 : Int32))
set_option maxRecDepth 100000 in
set_option maxHeartbeats 4000000 in
theorem c_X6_wordNumber (l : Launch) (D : va_G) (ca : Nat → ClassId) (ad : Nat → Nat → Nat) (PL : List (Nat × Nat)) (Z : State → Prop) (A : Nat → Prop) (hok : okc bX Z A ad PL) (N : Nat) (w : Mem) (x1 : Int32) (x2 : Int32) (r : Int32) (hf : f_X6_wordNumber N w x1 x2 = some r) : CT l yX6_wordNumber (wsy yX6_wordNumber cX6_wordNumber 5 (some .int)) (rmk 0) D ca ad PL Z A [.ref (ad 6 0), .int x1, .int x2] w w (some (.int r)) := by
  refine Met.ofW (cc := cX6_wordNumber) (maxL := 5) (ret := (some .int)) (by decide +kernel) rfl ?_
  intro p e s m args below meth c s₁ B hml hv
  obtain ⟨rfl, hP, hK, hZ⟩ := hv
  have hx := B.exec
  have hb := B.bytes
  have hr := B.returns
  have hlocks := B.notSynchronized
  have hts : ∀ w ∈ ALL, w.before _ s = true := fun w hw => atoms_spec (ws := wsy yX6_wordNumber cX6_wordNumber 5 (some .int)) B.pre w (List.mem_cons_of_mem _ hw)
  have hown : s.vm.findClass RX6 = some m.cls := findClass_of_methodNamed B.named
  have C : CX p s m _ c cX6_wordNumber RX6 5 D ca Z := ⟨hx, hb, hml, hown, hts, hK, hZ⟩
  have hS : va_S A s.heap s.heap [] := va_S.rf
  have hl := lv_entry ([.ref (ad 6 0), .int x1, .int x2]) (n := 5) (Nat.le_of_ble_eq_true rfl)
  rw [lg_entry_eq]
  generalize (lg_sl ([.ref (ad 6 0), .int x1, .int x2]) ++ List.replicate (5 - (lg_sl ([.ref (ad 6 0), .int x1, .int x2])).length) Slot.unset).toArray = ls at hl ⊢
  have hl : lv_has ls 5 [(0, .ref (ad 6 0)), (1, .int x1), (2, .int x2)] := hl
  show W p l e (rmk 0) s m _ below meth c s.heap [] 0 0 _ _
  have P_f_X6_wordNumber_45 : ∀ (v3 : Int32), f_X6_wordNumber_45 N w  v3  = some r → WP p l e (rmk 0) s m [.ref (ad 6 0), .int x1, .int x2].toArray below meth c D ca ad PL A (MQ below (qcR D ca ad PL Z A w (some (.int r))) [.ref (ad 6 0), .int x1, .int x2].toArray s 0 0 A) 5 45 [] [(3, .int v3)] w := by
    intro v3 hf _ _ ls hP hS hl
    unfold f_X6_wordNumber_45 at hf
    refine lv_iload_n hx hb dX6_wordNumber_45 rfl (lv_at hl 0 rfl) ?_
    exact kr_i hok.2.2.1 C hlocks hr rfl hP hS rfl (Option.some.inj hf) dX6_wordNumber_46
  have L_lp_X6_wordNumber_15 : ∀ (v2 : Int32) (k : Int32 → Option (Int32)) (hk : ∀ (v3 : Int32), k v3 = some r → WP p l e (rmk 0) s m [.ref (ad 6 0), .int x1, .int x2].toArray below meth c D ca ad PL A (MQ below (qcR D ca ad PL Z A w (some (.int r))) [.ref (ad 6 0), .int x1, .int x2].toArray s 0 0 A) 5 45 [] [(3, .int v3)] w) (n : Nat) (v3 : Int32) (v4 : Int32), lp_X6_wordNumber_15 k N w  v2 n v3 v4 = some r → WP p l e (rmk 0) s m [.ref (ad 6 0), .int x1, .int x2].toArray below meth c D ca ad PL A (MQ below (qcR D ca ad PL Z A w (some (.int r))) [.ref (ad 6 0), .int x1, .int x2].toArray s 0 0 A) 5 15 [] [(0, .ref (ad 6 0)), (2, .int v2), (3, .int v3), (4, .int v4)] w := by
    intro v2 k hk n
    induction n with
    | zero => intro v3 v4 hf; rw [lp_X6_wordNumber_15] at hf; cases hf
    | succ n ih =>
      intro v3 v4 hf _ _ ls hP hS hl
      rw [lp_X6_wordNumber_15] at hf
      refine lv_iload hx hb dX6_wordNumber_15 (lv_at hl 3 rfl) ?_
      refine lv_iload_n hx hb dX6_wordNumber_17 rfl (lv_at hl 1 rfl) ?_
      refine lv_icmp_ge (tgt := 45) hx hb dX6_wordNumber_18 (by decide) (fun c3 => ?_) (fun c3 => ?_)
      · have hf := ifp hf c3
        exact hk v3 hf _ _ ls hP hS (lv_sub hl [2] rfl)
      · have hf := ifn hf c3
        refine lv_iload_n hx hb dX6_wordNumber_21 rfl (lv_at hl 2 rfl) ?_
        refine lv_bipush (v := (27 : Int32)) hx hb dX6_wordNumber_22 (by decide) ?_
        refine lv_imul hx hb dX6_wordNumber_24 ?_
        refine lv_aload_n hx hb dX6_wordNumber_25 rfl (lv_at hl 0 rfl) ?_
        refine gt_6_0 (i := 0) C hP (hok.2.1 6 0 (Nat.le_of_ble_eq_true rfl)) lk_X6_9 dX6_wordNumber_26 ?_
        refine lv_iload hx hb dX6_wordNumber_29 (lv_at hl 3 rfl) ?_
        obtain ⟨b2, hf⟩ := gsp hf
        refine ra_bld (k := 30) (i := 0) (n := 500) (f := (gA w 30 0)) C hP (hok.2.1 30 0 (Nat.le_of_ble_eq_true rfl)) rfl b2 dX6_wordNumber_31 ?_
        refine lv_bipush (v := (97 : Int32)) hx hb dX6_wordNumber_32 (by decide) ?_
        refine lv_isub hx hb dX6_wordNumber_34 ?_
        refine lv_iconst (v := (1 : Int32)) hx hb dX6_wordNumber_35 (by decide) ?_
        refine lv_iadd hx hb dX6_wordNumber_36 ?_
        refine lv_iadd hx hb dX6_wordNumber_37 ?_
        refine lv_istore_n (lv' := [(3, .int ((v3 * (27 : Int32)) + (((gA w 30 0 v4.toNatClampNeg) - (97 : Int32)) + (1 : Int32)))), (0, .ref (ad 6 0)), (2, .int v2), (4, .int v4)]) hx hb dX6_wordNumber_38 rfl hl (by decide) rfl (fun ls hl => ?_)
        refine lv_iinc (v := (v4 + (1 : Int32))) (lv' := [(4, .int (v4 + (1 : Int32))), (3, .int ((v3 * (27 : Int32)) + (((gA w 30 0 v4.toNatClampNeg) - (97 : Int32)) + (1 : Int32)))), (0, .ref (ad 6 0)), (2, .int v2)]) hx hb dX6_wordNumber_39 hl (k := 3) rfl rfl (by decide) rfl (fun ls hl => ?_)
        refine lv_goto (tgt := 15) hx hb dX6_wordNumber_42 (by decide) ?_
        exact ih ((v3 * (27 : Int32)) + (((gA w 30 0 v4.toNatClampNeg) - (97 : Int32)) + (1 : Int32))) (v4 + (1 : Int32)) hf _ _ ls hP hS (lv_sub hl [2, 3, 1, 0] rfl)
  unfold f_X6_wordNumber at hf
  -- walk
  refine lv_iload_n hx hb dX6_wordNumber_0 rfl (lv_at hl 2 rfl) ?_
  refine lv_iload_n hx hb dX6_wordNumber_1 rfl (lv_at hl 1 rfl) ?_
  refine lv_isub hx hb dX6_wordNumber_2 ?_
  refine lv_bipush (v := (6 : Int32)) hx hb dX6_wordNumber_3 (by decide) ?_
  refine lv_icmp_le (tgt := 10) hx hb dX6_wordNumber_5 (by decide) (fun c4 => ?_) (fun c4 => ?_)
  · have hf := ifp hf c4
    refine lv_iconst (v := (0 : Int32)) hx hb dX6_wordNumber_10 (by decide) ?_
    refine lv_istore_n (lv' := [(3, .int (0 : Int32)), (0, .ref (ad 6 0)), (1, .int x1), (2, .int x2)]) hx hb dX6_wordNumber_11 rfl hl (by decide) rfl (fun ls hl => ?_)
    refine lv_iload_n hx hb dX6_wordNumber_12 rfl (lv_at hl 2 rfl) ?_
    refine lv_istore (lv' := [(4, .int x1), (3, .int (0 : Int32)), (0, .ref (ad 6 0)), (1, .int x1), (2, .int x2)]) hx hb dX6_wordNumber_13 hl (by decide) rfl (fun ls hl => ?_)
    exact L_lp_X6_wordNumber_15 x2 _ (fun u3_1 hf H locs ls hP hS hl => P_f_X6_wordNumber_45 u3_1 hf _ _ ls hP hS (lv_sub hl [0] rfl)) N (0 : Int32) x1 hf _ _ ls hP hS (lv_sub hl [2, 4, 1, 0] rfl)
  · have hf := ifn hf c4
    refine lv_iconst (v := (0 : Int32)) hx hb dX6_wordNumber_8 (by decide) ?_
    exact kr_i hok.2.2.1 C hlocks hr rfl hP hS rfl (Option.some.inj hf) dX6_wordNumber_9
def f_X6_isDigit (N : Nat) (w : Mem) (x1 : Int32) : Option (Int32) :=
  (if inb x1 500 = true then (if (gA w 30 0 x1.toNatClampNeg) < (48 : Int32) then
some (0 : Int32)
else
(if (57 : Int32) < (gA w 30 0 x1.toNatClampNeg) then
some (0 : Int32)
else
some (1 : Int32))) else none)
set_option maxRecDepth 100000 in
set_option maxHeartbeats 4000000 in
theorem c_X6_isDigit (l : Launch) (D : va_G) (ca : Nat → ClassId) (ad : Nat → Nat → Nat) (PL : List (Nat × Nat)) (Z : State → Prop) (A : Nat → Prop) (hok : okc bX Z A ad PL) (N : Nat) (w : Mem) (x1 : Int32) (r : Int32) (hf : f_X6_isDigit N w x1 = some r) : CT l yX6_isDigit (wsy yX6_isDigit cX6_isDigit 2 (some .boolean)) (rmk 0) D ca ad PL Z A [.ref (ad 6 0), .int x1] w w (some (.int r)) := by
  refine Met.ofW (cc := cX6_isDigit) (maxL := 2) (ret := (some .boolean)) (by decide +kernel) rfl ?_
  intro p e s m args below meth c s₁ B hml hv
  obtain ⟨rfl, hP, hK, hZ⟩ := hv
  have hx := B.exec
  have hb := B.bytes
  have hr := B.returns
  have hlocks := B.notSynchronized
  have hts : ∀ w ∈ ALL, w.before _ s = true := fun w hw => atoms_spec (ws := wsy yX6_isDigit cX6_isDigit 2 (some .boolean)) B.pre w (List.mem_cons_of_mem _ hw)
  have hown : s.vm.findClass RX6 = some m.cls := findClass_of_methodNamed B.named
  have C : CX p s m _ c cX6_isDigit RX6 2 D ca Z := ⟨hx, hb, hml, hown, hts, hK, hZ⟩
  have hS : va_S A s.heap s.heap [] := va_S.rf
  have hl := lv_entry ([.ref (ad 6 0), .int x1]) (n := 2) (Nat.le_of_ble_eq_true rfl)
  rw [lg_entry_eq]
  generalize (lg_sl ([.ref (ad 6 0), .int x1]) ++ List.replicate (2 - (lg_sl ([.ref (ad 6 0), .int x1])).length) Slot.unset).toArray = ls at hl ⊢
  have hl : lv_has ls 2 [(0, .ref (ad 6 0)), (1, .int x1)] := hl
  show W p l e (rmk 0) s m _ below meth c s.heap [] 0 0 _ _
  unfold f_X6_isDigit at hf
  -- walk
  refine lv_aload_n hx hb dX6_isDigit_0 rfl (lv_at hl 0 rfl) ?_
  refine gt_6_0 (i := 0) C hP (hok.2.1 6 0 (Nat.le_of_ble_eq_true rfl)) lk_X6_9 dX6_isDigit_1 ?_
  refine lv_iload_n hx hb dX6_isDigit_4 rfl (lv_at hl 1 rfl) ?_
  obtain ⟨b1, hf⟩ := gsp hf
  refine ra_bld (k := 30) (i := 0) (n := 500) (f := (gA w 30 0)) C hP (hok.2.1 30 0 (Nat.le_of_ble_eq_true rfl)) rfl b1 dX6_isDigit_5 ?_
  refine lv_bipush (v := (48 : Int32)) hx hb dX6_isDigit_6 (by decide) ?_
  refine lv_icmp_lt (tgt := 26) hx hb dX6_isDigit_8 (by decide) (fun c3 => ?_) (fun c3 => ?_)
  · have hf := ifp hf c3
    refine lv_iconst (v := (0 : Int32)) hx hb dX6_isDigit_26 (by decide) ?_
    exact kr_i hok.2.2.1 C hlocks hr rfl hP hS rfl (Option.some.inj hf) dX6_isDigit_27
  · have hf := ifn hf c3
    refine lv_aload_n hx hb dX6_isDigit_11 rfl (lv_at hl 0 rfl) ?_
    refine gt_6_0 (i := 0) C hP (hok.2.1 6 0 (Nat.le_of_ble_eq_true rfl)) lk_X6_9 dX6_isDigit_12 ?_
    refine lv_iload_n hx hb dX6_isDigit_15 rfl (lv_at hl 1 rfl) ?_
    refine ra_bld (k := 30) (i := 0) (n := 500) (f := (gA w 30 0)) C hP (hok.2.1 30 0 (Nat.le_of_ble_eq_true rfl)) rfl b1 dX6_isDigit_16 ?_
    refine lv_bipush (v := (57 : Int32)) hx hb dX6_isDigit_17 (by decide) ?_
    refine lv_icmp_gt (tgt := 26) hx hb dX6_isDigit_19 (by decide) (fun c2 => ?_) (fun c2 => ?_)
    · have hf := ifp hf c2
      refine lv_iconst (v := (0 : Int32)) hx hb dX6_isDigit_26 (by decide) ?_
      exact kr_i hok.2.2.1 C hlocks hr rfl hP hS rfl (Option.some.inj hf) dX6_isDigit_27
    · have hf := ifn hf c2
      refine lv_iconst (v := (1 : Int32)) hx hb dX6_isDigit_22 (by decide) ?_
      refine lv_goto (tgt := 27) hx hb dX6_isDigit_23 (by decide) ?_
      exact kr_i hok.2.2.1 C hlocks hr rfl hP hS rfl (Option.some.inj hf) dX6_isDigit_27
def f_X6_append (N : Nat) (w : Mem) (x1 : Int32) : Option (Mem) :=
  (if ((gF w 6 1 0) + (4 : Int32)) ≤ (500 : Int32) then
(if inb (gF w 6 1 0) 500 = true then (if inb ((gF (sA w 30 0 (gF w 6 1 0).toNatClampNeg (vp_nar .byte ((ushr x1 (24 : Int32)).toInt8.toInt32))) 6 1 0) + (1 : Int32)) 500 = true then (if inb ((gF (sA (sA w 30 0 (gF w 6 1 0).toNatClampNeg (vp_nar .byte ((ushr x1 (24 : Int32)).toInt8.toInt32))) 30 0 ((gF (sA w 30 0 (gF w 6 1 0).toNatClampNeg (vp_nar .byte ((ushr x1 (24 : Int32)).toInt8.toInt32))) 6 1 0) + (1 : Int32)).toNatClampNeg (vp_nar .byte ((ushr x1 (16 : Int32)).toInt8.toInt32))) 6 1 0) + (2 : Int32)) 500 = true then (if inb ((gF (sA (sA (sA w 30 0 (gF w 6 1 0).toNatClampNeg (vp_nar .byte ((ushr x1 (24 : Int32)).toInt8.toInt32))) 30 0 ((gF (sA w 30 0 (gF w 6 1 0).toNatClampNeg (vp_nar .byte ((ushr x1 (24 : Int32)).toInt8.toInt32))) 6 1 0) + (1 : Int32)).toNatClampNeg (vp_nar .byte ((ushr x1 (16 : Int32)).toInt8.toInt32))) 30 0 ((gF (sA (sA w 30 0 (gF w 6 1 0).toNatClampNeg (vp_nar .byte ((ushr x1 (24 : Int32)).toInt8.toInt32))) 30 0 ((gF (sA w 30 0 (gF w 6 1 0).toNatClampNeg (vp_nar .byte ((ushr x1 (24 : Int32)).toInt8.toInt32))) 6 1 0) + (1 : Int32)).toNatClampNeg (vp_nar .byte ((ushr x1 (16 : Int32)).toInt8.toInt32))) 6 1 0) + (2 : Int32)).toNatClampNeg (vp_nar .byte ((ushr x1 (8 : Int32)).toInt8.toInt32))) 6 1 0) + (3 : Int32)) 500 = true then some (sF (sA (sA (sA (sA w 30 0 (gF w 6 1 0).toNatClampNeg (vp_nar .byte ((ushr x1 (24 : Int32)).toInt8.toInt32))) 30 0 ((gF (sA w 30 0 (gF w 6 1 0).toNatClampNeg (vp_nar .byte ((ushr x1 (24 : Int32)).toInt8.toInt32))) 6 1 0) + (1 : Int32)).toNatClampNeg (vp_nar .byte ((ushr x1 (16 : Int32)).toInt8.toInt32))) 30 0 ((gF (sA (sA w 30 0 (gF w 6 1 0).toNatClampNeg (vp_nar .byte ((ushr x1 (24 : Int32)).toInt8.toInt32))) 30 0 ((gF (sA w 30 0 (gF w 6 1 0).toNatClampNeg (vp_nar .byte ((ushr x1 (24 : Int32)).toInt8.toInt32))) 6 1 0) + (1 : Int32)).toNatClampNeg (vp_nar .byte ((ushr x1 (16 : Int32)).toInt8.toInt32))) 6 1 0) + (2 : Int32)).toNatClampNeg (vp_nar .byte ((ushr x1 (8 : Int32)).toInt8.toInt32))) 30 0 ((gF (sA (sA (sA w 30 0 (gF w 6 1 0).toNatClampNeg (vp_nar .byte ((ushr x1 (24 : Int32)).toInt8.toInt32))) 30 0 ((gF (sA w 30 0 (gF w 6 1 0).toNatClampNeg (vp_nar .byte ((ushr x1 (24 : Int32)).toInt8.toInt32))) 6 1 0) + (1 : Int32)).toNatClampNeg (vp_nar .byte ((ushr x1 (16 : Int32)).toInt8.toInt32))) 30 0 ((gF (sA (sA w 30 0 (gF w 6 1 0).toNatClampNeg (vp_nar .byte ((ushr x1 (24 : Int32)).toInt8.toInt32))) 30 0 ((gF (sA w 30 0 (gF w 6 1 0).toNatClampNeg (vp_nar .byte ((ushr x1 (24 : Int32)).toInt8.toInt32))) 6 1 0) + (1 : Int32)).toNatClampNeg (vp_nar .byte ((ushr x1 (16 : Int32)).toInt8.toInt32))) 6 1 0) + (2 : Int32)).toNatClampNeg (vp_nar .byte ((ushr x1 (8 : Int32)).toInt8.toInt32))) 6 1 0) + (3 : Int32)).toNatClampNeg (vp_nar .byte (x1.toInt8.toInt32))) 6 1 0 ((gF (sA (sA (sA (sA w 30 0 (gF w 6 1 0).toNatClampNeg (vp_nar .byte ((ushr x1 (24 : Int32)).toInt8.toInt32))) 30 0 ((gF (sA w 30 0 (gF w 6 1 0).toNatClampNeg (vp_nar .byte ((ushr x1 (24 : Int32)).toInt8.toInt32))) 6 1 0) + (1 : Int32)).toNatClampNeg (vp_nar .byte ((ushr x1 (16 : Int32)).toInt8.toInt32))) 30 0 ((gF (sA (sA w 30 0 (gF w 6 1 0).toNatClampNeg (vp_nar .byte ((ushr x1 (24 : Int32)).toInt8.toInt32))) 30 0 ((gF (sA w 30 0 (gF w 6 1 0).toNatClampNeg (vp_nar .byte ((ushr x1 (24 : Int32)).toInt8.toInt32))) 6 1 0) + (1 : Int32)).toNatClampNeg (vp_nar .byte ((ushr x1 (16 : Int32)).toInt8.toInt32))) 6 1 0) + (2 : Int32)).toNatClampNeg (vp_nar .byte ((ushr x1 (8 : Int32)).toInt8.toInt32))) 30 0 ((gF (sA (sA (sA w 30 0 (gF w 6 1 0).toNatClampNeg (vp_nar .byte ((ushr x1 (24 : Int32)).toInt8.toInt32))) 30 0 ((gF (sA w 30 0 (gF w 6 1 0).toNatClampNeg (vp_nar .byte ((ushr x1 (24 : Int32)).toInt8.toInt32))) 6 1 0) + (1 : Int32)).toNatClampNeg (vp_nar .byte ((ushr x1 (16 : Int32)).toInt8.toInt32))) 30 0 ((gF (sA (sA w 30 0 (gF w 6 1 0).toNatClampNeg (vp_nar .byte ((ushr x1 (24 : Int32)).toInt8.toInt32))) 30 0 ((gF (sA w 30 0 (gF w 6 1 0).toNatClampNeg (vp_nar .byte ((ushr x1 (24 : Int32)).toInt8.toInt32))) 6 1 0) + (1 : Int32)).toNatClampNeg (vp_nar .byte ((ushr x1 (16 : Int32)).toInt8.toInt32))) 6 1 0) + (2 : Int32)).toNatClampNeg (vp_nar .byte ((ushr x1 (8 : Int32)).toInt8.toInt32))) 6 1 0) + (3 : Int32)).toNatClampNeg (vp_nar .byte (x1.toInt8.toInt32))) 6 1 0) + (4 : Int32))) else none) else none) else none) else none)
else
some w)
set_option maxRecDepth 100000 in
set_option maxHeartbeats 4000000 in
theorem c_X6_append (l : Launch) (D : va_G) (ca : Nat → ClassId) (ad : Nat → Nat → Nat) (PL : List (Nat × Nat)) (Z : State → Prop) (A : Nat → Prop) (hok : okc bX Z A ad PL) (N : Nat) (w : Mem) (x1 : Int32) (w' : Mem) (hf : f_X6_append N w x1 = some w') : CT l yX6_append (wsy yX6_append cX6_append 2 none) (rmk 0) D ca ad PL Z A [.ref (ad 6 0), .int x1] w w' none := by
  refine Met.ofW (cc := cX6_append) (maxL := 2) (ret := none) (by decide +kernel) rfl ?_
  intro p e s m args below meth c s₁ B hml hv
  obtain ⟨rfl, hP, hK, hZ⟩ := hv
  have hx := B.exec
  have hb := B.bytes
  have hr := B.returns
  have hlocks := B.notSynchronized
  have hts : ∀ w ∈ ALL, w.before _ s = true := fun w hw => atoms_spec (ws := wsy yX6_append cX6_append 2 none) B.pre w (List.mem_cons_of_mem _ hw)
  have hown : s.vm.findClass RX6 = some m.cls := findClass_of_methodNamed B.named
  have C : CX p s m _ c cX6_append RX6 2 D ca Z := ⟨hx, hb, hml, hown, hts, hK, hZ⟩
  have hS : va_S A s.heap s.heap [] := va_S.rf
  have hl := lv_entry ([.ref (ad 6 0), .int x1]) (n := 2) (Nat.le_of_ble_eq_true rfl)
  rw [lg_entry_eq]
  generalize (lg_sl ([.ref (ad 6 0), .int x1]) ++ List.replicate (2 - (lg_sl ([.ref (ad 6 0), .int x1])).length) Slot.unset).toArray = ls at hl ⊢
  have hl : lv_has ls 2 [(0, .ref (ad 6 0)), (1, .int x1)] := hl
  show W p l e (rmk 0) s m _ below meth c s.heap [] 0 0 _ _
  unfold f_X6_append at hf
  -- walk
  refine lv_aload_n hx hb dX6_append_0 rfl (lv_at hl 0 rfl) ?_
  refine gt_6_1 (i := 0) C hP (hok.2.1 6 0 (Nat.le_of_ble_eq_true rfl)) lk_X6_15 dX6_append_1 ?_
  refine lv_iconst (v := (4 : Int32)) hx hb dX6_append_4 (by decide) ?_
  refine lv_iadd hx hb dX6_append_5 ?_
  refine lv_sipush (v := (500 : Int32)) hx hb dX6_append_6 (by decide) ?_
  refine lv_icmp_le (tgt := 13) hx hb dX6_append_9 (by decide) (fun c5 => ?_) (fun c5 => ?_)
  · have hf := ifp hf c5
    refine lv_aload_n hx hb dX6_append_13 rfl (lv_at hl 0 rfl) ?_
    refine gt_6_0 (i := 0) C hP (hok.2.1 6 0 (Nat.le_of_ble_eq_true rfl)) lk_X6_9 dX6_append_14 ?_
    refine lv_aload_n hx hb dX6_append_17 rfl (lv_at hl 0 rfl) ?_
    refine gt_6_1 (i := 0) C hP (hok.2.1 6 0 (Nat.le_of_ble_eq_true rfl)) lk_X6_15 dX6_append_18 ?_
    refine lv_iload_n hx hb dX6_append_21 rfl (lv_at hl 1 rfl) ?_
    refine lv_bipush (v := (24 : Int32)) hx hb dX6_append_22 (by decide) ?_
    refine lv_iushr (v := (ushr x1 (24 : Int32))) hx hb dX6_append_24 rfl ?_
    refine lv_i2b (v := ((ushr x1 (24 : Int32)).toInt8.toInt32)) hx hb dX6_append_25 rfl ?_
    obtain ⟨b1, hf⟩ := gsp hf
    refine ra_bst (k := 30) (i := 0) (n := 500) C hok.1 hP hS (hok.2.1 30 0 (Nat.le_of_ble_eq_true rfl)) (fun _ => rfl) b1 dX6_append_26 (fun H locs hP hS => ?_)
    refine lv_aload_n hx hb dX6_append_27 rfl (lv_at hl 0 rfl) ?_
    refine gt_6_0 (i := 0) C hP (hok.2.1 6 0 (Nat.le_of_ble_eq_true rfl)) lk_X6_9 dX6_append_28 ?_
    refine lv_aload_n hx hb dX6_append_31 rfl (lv_at hl 0 rfl) ?_
    refine gt_6_1 (i := 0) C hP (hok.2.1 6 0 (Nat.le_of_ble_eq_true rfl)) lk_X6_15 dX6_append_32 ?_
    refine lv_iconst (v := (1 : Int32)) hx hb dX6_append_35 (by decide) ?_
    refine lv_iadd hx hb dX6_append_36 ?_
    refine lv_iload_n hx hb dX6_append_37 rfl (lv_at hl 1 rfl) ?_
    refine lv_bipush (v := (16 : Int32)) hx hb dX6_append_38 (by decide) ?_
    refine lv_iushr (v := (ushr x1 (16 : Int32))) hx hb dX6_append_40 rfl ?_
    refine lv_i2b (v := ((ushr x1 (16 : Int32)).toInt8.toInt32)) hx hb dX6_append_41 rfl ?_
    obtain ⟨b2, hf⟩ := gsp hf
    refine ra_bst (k := 30) (i := 0) (n := 500) C hok.1 hP hS (hok.2.1 30 0 (Nat.le_of_ble_eq_true rfl)) (fun _ => rfl) b2 dX6_append_42 (fun H locs hP hS => ?_)
    refine lv_aload_n hx hb dX6_append_43 rfl (lv_at hl 0 rfl) ?_
    refine gt_6_0 (i := 0) C hP (hok.2.1 6 0 (Nat.le_of_ble_eq_true rfl)) lk_X6_9 dX6_append_44 ?_
    refine lv_aload_n hx hb dX6_append_47 rfl (lv_at hl 0 rfl) ?_
    refine gt_6_1 (i := 0) C hP (hok.2.1 6 0 (Nat.le_of_ble_eq_true rfl)) lk_X6_15 dX6_append_48 ?_
    refine lv_iconst (v := (2 : Int32)) hx hb dX6_append_51 (by decide) ?_
    refine lv_iadd hx hb dX6_append_52 ?_
    refine lv_iload_n hx hb dX6_append_53 rfl (lv_at hl 1 rfl) ?_
    refine lv_bipush (v := (8 : Int32)) hx hb dX6_append_54 (by decide) ?_
    refine lv_iushr (v := (ushr x1 (8 : Int32))) hx hb dX6_append_56 rfl ?_
    refine lv_i2b (v := ((ushr x1 (8 : Int32)).toInt8.toInt32)) hx hb dX6_append_57 rfl ?_
    obtain ⟨b3, hf⟩ := gsp hf
    refine ra_bst (k := 30) (i := 0) (n := 500) C hok.1 hP hS (hok.2.1 30 0 (Nat.le_of_ble_eq_true rfl)) (fun _ => rfl) b3 dX6_append_58 (fun H locs hP hS => ?_)
    refine lv_aload_n hx hb dX6_append_59 rfl (lv_at hl 0 rfl) ?_
    refine gt_6_0 (i := 0) C hP (hok.2.1 6 0 (Nat.le_of_ble_eq_true rfl)) lk_X6_9 dX6_append_60 ?_
    refine lv_aload_n hx hb dX6_append_63 rfl (lv_at hl 0 rfl) ?_
    refine gt_6_1 (i := 0) C hP (hok.2.1 6 0 (Nat.le_of_ble_eq_true rfl)) lk_X6_15 dX6_append_64 ?_
    refine lv_iconst (v := (3 : Int32)) hx hb dX6_append_67 (by decide) ?_
    refine lv_iadd hx hb dX6_append_68 ?_
    refine lv_iload_n hx hb dX6_append_69 rfl (lv_at hl 1 rfl) ?_
    refine lv_i2b (v := (x1.toInt8.toInt32)) hx hb dX6_append_70 rfl ?_
    obtain ⟨b4, hf⟩ := gsp hf
    refine ra_bst (k := 30) (i := 0) (n := 500) C hok.1 hP hS (hok.2.1 30 0 (Nat.le_of_ble_eq_true rfl)) (fun _ => rfl) b4 dX6_append_71 (fun H locs hP hS => ?_)
    refine lv_aload_n hx hb dX6_append_72 rfl (lv_at hl 0 rfl) ?_
    refine lv_dup hx hb dX6_append_73 rfl ?_
    refine gt_6_1 (i := 0) C hP (hok.2.1 6 0 (Nat.le_of_ble_eq_true rfl)) lk_X6_15 dX6_append_74 ?_
    refine lv_iconst (v := (4 : Int32)) hx hb dX6_append_77 (by decide) ?_
    refine lv_iadd hx hb dX6_append_78 ?_
    refine pt_6_1 (i := 0) (v := ((gF (sA (sA (sA (sA w 30 0 (gF w 6 1 0).toNatClampNeg (vp_nar .byte ((ushr x1 (24 : Int32)).toInt8.toInt32))) 30 0 ((gF (sA w 30 0 (gF w 6 1 0).toNatClampNeg (vp_nar .byte ((ushr x1 (24 : Int32)).toInt8.toInt32))) 6 1 0) + (1 : Int32)).toNatClampNeg (vp_nar .byte ((ushr x1 (16 : Int32)).toInt8.toInt32))) 30 0 ((gF (sA (sA w 30 0 (gF w 6 1 0).toNatClampNeg (vp_nar .byte ((ushr x1 (24 : Int32)).toInt8.toInt32))) 30 0 ((gF (sA w 30 0 (gF w 6 1 0).toNatClampNeg (vp_nar .byte ((ushr x1 (24 : Int32)).toInt8.toInt32))) 6 1 0) + (1 : Int32)).toNatClampNeg (vp_nar .byte ((ushr x1 (16 : Int32)).toInt8.toInt32))) 6 1 0) + (2 : Int32)).toNatClampNeg (vp_nar .byte ((ushr x1 (8 : Int32)).toInt8.toInt32))) 30 0 ((gF (sA (sA (sA w 30 0 (gF w 6 1 0).toNatClampNeg (vp_nar .byte ((ushr x1 (24 : Int32)).toInt8.toInt32))) 30 0 ((gF (sA w 30 0 (gF w 6 1 0).toNatClampNeg (vp_nar .byte ((ushr x1 (24 : Int32)).toInt8.toInt32))) 6 1 0) + (1 : Int32)).toNatClampNeg (vp_nar .byte ((ushr x1 (16 : Int32)).toInt8.toInt32))) 30 0 ((gF (sA (sA w 30 0 (gF w 6 1 0).toNatClampNeg (vp_nar .byte ((ushr x1 (24 : Int32)).toInt8.toInt32))) 30 0 ((gF (sA w 30 0 (gF w 6 1 0).toNatClampNeg (vp_nar .byte ((ushr x1 (24 : Int32)).toInt8.toInt32))) 6 1 0) + (1 : Int32)).toNatClampNeg (vp_nar .byte ((ushr x1 (16 : Int32)).toInt8.toInt32))) 6 1 0) + (2 : Int32)).toNatClampNeg (vp_nar .byte ((ushr x1 (8 : Int32)).toInt8.toInt32))) 6 1 0) + (3 : Int32)).toNatClampNeg (vp_nar .byte (x1.toInt8.toInt32))) 6 1 0) + (4 : Int32))) C hok.1 hP hS (hok.2.1 6 0 (Nat.le_of_ble_eq_true rfl)) lk_X6_15 dX6_append_79 (fun H locs hP hS => ?_)
    exact kr_v hok.2.2.1 C hlocks hr hP hS (Option.some.inj hf) dX6_append_82
  · have hf := ifn hf c5
    exact kr_v hok.2.2.1 C hlocks hr hP hS (Option.some.inj hf) dX6_append_12
