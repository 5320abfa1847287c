def f_L_tell_105 (N : Nat) (w : Mem) (b1 : List Int32) : Option (Mem × Int32) :=
  (f_X8_text N w (nI b1.length))
def f_L_tell_70_2 (rc : Mem → Int32 → Option (Mem × Int32)) (k : Mem → Option (Mem × Int32)) (N : Nat) (w : Mem) (b1 : List Int32) (v2 : Int32) : Option (Mem × Int32) :=
  (if inb (0 : Int32) 5 = true then (if inb (1 : Int32) 5 = true then (if inb (2 : Int32) 5 = true then (if inb (3 : Int32) 5 = true then (if inb (4 : Int32) 5 = true then (Option.bind (f_X8_feed N w (gA w 61 0 (0 : Int32).toNatClampNeg) (gA w 61 0 (1 : Int32).toNatClampNeg) (gA w 61 0 (2 : Int32).toNatClampNeg) (gA w 61 0 (3 : Int32).toNatClampNeg) (gA w 61 0 (4 : Int32).toNatClampNeg)) (fun z9 => (if z9.2 = (v2 + (20 : Int32)) then
(rc (sF z9.1 61 1 0 (gF w 61 1 0)) (v2 + (20 : Int32)))
else
some ((sF z9.1 61 1 0 (gF w 61 1 0)), (-9 : Int32))))) else none) else none) else none) else none) else none)
def lp_L_tell_17 (k : Mem → Option (Mem × Int32)) (N : Nat) (b1 : List Int32) (v2 : Int32) : Nat → Mem → Int32 → Option (Mem × Int32)
  | 0, _, _ => none
  | n + 1, w, v4 => (if (20 : Int32) ≤ v4 then
(k w)
else
(if (4 : Int32) = 0 then none else (if (4 : Int32) = 0 then none else (if inb (v4 / (4 : Int32)) 5 = true then (if (nI b1.length) ≤ (v2 + v4) then
(if inb (v4 / (4 : Int32)) 5 = true then (lp_L_tell_17 k N  b1 v2 n (sA w 61 0 (v4 / (4 : Int32)).toNatClampNeg (((gA w 61 0 (v4 / (4 : Int32)).toNatClampNeg) <<< ((8 : Int32) &&& 31)) ||| (32 : Int32))) (v4 + (1 : Int32))) else none)
else
(if inb (v2 + v4) b1.length = true then (if inb (v4 / (4 : Int32)) 5 = true then (lp_L_tell_17 k N  b1 v2 n (sA w 61 0 (v4 / (4 : Int32)).toNatClampNeg (((gA w 61 0 (v4 / (4 : Int32)).toNatClampNeg) <<< ((8 : Int32) &&& 31)) ||| (i2c (b1.getD (v2 + v4).toNatClampNeg 0 &&& 255)))) (v4 + (1 : Int32))) else none) else none)) else none))))
def lp_L_tell_2 (k : Mem → Option (Mem × Int32)) (N : Nat) (b1 : List Int32) : Nat → Mem → Int32 → Option (Mem × Int32)
  | 0, _, _ => none
  | n + 1, w, v2 => (if (nI b1.length) ≤ v2 then
(k w)
else
(if cntW w < 30 then (lp_L_tell_17 (fun (w_3 : Mem) => (f_L_tell_70_2 (fun (w : Mem) (v2 : Int32) => lp_L_tell_2 k N  b1  n w v2) k N w_3 b1 v2 )) N  b1 v2 N (sF (sAf w 61 0 (fun _ => 0)) 61 1 0 (nI (cntW w + 1))) (0 : Int32)) else none))
def f_L_tell (N : Nat) (w : Mem) (b1 : List Int32) : Option (Mem × Int32) :=
  (lp_L_tell_2 (fun (w_1 : Mem) => (f_L_tell_105 N w_1 b1  )) N  b1  N w (0 : Int32))
set_option maxRecDepth 100000 in
set_option maxHeartbeats 16000000 in
theorem tell_walk {p : Program} {l : Launch} {e : Env} {s : State} {m : MethodId} {below : List Frame} {meth : Method} {c : Code} {D : va_G} {ca : Nat → ClassId} {ad : Nat → Nat → Nat} {PL : List (Nat × Nat)} {Z : State → Prop} {A : Nat → Prop} {q1 : Nat} {b1 : List Int32} (hq1 : STRZ A Z q1 b1) (hok : okc bX Z (rW ad PL) ad PL) (hn5 : ∀ p ∈ PL, ¬ p.1 = 5 ∧ ¬ p.1 = 29) (hAr : ∀ x, rW ad PL x → A x) (hz0 : stb A Z) (hnew : ∀ q : Nat, s.heap.size ≤ q → A q) (hPL : ∀ q ∈ PL, q.1 ≠ 61) (C : CX p s m ([.ref (ad 8 0), .ref q1] : List Value).toArray c cL_tell RL 5 D ca Z) (hr : meth.sig.returnType = some .int) (hlocks : meth.locks = false) (N : Nat) (w : Mem) (w' : Mem) (r : Int32) (hf : f_L_tell N w b1 = some (w', r)) : WPT p l e s m ([.ref (ad 8 0), .ref q1] : List Value).toArray below meth c D ca ad PL Z A w' r false 0 (fun _ => []) (fun _ => [(0, .ref (ad 8 0)), (1, .ref q1)]) w := by
  obtain ⟨hx, hb, hml, hown, hts, hK, hZ⟩ := id C
  have P_f_L_tell_105 : ∀ (w : Mem), f_L_tell_105 N w b1   = some (w', r) → WPT p l e s m ([.ref (ad 8 0), .ref q1] : List Value).toArray below meth c D ca ad PL Z A w' r false 105 (fun qw => []) (fun qw => [(0, .ref (ad 8 0)), (1, .ref q1)]) w := by
    intro w hf _ _ ls X qw cells slots hX hD hP hS hl
    unfold f_L_tell_105 at hf
    exact tl_fin hf hq1 hok hn5 hAr hz0 hnew C hr hlocks hX hP hS (lv_sub hl [0, 1] rfl)
  have P_f_L_tell_70_2 : ∀ (rc : Mem → Int32 → Option (Mem × Int32)) (hrc : ∀ (w : Mem) (v2 : Int32), rc w v2 = some (w', r) → WPT p l e s m ([.ref (ad 8 0), .ref q1] : List Value).toArray below meth c D ca ad PL Z A w' r false 2 (fun qw => []) (fun qw => [(0, .ref (ad 8 0)), (1, .ref q1), (2, .int v2)]) w) (k : Mem → Option (Mem × Int32)) (hk : ∀ (w : Mem), k w = some (w', r) → WPT p l e s m ([.ref (ad 8 0), .ref q1] : List Value).toArray below meth c D ca ad PL Z A w' r false 105 (fun qw => []) (fun qw => [(0, .ref (ad 8 0)), (1, .ref q1)]) w) (w : Mem) (v2 : Int32), f_L_tell_70_2 rc k N w b1 v2  = some (w', r) → WPT p l e s m ([.ref (ad 8 0), .ref q1] : List Value).toArray below meth c D ca ad PL Z A w' r true 70 (fun qw => []) (fun qw => [(0, .ref (ad 8 0)), (1, .ref q1), (2, .int v2), (3, .ref qw)]) w := by
    intro rc hrc k hk w v2 hf _ _ ls X qw cells slots hX hD hP hS hl
    unfold f_L_tell_70_2 at hf
    refine lv_aload_n hx hb dL_tell_70 rfl (lv_at hl 0 rfl) ?_
    refine lv_aload_n hx hb dL_tell_71 rfl (lv_at hl 3 rfl) ?_
    refine lv_iconst (v := (0 : Int32)) hx hb dL_tell_72 (by decide) ?_
    obtain ⟨b4, hf⟩ := gsp hf
    refine tl_ild C hX hP b4 dL_tell_73 ?_
    refine lv_aload_n hx hb dL_tell_74 rfl (lv_at hl 3 rfl) ?_
    refine lv_iconst (v := (1 : Int32)) hx hb dL_tell_75 (by decide) ?_
    obtain ⟨b5, hf⟩ := gsp hf
    refine tl_ild C hX hP b5 dL_tell_76 ?_
    refine lv_aload_n hx hb dL_tell_77 rfl (lv_at hl 3 rfl) ?_
    refine lv_iconst (v := (2 : Int32)) hx hb dL_tell_78 (by decide) ?_
    obtain ⟨b6, hf⟩ := gsp hf
    refine tl_ild C hX hP b6 dL_tell_79 ?_
    refine lv_aload_n hx hb dL_tell_80 rfl (lv_at hl 3 rfl) ?_
    refine lv_iconst (v := (3 : Int32)) hx hb dL_tell_81 (by decide) ?_
    obtain ⟨b7, hf⟩ := gsp hf
    refine tl_ild C hX hP b7 dL_tell_82 ?_
    refine lv_aload_n hx hb dL_tell_83 rfl (lv_at hl 3 rfl) ?_
    refine lv_iconst (v := (4 : Int32)) hx hb dL_tell_84 (by decide) ?_
    obtain ⟨b8, hf⟩ := gsp hf
    refine tl_ild C hX hP b8 dL_tell_85 ?_
    obtain ⟨z9, q10, hf⟩ := bsp hf
    refine tx_V (ci := 8) (i := 0) (As := [.int (gA w 61 0 (0 : Int32).toNatClampNeg), .int (gA w 61 0 (1 : Int32).toNatClampNeg), .int (gA w 61 0 (2 : Int32).toNatClampNeg), .int (gA w 61 0 (3 : Int32).toNatClampNeg), .int (gA w 61 0 (4 : Int32).toNatClampNeg)]) (rest := []) hAr hz0 C hD hP hS hl.1 (hok.2.1 8 0 (Nat.le_of_ble_eq_true rfl)) rfl rfl cw_X8_feed ml_L_17 (c_X8_feed l D ca ad PL Z (rW ad PL) hok N w (gA w 61 0 (0 : Int32).toNatClampNeg) (gA w 61 0 (1 : Int32).toNatClampNeg) (gA w 61 0 (2 : Int32).toNatClampNeg) (gA w 61 0 (3 : Int32).toNatClampNeg) (gA w 61 0 (4 : Int32).toNatClampNeg) z9.1 z9.2 q10) rfl ⟨rfl, rfl⟩ ⟨Nat.le_of_ble_eq_true rfl, Nat.le_of_ble_eq_true rfl⟩ hX.room (Nat.le_of_ble_eq_true rfl) rfl dL_tell_86 (fun H locs hD hP hS => ?_)
    have hl := lv_sub hl [0, 1, 2] rfl
    have hl : lv_has ls 5 [(0, .ref (ad 8 0)), (1, .ref q1), (2, .int v2)] := hl
    have hX := hX.fed z9.1 qw
    have hD := tl_afD (v := gF w 61 1 0) hPL hD
    have hP := tl_afP (v := gF w 61 1 0) hPL hP
    refine lv_iload_n hx hb dL_tell_89 rfl (lv_at hl 2 rfl) ?_
    refine lv_bipush (v := (20 : Int32)) hx hb dL_tell_90 (by decide) ?_
    refine lv_iadd hx hb dL_tell_92 ?_
    refine lv_icmp_eq (tgt := 99) hx hb dL_tell_93 (by decide) (fun c11 => ?_) (fun c11 => ?_)
    · have hf := ifp hf c11
      refine lv_iinc (v := (v2 + (20 : Int32))) (lv' := [(2, .int (v2 + (20 : Int32))), (0, .ref (ad 8 0)), (1, .ref q1)]) hx hb dL_tell_99 hl (k := 2) rfl rfl (by decide) rfl (fun ls hl => ?_)
      refine lv_goto (tgt := 2) hx hb dL_tell_102 (by decide) ?_
      exact hrc (sF z9.1 61 1 0 (gF w 61 1 0)) (v2 + (20 : Int32)) hf _ _ ls _ qw _ _ hX hD hP hS (lv_sub hl [1, 2, 0] rfl)
    · have hf := ifn hf c11
      refine lv_bipush (v := (-9 : Int32)) hx hb dL_tell_96 (by decide) ?_
      exact tl_bad (Option.some.inj hf) C hr hlocks hX hP hS hz0 dL_tell_98
  have L_lp_L_tell_17 : ∀ (v2 : Int32) (k : Mem → Option (Mem × Int32)) (hk : ∀ (w : Mem), k w = some (w', r) → WPT p l e s m ([.ref (ad 8 0), .ref q1] : List Value).toArray below meth c D ca ad PL Z A w' r true 70 (fun qw => []) (fun qw => [(0, .ref (ad 8 0)), (1, .ref q1), (2, .int v2), (3, .ref qw)]) w) (n : Nat) (w : Mem) (v4 : Int32), lp_L_tell_17 k N  b1 v2 n w v4 = some (w', r) → WPT p l e s m ([.ref (ad 8 0), .ref q1] : List Value).toArray below meth c D ca ad PL Z A w' r true 17 (fun qw => []) (fun qw => [(0, .ref (ad 8 0)), (1, .ref q1), (2, .int v2), (3, .ref qw), (4, .int v4)]) w := by
    intro v2 k hk n
    induction n with
    | zero => intro w v4 hf; rw [lp_L_tell_17] at hf; cases hf
    | succ n ih =>
      intro w v4 hf _ _ ls X qw cells slots hX hD hP hS hl
      rw [lp_L_tell_17] at hf
      refine lv_iload hx hb dL_tell_17 (lv_at hl 4 rfl) ?_
      refine lv_bipush (v := (20 : Int32)) hx hb dL_tell_19 (by decide) ?_
      refine lv_icmp_ge (tgt := 70) hx hb dL_tell_21 (by decide) (fun c19 => ?_) (fun c19 => ?_)
      · have hf := ifp hf c19
        exact hk w hf _ _ ls _ qw _ _ hX hD hP hS (lv_sub hl [0, 1, 2, 3] rfl)
      · have hf := ifn hf c19
        refine lv_aload_n hx hb dL_tell_24 rfl (lv_at hl 3 rfl) ?_
        refine lv_iload hx hb dL_tell_25 (lv_at hl 4 rfl) ?_
        refine lv_iconst (v := (4 : Int32)) hx hb dL_tell_27 (by decide) ?_
        obtain ⟨b12, hf⟩ := gsn hf
        refine lv_idiv hx hb dL_tell_28 b12 ?_
        refine lv_aload_n hx hb dL_tell_29 rfl (lv_at hl 3 rfl) ?_
        refine lv_iload hx hb dL_tell_30 (lv_at hl 4 rfl) ?_
        refine lv_iconst (v := (4 : Int32)) hx hb dL_tell_32 (by decide) ?_
        obtain ⟨b13, hf⟩ := gsn hf
        refine lv_idiv hx hb dL_tell_33 b13 ?_
        obtain ⟨b14, hf⟩ := gsp hf
        refine tl_ild C hX hP b14 dL_tell_34 ?_
        refine lv_bipush (v := (8 : Int32)) hx hb dL_tell_35 (by decide) ?_
        refine lv_ishl hx hb dL_tell_37 ?_
        refine lv_iload_n hx hb dL_tell_38 rfl (lv_at hl 2 rfl) ?_
        refine lv_iload hx hb dL_tell_39 (lv_at hl 4 rfl) ?_
        refine lv_iadd hx hb dL_tell_41 ?_
        refine lv_aload_n hx hb dL_tell_42 rfl (lv_at hl 1 rfl) ?_
        refine kb_K (w := w0) (As := []) (rest := [.int (v2 + v4), .int ((gA w 61 0 (v4 / (4 : Int32)).toNatClampNeg) <<< ((8 : Int32) &&& 31)), .int (v4 / (4 : Int32)), .ref qw]) hz0 C hP hS hl.1 hq1 cw_J0_length_8abf5 ml_L_7 (c_J0_length_8abf5 l D ca (fun _ _ => 0) [] Z (fun _ => False) (okJ_no hz0) w0 hq1.no) rfl ⟨rfl, rfl⟩ ⟨Nat.le_of_ble_eq_true rfl, Nat.le_of_ble_eq_true rfl⟩ hX.room (Nat.le_of_ble_eq_true rfl) rfl dL_tell_43 (fun H locs hP hS => ?_)
        refine lv_icmp_ge (tgt := 60) hx hb dL_tell_46 (by decide) (fun c18 => ?_) (fun c18 => ?_)
        · have hf := ifp hf c18
          refine lv_bipush (v := (32 : Int32)) hx hb dL_tell_60 (by decide) ?_
          refine lv_ior hx hb dL_tell_62 ?_
          obtain ⟨b15, hf⟩ := gsp hf
          refine tl_ist hPL C hX hD hP hS b15 dL_tell_63 (fun H locs X hX hD hP hS => ?_)
          refine lv_iinc (v := (v4 + (1 : Int32))) (lv' := [(4, .int (v4 + (1 : Int32))), (0, .ref (ad 8 0)), (1, .ref q1), (2, .int v2), (3, .ref qw)]) hx hb dL_tell_64 hl (k := 4) rfl rfl (by decide) rfl (fun ls hl => ?_)
          refine lv_goto (tgt := 17) hx hb dL_tell_67 (by decide) ?_
          exact ih (sA w 61 0 (v4 / (4 : Int32)).toNatClampNeg (((gA w 61 0 (v4 / (4 : Int32)).toNatClampNeg) <<< ((8 : Int32) &&& 31)) ||| (32 : Int32))) (v4 + (1 : Int32)) hf _ _ ls _ qw _ _ hX hD hP hS (lv_sub hl [1, 2, 3, 4, 0] rfl)
        · have hf := ifn hf c18
          refine lv_aload_n hx hb dL_tell_49 rfl (lv_at hl 1 rfl) ?_
          refine lv_iload_n hx hb dL_tell_50 rfl (lv_at hl 2 rfl) ?_
          refine lv_iload hx hb dL_tell_51 (lv_at hl 4 rfl) ?_
          refine lv_iadd hx hb dL_tell_53 ?_
          obtain ⟨b16, hf⟩ := gsp hf
          refine kb_K (w := w0) (As := [.int (v2 + v4)]) (rest := [.int ((gA w 61 0 (v4 / (4 : Int32)).toNatClampNeg) <<< ((8 : Int32) &&& 31)), .int (v4 / (4 : Int32)), .ref qw]) hz0 C hP hS hl.1 hq1 cw_J0_charAt_5068e ml_L_13 (c_J0_charAt_5068e l D ca (fun _ _ => 0) [] Z (fun _ => False) (okJ_no hz0) w0 hq1.no (str_in hq1.1 b16).1 (str_in hq1.1 b16).2 (inb_in b16) (nar_c _)) rfl ⟨rfl, rfl⟩ ⟨Nat.le_of_ble_eq_true rfl, Nat.le_of_ble_eq_true rfl⟩ hX.room (Nat.le_of_ble_eq_true rfl) rfl dL_tell_54 (fun H locs hP hS => ?_)
          refine lv_goto (tgt := 62) hx hb dL_tell_57 (by decide) ?_
          refine lv_ior hx hb dL_tell_62 ?_
          obtain ⟨b17, hf⟩ := gsp hf
          refine tl_ist hPL C hX hD hP hS b17 dL_tell_63 (fun H locs X hX hD hP hS => ?_)
          refine lv_iinc (v := (v4 + (1 : Int32))) (lv' := [(4, .int (v4 + (1 : Int32))), (0, .ref (ad 8 0)), (1, .ref q1), (2, .int v2), (3, .ref qw)]) hx hb dL_tell_64 hl (k := 4) rfl rfl (by decide) rfl (fun ls hl => ?_)
          refine lv_goto (tgt := 17) hx hb dL_tell_67 (by decide) ?_
          exact ih (sA w 61 0 (v4 / (4 : Int32)).toNatClampNeg (((gA w 61 0 (v4 / (4 : Int32)).toNatClampNeg) <<< ((8 : Int32) &&& 31)) ||| (i2c (b1.getD (v2 + v4).toNatClampNeg 0 &&& 255)))) (v4 + (1 : Int32)) hf _ _ ls _ qw _ _ hX hD hP hS (lv_sub hl [1, 2, 3, 4, 0] rfl)
  have L_lp_L_tell_2 : ∀ (k : Mem → Option (Mem × Int32)) (hk : ∀ (w : Mem), k w = some (w', r) → WPT p l e s m ([.ref (ad 8 0), .ref q1] : List Value).toArray below meth c D ca ad PL Z A w' r false 105 (fun qw => []) (fun qw => [(0, .ref (ad 8 0)), (1, .ref q1)]) w) (n : Nat) (w : Mem) (v2 : Int32), lp_L_tell_2 k N  b1  n w v2 = some (w', r) → WPT p l e s m ([.ref (ad 8 0), .ref q1] : List Value).toArray below meth c D ca ad PL Z A w' r false 2 (fun qw => []) (fun qw => [(0, .ref (ad 8 0)), (1, .ref q1), (2, .int v2)]) w := by
    intro k hk n
    induction n with
    | zero => intro w v2 hf; rw [lp_L_tell_2] at hf; cases hf
    | succ n ih =>
      intro w v2 hf _ _ ls X qw cells slots hX hD hP hS hl
      rw [lp_L_tell_2] at hf
      refine lv_iload_n hx hb dL_tell_2 rfl (lv_at hl 2 rfl) ?_
      refine lv_aload_n hx hb dL_tell_3 rfl (lv_at hl 1 rfl) ?_
      refine kb_K (w := w0) (As := []) (rest := [.int v2]) hz0 C hP hS hl.1 hq1 cw_J0_length_8abf5 ml_L_7 (c_J0_length_8abf5 l D ca (fun _ _ => 0) [] Z (fun _ => False) (okJ_no hz0) w0 hq1.no) rfl ⟨rfl, rfl⟩ ⟨Nat.le_of_ble_eq_true rfl, Nat.le_of_ble_eq_true rfl⟩ hX.room (Nat.le_of_ble_eq_true rfl) rfl dL_tell_4 (fun H locs hP hS => ?_)
      refine lv_icmp_ge (tgt := 105) hx hb dL_tell_7 (by decide) (fun c20 => ?_) (fun c20 => ?_)
      · have hf := ifp hf c20
        exact hk w hf _ _ ls _ qw _ _ hX hD hP hS (lv_sub hl [0, 1] rfl)
      · have hf := ifn hf c20
        refine lv_iconst (v := (5 : Int32)) hx hb dL_tell_10 (by decide) ?_
        obtain ⟨b2, hf⟩ := gsp hf
        refine tl_new b2 hPL hnew C hX hD hP hS dL_tell_11 (fun qw H X hX hD hP hS => ?_)
        refine lv_astore_n (lv' := [(3, .ref qw), (0, .ref (ad 8 0)), (1, .ref q1), (2, .int v2)]) hx hb dL_tell_13 rfl hl (by decide) rfl (fun ls hl => ?_)
        refine lv_iconst (v := (0 : Int32)) hx hb dL_tell_14 (by decide) ?_
        refine lv_istore (lv' := [(4, .int (0 : Int32)), (3, .ref qw), (0, .ref (ad 8 0)), (1, .ref q1), (2, .int v2)]) hx hb dL_tell_15 hl (by decide) rfl (fun ls hl => ?_)
        exact L_lp_L_tell_17 v2 _ (fun w_3 hf H locs ls X qw cells slots hX hD hP hS hl => P_f_L_tell_70_2 _ ih _ hk w_3 v2 hf _ _ ls _ qw _ _ hX hD hP hS (lv_sub hl [0, 1, 2, 3] rfl)) N (sF (sAf w 61 0 (fun _ => 0)) 61 1 0 (nI (cntW w + 1))) (0 : Int32) hf _ _ ls _ qw _ _ hX hD hP hS (lv_sub hl [2, 3, 4, 1, 0] rfl)
  unfold f_L_tell at hf
  intro H locs ls X qw cells slots hX hD hP hS hl
  refine lv_iconst (v := (0 : Int32)) hx hb dL_tell_0 (by decide) ?_
  refine lv_istore_n (lv' := [(2, .int (0 : Int32)), (0, .ref (ad 8 0)), (1, .ref q1)]) hx hb dL_tell_1 rfl hl (by decide) rfl (fun ls hl => ?_)
  exact L_lp_L_tell_2 _ (fun w_1 hf H locs ls X qw cells slots hX hD hP hS hl => P_f_L_tell_105 w_1 hf _ _ ls _ qw _ _ hX hD hP hS (lv_sub hl [0, 1] rfl)) N w (0 : Int32) hf _ _ ls _ qw _ _ hX hD hP hS (lv_sub hl [1, 2, 0] rfl)
theorem c_L_tell (l : Launch) (D : va_G) (ca : Nat → ClassId) (ad : Nat → Nat → Nat) (PL : List (Nat × Nat)) (Z : State → Prop) (A : Nat → Prop) {q1 : Nat} {b1 : List Int32} (hq1 : STRZ A Z q1 b1) (hok : okc bX Z (rW ad PL) ad PL) (hn5 : ∀ p ∈ PL, ¬ p.1 = 5 ∧ ¬ p.1 = 29) (hAr : ∀ x, rW ad PL x → A x) (hz0 : stb A Z) (hPL : ∀ q ∈ PL, q.1 ≠ 61) (N : Nat) (w w' : Mem) (r : Int32) (hf : f_L_tell N (sF w 61 1 0 0) b1 = some (w', r)) : Met l yL_tell (wsy yL_tell cL_tell 5 (some .int)) RTL (va_Pc [.ref (ad 8 0), .ref q1] (fun U => RX D ca ad PL Z w U ∧ ∀ q : Nat, U.heap.size ≤ q → A q)) (qcR D ca ad PL Z A w' (some (.int r))) 60 400 A := by
  refine Met.ofW (cc := cL_tell) (maxL := 5) (ret := some .int) (by decide +kernel) rfl ?_
  intro p e s m args below meth c s₁ B hml hv
  obtain ⟨rfl, ⟨hP, hK, hZ⟩, hnew⟩ := hv
  have hx := B.exec
  have hb := B.bytes
  have hr := B.returns
  have hlocks := B.notSynchronized
  have hts : ∀ w ∈ ALL, w.before _ s = true := fun w hw => atoms_spec (ws := wsy yL_tell cL_tell 5 (some .int)) B.pre w (List.mem_cons_of_mem _ hw)
  have hown : s.vm.findClass RL = some m.cls := findClass_of_methodNamed B.named
  have C : CX p s m ([.ref (ad 8 0), .ref q1] : List Value).toArray c cL_tell RL 5 D ca Z := ⟨hx, hb, hml, hown, hts, hK, hZ⟩
  have hS : va_S A s.heap s.heap [] := va_S.rf
  have hl := lv_entry ([.ref (ad 8 0), .ref q1]) (n := 5) (Nat.le_of_ble_eq_true rfl)
  rw [lg_entry_eq]
  generalize (lg_sl ([.ref (ad 8 0), .ref q1]) ++ List.replicate (5 - (lg_sl ([.ref (ad 8 0), .ref q1])).length) Slot.unset).toArray = ls at hl ⊢
  have hl : lv_has ls 5 [(0, .ref (ad 8 0)), (1, .ref q1)] := hl
  show W p l e RTL s m _ below meth c s.heap [] 0 0 _ _
  have hP : va_P D vwCl (wl ad PL (ent ca ad (sF w 61 1 0 0)) ++ []) s.heap := by rw [gh_wl hPL, List.append_nil]; exact hP
  have hD : va_D A (wl ad PL (ent ca ad (sF w 61 1 0 0)) ++ []) := by
    rw [List.append_nil]
    exact (wl_D _ hok.1).weaken (fun i x _ h => hAr _ h)
  have e0 : cntW (sF w 61 1 0 0) = 0 := by unfold cntW; rw [gF_sF, if_pos ⟨rfl, rfl, rfl⟩]; rfl
  exact tell_walk hq1 hok hn5 hAr hz0 hnew hPL C hr hlocks N (sF w 61 1 0 0) w' r hf s.heap [] ls [] 0 0 0 ⟨Or.inr ⟨rfl, rfl⟩, Nat.zero_le _, Nat.zero_le _, by rw [e0]; exact Nat.zero_le _⟩ hD hP hS hl
