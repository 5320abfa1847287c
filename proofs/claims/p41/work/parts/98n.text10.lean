theorem next_len {N : Nat} {sx : Nat × (Nat → Int32)} {w : Mem} {x y : Int32} {z : Mem × Int32} (h : f_X9_next N w sx x y = some z) : lenT z.1 = lenT w := by
  obtain ⟨v, e⟩ := next_mem h
  rw [e]; unfold lenT; rw [gF_sF, if_neg (by omega)]
def f_X10_text_373 (N : Nat) (w : Mem) (sx : Nat × (Nat → Int32)) : Option (Mem) :=
  (if lenT w % 3 = 0 then some w else none)
def f_X10_text_257_21 (rc : Mem → Int32 → Option (Mem)) (k : Mem → Option (Mem)) (N : Nat) (w : Mem) (sx : Nat × (Nat → Int32)) (v3 : Int32) (v4 : Int32) : Option (Mem) :=
  (if v4 ≤ (2 : Int32) then
(rc (sF w 9 5 0 ((gF w 9 5 0) + (1 : Int32))) (v4 + (1 : Int32)))
else
(Option.bind (f_X9_next N (sF w 9 5 0 ((gF w 9 5 0) + (1 : Int32))) sx (0 : Int32) (1 : Int32)) (fun z22 => (if z22.2 = (1 : Int32) then
(Option.bind (f_X9_next N z22.1 sx (0 : Int32) v4) (fun z24 => (if inb (gF z22.1 9 6 0) 12 = true then (Option.bind (f_X9_next N (sA z24.1 43 0 (gF z22.1 9 6 0).toNatClampNeg z24.2) sx (0 : Int32) v4) (fun z27 => (if inb (gF (sA z24.1 43 0 (gF z22.1 9 6 0).toNatClampNeg z24.2) 9 6 0) 12 = true then (if lenT (sA z27.1 44 0 (gF (sA z24.1 43 0 (gF z22.1 9 6 0).toNatClampNeg z24.2) 9 6 0).toNatClampNeg z27.2) + 6 ≤ 480 then (if inb (gF (apS (sA z27.1 44 0 (gF (sA z24.1 43 0 (gF z22.1 9 6 0).toNatClampNeg z24.2) 9 6 0).toNatClampNeg z27.2) [59, 115, 97, 109, 101, 32]) 9 6 0) 12 = true then (Option.bind (f_X10_name N (apS (sA z27.1 44 0 (gF (sA z24.1 43 0 (gF z22.1 9 6 0).toNatClampNeg z24.2) 9 6 0).toNatClampNeg z27.2) [59, 115, 97, 109, 101, 32]) (gA (apS (sA z27.1 44 0 (gF (sA z24.1 43 0 (gF z22.1 9 6 0).toNatClampNeg z24.2) 9 6 0).toNatClampNeg z27.2) [59, 115, 97, 109, 101, 32]) 43 0 (gF (apS (sA z27.1 44 0 (gF (sA z24.1 43 0 (gF z22.1 9 6 0).toNatClampNeg z24.2) 9 6 0).toNatClampNeg z27.2) [59, 115, 97, 109, 101, 32]) 9 6 0).toNatClampNeg)) (fun z32 => (if lenT (apS (sA z27.1 44 0 (gF (sA z24.1 43 0 (gF z22.1 9 6 0).toNatClampNeg z24.2) 9 6 0).toNatClampNeg z27.2) [59, 115, 97, 109, 101, 32]) + 1 ≤ 480 then (if inb z32 128 = true then (if lenT (apC (apS (sA z27.1 44 0 (gF (sA z24.1 43 0 (gF z22.1 9 6 0).toNatClampNeg z24.2) 9 6 0).toNatClampNeg z27.2) [59, 115, 97, 109, 101, 32]) z32) + 1 ≤ 480 then (if inb (32 : Int32) 128 = true then (if inb (gF (apC (apC (apS (sA z27.1 44 0 (gF (sA z24.1 43 0 (gF z22.1 9 6 0).toNatClampNeg z24.2) 9 6 0).toNatClampNeg z27.2) [59, 115, 97, 109, 101, 32]) z32) (32 : Int32)) 9 6 0) 12 = true then (Option.bind (f_X10_name N (apC (apC (apS (sA z27.1 44 0 (gF (sA z24.1 43 0 (gF z22.1 9 6 0).toNatClampNeg z24.2) 9 6 0).toNatClampNeg z27.2) [59, 115, 97, 109, 101, 32]) z32) (32 : Int32)) (gA (apC (apC (apS (sA z27.1 44 0 (gF (sA z24.1 43 0 (gF z22.1 9 6 0).toNatClampNeg z24.2) 9 6 0).toNatClampNeg z27.2) [59, 115, 97, 109, 101, 32]) z32) (32 : Int32)) 44 0 (gF (apC (apC (apS (sA z27.1 44 0 (gF (sA z24.1 43 0 (gF z22.1 9 6 0).toNatClampNeg z24.2) 9 6 0).toNatClampNeg z27.2) [59, 115, 97, 109, 101, 32]) z32) (32 : Int32)) 9 6 0).toNatClampNeg)) (fun z39 => (if lenT (apC (apC (apS (sA z27.1 44 0 (gF (sA z24.1 43 0 (gF z22.1 9 6 0).toNatClampNeg z24.2) 9 6 0).toNatClampNeg z27.2) [59, 115, 97, 109, 101, 32]) z32) (32 : Int32)) + 1 ≤ 480 then (if inb z39 128 = true then (rc (sF (apC (apC (apC (apS (sA z27.1 44 0 (gF (sA z24.1 43 0 (gF z22.1 9 6 0).toNatClampNeg z24.2) 9 6 0).toNatClampNeg z27.2) [59, 115, 97, 109, 101, 32]) z32) (32 : Int32)) z39) 9 6 0 ((gF (apC (apC (apC (apS (sA z27.1 44 0 (gF (sA z24.1 43 0 (gF z22.1 9 6 0).toNatClampNeg z24.2) 9 6 0).toNatClampNeg z27.2) [59, 115, 97, 109, 101, 32]) z32) (32 : Int32)) z39) 9 6 0) + (1 : Int32))) (v4 + (1 : Int32))) else none) else none))) else none) else none) else none) else none) else none))) else none) else none) else none))) else none)))
else
(rc z22.1 (v4 + (1 : Int32)))))))
def f_X10_text_203_21 (rc : Mem → Int32 → Option (Mem)) (k : Mem → Option (Mem)) (N : Nat) (w : Mem) (sx : Nat × (Nat → Int32)) (v3 : Int32) (v4 : Int32) : Option (Mem) :=
  (if inb v4 12 = true then (if (gA w 40 0 v4.toNatClampNeg) = (4 : Int32) then
(if lenT w + 2 ≤ 480 then (if inb v4 12 = true then (Option.bind (f_X10_name N (apS w [32, 40]) (gA (apS w [32, 40]) 41 0 v4.toNatClampNeg)) (fun z47 => (if lenT (apS w [32, 40]) + 1 ≤ 480 then (if inb z47 128 = true then (if lenT (apC (apS w [32, 40]) z47) + 2 ≤ 480 then (if inb v4 12 = true then (Option.bind (f_X10_name N (apS (apC (apS w [32, 40]) z47) [44, 32]) (gA (apS (apC (apS w [32, 40]) z47) [44, 32]) 42 0 v4.toNatClampNeg)) (fun z53 => (if lenT (apS (apC (apS w [32, 40]) z47) [44, 32]) + 1 ≤ 480 then (if inb z53 128 = true then (if lenT (apC (apS (apC (apS w [32, 40]) z47) [44, 32]) z53) + 1 ≤ 480 then (f_X10_text_257_21 rc k N (apS (apC (apS (apC (apS w [32, 40]) z47) [44, 32]) z53) [41]) sx v3 v4 ) else none) else none) else none))) else none) else none) else none) else none))) else none) else none)
else
(f_X10_text_257_21 rc k N w sx v3 v4 )) else none)
def f_X10_text_166_21_s3 (rc : Mem → Int32 → Option (Mem)) (k : Mem → Option (Mem)) (N : Nat) (w : Mem) (sx : Nat × (Nat → Int32)) (v3 : Int32) (v4 : Int32) (s0 : Int32) (s1 : Int32) : Option (Mem) :=
  (if inb s1 12 = true then (if inb v4 12 = true then (if (gA (sA w 42 0 s1.toNatClampNeg s0) 40 0 v4.toNatClampNeg) = (3 : Int32) then
(if lenT (sA w 42 0 s1.toNatClampNeg s0) + 2 ≤ 480 then (if inb v4 12 = true then (Option.bind (f_X10_name N (apS (sA w 42 0 s1.toNatClampNeg s0) [32, 40]) (gA (apS (sA w 42 0 s1.toNatClampNeg s0) [32, 40]) 41 0 v4.toNatClampNeg)) (fun z61 => (if lenT (apS (sA w 42 0 s1.toNatClampNeg s0) [32, 40]) + 1 ≤ 480 then (if inb z61 128 = true then (if lenT (apC (apS (sA w 42 0 s1.toNatClampNeg s0) [32, 40]) z61) + 1 ≤ 480 then (f_X10_text_203_21 rc k N (apS (apC (apS (sA w 42 0 s1.toNatClampNeg s0) [32, 40]) z61) [41]) sx v3 v4 ) else none) else none) else none))) else none) else none)
else
(f_X10_text_203_21 rc k N (sA w 42 0 s1.toNatClampNeg s0) sx v3 v4 )) else none) else none)
def f_X10_text_141_21_s3 (rc : Mem → Int32 → Option (Mem)) (k : Mem → Option (Mem)) (N : Nat) (w : Mem) (sx : Nat × (Nat → Int32)) (v3 : Int32) (v4 : Int32) (s0 : Int32) (s1 : Int32) : Option (Mem) :=
  (if inb s1 12 = true then (if v4 ≤ (0 : Int32) then
(f_X10_text_166_21_s3 rc k N (sA w 41 0 s1.toNatClampNeg s0) sx v3 v4 (0 : Int32) v4)
else
(Option.bind (f_X9_next N (sA w 41 0 s1.toNatClampNeg s0) sx (0 : Int32) (v4 - (1 : Int32))) (fun z67 => (f_X10_text_166_21_s3 rc k N z67.1 sx v3 v4 z67.2 v4)))) else none)
def f_X10_text_112_21_s2 (rc : Mem → Int32 → Option (Mem)) (k : Mem → Option (Mem)) (N : Nat) (w : Mem) (sx : Nat × (Nat → Int32)) (v3 : Int32) (v4 : Int32) (s0 : Int32) : Option (Mem) :=
  (if lenT w + 1 ≤ 480 then (if inb ((i2c s0)) 128 = true then (if v4 ≤ (0 : Int32) then
(f_X10_text_141_21_s3 rc k N (apC w ((i2c s0))) sx v3 v4 (0 : Int32) v4)
else
(Option.bind (f_X9_next N (apC w ((i2c s0))) sx (0 : Int32) (v4 - (1 : Int32))) (fun z70 => (f_X10_text_141_21_s3 rc k N z70.1 sx v3 v4 z70.2 v4)))) else none) else none)
def f_X10_text_50_21_s3 (rc : Mem → Int32 → Option (Mem)) (k : Mem → Option (Mem)) (N : Nat) (w : Mem) (sx : Nat × (Nat → Int32)) (v3 : Int32) (v4 : Int32) (s0 : Int32) (s1 : Int32) : Option (Mem) :=
  (if inb s1 12 = true then (if lenT (sA w 40 0 s1.toNatClampNeg s0) + 6 ≤ 480 then (Option.bind (f_X10_name N (apS (sA w 40 0 s1.toNatClampNeg s0) [59, 116, 101, 114, 109, 32]) v4) (fun z9 => (if lenT (apS (sA w 40 0 s1.toNatClampNeg s0) [59, 116, 101, 114, 109, 32]) + 1 ≤ 480 then (if inb z9 128 = true then (if lenT (apC (apS (sA w 40 0 s1.toNatClampNeg s0) [59, 116, 101, 114, 109, 32]) z9) + 3 ≤ 480 then (if inb v4 12 = true then (if (3 : Int32) ≤ (gA (apS (apC (apS (sA w 40 0 s1.toNatClampNeg s0) [59, 116, 101, 114, 109, 32]) z9) [32, 61, 32]) 40 0 v4.toNatClampNeg) then
(if inb v4 12 = true then (if (gA (apS (apC (apS (sA w 40 0 s1.toNatClampNeg s0) [59, 116, 101, 114, 109, 32]) z9) [32, 61, 32]) 40 0 v4.toNatClampNeg) = (3 : Int32) then
(f_X10_text_112_21_s2 rc k N (apS (apC (apS (sA w 40 0 s1.toNatClampNeg s0) [59, 116, 101, 114, 109, 32]) z9) [32, 61, 32]) sx v3 v4 (102 : Int32))
else
(f_X10_text_112_21_s2 rc k N (apS (apC (apS (sA w 40 0 s1.toNatClampNeg s0) [59, 116, 101, 114, 109, 32]) z9) [32, 61, 32]) sx v3 v4 (103 : Int32))) else none)
else
(if inb v4 12 = true then (f_X10_text_112_21_s2 rc k N (apS (apC (apS (sA w 40 0 s1.toNatClampNeg s0) [59, 116, 101, 114, 109, 32]) z9) [32, 61, 32]) sx v3 v4 ((97 : Int32) + (gA (apS (apC (apS (sA w 40 0 s1.toNatClampNeg s0) [59, 116, 101, 114, 109, 32]) z9) [32, 61, 32]) 40 0 v4.toNatClampNeg))) else none)) else none) else none) else none) else none))) else none) else none)
def lp_X10_text_21 (k : Mem → Option (Mem)) (N : Nat) (sx : Nat × (Nat → Int32)) (v3 : Int32) : Nat → Mem → Int32 → Option (Mem)
  | 0, _, _ => none
  | n + 1, w, v4 => (if v3 ≤ v4 then
(k w)
else
(if (3 : Int32) ≤ v4 then
(Option.bind (f_X9_next N w sx (3 : Int32) (4 : Int32)) (fun z5 => (f_X10_text_50_21_s3 (fun (w : Mem) (v4 : Int32) => lp_X10_text_21 k N  sx v3 n w v4) k N z5.1 sx v3 v4 z5.2 v4)))
else
(f_X10_text_50_21_s3 (fun (w : Mem) (v4 : Int32) => lp_X10_text_21 k N  sx v3 n w v4) k N w sx v3 v4 v4 v4)))
def f_X10_text (N : Nat) (w : Mem) (sx : Nat × (Nat → Int32)) : Option (Mem) :=
  (Option.bind (f_X9_next N w sx (4 : Int32) (9 : Int32)) (fun z1 => (lp_X10_text_21 (fun (w_3 : Mem) => (f_X10_text_373 N w_3 sx  )) N  sx z1.2 N z1.1 (0 : Int32))))
set_option maxRecDepth 100000 in
set_option maxHeartbeats 16000000 in
theorem text_walk {p : Program} {l : Launch} {e : Env} {s : State} {m : MethodId} {below : List Frame} {meth : Method} {c : Code} {D : va_G} {ca : Nat → ClassId} {ad : Nat → Nat → Nat} {PL : List (Nat × Nat)} {Z : State → Prop} {A : Nat → Prop} {sb : Nat} (hok : okc bM Z (rW ad PL) ad PL) (hAr : ∀ x, rW ad PL x → A x) (hz0 : stb A Z) (hnew : ∀ q : Nat, s.heap.size ≤ q → A q) (hPL : ∀ q ∈ PL, q.1 ≠ 60) (hcsz : ∀ U, Z U → CSZ A U) (hT : okTx Z A) (C : CX p s m ([.ref (ad 9 0), .ref (ad 46 0)] : List Value).toArray c cX10_text RX10 5 D ca Z) (hr : meth.sig.returnType = some (.object "java/lang/String")) (hlocks : meth.locks = false) (sx : Nat × (Nat → Int32)) (hsx : SCZ (rW ad PL) Z (ad 47 0) sx) (N : Nat) (w : Mem) (w' : Mem) (hf : f_X10_text N w sx = some w') : WPX p l e s m ([.ref (ad 9 0), .ref (ad 46 0)] : List Value).toArray below meth c D ca ad PL A sb w' 10 [] [(2, .ref sb), (0, .ref (ad 9 0)), (1, .ref (ad 46 0))] w := by
  obtain ⟨hx, hb, hml, hown, hts, hK, hZ⟩ := id C
  obtain ⟨q_41, s_41, r_41⟩ := hT.1
  obtain ⟨q_54, s_54, r_54⟩ := hT.2.1
  obtain ⟨q_56, s_56, r_56⟩ := hT.2.2.1
  obtain ⟨q_58, s_58, r_58⟩ := hT.2.2.2.1
  obtain ⟨q_60, s_60, r_60⟩ := hT.2.2.2.2.1
  obtain ⟨q_69, s_69, r_69⟩ := hT.2.2.2.2.2.1
  have P_f_X10_text_373 : ∀ (w : Mem), f_X10_text_373 N w sx   = some w' → WPX p l e s m [.ref (ad 9 0), .ref (ad 46 0)].toArray below meth c D ca ad PL A sb w' 373 [] [(2, .ref sb)] w := by
    intro w hf _ _ ls X cells slots hX hD hP hS hl
    unfold f_X10_text_373 at hf
    refine lv_aload_n hx hb dX10_text_373 rfl (lv_at hl 0 rfl) ?_
    obtain ⟨b4, hf⟩ := gsp hf
    have e9 := Option.some.inj hf
    subst e9
    exact tx_fin b4 hcsz hAr hz0 hnew C hr hlocks hX hD hP hS hl.1
  have P_f_X10_text_257_21 : ∀ (v3 : Int32) (rc : Mem → Int32 → Option (Mem)) (hrc : ∀ (w : Mem) (v4 : Int32), rc w v4 = some w' → WPX p l e s m [.ref (ad 9 0), .ref (ad 46 0)].toArray below meth c D ca ad PL A sb w' 21 [] [(0, .ref (ad 9 0)), (1, .ref (ad 46 0)), (2, .ref sb), (3, .int v3), (4, .int v4)] w) (k : Mem → Option (Mem)) (hk : ∀ (w : Mem), k w = some w' → WPX p l e s m [.ref (ad 9 0), .ref (ad 46 0)].toArray below meth c D ca ad PL A sb w' 373 [] [(2, .ref sb)] w) (w : Mem) (v4 : Int32), f_X10_text_257_21 rc k N w sx v3 v4  = some w' → WPX p l e s m [.ref (ad 9 0), .ref (ad 46 0)].toArray below meth c D ca ad PL A sb w' 257 [] [(0, .ref (ad 9 0)), (1, .ref (ad 46 0)), (2, .ref sb), (3, .int v3), (4, .int v4)] w := by
    intro v3 rc hrc k hk w v4 hf _ _ ls X cells slots hX hD hP hS hl
    unfold f_X10_text_257_21 at hf
    refine lv_aload_n hx hb dX10_text_257 rfl (lv_at hl 0 rfl) ?_
    refine lv_dup hx hb dX10_text_258 rfl ?_
    refine txg_5 C hP (hok.2.1 9 0 (Nat.le_of_ble_eq_true rfl)) lk_X10_62 dX10_text_259 ?_
    refine lv_iconst (v := (1 : Int32)) hx hb dX10_text_262 (by decide) ?_
    refine lv_iadd hx hb dX10_text_263 ?_
    refine txp_5 C hok.1.1 hD hP hS (hok.2.1 9 0 (Nat.le_of_ble_eq_true rfl)) lk_X10_62 dX10_text_264 (fun H locs hD hP hS => ?_)
    have hX := hX.F (k := 9) (j := 5) (i := 0) (v := ((gF w 9 5 0) + (1 : Int32))) (by decide)
    refine lv_iload hx hb dX10_text_267 (lv_at hl 4 rfl) ?_
    refine lv_iconst (v := (2 : Int32)) hx hb dX10_text_269 (by decide) ?_
    refine lv_icmp_le (tgt := 367) hx hb dX10_text_270 (by decide) (fun c44 => ?_) (fun c44 => ?_)
    · have hf := ifp hf c44
      refine lv_iinc (v := (v4 + (1 : Int32))) (lv' := [(4, .int (v4 + (1 : Int32))), (0, .ref (ad 9 0)), (1, .ref (ad 46 0)), (2, .ref sb), (3, .int v3)]) hx hb dX10_text_367 hl (k := 4) rfl rfl (by decide) rfl (fun ls hl => ?_)
      refine lv_goto (tgt := 21) hx hb dX10_text_370 (by decide) ?_
      exact hrc (sF w 9 5 0 ((gF w 9 5 0) + (1 : Int32))) (v4 + (1 : Int32)) hf _ _ ls _ _ _ hX hD hP hS (lv_sub hl [1, 2, 3, 4, 0] rfl)
    · have hf := ifn hf c44
      refine lv_aload_n hx hb dX10_text_273 rfl (lv_at hl 1 rfl) ?_
      refine lv_iconst (v := (0 : Int32)) hx hb dX10_text_274 (by decide) ?_
      refine lv_iconst (v := (1 : Int32)) hx hb dX10_text_275 (by decide) ?_
      obtain ⟨z22, q23, hf⟩ := bsp hf
      refine tx_V (ci := 46) (i := 0) (As := [.int (0 : Int32), .int (1 : Int32)]) (rest := []) hAr hz0 C hD hP hS hl.1 (hok.2.1 46 0 (Nat.le_of_ble_eq_true rfl)) rfl rfl cw_X9_next ml_X10_35 (c_X9_next l D ca ad PL Z (rW ad PL) hok N (sF w 9 5 0 ((gF w 9 5 0) + (1 : Int32))) sx hsx (0 : Int32) (1 : Int32) z22.1 z22.2 q23) rfl ⟨rfl, rfl⟩ ⟨Nat.le_of_ble_eq_true rfl, Nat.le_of_ble_eq_true rfl⟩ hX.room0 (Nat.le_of_ble_eq_true rfl) rfl dX10_text_276 (fun H locs hD hP hS => ?_)
      have hX := hX.next q23
      refine lv_iconst (v := (1 : Int32)) hx hb dX10_text_279 (by decide) ?_
      refine lv_icmp_ne (tgt := 367) hx hb dX10_text_280 (by decide) (fun c43 => ?_) (fun c43 => ?_)
      · have hf := ifn hf c43
        refine lv_iinc (v := (v4 + (1 : Int32))) (lv' := [(4, .int (v4 + (1 : Int32))), (0, .ref (ad 9 0)), (1, .ref (ad 46 0)), (2, .ref sb), (3, .int v3)]) hx hb dX10_text_367 hl (k := 4) rfl rfl (by decide) rfl (fun ls hl => ?_)
        refine lv_goto (tgt := 21) hx hb dX10_text_370 (by decide) ?_
        exact hrc z22.1 (v4 + (1 : Int32)) hf _ _ ls _ _ _ hX hD hP hS (lv_sub hl [1, 2, 3, 4, 0] rfl)
      · have hf := ifp hf c43
        refine lv_aload_n hx hb dX10_text_283 rfl (lv_at hl 0 rfl) ?_
        refine txg_3 C hP (hok.2.1 9 0 (Nat.le_of_ble_eq_true rfl)) lk_X10_19 dX10_text_284 ?_
        refine lv_aload_n hx hb dX10_text_287 rfl (lv_at hl 0 rfl) ?_
        refine txg_6 C hP (hok.2.1 9 0 (Nat.le_of_ble_eq_true rfl)) lk_X10_66 dX10_text_288 ?_
        refine lv_aload_n hx hb dX10_text_291 rfl (lv_at hl 1 rfl) ?_
        refine lv_iconst (v := (0 : Int32)) hx hb dX10_text_292 (by decide) ?_
        refine lv_iload hx hb dX10_text_293 (lv_at hl 4 rfl) ?_
        obtain ⟨z24, q25, hf⟩ := bsp hf
        refine tx_V (ci := 46) (i := 0) (As := [.int (0 : Int32), .int v4]) (rest := [.int (gF z22.1 9 6 0), .ref (ad 43 0)]) hAr hz0 C hD hP hS hl.1 (hok.2.1 46 0 (Nat.le_of_ble_eq_true rfl)) rfl rfl cw_X9_next ml_X10_35 (c_X9_next l D ca ad PL Z (rW ad PL) hok N z22.1 sx hsx (0 : Int32) v4 z24.1 z24.2 q25) rfl ⟨rfl, rfl⟩ ⟨Nat.le_of_ble_eq_true rfl, Nat.le_of_ble_eq_true rfl⟩ hX.room0 (Nat.le_of_ble_eq_true rfl) rfl dX10_text_295 (fun H locs hD hP hS => ?_)
        have hX := hX.next q25
        obtain ⟨b26, hf⟩ := gsp hf
        refine txs_43 C hok.1.1 hD hP hS (hok.2.1 43 0 (Nat.le_of_ble_eq_true rfl)) b26 dX10_text_298 (fun H locs hD hP hS => ?_)
        have hX := hX.rA (k := 43) (i := 0) (x := (gF z22.1 9 6 0).toNatClampNeg) (v := z24.2) (by decide)
        refine lv_aload_n hx hb dX10_text_299 rfl (lv_at hl 0 rfl) ?_
        refine txg_4 C hP (hok.2.1 9 0 (Nat.le_of_ble_eq_true rfl)) lk_X10_22 dX10_text_300 ?_
        refine lv_aload_n hx hb dX10_text_303 rfl (lv_at hl 0 rfl) ?_
        refine txg_6 C hP (hok.2.1 9 0 (Nat.le_of_ble_eq_true rfl)) lk_X10_66 dX10_text_304 ?_
        refine lv_aload_n hx hb dX10_text_307 rfl (lv_at hl 1 rfl) ?_
        refine lv_iconst (v := (0 : Int32)) hx hb dX10_text_308 (by decide) ?_
        refine lv_iload hx hb dX10_text_309 (lv_at hl 4 rfl) ?_
        obtain ⟨z27, q28, hf⟩ := bsp hf
        refine tx_V (ci := 46) (i := 0) (As := [.int (0 : Int32), .int v4]) (rest := [.int (gF (sA z24.1 43 0 (gF z22.1 9 6 0).toNatClampNeg z24.2) 9 6 0), .ref (ad 44 0)]) hAr hz0 C hD hP hS hl.1 (hok.2.1 46 0 (Nat.le_of_ble_eq_true rfl)) rfl rfl cw_X9_next ml_X10_35 (c_X9_next l D ca ad PL Z (rW ad PL) hok N (sA z24.1 43 0 (gF z22.1 9 6 0).toNatClampNeg z24.2) sx hsx (0 : Int32) v4 z27.1 z27.2 q28) rfl ⟨rfl, rfl⟩ ⟨Nat.le_of_ble_eq_true rfl, Nat.le_of_ble_eq_true rfl⟩ hX.room0 (Nat.le_of_ble_eq_true rfl) rfl dX10_text_311 (fun H locs hD hP hS => ?_)
        have hX := hX.next q28
        obtain ⟨b29, hf⟩ := gsp hf
        refine txs_44 C hok.1.1 hD hP hS (hok.2.1 44 0 (Nat.le_of_ble_eq_true rfl)) b29 dX10_text_314 (fun H locs hD hP hS => ?_)
        have hX := hX.rA (k := 44) (i := 0) (x := (gF (sA z24.1 43 0 (gF z22.1 9 6 0).toNatClampNeg z24.2) 9 6 0).toNatClampNeg) (v := z27.2) (by decide)
        refine lv_aload_n hx hb dX10_text_315 rfl (lv_at hl 2 rfl) ?_
        refine va_ldcS hx hb hown (r_69 s hZ) dX10_text_316 ?_
        obtain ⟨b30, hf⟩ := gsp hf
        refine tx_str (cs := [59, 115, 97, 109, 101, 32]) (rest := []) s_69 rfl (by decide) (by decide) (by decide) (by decide) b30 hPL hAr hz0 hnew C hX.1 hD hP hS hl.1 ml_X10_43 ⟨Nat.le_of_ble_eq_true rfl, Nat.le_of_ble_eq_true rfl⟩ hX.room (Nat.le_of_ble_eq_true rfl) dX10_text_318 (fun X1 H locs hX1 hD hP hS => ?_)
        have hX := hX.cS (cs := [59, 115, 97, 109, 101, 32]) b30 (by decide) hX1
        refine lv_aload_n hx hb dX10_text_321 rfl (lv_at hl 0 rfl) ?_
        refine txg_3 C hP (hok.2.1 9 0 (Nat.le_of_ble_eq_true rfl)) lk_X10_19 dX10_text_322 ?_
        refine lv_aload_n hx hb dX10_text_325 rfl (lv_at hl 0 rfl) ?_
        refine txg_6 C hP (hok.2.1 9 0 (Nat.le_of_ble_eq_true rfl)) lk_X10_66 dX10_text_326 ?_
        obtain ⟨b31, hf⟩ := gsp hf
        refine txi_43 C hP (hok.2.1 43 0 (Nat.le_of_ble_eq_true rfl)) b31 dX10_text_329 ?_
        obtain ⟨z32, q33, hf⟩ := bsp hf
        refine tx_S (As := [.int (gA (apS (sA z27.1 44 0 (gF (sA z24.1 43 0 (gF z22.1 9 6 0).toNatClampNeg z24.2) 9 6 0).toNatClampNeg z27.2) [59, 115, 97, 109, 101, 32]) 43 0 (gF (apS (sA z27.1 44 0 (gF (sA z24.1 43 0 (gF z22.1 9 6 0).toNatClampNeg z24.2) 9 6 0).toNatClampNeg z27.2) [59, 115, 97, 109, 101, 32]) 9 6 0).toNatClampNeg)]) (rest := [.ref sb]) hAr hz0 C hD hP hS hl.1 cw_X10_name ml_X10_47 (c_X10_name l D ca ad PL Z (rW ad PL) hok N (apS (sA z27.1 44 0 (gF (sA z24.1 43 0 (gF z22.1 9 6 0).toNatClampNeg z24.2) 9 6 0).toNatClampNeg z27.2) [59, 115, 97, 109, 101, 32]) (gA (apS (sA z27.1 44 0 (gF (sA z24.1 43 0 (gF z22.1 9 6 0).toNatClampNeg z24.2) 9 6 0).toNatClampNeg z27.2) [59, 115, 97, 109, 101, 32]) 43 0 (gF (apS (sA z27.1 44 0 (gF (sA z24.1 43 0 (gF z22.1 9 6 0).toNatClampNeg z24.2) 9 6 0).toNatClampNeg z27.2) [59, 115, 97, 109, 101, 32]) 9 6 0).toNatClampNeg) z32 q33) rfl ⟨rfl, rfl⟩ ⟨Nat.le_of_ble_eq_true rfl, Nat.le_of_ble_eq_true rfl⟩ hX.room0 (Nat.le_of_ble_eq_true rfl) rfl dX10_text_330 (fun H locs hD hP hS => ?_)
        obtain ⟨b34, hf⟩ := gsp hf
        obtain ⟨b35, hf⟩ := gsp hf
        refine tx_chr (rest := []) b34 b35 hcsz hPL hAr hz0 hnew C hX.1 hD hP hS hl.1 ml_X10_51 ⟨Nat.le_of_ble_eq_true rfl, Nat.le_of_ble_eq_true rfl⟩ hX.room (Nat.le_of_ble_eq_true rfl) dX10_text_333 (fun X1 H locs hX1 hD hP hS => ?_)
        have hX := hX.cC b34 hX1
        refine lv_bipush (v := (32 : Int32)) hx hb dX10_text_336 (by decide) ?_
        obtain ⟨b36, hf⟩ := gsp hf
        obtain ⟨b37, hf⟩ := gsp hf
        refine tx_chr (rest := []) b36 b37 hcsz hPL hAr hz0 hnew C hX.1 hD hP hS hl.1 ml_X10_51 ⟨Nat.le_of_ble_eq_true rfl, Nat.le_of_ble_eq_true rfl⟩ hX.room (Nat.le_of_ble_eq_true rfl) dX10_text_338 (fun X1 H locs hX1 hD hP hS => ?_)
        have hX := hX.cC b36 hX1
        refine lv_aload_n hx hb dX10_text_341 rfl (lv_at hl 0 rfl) ?_
        refine txg_4 C hP (hok.2.1 9 0 (Nat.le_of_ble_eq_true rfl)) lk_X10_22 dX10_text_342 ?_
        refine lv_aload_n hx hb dX10_text_345 rfl (lv_at hl 0 rfl) ?_
        refine txg_6 C hP (hok.2.1 9 0 (Nat.le_of_ble_eq_true rfl)) lk_X10_66 dX10_text_346 ?_
        obtain ⟨b38, hf⟩ := gsp hf
        refine txi_44 C hP (hok.2.1 44 0 (Nat.le_of_ble_eq_true rfl)) b38 dX10_text_349 ?_
        obtain ⟨z39, q40, hf⟩ := bsp hf
        refine tx_S (As := [.int (gA (apC (apC (apS (sA z27.1 44 0 (gF (sA z24.1 43 0 (gF z22.1 9 6 0).toNatClampNeg z24.2) 9 6 0).toNatClampNeg z27.2) [59, 115, 97, 109, 101, 32]) z32) (32 : Int32)) 44 0 (gF (apC (apC (apS (sA z27.1 44 0 (gF (sA z24.1 43 0 (gF z22.1 9 6 0).toNatClampNeg z24.2) 9 6 0).toNatClampNeg z27.2) [59, 115, 97, 109, 101, 32]) z32) (32 : Int32)) 9 6 0).toNatClampNeg)]) (rest := [.ref sb]) hAr hz0 C hD hP hS hl.1 cw_X10_name ml_X10_47 (c_X10_name l D ca ad PL Z (rW ad PL) hok N (apC (apC (apS (sA z27.1 44 0 (gF (sA z24.1 43 0 (gF z22.1 9 6 0).toNatClampNeg z24.2) 9 6 0).toNatClampNeg z27.2) [59, 115, 97, 109, 101, 32]) z32) (32 : Int32)) (gA (apC (apC (apS (sA z27.1 44 0 (gF (sA z24.1 43 0 (gF z22.1 9 6 0).toNatClampNeg z24.2) 9 6 0).toNatClampNeg z27.2) [59, 115, 97, 109, 101, 32]) z32) (32 : Int32)) 44 0 (gF (apC (apC (apS (sA z27.1 44 0 (gF (sA z24.1 43 0 (gF z22.1 9 6 0).toNatClampNeg z24.2) 9 6 0).toNatClampNeg z27.2) [59, 115, 97, 109, 101, 32]) z32) (32 : Int32)) 9 6 0).toNatClampNeg) z39 q40) rfl ⟨rfl, rfl⟩ ⟨Nat.le_of_ble_eq_true rfl, Nat.le_of_ble_eq_true rfl⟩ hX.room0 (Nat.le_of_ble_eq_true rfl) rfl dX10_text_350 (fun H locs hD hP hS => ?_)
        obtain ⟨b41, hf⟩ := gsp hf
        obtain ⟨b42, hf⟩ := gsp hf
        refine tx_chr (rest := []) b41 b42 hcsz hPL hAr hz0 hnew C hX.1 hD hP hS hl.1 ml_X10_51 ⟨Nat.le_of_ble_eq_true rfl, Nat.le_of_ble_eq_true rfl⟩ hX.room (Nat.le_of_ble_eq_true rfl) dX10_text_353 (fun X1 H locs hX1 hD hP hS => ?_)
        have hX := hX.cC b41 hX1
        refine lv_pop hx hb dX10_text_356 rfl ?_
        refine lv_aload_n hx hb dX10_text_357 rfl (lv_at hl 0 rfl) ?_
        refine lv_dup hx hb dX10_text_358 rfl ?_
        refine txg_6 C hP (hok.2.1 9 0 (Nat.le_of_ble_eq_true rfl)) lk_X10_66 dX10_text_359 ?_
        refine lv_iconst (v := (1 : Int32)) hx hb dX10_text_362 (by decide) ?_
        refine lv_iadd hx hb dX10_text_363 ?_
        refine txp_6 C hok.1.1 hD hP hS (hok.2.1 9 0 (Nat.le_of_ble_eq_true rfl)) lk_X10_66 dX10_text_364 (fun H locs hD hP hS => ?_)
        have hX := hX.F (k := 9) (j := 6) (i := 0) (v := ((gF (apC (apC (apC (apS (sA z27.1 44 0 (gF (sA z24.1 43 0 (gF z22.1 9 6 0).toNatClampNeg z24.2) 9 6 0).toNatClampNeg z27.2) [59, 115, 97, 109, 101, 32]) z32) (32 : Int32)) z39) 9 6 0) + (1 : Int32))) (by decide)
        refine lv_iinc (v := (v4 + (1 : Int32))) (lv' := [(4, .int (v4 + (1 : Int32))), (0, .ref (ad 9 0)), (1, .ref (ad 46 0)), (2, .ref sb), (3, .int v3)]) hx hb dX10_text_367 hl (k := 4) rfl rfl (by decide) rfl (fun ls hl => ?_)
        refine lv_goto (tgt := 21) hx hb dX10_text_370 (by decide) ?_
        exact hrc (sF (apC (apC (apC (apS (sA z27.1 44 0 (gF (sA z24.1 43 0 (gF z22.1 9 6 0).toNatClampNeg z24.2) 9 6 0).toNatClampNeg z27.2) [59, 115, 97, 109, 101, 32]) z32) (32 : Int32)) z39) 9 6 0 ((gF (apC (apC (apC (apS (sA z27.1 44 0 (gF (sA z24.1 43 0 (gF z22.1 9 6 0).toNatClampNeg z24.2) 9 6 0).toNatClampNeg z27.2) [59, 115, 97, 109, 101, 32]) z32) (32 : Int32)) z39) 9 6 0) + (1 : Int32))) (v4 + (1 : Int32)) hf _ _ ls _ _ _ hX hD hP hS (lv_sub hl [1, 2, 3, 4, 0] rfl)
  have P_f_X10_text_203_21 : ∀ (v3 : Int32) (rc : Mem → Int32 → Option (Mem)) (hrc : ∀ (w : Mem) (v4 : Int32), rc w v4 = some w' → WPX p l e s m [.ref (ad 9 0), .ref (ad 46 0)].toArray below meth c D ca ad PL A sb w' 21 [] [(0, .ref (ad 9 0)), (1, .ref (ad 46 0)), (2, .ref sb), (3, .int v3), (4, .int v4)] w) (k : Mem → Option (Mem)) (hk : ∀ (w : Mem), k w = some w' → WPX p l e s m [.ref (ad 9 0), .ref (ad 46 0)].toArray below meth c D ca ad PL A sb w' 373 [] [(2, .ref sb)] w) (w : Mem) (v4 : Int32), f_X10_text_203_21 rc k N w sx v3 v4  = some w' → WPX p l e s m [.ref (ad 9 0), .ref (ad 46 0)].toArray below meth c D ca ad PL A sb w' 203 [] [(0, .ref (ad 9 0)), (1, .ref (ad 46 0)), (2, .ref sb), (3, .int v3), (4, .int v4)] w := by
    intro v3 rc hrc k hk w v4 hf _ _ ls X cells slots hX hD hP hS hl
    unfold f_X10_text_203_21 at hf
    refine lv_aload_n hx hb dX10_text_203 rfl (lv_at hl 0 rfl) ?_
    refine txg_0 C hP (hok.2.1 9 0 (Nat.le_of_ble_eq_true rfl)) lk_X10_7 dX10_text_204 ?_
    refine lv_iload hx hb dX10_text_207 (lv_at hl 4 rfl) ?_
    obtain ⟨b21, hf⟩ := gsp hf
    refine txi_40 C hP (hok.2.1 40 0 (Nat.le_of_ble_eq_true rfl)) b21 dX10_text_209 ?_
    refine lv_iconst (v := (4 : Int32)) hx hb dX10_text_210 (by decide) ?_
    refine lv_icmp_ne (tgt := 257) hx hb dX10_text_211 (by decide) (fun c58 => ?_) (fun c58 => ?_)
    · have hf := ifn hf c58
      exact P_f_X10_text_257_21 v3 _ hrc _ hk w v4 hf _ _ ls _ _ _ hX hD hP hS (lv_sub hl [0, 1, 2, 3, 4] rfl)
    · have hf := ifp hf c58
      refine lv_aload_n hx hb dX10_text_214 rfl (lv_at hl 2 rfl) ?_
      refine va_ldcS hx hb hown (r_56 s hZ) dX10_text_215 ?_
      obtain ⟨b45, hf⟩ := gsp hf
      refine tx_str (cs := [32, 40]) (rest := []) s_56 rfl (by decide) (by decide) (by decide) (by decide) b45 hPL hAr hz0 hnew C hX.1 hD hP hS hl.1 ml_X10_43 ⟨Nat.le_of_ble_eq_true rfl, Nat.le_of_ble_eq_true rfl⟩ hX.room (Nat.le_of_ble_eq_true rfl) dX10_text_217 (fun X1 H locs hX1 hD hP hS => ?_)
      have hX := hX.cS (cs := [32, 40]) b45 (by decide) hX1
      refine lv_aload_n hx hb dX10_text_220 rfl (lv_at hl 0 rfl) ?_
      refine txg_1 C hP (hok.2.1 9 0 (Nat.le_of_ble_eq_true rfl)) lk_X10_13 dX10_text_221 ?_
      refine lv_iload hx hb dX10_text_224 (lv_at hl 4 rfl) ?_
      obtain ⟨b46, hf⟩ := gsp hf
      refine txi_41 C hP (hok.2.1 41 0 (Nat.le_of_ble_eq_true rfl)) b46 dX10_text_226 ?_
      obtain ⟨z47, q48, hf⟩ := bsp hf
      refine tx_S (As := [.int (gA (apS w [32, 40]) 41 0 v4.toNatClampNeg)]) (rest := [.ref sb]) hAr hz0 C hD hP hS hl.1 cw_X10_name ml_X10_47 (c_X10_name l D ca ad PL Z (rW ad PL) hok N (apS w [32, 40]) (gA (apS w [32, 40]) 41 0 v4.toNatClampNeg) z47 q48) rfl ⟨rfl, rfl⟩ ⟨Nat.le_of_ble_eq_true rfl, Nat.le_of_ble_eq_true rfl⟩ hX.room0 (Nat.le_of_ble_eq_true rfl) rfl dX10_text_227 (fun H locs hD hP hS => ?_)
      obtain ⟨b49, hf⟩ := gsp hf
      obtain ⟨b50, hf⟩ := gsp hf
      refine tx_chr (rest := []) b49 b50 hcsz hPL hAr hz0 hnew C hX.1 hD hP hS hl.1 ml_X10_51 ⟨Nat.le_of_ble_eq_true rfl, Nat.le_of_ble_eq_true rfl⟩ hX.room (Nat.le_of_ble_eq_true rfl) dX10_text_230 (fun X1 H locs hX1 hD hP hS => ?_)
      have hX := hX.cC b49 hX1
      refine va_ldcS hx hb hown (r_60 s hZ) dX10_text_233 ?_
      obtain ⟨b51, hf⟩ := gsp hf
      refine tx_str (cs := [44, 32]) (rest := []) s_60 rfl (by decide) (by decide) (by decide) (by decide) b51 hPL hAr hz0 hnew C hX.1 hD hP hS hl.1 ml_X10_43 ⟨Nat.le_of_ble_eq_true rfl, Nat.le_of_ble_eq_true rfl⟩ hX.room (Nat.le_of_ble_eq_true rfl) dX10_text_235 (fun X1 H locs hX1 hD hP hS => ?_)
      have hX := hX.cS (cs := [44, 32]) b51 (by decide) hX1
      refine lv_aload_n hx hb dX10_text_238 rfl (lv_at hl 0 rfl) ?_
      refine txg_2 C hP (hok.2.1 9 0 (Nat.le_of_ble_eq_true rfl)) lk_X10_16 dX10_text_239 ?_
      refine lv_iload hx hb dX10_text_242 (lv_at hl 4 rfl) ?_
      obtain ⟨b52, hf⟩ := gsp hf
      refine txi_42 C hP (hok.2.1 42 0 (Nat.le_of_ble_eq_true rfl)) b52 dX10_text_244 ?_
      obtain ⟨z53, q54, hf⟩ := bsp hf
      refine tx_S (As := [.int (gA (apS (apC (apS w [32, 40]) z47) [44, 32]) 42 0 v4.toNatClampNeg)]) (rest := [.ref sb]) hAr hz0 C hD hP hS hl.1 cw_X10_name ml_X10_47 (c_X10_name l D ca ad PL Z (rW ad PL) hok N (apS (apC (apS w [32, 40]) z47) [44, 32]) (gA (apS (apC (apS w [32, 40]) z47) [44, 32]) 42 0 v4.toNatClampNeg) z53 q54) rfl ⟨rfl, rfl⟩ ⟨Nat.le_of_ble_eq_true rfl, Nat.le_of_ble_eq_true rfl⟩ hX.room0 (Nat.le_of_ble_eq_true rfl) rfl dX10_text_245 (fun H locs hD hP hS => ?_)
      obtain ⟨b55, hf⟩ := gsp hf
      obtain ⟨b56, hf⟩ := gsp hf
      refine tx_chr (rest := []) b55 b56 hcsz hPL hAr hz0 hnew C hX.1 hD hP hS hl.1 ml_X10_51 ⟨Nat.le_of_ble_eq_true rfl, Nat.le_of_ble_eq_true rfl⟩ hX.room (Nat.le_of_ble_eq_true rfl) dX10_text_248 (fun X1 H locs hX1 hD hP hS => ?_)
      have hX := hX.cC b55 hX1
      refine va_ldcS hx hb hown (r_58 s hZ) dX10_text_251 ?_
      obtain ⟨b57, hf⟩ := gsp hf
      refine tx_str (cs := [41]) (rest := []) s_58 rfl (by decide) (by decide) (by decide) (by decide) b57 hPL hAr hz0 hnew C hX.1 hD hP hS hl.1 ml_X10_43 ⟨Nat.le_of_ble_eq_true rfl, Nat.le_of_ble_eq_true rfl⟩ hX.room (Nat.le_of_ble_eq_true rfl) dX10_text_253 (fun X1 H locs hX1 hD hP hS => ?_)
      have hX := hX.cS (cs := [41]) b57 (by decide) hX1
      refine lv_pop hx hb dX10_text_256 rfl ?_
      exact P_f_X10_text_257_21 v3 _ hrc _ hk (apS (apC (apS (apC (apS w [32, 40]) z47) [44, 32]) z53) [41]) v4 hf _ _ ls _ _ _ hX hD hP hS (lv_sub hl [0, 1, 2, 3, 4] rfl)
  have P_f_X10_text_166_21_s3 : ∀ (v3 : Int32) (rc : Mem → Int32 → Option (Mem)) (hrc : ∀ (w : Mem) (v4 : Int32), rc w v4 = some w' → WPX p l e s m [.ref (ad 9 0), .ref (ad 46 0)].toArray below meth c D ca ad PL A sb w' 21 [] [(0, .ref (ad 9 0)), (1, .ref (ad 46 0)), (2, .ref sb), (3, .int v3), (4, .int v4)] w) (k : Mem → Option (Mem)) (hk : ∀ (w : Mem), k w = some w' → WPX p l e s m [.ref (ad 9 0), .ref (ad 46 0)].toArray below meth c D ca ad PL A sb w' 373 [] [(2, .ref sb)] w) (w : Mem) (v4 : Int32) (s0 : Int32) (s1 : Int32), f_X10_text_166_21_s3 rc k N w sx v3 v4 s0 s1 = some w' → WPX p l e s m [.ref (ad 9 0), .ref (ad 46 0)].toArray below meth c D ca ad PL A sb w' 166 [.int s0, .int s1, .ref (ad 42 0)] [(0, .ref (ad 9 0)), (1, .ref (ad 46 0)), (2, .ref sb), (3, .int v3), (4, .int v4)] w := by
    intro v3 rc hrc k hk w v4 s0 s1 hf _ _ ls X cells slots hX hD hP hS hl
    unfold f_X10_text_166_21_s3 at hf
    obtain ⟨b19, hf⟩ := gsp hf
    refine txs_42 C hok.1.1 hD hP hS (hok.2.1 42 0 (Nat.le_of_ble_eq_true rfl)) b19 dX10_text_166 (fun H locs hD hP hS => ?_)
    have hX := hX.rA (k := 42) (i := 0) (x := s1.toNatClampNeg) (v := s0) (by decide)
    refine lv_aload_n hx hb dX10_text_167 rfl (lv_at hl 0 rfl) ?_
    refine txg_0 C hP (hok.2.1 9 0 (Nat.le_of_ble_eq_true rfl)) lk_X10_7 dX10_text_168 ?_
    refine lv_iload hx hb dX10_text_171 (lv_at hl 4 rfl) ?_
    obtain ⟨b20, hf⟩ := gsp hf
    refine txi_40 C hP (hok.2.1 40 0 (Nat.le_of_ble_eq_true rfl)) b20 dX10_text_173 ?_
    refine lv_iconst (v := (3 : Int32)) hx hb dX10_text_174 (by decide) ?_
    refine lv_icmp_ne (tgt := 203) hx hb dX10_text_175 (by decide) (fun c66 => ?_) (fun c66 => ?_)
    · have hf := ifn hf c66
      exact P_f_X10_text_203_21 v3 _ hrc _ hk (sA w 42 0 s1.toNatClampNeg s0) v4 hf _ _ ls _ _ _ hX hD hP hS (lv_sub hl [0, 1, 2, 3, 4] rfl)
    · have hf := ifp hf c66
      refine lv_aload_n hx hb dX10_text_178 rfl (lv_at hl 2 rfl) ?_
      refine va_ldcS hx hb hown (r_56 s hZ) dX10_text_179 ?_
      obtain ⟨b59, hf⟩ := gsp hf
      refine tx_str (cs := [32, 40]) (rest := []) s_56 rfl (by decide) (by decide) (by decide) (by decide) b59 hPL hAr hz0 hnew C hX.1 hD hP hS hl.1 ml_X10_43 ⟨Nat.le_of_ble_eq_true rfl, Nat.le_of_ble_eq_true rfl⟩ hX.room (Nat.le_of_ble_eq_true rfl) dX10_text_181 (fun X1 H locs hX1 hD hP hS => ?_)
      have hX := hX.cS (cs := [32, 40]) b59 (by decide) hX1
      refine lv_aload_n hx hb dX10_text_184 rfl (lv_at hl 0 rfl) ?_
      refine txg_1 C hP (hok.2.1 9 0 (Nat.le_of_ble_eq_true rfl)) lk_X10_13 dX10_text_185 ?_
      refine lv_iload hx hb dX10_text_188 (lv_at hl 4 rfl) ?_
      obtain ⟨b60, hf⟩ := gsp hf
      refine txi_41 C hP (hok.2.1 41 0 (Nat.le_of_ble_eq_true rfl)) b60 dX10_text_190 ?_
      obtain ⟨z61, q62, hf⟩ := bsp hf
      refine tx_S (As := [.int (gA (apS (sA w 42 0 s1.toNatClampNeg s0) [32, 40]) 41 0 v4.toNatClampNeg)]) (rest := [.ref sb]) hAr hz0 C hD hP hS hl.1 cw_X10_name ml_X10_47 (c_X10_name l D ca ad PL Z (rW ad PL) hok N (apS (sA w 42 0 s1.toNatClampNeg s0) [32, 40]) (gA (apS (sA w 42 0 s1.toNatClampNeg s0) [32, 40]) 41 0 v4.toNatClampNeg) z61 q62) rfl ⟨rfl, rfl⟩ ⟨Nat.le_of_ble_eq_true rfl, Nat.le_of_ble_eq_true rfl⟩ hX.room0 (Nat.le_of_ble_eq_true rfl) rfl dX10_text_191 (fun H locs hD hP hS => ?_)
      obtain ⟨b63, hf⟩ := gsp hf
      obtain ⟨b64, hf⟩ := gsp hf
      refine tx_chr (rest := []) b63 b64 hcsz hPL hAr hz0 hnew C hX.1 hD hP hS hl.1 ml_X10_51 ⟨Nat.le_of_ble_eq_true rfl, Nat.le_of_ble_eq_true rfl⟩ hX.room (Nat.le_of_ble_eq_true rfl) dX10_text_194 (fun X1 H locs hX1 hD hP hS => ?_)
      have hX := hX.cC b63 hX1
      refine va_ldcS hx hb hown (r_58 s hZ) dX10_text_197 ?_
      obtain ⟨b65, hf⟩ := gsp hf
      refine tx_str (cs := [41]) (rest := []) s_58 rfl (by decide) (by decide) (by decide) (by decide) b65 hPL hAr hz0 hnew C hX.1 hD hP hS hl.1 ml_X10_43 ⟨Nat.le_of_ble_eq_true rfl, Nat.le_of_ble_eq_true rfl⟩ hX.room (Nat.le_of_ble_eq_true rfl) dX10_text_199 (fun X1 H locs hX1 hD hP hS => ?_)
      have hX := hX.cS (cs := [41]) b65 (by decide) hX1
      refine lv_pop hx hb dX10_text_202 rfl ?_
      exact P_f_X10_text_203_21 v3 _ hrc _ hk (apS (apC (apS (sA w 42 0 s1.toNatClampNeg s0) [32, 40]) z61) [41]) v4 hf _ _ ls _ _ _ hX hD hP hS (lv_sub hl [0, 1, 2, 3, 4] rfl)
  have P_f_X10_text_141_21_s3 : ∀ (v3 : Int32) (rc : Mem → Int32 → Option (Mem)) (hrc : ∀ (w : Mem) (v4 : Int32), rc w v4 = some w' → WPX p l e s m [.ref (ad 9 0), .ref (ad 46 0)].toArray below meth c D ca ad PL A sb w' 21 [] [(0, .ref (ad 9 0)), (1, .ref (ad 46 0)), (2, .ref sb), (3, .int v3), (4, .int v4)] w) (k : Mem → Option (Mem)) (hk : ∀ (w : Mem), k w = some w' → WPX p l e s m [.ref (ad 9 0), .ref (ad 46 0)].toArray below meth c D ca ad PL A sb w' 373 [] [(2, .ref sb)] w) (w : Mem) (v4 : Int32) (s0 : Int32) (s1 : Int32), f_X10_text_141_21_s3 rc k N w sx v3 v4 s0 s1 = some w' → WPX p l e s m [.ref (ad 9 0), .ref (ad 46 0)].toArray below meth c D ca ad PL A sb w' 141 [.int s0, .int s1, .ref (ad 41 0)] [(0, .ref (ad 9 0)), (1, .ref (ad 46 0)), (2, .ref sb), (3, .int v3), (4, .int v4)] w := by
    intro v3 rc hrc k hk w v4 s0 s1 hf _ _ ls X cells slots hX hD hP hS hl
    unfold f_X10_text_141_21_s3 at hf
    obtain ⟨b18, hf⟩ := gsp hf
    refine txs_41 C hok.1.1 hD hP hS (hok.2.1 41 0 (Nat.le_of_ble_eq_true rfl)) b18 dX10_text_141 (fun H locs hD hP hS => ?_)
    have hX := hX.rA (k := 41) (i := 0) (x := s1.toNatClampNeg) (v := s0) (by decide)
    refine lv_aload_n hx hb dX10_text_142 rfl (lv_at hl 0 rfl) ?_
    refine txg_2 C hP (hok.2.1 9 0 (Nat.le_of_ble_eq_true rfl)) lk_X10_16 dX10_text_143 ?_
    refine lv_iload hx hb dX10_text_146 (lv_at hl 4 rfl) ?_
    refine lv_iload hx hb dX10_text_148 (lv_at hl 4 rfl) ?_
    refine lv_if_le (tgt := 165) hx hb dX10_text_150 (by decide) (fun c69 => ?_) (fun c69 => ?_)
    · have hf := ifp hf c69
      refine lv_iconst (v := (0 : Int32)) hx hb dX10_text_165 (by decide) ?_
      exact P_f_X10_text_166_21_s3 v3 _ hrc _ hk (sA w 41 0 s1.toNatClampNeg s0) v4 (0 : Int32) v4 hf _ _ ls _ _ _ hX hD hP hS (lv_sub hl [0, 1, 2, 3, 4] rfl)
    · have hf := ifn hf c69
      refine lv_aload_n hx hb dX10_text_153 rfl (lv_at hl 1 rfl) ?_
      refine lv_iconst (v := (0 : Int32)) hx hb dX10_text_154 (by decide) ?_
      refine lv_iload hx hb dX10_text_155 (lv_at hl 4 rfl) ?_
      refine lv_iconst (v := (1 : Int32)) hx hb dX10_text_157 (by decide) ?_
      refine lv_isub hx hb dX10_text_158 ?_
      obtain ⟨z67, q68, hf⟩ := bsp hf
      refine tx_V (ci := 46) (i := 0) (As := [.int (0 : Int32), .int (v4 - (1 : Int32))]) (rest := [.int v4, .ref (ad 42 0)]) hAr hz0 C hD hP hS hl.1 (hok.2.1 46 0 (Nat.le_of_ble_eq_true rfl)) rfl rfl cw_X9_next ml_X10_35 (c_X9_next l D ca ad PL Z (rW ad PL) hok N (sA w 41 0 s1.toNatClampNeg s0) sx hsx (0 : Int32) (v4 - (1 : Int32)) z67.1 z67.2 q68) rfl ⟨rfl, rfl⟩ ⟨Nat.le_of_ble_eq_true rfl, Nat.le_of_ble_eq_true rfl⟩ hX.room0 (Nat.le_of_ble_eq_true rfl) rfl dX10_text_159 (fun H locs hD hP hS => ?_)
      have hX := hX.next q68
      refine lv_goto (tgt := 166) hx hb dX10_text_162 (by decide) ?_
      exact P_f_X10_text_166_21_s3 v3 _ hrc _ hk z67.1 v4 z67.2 v4 hf _ _ ls _ _ _ hX hD hP hS (lv_sub hl [0, 1, 2, 3, 4] rfl)
  have P_f_X10_text_112_21_s2 : ∀ (v3 : Int32) (rc : Mem → Int32 → Option (Mem)) (hrc : ∀ (w : Mem) (v4 : Int32), rc w v4 = some w' → WPX p l e s m [.ref (ad 9 0), .ref (ad 46 0)].toArray below meth c D ca ad PL A sb w' 21 [] [(0, .ref (ad 9 0)), (1, .ref (ad 46 0)), (2, .ref sb), (3, .int v3), (4, .int v4)] w) (k : Mem → Option (Mem)) (hk : ∀ (w : Mem), k w = some w' → WPX p l e s m [.ref (ad 9 0), .ref (ad 46 0)].toArray below meth c D ca ad PL A sb w' 373 [] [(2, .ref sb)] w) (w : Mem) (v4 : Int32) (s0 : Int32), f_X10_text_112_21_s2 rc k N w sx v3 v4 s0 = some w' → WPX p l e s m [.ref (ad 9 0), .ref (ad 46 0)].toArray below meth c D ca ad PL A sb w' 112 [.int s0, .ref sb] [(0, .ref (ad 9 0)), (1, .ref (ad 46 0)), (2, .ref sb), (3, .int v3), (4, .int v4)] w := by
    intro v3 rc hrc k hk w v4 s0 hf _ _ ls X cells slots hX hD hP hS hl
    unfold f_X10_text_112_21_s2 at hf
    refine lv_i2c (v := ((i2c s0))) hx hb dX10_text_112 rfl ?_
    obtain ⟨b16, hf⟩ := gsp hf
    obtain ⟨b17, hf⟩ := gsp hf
    refine tx_chr (rest := []) b16 b17 hcsz hPL hAr hz0 hnew C hX.1 hD hP hS hl.1 ml_X10_51 ⟨Nat.le_of_ble_eq_true rfl, Nat.le_of_ble_eq_true rfl⟩ hX.room (Nat.le_of_ble_eq_true rfl) dX10_text_113 (fun X1 H locs hX1 hD hP hS => ?_)
    have hX := hX.cC b16 hX1
    refine lv_pop hx hb dX10_text_116 rfl ?_
    refine lv_aload_n hx hb dX10_text_117 rfl (lv_at hl 0 rfl) ?_
    refine txg_1 C hP (hok.2.1 9 0 (Nat.le_of_ble_eq_true rfl)) lk_X10_13 dX10_text_118 ?_
    refine lv_iload hx hb dX10_text_121 (lv_at hl 4 rfl) ?_
    refine lv_iload hx hb dX10_text_123 (lv_at hl 4 rfl) ?_
    refine lv_if_le (tgt := 140) hx hb dX10_text_125 (by decide) (fun c72 => ?_) (fun c72 => ?_)
    · have hf := ifp hf c72
      refine lv_iconst (v := (0 : Int32)) hx hb dX10_text_140 (by decide) ?_
      exact P_f_X10_text_141_21_s3 v3 _ hrc _ hk (apC w ((i2c s0))) v4 (0 : Int32) v4 hf _ _ ls _ _ _ hX hD hP hS (lv_sub hl [0, 1, 2, 3, 4] rfl)
    · have hf := ifn hf c72
      refine lv_aload_n hx hb dX10_text_128 rfl (lv_at hl 1 rfl) ?_
      refine lv_iconst (v := (0 : Int32)) hx hb dX10_text_129 (by decide) ?_
      refine lv_iload hx hb dX10_text_130 (lv_at hl 4 rfl) ?_
      refine lv_iconst (v := (1 : Int32)) hx hb dX10_text_132 (by decide) ?_
      refine lv_isub hx hb dX10_text_133 ?_
      obtain ⟨z70, q71, hf⟩ := bsp hf
      refine tx_V (ci := 46) (i := 0) (As := [.int (0 : Int32), .int (v4 - (1 : Int32))]) (rest := [.int v4, .ref (ad 41 0)]) hAr hz0 C hD hP hS hl.1 (hok.2.1 46 0 (Nat.le_of_ble_eq_true rfl)) rfl rfl cw_X9_next ml_X10_35 (c_X9_next l D ca ad PL Z (rW ad PL) hok N (apC w ((i2c s0))) sx hsx (0 : Int32) (v4 - (1 : Int32)) z70.1 z70.2 q71) rfl ⟨rfl, rfl⟩ ⟨Nat.le_of_ble_eq_true rfl, Nat.le_of_ble_eq_true rfl⟩ hX.room0 (Nat.le_of_ble_eq_true rfl) rfl dX10_text_134 (fun H locs hD hP hS => ?_)
      have hX := hX.next q71
      refine lv_goto (tgt := 141) hx hb dX10_text_137 (by decide) ?_
      exact P_f_X10_text_141_21_s3 v3 _ hrc _ hk z70.1 v4 z70.2 v4 hf _ _ ls _ _ _ hX hD hP hS (lv_sub hl [0, 1, 2, 3, 4] rfl)
  have P_f_X10_text_50_21_s3 : ∀ (v3 : Int32) (rc : Mem → Int32 → Option (Mem)) (hrc : ∀ (w : Mem) (v4 : Int32), rc w v4 = some w' → WPX p l e s m [.ref (ad 9 0), .ref (ad 46 0)].toArray below meth c D ca ad PL A sb w' 21 [] [(0, .ref (ad 9 0)), (1, .ref (ad 46 0)), (2, .ref sb), (3, .int v3), (4, .int v4)] w) (k : Mem → Option (Mem)) (hk : ∀ (w : Mem), k w = some w' → WPX p l e s m [.ref (ad 9 0), .ref (ad 46 0)].toArray below meth c D ca ad PL A sb w' 373 [] [(2, .ref sb)] w) (w : Mem) (v4 : Int32) (s0 : Int32) (s1 : Int32), f_X10_text_50_21_s3 rc k N w sx v3 v4 s0 s1 = some w' → WPX p l e s m [.ref (ad 9 0), .ref (ad 46 0)].toArray below meth c D ca ad PL A sb w' 50 [.int s0, .int s1, .ref (ad 40 0)] [(0, .ref (ad 9 0)), (1, .ref (ad 46 0)), (2, .ref sb), (3, .int v3), (4, .int v4)] w := by
    intro v3 rc hrc k hk w v4 s0 s1 hf _ _ ls X cells slots hX hD hP hS hl
    unfold f_X10_text_50_21_s3 at hf
    obtain ⟨b7, hf⟩ := gsp hf
    refine txs_40 C hok.1.1 hD hP hS (hok.2.1 40 0 (Nat.le_of_ble_eq_true rfl)) b7 dX10_text_50 (fun H locs hD hP hS => ?_)
    have hX := hX.rA (k := 40) (i := 0) (x := s1.toNatClampNeg) (v := s0) (by decide)
    refine lv_aload_n hx hb dX10_text_51 rfl (lv_at hl 2 rfl) ?_
    refine va_ldcS hx hb hown (r_41 s hZ) dX10_text_52 ?_
    obtain ⟨b8, hf⟩ := gsp hf
    refine tx_str (cs := [59, 116, 101, 114, 109, 32]) (rest := []) s_41 rfl (by decide) (by decide) (by decide) (by decide) b8 hPL hAr hz0 hnew C hX.1 hD hP hS hl.1 ml_X10_43 ⟨Nat.le_of_ble_eq_true rfl, Nat.le_of_ble_eq_true rfl⟩ hX.room (Nat.le_of_ble_eq_true rfl) dX10_text_54 (fun X1 H locs hX1 hD hP hS => ?_)
    have hX := hX.cS (cs := [59, 116, 101, 114, 109, 32]) b8 (by decide) hX1
    refine lv_iload hx hb dX10_text_57 (lv_at hl 4 rfl) ?_
    obtain ⟨z9, q10, hf⟩ := bsp hf
    refine tx_S (As := [.int v4]) (rest := [.ref sb]) hAr hz0 C hD hP hS hl.1 cw_X10_name ml_X10_47 (c_X10_name l D ca ad PL Z (rW ad PL) hok N (apS (sA w 40 0 s1.toNatClampNeg s0) [59, 116, 101, 114, 109, 32]) v4 z9 q10) rfl ⟨rfl, rfl⟩ ⟨Nat.le_of_ble_eq_true rfl, Nat.le_of_ble_eq_true rfl⟩ hX.room0 (Nat.le_of_ble_eq_true rfl) rfl dX10_text_59 (fun H locs hD hP hS => ?_)
    obtain ⟨b11, hf⟩ := gsp hf
    obtain ⟨b12, hf⟩ := gsp hf
    refine tx_chr (rest := []) b11 b12 hcsz hPL hAr hz0 hnew C hX.1 hD hP hS hl.1 ml_X10_51 ⟨Nat.le_of_ble_eq_true rfl, Nat.le_of_ble_eq_true rfl⟩ hX.room (Nat.le_of_ble_eq_true rfl) dX10_text_62 (fun X1 H locs hX1 hD hP hS => ?_)
    have hX := hX.cC b11 hX1
    refine va_ldcS hx hb hown (r_54 s hZ) dX10_text_65 ?_
    obtain ⟨b13, hf⟩ := gsp hf
    refine tx_str (cs := [32, 61, 32]) (rest := []) s_54 rfl (by decide) (by decide) (by decide) (by decide) b13 hPL hAr hz0 hnew C hX.1 hD hP hS hl.1 ml_X10_43 ⟨Nat.le_of_ble_eq_true rfl, Nat.le_of_ble_eq_true rfl⟩ hX.room (Nat.le_of_ble_eq_true rfl) dX10_text_67 (fun X1 H locs hX1 hD hP hS => ?_)
    have hX := hX.cS (cs := [32, 61, 32]) b13 (by decide) hX1
    refine lv_aload_n hx hb dX10_text_70 rfl (lv_at hl 0 rfl) ?_
    refine txg_0 C hP (hok.2.1 9 0 (Nat.le_of_ble_eq_true rfl)) lk_X10_7 dX10_text_71 ?_
    refine lv_iload hx hb dX10_text_74 (lv_at hl 4 rfl) ?_
    obtain ⟨b14, hf⟩ := gsp hf
    refine txi_40 C hP (hok.2.1 40 0 (Nat.le_of_ble_eq_true rfl)) b14 dX10_text_76 ?_
    refine lv_iconst (v := (3 : Int32)) hx hb dX10_text_77 (by decide) ?_
    refine lv_icmp_ge (tgt := 94) hx hb dX10_text_78 (by decide) (fun c75 => ?_) (fun c75 => ?_)
    · have hf := ifp hf c75
      refine lv_aload_n hx hb dX10_text_94 rfl (lv_at hl 0 rfl) ?_
      refine txg_0 C hP (hok.2.1 9 0 (Nat.le_of_ble_eq_true rfl)) lk_X10_7 dX10_text_95 ?_
      refine lv_iload hx hb dX10_text_98 (lv_at hl 4 rfl) ?_
      obtain ⟨b15, hf⟩ := gsp hf
      refine txi_40 C hP (hok.2.1 40 0 (Nat.le_of_ble_eq_true rfl)) b15 dX10_text_100 ?_
      refine lv_iconst (v := (3 : Int32)) hx hb dX10_text_101 (by decide) ?_
      refine lv_icmp_ne (tgt := 110) hx hb dX10_text_102 (by decide) (fun c73 => ?_) (fun c73 => ?_)
      · have hf := ifn hf c73
        refine lv_bipush (v := (103 : Int32)) hx hb dX10_text_110 (by decide) ?_
        exact P_f_X10_text_112_21_s2 v3 _ hrc _ hk (apS (apC (apS (sA w 40 0 s1.toNatClampNeg s0) [59, 116, 101, 114, 109, 32]) z9) [32, 61, 32]) v4 (103 : Int32) hf _ _ ls _ _ _ hX hD hP hS (lv_sub hl [0, 1, 2, 3, 4] rfl)
      · have hf := ifp hf c73
        refine lv_bipush (v := (102 : Int32)) hx hb dX10_text_105 (by decide) ?_
        refine lv_goto (tgt := 112) hx hb dX10_text_107 (by decide) ?_
        exact P_f_X10_text_112_21_s2 v3 _ hrc _ hk (apS (apC (apS (sA w 40 0 s1.toNatClampNeg s0) [59, 116, 101, 114, 109, 32]) z9) [32, 61, 32]) v4 (102 : Int32) hf _ _ ls _ _ _ hX hD hP hS (lv_sub hl [0, 1, 2, 3, 4] rfl)
    · have hf := ifn hf c75
      refine lv_bipush (v := (97 : Int32)) hx hb dX10_text_81 (by decide) ?_
      refine lv_aload_n hx hb dX10_text_83 rfl (lv_at hl 0 rfl) ?_
      refine txg_0 C hP (hok.2.1 9 0 (Nat.le_of_ble_eq_true rfl)) lk_X10_7 dX10_text_84 ?_
      refine lv_iload hx hb dX10_text_87 (lv_at hl 4 rfl) ?_
      obtain ⟨b74, hf⟩ := gsp hf
      refine txi_40 C hP (hok.2.1 40 0 (Nat.le_of_ble_eq_true rfl)) b74 dX10_text_89 ?_
      refine lv_iadd hx hb dX10_text_90 ?_
      refine lv_goto (tgt := 112) hx hb dX10_text_91 (by decide) ?_
      exact P_f_X10_text_112_21_s2 v3 _ hrc _ hk (apS (apC (apS (sA w 40 0 s1.toNatClampNeg s0) [59, 116, 101, 114, 109, 32]) z9) [32, 61, 32]) v4 ((97 : Int32) + (gA (apS (apC (apS (sA w 40 0 s1.toNatClampNeg s0) [59, 116, 101, 114, 109, 32]) z9) [32, 61, 32]) 40 0 v4.toNatClampNeg)) hf _ _ ls _ _ _ hX hD hP hS (lv_sub hl [0, 1, 2, 3, 4] rfl)
  have L_lp_X10_text_21 : ∀ (v3 : Int32) (k : Mem → Option (Mem)) (hk : ∀ (w : Mem), k w = some w' → WPX p l e s m [.ref (ad 9 0), .ref (ad 46 0)].toArray below meth c D ca ad PL A sb w' 373 [] [(2, .ref sb)] w) (n : Nat) (w : Mem) (v4 : Int32), lp_X10_text_21 k N  sx v3 n w v4 = some w' → WPX p l e s m [.ref (ad 9 0), .ref (ad 46 0)].toArray below meth c D ca ad PL A sb w' 21 [] [(0, .ref (ad 9 0)), (1, .ref (ad 46 0)), (2, .ref sb), (3, .int v3), (4, .int v4)] w := by
    intro v3 k hk n
    induction n with
    | zero => intro w v4 hf; rw [lp_X10_text_21] at hf; cases hf
    | succ n ih =>
      intro w v4 hf _ _ ls X cells slots hX hD hP hS hl
      rw [lp_X10_text_21] at hf
      refine lv_iload hx hb dX10_text_21 (lv_at hl 4 rfl) ?_
      refine lv_iload_n hx hb dX10_text_23 rfl (lv_at hl 3 rfl) ?_
      refine lv_icmp_ge (tgt := 373) hx hb dX10_text_24 (by decide) (fun c77 => ?_) (fun c77 => ?_)
      · have hf := ifp hf c77
        exact hk w hf _ _ ls _ _ _ hX hD hP hS (lv_sub hl [2] rfl)
      · have hf := ifn hf c77
        refine lv_aload_n hx hb dX10_text_27 rfl (lv_at hl 0 rfl) ?_
        refine txg_0 C hP (hok.2.1 9 0 (Nat.le_of_ble_eq_true rfl)) lk_X10_7 dX10_text_28 ?_
        refine lv_iload hx hb dX10_text_31 (lv_at hl 4 rfl) ?_
        refine lv_iload hx hb dX10_text_33 (lv_at hl 4 rfl) ?_
        refine lv_iconst (v := (3 : Int32)) hx hb dX10_text_35 (by decide) ?_
        refine lv_icmp_ge (tgt := 44) hx hb dX10_text_36 (by decide) (fun c76 => ?_) (fun c76 => ?_)
        · have hf := ifp hf c76
          refine lv_aload_n hx hb dX10_text_44 rfl (lv_at hl 1 rfl) ?_
          refine lv_iconst (v := (3 : Int32)) hx hb dX10_text_45 (by decide) ?_
          refine lv_iconst (v := (4 : Int32)) hx hb dX10_text_46 (by decide) ?_
          obtain ⟨z5, q6, hf⟩ := bsp hf
          refine tx_V (ci := 46) (i := 0) (As := [.int (3 : Int32), .int (4 : Int32)]) (rest := [.int v4, .ref (ad 40 0)]) hAr hz0 C hD hP hS hl.1 (hok.2.1 46 0 (Nat.le_of_ble_eq_true rfl)) rfl rfl cw_X9_next ml_X10_35 (c_X9_next l D ca ad PL Z (rW ad PL) hok N w sx hsx (3 : Int32) (4 : Int32) z5.1 z5.2 q6) rfl ⟨rfl, rfl⟩ ⟨Nat.le_of_ble_eq_true rfl, Nat.le_of_ble_eq_true rfl⟩ hX.room0 (Nat.le_of_ble_eq_true rfl) rfl dX10_text_47 (fun H locs hD hP hS => ?_)
          have hX := hX.next q6
          exact P_f_X10_text_50_21_s3 v3 _ ih _ hk z5.1 v4 z5.2 v4 hf _ _ ls _ _ _ hX hD hP hS (lv_sub hl [0, 1, 2, 3, 4] rfl)
        · have hf := ifn hf c76
          refine lv_iload hx hb dX10_text_39 (lv_at hl 4 rfl) ?_
          refine lv_goto (tgt := 50) hx hb dX10_text_41 (by decide) ?_
          exact P_f_X10_text_50_21_s3 v3 _ ih _ hk w v4 v4 v4 hf _ _ ls _ _ _ hX hD hP hS (lv_sub hl [0, 1, 2, 3, 4] rfl)
  unfold f_X10_text at hf
  intro H locs ls X cells slots hX hD hP hS hl
  refine lv_aload_n hx hb dX10_text_10 rfl (lv_at hl 2 rfl) ?_
  refine lv_iconst (v := (4 : Int32)) hx hb dX10_text_11 (by decide) ?_
  refine lv_bipush (v := (9 : Int32)) hx hb dX10_text_12 (by decide) ?_
  obtain ⟨z1, q2, hf⟩ := bsp hf
  refine tx_V (ci := 46) (i := 0) (As := [.int (4 : Int32), .int (9 : Int32)]) (rest := []) hAr hz0 C hD hP hS hl.1 (hok.2.1 46 0 (Nat.le_of_ble_eq_true rfl)) rfl rfl cw_X9_next ml_X10_35 (c_X9_next l D ca ad PL Z (rW ad PL) hok N w sx hsx (4 : Int32) (9 : Int32) z1.1 z1.2 q2) rfl ⟨rfl, rfl⟩ ⟨Nat.le_of_ble_eq_true rfl, Nat.le_of_ble_eq_true rfl⟩ hX.room0 (Nat.le_of_ble_eq_true rfl) rfl dX10_text_14 (fun H locs hD hP hS => ?_)
  have hX := hX.next q2
  refine lv_istore_n (lv' := [(3, .int z1.2), (2, .ref sb), (0, .ref (ad 9 0)), (1, .ref (ad 46 0))]) hx hb dX10_text_17 rfl hl (by decide) rfl (fun ls hl => ?_)
  refine lv_iconst (v := (0 : Int32)) hx hb dX10_text_18 (by decide) ?_
  refine lv_istore (lv' := [(4, .int (0 : Int32)), (3, .int z1.2), (2, .ref sb), (0, .ref (ad 9 0)), (1, .ref (ad 46 0))]) hx hb dX10_text_19 hl (by decide) rfl (fun ls hl => ?_)
  exact L_lp_X10_text_21 z1.2 _ (fun w_3 hf H locs ls X cells slots hX hD hP hS hl => P_f_X10_text_373 w_3 hf _ _ ls _ _ _ hX hD hP hS (lv_sub hl [0] rfl)) N z1.1 (0 : Int32) hf _ _ ls _ _ _ hX hD hP hS (lv_sub hl [3, 4, 2, 1, 0] rfl)
