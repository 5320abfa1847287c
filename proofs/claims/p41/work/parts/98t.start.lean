/-! the law: its start -/
theorem arr_K {args : Array Value} {s : State} {ty : FieldType} (h : (Cond.arrayClass ty).before args s = true) : ∃ c, ArrOfT s c ty ∧ s.vm.findClass ("[" ++ ty.toString) = some c := by
  obtain ⟨c, k, comp, h1, h2, h3⟩ := Cond.arrayClass_spec h
  exact ⟨c, fun N z => ⟨(fun k h => by cases h), k, h2, comp, h3⟩, h1⟩
theorem arr_O {s : State} (h : va_AO RX3 s) : ∃ c, ArrOfT s c (.object RX3) ∧ va_RA s c (.object RX3) := by
  obtain ⟨comp, c, k, h1, -, h3, h4, h5⟩ := Cond.arrayOver_spec h
  exact ⟨c, fun N z => ⟨(fun k h => by cases h), k, h3, comp, h4⟩, k, comp, h3, h4, h1, h5⟩
theorem start_K {s : State} {args : Array Value} (hts : ∀ w ∈ ALL, w.before args s = true) (hao : va_AO RX3 s) : ∃ (D : va_G) (ca : Nat → ClassId), va_K D vwCl (tysA ca) s := by
  obtain ⟨c0, i0, k0⟩ := u_known (C := RX0) (T := TX0) (N := 5) hts in_wsX00 (hts _ it_X0)
  obtain ⟨c1, i1, k1⟩ := u_known (C := RX1) (T := TX1) (N := 12) hts in_wsX10 (hts _ it_X1)
  obtain ⟨c2, i2, k2⟩ := u_known (C := RX2) (T := TX2) (N := 8) hts in_wsX20 (hts _ it_X2)
  obtain ⟨c3, i3, k3⟩ := u_known (C := RX3) (T := TX3) (N := 3) hts in_wsX30 (hts _ it_X3)
  obtain ⟨c4, i4, k4⟩ := u_known (C := RX4) (T := TX4) (N := 9) hts in_wsX40 (hts _ it_X4)
  obtain ⟨c5, i5, k5⟩ := u_known (C := RX5) (T := TX5) (N := 9) hts in_wsX50 (hts _ it_X5)
  obtain ⟨c6, i6, k6⟩ := u_known (C := RX6) (T := TX6) (N := 2) hts in_wsX60 (hts _ it_X6)
  obtain ⟨c7, i7, k7⟩ := u_known (C := RX7) (T := TX7) (N := 12) hts in_wsX70 (hts _ it_X7)
  obtain ⟨c8, i8, k8⟩ := u_known (C := RX8) (T := TX8) (N := 10) hts in_wsX80 (hts _ it_X8)
  obtain ⟨c9, i9, k9⟩ := u_known (C := RX10) (T := TX10) (N := 8) hts in_wsX100 (hts _ it_X10)
  obtain ⟨c10, i10, k10⟩ := u_known (C := RX9) (T := TX9) (N := 2) hts in_wsX90 (hts _ it_X9)
  obtain ⟨c11, i11, k11⟩ := u_known (C := RJ0) (T := TJ0) (N := 4) hts in_wsJ00 (hts _ it_J0)
  obtain ⟨c12, i12, k12⟩ := u_known (C := RJ4) (T := TJ4) (N := 4) hts in_wsJ40 (hts _ it_J4)
  obtain ⟨a0, b0, d0⟩ := arr_K (hts _ ac__int)
  obtain ⟨a1, b1, d1⟩ := arr_K (hts _ ac__byte)
  obtain ⟨a2, b2, d2⟩ := arr_K (hts _ ac__long)
  obtain ⟨a3, b3, d3⟩ := arr_O hao
  refine ⟨(fun k => [c0, c1, c2, c3, c4, c5, c6, c7, c8, c9, c10, c11, c12].getD k c0, fun k => [i0, i1, i2, i3, i4, i5, i6, i7, i8, i9, i10, i11, i12].getD k i0), fun k => [a0, a1, a2, a3].getD k a0, fun c q h => ?_, fun k q h => ?_⟩
  · have hc : c < 13 := (List.getElem?_eq_some_iff.mp h).1
    have hc2 : c = 0 ∨ c = 1 ∨ c = 2 ∨ c = 3 ∨ c = 4 ∨ c = 5 ∨ c = 6 ∨ c = 7 ∨ c = 8 ∨ c = 9 ∨ c = 10 ∨ c = 11 ∨ c = 12 := by omega
    rcases hc2 with rfl | rfl | rfl | rfl | rfl | rfl | rfl | rfl | rfl | rfl | rfl | rfl | rfl
    · cases h; exact k0
    · cases h; exact k1
    · cases h; exact k2
    · cases h; exact k3
    · cases h; exact k4
    · cases h; exact k5
    · cases h; exact k6
    · cases h; exact k7
    · cases h; exact k8
    · cases h; exact k9
    · cases h; exact k10
    · cases h; exact k11
    · cases h; exact k12
  · have hc : k < 4 := (List.getElem?_eq_some_iff.mp h).1
    have hc2 : k = 0 ∨ k = 1 ∨ k = 2 ∨ k = 3 := by omega
    rcases hc2 with rfl | rfl | rfl | rfl
    · cases h; exact ⟨b0, d0⟩
    · cases h; exact ⟨b1, d1⟩
    · cases h; exact ⟨b2, d2⟩
    · cases h; exact ⟨b3, d3⟩
def gvL : List Cond := flatC (Jvm.Cond.and given_1 narrow_1)
def stI (i : Nat) : Nat := [41, 54, 56, 58, 60, 69, 30].getD i 0
def stT (i : Nat) : Term := Term.string RX10 (stI i)
theorem A0s_old (s : State) : ∀ a : Nat, a < s.heap.size → ¬ A0s s a := fun a h z => absurd (show s.heap.size ≤ a from z) (by omega)
theorem st_ex : ∀ i, i < 7 → Cond.exactly (stT i) "java/lang/String" ∈ gvL := by decide +kernel
theorem st_co : ∀ i, i < 7 → Cond.eq (.field (stT i) "java/lang/String" "coder" "B") (.int 0) ∈ gvL := by decide +kernel
theorem st_ar : ∀ i, i < 7 → Cond.arrayOf (.field (stT i) "java/lang/String" "value" "[B") .byte ∈ gvL := by decide +kernel
theorem st_le : ∀ i, i < 7 → Cond.eq (.length (.field (stT i) "java/lang/String" "value" "[B")) (.int (Int32.ofNat (tLe.getD i 0))) ∈ gvL := by decide +kernel
theorem st_el : ∀ i, i < 7 → ∀ j, j < tLe.getD i 0 → Cond.eq (.elem (.field (stT i) "java/lang/String" "value" "[B") (.int (Int32.ofNat j))) (.int ((tBy.getD i []).getD j 0)) ∈ gvL := by decide +kernel
theorem st_ne : ∀ i, i < 7 → ∀ j, j < 7 → i ≠ j → Cond.not (Cond.eq (stT i) (stT j)) ∈ gvL ∨ Cond.not (Cond.eq (stT j) (stT i)) ∈ gvL := by decide +kernel
theorem st_w3 : Cond.stringRef RX10 41 ";term " ∈ lw_tbl ∧ Cond.stringRef RX10 54 " = " ∈ lw_tbl ∧ Cond.stringRef RX10 56 " (" ∈ lw_tbl ∧ Cond.stringRef RX10 58 ")" ∈ lw_tbl ∧ Cond.stringRef RX10 60 ", " ∈ lw_tbl ∧ Cond.stringRef RX10 69 ";same " ∈ lw_tbl ∧ Cond.stringRef RX10 30 "fun a 0;fun b 0;fun c 0;fun f 1;fun g 2" ∈ lw_tbl := by decide +kernel
theorem st_w5 : Cond.laysStatic "java/lang/String" "COMPACT_STRINGS" "Z" ∈ lw_tbl ∧ Cond.initialized "java/lang/String" ∈ lw_tbl ∧ Cond.laysStatic "jdk/internal/util/Preconditions" "SIOOBE_FORMATTER" "Ljava/util/function/BiFunction;" ∈ lw_tbl ∧ Cond.initialized "jdk/internal/util/Preconditions" ∈ lw_tbl := by decide +kernel
theorem st_g1 : Cond.eq (.static "java/lang/String" "COMPACT_STRINGS" "Z") (.int 1) ∈ gvL ∧ Cond.isRef (.static "jdk/internal/util/Preconditions" "SIOOBE_FORMATTER" "Ljava/util/function/BiFunction;") ∈ gvL := by decide +kernel
theorem start_Z {s : State} {b L : Nat} {xs : Nat → Int32} (hL : L < 2 ^ 31) (hX : va_X b L xs s s.heap) (hbl : b < s.heap.size) (hts : ∀ w ∈ lw_tbl, w.before #[.ref b] s = true) (hgv : (Jvm.Cond.and given_1 narrow_1).before #[.ref b] s = true) : ∃ K V : Nat → Nat, ZT (A0s s) K V b (L, xs) s := by
  have hs : ∀ c ∈ gvL, c.before #[.ref b] s = true := flat_of_before _ hgv
  obtain ⟨K, V, hS, hK⟩ := vk_Sof (args := #[.ref b]) (s := s) (N := 7) (tm := stT) (len := tLe) (byt := tBy) (A := A0s s) (by decide) (fun i hi => hs _ (st_ex i hi)) (fun i hi => hs _ (st_co i hi)) (fun i hi => hs _ (st_ar i hi)) (fun i hi => hs _ (st_le i hi)) (fun i hi j hj => hs _ (st_el i hi j hj)) (fun i j hi hj hij => (st_ne i hi j hj hij).imp (fun h => hs _ h) (fun h => hs _ h)) (A0s_old s)
  obtain ⟨g3, g4⟩ := st_g1
  obtain ⟨w0, w1, w2, w3, w4, w5, w6⟩ := st_w3
  obtain ⟨scr, h1, h2, h3, h4, h5⟩ := hX
  exact ⟨K, V, ⟨va_Zof (hts _ st_w5.1) (hts _ st_w5.2.1) (va_eqt (hs _ g3)) (A0s_old s), va_Zqof (hts _ st_w5.2.2.1) (hts _ st_w5.2.2.2) (hs _ g4) (A0s_old s)⟩, hS, ⟨scr, h1, h2, h3, by rw [h4]; exact Nat.le_refl _, by rw [h4], h5, A0s_old s b hbl⟩, vk_R.of (hts _ w0) (hK 0 (by omega)), vk_R.of (hts _ w1) (hK 1 (by omega)), vk_R.of (hts _ w2) (hK 2 (by omega)), vk_R.of (hts _ w3) (hK 3 (by omega)), vk_R.of (hts _ w4) (hK 4 (by omega)), vk_R.of (hts _ w5) (hK 5 (by omega)), vk_R.of (hts _ w6) (hK 6 (by omega))⟩
theorem nul8 : ∀ j, j < 10 → defaultValue (tyX8 j) = vp_V [.null, .null, .null, .null, .null, .null, .null, .int 0, .int 0, .int 0] j := by decide +kernel
theorem nul10 : ∀ j, j < 8 → defaultValue (tyX10 j) = vp_V [.null, .null, .null, .null, .null, .int 0, .int 0, .null] j := by decide +kernel
theorem nul9 : ∀ j, j < 2 → defaultValue (tyX9 j) = vp_V [.null, .int 0] j := by decide +kernel
theorem st_nw : Cond.arrayOver (.object RX3) ∈ lw_tbl ∧ ∀ q ∈ NST, Cond.methodLinkNest q.1 q.2.1 q.2.2.1 q.2.2.2 ∈ lw_tbl := by decide +kernel
/-- Draws: its constructor -/
def rm9 : Room := { frames := 1, cells := 0, slots := 0, locals := 52 }
theorem i_X9 (l : Launch) (D : va_G) (ca : Nat → ClassId) (a b : Nat) : Met l yX9_init (wsy yX9_init cX9_init 2 none) rm9 (va_Pc [.ref a, .ref b] (fun U => va_P D vwCl [(a, .inr (10, [.null, .int 0]))] U.heap ∧ va_K D vwCl (tysA ca) U)) (va_Qv (fun _ : Nat => True) (fun _ t => va_P D vwCl [(a, .inr (10, [.ref b, .int 0]))] t.heap ∧ va_K D vwCl (tysA ca) t) (fun q => q = a)) 0 0 (fun q => q = a) := by
  refine Met.ofW (cc := cX9_init) (maxL := 2) (ret := none) (by decide +kernel) rfl ?_
  intro p e s m args below meth c s₁ B hml hv
  obtain ⟨rfl, hP, hK⟩ := hv
  have hx := B.exec
  have hb := B.bytes
  have hr := B.returns
  have hlocks := B.notSynchronized
  have hts : ∀ w ∈ ALL, w.before _ s = true := fun w hw => atoms_spec (ws := wsy yX9_init cX9_init 2 none) B.pre w (List.mem_cons_of_mem _ hw)
  have hown : s.vm.findClass RX9 = some m.cls := findClass_of_methodNamed B.named
  have hin2 : meth.name = "<init>" := (name_of_methodNamed B.named B.method).1
  have C : CX p s m _ c cX9_init RX9 2 D ca (fun _ => True) := ⟨hx, hb, hml, hown, hts, hK, trivial⟩
  have hS : va_S (fun q => q = a) s.heap s.heap [] := va_S.rf
  have hl := lv_entry ([.ref a, .ref b]) (n := 2) (Nat.le_of_ble_eq_true rfl)
  rw [lg_entry_eq]
  generalize (lg_sl ([.ref a, .ref b]) ++ List.replicate (2 - (lg_sl ([.ref a, .ref b])).length) Slot.unset).toArray = ls at hl ⊢
  have hl : lv_has ls 2 [(0, .ref a), (1, .ref b)] := hl
  show W p l e rm9 s m _ below meth c s.heap [] 0 0 _ _
  have hP : va_P D vwCl ([] ++ [(a, .inr (10, [.null, .int 0]))]) s.heap := hP
  have hD : va_D (fun q => q = a) ([] ++ [(a, .inr (10, [.null, .int 0]))]) := ⟨fun i j p q h1 h2 _ => by
    have a1 := (List.getElem?_eq_some_iff.mp h1).1
    have a2 := (List.getElem?_eq_some_iff.mp h2).1
    simp only [List.nil_append, List.length_cons, List.length_nil] at a1 a2
    omega, fun k q h => by
    have a1 := List.mem_of_getElem? h
    simp only [List.nil_append, List.mem_cons, List.not_mem_nil, or_false] at a1
    rw [a1]⟩
  refine lv_aload_n hx hb dX9_init_0 rfl (lv_at hl 0 rfl) ?_
  refine W.objInit hx hb hown (hts _ ml_X9_1) (hts _ im_objectInit) (hts _ cd_objectInit) rfl (by rw [hml]; exact hl.1) rfl dX9_init_1 (Nat.le_of_ble_eq_true rfl) (Nat.le_of_ble_eq_true rfl) ?_
  refine W.eq (g2 := F0 m 4 ls []) rfl ?_
  refine lv_aload_n hx hb dX9_init_4 rfl (lv_at hl 0 rfl) ?_
  refine lv_aload_n hx hb dX9_init_5 rfl (lv_at hl 1 rfl) ?_
  refine rn_putF (ci := 10) (j := 0) (k := 0) (T := TX9) (Nf := 2) (ty0 := tyX9) (v := .ref b) (fs := [.null, .int 0]) C in_wsX90 tyX9_ok nmX9 hP hD hS rfl rfl (Nat.le_of_ble_eq_true rfl) (Nat.le_of_ble_eq_true rfl) rfl hin2 rfl rfl rfl lk_X9_7 dX9_init_6 (fun H locs hP hD hS => ?_)
  have hP : va_P D vwCl [(a, .inr (10, [.ref b, .int 0]))] H := hP
  exact W.vret hx hb hr (fun t ht hW => ⟨⟨0, rfl, trivial, by rw [ht]; exact hP, va_K.moved hW.alike hK⟩, hS.F ht⟩) hS.2.2 dX9_init_9 (hlocks := hlocks)
set_option maxRecDepth 100000 in
set_option maxHeartbeats 8000000 in
theorem law_start {p : Program} {l : Launch} {e : Env} {s : State} {m : MethodId} {below : List Frame} {meth : Method} {c : Code} {b L : Nat} {xs : Nat → Int32} (hL : L < 2 ^ 31) (hx : p.tables.exec = Jvm.exec) (hb : c.code = cL_law) (hr : meth.sig.returnType = ret) (hml : c.maxLocals = 14) (hown : s.vm.findClass RL = some m.cls) (hts0 : ∀ w ∈ lw_tbl, w.before #[.ref b] s = true) (hX : va_X b L xs s s.heap) (hbl : b < s.heap.size) (hlocks : meth.locks = false) (hgv : (Jvm.Cond.and given_1 narrow_1).before #[.ref b] s = true)
    {N : Nat} {w1 w2 w3 : Mem} {bs : List Int32} {r : Int32} (hf1 : f_X10_text N (txt0 wI) (L, xs) = some w1) (hbs : bs.length = lenT w1) (hbs2 : ∀ j, j < lenT w1 → bs.getD j 0 = sb_b (ltT w1 j)) (hl9 : lenT w1 < 2 ^ 31) (hf2 : f_L_tell N (sF w1 61 1 0 0) bs = some (w2, r)) (hf3 : f_L_law N w2 (L, xs) r = some (w3, 1)) : W p l e room_1 s m #[.ref b] below meth c s.heap [] 0 0 (LZ below #[.ref b] s) (entryFrame m ([.ref b] : List Value).toArray 14) := by
  have hts : ∀ w ∈ ALL, w.before #[.ref b] s = true := ALL_ok hts0
  obtain ⟨K, V, hZ⟩ := start_Z hL hX hbl hts0 hgv
  have hao : va_AO RX3 s := va_AO.of (hts0 _ st_nw.1)
  have hN : NW s := ⟨fun q hq => va_Nw.of rfl (hts0 _ (st_nw.2 q hq)), hao⟩
  obtain ⟨D, ca, hK⟩ := start_K hts hao
  have C : CX p s m #[.ref b] c cL_law RL 14 D ca (ZT (A0s s) K V b (L, xs)) := ⟨hx, hb, hml, hown, hts, hK, hZ⟩
  have hl := lv_entry ([.ref b]) (n := 14) (Nat.le_of_ble_eq_true rfl)
  rw [lg_entry_eq]
  generalize (lg_sl ([.ref b]) ++ List.replicate (14 - (lg_sl ([.ref b])).length) Slot.unset).toArray = ls at hl ⊢
  have hl : lv_has ls 14 [(0, .ref b)] := hl
  show W p l e room_1 s m _ below meth c s.heap [] 0 0 _ _
  have hA : ∀ q : Nat, s.heap.size ≤ q → A0s s q := fun q h => h
  have hS : va_S (A0s s) s.heap s.heap [] := va_S.rf
  have hP : va_P D vwCl [] s.heap := fun k q h => by cases h
  have hD : va_D (A0s s) [] := ⟨(fun i j p q h => by cases h), (fun k q h => by cases h)⟩
  refine va_new (C := RX9) (T := TX9) (N := 2) (ci := 10) (fs := [.null, .int 0]) hx hb hts in_wsX90 tyX9 tyX9_ok hown (hts _ cl_L_27) (hts _ it_X9) (hts _ ini_X9) hK hP hD hS hA rfl nul9 (Nat.le_of_ble_eq_true rfl) (Nat.le_of_ble_eq_true rfl) dL_law_0 (fun q H hP hD hS => ?_)
  rw [List.nil_append] at hP hD
  refine lv_dup hx hb dL_law_3 rfl ?_
  refine lv_aload_n hx hb dL_law_4 rfl (lv_at hl 0 rfl) ?_
  have hGd : GoodIn ALL (wsy yX9_init cX9_init 2 none) := by
    intro w h
    have hm : w ∈ ALL := by
      rcases List.mem_cons.mp h with rfl | h
      · exact cd_X9_init
      · exact h
    exact ⟨hm, ALL_gd w hm⟩
  have hrun := va_runI (H := H) (p := p) (e := e) (m := m) (below := below) (meth := meth) (R := room_1) (locs := []) (cells := 0 + 1) (slots := 0 + 2) (b := q) (As := [.ref b]) (rest := [.ref q]) (g := F0 m 5 ls [.ref b, .ref q, .ref q]) ⟨hx, hb, hml, hown, hts⟩ (i_X9 l D ca q b) (cwI 1 hts hGd rfl rfl rfl (hts _ ini_X9) (hts _ ml_L_29) (hts _ im_X9_init) rfl (by decide +kernel) ⟨Nat.le_of_ble_eq_true rfl, Nat.le_of_ble_eq_true rfl⟩) ⟨fun a U g mk z => ⟨z.1, z.2.1, va_K.moved (u := U) (U := U.calling g mk a) (Vm.Alike.refl U.vm) z.2.2⟩, fun U hU hWm => ⟨rfl, by rw [hU]; exact hP, va_K.moved hWm.alike hK⟩⟩ rfl rfl hl.1 rfl (by show 2 * 0 + (1 + 0) ≤ 8; omega) dL_law_5 ⟨Nat.le_of_ble_eq_true rfl, Nat.le_of_ble_eq_true rfl⟩
  have hqA : ∀ z : Nat, z = q → A0s s z := fun z h => by rw [h]; exact hD.2 0 _ rfl
  refine va_callv hrun hS (fun z _ h => hqA z h) hqA (fun f0 t H locs ht hvm hw hB hz hk hS => ?_)
  obtain ⟨hP, -⟩ := hB
  rw [ht] at hP
  have hD : va_D (A0s s) [(q, .inr (10, [.ref b, .int 0]))] := ⟨fun i j p p2 h1 h2 _ => by
    have a1 := (List.getElem?_eq_some_iff.mp h1).1
    have a2 := (List.getElem?_eq_some_iff.mp h2).1
    simp only [List.length_cons, List.length_nil] at a1 a2
    omega, fun k p h => by
    have a1 := List.mem_of_getElem? h
    simp only [List.mem_cons, List.not_mem_nil, or_false] at a1
    rw [a1]; exact hqA q rfl⟩
  refine lv_astore_n (lv' := [(1, .ref q), (0, .ref b)]) hx hb dL_law_8 rfl hl (by decide) rfl (fun ls hl => ?_)
  refine rn_objN (X := []) (L := [(q, .inr (10, [.ref b, .int 0]))]) (k := 9) (idx := 32) (idx2 := 34) (host := RL) (T := TX10) (ty0 := tyX10) (Nf := 8) (y := yX10_init) C hl.1 in_wsX100 tyX10_ok rfl nul10 (i_X10 l D ca) cl_L_32 it_X10 ini_X10 im_X10_init cd_X10_init rfl rfl hN (Or.inl (List.mem_of_getElem? (i := 8) rfl)) (by decide +kernel) hP hD hS hA (Nat.le_of_ble_eq_true rfl) (Nat.le_of_ble_eq_true rfl) ⟨rfl, rfl⟩ ⟨Nat.le_of_ble_eq_true rfl, Nat.le_of_ble_eq_true rfl⟩ (Nat.le_of_ble_eq_true rfl) dL_law_9 dL_law_12 dL_law_13 (fun g H locs hP hD hS => ?_)
  refine lv_astore_n (lv' := [(2, .ref (g 0)), (1, .ref q), (0, .ref b)]) hx hb dL_law_16 rfl hl (by decide) rfl (fun ls hl => ?_)
  refine rn_objN (X := []) (L := [(q, .inr (10, [.ref b, .int 0]))] ++ cl_X10 ca g) (k := 8) (idx := 18) (idx2 := 35) (host := RX8) (T := TX8) (ty0 := tyX8) (Nf := 10) (y := yX8_init) C hl.1 in_wsX80 tyX8_ok rfl nul8 (i_X8 l D ca) cl_L_18 it_X8 ini_X8 im_X8_init cd_X8_init rfl rfl hN (Or.inr ml_L_35) (by decide +kernel) hP hD hS hA (Nat.le_of_ble_eq_true rfl) (Nat.le_of_ble_eq_true rfl) ⟨rfl, rfl⟩ ⟨Nat.le_of_ble_eq_true rfl, Nat.le_of_ble_eq_true rfl⟩ (Nat.le_of_ble_eq_true rfl) dL_law_17 dL_law_20 dL_law_21 (fun f H locs hP hD hS => ?_)
  refine lv_astore_n (lv' := [(3, .ref (f 0)), (2, .ref (g 0)), (1, .ref q), (0, .ref b)]) hx hb dL_law_24 rfl hl (by decide) rfl (fun ls hl => ?_)
  simp only [List.nil_append] at hP hD
  have hP : va_P D vwCl (wl (adC q b g f) PLC (ent ca (adC q b g f) wI)) H := cellsC hP
  obtain ⟨rx, ox⟩ := RD_of (PL := PLC) (ix := ixC) hD (adrC ca q b g f) ixC_lt PLC_nd ixC_inj
  generalize hadC : adC q b g f = ad at hP
  have rx : RD (rW ad PLC) ad PLC := by rw [← hadC]; exact rx
  have hAr : ∀ x, rW ad PLC x → A0s s x := by rw [← hadC]; exact ox
  have e47 : ad 47 0 = b := by rw [← hadC]; rfl
  have hl : lv_has ls 14 [(3, .ref (ad 8 0)), (2, .ref (ad 9 0)), (1, .ref (ad 46 0)), (0, .ref b)] := by rw [← hadC]; exact hl
  clear hadC
  have hz0 : stb (A0s s) (ZT (A0s s) K V b (L, xs)) := ZT_stb (fun x h => h)
  have hok1 : okc bM (ZT (A0s s) K V b (L, xs)) (rW ad PLC) ad PLC := ⟨rx, PLC_in, ZT_stb hAr, trivial⟩
  have hok2 : okc bM (ZT (A0s s) K V b (L, xs)) (A0s s) ad PLC := ⟨⟨rx.1, rx.2.1, fun p hp => hAr _ ⟨p, hp, rfl⟩⟩, PLC_in, hz0, trivial⟩
  refine lv_aload_n hx hb dL_law_25 rfl (lv_at hl 0 rfl) ?_
  refine lv_aload_n hx hb dL_law_26 rfl (lv_at hl 1 rfl) ?_
  refine lv_aload_n hx hb dL_law_27 rfl (lv_at hl 2 rfl) ?_
  refine lt_text (w' := w1) (rest := [.ref (ad 8 0)]) hok1 hAr hA hz0 (fun p hp => (PLC_kinds p hp).2.2.1) (ZT_csz (fun x h => h)) (ZT_okTx (fun x h => h)) (by rw [e47]; exact ZT_scz hAr hL) hf1 C hP hS hl.1 ml_L_36 ⟨Nat.le_of_ble_eq_true rfl, Nat.le_of_ble_eq_true rfl⟩ ⟨Nat.le_of_ble_eq_true rfl, Nat.le_of_ble_eq_true rfl⟩ (Nat.le_of_ble_eq_true rfl) dL_law_28 (fun sr qv a H locs hD hP g1 hS => ?_)
  refine lt_tell (w' := w2) (rest := []) (okM_X hok1) (fun p hp => ⟨(PLC_kinds p hp).1, (PLC_kinds p hp).2.1⟩) hAr hA hz0 (fun p hp => (PLC_kinds p hp).2.2.2) (ZT_csz (fun x h => h)) hf2 hbs hl9 (fun j hj => by rw [hbs2 j hj, (g1 j hj).2]) C hD hP hS hl.1 ml_L_39 ⟨Nat.le_of_ble_eq_true rfl, Nat.le_of_ble_eq_true rfl⟩ ⟨Nat.le_of_ble_eq_true rfl, Nat.le_of_ble_eq_true rfl⟩ (Nat.le_of_ble_eq_true rfl) dL_law_31 (fun H locs hP hS => ?_)
  refine W.widen (k := 600000) (n := 7302250) (Nat.le_of_ble_eq_true rfl) (Nat.le_of_ble_eq_true rfl) ?_
  exact law_tail hok2 C hr hlocks hts0 (L, xs) (by rw [e47]; exact ZT_scz (fun x h => h) hL) N w2 r w3 hf3 H locs ls hP hS (lv_sub hl [3, 2, 1, 0] rfl)
