/-! named of the class: returns or throws -/
def XW : List Cond := nx_atS RX8 307 "java/util/NoSuchElementException" "java/lang/RuntimeException" 13 rx13 ["java/lang/Exception"]
def xwk (w : Cond) : Bool := goodWord w || (match w with
  | .declares _ => true
  | .castable _ _ => true
  | _ => false)
theorem XW_k : XW.all xwk = true := by decide +kernel
theorem XW_ot : (Cond.classLink RX8 303 "java/util/NoSuchElementException" :: Cond.initialized "java/util/NoSuchElementException" :: XW).all vx_ot = true := by decide +kernel
theorem XW_warm {s U : State} (hW : s.WarmedH U.vm) (h : ∀ w ∈ XW, va_Nw w s) : ∀ w ∈ XW, va_Nw w U := by
  intro w hw
  have hk := List.all_eq_true.mp XW_k w hw
  have h1 := h w hw
  unfold xwk at hk
  by_cases hg : goodWord w = true
  · exact word_at hW (good_of_word hg) h1
  · have hg2 : goodWord w = false := by
      cases hq : goodWord w
      · rfl
      · exact absurd hq hg
    rw [hg2, Bool.false_or] at hk
    cases w <;> first | exact va_Nw.warmD hW h1 | exact va_Nw.warmC hW h1 | exact absurd (show false = true from hk) (by decide)
/-- what is known for a throw: words, texts, two static places -/
def Zn (A : Nat → Prop) (U : State) : Prop := (∀ w ∈ XW, va_Nw w U) ∧ (∃ a, vk_R RX8 305 "there are not so many bytes" a U) ∧ (∃ a, vk_R RX8 316 "no term has this name" a U) ∧ vx_Zq Bundle.tN "UNASSIGNED_STACK" Bundle.steD A U U.heap ∧ vx_Zq Bundle.tN "SUPPRESSED_SENTINEL" Bundle.listD A U U.heap
theorem Zn.narrow {A B : Nat → Prop} {U : State} (h : Zn A U) (hAB : ∀ q, B q → A q) : Zn B U := ⟨h.1, h.2.1, h.2.2.1, h.2.2.2.1.narrow hAB, h.2.2.2.2.narrow hAB⟩
theorem Zn.call {A : Nat → Prop} {U : State} (g : JFrame) (mk : MethodId) (a : Array Value) (h : Zn A U) : Zn A (U.calling g mk a) := by
  obtain ⟨h1, ⟨a1, h2⟩, ⟨a2, h3⟩, h4, h5⟩ := h
  have hW : U.WarmedH (U.calling g mk a).vm := State.WarmedH.refl U
  exact ⟨XW_warm hW h1, ⟨a1, vk_R.warm hW h2⟩, ⟨a2, vk_R.warm hW h3⟩, h4.moved (u := U) (U := U.calling g mk a) (Vm.Alike.refl U.vm), h5.moved (u := U) (U := U.calling g mk a) (Vm.Alike.refl U.vm)⟩
theorem Zn.kept {A : Nat → Prop} {s U : State} (h : Zn A s) (hW : s.WarmedH U.vm) (hq : ∀ q : Nat, q < s.heap.size → ¬ A q → U.heap[q]? = s.heap[q]?) : Zn A U := by
  obtain ⟨h1, ⟨a1, h2⟩, ⟨a2, h3⟩, h4, h5⟩ := h
  exact ⟨XW_warm hW h1, ⟨a1, vk_R.warm hW h2⟩, ⟨a2, vk_R.warm hW h3⟩, vx_Zq.moved hW.alike (h4.kept hq), vx_Zq.moved hW.alike (h5.kept hq)⟩
def NSE : String := "java/util/NoSuchElementException"
/-- what comes out of named: a term's number, or it throws -/
def nmO (N : Nat) (w : Mem) (x1 : Int32) : Option Int32 → Prop
  | some r => ¬ x1 < 0 ∧ x1 ≤ gF w 6 1 0 ∧ gR w 8 5 0 < 2 ∧ ∃ z, f_X6_onlyWord N w x1 = some z ∧ f_X7_termNamed N w (gR w 8 5 0) z = some r ∧ (0 : Int32) ≤ r
  | none => (x1 < 0 ∨ ¬ x1 ≤ gF w 6 1 0) ∨ (¬ x1 < 0 ∧ x1 ≤ gF w 6 1 0 ∧ gR w 8 5 0 < 2 ∧ ∃ z r, f_X6_onlyWord N w x1 = some z ∧ f_X7_termNamed N w (gR w 8 5 0) z = some r ∧ ¬ (0 : Int32) ≤ r)
def rmN : Room := { frames := 8, cells := 1, slots := 6, locals := 320 }
def qcN (D : va_G) (ca : Nat → ClassId) (ad : Nat → Nat → Nat) (PL : List (Nat × Nat)) (A : Nat → Prop) (w : Mem) (o : Option Int32) : Array Value → State → Outcome → State → Prop := va_Qi (fun (r : Int32) (_ : Unit) => o = some r) (fun _ t => va_P D vwCl (wl ad PL (ent ca ad w)) t.heap) A
def xcN (D : va_G) (ca : Nat → ClassId) (ad : Nat → Nat → Nat) (PL : List (Nat × Nat)) (A : Nat → Prop) (w : Mem) (o : Option Int32) : String → State → State → Prop := vx_X (fun _ : Unit => o = none) (fun E _ t => E = NSE ∧ va_P D vwCl (wl ad PL (ent ca ad w)) t.heap) A
set_option maxRecDepth 100000 in
set_option maxHeartbeats 4000000 in
theorem c_X8_named (l : Launch) (hfl : l.stackTraces = false) (D : va_G) (ca : Nat → ClassId) (ad : Nat → Nat → Nat) (PL : List (Nat × Nat)) (Z : State → Prop) (A : Nat → Prop) (hok : okc bX Z A ad PL) (hZn : ∀ U, Z U → Zn A U) (N : Nat) (w : Mem) (x1 : Int32) (o : Option Int32) (ho : nmO N w x1 o) : vx_Met l yX8_named (wsy yX8_named cX8_named 3 (some .int)) rmN (va_Pc [.ref (ad 8 0), .int x1] (RX D ca ad PL Z w)) (qcN D ca ad PL A w o) (xcN D ca ad PL A w o) 1 6 A := by
  refine vx_ofW (cc := cX8_named) (maxL := 3) (ret := (some .int)) (by decide +kernel) rfl ?_
  intro p e s m args below meth c s₁ B hml hnx hv
  obtain ⟨rfl, hP, hK, hZ⟩ := hv
  have hx := B.exec
  have hb := B.bytes
  have hr := B.returns
  have hlocks := B.notSynchronized
  have hts : ∀ w ∈ ALL, w.before _ s = true := fun w hw => atoms_spec (ws := wsy yX8_named cX8_named 3 (some .int)) B.pre w (List.mem_cons_of_mem _ hw)
  have hown : s.vm.findClass RX8 = some m.cls := findClass_of_methodNamed B.named
  have C : CX p s m _ c cX8_named RX8 3 D ca Z := ⟨hx, hb, hml, hown, hts, hK, hZ⟩
  have hS : va_S A s.heap s.heap [] := va_S.rf
  have hl := lv_entry ([.ref (ad 8 0), .int x1]) (n := 3) (Nat.le_of_ble_eq_true rfl)
  rw [lg_entry_eq]
  generalize (lg_sl ([.ref (ad 8 0), .int x1]) ++ List.replicate (3 - (lg_sl ([.ref (ad 8 0), .int x1])).length) Slot.unset).toArray = ls at hl ⊢
  have hl : lv_has ls 3 [(0, .ref (ad 8 0)), (1, .int x1)] := hl
  show W p l e rmN s m _ below meth c s.heap [] 0 0 _ _
  obtain ⟨z1, ⟨sa, z2⟩, ⟨sb, z3⟩, z4, z5⟩ := hZn s hZ
  have hat : ∀ w ∈ XW, w.before #[.ref (ad 8 0), .int x1] s = true := fun w hw => vx_ot_at (State.WarmedH.refl s) rfl (List.all_eq_true.mp XW_ot w (List.mem_cons_of_mem _ (List.mem_cons_of_mem _ hw))) (z1 w hw)
  have hgood : ∀ w ∈ Cond.classLink RX8 303 "java/util/NoSuchElementException" :: Cond.initialized "java/util/NoSuchElementException" :: XW, vx_ot w = true := fun w hw => List.all_eq_true.mp XW_ot w hw
  have hXC : ∀ (H : Heap) (locs : List Loc), va_P D vwCl (wl ad PL (ent ca ad w)) H → va_S A s.heap H locs → o = none → ∀ t : State, s.vm.Alike t.vm → H.size ≤ t.heap.size → (∀ q : Nat, q < H.size → t.heap[q]? = H[q]?) → xcN D ca ad PL A w o "java/util/NoSuchElementException" s t := fun H locs hP hS hno t hvm h1 h2 => ⟨(), hno, ⟨rfl, hP.kept (fun k q hk => h2 _ (hP k q hk).lt)⟩, Nat.le_trans hS.1 h1, fun q hq hA => by rw [h2 q (Nat.lt_of_lt_of_le hq hS.1)]; exact hS.2.1 q hq hA⟩
  have throwA : ∀ (H : Heap) (locs : List Loc) (ls : Array Slot), va_P D vwCl (wl ad PL (ent ca ad w)) H → va_S A s.heap H locs → ls.size = 3 → o = none → W p l e rmN s m _ below meth c H locs 0 0 (vx_MQ below (qcN D ca ad PL A w o) (xcN D ca ad PL A w o) _ s 1 6 A) (F0 m 15 ls []) := fun H locs ls hP hS hsz hno => nx_throwSW (Y0 := "java/lang/RuntimeException") (r := ["java/lang/Exception"]) (ik := 303) (is := 305) (ic := 307) hx hb hfl rx13_0 rx13_1 rx13_2 rx13_5 hown (by decide +kernel) (by decide +kernel) (hts _ cl_X8_303) (hts _ ini_java_util_NoSuchElementException) z2 hat hgood z4 z5 hS (hsz.trans hml.symm) dX8_named_15 dX8_named_18 dX8_named_19 dX8_named_22 dX8_named_25 (fun x hx => (hnx x hx).elim) (Nat.le_of_ble_eq_true rfl) (Nat.le_of_ble_eq_true rfl) (Nat.le_of_ble_eq_true rfl) (Nat.le_of_ble_eq_true rfl) hlocks (hXC H locs hP hS hno) hS.2.2 (Nat.le_refl _) (Nat.le_refl _)
  have throwB : ∀ (H : Heap) (locs : List Loc) (ls : Array Slot), va_P D vwCl (wl ad PL (ent ca ad w)) H → va_S A s.heap H locs → ls.size = 3 → o = none → W p l e rmN s m _ below meth c H locs 0 0 (vx_MQ below (qcN D ca ad PL A w o) (xcN D ca ad PL A w o) _ s 1 6 A) (F0 m 49 ls []) := fun H locs ls hP hS hsz hno => nx_throwSW (Y0 := "java/lang/RuntimeException") (r := ["java/lang/Exception"]) (ik := 303) (is := 316) (ic := 307) hx hb hfl rx13_0 rx13_1 rx13_2 rx13_5 hown (by decide +kernel) (by decide +kernel) (hts _ cl_X8_303) (hts _ ini_java_util_NoSuchElementException) z3 hat hgood z4 z5 hS (hsz.trans hml.symm) dX8_named_49 dX8_named_52 dX8_named_53 dX8_named_56 dX8_named_59 (fun x hx => (hnx x hx).elim) (Nat.le_of_ble_eq_true rfl) (Nat.le_of_ble_eq_true rfl) (Nat.le_of_ble_eq_true rfl) (Nat.le_of_ble_eq_true rfl) hlocks (hXC H locs hP hS hno) hS.2.2 (Nat.le_refl _) (Nat.le_refl _)
  refine lv_iload_n hx hb dX8_named_0 rfl (lv_at hl 1 rfl) ?_
  refine lv_if_lt (tgt := 15) hx hb dX8_named_1 (by decide) (fun c1 => ?_) (fun c1 => ?_)
  · refine throwA _ _ ls hP hS hl.1 ?_
    cases o with
    | none => rfl
    | some r => exact absurd c1 ho.1
  refine lv_iload_n hx hb dX8_named_4 rfl (lv_at hl 1 rfl) ?_
  refine lv_aload_n hx hb dX8_named_5 rfl (lv_at hl 0 rfl) ?_
  refine gt_8_0 (i := 0) C hP (hok.2.1 8 0 (Nat.le_of_ble_eq_true rfl)) lk_X8_12 dX8_named_6 ?_
  refine gt_6_1 (i := 0) C hP (hok.2.1 6 0 (Nat.le_of_ble_eq_true rfl)) lk_X8_54 dX8_named_9 ?_
  refine lv_icmp_le (tgt := 26) hx hb dX8_named_12 (by decide) (fun c2 => ?_) (fun c2 => ?_)
  · have ho2 : ∃ z r, f_X6_onlyWord N w x1 = some z ∧ gR w 8 5 0 < 2 ∧ f_X7_termNamed N w (gR w 8 5 0) z = some r ∧ ((o = some r ∧ (0 : Int32) ≤ r) ∨ (o = none ∧ ¬ (0 : Int32) ≤ r)) := by
      cases o with
      | none =>
        rcases ho with (h | h) | ⟨_, _, h3, z, r, h4, h5, h6⟩
        · exact absurd h c1
        · exact absurd c2 h
        · exact ⟨z, r, h4, h3, h5, Or.inr ⟨rfl, h6⟩⟩
      | some r =>
        obtain ⟨_, _, h3, z, h4, h5, h6⟩ := ho
        exact ⟨z, r, h4, h3, h5, Or.inl ⟨rfl, h6⟩⟩
    obtain ⟨z, r, f1, f2, f3, hor⟩ := ho2
    refine lv_aload_n hx hb dX8_named_26 rfl (lv_at hl 0 rfl) ?_
    refine gt_8_5 (i := 0) C hP (hok.2.1 8 0 (Nat.le_of_ble_eq_true rfl)) lk_X8_43 dX8_named_27 ?_
    refine gt_1_0 (i := (gR w 8 5 0)) C hP (hok.2.1 1 (gR w 8 5 0) f2) lk_X8_87 dX8_named_30 ?_
    refine lv_aload_n hx hb dX8_named_33 rfl (lv_at hl 0 rfl) ?_
    refine gt_8_0 (i := 0) C hP (hok.2.1 8 0 (Nat.le_of_ble_eq_true rfl)) lk_X8_12 dX8_named_34 ?_
    refine lv_iload_n hx hb dX8_named_37 rfl (lv_at hl 1 rfl) ?_
    refine kc_V (ci := 6) (i := 0) (As := [.int x1]) (rest := [.ref (ad 7 (gR w 8 5 0))]) hok.2.2.1 C hP hS hl.1 (hok.2.1 6 0 (Nat.le_of_ble_eq_true rfl)) rfl rfl cw_X6_onlyWord ml_X8_310 (c_X6_onlyWord l D ca ad PL Z A hok N w x1 z f1) rfl ⟨rfl, rfl⟩ ⟨Nat.le_of_ble_eq_true rfl, Nat.le_of_ble_eq_true rfl⟩ ⟨Nat.zero_le _, Nat.zero_le _⟩ (Nat.le_of_ble_eq_true rfl) rfl dX8_named_38 (fun H locs hP hS => ?_)
    refine kc_V (ci := 7) (i := gR w 8 5 0) (As := [.int z]) (rest := []) hok.2.2.1 C hP hS hl.1 (hok.2.1 7 (gR w 8 5 0) f2) rfl rfl cw_X7_termNamed ml_X8_313 (c_X7_termNamed l D ca ad PL Z A hok N w (gR w 8 5 0) f2 z r f3) rfl ⟨rfl, rfl⟩ ⟨Nat.le_of_ble_eq_true rfl, Nat.le_of_ble_eq_true rfl⟩ ⟨Nat.zero_le _, Nat.zero_le _⟩ (Nat.le_of_ble_eq_true rfl) rfl dX8_named_41 (fun H locs hP hS => ?_)
    refine lv_istore_n (lv' := [(2, .int r), (0, .ref (ad 8 0)), (1, .int x1)]) hx hb dX8_named_44 rfl hl (by decide) rfl (fun ls hl => ?_)
    refine lv_iload_n hx hb dX8_named_45 rfl (lv_at hl 0 rfl) ?_
    refine lv_if_ge (tgt := 60) hx hb dX8_named_46 (by decide) (fun c3 => ?_) (fun c3 => ?_)
    · refine lv_iload_n hx hb dX8_named_60 rfl (lv_at hl 0 rfl) ?_
      have hor2 : o = some r := by
        rcases hor with h | h
        · exact h.1
        · exact absurd c3 h.2
      refine W.widen (k := 1) (n := 6) (Nat.zero_le _) (Nat.zero_le _) (vx_ret ?_)
      exact W.zret hx hb hr rfl (fun t ht hW => ⟨⟨r, (), rfl, hor2, by show va_P D vwCl _ t.heap; rw [ht]; exact hP⟩, hS.F ht⟩) hS.2.2 dX8_named_61 (hlocks := hlocks)
    · refine throwB _ _ ls hP hS hl.1 ?_
      rcases hor with h | h
      · exact absurd h.2 c3
      · exact h.1
  · refine throwA _ _ ls hP hS hl.1 ?_
    cases o with
    | none => rfl
    | some r => exact absurd ho.2.1 c2
