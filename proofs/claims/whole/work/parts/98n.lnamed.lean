/-! the law's own named: 1 where the class throws, else 0 and the answer kept -/
theorem Met.ofWH {l : Launch} {y : MethodName} {ws ws' : List Cond} {rm : Room} {Pc : Array Value → State → Prop} {Qc : Array Value → State → Outcome → State → Prop} {mc ms : Nat} {free : Addr → Prop} {cc : ByteArray} {maxL : Nat} {ret : Option FieldType} {hh : List (Nat × Nat × Nat × Nat)}
    (hy : plainName y.cls = true) (hw : ws = Cond.codeWith y cc maxL ret hh :: ws')
    (body : ∀ p e s m args below meth c s₁, BodyLoose p l y (headSpec ws rm) cc maxL ret e s m args below meth c s₁ → c.maxLocals = maxL → Pc args s →
      W p l e (headSpec ws rm).room s m args below meth c s.heap [] 0 0 (MQ below Qc args s mc ms free) (entryFrame m args maxL)) : Met l y ws rm Pc Qc mc ms free := by
  refine MetFree.of_bodyS (code := cc) (maxLocals := maxL) (ret := ret) hy ?_ ?_
  · intro args s m h hn
    obtain ⟨m9, meth, c, hn9, h1, h2, h3, h4, -, h5, h6, -⟩ := Cond.codeWith_spec (atoms_spec (ws := ws) h _ (by rw [hw]; exact List.mem_cons_self))
    cases hn.symm.trans hn9
    exact ⟨meth, c, h1, h2, h3, h4, h5, h6⟩
  · intro p e s m args below meth c s₁ B hml hP _
    have hh0 : s₁.heap = s.heap := by rw [B.state]; rfl
    obtain ⟨t, a1, o, b1, b2, b3⟩ := body p e s m args below meth c s₁ B hml hP s₁ hh0 (Stand.of_body B)
    exact ⟨t, o, a1, b1, b2, b3⟩
def wsN : List Cond := Cond.codeWith yL_named cL_named 4 (some .int) [(0, 9, 12, 13)] :: ALL
def rmL : Room := { frames := 9, cells := 1, slots := 6, locals := 380 }
def PO (ca : Nat → ClassId) (ao : Nat) (f : Nat → Int64) : va_W := [(ao, .inl (ca 2, (1, .inr (.inl f))))]
/-- what the law's named gives, what lies in the row then -/
def lnR : Option Int32 → Int32
  | some _ => 0
  | none => 1
def lnF (f : Nat → Int64) : Option Int32 → Nat → Int64
  | some r => vp_updL f 0 r.toInt64
  | none => f
theorem cast_in : Cond.castable "java/util/NoSuchElementException" "java/util/NoSuchElementException" ∈ XW := by decide +kernel
theorem cw_X8_named0 : CW RX8 yX8_named cX8_named 3 (some .int) 1 := ⟨im_X8_named, se_X8_named, ini_X8, cd_X8_named, by decide +kernel⟩
set_option maxRecDepth 100000 in
set_option maxHeartbeats 4000000 in
theorem c_L_named (l : Launch) (hfl : l.stackTraces = false) (D : va_G) (ca : Nat → ClassId) (ad : Nat → Nat → Nat) (PL : List (Nat × Nat)) (Z : State → Prop) (A : Nat → Prop) (hok : okc bX Z A ad PL) (hZn : ∀ U, Z U → Zn A U) (N : Nat) (w : Mem) (x1 : Int32) (o : Option Int32) (ho : nmO N w x1 o) (ao : Nat) (hao : ¬ A ao) (f : Nat → Int64) : Met l yL_named wsN rmL (va_Pc [.ref (ad 8 0), .int x1, .ref ao] (fun U => RX D ca ad PL Z w U ∧ va_P D vwCl (PO ca ao f) U.heap)) (va_Qi (fun (r : Int32) (_ : Unit) => r = lnR o) (fun _ t => va_P D vwCl (wl ad PL (ent ca ad w)) t.heap ∧ va_P D vwCl (PO ca ao (lnF f o)) t.heap) (fun q => A q ∨ q = ao)) 1 6 (fun q => A q ∨ q = ao) := by
  refine Met.ofWH (cc := cL_named) (maxL := 4) (ret := (some .int)) (hh := [(0, 9, 12, 13)]) (ws' := ALL) (by decide +kernel) rfl ?_
  intro p e s m args below meth c s₁ B hml hv
  obtain ⟨rfl, ⟨hP, hK, hZ⟩, hO⟩ := hv
  have hx := B.exec
  have hb := B.bytes
  have hr := B.returns
  have hlocks := B.notSynchronized
  have hts : ∀ w ∈ ALL, w.before _ s = true := fun w hw => atoms_spec (ws := wsN) B.pre w (List.mem_cons_of_mem _ hw)
  have hown : s.vm.findClass RL = some m.cls := findClass_of_methodNamed B.named
  have htab : c.exceptionTable.toList = tableOf [(0, 9, 12, 13)] := vx_table (x := yL_named) (bytes := cL_named) (maxL' := 4) (ret' := some .int) B (atoms_spec (ws := wsN) B.pre _ List.mem_cons_self)
  obtain ⟨z1, -, -, -, -⟩ := hZn s hZ
  have hcast : (Cond.castable "java/util/NoSuchElementException" "java/util/NoSuchElementException").before #[.ref (ad 8 0), .int x1, .ref ao] s = true := vx_ot_at (State.WarmedH.refl s) rfl (List.all_eq_true.mp XW_ot _ (List.mem_cons_of_mem _ (List.mem_cons_of_mem _ cast_in))) (z1 _ cast_in)
  have hl := lv_entry ([.ref (ad 8 0), .int x1, .ref ao]) (n := 4) (Nat.le_of_ble_eq_true rfl)
  rw [lg_entry_eq]
  generalize (lg_sl ([.ref (ad 8 0), .int x1, .ref ao]) ++ List.replicate (4 - (lg_sl ([.ref (ad 8 0), .int x1, .ref ao])).length) Slot.unset).toArray = ls at hl ⊢
  have hl : lv_has ls 4 [(0, .ref (ad 8 0)), (1, .int x1), (2, .ref ao)] := hl
  show W p l e rmL s m _ below meth c s.heap [] 0 0 _ _
  obtain ⟨q0, -, hq⟩ := wl_at (ad := ad) (ent ca ad w) (hok.2.1 8 0 (Nat.le_of_ble_eq_true rfl))
  have hS0 : va_S (fun q => A q ∨ q = ao) s.heap s.heap [] := va_S.rf
  refine lv_aload_n hx hb dL_named_0 rfl (lv_at hl 2 rfl) ?_
  refine lv_iconst (v := 0) hx hb dL_named_1 (by decide) ?_
  refine lv_aload_n hx hb dL_named_2 rfl (lv_at hl 0 rfl) ?_
  refine lv_iload_n hx hb dL_named_3 rfl (lv_at hl 1 rfl) ?_
  have hrun := vx_runV (R := rmL) (s := s) (H := s.heap) (locs := []) (cells := 0) (slots := 0) (below := below) (meth := meth) (e := e) (C := RX8) (b := ad 8 0) (As := [.int x1]) (rest := [.int 0, .ref ao]) (g := F0 m 4 ls (.int x1 :: .ref (ad 8 0) :: .int 0 :: .ref ao :: [])) ⟨hx, hb, hml, hown, hts⟩ (c_X8_named l hfl D ca ad PL Z A hok hZn N w x1 o ho) (cwV 1 hts (gdV cw_X8_named0 ml_L_7) rfl rfl rfl cw_X8_named0.2.2.2.2 ⟨Nat.le_of_ble_eq_true rfl, Nat.le_of_ble_eq_true rfl⟩) ⟨rx_blind hok.2.2.1, va_recv hK hP rfl hq, fun U hU hWm => ⟨rfl, by rw [hU]; exact hP, va_K.moved hWm.alike hK, hok.2.2.1.2 s U hZ hWm (fun q9 h1 h2 => by rw [hU]) (by rw [hU]; exact Nat.le_refl _)⟩⟩ rfl rfl hl.1 rfl (Nat.le_of_ble_eq_true rfl) dL_named_4 ⟨Nat.le_of_ble_eq_true rfl, Nat.le_of_ble_eq_true rfl⟩
  refine vx_calli hrun hS0 (fun q _ h => Or.inl h) (fun q h => Or.inl h) (fun q _ h => Or.inl h) ?_ ?_
  · intro E ce q9 u t H1 locs1 ht hvm hno hB hz hk hS hce hcv hcl
    obtain ⟨rfl, hP1⟩ := hB
    rw [ht] at hP1
    have hO1 : va_P D vwCl (PO ca ao f) H1 := hO.kept (fun k q hk9 => hk _ (hO k q hk9).lt (by
      have : q.1 = ao := by
        cases k with
        | zero => cases hk9; rfl
        | succ k => simp [PO] at hk9
      rw [this]; exact hao))
    refine vx_catch (own := RL) (name := "java/util/NoSuchElementException") hown [] ⟨0, 9, 12, 13⟩ [] (by rw [htab]; rfl) (fun z hz => by cases hz) (by decide +kernel) (by decide) (hts _ cl_L_13) hcast hce hcv hcl ?_
    refine lv_astore_n (lv' := [(3, .ref q9), (0, .ref (ad 8 0)), (1, .int x1), (2, .ref ao)]) hx hb dL_named_12 rfl hl (by decide) rfl (fun ls hl => ?_)
    refine lv_iconst (v := 1) hx hb dL_named_13 (by decide) ?_
    exact W.zret hx hb hr rfl (fun t ht hW => ⟨⟨1, (), rfl, by rw [hno]; rfl, by show va_P D vwCl _ t.heap ∧ va_P D vwCl _ t.heap; rw [ht, hno]; exact ⟨hP1, hO1⟩⟩, hS.F ht⟩) hS.2.2 dL_named_14 (hlocks := hlocks)
  · intro r u t H1 locs1 ht hvm hso hP1 hz hk hS
    have hP1 : va_P D vwCl (wl ad PL (ent ca ad w)) t.heap := hP1
    rw [ht] at hP1
    have hO1 : va_P D vwCl (PO ca ao f) H1 := hO.kept (fun k q hk9 => hk _ (hO k q hk9).lt (by
      have : q.1 = ao := by
        cases k with
        | zero => cases hk9; rfl
        | succ k => simp [PO] at hk9
      rw [this]; exact hao))
    have hDw := wl_D (ent ca ad w) hok.1
    have hD1 : va_D (fun q => A q ∨ q = ao) ((ao, .inl (ca 2, (1, .inr (.inl f)))) :: wl ad PL (ent ca ad w)) := ⟨fun i j p q hi hj hpq => by
      cases i with
      | zero =>
        cases j with
        | zero => rfl
        | succ j =>
          cases hi
          exact absurd (hDw.2 j q hj) (by rw [← hpq]; exact hao)
      | succ i =>
        cases j with
        | zero =>
          cases hj
          exact absurd (hDw.2 i p hi) (by rw [hpq]; exact hao)
        | succ j => rw [hDw.1 i j p q hi hj hpq], fun k q hk9 => by
      cases k with
      | zero => cases hk9; exact Or.inr rfl
      | succ k => exact Or.inl (hDw.2 k q hk9)⟩
    have hA1 : va_P D vwCl ((ao, .inl (ca 2, (1, .inr (.inl f)))) :: wl ad PL (ent ca ad w)) H1 := fun k q hk9 => by
      cases k with
      | zero => exact hO1 0 q hk9
      | succ k => exact hP1 k q hk9
    refine lv_i2l hx hb dL_named_7 rfl ?_
    refine va_last (D := D) (cl := vwCl) (a := ao) (i := 0) hx hb hK hA1 hD1 hS 0 2 rfl rfl (inb_in (show inb 0 1 = true by decide)) dL_named_8 (fun H2 locs2 hA2 hD2 hS2 => ?_)
    have hA3 : va_P D vwCl ((ao, .inl (ca 2, (1, .inr (.inl (vp_updL f 0 r.toInt64))))) :: wl ad PL (ent ca ad w)) H2 := hA2
    have hP2 : va_P D vwCl (wl ad PL (ent ca ad w)) H2 := fun k q hk9 => hA3 (k + 1) q hk9
    have hO2 : va_P D vwCl (PO ca ao (vp_updL f 0 r.toInt64)) H2 := fun k q hk9 => by
      cases k with
      | zero => exact hA3 0 q hk9
      | succ k => simp [PO] at hk9
    refine lv_goto (tgt := 15) hx hb dL_named_9 (by decide) ?_
    refine lv_iconst (v := 0) hx hb dL_named_15 (by decide) ?_
    exact W.zret hx hb hr rfl (fun t ht hW => ⟨⟨0, (), rfl, by rw [hso]; rfl, by show va_P D vwCl _ t.heap ∧ va_P D vwCl _ t.heap; rw [ht, hso]; exact ⟨hP2, hO2⟩⟩, hS2.F ht⟩) hS2.2.2 dL_named_16 (hlocks := hlocks)
