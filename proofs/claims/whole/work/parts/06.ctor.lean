/-! the constructors: what cells they make -/
section CTR
variable {p : Program} {l : Launch} {e : Env} {R : Room} {s : State} {m : MethodId} {args : Array Value} {below : List Frame} {meth : Method} {c : Code} {H : Heap} {locs : List Loc} {cells slots : Nat} {Q : State → Prop}
variable {cc : ByteArray} {pc : Nat} {ls : Array Slot} {rest : List Value} {own : String} {nL : Nat} {D : va_G} {ca : Nat → ClassId} {A : Nat → Prop} {Z : State → Prop} {H0 : Heap}

theorem app_at {X L : va_W} {j : Nat} {x : Nat × va_E} (h : L[j]? = some x) : (X ++ L)[X.length + j]? = some x := by
  rw [List.getElem?_append_right (Nat.le_add_right _ _), Nat.add_sub_cancel_left]; exact h
theorem app_set {X L : va_W} (j : Nat) (x : Nat × va_E) : (X ++ L).set (X.length + j) x = X ++ L.set j x := by
  rw [List.set_append_right _ _ (Nat.le_add_right _ _), Nat.add_sub_cancel_left]
def NST : List (String × Nat × MethodName × String) := [(RX8, 11, yX6_init, RX8), (RX8, 18, yX0_init, RX8), (RX4, 25, yX3_init, RX8), (RX8, 32, yX3_init, RX8), (RX8, 42, yX1_init, RX8), (RX1, 11, yX7_init, RX8), (RX1, 20, yX3_init, RX8), (RX1, 27, yX2_init, RX8)]
def NW (U : State) : Prop := (∀ q ∈ NST, va_Nw (.methodLinkNest q.1 q.2.1 q.2.2.1 q.2.2.2) U) ∧ va_AO RX3 U
theorem NW.warm {s U : State} (hW : s.WarmedH U.vm) (h : NW s) : NW U := ⟨fun q hq => va_Nw.warmM hW (h.1 q hq), va_AO.moved hW.alike h.2⟩
theorem NW.calling {U : State} {g : JFrame} {mk : MethodId} {a : Array Value} (h : NW U) : NW (U.calling g mk a) := ⟨fun q hq => va_Nw.same rfl rfl (h.1 q hq), va_AO.moved (u := U) (U := U.calling g mk a) (Vm.Alike.refl U.vm) h.2⟩
/-- a constructor without arguments: out of a blank object its cells, at addresses f 0, f 1, .. -/
def ctorC (l : Launch) (D : va_G) (ca : Nat → ClassId) (k : Nat) (nulls : List Value) (y : MethodName) (ws : List Cond) (rm : Room) (cells : (Nat → Nat) → va_W) (mc ms : Nat) : Prop :=
  ∀ (X : va_W) (a sz : Nat), Met l y ws rm (va_Pc [.ref a] (fun U => U.heap.size = sz ∧ va_P D vwCl (X ++ [(a, .inr (k, nulls))]) U.heap ∧ va_K D vwCl (tysA ca) U ∧ va_D (fun _ => True) (X ++ [(a, .inr (k, nulls))]) ∧ NW U)) (va_Qv (fun f : Nat → Nat => f 0 = a) (fun f t => va_P D vwCl (X ++ cells f) t.heap ∧ va_K D vwCl (tysA ca) t ∧ va_D (va_A (X ++ [(a, .inr (k, nulls))]) sz) (X ++ cells f)) (va_A (X ++ [(a, .inr (k, nulls))]) sz)) mc ms (va_A (X ++ [(a, .inr (k, nulls))]) sz)
theorem rn_putF {X L : va_W} {a ci j k idx : Nat} {Cn : String} {T : u_T} {Nf : Nat} {fs : List Value} {v : Value} {ty0 : Nat → FieldType} (C : CX p s m args c cc own nL D ca Z) (hin : ∀ w ∈ u_ws Cn T Nf, w ∈ ALL) (hty : ∀ k, k < Nf → parseFieldDescriptor (T k).2.2.1 = some (ty0 k)) (hnm : ∀ a, a < Nf → ∀ b, b < Nf → a ≠ b → (T a).2.1 ≠ (T b).2.1) (hP : va_P D vwCl (X ++ L) H) (hD : va_D A (X ++ L)) (hS : va_S A H0 H locs) (he : L[j]? = some (a, .inr (ci, fs))) (hcl : vwCl[ci]? = some (Cn, T, Nf)) (hk : k < Nf) (hkl : k < fs.length) (hfin : (T k).2.2.2 = true) (hin2 : meth.name = "<init>") (hdecl : (T k).1 = own) (hn : narrow (ty0 k) v = v) (hfit : fits (ty0 k) v = true)
    (hlk : Cond.fieldLink own idx (T k).1 (T k).2.1 (T k).2.2.1 ∈ ALL) (hdg : decode cc pc = .ok (.putfield idx, 3)) (kk : ∀ (H1 : Heap) (locs1 : List Loc), va_P D vwCl (X ++ L.set j (a, .inr (ci, fs.set k v))) H1 → va_D A (X ++ L.set j (a, .inr (ci, fs.set k v))) → va_S A H0 H1 locs1 → W p l e R s m args below meth c H1 locs1 cells slots Q (F0 m (pc + 3) ls rest)) : W p l e R s m args below meth c H locs cells slots Q (F0 m pc ls (v :: .ref a :: rest)) := by
  obtain ⟨hx, hb, hml, hown, hts, hK, -⟩ := C
  refine va_putF (D := D) (ci := ci) (v := v) (ty := ty0 k) (C := Cn) (T := T) (N := Nf) hx hb hts hin ty0 hty hnm hown hK hP hD hS (X.length + j) (app_at he) hcl k hk (hts _ hlk) (fun _ h9 => h9) hfin hin2 hdecl (hty k hk) hn hfit hkl hdg (fun H1 locs1 hP1 hD1 hS1 => ?_)
  rw [app_set] at hP1 hD1
  exact kk H1 locs1 hP1 hD1 hS1
theorem rn_put {X L : va_W} {a ci j k idx : Nat} {Cn : String} {T : u_T} {Nf : Nat} {fs : List Value} {v : Value} {ty0 : Nat → FieldType} (C : CX p s m args c cc own nL D ca Z) (hin : ∀ w ∈ u_ws Cn T Nf, w ∈ ALL) (hty : ∀ k, k < Nf → parseFieldDescriptor (T k).2.2.1 = some (ty0 k)) (hnm : ∀ a, a < Nf → ∀ b, b < Nf → a ≠ b → (T a).2.1 ≠ (T b).2.1) (hP : va_P D vwCl (X ++ L) H) (hD : va_D A (X ++ L)) (hS : va_S A H0 H locs) (he : L[j]? = some (a, .inr (ci, fs))) (hcl : vwCl[ci]? = some (Cn, T, Nf)) (hk : k < Nf) (hkl : k < fs.length) (hfin : (T k).2.2.2 = false) (hn : narrow (ty0 k) v = v) (hfit : fits (ty0 k) v = true)
    (hlk : Cond.fieldLink own idx (T k).1 (T k).2.1 (T k).2.2.1 ∈ ALL) (hdg : decode cc pc = .ok (.putfield idx, 3)) (kk : ∀ (H1 : Heap) (locs1 : List Loc), va_P D vwCl (X ++ L.set j (a, .inr (ci, fs.set k v))) H1 → va_D A (X ++ L.set j (a, .inr (ci, fs.set k v))) → va_S A H0 H1 locs1 → W p l e R s m args below meth c H1 locs1 cells slots Q (F0 m (pc + 3) ls rest)) : W p l e R s m args below meth c H locs cells slots Q (F0 m pc ls (v :: .ref a :: rest)) := by
  obtain ⟨hx, hb, hml, hown, hts, hK, -⟩ := C
  refine va_put (D := D) (ci := ci) (v := v) (ty := ty0 k) (C := Cn) (T := T) (N := Nf) hx hb hts hin ty0 hty hnm hown hK hP hD hS (X.length + j) (app_at he) hcl k hk (hts _ hlk) (fun _ h9 => h9) hfin (hty k hk) hn hfit hkl hdg (fun H1 locs1 hP1 hD1 hS1 => ?_)
  rw [app_set] at hP1 hD1
  exact kk H1 locs1 hP1 hD1 hS1
theorem rn_arr {X L : va_W} {atype : ArrayType} {ty : FieldType} {t0 q0 : Nat} {n : Int32} {N' : Nat} {a0 : vp_A} (C : CX p s m args c cc own nL D ca Z) (hty : newarray.typeOf atype = ty) (ht : (tysA ca)[t0]? = some (ca q0, ty)) (hfn : ∀ cA, va_RA s cA ty → va_RA s (ca q0) ty → cA = ca q0) (hac : Cond.arrayClass ty ∈ ALL) (hP : va_P D vwCl (X ++ L) H) (hD : va_D A (X ++ L)) (hS : va_S A H0 H locs) (hA : ∀ q, H0.size ≤ q → A q)
    (ha : ∀ cA : ClassId, vp_cell cA a0 = arrV cA N' (fun _ => defaultValue ty)) (hn : ¬ n < 0) (hN : n.toNatClampNeg = N') (hbytes : N' * componentBytes ty ≤ 536870912) (hcells : cells + 1 ≤ R.cells) (hslots : slots + N' ≤ R.slots) (hdg : decode cc pc = .ok (.newarray atype, 2))
    (kk : ∀ (q : Nat) (H1 : Heap), va_P D vwCl (X ++ (L ++ [(q, .inl (ca q0, a0))])) H1 → va_D A (X ++ (L ++ [(q, .inl (ca q0, a0))])) → va_S A H0 H1 locs → W p l e R s m args below meth c H1 locs (cells + 1) (slots + N') Q (F0 m (pc + 2) ls (.ref q :: rest))) : W p l e R s m args below meth c H locs cells slots Q (F0 m pc ls (.int n :: rest)) := by
  obtain ⟨hx, hb, hml, hown, hts, hK, -⟩ := C
  refine va_newa (ty := ty) hx hb (by rw [hty]; exact hts _ hac) hty hK hP hD hS hA ha hn hN hbytes hcells hslots hdg (fun q cA H1 hK1 hP1 hD1 hS1 => ?_)
  have e1 := (hK1.2 (tysA ca).length (cA, ty) (by simp)).2
  have e2 := (hK.2 t0 (ca q0, ty) ht).2
  have e3 := hfn cA e1 e2
  subst e3
  rw [List.append_assoc] at hP1 hD1
  exact kk q H1 hP1 hD1 hS1
theorem rn_arq {X L : va_W} {idx : Nat} {n : Int32} {N' : Nat} (C : CX p s m args c cc own nL D ca Z) (hN : NW s) (hP : va_P D vwCl (X ++ L) H) (hD : va_D A (X ++ L)) (hS : va_S A H0 H locs) (hA : ∀ q, H0.size ≤ q → A q)
    (hn : ¬ n < 0) (hn2 : n.toNatClampNeg = N') (hbytes : N' * 4 ≤ 536870912) (hcells : cells + 1 ≤ R.cells) (hslots : slots + N' ≤ R.slots) (hcl : Cond.classLink own idx RX3 ∈ ALL) (hdg : decode cc pc = .ok (.anewarray idx, 3))
    (kk : ∀ (q : Nat) (H1 : Heap), va_P D vwCl (X ++ (L ++ [(q, .inl (ca 4, N', .inr (.inr (.inr (.inr (fun _ => none))))))])) H1 → va_D A (X ++ (L ++ [(q, .inl (ca 4, N', .inr (.inr (.inr (.inr (fun _ => none))))))])) → va_S A H0 H1 locs → W p l e R s m args below meth c H1 locs (cells + 1) (slots + N') Q (F0 m (pc + 3) ls (.ref q :: rest))) : W p l e R s m args below meth c H locs cells slots Q (F0 m pc ls (.int n :: rest)) := by
  obtain ⟨hx, hb, hml, hown, hts, hK, -⟩ := C
  refine va_newq hx hb hown (hts _ hcl) hN.2 hK hP hD hS hA hn hn2 hbytes hcells hslots hdg (fun q cA H1 hK1 hP1 hD1 hS1 => ?_)
  obtain ⟨k1, m1, -, -, -, e1⟩ := (hK1.2 (tysA ca).length (cA, .object RX3) (by simp)).2
  obtain ⟨k2, m2, -, -, -, e2⟩ := (hK.2 4 (ca 4, .object RX3) rfl).2
  have e3 : cA = ca 4 := Option.some.inj (e1.symm.trans e2)
  subst e3
  rw [List.append_assoc] at hP1 hD1
  exact kk q H1 hP1 hD1 hS1
theorem rn_objN {X L : va_W} {k idx idx2 mc ms Nf : Nat} {Cn host : String} {T : u_T} {ty0 : Nat → FieldType} {nulls : List Value} {y : MethodName} {bytes : ByteArray} {maxL : Nat} {rm : Room} {cel : (Nat → Nat) → va_W} (C : CX p s m args c cc own nL D ca Z) (hsz : ls.size = nL) (hin : ∀ w ∈ u_ws Cn T Nf, w ∈ ALL) (hty : ∀ k, k < Nf → parseFieldDescriptor (T k).2.2.1 = some (ty0 k)) (hcl : vwCl[k]? = some (Cn, T, Nf)) (hfs : ∀ j, j < Nf → defaultValue (ty0 j) = vp_V nulls j)
    (hM : ctorC l D ca k nulls y (wsy y bytes maxL none) rm cel mc ms) (w1 : Cond.classLink own idx Cn ∈ ALL) (w2 : Cond.instantiable Cn Nf ∈ ALL) (w3 : Cond.initialized Cn ∈ ALL) (w4 : Cond.instanceMethod y ∈ ALL) (w5 : Cond.code y bytes maxL none ∈ ALL) (hyc : y.cls = Cn) (hyn : y.name = "<init>")
    (hN : NW s) (hcall : (own, idx2, y, host) ∈ NST ∨ Cond.methodLink own idx2 y ∈ ALL) (hd : y.cls ≠ "java/lang/invoke/MethodHandle" ∧ y.cls ≠ "java/lang/invoke/VarHandle" ∧ (parseMethodDescriptor y.desc).map (fun d => d.parameters.length) = some 0)
    (hP : va_P D vwCl (X ++ L) H) (hD : va_D A (X ++ L)) (hS : va_S A H0 H locs) (hA : ∀ q, H0.size ≤ q → A q) (hcells : cells + 1 + mc ≤ R.cells) (hslots : slots + Nf + ms ≤ R.slots) (hrm : rm.cells = mc ∧ rm.slots = ms) (hrm2 : rm.frames + 1 ≤ R.frames ∧ 8 + (maxL + 11) + rm.locals ≤ R.locals) (hW : ((rest).map fun v => v.category).sum ≤ 7)
    (d1 : decode cc pc = .ok (.new idx, 3)) (d2 : decode cc (pc + 3) = .ok (.dup, 1)) (d3 : decode cc (pc + 3 + 1) = .ok (.invokespecial idx2, 3))
    (kk : ∀ (f : Nat → Nat) (H1 : Heap) (locs1 : List Loc), va_P D vwCl (X ++ (L ++ cel f)) H1 → va_D A (X ++ (L ++ cel f)) → va_S A H0 H1 locs1 → W p l e R s m args below meth c H1 locs1 (cells + 1 + mc) (slots + Nf + ms) Q (F0 m (pc + 3 + 1 + 3) ls (.ref (f 0) :: rest))) : W p l e R s m args below meth c H locs cells slots Q (F0 m pc ls rest) := by
  obtain ⟨hx, hb, hml, hown, hts, hK, -⟩ := C
  refine va_new (C := Cn) (T := T) (N := Nf) (ci := k) (fs := nulls) hx hb hts hin ty0 hty hown (hts _ w1) (hts _ w2) (hts _ w3) hK hP hD hS hA hcl hfs (by omega) (by omega) d1 (fun q H1 hP hD hS => ?_)
  refine lv_dup hx hb d2 rfl ?_
  have hrun : va_Run p l e R s m args below meth c H1 locs (cells + 1) (slots + Nf) mc ms (F0 m (pc + 3 + 1) ls (.ref q :: .ref q :: rest)) (.ref q :: rest) (va_Qv (fun f : Nat → Nat => f 0 = q) (fun f t => va_P D vwCl ((X ++ L) ++ cel f) t.heap ∧ va_K D vwCl (tysA ca) t ∧ va_D (va_A ((X ++ L) ++ [(q, .inr (k, nulls))]) H1.size) ((X ++ L) ++ cel f)) (va_A ((X ++ L) ++ [(q, .inr (k, nulls))]) H1.size) (Value.ref q :: []).toArray) (va_A ((X ++ L) ++ [(q, .inr (k, nulls))]) H1.size) := by
    have hpre : PreS s H1 (va_Pc [.ref q] (fun U => U.heap.size = H1.size ∧ va_P D vwCl ((X ++ L) ++ [(q, .inr (k, nulls))]) U.heap ∧ va_K D vwCl (tysA ca) U ∧ va_D (fun _ => True) ((X ++ L) ++ [(q, .inr (k, nulls))]) ∧ NW U)) (.ref q :: []) :=
      ⟨fun a U g mk z => ⟨z.1, z.2.1, z.2.2.1, va_K.moved (u := U) (U := U.calling g mk a) (Vm.Alike.refl U.vm) z.2.2.2.1, z.2.2.2.2.1, NW.calling z.2.2.2.2.2⟩, fun U hU hWm => ⟨rfl, by rw [hU], by rw [hU]; exact hP, va_K.moved hWm.alike hK, ⟨hD.1, fun _ _ _ => trivial⟩, hN.warm hWm⟩⟩
    have hGd : GoodIn ALL (wsy y bytes maxL none) := by
      intro w h
      have hm : w ∈ ALL := by
        rcases List.mem_cons.mp h with rfl | h
        · exact w5
        · exact h
      exact ⟨hm, ALL_gd w hm⟩
    rcases hcall with h1 | h1
    · exact va_runIN (As := []) (rest := .ref q :: rest) ⟨hx, hb, hml, hown, hts⟩ (hM (X ++ L) q H1.size) ⟨va_cnB (host := host) 0 hts hGd rfl hrm.1 hrm.2 (hN.1 _ h1) (by rw [hyc]; exact hts _ w3) hd hrm2, hyn, hts _ w4⟩ hpre rfl rfl hsz rfl (by show 2 * 0 + (1 + (rest.map fun v => v.category).sum) ≤ 8; omega) d3 ⟨by omega, by omega⟩
    · exact va_runI (As := []) (rest := .ref q :: rest) ⟨hx, hb, hml, hown, hts⟩ (hM (X ++ L) q H1.size) (cwI 0 hts hGd rfl hrm.1 hrm.2 (by rw [hyc]; exact hts _ w3) (hts _ h1) (hts _ w4) hyn hd hrm2) hpre rfl rfl hsz rfl (by show 2 * 0 + (1 + (rest.map fun v => v.category).sum) ≤ 8; omega) d3 ⟨by omega, by omega⟩
  have hfr : ∀ z, va_A ((X ++ L) ++ [(q, .inr (k, nulls))]) H1.size z → A z := fun z h => h.elim (fun ⟨i, x, h⟩ => hD.2 i (z, x) h) (fun h => hA z (Nat.le_trans hS.1 h))
  refine va_callv hrun hS (fun z _ h => hfr z h) hfr (fun f t H2 locs1 ht hvm hw hB hz hk hS => ?_)
  obtain ⟨hP2, -, hD2⟩ := hB
  rw [ht] at hP2
  have hD3 := hD2.weaken (fun i x _ h => hfr _ h)
  rw [List.append_assoc] at hP2 hD3
  subst hw
  exact kk f H2 locs1 hP2 hD3 hS
end CTR
def cl_X6 (ca : Nat → ClassId) (f : Nat → Nat) : va_W := (f 0, .inr (6, [.ref (f 1), .int 0])) :: ([] ++ [(f 1, .inl (ca 1, (500, .inl (fun _ => 0))))])
set_option maxRecDepth 100000 in
set_option maxHeartbeats 4000000 in
theorem i_X6 (l : Launch) (D : va_G) (ca : Nat → ClassId) : ctorC l D ca 6 [.null, .int 0] yX6_init (wsy yX6_init cX6_init 1 none) ({ frames := 1, cells := 1, slots := 500, locals := 52 } : Room) (cl_X6 ca) 1 500 := by
  intro X a sz
  refine Met.ofW (cc := cX6_init) (maxL := 1) (ret := none) (by decide +kernel) rfl ?_
  intro p e s m args below meth c s₁ B hml hv
  obtain ⟨rfl, hsz, hP, hK, hD0, hN⟩ := hv
  have hx := B.exec
  have hb := B.bytes
  have hr := B.returns
  have hlocks := B.notSynchronized
  have hts : ∀ w ∈ ALL, w.before _ s = true := fun w hw => atoms_spec (ws := wsy yX6_init cX6_init 1 none) B.pre w (List.mem_cons_of_mem _ hw)
  have hown : s.vm.findClass RX6 = some m.cls := findClass_of_methodNamed B.named
  have hin2 : meth.name = "<init>" := (name_of_methodNamed B.named B.method).1
  have C : CX p s m _ c cX6_init RX6 1 D ca (fun _ => True) := ⟨hx, hb, hml, hown, hts, hK, trivial⟩
  subst hsz
  have hD := hD0.self (sz := s.heap.size)
  generalize hAe : va_A (X ++ [(a, .inr (6, [.null, .int 0]))]) s.heap.size = A at hD ⊢
  have hA : ∀ q : Nat, s.heap.size ≤ q → A q := fun q h => by rw [← hAe]; exact Or.inr h
  have hS : va_S A s.heap s.heap [] := va_S.rf
  have hl := lv_entry ([.ref a]) (n := 1) (Nat.le_of_ble_eq_true rfl)
  rw [lg_entry_eq]
  generalize (lg_sl ([.ref a]) ++ List.replicate (1 - (lg_sl ([.ref a])).length) Slot.unset).toArray = ls at hl ⊢
  have hl : lv_has ls 1 [(0, .ref a)] := hl
  show W p l e ({ frames := 1, cells := 1, slots := 500, locals := 52 } : Room) s m _ below meth c s.heap [] 0 0 _ _
  have hP : va_P D vwCl (X ++ ((a, .inr (6, [.null, .int 0])) :: ([]))) s.heap := hP
  have hD : va_D A (X ++ ((a, .inr (6, [.null, .int 0])) :: ([]))) := hD
  refine lv_aload_n hx hb dX6_init_0 rfl (lv_at hl 0 rfl) ?_
  refine W.objInit hx hb hown (hts _ ml_X6_3) (hts _ im_objectInit) (hts _ cd_objectInit) rfl (by rw [hml]; exact hl.1) rfl dX6_init_1 (Nat.le_of_ble_eq_true rfl) (Nat.le_of_ble_eq_true rfl) ?_
  refine W.eq (g2 := F0 m 4 ls []) rfl ?_
  refine lv_aload_n hx hb dX6_init_4 rfl (lv_at hl 0 rfl) ?_
  refine lv_sipush (v := (500 : Int32)) hx hb dX6_init_5 (by decide) ?_
  refine rn_arr (ty := .byte) (t0 := 1) (q0 := 1) (N' := 500) (a0 := (500, .inl (fun _ => 0))) C rfl rfl (fun cA h1 h2 => Option.some.inj (h1.symm.trans h2)) ac__byte hP hD hS hA (fun _ => rfl) (by decide +kernel) (by decide +kernel) (Nat.le_of_ble_eq_true rfl) (Nat.le_of_ble_eq_true rfl) (Nat.le_of_ble_eq_true rfl) dX6_init_8 (fun q1 H hP hD hS => ?_)
  have hP : va_P D vwCl (X ++ ((a, .inr (6, [.null, .int 0])) :: ([] ++ [(q1, .inl (ca 1, (500, .inl (fun _ => 0))))]))) H := hP
  have hD : va_D A (X ++ ((a, .inr (6, [.null, .int 0])) :: ([] ++ [(q1, .inl (ca 1, (500, .inl (fun _ => 0))))]))) := hD
  refine rn_putF (ci := 6) (j := 0) (k := 0) (T := TX6) (Nf := 2) (ty0 := tyX6) (v := .ref q1) (fs := [.null, .int 0]) C in_wsX60 tyX6_ok nmX6 hP hD hS rfl rfl (Nat.le_of_ble_eq_true rfl) (Nat.le_of_ble_eq_true rfl) rfl hin2 rfl rfl rfl lk_X6_9 dX6_init_10 (fun H locs hP hD hS => ?_)
  have hP : va_P D vwCl (X ++ ((a, .inr (6, [.ref q1, .int 0])) :: ([] ++ [(q1, .inl (ca 1, (500, .inl (fun _ => 0))))]))) H := hP
  have hD : va_D A (X ++ ((a, .inr (6, [.ref q1, .int 0])) :: ([] ++ [(q1, .inl (ca 1, (500, .inl (fun _ => 0))))]))) := hD
  refine W.widen (k := 1) (n := 500) (Nat.le_of_ble_eq_true rfl) (Nat.le_of_ble_eq_true rfl) ?_
  exact W.vret hx hb hr (fun t ht hW => ⟨⟨(fun j => match j with | 0 => a | 1 => q1 | _ => 0), rfl, rfl, by rw [ht]; exact hP, va_K.moved hW.alike hK, hD⟩, hS.F ht⟩) hS.2.2 dX6_init_13 (hlocks := hlocks)
def cl_X0 (ca : Nat → ClassId) (f : Nat → Nat) : va_W := (f 0, .inr (0, [.ref (f 1), .ref (f 2), .ref (f 3), .int 0, .int 0])) :: ([] ++ [(f 1, .inl (ca 0, (576, .inl (fun _ => 0))))] ++ [(f 2, .inl (ca 0, (576, .inl (fun _ => 0))))] ++ [(f 3, .inl (ca 0, (576, .inl (fun _ => 0))))])
set_option maxRecDepth 100000 in
set_option maxHeartbeats 4000000 in
theorem i_X0 (l : Launch) (D : va_G) (ca : Nat → ClassId) : ctorC l D ca 0 [.null, .null, .null, .int 0, .int 0] yX0_init (wsy yX0_init cX0_init 1 none) ({ frames := 1, cells := 3, slots := 1728, locals := 52 } : Room) (cl_X0 ca) 3 1728 := by
  intro X a sz
  refine Met.ofW (cc := cX0_init) (maxL := 1) (ret := none) (by decide +kernel) rfl ?_
  intro p e s m args below meth c s₁ B hml hv
  obtain ⟨rfl, hsz, hP, hK, hD0, hN⟩ := hv
  have hx := B.exec
  have hb := B.bytes
  have hr := B.returns
  have hlocks := B.notSynchronized
  have hts : ∀ w ∈ ALL, w.before _ s = true := fun w hw => atoms_spec (ws := wsy yX0_init cX0_init 1 none) B.pre w (List.mem_cons_of_mem _ hw)
  have hown : s.vm.findClass RX0 = some m.cls := findClass_of_methodNamed B.named
  have hin2 : meth.name = "<init>" := (name_of_methodNamed B.named B.method).1
  have C : CX p s m _ c cX0_init RX0 1 D ca (fun _ => True) := ⟨hx, hb, hml, hown, hts, hK, trivial⟩
  subst hsz
  have hD := hD0.self (sz := s.heap.size)
  generalize hAe : va_A (X ++ [(a, .inr (0, [.null, .null, .null, .int 0, .int 0]))]) s.heap.size = A at hD ⊢
  have hA : ∀ q : Nat, s.heap.size ≤ q → A q := fun q h => by rw [← hAe]; exact Or.inr h
  have hS : va_S A s.heap s.heap [] := va_S.rf
  have hl := lv_entry ([.ref a]) (n := 1) (Nat.le_of_ble_eq_true rfl)
  rw [lg_entry_eq]
  generalize (lg_sl ([.ref a]) ++ List.replicate (1 - (lg_sl ([.ref a])).length) Slot.unset).toArray = ls at hl ⊢
  have hl : lv_has ls 1 [(0, .ref a)] := hl
  show W p l e ({ frames := 1, cells := 3, slots := 1728, locals := 52 } : Room) s m _ below meth c s.heap [] 0 0 _ _
  have hP : va_P D vwCl (X ++ ((a, .inr (0, [.null, .null, .null, .int 0, .int 0])) :: ([]))) s.heap := hP
  have hD : va_D A (X ++ ((a, .inr (0, [.null, .null, .null, .int 0, .int 0])) :: ([]))) := hD
  refine lv_aload_n hx hb dX0_init_0 rfl (lv_at hl 0 rfl) ?_
  refine W.objInit hx hb hown (hts _ ml_X0_3) (hts _ im_objectInit) (hts _ cd_objectInit) rfl (by rw [hml]; exact hl.1) rfl dX0_init_1 (Nat.le_of_ble_eq_true rfl) (Nat.le_of_ble_eq_true rfl) ?_
  refine W.eq (g2 := F0 m 4 ls []) rfl ?_
  refine lv_aload_n hx hb dX0_init_4 rfl (lv_at hl 0 rfl) ?_
  refine lv_sipush (v := (576 : Int32)) hx hb dX0_init_5 (by decide) ?_
  refine rn_arr (ty := .int) (t0 := 0) (q0 := 0) (N' := 576) (a0 := (576, .inl (fun _ => 0))) C rfl rfl (fun cA h1 h2 => Option.some.inj (h1.symm.trans h2)) ac__int hP hD hS hA (fun _ => rfl) (by decide +kernel) (by decide +kernel) (Nat.le_of_ble_eq_true rfl) (Nat.le_of_ble_eq_true rfl) (Nat.le_of_ble_eq_true rfl) dX0_init_8 (fun q1 H hP hD hS => ?_)
  have hP : va_P D vwCl (X ++ ((a, .inr (0, [.null, .null, .null, .int 0, .int 0])) :: ([] ++ [(q1, .inl (ca 0, (576, .inl (fun _ => 0))))]))) H := hP
  have hD : va_D A (X ++ ((a, .inr (0, [.null, .null, .null, .int 0, .int 0])) :: ([] ++ [(q1, .inl (ca 0, (576, .inl (fun _ => 0))))]))) := hD
  refine rn_putF (ci := 0) (j := 0) (k := 0) (T := TX0) (Nf := 5) (ty0 := tyX0) (v := .ref q1) (fs := [.null, .null, .null, .int 0, .int 0]) C in_wsX00 tyX0_ok nmX0 hP hD hS rfl rfl (Nat.le_of_ble_eq_true rfl) (Nat.le_of_ble_eq_true rfl) rfl hin2 rfl rfl rfl lk_X0_9 dX0_init_10 (fun H locs hP hD hS => ?_)
  have hP : va_P D vwCl (X ++ ((a, .inr (0, [.ref q1, .null, .null, .int 0, .int 0])) :: ([] ++ [(q1, .inl (ca 0, (576, .inl (fun _ => 0))))]))) H := hP
  have hD : va_D A (X ++ ((a, .inr (0, [.ref q1, .null, .null, .int 0, .int 0])) :: ([] ++ [(q1, .inl (ca 0, (576, .inl (fun _ => 0))))]))) := hD
  refine lv_aload_n hx hb dX0_init_13 rfl (lv_at hl 0 rfl) ?_
  refine lv_sipush (v := (576 : Int32)) hx hb dX0_init_14 (by decide) ?_
  refine rn_arr (ty := .int) (t0 := 0) (q0 := 0) (N' := 576) (a0 := (576, .inl (fun _ => 0))) C rfl rfl (fun cA h1 h2 => Option.some.inj (h1.symm.trans h2)) ac__int hP hD hS hA (fun _ => rfl) (by decide +kernel) (by decide +kernel) (Nat.le_of_ble_eq_true rfl) (Nat.le_of_ble_eq_true rfl) (Nat.le_of_ble_eq_true rfl) dX0_init_17 (fun q2 H hP hD hS => ?_)
  have hP : va_P D vwCl (X ++ ((a, .inr (0, [.ref q1, .null, .null, .int 0, .int 0])) :: ([] ++ [(q1, .inl (ca 0, (576, .inl (fun _ => 0))))] ++ [(q2, .inl (ca 0, (576, .inl (fun _ => 0))))]))) H := hP
  have hD : va_D A (X ++ ((a, .inr (0, [.ref q1, .null, .null, .int 0, .int 0])) :: ([] ++ [(q1, .inl (ca 0, (576, .inl (fun _ => 0))))] ++ [(q2, .inl (ca 0, (576, .inl (fun _ => 0))))]))) := hD
  refine rn_putF (ci := 0) (j := 0) (k := 1) (T := TX0) (Nf := 5) (ty0 := tyX0) (v := .ref q2) (fs := [.ref q1, .null, .null, .int 0, .int 0]) C in_wsX00 tyX0_ok nmX0 hP hD hS rfl rfl (Nat.le_of_ble_eq_true rfl) (Nat.le_of_ble_eq_true rfl) rfl hin2 rfl rfl rfl lk_X0_15 dX0_init_19 (fun H locs hP hD hS => ?_)
  have hP : va_P D vwCl (X ++ ((a, .inr (0, [.ref q1, .ref q2, .null, .int 0, .int 0])) :: ([] ++ [(q1, .inl (ca 0, (576, .inl (fun _ => 0))))] ++ [(q2, .inl (ca 0, (576, .inl (fun _ => 0))))]))) H := hP
  have hD : va_D A (X ++ ((a, .inr (0, [.ref q1, .ref q2, .null, .int 0, .int 0])) :: ([] ++ [(q1, .inl (ca 0, (576, .inl (fun _ => 0))))] ++ [(q2, .inl (ca 0, (576, .inl (fun _ => 0))))]))) := hD
  refine lv_aload_n hx hb dX0_init_22 rfl (lv_at hl 0 rfl) ?_
  refine lv_sipush (v := (576 : Int32)) hx hb dX0_init_23 (by decide) ?_
  refine rn_arr (ty := .int) (t0 := 0) (q0 := 0) (N' := 576) (a0 := (576, .inl (fun _ => 0))) C rfl rfl (fun cA h1 h2 => Option.some.inj (h1.symm.trans h2)) ac__int hP hD hS hA (fun _ => rfl) (by decide +kernel) (by decide +kernel) (Nat.le_of_ble_eq_true rfl) (Nat.le_of_ble_eq_true rfl) (Nat.le_of_ble_eq_true rfl) dX0_init_26 (fun q3 H hP hD hS => ?_)
  have hP : va_P D vwCl (X ++ ((a, .inr (0, [.ref q1, .ref q2, .null, .int 0, .int 0])) :: ([] ++ [(q1, .inl (ca 0, (576, .inl (fun _ => 0))))] ++ [(q2, .inl (ca 0, (576, .inl (fun _ => 0))))] ++ [(q3, .inl (ca 0, (576, .inl (fun _ => 0))))]))) H := hP
  have hD : va_D A (X ++ ((a, .inr (0, [.ref q1, .ref q2, .null, .int 0, .int 0])) :: ([] ++ [(q1, .inl (ca 0, (576, .inl (fun _ => 0))))] ++ [(q2, .inl (ca 0, (576, .inl (fun _ => 0))))] ++ [(q3, .inl (ca 0, (576, .inl (fun _ => 0))))]))) := hD
  refine rn_putF (ci := 0) (j := 0) (k := 2) (T := TX0) (Nf := 5) (ty0 := tyX0) (v := .ref q3) (fs := [.ref q1, .ref q2, .null, .int 0, .int 0]) C in_wsX00 tyX0_ok nmX0 hP hD hS rfl rfl (Nat.le_of_ble_eq_true rfl) (Nat.le_of_ble_eq_true rfl) rfl hin2 rfl rfl rfl lk_X0_18 dX0_init_28 (fun H locs hP hD hS => ?_)
  have hP : va_P D vwCl (X ++ ((a, .inr (0, [.ref q1, .ref q2, .ref q3, .int 0, .int 0])) :: ([] ++ [(q1, .inl (ca 0, (576, .inl (fun _ => 0))))] ++ [(q2, .inl (ca 0, (576, .inl (fun _ => 0))))] ++ [(q3, .inl (ca 0, (576, .inl (fun _ => 0))))]))) H := hP
  have hD : va_D A (X ++ ((a, .inr (0, [.ref q1, .ref q2, .ref q3, .int 0, .int 0])) :: ([] ++ [(q1, .inl (ca 0, (576, .inl (fun _ => 0))))] ++ [(q2, .inl (ca 0, (576, .inl (fun _ => 0))))] ++ [(q3, .inl (ca 0, (576, .inl (fun _ => 0))))]))) := hD
  refine W.widen (k := 3) (n := 1728) (Nat.le_of_ble_eq_true rfl) (Nat.le_of_ble_eq_true rfl) ?_
  exact W.vret hx hb hr (fun t ht hW => ⟨⟨(fun j => match j with | 0 => a | 1 => q1 | 2 => q2 | 3 => q3 | _ => 0), rfl, rfl, by rw [ht]; exact hP, va_K.moved hW.alike hK, hD⟩, hS.F ht⟩) hS.2.2 dX0_init_31 (hlocks := hlocks)
def cl_X3 (ca : Nat → ClassId) (f : Nat → Nat) : va_W := (f 0, .inr (3, [.ref (f 1), .int 0, .int 0])) :: ([] ++ [(f 1, .inl (ca 0, (24, .inl (fun _ => 0))))])
set_option maxRecDepth 100000 in
set_option maxHeartbeats 4000000 in
theorem i_X3 (l : Launch) (D : va_G) (ca : Nat → ClassId) : ctorC l D ca 3 [.null, .int 0, .int 0] yX3_init (wsy yX3_init cX3_init 1 none) ({ frames := 1, cells := 1, slots := 24, locals := 52 } : Room) (cl_X3 ca) 1 24 := by
  intro X a sz
  refine Met.ofW (cc := cX3_init) (maxL := 1) (ret := none) (by decide +kernel) rfl ?_
  intro p e s m args below meth c s₁ B hml hv
  obtain ⟨rfl, hsz, hP, hK, hD0, hN⟩ := hv
  have hx := B.exec
  have hb := B.bytes
  have hr := B.returns
  have hlocks := B.notSynchronized
  have hts : ∀ w ∈ ALL, w.before _ s = true := fun w hw => atoms_spec (ws := wsy yX3_init cX3_init 1 none) B.pre w (List.mem_cons_of_mem _ hw)
  have hown : s.vm.findClass RX3 = some m.cls := findClass_of_methodNamed B.named
  have hin2 : meth.name = "<init>" := (name_of_methodNamed B.named B.method).1
  have C : CX p s m _ c cX3_init RX3 1 D ca (fun _ => True) := ⟨hx, hb, hml, hown, hts, hK, trivial⟩
  subst hsz
  have hD := hD0.self (sz := s.heap.size)
  generalize hAe : va_A (X ++ [(a, .inr (3, [.null, .int 0, .int 0]))]) s.heap.size = A at hD ⊢
  have hA : ∀ q : Nat, s.heap.size ≤ q → A q := fun q h => by rw [← hAe]; exact Or.inr h
  have hS : va_S A s.heap s.heap [] := va_S.rf
  have hl := lv_entry ([.ref a]) (n := 1) (Nat.le_of_ble_eq_true rfl)
  rw [lg_entry_eq]
  generalize (lg_sl ([.ref a]) ++ List.replicate (1 - (lg_sl ([.ref a])).length) Slot.unset).toArray = ls at hl ⊢
  have hl : lv_has ls 1 [(0, .ref a)] := hl
  show W p l e ({ frames := 1, cells := 1, slots := 24, locals := 52 } : Room) s m _ below meth c s.heap [] 0 0 _ _
  have hP : va_P D vwCl (X ++ ((a, .inr (3, [.null, .int 0, .int 0])) :: ([]))) s.heap := hP
  have hD : va_D A (X ++ ((a, .inr (3, [.null, .int 0, .int 0])) :: ([]))) := hD
  refine lv_aload_n hx hb dX3_init_0 rfl (lv_at hl 0 rfl) ?_
  refine W.objInit hx hb hown (hts _ ml_X3_3) (hts _ im_objectInit) (hts _ cd_objectInit) rfl (by rw [hml]; exact hl.1) rfl dX3_init_1 (Nat.le_of_ble_eq_true rfl) (Nat.le_of_ble_eq_true rfl) ?_
  refine W.eq (g2 := F0 m 4 ls []) rfl ?_
  refine lv_aload_n hx hb dX3_init_4 rfl (lv_at hl 0 rfl) ?_
  refine lv_bipush (v := (24 : Int32)) hx hb dX3_init_5 (by decide) ?_
  refine rn_arr (ty := .int) (t0 := 0) (q0 := 0) (N' := 24) (a0 := (24, .inl (fun _ => 0))) C rfl rfl (fun cA h1 h2 => Option.some.inj (h1.symm.trans h2)) ac__int hP hD hS hA (fun _ => rfl) (by decide +kernel) (by decide +kernel) (Nat.le_of_ble_eq_true rfl) (Nat.le_of_ble_eq_true rfl) (Nat.le_of_ble_eq_true rfl) dX3_init_7 (fun q1 H hP hD hS => ?_)
  have hP : va_P D vwCl (X ++ ((a, .inr (3, [.null, .int 0, .int 0])) :: ([] ++ [(q1, .inl (ca 0, (24, .inl (fun _ => 0))))]))) H := hP
  have hD : va_D A (X ++ ((a, .inr (3, [.null, .int 0, .int 0])) :: ([] ++ [(q1, .inl (ca 0, (24, .inl (fun _ => 0))))]))) := hD
  refine rn_putF (ci := 3) (j := 0) (k := 0) (T := TX3) (Nf := 3) (ty0 := tyX3) (v := .ref q1) (fs := [.null, .int 0, .int 0]) C in_wsX30 tyX3_ok nmX3 hP hD hS rfl rfl (Nat.le_of_ble_eq_true rfl) (Nat.le_of_ble_eq_true rfl) rfl hin2 rfl rfl rfl lk_X3_9 dX3_init_9 (fun H locs hP hD hS => ?_)
  have hP : va_P D vwCl (X ++ ((a, .inr (3, [.ref q1, .int 0, .int 0])) :: ([] ++ [(q1, .inl (ca 0, (24, .inl (fun _ => 0))))]))) H := hP
  have hD : va_D A (X ++ ((a, .inr (3, [.ref q1, .int 0, .int 0])) :: ([] ++ [(q1, .inl (ca 0, (24, .inl (fun _ => 0))))]))) := hD
  refine W.widen (k := 1) (n := 24) (Nat.le_of_ble_eq_true rfl) (Nat.le_of_ble_eq_true rfl) ?_
  exact W.vret hx hb hr (fun t ht hW => ⟨⟨(fun j => match j with | 0 => a | 1 => q1 | _ => 0), rfl, rfl, by rw [ht]; exact hP, va_K.moved hW.alike hK, hD⟩, hS.F ht⟩) hS.2.2 dX3_init_12 (hlocks := hlocks)
def cl_X7 (ca : Nat → ClassId) (f : Nat → Nat) : va_W := (f 0, .inr (7, [.ref (f 1), .ref (f 2), .ref (f 3), .ref (f 4), .ref (f 5), .ref (f 6), .ref (f 7), .ref (f 8), .ref (f 9), .int 0, .int 0, .int 0])) :: ([] ++ [(f 1, .inl (ca 0, (8, .inl (fun _ => 0))))] ++ [(f 2, .inl (ca 0, (8, .inl (fun _ => 0))))] ++ [(f 3, .inl (ca 0, (24, .inl (fun _ => 0))))] ++ [(f 4, .inl (ca 0, (24, .inl (fun _ => 0))))] ++ [(f 5, .inl (ca 0, (24, .inl (fun _ => 0))))] ++ [(f 6, .inl (ca 0, (72, .inl (fun _ => 0))))] ++ [(f 7, .inl (ca 0, (24, .inl (fun _ => 0))))] ++ [(f 8, .inl (ca 0, (276, .inl (fun _ => 0))))] ++ [(f 9, .inl (ca 0, (276, .inl (fun _ => 0))))])
set_option maxRecDepth 100000 in
set_option maxHeartbeats 4000000 in
theorem i_X7 (l : Launch) (D : va_G) (ca : Nat → ClassId) : ctorC l D ca 7 [.null, .null, .null, .null, .null, .null, .null, .null, .null, .int 0, .int 0, .int 0] yX7_init (wsy yX7_init cX7_init 1 none) ({ frames := 1, cells := 9, slots := 736, locals := 52 } : Room) (cl_X7 ca) 9 736 := by
  intro X a sz
  refine Met.ofW (cc := cX7_init) (maxL := 1) (ret := none) (by decide +kernel) rfl ?_
  intro p e s m args below meth c s₁ B hml hv
  obtain ⟨rfl, hsz, hP, hK, hD0, hN⟩ := hv
  have hx := B.exec
  have hb := B.bytes
  have hr := B.returns
  have hlocks := B.notSynchronized
  have hts : ∀ w ∈ ALL, w.before _ s = true := fun w hw => atoms_spec (ws := wsy yX7_init cX7_init 1 none) B.pre w (List.mem_cons_of_mem _ hw)
  have hown : s.vm.findClass RX7 = some m.cls := findClass_of_methodNamed B.named
  have hin2 : meth.name = "<init>" := (name_of_methodNamed B.named B.method).1
  have C : CX p s m _ c cX7_init RX7 1 D ca (fun _ => True) := ⟨hx, hb, hml, hown, hts, hK, trivial⟩
  subst hsz
  have hD := hD0.self (sz := s.heap.size)
  generalize hAe : va_A (X ++ [(a, .inr (7, [.null, .null, .null, .null, .null, .null, .null, .null, .null, .int 0, .int 0, .int 0]))]) s.heap.size = A at hD ⊢
  have hA : ∀ q : Nat, s.heap.size ≤ q → A q := fun q h => by rw [← hAe]; exact Or.inr h
  have hS : va_S A s.heap s.heap [] := va_S.rf
  have hl := lv_entry ([.ref a]) (n := 1) (Nat.le_of_ble_eq_true rfl)
  rw [lg_entry_eq]
  generalize (lg_sl ([.ref a]) ++ List.replicate (1 - (lg_sl ([.ref a])).length) Slot.unset).toArray = ls at hl ⊢
  have hl : lv_has ls 1 [(0, .ref a)] := hl
  show W p l e ({ frames := 1, cells := 9, slots := 736, locals := 52 } : Room) s m _ below meth c s.heap [] 0 0 _ _
  have hP : va_P D vwCl (X ++ ((a, .inr (7, [.null, .null, .null, .null, .null, .null, .null, .null, .null, .int 0, .int 0, .int 0])) :: ([]))) s.heap := hP
  have hD : va_D A (X ++ ((a, .inr (7, [.null, .null, .null, .null, .null, .null, .null, .null, .null, .int 0, .int 0, .int 0])) :: ([]))) := hD
  refine lv_aload_n hx hb dX7_init_0 rfl (lv_at hl 0 rfl) ?_
  refine W.objInit hx hb hown (hts _ ml_X7_3) (hts _ im_objectInit) (hts _ cd_objectInit) rfl (by rw [hml]; exact hl.1) rfl dX7_init_1 (Nat.le_of_ble_eq_true rfl) (Nat.le_of_ble_eq_true rfl) ?_
  refine W.eq (g2 := F0 m 4 ls []) rfl ?_
  refine lv_aload_n hx hb dX7_init_4 rfl (lv_at hl 0 rfl) ?_
  refine lv_bipush (v := (8 : Int32)) hx hb dX7_init_5 (by decide) ?_
  refine rn_arr (ty := .int) (t0 := 0) (q0 := 0) (N' := 8) (a0 := (8, .inl (fun _ => 0))) C rfl rfl (fun cA h1 h2 => Option.some.inj (h1.symm.trans h2)) ac__int hP hD hS hA (fun _ => rfl) (by decide +kernel) (by decide +kernel) (Nat.le_of_ble_eq_true rfl) (Nat.le_of_ble_eq_true rfl) (Nat.le_of_ble_eq_true rfl) dX7_init_7 (fun q1 H hP hD hS => ?_)
  have hP : va_P D vwCl (X ++ ((a, .inr (7, [.null, .null, .null, .null, .null, .null, .null, .null, .null, .int 0, .int 0, .int 0])) :: ([] ++ [(q1, .inl (ca 0, (8, .inl (fun _ => 0))))]))) H := hP
  have hD : va_D A (X ++ ((a, .inr (7, [.null, .null, .null, .null, .null, .null, .null, .null, .null, .int 0, .int 0, .int 0])) :: ([] ++ [(q1, .inl (ca 0, (8, .inl (fun _ => 0))))]))) := hD
  refine rn_putF (ci := 7) (j := 0) (k := 0) (T := TX7) (Nf := 12) (ty0 := tyX7) (v := .ref q1) (fs := [.null, .null, .null, .null, .null, .null, .null, .null, .null, .int 0, .int 0, .int 0]) C in_wsX70 tyX7_ok nmX7 hP hD hS rfl rfl (Nat.le_of_ble_eq_true rfl) (Nat.le_of_ble_eq_true rfl) rfl hin2 rfl rfl rfl lk_X7_9 dX7_init_9 (fun H locs hP hD hS => ?_)
  have hP : va_P D vwCl (X ++ ((a, .inr (7, [.ref q1, .null, .null, .null, .null, .null, .null, .null, .null, .int 0, .int 0, .int 0])) :: ([] ++ [(q1, .inl (ca 0, (8, .inl (fun _ => 0))))]))) H := hP
  have hD : va_D A (X ++ ((a, .inr (7, [.ref q1, .null, .null, .null, .null, .null, .null, .null, .null, .int 0, .int 0, .int 0])) :: ([] ++ [(q1, .inl (ca 0, (8, .inl (fun _ => 0))))]))) := hD
  refine lv_aload_n hx hb dX7_init_12 rfl (lv_at hl 0 rfl) ?_
  refine lv_bipush (v := (8 : Int32)) hx hb dX7_init_13 (by decide) ?_
  refine rn_arr (ty := .int) (t0 := 0) (q0 := 0) (N' := 8) (a0 := (8, .inl (fun _ => 0))) C rfl rfl (fun cA h1 h2 => Option.some.inj (h1.symm.trans h2)) ac__int hP hD hS hA (fun _ => rfl) (by decide +kernel) (by decide +kernel) (Nat.le_of_ble_eq_true rfl) (Nat.le_of_ble_eq_true rfl) (Nat.le_of_ble_eq_true rfl) dX7_init_15 (fun q2 H hP hD hS => ?_)
  have hP : va_P D vwCl (X ++ ((a, .inr (7, [.ref q1, .null, .null, .null, .null, .null, .null, .null, .null, .int 0, .int 0, .int 0])) :: ([] ++ [(q1, .inl (ca 0, (8, .inl (fun _ => 0))))] ++ [(q2, .inl (ca 0, (8, .inl (fun _ => 0))))]))) H := hP
  have hD : va_D A (X ++ ((a, .inr (7, [.ref q1, .null, .null, .null, .null, .null, .null, .null, .null, .int 0, .int 0, .int 0])) :: ([] ++ [(q1, .inl (ca 0, (8, .inl (fun _ => 0))))] ++ [(q2, .inl (ca 0, (8, .inl (fun _ => 0))))]))) := hD
  refine rn_putF (ci := 7) (j := 0) (k := 1) (T := TX7) (Nf := 12) (ty0 := tyX7) (v := .ref q2) (fs := [.ref q1, .null, .null, .null, .null, .null, .null, .null, .null, .int 0, .int 0, .int 0]) C in_wsX70 tyX7_ok nmX7 hP hD hS rfl rfl (Nat.le_of_ble_eq_true rfl) (Nat.le_of_ble_eq_true rfl) rfl hin2 rfl rfl rfl lk_X7_15 dX7_init_17 (fun H locs hP hD hS => ?_)
  have hP : va_P D vwCl (X ++ ((a, .inr (7, [.ref q1, .ref q2, .null, .null, .null, .null, .null, .null, .null, .int 0, .int 0, .int 0])) :: ([] ++ [(q1, .inl (ca 0, (8, .inl (fun _ => 0))))] ++ [(q2, .inl (ca 0, (8, .inl (fun _ => 0))))]))) H := hP
  have hD : va_D A (X ++ ((a, .inr (7, [.ref q1, .ref q2, .null, .null, .null, .null, .null, .null, .null, .int 0, .int 0, .int 0])) :: ([] ++ [(q1, .inl (ca 0, (8, .inl (fun _ => 0))))] ++ [(q2, .inl (ca 0, (8, .inl (fun _ => 0))))]))) := hD
  refine lv_aload_n hx hb dX7_init_20 rfl (lv_at hl 0 rfl) ?_
  refine lv_bipush (v := (24 : Int32)) hx hb dX7_init_21 (by decide) ?_
  refine rn_arr (ty := .int) (t0 := 0) (q0 := 0) (N' := 24) (a0 := (24, .inl (fun _ => 0))) C rfl rfl (fun cA h1 h2 => Option.some.inj (h1.symm.trans h2)) ac__int hP hD hS hA (fun _ => rfl) (by decide +kernel) (by decide +kernel) (Nat.le_of_ble_eq_true rfl) (Nat.le_of_ble_eq_true rfl) (Nat.le_of_ble_eq_true rfl) dX7_init_23 (fun q3 H hP hD hS => ?_)
  have hP : va_P D vwCl (X ++ ((a, .inr (7, [.ref q1, .ref q2, .null, .null, .null, .null, .null, .null, .null, .int 0, .int 0, .int 0])) :: ([] ++ [(q1, .inl (ca 0, (8, .inl (fun _ => 0))))] ++ [(q2, .inl (ca 0, (8, .inl (fun _ => 0))))] ++ [(q3, .inl (ca 0, (24, .inl (fun _ => 0))))]))) H := hP
  have hD : va_D A (X ++ ((a, .inr (7, [.ref q1, .ref q2, .null, .null, .null, .null, .null, .null, .null, .int 0, .int 0, .int 0])) :: ([] ++ [(q1, .inl (ca 0, (8, .inl (fun _ => 0))))] ++ [(q2, .inl (ca 0, (8, .inl (fun _ => 0))))] ++ [(q3, .inl (ca 0, (24, .inl (fun _ => 0))))]))) := hD
  refine rn_putF (ci := 7) (j := 0) (k := 2) (T := TX7) (Nf := 12) (ty0 := tyX7) (v := .ref q3) (fs := [.ref q1, .ref q2, .null, .null, .null, .null, .null, .null, .null, .int 0, .int 0, .int 0]) C in_wsX70 tyX7_ok nmX7 hP hD hS rfl rfl (Nat.le_of_ble_eq_true rfl) (Nat.le_of_ble_eq_true rfl) rfl hin2 rfl rfl rfl lk_X7_18 dX7_init_25 (fun H locs hP hD hS => ?_)
  have hP : va_P D vwCl (X ++ ((a, .inr (7, [.ref q1, .ref q2, .ref q3, .null, .null, .null, .null, .null, .null, .int 0, .int 0, .int 0])) :: ([] ++ [(q1, .inl (ca 0, (8, .inl (fun _ => 0))))] ++ [(q2, .inl (ca 0, (8, .inl (fun _ => 0))))] ++ [(q3, .inl (ca 0, (24, .inl (fun _ => 0))))]))) H := hP
  have hD : va_D A (X ++ ((a, .inr (7, [.ref q1, .ref q2, .ref q3, .null, .null, .null, .null, .null, .null, .int 0, .int 0, .int 0])) :: ([] ++ [(q1, .inl (ca 0, (8, .inl (fun _ => 0))))] ++ [(q2, .inl (ca 0, (8, .inl (fun _ => 0))))] ++ [(q3, .inl (ca 0, (24, .inl (fun _ => 0))))]))) := hD
  refine lv_aload_n hx hb dX7_init_28 rfl (lv_at hl 0 rfl) ?_
  refine lv_bipush (v := (24 : Int32)) hx hb dX7_init_29 (by decide) ?_
  refine rn_arr (ty := .int) (t0 := 0) (q0 := 0) (N' := 24) (a0 := (24, .inl (fun _ => 0))) C rfl rfl (fun cA h1 h2 => Option.some.inj (h1.symm.trans h2)) ac__int hP hD hS hA (fun _ => rfl) (by decide +kernel) (by decide +kernel) (Nat.le_of_ble_eq_true rfl) (Nat.le_of_ble_eq_true rfl) (Nat.le_of_ble_eq_true rfl) dX7_init_31 (fun q4 H hP hD hS => ?_)
  have hP : va_P D vwCl (X ++ ((a, .inr (7, [.ref q1, .ref q2, .ref q3, .null, .null, .null, .null, .null, .null, .int 0, .int 0, .int 0])) :: ([] ++ [(q1, .inl (ca 0, (8, .inl (fun _ => 0))))] ++ [(q2, .inl (ca 0, (8, .inl (fun _ => 0))))] ++ [(q3, .inl (ca 0, (24, .inl (fun _ => 0))))] ++ [(q4, .inl (ca 0, (24, .inl (fun _ => 0))))]))) H := hP
  have hD : va_D A (X ++ ((a, .inr (7, [.ref q1, .ref q2, .ref q3, .null, .null, .null, .null, .null, .null, .int 0, .int 0, .int 0])) :: ([] ++ [(q1, .inl (ca 0, (8, .inl (fun _ => 0))))] ++ [(q2, .inl (ca 0, (8, .inl (fun _ => 0))))] ++ [(q3, .inl (ca 0, (24, .inl (fun _ => 0))))] ++ [(q4, .inl (ca 0, (24, .inl (fun _ => 0))))]))) := hD
  refine rn_putF (ci := 7) (j := 0) (k := 3) (T := TX7) (Nf := 12) (ty0 := tyX7) (v := .ref q4) (fs := [.ref q1, .ref q2, .ref q3, .null, .null, .null, .null, .null, .null, .int 0, .int 0, .int 0]) C in_wsX70 tyX7_ok nmX7 hP hD hS rfl rfl (Nat.le_of_ble_eq_true rfl) (Nat.le_of_ble_eq_true rfl) rfl hin2 rfl rfl rfl lk_X7_21 dX7_init_33 (fun H locs hP hD hS => ?_)
  have hP : va_P D vwCl (X ++ ((a, .inr (7, [.ref q1, .ref q2, .ref q3, .ref q4, .null, .null, .null, .null, .null, .int 0, .int 0, .int 0])) :: ([] ++ [(q1, .inl (ca 0, (8, .inl (fun _ => 0))))] ++ [(q2, .inl (ca 0, (8, .inl (fun _ => 0))))] ++ [(q3, .inl (ca 0, (24, .inl (fun _ => 0))))] ++ [(q4, .inl (ca 0, (24, .inl (fun _ => 0))))]))) H := hP
  have hD : va_D A (X ++ ((a, .inr (7, [.ref q1, .ref q2, .ref q3, .ref q4, .null, .null, .null, .null, .null, .int 0, .int 0, .int 0])) :: ([] ++ [(q1, .inl (ca 0, (8, .inl (fun _ => 0))))] ++ [(q2, .inl (ca 0, (8, .inl (fun _ => 0))))] ++ [(q3, .inl (ca 0, (24, .inl (fun _ => 0))))] ++ [(q4, .inl (ca 0, (24, .inl (fun _ => 0))))]))) := hD
  refine lv_aload_n hx hb dX7_init_36 rfl (lv_at hl 0 rfl) ?_
  refine lv_bipush (v := (24 : Int32)) hx hb dX7_init_37 (by decide) ?_
  refine rn_arr (ty := .int) (t0 := 0) (q0 := 0) (N' := 24) (a0 := (24, .inl (fun _ => 0))) C rfl rfl (fun cA h1 h2 => Option.some.inj (h1.symm.trans h2)) ac__int hP hD hS hA (fun _ => rfl) (by decide +kernel) (by decide +kernel) (Nat.le_of_ble_eq_true rfl) (Nat.le_of_ble_eq_true rfl) (Nat.le_of_ble_eq_true rfl) dX7_init_39 (fun q5 H hP hD hS => ?_)
  have hP : va_P D vwCl (X ++ ((a, .inr (7, [.ref q1, .ref q2, .ref q3, .ref q4, .null, .null, .null, .null, .null, .int 0, .int 0, .int 0])) :: ([] ++ [(q1, .inl (ca 0, (8, .inl (fun _ => 0))))] ++ [(q2, .inl (ca 0, (8, .inl (fun _ => 0))))] ++ [(q3, .inl (ca 0, (24, .inl (fun _ => 0))))] ++ [(q4, .inl (ca 0, (24, .inl (fun _ => 0))))] ++ [(q5, .inl (ca 0, (24, .inl (fun _ => 0))))]))) H := hP
  have hD : va_D A (X ++ ((a, .inr (7, [.ref q1, .ref q2, .ref q3, .ref q4, .null, .null, .null, .null, .null, .int 0, .int 0, .int 0])) :: ([] ++ [(q1, .inl (ca 0, (8, .inl (fun _ => 0))))] ++ [(q2, .inl (ca 0, (8, .inl (fun _ => 0))))] ++ [(q3, .inl (ca 0, (24, .inl (fun _ => 0))))] ++ [(q4, .inl (ca 0, (24, .inl (fun _ => 0))))] ++ [(q5, .inl (ca 0, (24, .inl (fun _ => 0))))]))) := hD
  refine rn_putF (ci := 7) (j := 0) (k := 4) (T := TX7) (Nf := 12) (ty0 := tyX7) (v := .ref q5) (fs := [.ref q1, .ref q2, .ref q3, .ref q4, .null, .null, .null, .null, .null, .int 0, .int 0, .int 0]) C in_wsX70 tyX7_ok nmX7 hP hD hS rfl rfl (Nat.le_of_ble_eq_true rfl) (Nat.le_of_ble_eq_true rfl) rfl hin2 rfl rfl rfl lk_X7_24 dX7_init_41 (fun H locs hP hD hS => ?_)
  have hP : va_P D vwCl (X ++ ((a, .inr (7, [.ref q1, .ref q2, .ref q3, .ref q4, .ref q5, .null, .null, .null, .null, .int 0, .int 0, .int 0])) :: ([] ++ [(q1, .inl (ca 0, (8, .inl (fun _ => 0))))] ++ [(q2, .inl (ca 0, (8, .inl (fun _ => 0))))] ++ [(q3, .inl (ca 0, (24, .inl (fun _ => 0))))] ++ [(q4, .inl (ca 0, (24, .inl (fun _ => 0))))] ++ [(q5, .inl (ca 0, (24, .inl (fun _ => 0))))]))) H := hP
  have hD : va_D A (X ++ ((a, .inr (7, [.ref q1, .ref q2, .ref q3, .ref q4, .ref q5, .null, .null, .null, .null, .int 0, .int 0, .int 0])) :: ([] ++ [(q1, .inl (ca 0, (8, .inl (fun _ => 0))))] ++ [(q2, .inl (ca 0, (8, .inl (fun _ => 0))))] ++ [(q3, .inl (ca 0, (24, .inl (fun _ => 0))))] ++ [(q4, .inl (ca 0, (24, .inl (fun _ => 0))))] ++ [(q5, .inl (ca 0, (24, .inl (fun _ => 0))))]))) := hD
  refine lv_aload_n hx hb dX7_init_44 rfl (lv_at hl 0 rfl) ?_
  refine lv_bipush (v := (72 : Int32)) hx hb dX7_init_45 (by decide) ?_
  refine rn_arr (ty := .int) (t0 := 0) (q0 := 0) (N' := 72) (a0 := (72, .inl (fun _ => 0))) C rfl rfl (fun cA h1 h2 => Option.some.inj (h1.symm.trans h2)) ac__int hP hD hS hA (fun _ => rfl) (by decide +kernel) (by decide +kernel) (Nat.le_of_ble_eq_true rfl) (Nat.le_of_ble_eq_true rfl) (Nat.le_of_ble_eq_true rfl) dX7_init_47 (fun q6 H hP hD hS => ?_)
  have hP : va_P D vwCl (X ++ ((a, .inr (7, [.ref q1, .ref q2, .ref q3, .ref q4, .ref q5, .null, .null, .null, .null, .int 0, .int 0, .int 0])) :: ([] ++ [(q1, .inl (ca 0, (8, .inl (fun _ => 0))))] ++ [(q2, .inl (ca 0, (8, .inl (fun _ => 0))))] ++ [(q3, .inl (ca 0, (24, .inl (fun _ => 0))))] ++ [(q4, .inl (ca 0, (24, .inl (fun _ => 0))))] ++ [(q5, .inl (ca 0, (24, .inl (fun _ => 0))))] ++ [(q6, .inl (ca 0, (72, .inl (fun _ => 0))))]))) H := hP
  have hD : va_D A (X ++ ((a, .inr (7, [.ref q1, .ref q2, .ref q3, .ref q4, .ref q5, .null, .null, .null, .null, .int 0, .int 0, .int 0])) :: ([] ++ [(q1, .inl (ca 0, (8, .inl (fun _ => 0))))] ++ [(q2, .inl (ca 0, (8, .inl (fun _ => 0))))] ++ [(q3, .inl (ca 0, (24, .inl (fun _ => 0))))] ++ [(q4, .inl (ca 0, (24, .inl (fun _ => 0))))] ++ [(q5, .inl (ca 0, (24, .inl (fun _ => 0))))] ++ [(q6, .inl (ca 0, (72, .inl (fun _ => 0))))]))) := hD
  refine rn_putF (ci := 7) (j := 0) (k := 5) (T := TX7) (Nf := 12) (ty0 := tyX7) (v := .ref q6) (fs := [.ref q1, .ref q2, .ref q3, .ref q4, .ref q5, .null, .null, .null, .null, .int 0, .int 0, .int 0]) C in_wsX70 tyX7_ok nmX7 hP hD hS rfl rfl (Nat.le_of_ble_eq_true rfl) (Nat.le_of_ble_eq_true rfl) rfl hin2 rfl rfl rfl lk_X7_27 dX7_init_49 (fun H locs hP hD hS => ?_)
  have hP : va_P D vwCl (X ++ ((a, .inr (7, [.ref q1, .ref q2, .ref q3, .ref q4, .ref q5, .ref q6, .null, .null, .null, .int 0, .int 0, .int 0])) :: ([] ++ [(q1, .inl (ca 0, (8, .inl (fun _ => 0))))] ++ [(q2, .inl (ca 0, (8, .inl (fun _ => 0))))] ++ [(q3, .inl (ca 0, (24, .inl (fun _ => 0))))] ++ [(q4, .inl (ca 0, (24, .inl (fun _ => 0))))] ++ [(q5, .inl (ca 0, (24, .inl (fun _ => 0))))] ++ [(q6, .inl (ca 0, (72, .inl (fun _ => 0))))]))) H := hP
  have hD : va_D A (X ++ ((a, .inr (7, [.ref q1, .ref q2, .ref q3, .ref q4, .ref q5, .ref q6, .null, .null, .null, .int 0, .int 0, .int 0])) :: ([] ++ [(q1, .inl (ca 0, (8, .inl (fun _ => 0))))] ++ [(q2, .inl (ca 0, (8, .inl (fun _ => 0))))] ++ [(q3, .inl (ca 0, (24, .inl (fun _ => 0))))] ++ [(q4, .inl (ca 0, (24, .inl (fun _ => 0))))] ++ [(q5, .inl (ca 0, (24, .inl (fun _ => 0))))] ++ [(q6, .inl (ca 0, (72, .inl (fun _ => 0))))]))) := hD
  refine lv_aload_n hx hb dX7_init_52 rfl (lv_at hl 0 rfl) ?_
  refine lv_bipush (v := (24 : Int32)) hx hb dX7_init_53 (by decide) ?_
  refine rn_arr (ty := .int) (t0 := 0) (q0 := 0) (N' := 24) (a0 := (24, .inl (fun _ => 0))) C rfl rfl (fun cA h1 h2 => Option.some.inj (h1.symm.trans h2)) ac__int hP hD hS hA (fun _ => rfl) (by decide +kernel) (by decide +kernel) (Nat.le_of_ble_eq_true rfl) (Nat.le_of_ble_eq_true rfl) (Nat.le_of_ble_eq_true rfl) dX7_init_55 (fun q7 H hP hD hS => ?_)
  have hP : va_P D vwCl (X ++ ((a, .inr (7, [.ref q1, .ref q2, .ref q3, .ref q4, .ref q5, .ref q6, .null, .null, .null, .int 0, .int 0, .int 0])) :: ([] ++ [(q1, .inl (ca 0, (8, .inl (fun _ => 0))))] ++ [(q2, .inl (ca 0, (8, .inl (fun _ => 0))))] ++ [(q3, .inl (ca 0, (24, .inl (fun _ => 0))))] ++ [(q4, .inl (ca 0, (24, .inl (fun _ => 0))))] ++ [(q5, .inl (ca 0, (24, .inl (fun _ => 0))))] ++ [(q6, .inl (ca 0, (72, .inl (fun _ => 0))))] ++ [(q7, .inl (ca 0, (24, .inl (fun _ => 0))))]))) H := hP
  have hD : va_D A (X ++ ((a, .inr (7, [.ref q1, .ref q2, .ref q3, .ref q4, .ref q5, .ref q6, .null, .null, .null, .int 0, .int 0, .int 0])) :: ([] ++ [(q1, .inl (ca 0, (8, .inl (fun _ => 0))))] ++ [(q2, .inl (ca 0, (8, .inl (fun _ => 0))))] ++ [(q3, .inl (ca 0, (24, .inl (fun _ => 0))))] ++ [(q4, .inl (ca 0, (24, .inl (fun _ => 0))))] ++ [(q5, .inl (ca 0, (24, .inl (fun _ => 0))))] ++ [(q6, .inl (ca 0, (72, .inl (fun _ => 0))))] ++ [(q7, .inl (ca 0, (24, .inl (fun _ => 0))))]))) := hD
  refine rn_putF (ci := 7) (j := 0) (k := 6) (T := TX7) (Nf := 12) (ty0 := tyX7) (v := .ref q7) (fs := [.ref q1, .ref q2, .ref q3, .ref q4, .ref q5, .ref q6, .null, .null, .null, .int 0, .int 0, .int 0]) C in_wsX70 tyX7_ok nmX7 hP hD hS rfl rfl (Nat.le_of_ble_eq_true rfl) (Nat.le_of_ble_eq_true rfl) rfl hin2 rfl rfl rfl lk_X7_30 dX7_init_57 (fun H locs hP hD hS => ?_)
  have hP : va_P D vwCl (X ++ ((a, .inr (7, [.ref q1, .ref q2, .ref q3, .ref q4, .ref q5, .ref q6, .ref q7, .null, .null, .int 0, .int 0, .int 0])) :: ([] ++ [(q1, .inl (ca 0, (8, .inl (fun _ => 0))))] ++ [(q2, .inl (ca 0, (8, .inl (fun _ => 0))))] ++ [(q3, .inl (ca 0, (24, .inl (fun _ => 0))))] ++ [(q4, .inl (ca 0, (24, .inl (fun _ => 0))))] ++ [(q5, .inl (ca 0, (24, .inl (fun _ => 0))))] ++ [(q6, .inl (ca 0, (72, .inl (fun _ => 0))))] ++ [(q7, .inl (ca 0, (24, .inl (fun _ => 0))))]))) H := hP
  have hD : va_D A (X ++ ((a, .inr (7, [.ref q1, .ref q2, .ref q3, .ref q4, .ref q5, .ref q6, .ref q7, .null, .null, .int 0, .int 0, .int 0])) :: ([] ++ [(q1, .inl (ca 0, (8, .inl (fun _ => 0))))] ++ [(q2, .inl (ca 0, (8, .inl (fun _ => 0))))] ++ [(q3, .inl (ca 0, (24, .inl (fun _ => 0))))] ++ [(q4, .inl (ca 0, (24, .inl (fun _ => 0))))] ++ [(q5, .inl (ca 0, (24, .inl (fun _ => 0))))] ++ [(q6, .inl (ca 0, (72, .inl (fun _ => 0))))] ++ [(q7, .inl (ca 0, (24, .inl (fun _ => 0))))]))) := hD
  refine lv_aload_n hx hb dX7_init_60 rfl (lv_at hl 0 rfl) ?_
  refine lv_sipush (v := (276 : Int32)) hx hb dX7_init_61 (by decide) ?_
  refine rn_arr (ty := .int) (t0 := 0) (q0 := 0) (N' := 276) (a0 := (276, .inl (fun _ => 0))) C rfl rfl (fun cA h1 h2 => Option.some.inj (h1.symm.trans h2)) ac__int hP hD hS hA (fun _ => rfl) (by decide +kernel) (by decide +kernel) (Nat.le_of_ble_eq_true rfl) (Nat.le_of_ble_eq_true rfl) (Nat.le_of_ble_eq_true rfl) dX7_init_64 (fun q8 H hP hD hS => ?_)
  have hP : va_P D vwCl (X ++ ((a, .inr (7, [.ref q1, .ref q2, .ref q3, .ref q4, .ref q5, .ref q6, .ref q7, .null, .null, .int 0, .int 0, .int 0])) :: ([] ++ [(q1, .inl (ca 0, (8, .inl (fun _ => 0))))] ++ [(q2, .inl (ca 0, (8, .inl (fun _ => 0))))] ++ [(q3, .inl (ca 0, (24, .inl (fun _ => 0))))] ++ [(q4, .inl (ca 0, (24, .inl (fun _ => 0))))] ++ [(q5, .inl (ca 0, (24, .inl (fun _ => 0))))] ++ [(q6, .inl (ca 0, (72, .inl (fun _ => 0))))] ++ [(q7, .inl (ca 0, (24, .inl (fun _ => 0))))] ++ [(q8, .inl (ca 0, (276, .inl (fun _ => 0))))]))) H := hP
  have hD : va_D A (X ++ ((a, .inr (7, [.ref q1, .ref q2, .ref q3, .ref q4, .ref q5, .ref q6, .ref q7, .null, .null, .int 0, .int 0, .int 0])) :: ([] ++ [(q1, .inl (ca 0, (8, .inl (fun _ => 0))))] ++ [(q2, .inl (ca 0, (8, .inl (fun _ => 0))))] ++ [(q3, .inl (ca 0, (24, .inl (fun _ => 0))))] ++ [(q4, .inl (ca 0, (24, .inl (fun _ => 0))))] ++ [(q5, .inl (ca 0, (24, .inl (fun _ => 0))))] ++ [(q6, .inl (ca 0, (72, .inl (fun _ => 0))))] ++ [(q7, .inl (ca 0, (24, .inl (fun _ => 0))))] ++ [(q8, .inl (ca 0, (276, .inl (fun _ => 0))))]))) := hD
  refine rn_putF (ci := 7) (j := 0) (k := 7) (T := TX7) (Nf := 12) (ty0 := tyX7) (v := .ref q8) (fs := [.ref q1, .ref q2, .ref q3, .ref q4, .ref q5, .ref q6, .ref q7, .null, .null, .int 0, .int 0, .int 0]) C in_wsX70 tyX7_ok nmX7 hP hD hS rfl rfl (Nat.le_of_ble_eq_true rfl) (Nat.le_of_ble_eq_true rfl) rfl hin2 rfl rfl rfl lk_X7_33 dX7_init_66 (fun H locs hP hD hS => ?_)
  have hP : va_P D vwCl (X ++ ((a, .inr (7, [.ref q1, .ref q2, .ref q3, .ref q4, .ref q5, .ref q6, .ref q7, .ref q8, .null, .int 0, .int 0, .int 0])) :: ([] ++ [(q1, .inl (ca 0, (8, .inl (fun _ => 0))))] ++ [(q2, .inl (ca 0, (8, .inl (fun _ => 0))))] ++ [(q3, .inl (ca 0, (24, .inl (fun _ => 0))))] ++ [(q4, .inl (ca 0, (24, .inl (fun _ => 0))))] ++ [(q5, .inl (ca 0, (24, .inl (fun _ => 0))))] ++ [(q6, .inl (ca 0, (72, .inl (fun _ => 0))))] ++ [(q7, .inl (ca 0, (24, .inl (fun _ => 0))))] ++ [(q8, .inl (ca 0, (276, .inl (fun _ => 0))))]))) H := hP
  have hD : va_D A (X ++ ((a, .inr (7, [.ref q1, .ref q2, .ref q3, .ref q4, .ref q5, .ref q6, .ref q7, .ref q8, .null, .int 0, .int 0, .int 0])) :: ([] ++ [(q1, .inl (ca 0, (8, .inl (fun _ => 0))))] ++ [(q2, .inl (ca 0, (8, .inl (fun _ => 0))))] ++ [(q3, .inl (ca 0, (24, .inl (fun _ => 0))))] ++ [(q4, .inl (ca 0, (24, .inl (fun _ => 0))))] ++ [(q5, .inl (ca 0, (24, .inl (fun _ => 0))))] ++ [(q6, .inl (ca 0, (72, .inl (fun _ => 0))))] ++ [(q7, .inl (ca 0, (24, .inl (fun _ => 0))))] ++ [(q8, .inl (ca 0, (276, .inl (fun _ => 0))))]))) := hD
  refine lv_aload_n hx hb dX7_init_69 rfl (lv_at hl 0 rfl) ?_
  refine lv_sipush (v := (276 : Int32)) hx hb dX7_init_70 (by decide) ?_
  refine rn_arr (ty := .int) (t0 := 0) (q0 := 0) (N' := 276) (a0 := (276, .inl (fun _ => 0))) C rfl rfl (fun cA h1 h2 => Option.some.inj (h1.symm.trans h2)) ac__int hP hD hS hA (fun _ => rfl) (by decide +kernel) (by decide +kernel) (Nat.le_of_ble_eq_true rfl) (Nat.le_of_ble_eq_true rfl) (Nat.le_of_ble_eq_true rfl) dX7_init_73 (fun q9 H hP hD hS => ?_)
  have hP : va_P D vwCl (X ++ ((a, .inr (7, [.ref q1, .ref q2, .ref q3, .ref q4, .ref q5, .ref q6, .ref q7, .ref q8, .null, .int 0, .int 0, .int 0])) :: ([] ++ [(q1, .inl (ca 0, (8, .inl (fun _ => 0))))] ++ [(q2, .inl (ca 0, (8, .inl (fun _ => 0))))] ++ [(q3, .inl (ca 0, (24, .inl (fun _ => 0))))] ++ [(q4, .inl (ca 0, (24, .inl (fun _ => 0))))] ++ [(q5, .inl (ca 0, (24, .inl (fun _ => 0))))] ++ [(q6, .inl (ca 0, (72, .inl (fun _ => 0))))] ++ [(q7, .inl (ca 0, (24, .inl (fun _ => 0))))] ++ [(q8, .inl (ca 0, (276, .inl (fun _ => 0))))] ++ [(q9, .inl (ca 0, (276, .inl (fun _ => 0))))]))) H := hP
  have hD : va_D A (X ++ ((a, .inr (7, [.ref q1, .ref q2, .ref q3, .ref q4, .ref q5, .ref q6, .ref q7, .ref q8, .null, .int 0, .int 0, .int 0])) :: ([] ++ [(q1, .inl (ca 0, (8, .inl (fun _ => 0))))] ++ [(q2, .inl (ca 0, (8, .inl (fun _ => 0))))] ++ [(q3, .inl (ca 0, (24, .inl (fun _ => 0))))] ++ [(q4, .inl (ca 0, (24, .inl (fun _ => 0))))] ++ [(q5, .inl (ca 0, (24, .inl (fun _ => 0))))] ++ [(q6, .inl (ca 0, (72, .inl (fun _ => 0))))] ++ [(q7, .inl (ca 0, (24, .inl (fun _ => 0))))] ++ [(q8, .inl (ca 0, (276, .inl (fun _ => 0))))] ++ [(q9, .inl (ca 0, (276, .inl (fun _ => 0))))]))) := hD
  refine rn_putF (ci := 7) (j := 0) (k := 8) (T := TX7) (Nf := 12) (ty0 := tyX7) (v := .ref q9) (fs := [.ref q1, .ref q2, .ref q3, .ref q4, .ref q5, .ref q6, .ref q7, .ref q8, .null, .int 0, .int 0, .int 0]) C in_wsX70 tyX7_ok nmX7 hP hD hS rfl rfl (Nat.le_of_ble_eq_true rfl) (Nat.le_of_ble_eq_true rfl) rfl hin2 rfl rfl rfl lk_X7_36 dX7_init_75 (fun H locs hP hD hS => ?_)
  have hP : va_P D vwCl (X ++ ((a, .inr (7, [.ref q1, .ref q2, .ref q3, .ref q4, .ref q5, .ref q6, .ref q7, .ref q8, .ref q9, .int 0, .int 0, .int 0])) :: ([] ++ [(q1, .inl (ca 0, (8, .inl (fun _ => 0))))] ++ [(q2, .inl (ca 0, (8, .inl (fun _ => 0))))] ++ [(q3, .inl (ca 0, (24, .inl (fun _ => 0))))] ++ [(q4, .inl (ca 0, (24, .inl (fun _ => 0))))] ++ [(q5, .inl (ca 0, (24, .inl (fun _ => 0))))] ++ [(q6, .inl (ca 0, (72, .inl (fun _ => 0))))] ++ [(q7, .inl (ca 0, (24, .inl (fun _ => 0))))] ++ [(q8, .inl (ca 0, (276, .inl (fun _ => 0))))] ++ [(q9, .inl (ca 0, (276, .inl (fun _ => 0))))]))) H := hP
  have hD : va_D A (X ++ ((a, .inr (7, [.ref q1, .ref q2, .ref q3, .ref q4, .ref q5, .ref q6, .ref q7, .ref q8, .ref q9, .int 0, .int 0, .int 0])) :: ([] ++ [(q1, .inl (ca 0, (8, .inl (fun _ => 0))))] ++ [(q2, .inl (ca 0, (8, .inl (fun _ => 0))))] ++ [(q3, .inl (ca 0, (24, .inl (fun _ => 0))))] ++ [(q4, .inl (ca 0, (24, .inl (fun _ => 0))))] ++ [(q5, .inl (ca 0, (24, .inl (fun _ => 0))))] ++ [(q6, .inl (ca 0, (72, .inl (fun _ => 0))))] ++ [(q7, .inl (ca 0, (24, .inl (fun _ => 0))))] ++ [(q8, .inl (ca 0, (276, .inl (fun _ => 0))))] ++ [(q9, .inl (ca 0, (276, .inl (fun _ => 0))))]))) := hD
  refine W.widen (k := 9) (n := 736) (Nat.le_of_ble_eq_true rfl) (Nat.le_of_ble_eq_true rfl) ?_
  exact W.vret hx hb hr (fun t ht hW => ⟨⟨(fun j => match j with | 0 => a | 1 => q1 | 2 => q2 | 3 => q3 | 4 => q4 | 5 => q5 | 6 => q6 | 7 => q7 | 8 => q8 | 9 => q9 | _ => 0), rfl, rfl, by rw [ht]; exact hP, va_K.moved hW.alike hK, hD⟩, hS.F ht⟩) hS.2.2 dX7_init_78 (hlocks := hlocks)
def cl_X2 (ca : Nat → ClassId) (f : Nat → Nat) : va_W := (f 0, .inr (2, [.ref (f 1), .ref (f 2), .ref (f 3), .ref (f 4), .ref (f 5), .ref (f 6), .int 0, .int 0])) :: ([] ++ [(f 1, .inl (ca 0, (24, .inl (fun _ => 0))))] ++ [(f 2, .inl (ca 0, (24, .inl (fun _ => 0))))] ++ [(f 3, .inl (ca 0, (24, .inl (fun _ => 0))))] ++ [(f 4, .inl (ca 0, (24, .inl (fun _ => 0))))] ++ [(f 5, .inl (ca 0, (24, .inl (fun _ => 0))))] ++ [(f 6, .inl (ca 0, (24, .inl (fun _ => 0))))])
set_option maxRecDepth 100000 in
set_option maxHeartbeats 4000000 in
theorem i_X2 (l : Launch) (D : va_G) (ca : Nat → ClassId) : ctorC l D ca 2 [.null, .null, .null, .null, .null, .null, .int 0, .int 0] yX2_init (wsy yX2_init cX2_init 1 none) ({ frames := 1, cells := 6, slots := 144, locals := 52 } : Room) (cl_X2 ca) 6 144 := by
  intro X a sz
  refine Met.ofW (cc := cX2_init) (maxL := 1) (ret := none) (by decide +kernel) rfl ?_
  intro p e s m args below meth c s₁ B hml hv
  obtain ⟨rfl, hsz, hP, hK, hD0, hN⟩ := hv
  have hx := B.exec
  have hb := B.bytes
  have hr := B.returns
  have hlocks := B.notSynchronized
  have hts : ∀ w ∈ ALL, w.before _ s = true := fun w hw => atoms_spec (ws := wsy yX2_init cX2_init 1 none) B.pre w (List.mem_cons_of_mem _ hw)
  have hown : s.vm.findClass RX2 = some m.cls := findClass_of_methodNamed B.named
  have hin2 : meth.name = "<init>" := (name_of_methodNamed B.named B.method).1
  have C : CX p s m _ c cX2_init RX2 1 D ca (fun _ => True) := ⟨hx, hb, hml, hown, hts, hK, trivial⟩
  subst hsz
  have hD := hD0.self (sz := s.heap.size)
  generalize hAe : va_A (X ++ [(a, .inr (2, [.null, .null, .null, .null, .null, .null, .int 0, .int 0]))]) s.heap.size = A at hD ⊢
  have hA : ∀ q : Nat, s.heap.size ≤ q → A q := fun q h => by rw [← hAe]; exact Or.inr h
  have hS : va_S A s.heap s.heap [] := va_S.rf
  have hl := lv_entry ([.ref a]) (n := 1) (Nat.le_of_ble_eq_true rfl)
  rw [lg_entry_eq]
  generalize (lg_sl ([.ref a]) ++ List.replicate (1 - (lg_sl ([.ref a])).length) Slot.unset).toArray = ls at hl ⊢
  have hl : lv_has ls 1 [(0, .ref a)] := hl
  show W p l e ({ frames := 1, cells := 6, slots := 144, locals := 52 } : Room) s m _ below meth c s.heap [] 0 0 _ _
  have hP : va_P D vwCl (X ++ ((a, .inr (2, [.null, .null, .null, .null, .null, .null, .int 0, .int 0])) :: ([]))) s.heap := hP
  have hD : va_D A (X ++ ((a, .inr (2, [.null, .null, .null, .null, .null, .null, .int 0, .int 0])) :: ([]))) := hD
  refine lv_aload_n hx hb dX2_init_0 rfl (lv_at hl 0 rfl) ?_
  refine W.objInit hx hb hown (hts _ ml_X2_3) (hts _ im_objectInit) (hts _ cd_objectInit) rfl (by rw [hml]; exact hl.1) rfl dX2_init_1 (Nat.le_of_ble_eq_true rfl) (Nat.le_of_ble_eq_true rfl) ?_
  refine W.eq (g2 := F0 m 4 ls []) rfl ?_
  refine lv_aload_n hx hb dX2_init_4 rfl (lv_at hl 0 rfl) ?_
  refine lv_bipush (v := (24 : Int32)) hx hb dX2_init_5 (by decide) ?_
  refine rn_arr (ty := .int) (t0 := 0) (q0 := 0) (N' := 24) (a0 := (24, .inl (fun _ => 0))) C rfl rfl (fun cA h1 h2 => Option.some.inj (h1.symm.trans h2)) ac__int hP hD hS hA (fun _ => rfl) (by decide +kernel) (by decide +kernel) (Nat.le_of_ble_eq_true rfl) (Nat.le_of_ble_eq_true rfl) (Nat.le_of_ble_eq_true rfl) dX2_init_7 (fun q1 H hP hD hS => ?_)
  have hP : va_P D vwCl (X ++ ((a, .inr (2, [.null, .null, .null, .null, .null, .null, .int 0, .int 0])) :: ([] ++ [(q1, .inl (ca 0, (24, .inl (fun _ => 0))))]))) H := hP
  have hD : va_D A (X ++ ((a, .inr (2, [.null, .null, .null, .null, .null, .null, .int 0, .int 0])) :: ([] ++ [(q1, .inl (ca 0, (24, .inl (fun _ => 0))))]))) := hD
  refine rn_putF (ci := 2) (j := 0) (k := 0) (T := TX2) (Nf := 8) (ty0 := tyX2) (v := .ref q1) (fs := [.null, .null, .null, .null, .null, .null, .int 0, .int 0]) C in_wsX20 tyX2_ok nmX2 hP hD hS rfl rfl (Nat.le_of_ble_eq_true rfl) (Nat.le_of_ble_eq_true rfl) rfl hin2 rfl rfl rfl lk_X2_9 dX2_init_9 (fun H locs hP hD hS => ?_)
  have hP : va_P D vwCl (X ++ ((a, .inr (2, [.ref q1, .null, .null, .null, .null, .null, .int 0, .int 0])) :: ([] ++ [(q1, .inl (ca 0, (24, .inl (fun _ => 0))))]))) H := hP
  have hD : va_D A (X ++ ((a, .inr (2, [.ref q1, .null, .null, .null, .null, .null, .int 0, .int 0])) :: ([] ++ [(q1, .inl (ca 0, (24, .inl (fun _ => 0))))]))) := hD
  refine lv_aload_n hx hb dX2_init_12 rfl (lv_at hl 0 rfl) ?_
  refine lv_bipush (v := (24 : Int32)) hx hb dX2_init_13 (by decide) ?_
  refine rn_arr (ty := .int) (t0 := 0) (q0 := 0) (N' := 24) (a0 := (24, .inl (fun _ => 0))) C rfl rfl (fun cA h1 h2 => Option.some.inj (h1.symm.trans h2)) ac__int hP hD hS hA (fun _ => rfl) (by decide +kernel) (by decide +kernel) (Nat.le_of_ble_eq_true rfl) (Nat.le_of_ble_eq_true rfl) (Nat.le_of_ble_eq_true rfl) dX2_init_15 (fun q2 H hP hD hS => ?_)
  have hP : va_P D vwCl (X ++ ((a, .inr (2, [.ref q1, .null, .null, .null, .null, .null, .int 0, .int 0])) :: ([] ++ [(q1, .inl (ca 0, (24, .inl (fun _ => 0))))] ++ [(q2, .inl (ca 0, (24, .inl (fun _ => 0))))]))) H := hP
  have hD : va_D A (X ++ ((a, .inr (2, [.ref q1, .null, .null, .null, .null, .null, .int 0, .int 0])) :: ([] ++ [(q1, .inl (ca 0, (24, .inl (fun _ => 0))))] ++ [(q2, .inl (ca 0, (24, .inl (fun _ => 0))))]))) := hD
  refine rn_putF (ci := 2) (j := 0) (k := 1) (T := TX2) (Nf := 8) (ty0 := tyX2) (v := .ref q2) (fs := [.ref q1, .null, .null, .null, .null, .null, .int 0, .int 0]) C in_wsX20 tyX2_ok nmX2 hP hD hS rfl rfl (Nat.le_of_ble_eq_true rfl) (Nat.le_of_ble_eq_true rfl) rfl hin2 rfl rfl rfl lk_X2_15 dX2_init_17 (fun H locs hP hD hS => ?_)
  have hP : va_P D vwCl (X ++ ((a, .inr (2, [.ref q1, .ref q2, .null, .null, .null, .null, .int 0, .int 0])) :: ([] ++ [(q1, .inl (ca 0, (24, .inl (fun _ => 0))))] ++ [(q2, .inl (ca 0, (24, .inl (fun _ => 0))))]))) H := hP
  have hD : va_D A (X ++ ((a, .inr (2, [.ref q1, .ref q2, .null, .null, .null, .null, .int 0, .int 0])) :: ([] ++ [(q1, .inl (ca 0, (24, .inl (fun _ => 0))))] ++ [(q2, .inl (ca 0, (24, .inl (fun _ => 0))))]))) := hD
  refine lv_aload_n hx hb dX2_init_20 rfl (lv_at hl 0 rfl) ?_
  refine lv_bipush (v := (24 : Int32)) hx hb dX2_init_21 (by decide) ?_
  refine rn_arr (ty := .int) (t0 := 0) (q0 := 0) (N' := 24) (a0 := (24, .inl (fun _ => 0))) C rfl rfl (fun cA h1 h2 => Option.some.inj (h1.symm.trans h2)) ac__int hP hD hS hA (fun _ => rfl) (by decide +kernel) (by decide +kernel) (Nat.le_of_ble_eq_true rfl) (Nat.le_of_ble_eq_true rfl) (Nat.le_of_ble_eq_true rfl) dX2_init_23 (fun q3 H hP hD hS => ?_)
  have hP : va_P D vwCl (X ++ ((a, .inr (2, [.ref q1, .ref q2, .null, .null, .null, .null, .int 0, .int 0])) :: ([] ++ [(q1, .inl (ca 0, (24, .inl (fun _ => 0))))] ++ [(q2, .inl (ca 0, (24, .inl (fun _ => 0))))] ++ [(q3, .inl (ca 0, (24, .inl (fun _ => 0))))]))) H := hP
  have hD : va_D A (X ++ ((a, .inr (2, [.ref q1, .ref q2, .null, .null, .null, .null, .int 0, .int 0])) :: ([] ++ [(q1, .inl (ca 0, (24, .inl (fun _ => 0))))] ++ [(q2, .inl (ca 0, (24, .inl (fun _ => 0))))] ++ [(q3, .inl (ca 0, (24, .inl (fun _ => 0))))]))) := hD
  refine rn_putF (ci := 2) (j := 0) (k := 2) (T := TX2) (Nf := 8) (ty0 := tyX2) (v := .ref q3) (fs := [.ref q1, .ref q2, .null, .null, .null, .null, .int 0, .int 0]) C in_wsX20 tyX2_ok nmX2 hP hD hS rfl rfl (Nat.le_of_ble_eq_true rfl) (Nat.le_of_ble_eq_true rfl) rfl hin2 rfl rfl rfl lk_X2_18 dX2_init_25 (fun H locs hP hD hS => ?_)
  have hP : va_P D vwCl (X ++ ((a, .inr (2, [.ref q1, .ref q2, .ref q3, .null, .null, .null, .int 0, .int 0])) :: ([] ++ [(q1, .inl (ca 0, (24, .inl (fun _ => 0))))] ++ [(q2, .inl (ca 0, (24, .inl (fun _ => 0))))] ++ [(q3, .inl (ca 0, (24, .inl (fun _ => 0))))]))) H := hP
  have hD : va_D A (X ++ ((a, .inr (2, [.ref q1, .ref q2, .ref q3, .null, .null, .null, .int 0, .int 0])) :: ([] ++ [(q1, .inl (ca 0, (24, .inl (fun _ => 0))))] ++ [(q2, .inl (ca 0, (24, .inl (fun _ => 0))))] ++ [(q3, .inl (ca 0, (24, .inl (fun _ => 0))))]))) := hD
  refine lv_aload_n hx hb dX2_init_28 rfl (lv_at hl 0 rfl) ?_
  refine lv_bipush (v := (24 : Int32)) hx hb dX2_init_29 (by decide) ?_
  refine rn_arr (ty := .int) (t0 := 0) (q0 := 0) (N' := 24) (a0 := (24, .inl (fun _ => 0))) C rfl rfl (fun cA h1 h2 => Option.some.inj (h1.symm.trans h2)) ac__int hP hD hS hA (fun _ => rfl) (by decide +kernel) (by decide +kernel) (Nat.le_of_ble_eq_true rfl) (Nat.le_of_ble_eq_true rfl) (Nat.le_of_ble_eq_true rfl) dX2_init_31 (fun q4 H hP hD hS => ?_)
  have hP : va_P D vwCl (X ++ ((a, .inr (2, [.ref q1, .ref q2, .ref q3, .null, .null, .null, .int 0, .int 0])) :: ([] ++ [(q1, .inl (ca 0, (24, .inl (fun _ => 0))))] ++ [(q2, .inl (ca 0, (24, .inl (fun _ => 0))))] ++ [(q3, .inl (ca 0, (24, .inl (fun _ => 0))))] ++ [(q4, .inl (ca 0, (24, .inl (fun _ => 0))))]))) H := hP
  have hD : va_D A (X ++ ((a, .inr (2, [.ref q1, .ref q2, .ref q3, .null, .null, .null, .int 0, .int 0])) :: ([] ++ [(q1, .inl (ca 0, (24, .inl (fun _ => 0))))] ++ [(q2, .inl (ca 0, (24, .inl (fun _ => 0))))] ++ [(q3, .inl (ca 0, (24, .inl (fun _ => 0))))] ++ [(q4, .inl (ca 0, (24, .inl (fun _ => 0))))]))) := hD
  refine rn_putF (ci := 2) (j := 0) (k := 3) (T := TX2) (Nf := 8) (ty0 := tyX2) (v := .ref q4) (fs := [.ref q1, .ref q2, .ref q3, .null, .null, .null, .int 0, .int 0]) C in_wsX20 tyX2_ok nmX2 hP hD hS rfl rfl (Nat.le_of_ble_eq_true rfl) (Nat.le_of_ble_eq_true rfl) rfl hin2 rfl rfl rfl lk_X2_21 dX2_init_33 (fun H locs hP hD hS => ?_)
  have hP : va_P D vwCl (X ++ ((a, .inr (2, [.ref q1, .ref q2, .ref q3, .ref q4, .null, .null, .int 0, .int 0])) :: ([] ++ [(q1, .inl (ca 0, (24, .inl (fun _ => 0))))] ++ [(q2, .inl (ca 0, (24, .inl (fun _ => 0))))] ++ [(q3, .inl (ca 0, (24, .inl (fun _ => 0))))] ++ [(q4, .inl (ca 0, (24, .inl (fun _ => 0))))]))) H := hP
  have hD : va_D A (X ++ ((a, .inr (2, [.ref q1, .ref q2, .ref q3, .ref q4, .null, .null, .int 0, .int 0])) :: ([] ++ [(q1, .inl (ca 0, (24, .inl (fun _ => 0))))] ++ [(q2, .inl (ca 0, (24, .inl (fun _ => 0))))] ++ [(q3, .inl (ca 0, (24, .inl (fun _ => 0))))] ++ [(q4, .inl (ca 0, (24, .inl (fun _ => 0))))]))) := hD
  refine lv_aload_n hx hb dX2_init_36 rfl (lv_at hl 0 rfl) ?_
  refine lv_bipush (v := (24 : Int32)) hx hb dX2_init_37 (by decide) ?_
  refine rn_arr (ty := .int) (t0 := 0) (q0 := 0) (N' := 24) (a0 := (24, .inl (fun _ => 0))) C rfl rfl (fun cA h1 h2 => Option.some.inj (h1.symm.trans h2)) ac__int hP hD hS hA (fun _ => rfl) (by decide +kernel) (by decide +kernel) (Nat.le_of_ble_eq_true rfl) (Nat.le_of_ble_eq_true rfl) (Nat.le_of_ble_eq_true rfl) dX2_init_39 (fun q5 H hP hD hS => ?_)
  have hP : va_P D vwCl (X ++ ((a, .inr (2, [.ref q1, .ref q2, .ref q3, .ref q4, .null, .null, .int 0, .int 0])) :: ([] ++ [(q1, .inl (ca 0, (24, .inl (fun _ => 0))))] ++ [(q2, .inl (ca 0, (24, .inl (fun _ => 0))))] ++ [(q3, .inl (ca 0, (24, .inl (fun _ => 0))))] ++ [(q4, .inl (ca 0, (24, .inl (fun _ => 0))))] ++ [(q5, .inl (ca 0, (24, .inl (fun _ => 0))))]))) H := hP
  have hD : va_D A (X ++ ((a, .inr (2, [.ref q1, .ref q2, .ref q3, .ref q4, .null, .null, .int 0, .int 0])) :: ([] ++ [(q1, .inl (ca 0, (24, .inl (fun _ => 0))))] ++ [(q2, .inl (ca 0, (24, .inl (fun _ => 0))))] ++ [(q3, .inl (ca 0, (24, .inl (fun _ => 0))))] ++ [(q4, .inl (ca 0, (24, .inl (fun _ => 0))))] ++ [(q5, .inl (ca 0, (24, .inl (fun _ => 0))))]))) := hD
  refine rn_putF (ci := 2) (j := 0) (k := 4) (T := TX2) (Nf := 8) (ty0 := tyX2) (v := .ref q5) (fs := [.ref q1, .ref q2, .ref q3, .ref q4, .null, .null, .int 0, .int 0]) C in_wsX20 tyX2_ok nmX2 hP hD hS rfl rfl (Nat.le_of_ble_eq_true rfl) (Nat.le_of_ble_eq_true rfl) rfl hin2 rfl rfl rfl lk_X2_24 dX2_init_41 (fun H locs hP hD hS => ?_)
  have hP : va_P D vwCl (X ++ ((a, .inr (2, [.ref q1, .ref q2, .ref q3, .ref q4, .ref q5, .null, .int 0, .int 0])) :: ([] ++ [(q1, .inl (ca 0, (24, .inl (fun _ => 0))))] ++ [(q2, .inl (ca 0, (24, .inl (fun _ => 0))))] ++ [(q3, .inl (ca 0, (24, .inl (fun _ => 0))))] ++ [(q4, .inl (ca 0, (24, .inl (fun _ => 0))))] ++ [(q5, .inl (ca 0, (24, .inl (fun _ => 0))))]))) H := hP
  have hD : va_D A (X ++ ((a, .inr (2, [.ref q1, .ref q2, .ref q3, .ref q4, .ref q5, .null, .int 0, .int 0])) :: ([] ++ [(q1, .inl (ca 0, (24, .inl (fun _ => 0))))] ++ [(q2, .inl (ca 0, (24, .inl (fun _ => 0))))] ++ [(q3, .inl (ca 0, (24, .inl (fun _ => 0))))] ++ [(q4, .inl (ca 0, (24, .inl (fun _ => 0))))] ++ [(q5, .inl (ca 0, (24, .inl (fun _ => 0))))]))) := hD
  refine lv_aload_n hx hb dX2_init_44 rfl (lv_at hl 0 rfl) ?_
  refine lv_bipush (v := (24 : Int32)) hx hb dX2_init_45 (by decide) ?_
  refine rn_arr (ty := .int) (t0 := 0) (q0 := 0) (N' := 24) (a0 := (24, .inl (fun _ => 0))) C rfl rfl (fun cA h1 h2 => Option.some.inj (h1.symm.trans h2)) ac__int hP hD hS hA (fun _ => rfl) (by decide +kernel) (by decide +kernel) (Nat.le_of_ble_eq_true rfl) (Nat.le_of_ble_eq_true rfl) (Nat.le_of_ble_eq_true rfl) dX2_init_47 (fun q6 H hP hD hS => ?_)
  have hP : va_P D vwCl (X ++ ((a, .inr (2, [.ref q1, .ref q2, .ref q3, .ref q4, .ref q5, .null, .int 0, .int 0])) :: ([] ++ [(q1, .inl (ca 0, (24, .inl (fun _ => 0))))] ++ [(q2, .inl (ca 0, (24, .inl (fun _ => 0))))] ++ [(q3, .inl (ca 0, (24, .inl (fun _ => 0))))] ++ [(q4, .inl (ca 0, (24, .inl (fun _ => 0))))] ++ [(q5, .inl (ca 0, (24, .inl (fun _ => 0))))] ++ [(q6, .inl (ca 0, (24, .inl (fun _ => 0))))]))) H := hP
  have hD : va_D A (X ++ ((a, .inr (2, [.ref q1, .ref q2, .ref q3, .ref q4, .ref q5, .null, .int 0, .int 0])) :: ([] ++ [(q1, .inl (ca 0, (24, .inl (fun _ => 0))))] ++ [(q2, .inl (ca 0, (24, .inl (fun _ => 0))))] ++ [(q3, .inl (ca 0, (24, .inl (fun _ => 0))))] ++ [(q4, .inl (ca 0, (24, .inl (fun _ => 0))))] ++ [(q5, .inl (ca 0, (24, .inl (fun _ => 0))))] ++ [(q6, .inl (ca 0, (24, .inl (fun _ => 0))))]))) := hD
  refine rn_putF (ci := 2) (j := 0) (k := 5) (T := TX2) (Nf := 8) (ty0 := tyX2) (v := .ref q6) (fs := [.ref q1, .ref q2, .ref q3, .ref q4, .ref q5, .null, .int 0, .int 0]) C in_wsX20 tyX2_ok nmX2 hP hD hS rfl rfl (Nat.le_of_ble_eq_true rfl) (Nat.le_of_ble_eq_true rfl) rfl hin2 rfl rfl rfl lk_X2_27 dX2_init_49 (fun H locs hP hD hS => ?_)
  have hP : va_P D vwCl (X ++ ((a, .inr (2, [.ref q1, .ref q2, .ref q3, .ref q4, .ref q5, .ref q6, .int 0, .int 0])) :: ([] ++ [(q1, .inl (ca 0, (24, .inl (fun _ => 0))))] ++ [(q2, .inl (ca 0, (24, .inl (fun _ => 0))))] ++ [(q3, .inl (ca 0, (24, .inl (fun _ => 0))))] ++ [(q4, .inl (ca 0, (24, .inl (fun _ => 0))))] ++ [(q5, .inl (ca 0, (24, .inl (fun _ => 0))))] ++ [(q6, .inl (ca 0, (24, .inl (fun _ => 0))))]))) H := hP
  have hD : va_D A (X ++ ((a, .inr (2, [.ref q1, .ref q2, .ref q3, .ref q4, .ref q5, .ref q6, .int 0, .int 0])) :: ([] ++ [(q1, .inl (ca 0, (24, .inl (fun _ => 0))))] ++ [(q2, .inl (ca 0, (24, .inl (fun _ => 0))))] ++ [(q3, .inl (ca 0, (24, .inl (fun _ => 0))))] ++ [(q4, .inl (ca 0, (24, .inl (fun _ => 0))))] ++ [(q5, .inl (ca 0, (24, .inl (fun _ => 0))))] ++ [(q6, .inl (ca 0, (24, .inl (fun _ => 0))))]))) := hD
  refine W.widen (k := 6) (n := 144) (Nat.le_of_ble_eq_true rfl) (Nat.le_of_ble_eq_true rfl) ?_
  exact W.vret hx hb hr (fun t ht hW => ⟨⟨(fun j => match j with | 0 => a | 1 => q1 | 2 => q2 | 3 => q3 | 4 => q4 | 5 => q5 | 6 => q6 | _ => 0), rfl, rfl, by rw [ht]; exact hP, va_K.moved hW.alike hK, hD⟩, hS.F ht⟩) hS.2.2 dX2_init_52 (hlocks := hlocks)
def cl_X1 (ca : Nat → ClassId) (f : Nat → Nat) : va_W := (f 0, .inr (1, [.ref (f 1), .ref (f 11), .ref (f 13), .ref (f 20), .ref (f 21), .ref (f 22), .ref (f 23), .ref (f 24), .ref (f 25), .int 0, .int 0, .int 0])) :: ([] ++ cl_X7 ca (fun j => f (1 + j)) ++ cl_X3 ca (fun j => f (11 + j)) ++ cl_X2 ca (fun j => f (13 + j)) ++ [(f 20, .inl (ca 0, (12, .inl (fun _ => 0))))] ++ [(f 21, .inl (ca 0, (12, .inl (fun _ => 0))))] ++ [(f 22, .inl (ca 0, (8, .inl (fun _ => 0))))] ++ [(f 23, .inl (ca 0, (8, .inl (fun _ => 0))))] ++ [(f 24, .inl (ca 0, (44, .inl (fun _ => 0))))] ++ [(f 25, .inl (ca 0, (44, .inl (fun _ => 0))))])
set_option maxRecDepth 100000 in
set_option maxHeartbeats 4000000 in
theorem i_X1 (l : Launch) (D : va_G) (ca : Nat → ClassId) : ctorC l D ca 1 [.null, .null, .null, .null, .null, .null, .null, .null, .null, .int 0, .int 0, .int 0] yX1_init (wsy yX1_init cX1_init 1 none) ({ frames := 2, cells := 25, slots := 1055, locals := 92 } : Room) (cl_X1 ca) 25 1055 := by
  intro X a sz
  refine Met.ofW (cc := cX1_init) (maxL := 1) (ret := none) (by decide +kernel) rfl ?_
  intro p e s m args below meth c s₁ B hml hv
  obtain ⟨rfl, hsz, hP, hK, hD0, hN⟩ := hv
  have hx := B.exec
  have hb := B.bytes
  have hr := B.returns
  have hlocks := B.notSynchronized
  have hts : ∀ w ∈ ALL, w.before _ s = true := fun w hw => atoms_spec (ws := wsy yX1_init cX1_init 1 none) B.pre w (List.mem_cons_of_mem _ hw)
  have hown : s.vm.findClass RX1 = some m.cls := findClass_of_methodNamed B.named
  have hin2 : meth.name = "<init>" := (name_of_methodNamed B.named B.method).1
  have C : CX p s m _ c cX1_init RX1 1 D ca (fun _ => True) := ⟨hx, hb, hml, hown, hts, hK, trivial⟩
  subst hsz
  have hD := hD0.self (sz := s.heap.size)
  generalize hAe : va_A (X ++ [(a, .inr (1, [.null, .null, .null, .null, .null, .null, .null, .null, .null, .int 0, .int 0, .int 0]))]) s.heap.size = A at hD ⊢
  have hA : ∀ q : Nat, s.heap.size ≤ q → A q := fun q h => by rw [← hAe]; exact Or.inr h
  have hS : va_S A s.heap s.heap [] := va_S.rf
  have hl := lv_entry ([.ref a]) (n := 1) (Nat.le_of_ble_eq_true rfl)
  rw [lg_entry_eq]
  generalize (lg_sl ([.ref a]) ++ List.replicate (1 - (lg_sl ([.ref a])).length) Slot.unset).toArray = ls at hl ⊢
  have hl : lv_has ls 1 [(0, .ref a)] := hl
  show W p l e ({ frames := 2, cells := 25, slots := 1055, locals := 92 } : Room) s m _ below meth c s.heap [] 0 0 _ _
  have hP : va_P D vwCl (X ++ ((a, .inr (1, [.null, .null, .null, .null, .null, .null, .null, .null, .null, .int 0, .int 0, .int 0])) :: ([]))) s.heap := hP
  have hD : va_D A (X ++ ((a, .inr (1, [.null, .null, .null, .null, .null, .null, .null, .null, .null, .int 0, .int 0, .int 0])) :: ([]))) := hD
  refine lv_aload_n hx hb dX1_init_0 rfl (lv_at hl 0 rfl) ?_
  refine W.objInit hx hb hown (hts _ ml_X1_3) (hts _ im_objectInit) (hts _ cd_objectInit) rfl (by rw [hml]; exact hl.1) rfl dX1_init_1 (Nat.le_of_ble_eq_true rfl) (Nat.le_of_ble_eq_true rfl) ?_
  refine W.eq (g2 := F0 m 4 ls []) rfl ?_
  refine lv_aload_n hx hb dX1_init_4 rfl (lv_at hl 0 rfl) ?_
  refine rn_objN (k := 7) (idx := 9) (idx2 := 11) (host := RX8) (T := TX7) (ty0 := tyX7) (Nf := 12) (y := yX7_init) (nulls := [.null, .null, .null, .null, .null, .null, .null, .null, .null, .int 0, .int 0, .int 0]) C hl.1 in_wsX70 tyX7_ok rfl (fun j hj => by rcases (show j = 0 ∨ j = 1 ∨ j = 2 ∨ j = 3 ∨ j = 4 ∨ j = 5 ∨ j = 6 ∨ j = 7 ∨ j = 8 ∨ j = 9 ∨ j = 10 ∨ j = 11 by omega) with rfl | rfl | rfl | rfl | rfl | rfl | rfl | rfl | rfl | rfl | rfl | rfl <;> rfl) (i_X7 l D ca) cl_X1_9 it_X7 ini_X7 im_X7_init cd_X7_init rfl rfl hN (Or.inl (List.mem_of_getElem? (i := 5) rfl)) (by decide +kernel) hP hD hS hA (Nat.le_of_ble_eq_true rfl) (Nat.le_of_ble_eq_true rfl) ⟨rfl, rfl⟩ ⟨Nat.le_of_ble_eq_true rfl, Nat.le_of_ble_eq_true rfl⟩ (Nat.le_of_ble_eq_true rfl) dX1_init_5 dX1_init_8 dX1_init_9 (fun g1 H locs hP hD hS => ?_)
  have hP : va_P D vwCl (X ++ ((a, .inr (1, [.null, .null, .null, .null, .null, .null, .null, .null, .null, .int 0, .int 0, .int 0])) :: ([] ++ cl_X7 ca g1))) H := hP
  have hD : va_D A (X ++ ((a, .inr (1, [.null, .null, .null, .null, .null, .null, .null, .null, .null, .int 0, .int 0, .int 0])) :: ([] ++ cl_X7 ca g1))) := hD
  refine rn_putF (ci := 1) (j := 0) (k := 0) (T := TX1) (Nf := 12) (ty0 := tyX1) (v := .ref (g1 0)) (fs := [.null, .null, .null, .null, .null, .null, .null, .null, .null, .int 0, .int 0, .int 0]) C in_wsX10 tyX1_ok nmX1 hP hD hS rfl rfl (Nat.le_of_ble_eq_true rfl) (Nat.le_of_ble_eq_true rfl) rfl hin2 rfl rfl rfl lk_X1_12 dX1_init_12 (fun H locs hP hD hS => ?_)
  have hP : va_P D vwCl (X ++ ((a, .inr (1, [.ref (g1 0), .null, .null, .null, .null, .null, .null, .null, .null, .int 0, .int 0, .int 0])) :: ([] ++ cl_X7 ca g1))) H := hP
  have hD : va_D A (X ++ ((a, .inr (1, [.ref (g1 0), .null, .null, .null, .null, .null, .null, .null, .null, .int 0, .int 0, .int 0])) :: ([] ++ cl_X7 ca g1))) := hD
  refine lv_aload_n hx hb dX1_init_15 rfl (lv_at hl 0 rfl) ?_
  refine rn_objN (k := 3) (idx := 18) (idx2 := 20) (host := RX8) (T := TX3) (ty0 := tyX3) (Nf := 3) (y := yX3_init) (nulls := [.null, .int 0, .int 0]) C hl.1 in_wsX30 tyX3_ok rfl (fun j hj => by rcases (show j = 0 ∨ j = 1 ∨ j = 2 by omega) with rfl | rfl | rfl <;> rfl) (i_X3 l D ca) cl_X1_18 it_X3 ini_X3 im_X3_init cd_X3_init rfl rfl hN (Or.inl (List.mem_of_getElem? (i := 6) rfl)) (by decide +kernel) hP hD hS hA (Nat.le_of_ble_eq_true rfl) (Nat.le_of_ble_eq_true rfl) ⟨rfl, rfl⟩ ⟨Nat.le_of_ble_eq_true rfl, Nat.le_of_ble_eq_true rfl⟩ (Nat.le_of_ble_eq_true rfl) dX1_init_16 dX1_init_19 dX1_init_20 (fun g11 H locs hP hD hS => ?_)
  have hP : va_P D vwCl (X ++ ((a, .inr (1, [.ref (g1 0), .null, .null, .null, .null, .null, .null, .null, .null, .int 0, .int 0, .int 0])) :: ([] ++ cl_X7 ca g1 ++ cl_X3 ca g11))) H := hP
  have hD : va_D A (X ++ ((a, .inr (1, [.ref (g1 0), .null, .null, .null, .null, .null, .null, .null, .null, .int 0, .int 0, .int 0])) :: ([] ++ cl_X7 ca g1 ++ cl_X3 ca g11))) := hD
  refine rn_putF (ci := 1) (j := 0) (k := 1) (T := TX1) (Nf := 12) (ty0 := tyX1) (v := .ref (g11 0)) (fs := [.ref (g1 0), .null, .null, .null, .null, .null, .null, .null, .null, .int 0, .int 0, .int 0]) C in_wsX10 tyX1_ok nmX1 hP hD hS rfl rfl (Nat.le_of_ble_eq_true rfl) (Nat.le_of_ble_eq_true rfl) rfl hin2 rfl rfl rfl lk_X1_21 dX1_init_23 (fun H locs hP hD hS => ?_)
  have hP : va_P D vwCl (X ++ ((a, .inr (1, [.ref (g1 0), .ref (g11 0), .null, .null, .null, .null, .null, .null, .null, .int 0, .int 0, .int 0])) :: ([] ++ cl_X7 ca g1 ++ cl_X3 ca g11))) H := hP
  have hD : va_D A (X ++ ((a, .inr (1, [.ref (g1 0), .ref (g11 0), .null, .null, .null, .null, .null, .null, .null, .int 0, .int 0, .int 0])) :: ([] ++ cl_X7 ca g1 ++ cl_X3 ca g11))) := hD
  refine lv_aload_n hx hb dX1_init_26 rfl (lv_at hl 0 rfl) ?_
  refine rn_objN (k := 2) (idx := 25) (idx2 := 27) (host := RX8) (T := TX2) (ty0 := tyX2) (Nf := 8) (y := yX2_init) (nulls := [.null, .null, .null, .null, .null, .null, .int 0, .int 0]) C hl.1 in_wsX20 tyX2_ok rfl (fun j hj => by rcases (show j = 0 ∨ j = 1 ∨ j = 2 ∨ j = 3 ∨ j = 4 ∨ j = 5 ∨ j = 6 ∨ j = 7 by omega) with rfl | rfl | rfl | rfl | rfl | rfl | rfl | rfl <;> rfl) (i_X2 l D ca) cl_X1_25 it_X2 ini_X2 im_X2_init cd_X2_init rfl rfl hN (Or.inl (List.mem_of_getElem? (i := 7) rfl)) (by decide +kernel) hP hD hS hA (Nat.le_of_ble_eq_true rfl) (Nat.le_of_ble_eq_true rfl) ⟨rfl, rfl⟩ ⟨Nat.le_of_ble_eq_true rfl, Nat.le_of_ble_eq_true rfl⟩ (Nat.le_of_ble_eq_true rfl) dX1_init_27 dX1_init_30 dX1_init_31 (fun g13 H locs hP hD hS => ?_)
  have hP : va_P D vwCl (X ++ ((a, .inr (1, [.ref (g1 0), .ref (g11 0), .null, .null, .null, .null, .null, .null, .null, .int 0, .int 0, .int 0])) :: ([] ++ cl_X7 ca g1 ++ cl_X3 ca g11 ++ cl_X2 ca g13))) H := hP
  have hD : va_D A (X ++ ((a, .inr (1, [.ref (g1 0), .ref (g11 0), .null, .null, .null, .null, .null, .null, .null, .int 0, .int 0, .int 0])) :: ([] ++ cl_X7 ca g1 ++ cl_X3 ca g11 ++ cl_X2 ca g13))) := hD
  refine rn_putF (ci := 1) (j := 0) (k := 2) (T := TX1) (Nf := 12) (ty0 := tyX1) (v := .ref (g13 0)) (fs := [.ref (g1 0), .ref (g11 0), .null, .null, .null, .null, .null, .null, .null, .int 0, .int 0, .int 0]) C in_wsX10 tyX1_ok nmX1 hP hD hS rfl rfl (Nat.le_of_ble_eq_true rfl) (Nat.le_of_ble_eq_true rfl) rfl hin2 rfl rfl rfl lk_X1_28 dX1_init_34 (fun H locs hP hD hS => ?_)
  have hP : va_P D vwCl (X ++ ((a, .inr (1, [.ref (g1 0), .ref (g11 0), .ref (g13 0), .null, .null, .null, .null, .null, .null, .int 0, .int 0, .int 0])) :: ([] ++ cl_X7 ca g1 ++ cl_X3 ca g11 ++ cl_X2 ca g13))) H := hP
  have hD : va_D A (X ++ ((a, .inr (1, [.ref (g1 0), .ref (g11 0), .ref (g13 0), .null, .null, .null, .null, .null, .null, .int 0, .int 0, .int 0])) :: ([] ++ cl_X7 ca g1 ++ cl_X3 ca g11 ++ cl_X2 ca g13))) := hD
  refine lv_aload_n hx hb dX1_init_37 rfl (lv_at hl 0 rfl) ?_
  refine lv_bipush (v := (12 : Int32)) hx hb dX1_init_38 (by decide) ?_
  refine rn_arr (ty := .int) (t0 := 0) (q0 := 0) (N' := 12) (a0 := (12, .inl (fun _ => 0))) C rfl rfl (fun cA h1 h2 => Option.some.inj (h1.symm.trans h2)) ac__int hP hD hS hA (fun _ => rfl) (by decide +kernel) (by decide +kernel) (Nat.le_of_ble_eq_true rfl) (Nat.le_of_ble_eq_true rfl) (Nat.le_of_ble_eq_true rfl) dX1_init_40 (fun q20 H hP hD hS => ?_)
  have hP : va_P D vwCl (X ++ ((a, .inr (1, [.ref (g1 0), .ref (g11 0), .ref (g13 0), .null, .null, .null, .null, .null, .null, .int 0, .int 0, .int 0])) :: ([] ++ cl_X7 ca g1 ++ cl_X3 ca g11 ++ cl_X2 ca g13 ++ [(q20, .inl (ca 0, (12, .inl (fun _ => 0))))]))) H := hP
  have hD : va_D A (X ++ ((a, .inr (1, [.ref (g1 0), .ref (g11 0), .ref (g13 0), .null, .null, .null, .null, .null, .null, .int 0, .int 0, .int 0])) :: ([] ++ cl_X7 ca g1 ++ cl_X3 ca g11 ++ cl_X2 ca g13 ++ [(q20, .inl (ca 0, (12, .inl (fun _ => 0))))]))) := hD
  refine rn_putF (ci := 1) (j := 0) (k := 3) (T := TX1) (Nf := 12) (ty0 := tyX1) (v := .ref q20) (fs := [.ref (g1 0), .ref (g11 0), .ref (g13 0), .null, .null, .null, .null, .null, .null, .int 0, .int 0, .int 0]) C in_wsX10 tyX1_ok nmX1 hP hD hS rfl rfl (Nat.le_of_ble_eq_true rfl) (Nat.le_of_ble_eq_true rfl) rfl hin2 rfl rfl rfl lk_X1_32 dX1_init_42 (fun H locs hP hD hS => ?_)
  have hP : va_P D vwCl (X ++ ((a, .inr (1, [.ref (g1 0), .ref (g11 0), .ref (g13 0), .ref q20, .null, .null, .null, .null, .null, .int 0, .int 0, .int 0])) :: ([] ++ cl_X7 ca g1 ++ cl_X3 ca g11 ++ cl_X2 ca g13 ++ [(q20, .inl (ca 0, (12, .inl (fun _ => 0))))]))) H := hP
  have hD : va_D A (X ++ ((a, .inr (1, [.ref (g1 0), .ref (g11 0), .ref (g13 0), .ref q20, .null, .null, .null, .null, .null, .int 0, .int 0, .int 0])) :: ([] ++ cl_X7 ca g1 ++ cl_X3 ca g11 ++ cl_X2 ca g13 ++ [(q20, .inl (ca 0, (12, .inl (fun _ => 0))))]))) := hD
  refine lv_aload_n hx hb dX1_init_45 rfl (lv_at hl 0 rfl) ?_
  refine lv_bipush (v := (12 : Int32)) hx hb dX1_init_46 (by decide) ?_
  refine rn_arr (ty := .int) (t0 := 0) (q0 := 0) (N' := 12) (a0 := (12, .inl (fun _ => 0))) C rfl rfl (fun cA h1 h2 => Option.some.inj (h1.symm.trans h2)) ac__int hP hD hS hA (fun _ => rfl) (by decide +kernel) (by decide +kernel) (Nat.le_of_ble_eq_true rfl) (Nat.le_of_ble_eq_true rfl) (Nat.le_of_ble_eq_true rfl) dX1_init_48 (fun q21 H hP hD hS => ?_)
  have hP : va_P D vwCl (X ++ ((a, .inr (1, [.ref (g1 0), .ref (g11 0), .ref (g13 0), .ref q20, .null, .null, .null, .null, .null, .int 0, .int 0, .int 0])) :: ([] ++ cl_X7 ca g1 ++ cl_X3 ca g11 ++ cl_X2 ca g13 ++ [(q20, .inl (ca 0, (12, .inl (fun _ => 0))))] ++ [(q21, .inl (ca 0, (12, .inl (fun _ => 0))))]))) H := hP
  have hD : va_D A (X ++ ((a, .inr (1, [.ref (g1 0), .ref (g11 0), .ref (g13 0), .ref q20, .null, .null, .null, .null, .null, .int 0, .int 0, .int 0])) :: ([] ++ cl_X7 ca g1 ++ cl_X3 ca g11 ++ cl_X2 ca g13 ++ [(q20, .inl (ca 0, (12, .inl (fun _ => 0))))] ++ [(q21, .inl (ca 0, (12, .inl (fun _ => 0))))]))) := hD
  refine rn_putF (ci := 1) (j := 0) (k := 4) (T := TX1) (Nf := 12) (ty0 := tyX1) (v := .ref q21) (fs := [.ref (g1 0), .ref (g11 0), .ref (g13 0), .ref q20, .null, .null, .null, .null, .null, .int 0, .int 0, .int 0]) C in_wsX10 tyX1_ok nmX1 hP hD hS rfl rfl (Nat.le_of_ble_eq_true rfl) (Nat.le_of_ble_eq_true rfl) rfl hin2 rfl rfl rfl lk_X1_36 dX1_init_50 (fun H locs hP hD hS => ?_)
  have hP : va_P D vwCl (X ++ ((a, .inr (1, [.ref (g1 0), .ref (g11 0), .ref (g13 0), .ref q20, .ref q21, .null, .null, .null, .null, .int 0, .int 0, .int 0])) :: ([] ++ cl_X7 ca g1 ++ cl_X3 ca g11 ++ cl_X2 ca g13 ++ [(q20, .inl (ca 0, (12, .inl (fun _ => 0))))] ++ [(q21, .inl (ca 0, (12, .inl (fun _ => 0))))]))) H := hP
  have hD : va_D A (X ++ ((a, .inr (1, [.ref (g1 0), .ref (g11 0), .ref (g13 0), .ref q20, .ref q21, .null, .null, .null, .null, .int 0, .int 0, .int 0])) :: ([] ++ cl_X7 ca g1 ++ cl_X3 ca g11 ++ cl_X2 ca g13 ++ [(q20, .inl (ca 0, (12, .inl (fun _ => 0))))] ++ [(q21, .inl (ca 0, (12, .inl (fun _ => 0))))]))) := hD
  refine lv_aload_n hx hb dX1_init_53 rfl (lv_at hl 0 rfl) ?_
  refine lv_bipush (v := (8 : Int32)) hx hb dX1_init_54 (by decide) ?_
  refine rn_arr (ty := .int) (t0 := 0) (q0 := 0) (N' := 8) (a0 := (8, .inl (fun _ => 0))) C rfl rfl (fun cA h1 h2 => Option.some.inj (h1.symm.trans h2)) ac__int hP hD hS hA (fun _ => rfl) (by decide +kernel) (by decide +kernel) (Nat.le_of_ble_eq_true rfl) (Nat.le_of_ble_eq_true rfl) (Nat.le_of_ble_eq_true rfl) dX1_init_56 (fun q22 H hP hD hS => ?_)
  have hP : va_P D vwCl (X ++ ((a, .inr (1, [.ref (g1 0), .ref (g11 0), .ref (g13 0), .ref q20, .ref q21, .null, .null, .null, .null, .int 0, .int 0, .int 0])) :: ([] ++ cl_X7 ca g1 ++ cl_X3 ca g11 ++ cl_X2 ca g13 ++ [(q20, .inl (ca 0, (12, .inl (fun _ => 0))))] ++ [(q21, .inl (ca 0, (12, .inl (fun _ => 0))))] ++ [(q22, .inl (ca 0, (8, .inl (fun _ => 0))))]))) H := hP
  have hD : va_D A (X ++ ((a, .inr (1, [.ref (g1 0), .ref (g11 0), .ref (g13 0), .ref q20, .ref q21, .null, .null, .null, .null, .int 0, .int 0, .int 0])) :: ([] ++ cl_X7 ca g1 ++ cl_X3 ca g11 ++ cl_X2 ca g13 ++ [(q20, .inl (ca 0, (12, .inl (fun _ => 0))))] ++ [(q21, .inl (ca 0, (12, .inl (fun _ => 0))))] ++ [(q22, .inl (ca 0, (8, .inl (fun _ => 0))))]))) := hD
  refine rn_putF (ci := 1) (j := 0) (k := 5) (T := TX1) (Nf := 12) (ty0 := tyX1) (v := .ref q22) (fs := [.ref (g1 0), .ref (g11 0), .ref (g13 0), .ref q20, .ref q21, .null, .null, .null, .null, .int 0, .int 0, .int 0]) C in_wsX10 tyX1_ok nmX1 hP hD hS rfl rfl (Nat.le_of_ble_eq_true rfl) (Nat.le_of_ble_eq_true rfl) rfl hin2 rfl rfl rfl lk_X1_39 dX1_init_58 (fun H locs hP hD hS => ?_)
  have hP : va_P D vwCl (X ++ ((a, .inr (1, [.ref (g1 0), .ref (g11 0), .ref (g13 0), .ref q20, .ref q21, .ref q22, .null, .null, .null, .int 0, .int 0, .int 0])) :: ([] ++ cl_X7 ca g1 ++ cl_X3 ca g11 ++ cl_X2 ca g13 ++ [(q20, .inl (ca 0, (12, .inl (fun _ => 0))))] ++ [(q21, .inl (ca 0, (12, .inl (fun _ => 0))))] ++ [(q22, .inl (ca 0, (8, .inl (fun _ => 0))))]))) H := hP
  have hD : va_D A (X ++ ((a, .inr (1, [.ref (g1 0), .ref (g11 0), .ref (g13 0), .ref q20, .ref q21, .ref q22, .null, .null, .null, .int 0, .int 0, .int 0])) :: ([] ++ cl_X7 ca g1 ++ cl_X3 ca g11 ++ cl_X2 ca g13 ++ [(q20, .inl (ca 0, (12, .inl (fun _ => 0))))] ++ [(q21, .inl (ca 0, (12, .inl (fun _ => 0))))] ++ [(q22, .inl (ca 0, (8, .inl (fun _ => 0))))]))) := hD
  refine lv_aload_n hx hb dX1_init_61 rfl (lv_at hl 0 rfl) ?_
  refine lv_bipush (v := (8 : Int32)) hx hb dX1_init_62 (by decide) ?_
  refine rn_arr (ty := .int) (t0 := 0) (q0 := 0) (N' := 8) (a0 := (8, .inl (fun _ => 0))) C rfl rfl (fun cA h1 h2 => Option.some.inj (h1.symm.trans h2)) ac__int hP hD hS hA (fun _ => rfl) (by decide +kernel) (by decide +kernel) (Nat.le_of_ble_eq_true rfl) (Nat.le_of_ble_eq_true rfl) (Nat.le_of_ble_eq_true rfl) dX1_init_64 (fun q23 H hP hD hS => ?_)
  have hP : va_P D vwCl (X ++ ((a, .inr (1, [.ref (g1 0), .ref (g11 0), .ref (g13 0), .ref q20, .ref q21, .ref q22, .null, .null, .null, .int 0, .int 0, .int 0])) :: ([] ++ cl_X7 ca g1 ++ cl_X3 ca g11 ++ cl_X2 ca g13 ++ [(q20, .inl (ca 0, (12, .inl (fun _ => 0))))] ++ [(q21, .inl (ca 0, (12, .inl (fun _ => 0))))] ++ [(q22, .inl (ca 0, (8, .inl (fun _ => 0))))] ++ [(q23, .inl (ca 0, (8, .inl (fun _ => 0))))]))) H := hP
  have hD : va_D A (X ++ ((a, .inr (1, [.ref (g1 0), .ref (g11 0), .ref (g13 0), .ref q20, .ref q21, .ref q22, .null, .null, .null, .int 0, .int 0, .int 0])) :: ([] ++ cl_X7 ca g1 ++ cl_X3 ca g11 ++ cl_X2 ca g13 ++ [(q20, .inl (ca 0, (12, .inl (fun _ => 0))))] ++ [(q21, .inl (ca 0, (12, .inl (fun _ => 0))))] ++ [(q22, .inl (ca 0, (8, .inl (fun _ => 0))))] ++ [(q23, .inl (ca 0, (8, .inl (fun _ => 0))))]))) := hD
  refine rn_putF (ci := 1) (j := 0) (k := 6) (T := TX1) (Nf := 12) (ty0 := tyX1) (v := .ref q23) (fs := [.ref (g1 0), .ref (g11 0), .ref (g13 0), .ref q20, .ref q21, .ref q22, .null, .null, .null, .int 0, .int 0, .int 0]) C in_wsX10 tyX1_ok nmX1 hP hD hS rfl rfl (Nat.le_of_ble_eq_true rfl) (Nat.le_of_ble_eq_true rfl) rfl hin2 rfl rfl rfl lk_X1_42 dX1_init_66 (fun H locs hP hD hS => ?_)
  have hP : va_P D vwCl (X ++ ((a, .inr (1, [.ref (g1 0), .ref (g11 0), .ref (g13 0), .ref q20, .ref q21, .ref q22, .ref q23, .null, .null, .int 0, .int 0, .int 0])) :: ([] ++ cl_X7 ca g1 ++ cl_X3 ca g11 ++ cl_X2 ca g13 ++ [(q20, .inl (ca 0, (12, .inl (fun _ => 0))))] ++ [(q21, .inl (ca 0, (12, .inl (fun _ => 0))))] ++ [(q22, .inl (ca 0, (8, .inl (fun _ => 0))))] ++ [(q23, .inl (ca 0, (8, .inl (fun _ => 0))))]))) H := hP
  have hD : va_D A (X ++ ((a, .inr (1, [.ref (g1 0), .ref (g11 0), .ref (g13 0), .ref q20, .ref q21, .ref q22, .ref q23, .null, .null, .int 0, .int 0, .int 0])) :: ([] ++ cl_X7 ca g1 ++ cl_X3 ca g11 ++ cl_X2 ca g13 ++ [(q20, .inl (ca 0, (12, .inl (fun _ => 0))))] ++ [(q21, .inl (ca 0, (12, .inl (fun _ => 0))))] ++ [(q22, .inl (ca 0, (8, .inl (fun _ => 0))))] ++ [(q23, .inl (ca 0, (8, .inl (fun _ => 0))))]))) := hD
  refine lv_aload_n hx hb dX1_init_69 rfl (lv_at hl 0 rfl) ?_
  refine lv_bipush (v := (44 : Int32)) hx hb dX1_init_70 (by decide) ?_
  refine rn_arr (ty := .int) (t0 := 0) (q0 := 0) (N' := 44) (a0 := (44, .inl (fun _ => 0))) C rfl rfl (fun cA h1 h2 => Option.some.inj (h1.symm.trans h2)) ac__int hP hD hS hA (fun _ => rfl) (by decide +kernel) (by decide +kernel) (Nat.le_of_ble_eq_true rfl) (Nat.le_of_ble_eq_true rfl) (Nat.le_of_ble_eq_true rfl) dX1_init_72 (fun q24 H hP hD hS => ?_)
  have hP : va_P D vwCl (X ++ ((a, .inr (1, [.ref (g1 0), .ref (g11 0), .ref (g13 0), .ref q20, .ref q21, .ref q22, .ref q23, .null, .null, .int 0, .int 0, .int 0])) :: ([] ++ cl_X7 ca g1 ++ cl_X3 ca g11 ++ cl_X2 ca g13 ++ [(q20, .inl (ca 0, (12, .inl (fun _ => 0))))] ++ [(q21, .inl (ca 0, (12, .inl (fun _ => 0))))] ++ [(q22, .inl (ca 0, (8, .inl (fun _ => 0))))] ++ [(q23, .inl (ca 0, (8, .inl (fun _ => 0))))] ++ [(q24, .inl (ca 0, (44, .inl (fun _ => 0))))]))) H := hP
  have hD : va_D A (X ++ ((a, .inr (1, [.ref (g1 0), .ref (g11 0), .ref (g13 0), .ref q20, .ref q21, .ref q22, .ref q23, .null, .null, .int 0, .int 0, .int 0])) :: ([] ++ cl_X7 ca g1 ++ cl_X3 ca g11 ++ cl_X2 ca g13 ++ [(q20, .inl (ca 0, (12, .inl (fun _ => 0))))] ++ [(q21, .inl (ca 0, (12, .inl (fun _ => 0))))] ++ [(q22, .inl (ca 0, (8, .inl (fun _ => 0))))] ++ [(q23, .inl (ca 0, (8, .inl (fun _ => 0))))] ++ [(q24, .inl (ca 0, (44, .inl (fun _ => 0))))]))) := hD
  refine rn_putF (ci := 1) (j := 0) (k := 7) (T := TX1) (Nf := 12) (ty0 := tyX1) (v := .ref q24) (fs := [.ref (g1 0), .ref (g11 0), .ref (g13 0), .ref q20, .ref q21, .ref q22, .ref q23, .null, .null, .int 0, .int 0, .int 0]) C in_wsX10 tyX1_ok nmX1 hP hD hS rfl rfl (Nat.le_of_ble_eq_true rfl) (Nat.le_of_ble_eq_true rfl) rfl hin2 rfl rfl rfl lk_X1_45 dX1_init_74 (fun H locs hP hD hS => ?_)
  have hP : va_P D vwCl (X ++ ((a, .inr (1, [.ref (g1 0), .ref (g11 0), .ref (g13 0), .ref q20, .ref q21, .ref q22, .ref q23, .ref q24, .null, .int 0, .int 0, .int 0])) :: ([] ++ cl_X7 ca g1 ++ cl_X3 ca g11 ++ cl_X2 ca g13 ++ [(q20, .inl (ca 0, (12, .inl (fun _ => 0))))] ++ [(q21, .inl (ca 0, (12, .inl (fun _ => 0))))] ++ [(q22, .inl (ca 0, (8, .inl (fun _ => 0))))] ++ [(q23, .inl (ca 0, (8, .inl (fun _ => 0))))] ++ [(q24, .inl (ca 0, (44, .inl (fun _ => 0))))]))) H := hP
  have hD : va_D A (X ++ ((a, .inr (1, [.ref (g1 0), .ref (g11 0), .ref (g13 0), .ref q20, .ref q21, .ref q22, .ref q23, .ref q24, .null, .int 0, .int 0, .int 0])) :: ([] ++ cl_X7 ca g1 ++ cl_X3 ca g11 ++ cl_X2 ca g13 ++ [(q20, .inl (ca 0, (12, .inl (fun _ => 0))))] ++ [(q21, .inl (ca 0, (12, .inl (fun _ => 0))))] ++ [(q22, .inl (ca 0, (8, .inl (fun _ => 0))))] ++ [(q23, .inl (ca 0, (8, .inl (fun _ => 0))))] ++ [(q24, .inl (ca 0, (44, .inl (fun _ => 0))))]))) := hD
  refine lv_aload_n hx hb dX1_init_77 rfl (lv_at hl 0 rfl) ?_
  refine lv_bipush (v := (44 : Int32)) hx hb dX1_init_78 (by decide) ?_
  refine rn_arr (ty := .int) (t0 := 0) (q0 := 0) (N' := 44) (a0 := (44, .inl (fun _ => 0))) C rfl rfl (fun cA h1 h2 => Option.some.inj (h1.symm.trans h2)) ac__int hP hD hS hA (fun _ => rfl) (by decide +kernel) (by decide +kernel) (Nat.le_of_ble_eq_true rfl) (Nat.le_of_ble_eq_true rfl) (Nat.le_of_ble_eq_true rfl) dX1_init_80 (fun q25 H hP hD hS => ?_)
  have hP : va_P D vwCl (X ++ ((a, .inr (1, [.ref (g1 0), .ref (g11 0), .ref (g13 0), .ref q20, .ref q21, .ref q22, .ref q23, .ref q24, .null, .int 0, .int 0, .int 0])) :: ([] ++ cl_X7 ca g1 ++ cl_X3 ca g11 ++ cl_X2 ca g13 ++ [(q20, .inl (ca 0, (12, .inl (fun _ => 0))))] ++ [(q21, .inl (ca 0, (12, .inl (fun _ => 0))))] ++ [(q22, .inl (ca 0, (8, .inl (fun _ => 0))))] ++ [(q23, .inl (ca 0, (8, .inl (fun _ => 0))))] ++ [(q24, .inl (ca 0, (44, .inl (fun _ => 0))))] ++ [(q25, .inl (ca 0, (44, .inl (fun _ => 0))))]))) H := hP
  have hD : va_D A (X ++ ((a, .inr (1, [.ref (g1 0), .ref (g11 0), .ref (g13 0), .ref q20, .ref q21, .ref q22, .ref q23, .ref q24, .null, .int 0, .int 0, .int 0])) :: ([] ++ cl_X7 ca g1 ++ cl_X3 ca g11 ++ cl_X2 ca g13 ++ [(q20, .inl (ca 0, (12, .inl (fun _ => 0))))] ++ [(q21, .inl (ca 0, (12, .inl (fun _ => 0))))] ++ [(q22, .inl (ca 0, (8, .inl (fun _ => 0))))] ++ [(q23, .inl (ca 0, (8, .inl (fun _ => 0))))] ++ [(q24, .inl (ca 0, (44, .inl (fun _ => 0))))] ++ [(q25, .inl (ca 0, (44, .inl (fun _ => 0))))]))) := hD
  refine rn_putF (ci := 1) (j := 0) (k := 8) (T := TX1) (Nf := 12) (ty0 := tyX1) (v := .ref q25) (fs := [.ref (g1 0), .ref (g11 0), .ref (g13 0), .ref q20, .ref q21, .ref q22, .ref q23, .ref q24, .null, .int 0, .int 0, .int 0]) C in_wsX10 tyX1_ok nmX1 hP hD hS rfl rfl (Nat.le_of_ble_eq_true rfl) (Nat.le_of_ble_eq_true rfl) rfl hin2 rfl rfl rfl lk_X1_48 dX1_init_82 (fun H locs hP hD hS => ?_)
  have hP : va_P D vwCl (X ++ ((a, .inr (1, [.ref (g1 0), .ref (g11 0), .ref (g13 0), .ref q20, .ref q21, .ref q22, .ref q23, .ref q24, .ref q25, .int 0, .int 0, .int 0])) :: ([] ++ cl_X7 ca g1 ++ cl_X3 ca g11 ++ cl_X2 ca g13 ++ [(q20, .inl (ca 0, (12, .inl (fun _ => 0))))] ++ [(q21, .inl (ca 0, (12, .inl (fun _ => 0))))] ++ [(q22, .inl (ca 0, (8, .inl (fun _ => 0))))] ++ [(q23, .inl (ca 0, (8, .inl (fun _ => 0))))] ++ [(q24, .inl (ca 0, (44, .inl (fun _ => 0))))] ++ [(q25, .inl (ca 0, (44, .inl (fun _ => 0))))]))) H := hP
  have hD : va_D A (X ++ ((a, .inr (1, [.ref (g1 0), .ref (g11 0), .ref (g13 0), .ref q20, .ref q21, .ref q22, .ref q23, .ref q24, .ref q25, .int 0, .int 0, .int 0])) :: ([] ++ cl_X7 ca g1 ++ cl_X3 ca g11 ++ cl_X2 ca g13 ++ [(q20, .inl (ca 0, (12, .inl (fun _ => 0))))] ++ [(q21, .inl (ca 0, (12, .inl (fun _ => 0))))] ++ [(q22, .inl (ca 0, (8, .inl (fun _ => 0))))] ++ [(q23, .inl (ca 0, (8, .inl (fun _ => 0))))] ++ [(q24, .inl (ca 0, (44, .inl (fun _ => 0))))] ++ [(q25, .inl (ca 0, (44, .inl (fun _ => 0))))]))) := hD
  refine W.widen (k := 25) (n := 1055) (Nat.le_of_ble_eq_true rfl) (Nat.le_of_ble_eq_true rfl) ?_
  exact W.vret hx hb hr (fun t ht hW => ⟨⟨(fun j => match j with | 0 => a | 1 => g1 0 | 2 => g1 1 | 3 => g1 2 | 4 => g1 3 | 5 => g1 4 | 6 => g1 5 | 7 => g1 6 | 8 => g1 7 | 9 => g1 8 | 10 => g1 9 | 11 => g11 0 | 12 => g11 1 | 13 => g13 0 | 14 => g13 1 | 15 => g13 2 | 16 => g13 3 | 17 => g13 4 | 18 => g13 5 | 19 => g13 6 | 20 => q20 | 21 => q21 | 22 => q22 | 23 => q23 | 24 => q24 | 25 => q25 | _ => 0), rfl, rfl, by rw [ht]; exact hP, va_K.moved hW.alike hK, hD⟩, hS.F ht⟩) hS.2.2 dX1_init_85 (hlocks := hlocks)
def cl_X4 (ca : Nat → ClassId) (f : Nat → Nat) : va_W := (f 0, .inr (4, [.ref (f 1), .ref (f 2), .ref (f 3), .int 0, .int 0, .int 0])) :: (f 1, .inl (ca 4, 13, .inr (.inr (.inr (.inr (va_up (va_up (va_up (va_up (va_up (va_up (va_up (va_up (va_up (va_up (va_up (va_up (va_up (fun _ => none) 0 (some (f 4))) 1 (some (f 6))) 2 (some (f 8))) 3 (some (f 10))) 4 (some (f 12))) 5 (some (f 14))) 6 (some (f 16))) 7 (some (f 18))) 8 (some (f 20))) 9 (some (f 22))) 10 (some (f 24))) 11 (some (f 26))) 12 (some (f 28)))))))) :: ([] ++ [(f 2, .inl (ca 0, (12, .inl (fun _ => 0))))] ++ [(f 3, .inl (ca 2, (64, .inr (.inl (fun _ => 0)))))] ++ cl_X3 ca (fun j => f (4 + j)) ++ cl_X3 ca (fun j => f (6 + j)) ++ cl_X3 ca (fun j => f (8 + j)) ++ cl_X3 ca (fun j => f (10 + j)) ++ cl_X3 ca (fun j => f (12 + j)) ++ cl_X3 ca (fun j => f (14 + j)) ++ cl_X3 ca (fun j => f (16 + j)) ++ cl_X3 ca (fun j => f (18 + j)) ++ cl_X3 ca (fun j => f (20 + j)) ++ cl_X3 ca (fun j => f (22 + j)) ++ cl_X3 ca (fun j => f (24 + j)) ++ cl_X3 ca (fun j => f (26 + j)) ++ cl_X3 ca (fun j => f (28 + j)))
set_option maxRecDepth 100000 in
set_option maxHeartbeats 4000000 in
theorem i_X4 (l : Launch) (D : va_G) (ca : Nat → ClassId) : ctorC l D ca 4 [.null, .null, .null, .int 0, .int 0, .int 0] yX4_init (wsy yX4_init cX4_init 2 none) ({ frames := 2, cells := 29, slots := 440, locals := 92 } : Room) (cl_X4 ca) 29 440 := by
  intro X a sz
  refine Met.ofW (cc := cX4_init) (maxL := 2) (ret := none) (by decide +kernel) rfl ?_
  intro p e s m args below meth c s₁ B hml hv
  obtain ⟨rfl, hsz, hP, hK, hD0, hN⟩ := hv
  have hx := B.exec
  have hb := B.bytes
  have hr := B.returns
  have hlocks := B.notSynchronized
  have hts : ∀ w ∈ ALL, w.before _ s = true := fun w hw => atoms_spec (ws := wsy yX4_init cX4_init 2 none) B.pre w (List.mem_cons_of_mem _ hw)
  have hown : s.vm.findClass RX4 = some m.cls := findClass_of_methodNamed B.named
  have hin2 : meth.name = "<init>" := (name_of_methodNamed B.named B.method).1
  have C : CX p s m _ c cX4_init RX4 2 D ca (fun _ => True) := ⟨hx, hb, hml, hown, hts, hK, trivial⟩
  subst hsz
  have hD := hD0.self (sz := s.heap.size)
  generalize hAe : va_A (X ++ [(a, .inr (4, [.null, .null, .null, .int 0, .int 0, .int 0]))]) s.heap.size = A at hD ⊢
  have hA : ∀ q : Nat, s.heap.size ≤ q → A q := fun q h => by rw [← hAe]; exact Or.inr h
  have hS : va_S A s.heap s.heap [] := va_S.rf
  have hl := lv_entry ([.ref a]) (n := 2) (Nat.le_of_ble_eq_true rfl)
  rw [lg_entry_eq]
  generalize (lg_sl ([.ref a]) ++ List.replicate (2 - (lg_sl ([.ref a])).length) Slot.unset).toArray = ls at hl ⊢
  have hl : lv_has ls 2 [(0, .ref a)] := hl
  show W p l e ({ frames := 2, cells := 29, slots := 440, locals := 92 } : Room) s m _ below meth c s.heap [] 0 0 _ _
  have hP : va_P D vwCl (X ++ ((a, .inr (4, [.null, .null, .null, .int 0, .int 0, .int 0])) :: ([]))) s.heap := hP
  have hD : va_D A (X ++ ((a, .inr (4, [.null, .null, .null, .int 0, .int 0, .int 0])) :: ([]))) := hD
  refine lv_aload_n hx hb dX4_init_0 rfl (lv_at hl 0 rfl) ?_
  refine W.objInit hx hb hown (hts _ ml_X4_3) (hts _ im_objectInit) (hts _ cd_objectInit) rfl (by rw [hml]; exact hl.1) rfl dX4_init_1 (Nat.le_of_ble_eq_true rfl) (Nat.le_of_ble_eq_true rfl) ?_
  refine W.eq (g2 := F0 m 4 ls []) rfl ?_
  refine lv_aload_n hx hb dX4_init_4 rfl (lv_at hl 0 rfl) ?_
  refine lv_bipush (v := (13 : Int32)) hx hb dX4_init_5 (by decide) ?_
  refine rn_arq (N' := 13) C hN hP hD hS hA (by decide) (by decide) (Nat.le_of_ble_eq_true rfl) (Nat.le_of_ble_eq_true rfl) (Nat.le_of_ble_eq_true rfl) cl_X4_9 dX4_init_7 (fun q1 H hP hD hS => ?_)
  have hP : va_P D vwCl (X ++ ((a, .inr (4, [.null, .null, .null, .int 0, .int 0, .int 0])) :: (q1, .inl (ca 4, 13, .inr (.inr (.inr (.inr (fun _ => none)))))) :: ([]))) H := hP
  have hD : va_D A (X ++ ((a, .inr (4, [.null, .null, .null, .int 0, .int 0, .int 0])) :: (q1, .inl (ca 4, 13, .inr (.inr (.inr (.inr (fun _ => none)))))) :: ([]))) := hD
  refine rn_putF (ci := 4) (j := 0) (k := 0) (T := TX4) (Nf := 6) (ty0 := tyX4) (v := .ref q1) (fs := [.null, .null, .null, .int 0, .int 0, .int 0]) C in_wsX40 tyX4_ok nmX4 hP hD hS rfl rfl (Nat.le_of_ble_eq_true rfl) (Nat.le_of_ble_eq_true rfl) rfl hin2 rfl rfl rfl lk_X4_11 dX4_init_10 (fun H locs hP hD hS => ?_)
  have hP : va_P D vwCl (X ++ ((a, .inr (4, [.ref q1, .null, .null, .int 0, .int 0, .int 0])) :: (q1, .inl (ca 4, 13, .inr (.inr (.inr (.inr (fun _ => none)))))) :: ([]))) H := hP
  have hD : va_D A (X ++ ((a, .inr (4, [.ref q1, .null, .null, .int 0, .int 0, .int 0])) :: (q1, .inl (ca 4, 13, .inr (.inr (.inr (.inr (fun _ => none)))))) :: ([]))) := hD
  refine lv_aload_n hx hb dX4_init_13 rfl (lv_at hl 0 rfl) ?_
  refine lv_bipush (v := (12 : Int32)) hx hb dX4_init_14 (by decide) ?_
  refine rn_arr (ty := .int) (t0 := 0) (q0 := 0) (N' := 12) (a0 := (12, .inl (fun _ => 0))) C rfl rfl (fun cA h1 h2 => Option.some.inj (h1.symm.trans h2)) ac__int hP hD hS hA (fun _ => rfl) (by decide +kernel) (by decide +kernel) (Nat.le_of_ble_eq_true rfl) (Nat.le_of_ble_eq_true rfl) (Nat.le_of_ble_eq_true rfl) dX4_init_16 (fun q2 H hP hD hS => ?_)
  have hP : va_P D vwCl (X ++ ((a, .inr (4, [.ref q1, .null, .null, .int 0, .int 0, .int 0])) :: (q1, .inl (ca 4, 13, .inr (.inr (.inr (.inr (fun _ => none)))))) :: ([] ++ [(q2, .inl (ca 0, (12, .inl (fun _ => 0))))]))) H := hP
  have hD : va_D A (X ++ ((a, .inr (4, [.ref q1, .null, .null, .int 0, .int 0, .int 0])) :: (q1, .inl (ca 4, 13, .inr (.inr (.inr (.inr (fun _ => none)))))) :: ([] ++ [(q2, .inl (ca 0, (12, .inl (fun _ => 0))))]))) := hD
  refine rn_putF (ci := 4) (j := 0) (k := 1) (T := TX4) (Nf := 6) (ty0 := tyX4) (v := .ref q2) (fs := [.ref q1, .null, .null, .int 0, .int 0, .int 0]) C in_wsX40 tyX4_ok nmX4 hP hD hS rfl rfl (Nat.le_of_ble_eq_true rfl) (Nat.le_of_ble_eq_true rfl) rfl hin2 rfl rfl rfl lk_X4_17 dX4_init_18 (fun H locs hP hD hS => ?_)
  have hP : va_P D vwCl (X ++ ((a, .inr (4, [.ref q1, .ref q2, .null, .int 0, .int 0, .int 0])) :: (q1, .inl (ca 4, 13, .inr (.inr (.inr (.inr (fun _ => none)))))) :: ([] ++ [(q2, .inl (ca 0, (12, .inl (fun _ => 0))))]))) H := hP
  have hD : va_D A (X ++ ((a, .inr (4, [.ref q1, .ref q2, .null, .int 0, .int 0, .int 0])) :: (q1, .inl (ca 4, 13, .inr (.inr (.inr (.inr (fun _ => none)))))) :: ([] ++ [(q2, .inl (ca 0, (12, .inl (fun _ => 0))))]))) := hD
  refine lv_aload_n hx hb dX4_init_21 rfl (lv_at hl 0 rfl) ?_
  refine lv_bipush (v := (64 : Int32)) hx hb dX4_init_22 (by decide) ?_
  refine rn_arr (ty := .long) (t0 := 2) (q0 := 2) (N' := 64) (a0 := (64, .inr (.inl (fun _ => 0)))) C rfl rfl (fun cA h1 h2 => Option.some.inj (h1.symm.trans h2)) ac__long hP hD hS hA (fun _ => rfl) (by decide +kernel) (by decide +kernel) (Nat.le_of_ble_eq_true rfl) (Nat.le_of_ble_eq_true rfl) (Nat.le_of_ble_eq_true rfl) dX4_init_24 (fun q3 H hP hD hS => ?_)
  have hP : va_P D vwCl (X ++ ((a, .inr (4, [.ref q1, .ref q2, .null, .int 0, .int 0, .int 0])) :: (q1, .inl (ca 4, 13, .inr (.inr (.inr (.inr (fun _ => none)))))) :: ([] ++ [(q2, .inl (ca 0, (12, .inl (fun _ => 0))))] ++ [(q3, .inl (ca 2, (64, .inr (.inl (fun _ => 0)))))]))) H := hP
  have hD : va_D A (X ++ ((a, .inr (4, [.ref q1, .ref q2, .null, .int 0, .int 0, .int 0])) :: (q1, .inl (ca 4, 13, .inr (.inr (.inr (.inr (fun _ => none)))))) :: ([] ++ [(q2, .inl (ca 0, (12, .inl (fun _ => 0))))] ++ [(q3, .inl (ca 2, (64, .inr (.inl (fun _ => 0)))))]))) := hD
  refine rn_putF (ci := 4) (j := 0) (k := 2) (T := TX4) (Nf := 6) (ty0 := tyX4) (v := .ref q3) (fs := [.ref q1, .ref q2, .null, .int 0, .int 0, .int 0]) C in_wsX40 tyX4_ok nmX4 hP hD hS rfl rfl (Nat.le_of_ble_eq_true rfl) (Nat.le_of_ble_eq_true rfl) rfl hin2 rfl rfl rfl lk_X4_21 dX4_init_26 (fun H locs hP hD hS => ?_)
  have hP : va_P D vwCl (X ++ ((a, .inr (4, [.ref q1, .ref q2, .ref q3, .int 0, .int 0, .int 0])) :: (q1, .inl (ca 4, 13, .inr (.inr (.inr (.inr (fun _ => none)))))) :: ([] ++ [(q2, .inl (ca 0, (12, .inl (fun _ => 0))))] ++ [(q3, .inl (ca 2, (64, .inr (.inl (fun _ => 0)))))]))) H := hP
  have hD : va_D A (X ++ ((a, .inr (4, [.ref q1, .ref q2, .ref q3, .int 0, .int 0, .int 0])) :: (q1, .inl (ca 4, 13, .inr (.inr (.inr (.inr (fun _ => none)))))) :: ([] ++ [(q2, .inl (ca 0, (12, .inl (fun _ => 0))))] ++ [(q3, .inl (ca 2, (64, .inr (.inl (fun _ => 0)))))]))) := hD
  refine lv_iconst (v := (0 : Int32)) hx hb dX4_init_29 (by decide) ?_
  refine lv_istore_n (lv' := [(1, .int (0 : Int32)), (0, .ref a)]) hx hb dX4_init_30 rfl hl (by decide) rfl (fun ls hl => ?_)
  refine lv_iload_n hx hb dX4_init_31 rfl (lv_at hl 0 rfl) ?_
  refine lv_bipush (v := (12 : Int32)) hx hb dX4_init_32 (by decide) ?_
  refine lv_icmp_gt (tgt := 56) hx hb dX4_init_34 (by decide) (fun h => absurd h (by decide)) (fun _ => ?_)
  refine lv_aload_n hx hb dX4_init_37 rfl (lv_at hl 1 rfl) ?_
  refine va_get (D := D) (ci := 4) (v := .ref q1) (C := RX4) (T := TX4) (N := 6) hx hb hts in_wsX40 hown hK hP (X.length + 0) (app_at rfl) rfl 0 (by decide) (hts _ lk_X4_11) (fun _ h9 => h9) rfl dX4_init_38 ?_
  refine lv_iload_n hx hb dX4_init_41 rfl (lv_at hl 0 rfl) ?_
  refine rn_objN (k := 3) (idx := 9) (idx2 := 25) (host := RX8) (T := TX3) (ty0 := tyX3) (Nf := 3) (y := yX3_init) (nulls := [.null, .int 0, .int 0]) C hl.1 in_wsX30 tyX3_ok rfl (fun j hj => by rcases (show j = 0 ∨ j = 1 ∨ j = 2 by omega) with rfl | rfl | rfl <;> rfl) (i_X3 l D ca) cl_X4_9 it_X3 ini_X3 im_X3_init cd_X3_init rfl rfl hN (Or.inl (List.mem_of_getElem? (i := 2) rfl)) (by decide +kernel) hP hD hS hA (Nat.le_of_ble_eq_true rfl) (Nat.le_of_ble_eq_true rfl) ⟨rfl, rfl⟩ ⟨Nat.le_of_ble_eq_true rfl, Nat.le_of_ble_eq_true rfl⟩ (Nat.le_of_ble_eq_true rfl) dX4_init_42 dX4_init_45 dX4_init_46 (fun g4 H locs hP hD hS => ?_)
  have hP : va_P D vwCl (X ++ ((a, .inr (4, [.ref q1, .ref q2, .ref q3, .int 0, .int 0, .int 0])) :: (q1, .inl (ca 4, 13, .inr (.inr (.inr (.inr (fun _ => none)))))) :: ([] ++ [(q2, .inl (ca 0, (12, .inl (fun _ => 0))))] ++ [(q3, .inl (ca 2, (64, .inr (.inl (fun _ => 0)))))] ++ cl_X3 ca g4))) H := hP
  have hD : va_D A (X ++ ((a, .inr (4, [.ref q1, .ref q2, .ref q3, .int 0, .int 0, .int 0])) :: (q1, .inl (ca 4, 13, .inr (.inr (.inr (.inr (fun _ => none)))))) :: ([] ++ [(q2, .inl (ca 0, (12, .inl (fun _ => 0))))] ++ [(q3, .inl (ca 2, (64, .inr (.inl (fun _ => 0)))))] ++ cl_X3 ca g4))) := hD
  refine va_astq (D := D) (cl := vwCl) (tys := tysA ca) hx hb hK hP hD hS (X.length + 1) 4 (X.length + 4) 3 (app_at rfl) rfl (app_at rfl) rfl (inb_in (by decide +kernel)) dX4_init_49 (fun H locs hP hD hS => ?_)
  rw [app_set] at hP hD
  have hP : va_P D vwCl (X ++ ((a, .inr (4, [.ref q1, .ref q2, .ref q3, .int 0, .int 0, .int 0])) :: (q1, .inl (ca 4, 13, .inr (.inr (.inr (.inr (va_up (fun _ => none) 0 (some (g4 0)))))))) :: ([] ++ [(q2, .inl (ca 0, (12, .inl (fun _ => 0))))] ++ [(q3, .inl (ca 2, (64, .inr (.inl (fun _ => 0)))))] ++ cl_X3 ca g4))) H := hP
  have hD : va_D A (X ++ ((a, .inr (4, [.ref q1, .ref q2, .ref q3, .int 0, .int 0, .int 0])) :: (q1, .inl (ca 4, 13, .inr (.inr (.inr (.inr (va_up (fun _ => none) 0 (some (g4 0)))))))) :: ([] ++ [(q2, .inl (ca 0, (12, .inl (fun _ => 0))))] ++ [(q3, .inl (ca 2, (64, .inr (.inl (fun _ => 0)))))] ++ cl_X3 ca g4))) := hD
  refine lv_iinc (v := (1 : Int32)) (lv' := [(1, .int (1 : Int32)), (0, .ref a)]) hx hb dX4_init_50 hl (k := 0) rfl (by decide) (by decide) rfl (fun ls hl => ?_)
  refine lv_goto (tgt := 31) hx hb dX4_init_53 (by decide) ?_
  refine lv_iload_n hx hb dX4_init_31 rfl (lv_at hl 0 rfl) ?_
  refine lv_bipush (v := (12 : Int32)) hx hb dX4_init_32 (by decide) ?_
  refine lv_icmp_gt (tgt := 56) hx hb dX4_init_34 (by decide) (fun h => absurd h (by decide)) (fun _ => ?_)
  refine lv_aload_n hx hb dX4_init_37 rfl (lv_at hl 1 rfl) ?_
  refine va_get (D := D) (ci := 4) (v := .ref q1) (C := RX4) (T := TX4) (N := 6) hx hb hts in_wsX40 hown hK hP (X.length + 0) (app_at rfl) rfl 0 (by decide) (hts _ lk_X4_11) (fun _ h9 => h9) rfl dX4_init_38 ?_
  refine lv_iload_n hx hb dX4_init_41 rfl (lv_at hl 0 rfl) ?_
  refine rn_objN (k := 3) (idx := 9) (idx2 := 25) (host := RX8) (T := TX3) (ty0 := tyX3) (Nf := 3) (y := yX3_init) (nulls := [.null, .int 0, .int 0]) C hl.1 in_wsX30 tyX3_ok rfl (fun j hj => by rcases (show j = 0 ∨ j = 1 ∨ j = 2 by omega) with rfl | rfl | rfl <;> rfl) (i_X3 l D ca) cl_X4_9 it_X3 ini_X3 im_X3_init cd_X3_init rfl rfl hN (Or.inl (List.mem_of_getElem? (i := 2) rfl)) (by decide +kernel) hP hD hS hA (Nat.le_of_ble_eq_true rfl) (Nat.le_of_ble_eq_true rfl) ⟨rfl, rfl⟩ ⟨Nat.le_of_ble_eq_true rfl, Nat.le_of_ble_eq_true rfl⟩ (Nat.le_of_ble_eq_true rfl) dX4_init_42 dX4_init_45 dX4_init_46 (fun g6 H locs hP hD hS => ?_)
  have hP : va_P D vwCl (X ++ ((a, .inr (4, [.ref q1, .ref q2, .ref q3, .int 0, .int 0, .int 0])) :: (q1, .inl (ca 4, 13, .inr (.inr (.inr (.inr (va_up (fun _ => none) 0 (some (g4 0)))))))) :: ([] ++ [(q2, .inl (ca 0, (12, .inl (fun _ => 0))))] ++ [(q3, .inl (ca 2, (64, .inr (.inl (fun _ => 0)))))] ++ cl_X3 ca g4 ++ cl_X3 ca g6))) H := hP
  have hD : va_D A (X ++ ((a, .inr (4, [.ref q1, .ref q2, .ref q3, .int 0, .int 0, .int 0])) :: (q1, .inl (ca 4, 13, .inr (.inr (.inr (.inr (va_up (fun _ => none) 0 (some (g4 0)))))))) :: ([] ++ [(q2, .inl (ca 0, (12, .inl (fun _ => 0))))] ++ [(q3, .inl (ca 2, (64, .inr (.inl (fun _ => 0)))))] ++ cl_X3 ca g4 ++ cl_X3 ca g6))) := hD
  refine va_astq (D := D) (cl := vwCl) (tys := tysA ca) hx hb hK hP hD hS (X.length + 1) 4 (X.length + 6) 3 (app_at rfl) rfl (app_at rfl) rfl (inb_in (by decide +kernel)) dX4_init_49 (fun H locs hP hD hS => ?_)
  rw [app_set] at hP hD
  have hP : va_P D vwCl (X ++ ((a, .inr (4, [.ref q1, .ref q2, .ref q3, .int 0, .int 0, .int 0])) :: (q1, .inl (ca 4, 13, .inr (.inr (.inr (.inr (va_up (va_up (fun _ => none) 0 (some (g4 0))) 1 (some (g6 0)))))))) :: ([] ++ [(q2, .inl (ca 0, (12, .inl (fun _ => 0))))] ++ [(q3, .inl (ca 2, (64, .inr (.inl (fun _ => 0)))))] ++ cl_X3 ca g4 ++ cl_X3 ca g6))) H := hP
  have hD : va_D A (X ++ ((a, .inr (4, [.ref q1, .ref q2, .ref q3, .int 0, .int 0, .int 0])) :: (q1, .inl (ca 4, 13, .inr (.inr (.inr (.inr (va_up (va_up (fun _ => none) 0 (some (g4 0))) 1 (some (g6 0)))))))) :: ([] ++ [(q2, .inl (ca 0, (12, .inl (fun _ => 0))))] ++ [(q3, .inl (ca 2, (64, .inr (.inl (fun _ => 0)))))] ++ cl_X3 ca g4 ++ cl_X3 ca g6))) := hD
  refine lv_iinc (v := (2 : Int32)) (lv' := [(1, .int (2 : Int32)), (0, .ref a)]) hx hb dX4_init_50 hl (k := 0) rfl (by decide) (by decide) rfl (fun ls hl => ?_)
  refine lv_goto (tgt := 31) hx hb dX4_init_53 (by decide) ?_
  refine lv_iload_n hx hb dX4_init_31 rfl (lv_at hl 0 rfl) ?_
  refine lv_bipush (v := (12 : Int32)) hx hb dX4_init_32 (by decide) ?_
  refine lv_icmp_gt (tgt := 56) hx hb dX4_init_34 (by decide) (fun h => absurd h (by decide)) (fun _ => ?_)
  refine lv_aload_n hx hb dX4_init_37 rfl (lv_at hl 1 rfl) ?_
  refine va_get (D := D) (ci := 4) (v := .ref q1) (C := RX4) (T := TX4) (N := 6) hx hb hts in_wsX40 hown hK hP (X.length + 0) (app_at rfl) rfl 0 (by decide) (hts _ lk_X4_11) (fun _ h9 => h9) rfl dX4_init_38 ?_
  refine lv_iload_n hx hb dX4_init_41 rfl (lv_at hl 0 rfl) ?_
  refine rn_objN (k := 3) (idx := 9) (idx2 := 25) (host := RX8) (T := TX3) (ty0 := tyX3) (Nf := 3) (y := yX3_init) (nulls := [.null, .int 0, .int 0]) C hl.1 in_wsX30 tyX3_ok rfl (fun j hj => by rcases (show j = 0 ∨ j = 1 ∨ j = 2 by omega) with rfl | rfl | rfl <;> rfl) (i_X3 l D ca) cl_X4_9 it_X3 ini_X3 im_X3_init cd_X3_init rfl rfl hN (Or.inl (List.mem_of_getElem? (i := 2) rfl)) (by decide +kernel) hP hD hS hA (Nat.le_of_ble_eq_true rfl) (Nat.le_of_ble_eq_true rfl) ⟨rfl, rfl⟩ ⟨Nat.le_of_ble_eq_true rfl, Nat.le_of_ble_eq_true rfl⟩ (Nat.le_of_ble_eq_true rfl) dX4_init_42 dX4_init_45 dX4_init_46 (fun g8 H locs hP hD hS => ?_)
  have hP : va_P D vwCl (X ++ ((a, .inr (4, [.ref q1, .ref q2, .ref q3, .int 0, .int 0, .int 0])) :: (q1, .inl (ca 4, 13, .inr (.inr (.inr (.inr (va_up (va_up (fun _ => none) 0 (some (g4 0))) 1 (some (g6 0)))))))) :: ([] ++ [(q2, .inl (ca 0, (12, .inl (fun _ => 0))))] ++ [(q3, .inl (ca 2, (64, .inr (.inl (fun _ => 0)))))] ++ cl_X3 ca g4 ++ cl_X3 ca g6 ++ cl_X3 ca g8))) H := hP
  have hD : va_D A (X ++ ((a, .inr (4, [.ref q1, .ref q2, .ref q3, .int 0, .int 0, .int 0])) :: (q1, .inl (ca 4, 13, .inr (.inr (.inr (.inr (va_up (va_up (fun _ => none) 0 (some (g4 0))) 1 (some (g6 0)))))))) :: ([] ++ [(q2, .inl (ca 0, (12, .inl (fun _ => 0))))] ++ [(q3, .inl (ca 2, (64, .inr (.inl (fun _ => 0)))))] ++ cl_X3 ca g4 ++ cl_X3 ca g6 ++ cl_X3 ca g8))) := hD
  refine va_astq (D := D) (cl := vwCl) (tys := tysA ca) hx hb hK hP hD hS (X.length + 1) 4 (X.length + 8) 3 (app_at rfl) rfl (app_at rfl) rfl (inb_in (by decide +kernel)) dX4_init_49 (fun H locs hP hD hS => ?_)
  rw [app_set] at hP hD
  have hP : va_P D vwCl (X ++ ((a, .inr (4, [.ref q1, .ref q2, .ref q3, .int 0, .int 0, .int 0])) :: (q1, .inl (ca 4, 13, .inr (.inr (.inr (.inr (va_up (va_up (va_up (fun _ => none) 0 (some (g4 0))) 1 (some (g6 0))) 2 (some (g8 0)))))))) :: ([] ++ [(q2, .inl (ca 0, (12, .inl (fun _ => 0))))] ++ [(q3, .inl (ca 2, (64, .inr (.inl (fun _ => 0)))))] ++ cl_X3 ca g4 ++ cl_X3 ca g6 ++ cl_X3 ca g8))) H := hP
  have hD : va_D A (X ++ ((a, .inr (4, [.ref q1, .ref q2, .ref q3, .int 0, .int 0, .int 0])) :: (q1, .inl (ca 4, 13, .inr (.inr (.inr (.inr (va_up (va_up (va_up (fun _ => none) 0 (some (g4 0))) 1 (some (g6 0))) 2 (some (g8 0)))))))) :: ([] ++ [(q2, .inl (ca 0, (12, .inl (fun _ => 0))))] ++ [(q3, .inl (ca 2, (64, .inr (.inl (fun _ => 0)))))] ++ cl_X3 ca g4 ++ cl_X3 ca g6 ++ cl_X3 ca g8))) := hD
  refine lv_iinc (v := (3 : Int32)) (lv' := [(1, .int (3 : Int32)), (0, .ref a)]) hx hb dX4_init_50 hl (k := 0) rfl (by decide) (by decide) rfl (fun ls hl => ?_)
  refine lv_goto (tgt := 31) hx hb dX4_init_53 (by decide) ?_
  refine lv_iload_n hx hb dX4_init_31 rfl (lv_at hl 0 rfl) ?_
  refine lv_bipush (v := (12 : Int32)) hx hb dX4_init_32 (by decide) ?_
  refine lv_icmp_gt (tgt := 56) hx hb dX4_init_34 (by decide) (fun h => absurd h (by decide)) (fun _ => ?_)
  refine lv_aload_n hx hb dX4_init_37 rfl (lv_at hl 1 rfl) ?_
  refine va_get (D := D) (ci := 4) (v := .ref q1) (C := RX4) (T := TX4) (N := 6) hx hb hts in_wsX40 hown hK hP (X.length + 0) (app_at rfl) rfl 0 (by decide) (hts _ lk_X4_11) (fun _ h9 => h9) rfl dX4_init_38 ?_
  refine lv_iload_n hx hb dX4_init_41 rfl (lv_at hl 0 rfl) ?_
  refine rn_objN (k := 3) (idx := 9) (idx2 := 25) (host := RX8) (T := TX3) (ty0 := tyX3) (Nf := 3) (y := yX3_init) (nulls := [.null, .int 0, .int 0]) C hl.1 in_wsX30 tyX3_ok rfl (fun j hj => by rcases (show j = 0 ∨ j = 1 ∨ j = 2 by omega) with rfl | rfl | rfl <;> rfl) (i_X3 l D ca) cl_X4_9 it_X3 ini_X3 im_X3_init cd_X3_init rfl rfl hN (Or.inl (List.mem_of_getElem? (i := 2) rfl)) (by decide +kernel) hP hD hS hA (Nat.le_of_ble_eq_true rfl) (Nat.le_of_ble_eq_true rfl) ⟨rfl, rfl⟩ ⟨Nat.le_of_ble_eq_true rfl, Nat.le_of_ble_eq_true rfl⟩ (Nat.le_of_ble_eq_true rfl) dX4_init_42 dX4_init_45 dX4_init_46 (fun g10 H locs hP hD hS => ?_)
  have hP : va_P D vwCl (X ++ ((a, .inr (4, [.ref q1, .ref q2, .ref q3, .int 0, .int 0, .int 0])) :: (q1, .inl (ca 4, 13, .inr (.inr (.inr (.inr (va_up (va_up (va_up (fun _ => none) 0 (some (g4 0))) 1 (some (g6 0))) 2 (some (g8 0)))))))) :: ([] ++ [(q2, .inl (ca 0, (12, .inl (fun _ => 0))))] ++ [(q3, .inl (ca 2, (64, .inr (.inl (fun _ => 0)))))] ++ cl_X3 ca g4 ++ cl_X3 ca g6 ++ cl_X3 ca g8 ++ cl_X3 ca g10))) H := hP
  have hD : va_D A (X ++ ((a, .inr (4, [.ref q1, .ref q2, .ref q3, .int 0, .int 0, .int 0])) :: (q1, .inl (ca 4, 13, .inr (.inr (.inr (.inr (va_up (va_up (va_up (fun _ => none) 0 (some (g4 0))) 1 (some (g6 0))) 2 (some (g8 0)))))))) :: ([] ++ [(q2, .inl (ca 0, (12, .inl (fun _ => 0))))] ++ [(q3, .inl (ca 2, (64, .inr (.inl (fun _ => 0)))))] ++ cl_X3 ca g4 ++ cl_X3 ca g6 ++ cl_X3 ca g8 ++ cl_X3 ca g10))) := hD
  refine va_astq (D := D) (cl := vwCl) (tys := tysA ca) hx hb hK hP hD hS (X.length + 1) 4 (X.length + 10) 3 (app_at rfl) rfl (app_at rfl) rfl (inb_in (by decide +kernel)) dX4_init_49 (fun H locs hP hD hS => ?_)
  rw [app_set] at hP hD
  have hP : va_P D vwCl (X ++ ((a, .inr (4, [.ref q1, .ref q2, .ref q3, .int 0, .int 0, .int 0])) :: (q1, .inl (ca 4, 13, .inr (.inr (.inr (.inr (va_up (va_up (va_up (va_up (fun _ => none) 0 (some (g4 0))) 1 (some (g6 0))) 2 (some (g8 0))) 3 (some (g10 0)))))))) :: ([] ++ [(q2, .inl (ca 0, (12, .inl (fun _ => 0))))] ++ [(q3, .inl (ca 2, (64, .inr (.inl (fun _ => 0)))))] ++ cl_X3 ca g4 ++ cl_X3 ca g6 ++ cl_X3 ca g8 ++ cl_X3 ca g10))) H := hP
  have hD : va_D A (X ++ ((a, .inr (4, [.ref q1, .ref q2, .ref q3, .int 0, .int 0, .int 0])) :: (q1, .inl (ca 4, 13, .inr (.inr (.inr (.inr (va_up (va_up (va_up (va_up (fun _ => none) 0 (some (g4 0))) 1 (some (g6 0))) 2 (some (g8 0))) 3 (some (g10 0)))))))) :: ([] ++ [(q2, .inl (ca 0, (12, .inl (fun _ => 0))))] ++ [(q3, .inl (ca 2, (64, .inr (.inl (fun _ => 0)))))] ++ cl_X3 ca g4 ++ cl_X3 ca g6 ++ cl_X3 ca g8 ++ cl_X3 ca g10))) := hD
  refine lv_iinc (v := (4 : Int32)) (lv' := [(1, .int (4 : Int32)), (0, .ref a)]) hx hb dX4_init_50 hl (k := 0) rfl (by decide) (by decide) rfl (fun ls hl => ?_)
  refine lv_goto (tgt := 31) hx hb dX4_init_53 (by decide) ?_
  refine lv_iload_n hx hb dX4_init_31 rfl (lv_at hl 0 rfl) ?_
  refine lv_bipush (v := (12 : Int32)) hx hb dX4_init_32 (by decide) ?_
  refine lv_icmp_gt (tgt := 56) hx hb dX4_init_34 (by decide) (fun h => absurd h (by decide)) (fun _ => ?_)
  refine lv_aload_n hx hb dX4_init_37 rfl (lv_at hl 1 rfl) ?_
  refine va_get (D := D) (ci := 4) (v := .ref q1) (C := RX4) (T := TX4) (N := 6) hx hb hts in_wsX40 hown hK hP (X.length + 0) (app_at rfl) rfl 0 (by decide) (hts _ lk_X4_11) (fun _ h9 => h9) rfl dX4_init_38 ?_
  refine lv_iload_n hx hb dX4_init_41 rfl (lv_at hl 0 rfl) ?_
  refine rn_objN (k := 3) (idx := 9) (idx2 := 25) (host := RX8) (T := TX3) (ty0 := tyX3) (Nf := 3) (y := yX3_init) (nulls := [.null, .int 0, .int 0]) C hl.1 in_wsX30 tyX3_ok rfl (fun j hj => by rcases (show j = 0 ∨ j = 1 ∨ j = 2 by omega) with rfl | rfl | rfl <;> rfl) (i_X3 l D ca) cl_X4_9 it_X3 ini_X3 im_X3_init cd_X3_init rfl rfl hN (Or.inl (List.mem_of_getElem? (i := 2) rfl)) (by decide +kernel) hP hD hS hA (Nat.le_of_ble_eq_true rfl) (Nat.le_of_ble_eq_true rfl) ⟨rfl, rfl⟩ ⟨Nat.le_of_ble_eq_true rfl, Nat.le_of_ble_eq_true rfl⟩ (Nat.le_of_ble_eq_true rfl) dX4_init_42 dX4_init_45 dX4_init_46 (fun g12 H locs hP hD hS => ?_)
  have hP : va_P D vwCl (X ++ ((a, .inr (4, [.ref q1, .ref q2, .ref q3, .int 0, .int 0, .int 0])) :: (q1, .inl (ca 4, 13, .inr (.inr (.inr (.inr (va_up (va_up (va_up (va_up (fun _ => none) 0 (some (g4 0))) 1 (some (g6 0))) 2 (some (g8 0))) 3 (some (g10 0)))))))) :: ([] ++ [(q2, .inl (ca 0, (12, .inl (fun _ => 0))))] ++ [(q3, .inl (ca 2, (64, .inr (.inl (fun _ => 0)))))] ++ cl_X3 ca g4 ++ cl_X3 ca g6 ++ cl_X3 ca g8 ++ cl_X3 ca g10 ++ cl_X3 ca g12))) H := hP
  have hD : va_D A (X ++ ((a, .inr (4, [.ref q1, .ref q2, .ref q3, .int 0, .int 0, .int 0])) :: (q1, .inl (ca 4, 13, .inr (.inr (.inr (.inr (va_up (va_up (va_up (va_up (fun _ => none) 0 (some (g4 0))) 1 (some (g6 0))) 2 (some (g8 0))) 3 (some (g10 0)))))))) :: ([] ++ [(q2, .inl (ca 0, (12, .inl (fun _ => 0))))] ++ [(q3, .inl (ca 2, (64, .inr (.inl (fun _ => 0)))))] ++ cl_X3 ca g4 ++ cl_X3 ca g6 ++ cl_X3 ca g8 ++ cl_X3 ca g10 ++ cl_X3 ca g12))) := hD
  refine va_astq (D := D) (cl := vwCl) (tys := tysA ca) hx hb hK hP hD hS (X.length + 1) 4 (X.length + 12) 3 (app_at rfl) rfl (app_at rfl) rfl (inb_in (by decide +kernel)) dX4_init_49 (fun H locs hP hD hS => ?_)
  rw [app_set] at hP hD
  have hP : va_P D vwCl (X ++ ((a, .inr (4, [.ref q1, .ref q2, .ref q3, .int 0, .int 0, .int 0])) :: (q1, .inl (ca 4, 13, .inr (.inr (.inr (.inr (va_up (va_up (va_up (va_up (va_up (fun _ => none) 0 (some (g4 0))) 1 (some (g6 0))) 2 (some (g8 0))) 3 (some (g10 0))) 4 (some (g12 0)))))))) :: ([] ++ [(q2, .inl (ca 0, (12, .inl (fun _ => 0))))] ++ [(q3, .inl (ca 2, (64, .inr (.inl (fun _ => 0)))))] ++ cl_X3 ca g4 ++ cl_X3 ca g6 ++ cl_X3 ca g8 ++ cl_X3 ca g10 ++ cl_X3 ca g12))) H := hP
  have hD : va_D A (X ++ ((a, .inr (4, [.ref q1, .ref q2, .ref q3, .int 0, .int 0, .int 0])) :: (q1, .inl (ca 4, 13, .inr (.inr (.inr (.inr (va_up (va_up (va_up (va_up (va_up (fun _ => none) 0 (some (g4 0))) 1 (some (g6 0))) 2 (some (g8 0))) 3 (some (g10 0))) 4 (some (g12 0)))))))) :: ([] ++ [(q2, .inl (ca 0, (12, .inl (fun _ => 0))))] ++ [(q3, .inl (ca 2, (64, .inr (.inl (fun _ => 0)))))] ++ cl_X3 ca g4 ++ cl_X3 ca g6 ++ cl_X3 ca g8 ++ cl_X3 ca g10 ++ cl_X3 ca g12))) := hD
  refine lv_iinc (v := (5 : Int32)) (lv' := [(1, .int (5 : Int32)), (0, .ref a)]) hx hb dX4_init_50 hl (k := 0) rfl (by decide) (by decide) rfl (fun ls hl => ?_)
  refine lv_goto (tgt := 31) hx hb dX4_init_53 (by decide) ?_
  refine lv_iload_n hx hb dX4_init_31 rfl (lv_at hl 0 rfl) ?_
  refine lv_bipush (v := (12 : Int32)) hx hb dX4_init_32 (by decide) ?_
  refine lv_icmp_gt (tgt := 56) hx hb dX4_init_34 (by decide) (fun h => absurd h (by decide)) (fun _ => ?_)
  refine lv_aload_n hx hb dX4_init_37 rfl (lv_at hl 1 rfl) ?_
  refine va_get (D := D) (ci := 4) (v := .ref q1) (C := RX4) (T := TX4) (N := 6) hx hb hts in_wsX40 hown hK hP (X.length + 0) (app_at rfl) rfl 0 (by decide) (hts _ lk_X4_11) (fun _ h9 => h9) rfl dX4_init_38 ?_
  refine lv_iload_n hx hb dX4_init_41 rfl (lv_at hl 0 rfl) ?_
  refine rn_objN (k := 3) (idx := 9) (idx2 := 25) (host := RX8) (T := TX3) (ty0 := tyX3) (Nf := 3) (y := yX3_init) (nulls := [.null, .int 0, .int 0]) C hl.1 in_wsX30 tyX3_ok rfl (fun j hj => by rcases (show j = 0 ∨ j = 1 ∨ j = 2 by omega) with rfl | rfl | rfl <;> rfl) (i_X3 l D ca) cl_X4_9 it_X3 ini_X3 im_X3_init cd_X3_init rfl rfl hN (Or.inl (List.mem_of_getElem? (i := 2) rfl)) (by decide +kernel) hP hD hS hA (Nat.le_of_ble_eq_true rfl) (Nat.le_of_ble_eq_true rfl) ⟨rfl, rfl⟩ ⟨Nat.le_of_ble_eq_true rfl, Nat.le_of_ble_eq_true rfl⟩ (Nat.le_of_ble_eq_true rfl) dX4_init_42 dX4_init_45 dX4_init_46 (fun g14 H locs hP hD hS => ?_)
  have hP : va_P D vwCl (X ++ ((a, .inr (4, [.ref q1, .ref q2, .ref q3, .int 0, .int 0, .int 0])) :: (q1, .inl (ca 4, 13, .inr (.inr (.inr (.inr (va_up (va_up (va_up (va_up (va_up (fun _ => none) 0 (some (g4 0))) 1 (some (g6 0))) 2 (some (g8 0))) 3 (some (g10 0))) 4 (some (g12 0)))))))) :: ([] ++ [(q2, .inl (ca 0, (12, .inl (fun _ => 0))))] ++ [(q3, .inl (ca 2, (64, .inr (.inl (fun _ => 0)))))] ++ cl_X3 ca g4 ++ cl_X3 ca g6 ++ cl_X3 ca g8 ++ cl_X3 ca g10 ++ cl_X3 ca g12 ++ cl_X3 ca g14))) H := hP
  have hD : va_D A (X ++ ((a, .inr (4, [.ref q1, .ref q2, .ref q3, .int 0, .int 0, .int 0])) :: (q1, .inl (ca 4, 13, .inr (.inr (.inr (.inr (va_up (va_up (va_up (va_up (va_up (fun _ => none) 0 (some (g4 0))) 1 (some (g6 0))) 2 (some (g8 0))) 3 (some (g10 0))) 4 (some (g12 0)))))))) :: ([] ++ [(q2, .inl (ca 0, (12, .inl (fun _ => 0))))] ++ [(q3, .inl (ca 2, (64, .inr (.inl (fun _ => 0)))))] ++ cl_X3 ca g4 ++ cl_X3 ca g6 ++ cl_X3 ca g8 ++ cl_X3 ca g10 ++ cl_X3 ca g12 ++ cl_X3 ca g14))) := hD
  refine va_astq (D := D) (cl := vwCl) (tys := tysA ca) hx hb hK hP hD hS (X.length + 1) 4 (X.length + 14) 3 (app_at rfl) rfl (app_at rfl) rfl (inb_in (by decide +kernel)) dX4_init_49 (fun H locs hP hD hS => ?_)
  rw [app_set] at hP hD
  have hP : va_P D vwCl (X ++ ((a, .inr (4, [.ref q1, .ref q2, .ref q3, .int 0, .int 0, .int 0])) :: (q1, .inl (ca 4, 13, .inr (.inr (.inr (.inr (va_up (va_up (va_up (va_up (va_up (va_up (fun _ => none) 0 (some (g4 0))) 1 (some (g6 0))) 2 (some (g8 0))) 3 (some (g10 0))) 4 (some (g12 0))) 5 (some (g14 0)))))))) :: ([] ++ [(q2, .inl (ca 0, (12, .inl (fun _ => 0))))] ++ [(q3, .inl (ca 2, (64, .inr (.inl (fun _ => 0)))))] ++ cl_X3 ca g4 ++ cl_X3 ca g6 ++ cl_X3 ca g8 ++ cl_X3 ca g10 ++ cl_X3 ca g12 ++ cl_X3 ca g14))) H := hP
  have hD : va_D A (X ++ ((a, .inr (4, [.ref q1, .ref q2, .ref q3, .int 0, .int 0, .int 0])) :: (q1, .inl (ca 4, 13, .inr (.inr (.inr (.inr (va_up (va_up (va_up (va_up (va_up (va_up (fun _ => none) 0 (some (g4 0))) 1 (some (g6 0))) 2 (some (g8 0))) 3 (some (g10 0))) 4 (some (g12 0))) 5 (some (g14 0)))))))) :: ([] ++ [(q2, .inl (ca 0, (12, .inl (fun _ => 0))))] ++ [(q3, .inl (ca 2, (64, .inr (.inl (fun _ => 0)))))] ++ cl_X3 ca g4 ++ cl_X3 ca g6 ++ cl_X3 ca g8 ++ cl_X3 ca g10 ++ cl_X3 ca g12 ++ cl_X3 ca g14))) := hD
  refine lv_iinc (v := (6 : Int32)) (lv' := [(1, .int (6 : Int32)), (0, .ref a)]) hx hb dX4_init_50 hl (k := 0) rfl (by decide) (by decide) rfl (fun ls hl => ?_)
  refine lv_goto (tgt := 31) hx hb dX4_init_53 (by decide) ?_
  refine lv_iload_n hx hb dX4_init_31 rfl (lv_at hl 0 rfl) ?_
  refine lv_bipush (v := (12 : Int32)) hx hb dX4_init_32 (by decide) ?_
  refine lv_icmp_gt (tgt := 56) hx hb dX4_init_34 (by decide) (fun h => absurd h (by decide)) (fun _ => ?_)
  refine lv_aload_n hx hb dX4_init_37 rfl (lv_at hl 1 rfl) ?_
  refine va_get (D := D) (ci := 4) (v := .ref q1) (C := RX4) (T := TX4) (N := 6) hx hb hts in_wsX40 hown hK hP (X.length + 0) (app_at rfl) rfl 0 (by decide) (hts _ lk_X4_11) (fun _ h9 => h9) rfl dX4_init_38 ?_
  refine lv_iload_n hx hb dX4_init_41 rfl (lv_at hl 0 rfl) ?_
  refine rn_objN (k := 3) (idx := 9) (idx2 := 25) (host := RX8) (T := TX3) (ty0 := tyX3) (Nf := 3) (y := yX3_init) (nulls := [.null, .int 0, .int 0]) C hl.1 in_wsX30 tyX3_ok rfl (fun j hj => by rcases (show j = 0 ∨ j = 1 ∨ j = 2 by omega) with rfl | rfl | rfl <;> rfl) (i_X3 l D ca) cl_X4_9 it_X3 ini_X3 im_X3_init cd_X3_init rfl rfl hN (Or.inl (List.mem_of_getElem? (i := 2) rfl)) (by decide +kernel) hP hD hS hA (Nat.le_of_ble_eq_true rfl) (Nat.le_of_ble_eq_true rfl) ⟨rfl, rfl⟩ ⟨Nat.le_of_ble_eq_true rfl, Nat.le_of_ble_eq_true rfl⟩ (Nat.le_of_ble_eq_true rfl) dX4_init_42 dX4_init_45 dX4_init_46 (fun g16 H locs hP hD hS => ?_)
  have hP : va_P D vwCl (X ++ ((a, .inr (4, [.ref q1, .ref q2, .ref q3, .int 0, .int 0, .int 0])) :: (q1, .inl (ca 4, 13, .inr (.inr (.inr (.inr (va_up (va_up (va_up (va_up (va_up (va_up (fun _ => none) 0 (some (g4 0))) 1 (some (g6 0))) 2 (some (g8 0))) 3 (some (g10 0))) 4 (some (g12 0))) 5 (some (g14 0)))))))) :: ([] ++ [(q2, .inl (ca 0, (12, .inl (fun _ => 0))))] ++ [(q3, .inl (ca 2, (64, .inr (.inl (fun _ => 0)))))] ++ cl_X3 ca g4 ++ cl_X3 ca g6 ++ cl_X3 ca g8 ++ cl_X3 ca g10 ++ cl_X3 ca g12 ++ cl_X3 ca g14 ++ cl_X3 ca g16))) H := hP
  have hD : va_D A (X ++ ((a, .inr (4, [.ref q1, .ref q2, .ref q3, .int 0, .int 0, .int 0])) :: (q1, .inl (ca 4, 13, .inr (.inr (.inr (.inr (va_up (va_up (va_up (va_up (va_up (va_up (fun _ => none) 0 (some (g4 0))) 1 (some (g6 0))) 2 (some (g8 0))) 3 (some (g10 0))) 4 (some (g12 0))) 5 (some (g14 0)))))))) :: ([] ++ [(q2, .inl (ca 0, (12, .inl (fun _ => 0))))] ++ [(q3, .inl (ca 2, (64, .inr (.inl (fun _ => 0)))))] ++ cl_X3 ca g4 ++ cl_X3 ca g6 ++ cl_X3 ca g8 ++ cl_X3 ca g10 ++ cl_X3 ca g12 ++ cl_X3 ca g14 ++ cl_X3 ca g16))) := hD
  refine va_astq (D := D) (cl := vwCl) (tys := tysA ca) hx hb hK hP hD hS (X.length + 1) 4 (X.length + 16) 3 (app_at rfl) rfl (app_at rfl) rfl (inb_in (by decide +kernel)) dX4_init_49 (fun H locs hP hD hS => ?_)
  rw [app_set] at hP hD
  have hP : va_P D vwCl (X ++ ((a, .inr (4, [.ref q1, .ref q2, .ref q3, .int 0, .int 0, .int 0])) :: (q1, .inl (ca 4, 13, .inr (.inr (.inr (.inr (va_up (va_up (va_up (va_up (va_up (va_up (va_up (fun _ => none) 0 (some (g4 0))) 1 (some (g6 0))) 2 (some (g8 0))) 3 (some (g10 0))) 4 (some (g12 0))) 5 (some (g14 0))) 6 (some (g16 0)))))))) :: ([] ++ [(q2, .inl (ca 0, (12, .inl (fun _ => 0))))] ++ [(q3, .inl (ca 2, (64, .inr (.inl (fun _ => 0)))))] ++ cl_X3 ca g4 ++ cl_X3 ca g6 ++ cl_X3 ca g8 ++ cl_X3 ca g10 ++ cl_X3 ca g12 ++ cl_X3 ca g14 ++ cl_X3 ca g16))) H := hP
  have hD : va_D A (X ++ ((a, .inr (4, [.ref q1, .ref q2, .ref q3, .int 0, .int 0, .int 0])) :: (q1, .inl (ca 4, 13, .inr (.inr (.inr (.inr (va_up (va_up (va_up (va_up (va_up (va_up (va_up (fun _ => none) 0 (some (g4 0))) 1 (some (g6 0))) 2 (some (g8 0))) 3 (some (g10 0))) 4 (some (g12 0))) 5 (some (g14 0))) 6 (some (g16 0)))))))) :: ([] ++ [(q2, .inl (ca 0, (12, .inl (fun _ => 0))))] ++ [(q3, .inl (ca 2, (64, .inr (.inl (fun _ => 0)))))] ++ cl_X3 ca g4 ++ cl_X3 ca g6 ++ cl_X3 ca g8 ++ cl_X3 ca g10 ++ cl_X3 ca g12 ++ cl_X3 ca g14 ++ cl_X3 ca g16))) := hD
  refine lv_iinc (v := (7 : Int32)) (lv' := [(1, .int (7 : Int32)), (0, .ref a)]) hx hb dX4_init_50 hl (k := 0) rfl (by decide) (by decide) rfl (fun ls hl => ?_)
  refine lv_goto (tgt := 31) hx hb dX4_init_53 (by decide) ?_
  refine lv_iload_n hx hb dX4_init_31 rfl (lv_at hl 0 rfl) ?_
  refine lv_bipush (v := (12 : Int32)) hx hb dX4_init_32 (by decide) ?_
  refine lv_icmp_gt (tgt := 56) hx hb dX4_init_34 (by decide) (fun h => absurd h (by decide)) (fun _ => ?_)
  refine lv_aload_n hx hb dX4_init_37 rfl (lv_at hl 1 rfl) ?_
  refine va_get (D := D) (ci := 4) (v := .ref q1) (C := RX4) (T := TX4) (N := 6) hx hb hts in_wsX40 hown hK hP (X.length + 0) (app_at rfl) rfl 0 (by decide) (hts _ lk_X4_11) (fun _ h9 => h9) rfl dX4_init_38 ?_
  refine lv_iload_n hx hb dX4_init_41 rfl (lv_at hl 0 rfl) ?_
  refine rn_objN (k := 3) (idx := 9) (idx2 := 25) (host := RX8) (T := TX3) (ty0 := tyX3) (Nf := 3) (y := yX3_init) (nulls := [.null, .int 0, .int 0]) C hl.1 in_wsX30 tyX3_ok rfl (fun j hj => by rcases (show j = 0 ∨ j = 1 ∨ j = 2 by omega) with rfl | rfl | rfl <;> rfl) (i_X3 l D ca) cl_X4_9 it_X3 ini_X3 im_X3_init cd_X3_init rfl rfl hN (Or.inl (List.mem_of_getElem? (i := 2) rfl)) (by decide +kernel) hP hD hS hA (Nat.le_of_ble_eq_true rfl) (Nat.le_of_ble_eq_true rfl) ⟨rfl, rfl⟩ ⟨Nat.le_of_ble_eq_true rfl, Nat.le_of_ble_eq_true rfl⟩ (Nat.le_of_ble_eq_true rfl) dX4_init_42 dX4_init_45 dX4_init_46 (fun g18 H locs hP hD hS => ?_)
  have hP : va_P D vwCl (X ++ ((a, .inr (4, [.ref q1, .ref q2, .ref q3, .int 0, .int 0, .int 0])) :: (q1, .inl (ca 4, 13, .inr (.inr (.inr (.inr (va_up (va_up (va_up (va_up (va_up (va_up (va_up (fun _ => none) 0 (some (g4 0))) 1 (some (g6 0))) 2 (some (g8 0))) 3 (some (g10 0))) 4 (some (g12 0))) 5 (some (g14 0))) 6 (some (g16 0)))))))) :: ([] ++ [(q2, .inl (ca 0, (12, .inl (fun _ => 0))))] ++ [(q3, .inl (ca 2, (64, .inr (.inl (fun _ => 0)))))] ++ cl_X3 ca g4 ++ cl_X3 ca g6 ++ cl_X3 ca g8 ++ cl_X3 ca g10 ++ cl_X3 ca g12 ++ cl_X3 ca g14 ++ cl_X3 ca g16 ++ cl_X3 ca g18))) H := hP
  have hD : va_D A (X ++ ((a, .inr (4, [.ref q1, .ref q2, .ref q3, .int 0, .int 0, .int 0])) :: (q1, .inl (ca 4, 13, .inr (.inr (.inr (.inr (va_up (va_up (va_up (va_up (va_up (va_up (va_up (fun _ => none) 0 (some (g4 0))) 1 (some (g6 0))) 2 (some (g8 0))) 3 (some (g10 0))) 4 (some (g12 0))) 5 (some (g14 0))) 6 (some (g16 0)))))))) :: ([] ++ [(q2, .inl (ca 0, (12, .inl (fun _ => 0))))] ++ [(q3, .inl (ca 2, (64, .inr (.inl (fun _ => 0)))))] ++ cl_X3 ca g4 ++ cl_X3 ca g6 ++ cl_X3 ca g8 ++ cl_X3 ca g10 ++ cl_X3 ca g12 ++ cl_X3 ca g14 ++ cl_X3 ca g16 ++ cl_X3 ca g18))) := hD
  refine va_astq (D := D) (cl := vwCl) (tys := tysA ca) hx hb hK hP hD hS (X.length + 1) 4 (X.length + 18) 3 (app_at rfl) rfl (app_at rfl) rfl (inb_in (by decide +kernel)) dX4_init_49 (fun H locs hP hD hS => ?_)
  rw [app_set] at hP hD
  have hP : va_P D vwCl (X ++ ((a, .inr (4, [.ref q1, .ref q2, .ref q3, .int 0, .int 0, .int 0])) :: (q1, .inl (ca 4, 13, .inr (.inr (.inr (.inr (va_up (va_up (va_up (va_up (va_up (va_up (va_up (va_up (fun _ => none) 0 (some (g4 0))) 1 (some (g6 0))) 2 (some (g8 0))) 3 (some (g10 0))) 4 (some (g12 0))) 5 (some (g14 0))) 6 (some (g16 0))) 7 (some (g18 0)))))))) :: ([] ++ [(q2, .inl (ca 0, (12, .inl (fun _ => 0))))] ++ [(q3, .inl (ca 2, (64, .inr (.inl (fun _ => 0)))))] ++ cl_X3 ca g4 ++ cl_X3 ca g6 ++ cl_X3 ca g8 ++ cl_X3 ca g10 ++ cl_X3 ca g12 ++ cl_X3 ca g14 ++ cl_X3 ca g16 ++ cl_X3 ca g18))) H := hP
  have hD : va_D A (X ++ ((a, .inr (4, [.ref q1, .ref q2, .ref q3, .int 0, .int 0, .int 0])) :: (q1, .inl (ca 4, 13, .inr (.inr (.inr (.inr (va_up (va_up (va_up (va_up (va_up (va_up (va_up (va_up (fun _ => none) 0 (some (g4 0))) 1 (some (g6 0))) 2 (some (g8 0))) 3 (some (g10 0))) 4 (some (g12 0))) 5 (some (g14 0))) 6 (some (g16 0))) 7 (some (g18 0)))))))) :: ([] ++ [(q2, .inl (ca 0, (12, .inl (fun _ => 0))))] ++ [(q3, .inl (ca 2, (64, .inr (.inl (fun _ => 0)))))] ++ cl_X3 ca g4 ++ cl_X3 ca g6 ++ cl_X3 ca g8 ++ cl_X3 ca g10 ++ cl_X3 ca g12 ++ cl_X3 ca g14 ++ cl_X3 ca g16 ++ cl_X3 ca g18))) := hD
  refine lv_iinc (v := (8 : Int32)) (lv' := [(1, .int (8 : Int32)), (0, .ref a)]) hx hb dX4_init_50 hl (k := 0) rfl (by decide) (by decide) rfl (fun ls hl => ?_)
  refine lv_goto (tgt := 31) hx hb dX4_init_53 (by decide) ?_
  refine lv_iload_n hx hb dX4_init_31 rfl (lv_at hl 0 rfl) ?_
  refine lv_bipush (v := (12 : Int32)) hx hb dX4_init_32 (by decide) ?_
  refine lv_icmp_gt (tgt := 56) hx hb dX4_init_34 (by decide) (fun h => absurd h (by decide)) (fun _ => ?_)
  refine lv_aload_n hx hb dX4_init_37 rfl (lv_at hl 1 rfl) ?_
  refine va_get (D := D) (ci := 4) (v := .ref q1) (C := RX4) (T := TX4) (N := 6) hx hb hts in_wsX40 hown hK hP (X.length + 0) (app_at rfl) rfl 0 (by decide) (hts _ lk_X4_11) (fun _ h9 => h9) rfl dX4_init_38 ?_
  refine lv_iload_n hx hb dX4_init_41 rfl (lv_at hl 0 rfl) ?_
  refine rn_objN (k := 3) (idx := 9) (idx2 := 25) (host := RX8) (T := TX3) (ty0 := tyX3) (Nf := 3) (y := yX3_init) (nulls := [.null, .int 0, .int 0]) C hl.1 in_wsX30 tyX3_ok rfl (fun j hj => by rcases (show j = 0 ∨ j = 1 ∨ j = 2 by omega) with rfl | rfl | rfl <;> rfl) (i_X3 l D ca) cl_X4_9 it_X3 ini_X3 im_X3_init cd_X3_init rfl rfl hN (Or.inl (List.mem_of_getElem? (i := 2) rfl)) (by decide +kernel) hP hD hS hA (Nat.le_of_ble_eq_true rfl) (Nat.le_of_ble_eq_true rfl) ⟨rfl, rfl⟩ ⟨Nat.le_of_ble_eq_true rfl, Nat.le_of_ble_eq_true rfl⟩ (Nat.le_of_ble_eq_true rfl) dX4_init_42 dX4_init_45 dX4_init_46 (fun g20 H locs hP hD hS => ?_)
  have hP : va_P D vwCl (X ++ ((a, .inr (4, [.ref q1, .ref q2, .ref q3, .int 0, .int 0, .int 0])) :: (q1, .inl (ca 4, 13, .inr (.inr (.inr (.inr (va_up (va_up (va_up (va_up (va_up (va_up (va_up (va_up (fun _ => none) 0 (some (g4 0))) 1 (some (g6 0))) 2 (some (g8 0))) 3 (some (g10 0))) 4 (some (g12 0))) 5 (some (g14 0))) 6 (some (g16 0))) 7 (some (g18 0)))))))) :: ([] ++ [(q2, .inl (ca 0, (12, .inl (fun _ => 0))))] ++ [(q3, .inl (ca 2, (64, .inr (.inl (fun _ => 0)))))] ++ cl_X3 ca g4 ++ cl_X3 ca g6 ++ cl_X3 ca g8 ++ cl_X3 ca g10 ++ cl_X3 ca g12 ++ cl_X3 ca g14 ++ cl_X3 ca g16 ++ cl_X3 ca g18 ++ cl_X3 ca g20))) H := hP
  have hD : va_D A (X ++ ((a, .inr (4, [.ref q1, .ref q2, .ref q3, .int 0, .int 0, .int 0])) :: (q1, .inl (ca 4, 13, .inr (.inr (.inr (.inr (va_up (va_up (va_up (va_up (va_up (va_up (va_up (va_up (fun _ => none) 0 (some (g4 0))) 1 (some (g6 0))) 2 (some (g8 0))) 3 (some (g10 0))) 4 (some (g12 0))) 5 (some (g14 0))) 6 (some (g16 0))) 7 (some (g18 0)))))))) :: ([] ++ [(q2, .inl (ca 0, (12, .inl (fun _ => 0))))] ++ [(q3, .inl (ca 2, (64, .inr (.inl (fun _ => 0)))))] ++ cl_X3 ca g4 ++ cl_X3 ca g6 ++ cl_X3 ca g8 ++ cl_X3 ca g10 ++ cl_X3 ca g12 ++ cl_X3 ca g14 ++ cl_X3 ca g16 ++ cl_X3 ca g18 ++ cl_X3 ca g20))) := hD
  refine va_astq (D := D) (cl := vwCl) (tys := tysA ca) hx hb hK hP hD hS (X.length + 1) 4 (X.length + 20) 3 (app_at rfl) rfl (app_at rfl) rfl (inb_in (by decide +kernel)) dX4_init_49 (fun H locs hP hD hS => ?_)
  rw [app_set] at hP hD
  have hP : va_P D vwCl (X ++ ((a, .inr (4, [.ref q1, .ref q2, .ref q3, .int 0, .int 0, .int 0])) :: (q1, .inl (ca 4, 13, .inr (.inr (.inr (.inr (va_up (va_up (va_up (va_up (va_up (va_up (va_up (va_up (va_up (fun _ => none) 0 (some (g4 0))) 1 (some (g6 0))) 2 (some (g8 0))) 3 (some (g10 0))) 4 (some (g12 0))) 5 (some (g14 0))) 6 (some (g16 0))) 7 (some (g18 0))) 8 (some (g20 0)))))))) :: ([] ++ [(q2, .inl (ca 0, (12, .inl (fun _ => 0))))] ++ [(q3, .inl (ca 2, (64, .inr (.inl (fun _ => 0)))))] ++ cl_X3 ca g4 ++ cl_X3 ca g6 ++ cl_X3 ca g8 ++ cl_X3 ca g10 ++ cl_X3 ca g12 ++ cl_X3 ca g14 ++ cl_X3 ca g16 ++ cl_X3 ca g18 ++ cl_X3 ca g20))) H := hP
  have hD : va_D A (X ++ ((a, .inr (4, [.ref q1, .ref q2, .ref q3, .int 0, .int 0, .int 0])) :: (q1, .inl (ca 4, 13, .inr (.inr (.inr (.inr (va_up (va_up (va_up (va_up (va_up (va_up (va_up (va_up (va_up (fun _ => none) 0 (some (g4 0))) 1 (some (g6 0))) 2 (some (g8 0))) 3 (some (g10 0))) 4 (some (g12 0))) 5 (some (g14 0))) 6 (some (g16 0))) 7 (some (g18 0))) 8 (some (g20 0)))))))) :: ([] ++ [(q2, .inl (ca 0, (12, .inl (fun _ => 0))))] ++ [(q3, .inl (ca 2, (64, .inr (.inl (fun _ => 0)))))] ++ cl_X3 ca g4 ++ cl_X3 ca g6 ++ cl_X3 ca g8 ++ cl_X3 ca g10 ++ cl_X3 ca g12 ++ cl_X3 ca g14 ++ cl_X3 ca g16 ++ cl_X3 ca g18 ++ cl_X3 ca g20))) := hD
  refine lv_iinc (v := (9 : Int32)) (lv' := [(1, .int (9 : Int32)), (0, .ref a)]) hx hb dX4_init_50 hl (k := 0) rfl (by decide) (by decide) rfl (fun ls hl => ?_)
  refine lv_goto (tgt := 31) hx hb dX4_init_53 (by decide) ?_
  refine lv_iload_n hx hb dX4_init_31 rfl (lv_at hl 0 rfl) ?_
  refine lv_bipush (v := (12 : Int32)) hx hb dX4_init_32 (by decide) ?_
  refine lv_icmp_gt (tgt := 56) hx hb dX4_init_34 (by decide) (fun h => absurd h (by decide)) (fun _ => ?_)
  refine lv_aload_n hx hb dX4_init_37 rfl (lv_at hl 1 rfl) ?_
  refine va_get (D := D) (ci := 4) (v := .ref q1) (C := RX4) (T := TX4) (N := 6) hx hb hts in_wsX40 hown hK hP (X.length + 0) (app_at rfl) rfl 0 (by decide) (hts _ lk_X4_11) (fun _ h9 => h9) rfl dX4_init_38 ?_
  refine lv_iload_n hx hb dX4_init_41 rfl (lv_at hl 0 rfl) ?_
  refine rn_objN (k := 3) (idx := 9) (idx2 := 25) (host := RX8) (T := TX3) (ty0 := tyX3) (Nf := 3) (y := yX3_init) (nulls := [.null, .int 0, .int 0]) C hl.1 in_wsX30 tyX3_ok rfl (fun j hj => by rcases (show j = 0 ∨ j = 1 ∨ j = 2 by omega) with rfl | rfl | rfl <;> rfl) (i_X3 l D ca) cl_X4_9 it_X3 ini_X3 im_X3_init cd_X3_init rfl rfl hN (Or.inl (List.mem_of_getElem? (i := 2) rfl)) (by decide +kernel) hP hD hS hA (Nat.le_of_ble_eq_true rfl) (Nat.le_of_ble_eq_true rfl) ⟨rfl, rfl⟩ ⟨Nat.le_of_ble_eq_true rfl, Nat.le_of_ble_eq_true rfl⟩ (Nat.le_of_ble_eq_true rfl) dX4_init_42 dX4_init_45 dX4_init_46 (fun g22 H locs hP hD hS => ?_)
  have hP : va_P D vwCl (X ++ ((a, .inr (4, [.ref q1, .ref q2, .ref q3, .int 0, .int 0, .int 0])) :: (q1, .inl (ca 4, 13, .inr (.inr (.inr (.inr (va_up (va_up (va_up (va_up (va_up (va_up (va_up (va_up (va_up (fun _ => none) 0 (some (g4 0))) 1 (some (g6 0))) 2 (some (g8 0))) 3 (some (g10 0))) 4 (some (g12 0))) 5 (some (g14 0))) 6 (some (g16 0))) 7 (some (g18 0))) 8 (some (g20 0)))))))) :: ([] ++ [(q2, .inl (ca 0, (12, .inl (fun _ => 0))))] ++ [(q3, .inl (ca 2, (64, .inr (.inl (fun _ => 0)))))] ++ cl_X3 ca g4 ++ cl_X3 ca g6 ++ cl_X3 ca g8 ++ cl_X3 ca g10 ++ cl_X3 ca g12 ++ cl_X3 ca g14 ++ cl_X3 ca g16 ++ cl_X3 ca g18 ++ cl_X3 ca g20 ++ cl_X3 ca g22))) H := hP
  have hD : va_D A (X ++ ((a, .inr (4, [.ref q1, .ref q2, .ref q3, .int 0, .int 0, .int 0])) :: (q1, .inl (ca 4, 13, .inr (.inr (.inr (.inr (va_up (va_up (va_up (va_up (va_up (va_up (va_up (va_up (va_up (fun _ => none) 0 (some (g4 0))) 1 (some (g6 0))) 2 (some (g8 0))) 3 (some (g10 0))) 4 (some (g12 0))) 5 (some (g14 0))) 6 (some (g16 0))) 7 (some (g18 0))) 8 (some (g20 0)))))))) :: ([] ++ [(q2, .inl (ca 0, (12, .inl (fun _ => 0))))] ++ [(q3, .inl (ca 2, (64, .inr (.inl (fun _ => 0)))))] ++ cl_X3 ca g4 ++ cl_X3 ca g6 ++ cl_X3 ca g8 ++ cl_X3 ca g10 ++ cl_X3 ca g12 ++ cl_X3 ca g14 ++ cl_X3 ca g16 ++ cl_X3 ca g18 ++ cl_X3 ca g20 ++ cl_X3 ca g22))) := hD
  refine va_astq (D := D) (cl := vwCl) (tys := tysA ca) hx hb hK hP hD hS (X.length + 1) 4 (X.length + 22) 3 (app_at rfl) rfl (app_at rfl) rfl (inb_in (by decide +kernel)) dX4_init_49 (fun H locs hP hD hS => ?_)
  rw [app_set] at hP hD
  have hP : va_P D vwCl (X ++ ((a, .inr (4, [.ref q1, .ref q2, .ref q3, .int 0, .int 0, .int 0])) :: (q1, .inl (ca 4, 13, .inr (.inr (.inr (.inr (va_up (va_up (va_up (va_up (va_up (va_up (va_up (va_up (va_up (va_up (fun _ => none) 0 (some (g4 0))) 1 (some (g6 0))) 2 (some (g8 0))) 3 (some (g10 0))) 4 (some (g12 0))) 5 (some (g14 0))) 6 (some (g16 0))) 7 (some (g18 0))) 8 (some (g20 0))) 9 (some (g22 0)))))))) :: ([] ++ [(q2, .inl (ca 0, (12, .inl (fun _ => 0))))] ++ [(q3, .inl (ca 2, (64, .inr (.inl (fun _ => 0)))))] ++ cl_X3 ca g4 ++ cl_X3 ca g6 ++ cl_X3 ca g8 ++ cl_X3 ca g10 ++ cl_X3 ca g12 ++ cl_X3 ca g14 ++ cl_X3 ca g16 ++ cl_X3 ca g18 ++ cl_X3 ca g20 ++ cl_X3 ca g22))) H := hP
  have hD : va_D A (X ++ ((a, .inr (4, [.ref q1, .ref q2, .ref q3, .int 0, .int 0, .int 0])) :: (q1, .inl (ca 4, 13, .inr (.inr (.inr (.inr (va_up (va_up (va_up (va_up (va_up (va_up (va_up (va_up (va_up (va_up (fun _ => none) 0 (some (g4 0))) 1 (some (g6 0))) 2 (some (g8 0))) 3 (some (g10 0))) 4 (some (g12 0))) 5 (some (g14 0))) 6 (some (g16 0))) 7 (some (g18 0))) 8 (some (g20 0))) 9 (some (g22 0)))))))) :: ([] ++ [(q2, .inl (ca 0, (12, .inl (fun _ => 0))))] ++ [(q3, .inl (ca 2, (64, .inr (.inl (fun _ => 0)))))] ++ cl_X3 ca g4 ++ cl_X3 ca g6 ++ cl_X3 ca g8 ++ cl_X3 ca g10 ++ cl_X3 ca g12 ++ cl_X3 ca g14 ++ cl_X3 ca g16 ++ cl_X3 ca g18 ++ cl_X3 ca g20 ++ cl_X3 ca g22))) := hD
  refine lv_iinc (v := (10 : Int32)) (lv' := [(1, .int (10 : Int32)), (0, .ref a)]) hx hb dX4_init_50 hl (k := 0) rfl (by decide) (by decide) rfl (fun ls hl => ?_)
  refine lv_goto (tgt := 31) hx hb dX4_init_53 (by decide) ?_
  refine lv_iload_n hx hb dX4_init_31 rfl (lv_at hl 0 rfl) ?_
  refine lv_bipush (v := (12 : Int32)) hx hb dX4_init_32 (by decide) ?_
  refine lv_icmp_gt (tgt := 56) hx hb dX4_init_34 (by decide) (fun h => absurd h (by decide)) (fun _ => ?_)
  refine lv_aload_n hx hb dX4_init_37 rfl (lv_at hl 1 rfl) ?_
  refine va_get (D := D) (ci := 4) (v := .ref q1) (C := RX4) (T := TX4) (N := 6) hx hb hts in_wsX40 hown hK hP (X.length + 0) (app_at rfl) rfl 0 (by decide) (hts _ lk_X4_11) (fun _ h9 => h9) rfl dX4_init_38 ?_
  refine lv_iload_n hx hb dX4_init_41 rfl (lv_at hl 0 rfl) ?_
  refine rn_objN (k := 3) (idx := 9) (idx2 := 25) (host := RX8) (T := TX3) (ty0 := tyX3) (Nf := 3) (y := yX3_init) (nulls := [.null, .int 0, .int 0]) C hl.1 in_wsX30 tyX3_ok rfl (fun j hj => by rcases (show j = 0 ∨ j = 1 ∨ j = 2 by omega) with rfl | rfl | rfl <;> rfl) (i_X3 l D ca) cl_X4_9 it_X3 ini_X3 im_X3_init cd_X3_init rfl rfl hN (Or.inl (List.mem_of_getElem? (i := 2) rfl)) (by decide +kernel) hP hD hS hA (Nat.le_of_ble_eq_true rfl) (Nat.le_of_ble_eq_true rfl) ⟨rfl, rfl⟩ ⟨Nat.le_of_ble_eq_true rfl, Nat.le_of_ble_eq_true rfl⟩ (Nat.le_of_ble_eq_true rfl) dX4_init_42 dX4_init_45 dX4_init_46 (fun g24 H locs hP hD hS => ?_)
  have hP : va_P D vwCl (X ++ ((a, .inr (4, [.ref q1, .ref q2, .ref q3, .int 0, .int 0, .int 0])) :: (q1, .inl (ca 4, 13, .inr (.inr (.inr (.inr (va_up (va_up (va_up (va_up (va_up (va_up (va_up (va_up (va_up (va_up (fun _ => none) 0 (some (g4 0))) 1 (some (g6 0))) 2 (some (g8 0))) 3 (some (g10 0))) 4 (some (g12 0))) 5 (some (g14 0))) 6 (some (g16 0))) 7 (some (g18 0))) 8 (some (g20 0))) 9 (some (g22 0)))))))) :: ([] ++ [(q2, .inl (ca 0, (12, .inl (fun _ => 0))))] ++ [(q3, .inl (ca 2, (64, .inr (.inl (fun _ => 0)))))] ++ cl_X3 ca g4 ++ cl_X3 ca g6 ++ cl_X3 ca g8 ++ cl_X3 ca g10 ++ cl_X3 ca g12 ++ cl_X3 ca g14 ++ cl_X3 ca g16 ++ cl_X3 ca g18 ++ cl_X3 ca g20 ++ cl_X3 ca g22 ++ cl_X3 ca g24))) H := hP
  have hD : va_D A (X ++ ((a, .inr (4, [.ref q1, .ref q2, .ref q3, .int 0, .int 0, .int 0])) :: (q1, .inl (ca 4, 13, .inr (.inr (.inr (.inr (va_up (va_up (va_up (va_up (va_up (va_up (va_up (va_up (va_up (va_up (fun _ => none) 0 (some (g4 0))) 1 (some (g6 0))) 2 (some (g8 0))) 3 (some (g10 0))) 4 (some (g12 0))) 5 (some (g14 0))) 6 (some (g16 0))) 7 (some (g18 0))) 8 (some (g20 0))) 9 (some (g22 0)))))))) :: ([] ++ [(q2, .inl (ca 0, (12, .inl (fun _ => 0))))] ++ [(q3, .inl (ca 2, (64, .inr (.inl (fun _ => 0)))))] ++ cl_X3 ca g4 ++ cl_X3 ca g6 ++ cl_X3 ca g8 ++ cl_X3 ca g10 ++ cl_X3 ca g12 ++ cl_X3 ca g14 ++ cl_X3 ca g16 ++ cl_X3 ca g18 ++ cl_X3 ca g20 ++ cl_X3 ca g22 ++ cl_X3 ca g24))) := hD
  refine va_astq (D := D) (cl := vwCl) (tys := tysA ca) hx hb hK hP hD hS (X.length + 1) 4 (X.length + 24) 3 (app_at rfl) rfl (app_at rfl) rfl (inb_in (by decide +kernel)) dX4_init_49 (fun H locs hP hD hS => ?_)
  rw [app_set] at hP hD
  have hP : va_P D vwCl (X ++ ((a, .inr (4, [.ref q1, .ref q2, .ref q3, .int 0, .int 0, .int 0])) :: (q1, .inl (ca 4, 13, .inr (.inr (.inr (.inr (va_up (va_up (va_up (va_up (va_up (va_up (va_up (va_up (va_up (va_up (va_up (fun _ => none) 0 (some (g4 0))) 1 (some (g6 0))) 2 (some (g8 0))) 3 (some (g10 0))) 4 (some (g12 0))) 5 (some (g14 0))) 6 (some (g16 0))) 7 (some (g18 0))) 8 (some (g20 0))) 9 (some (g22 0))) 10 (some (g24 0)))))))) :: ([] ++ [(q2, .inl (ca 0, (12, .inl (fun _ => 0))))] ++ [(q3, .inl (ca 2, (64, .inr (.inl (fun _ => 0)))))] ++ cl_X3 ca g4 ++ cl_X3 ca g6 ++ cl_X3 ca g8 ++ cl_X3 ca g10 ++ cl_X3 ca g12 ++ cl_X3 ca g14 ++ cl_X3 ca g16 ++ cl_X3 ca g18 ++ cl_X3 ca g20 ++ cl_X3 ca g22 ++ cl_X3 ca g24))) H := hP
  have hD : va_D A (X ++ ((a, .inr (4, [.ref q1, .ref q2, .ref q3, .int 0, .int 0, .int 0])) :: (q1, .inl (ca 4, 13, .inr (.inr (.inr (.inr (va_up (va_up (va_up (va_up (va_up (va_up (va_up (va_up (va_up (va_up (va_up (fun _ => none) 0 (some (g4 0))) 1 (some (g6 0))) 2 (some (g8 0))) 3 (some (g10 0))) 4 (some (g12 0))) 5 (some (g14 0))) 6 (some (g16 0))) 7 (some (g18 0))) 8 (some (g20 0))) 9 (some (g22 0))) 10 (some (g24 0)))))))) :: ([] ++ [(q2, .inl (ca 0, (12, .inl (fun _ => 0))))] ++ [(q3, .inl (ca 2, (64, .inr (.inl (fun _ => 0)))))] ++ cl_X3 ca g4 ++ cl_X3 ca g6 ++ cl_X3 ca g8 ++ cl_X3 ca g10 ++ cl_X3 ca g12 ++ cl_X3 ca g14 ++ cl_X3 ca g16 ++ cl_X3 ca g18 ++ cl_X3 ca g20 ++ cl_X3 ca g22 ++ cl_X3 ca g24))) := hD
  refine lv_iinc (v := (11 : Int32)) (lv' := [(1, .int (11 : Int32)), (0, .ref a)]) hx hb dX4_init_50 hl (k := 0) rfl (by decide) (by decide) rfl (fun ls hl => ?_)
  refine lv_goto (tgt := 31) hx hb dX4_init_53 (by decide) ?_
  refine lv_iload_n hx hb dX4_init_31 rfl (lv_at hl 0 rfl) ?_
  refine lv_bipush (v := (12 : Int32)) hx hb dX4_init_32 (by decide) ?_
  refine lv_icmp_gt (tgt := 56) hx hb dX4_init_34 (by decide) (fun h => absurd h (by decide)) (fun _ => ?_)
  refine lv_aload_n hx hb dX4_init_37 rfl (lv_at hl 1 rfl) ?_
  refine va_get (D := D) (ci := 4) (v := .ref q1) (C := RX4) (T := TX4) (N := 6) hx hb hts in_wsX40 hown hK hP (X.length + 0) (app_at rfl) rfl 0 (by decide) (hts _ lk_X4_11) (fun _ h9 => h9) rfl dX4_init_38 ?_
  refine lv_iload_n hx hb dX4_init_41 rfl (lv_at hl 0 rfl) ?_
  refine rn_objN (k := 3) (idx := 9) (idx2 := 25) (host := RX8) (T := TX3) (ty0 := tyX3) (Nf := 3) (y := yX3_init) (nulls := [.null, .int 0, .int 0]) C hl.1 in_wsX30 tyX3_ok rfl (fun j hj => by rcases (show j = 0 ∨ j = 1 ∨ j = 2 by omega) with rfl | rfl | rfl <;> rfl) (i_X3 l D ca) cl_X4_9 it_X3 ini_X3 im_X3_init cd_X3_init rfl rfl hN (Or.inl (List.mem_of_getElem? (i := 2) rfl)) (by decide +kernel) hP hD hS hA (Nat.le_of_ble_eq_true rfl) (Nat.le_of_ble_eq_true rfl) ⟨rfl, rfl⟩ ⟨Nat.le_of_ble_eq_true rfl, Nat.le_of_ble_eq_true rfl⟩ (Nat.le_of_ble_eq_true rfl) dX4_init_42 dX4_init_45 dX4_init_46 (fun g26 H locs hP hD hS => ?_)
  have hP : va_P D vwCl (X ++ ((a, .inr (4, [.ref q1, .ref q2, .ref q3, .int 0, .int 0, .int 0])) :: (q1, .inl (ca 4, 13, .inr (.inr (.inr (.inr (va_up (va_up (va_up (va_up (va_up (va_up (va_up (va_up (va_up (va_up (va_up (fun _ => none) 0 (some (g4 0))) 1 (some (g6 0))) 2 (some (g8 0))) 3 (some (g10 0))) 4 (some (g12 0))) 5 (some (g14 0))) 6 (some (g16 0))) 7 (some (g18 0))) 8 (some (g20 0))) 9 (some (g22 0))) 10 (some (g24 0)))))))) :: ([] ++ [(q2, .inl (ca 0, (12, .inl (fun _ => 0))))] ++ [(q3, .inl (ca 2, (64, .inr (.inl (fun _ => 0)))))] ++ cl_X3 ca g4 ++ cl_X3 ca g6 ++ cl_X3 ca g8 ++ cl_X3 ca g10 ++ cl_X3 ca g12 ++ cl_X3 ca g14 ++ cl_X3 ca g16 ++ cl_X3 ca g18 ++ cl_X3 ca g20 ++ cl_X3 ca g22 ++ cl_X3 ca g24 ++ cl_X3 ca g26))) H := hP
  have hD : va_D A (X ++ ((a, .inr (4, [.ref q1, .ref q2, .ref q3, .int 0, .int 0, .int 0])) :: (q1, .inl (ca 4, 13, .inr (.inr (.inr (.inr (va_up (va_up (va_up (va_up (va_up (va_up (va_up (va_up (va_up (va_up (va_up (fun _ => none) 0 (some (g4 0))) 1 (some (g6 0))) 2 (some (g8 0))) 3 (some (g10 0))) 4 (some (g12 0))) 5 (some (g14 0))) 6 (some (g16 0))) 7 (some (g18 0))) 8 (some (g20 0))) 9 (some (g22 0))) 10 (some (g24 0)))))))) :: ([] ++ [(q2, .inl (ca 0, (12, .inl (fun _ => 0))))] ++ [(q3, .inl (ca 2, (64, .inr (.inl (fun _ => 0)))))] ++ cl_X3 ca g4 ++ cl_X3 ca g6 ++ cl_X3 ca g8 ++ cl_X3 ca g10 ++ cl_X3 ca g12 ++ cl_X3 ca g14 ++ cl_X3 ca g16 ++ cl_X3 ca g18 ++ cl_X3 ca g20 ++ cl_X3 ca g22 ++ cl_X3 ca g24 ++ cl_X3 ca g26))) := hD
  refine va_astq (D := D) (cl := vwCl) (tys := tysA ca) hx hb hK hP hD hS (X.length + 1) 4 (X.length + 26) 3 (app_at rfl) rfl (app_at rfl) rfl (inb_in (by decide +kernel)) dX4_init_49 (fun H locs hP hD hS => ?_)
  rw [app_set] at hP hD
  have hP : va_P D vwCl (X ++ ((a, .inr (4, [.ref q1, .ref q2, .ref q3, .int 0, .int 0, .int 0])) :: (q1, .inl (ca 4, 13, .inr (.inr (.inr (.inr (va_up (va_up (va_up (va_up (va_up (va_up (va_up (va_up (va_up (va_up (va_up (va_up (fun _ => none) 0 (some (g4 0))) 1 (some (g6 0))) 2 (some (g8 0))) 3 (some (g10 0))) 4 (some (g12 0))) 5 (some (g14 0))) 6 (some (g16 0))) 7 (some (g18 0))) 8 (some (g20 0))) 9 (some (g22 0))) 10 (some (g24 0))) 11 (some (g26 0)))))))) :: ([] ++ [(q2, .inl (ca 0, (12, .inl (fun _ => 0))))] ++ [(q3, .inl (ca 2, (64, .inr (.inl (fun _ => 0)))))] ++ cl_X3 ca g4 ++ cl_X3 ca g6 ++ cl_X3 ca g8 ++ cl_X3 ca g10 ++ cl_X3 ca g12 ++ cl_X3 ca g14 ++ cl_X3 ca g16 ++ cl_X3 ca g18 ++ cl_X3 ca g20 ++ cl_X3 ca g22 ++ cl_X3 ca g24 ++ cl_X3 ca g26))) H := hP
  have hD : va_D A (X ++ ((a, .inr (4, [.ref q1, .ref q2, .ref q3, .int 0, .int 0, .int 0])) :: (q1, .inl (ca 4, 13, .inr (.inr (.inr (.inr (va_up (va_up (va_up (va_up (va_up (va_up (va_up (va_up (va_up (va_up (va_up (va_up (fun _ => none) 0 (some (g4 0))) 1 (some (g6 0))) 2 (some (g8 0))) 3 (some (g10 0))) 4 (some (g12 0))) 5 (some (g14 0))) 6 (some (g16 0))) 7 (some (g18 0))) 8 (some (g20 0))) 9 (some (g22 0))) 10 (some (g24 0))) 11 (some (g26 0)))))))) :: ([] ++ [(q2, .inl (ca 0, (12, .inl (fun _ => 0))))] ++ [(q3, .inl (ca 2, (64, .inr (.inl (fun _ => 0)))))] ++ cl_X3 ca g4 ++ cl_X3 ca g6 ++ cl_X3 ca g8 ++ cl_X3 ca g10 ++ cl_X3 ca g12 ++ cl_X3 ca g14 ++ cl_X3 ca g16 ++ cl_X3 ca g18 ++ cl_X3 ca g20 ++ cl_X3 ca g22 ++ cl_X3 ca g24 ++ cl_X3 ca g26))) := hD
  refine lv_iinc (v := (12 : Int32)) (lv' := [(1, .int (12 : Int32)), (0, .ref a)]) hx hb dX4_init_50 hl (k := 0) rfl (by decide) (by decide) rfl (fun ls hl => ?_)
  refine lv_goto (tgt := 31) hx hb dX4_init_53 (by decide) ?_
  refine lv_iload_n hx hb dX4_init_31 rfl (lv_at hl 0 rfl) ?_
  refine lv_bipush (v := (12 : Int32)) hx hb dX4_init_32 (by decide) ?_
  refine lv_icmp_gt (tgt := 56) hx hb dX4_init_34 (by decide) (fun h => absurd h (by decide)) (fun _ => ?_)
  refine lv_aload_n hx hb dX4_init_37 rfl (lv_at hl 1 rfl) ?_
  refine va_get (D := D) (ci := 4) (v := .ref q1) (C := RX4) (T := TX4) (N := 6) hx hb hts in_wsX40 hown hK hP (X.length + 0) (app_at rfl) rfl 0 (by decide) (hts _ lk_X4_11) (fun _ h9 => h9) rfl dX4_init_38 ?_
  refine lv_iload_n hx hb dX4_init_41 rfl (lv_at hl 0 rfl) ?_
  refine rn_objN (k := 3) (idx := 9) (idx2 := 25) (host := RX8) (T := TX3) (ty0 := tyX3) (Nf := 3) (y := yX3_init) (nulls := [.null, .int 0, .int 0]) C hl.1 in_wsX30 tyX3_ok rfl (fun j hj => by rcases (show j = 0 ∨ j = 1 ∨ j = 2 by omega) with rfl | rfl | rfl <;> rfl) (i_X3 l D ca) cl_X4_9 it_X3 ini_X3 im_X3_init cd_X3_init rfl rfl hN (Or.inl (List.mem_of_getElem? (i := 2) rfl)) (by decide +kernel) hP hD hS hA (Nat.le_of_ble_eq_true rfl) (Nat.le_of_ble_eq_true rfl) ⟨rfl, rfl⟩ ⟨Nat.le_of_ble_eq_true rfl, Nat.le_of_ble_eq_true rfl⟩ (Nat.le_of_ble_eq_true rfl) dX4_init_42 dX4_init_45 dX4_init_46 (fun g28 H locs hP hD hS => ?_)
  have hP : va_P D vwCl (X ++ ((a, .inr (4, [.ref q1, .ref q2, .ref q3, .int 0, .int 0, .int 0])) :: (q1, .inl (ca 4, 13, .inr (.inr (.inr (.inr (va_up (va_up (va_up (va_up (va_up (va_up (va_up (va_up (va_up (va_up (va_up (va_up (fun _ => none) 0 (some (g4 0))) 1 (some (g6 0))) 2 (some (g8 0))) 3 (some (g10 0))) 4 (some (g12 0))) 5 (some (g14 0))) 6 (some (g16 0))) 7 (some (g18 0))) 8 (some (g20 0))) 9 (some (g22 0))) 10 (some (g24 0))) 11 (some (g26 0)))))))) :: ([] ++ [(q2, .inl (ca 0, (12, .inl (fun _ => 0))))] ++ [(q3, .inl (ca 2, (64, .inr (.inl (fun _ => 0)))))] ++ cl_X3 ca g4 ++ cl_X3 ca g6 ++ cl_X3 ca g8 ++ cl_X3 ca g10 ++ cl_X3 ca g12 ++ cl_X3 ca g14 ++ cl_X3 ca g16 ++ cl_X3 ca g18 ++ cl_X3 ca g20 ++ cl_X3 ca g22 ++ cl_X3 ca g24 ++ cl_X3 ca g26 ++ cl_X3 ca g28))) H := hP
  have hD : va_D A (X ++ ((a, .inr (4, [.ref q1, .ref q2, .ref q3, .int 0, .int 0, .int 0])) :: (q1, .inl (ca 4, 13, .inr (.inr (.inr (.inr (va_up (va_up (va_up (va_up (va_up (va_up (va_up (va_up (va_up (va_up (va_up (va_up (fun _ => none) 0 (some (g4 0))) 1 (some (g6 0))) 2 (some (g8 0))) 3 (some (g10 0))) 4 (some (g12 0))) 5 (some (g14 0))) 6 (some (g16 0))) 7 (some (g18 0))) 8 (some (g20 0))) 9 (some (g22 0))) 10 (some (g24 0))) 11 (some (g26 0)))))))) :: ([] ++ [(q2, .inl (ca 0, (12, .inl (fun _ => 0))))] ++ [(q3, .inl (ca 2, (64, .inr (.inl (fun _ => 0)))))] ++ cl_X3 ca g4 ++ cl_X3 ca g6 ++ cl_X3 ca g8 ++ cl_X3 ca g10 ++ cl_X3 ca g12 ++ cl_X3 ca g14 ++ cl_X3 ca g16 ++ cl_X3 ca g18 ++ cl_X3 ca g20 ++ cl_X3 ca g22 ++ cl_X3 ca g24 ++ cl_X3 ca g26 ++ cl_X3 ca g28))) := hD
  refine va_astq (D := D) (cl := vwCl) (tys := tysA ca) hx hb hK hP hD hS (X.length + 1) 4 (X.length + 28) 3 (app_at rfl) rfl (app_at rfl) rfl (inb_in (by decide +kernel)) dX4_init_49 (fun H locs hP hD hS => ?_)
  rw [app_set] at hP hD
  have hP : va_P D vwCl (X ++ ((a, .inr (4, [.ref q1, .ref q2, .ref q3, .int 0, .int 0, .int 0])) :: (q1, .inl (ca 4, 13, .inr (.inr (.inr (.inr (va_up (va_up (va_up (va_up (va_up (va_up (va_up (va_up (va_up (va_up (va_up (va_up (va_up (fun _ => none) 0 (some (g4 0))) 1 (some (g6 0))) 2 (some (g8 0))) 3 (some (g10 0))) 4 (some (g12 0))) 5 (some (g14 0))) 6 (some (g16 0))) 7 (some (g18 0))) 8 (some (g20 0))) 9 (some (g22 0))) 10 (some (g24 0))) 11 (some (g26 0))) 12 (some (g28 0)))))))) :: ([] ++ [(q2, .inl (ca 0, (12, .inl (fun _ => 0))))] ++ [(q3, .inl (ca 2, (64, .inr (.inl (fun _ => 0)))))] ++ cl_X3 ca g4 ++ cl_X3 ca g6 ++ cl_X3 ca g8 ++ cl_X3 ca g10 ++ cl_X3 ca g12 ++ cl_X3 ca g14 ++ cl_X3 ca g16 ++ cl_X3 ca g18 ++ cl_X3 ca g20 ++ cl_X3 ca g22 ++ cl_X3 ca g24 ++ cl_X3 ca g26 ++ cl_X3 ca g28))) H := hP
  have hD : va_D A (X ++ ((a, .inr (4, [.ref q1, .ref q2, .ref q3, .int 0, .int 0, .int 0])) :: (q1, .inl (ca 4, 13, .inr (.inr (.inr (.inr (va_up (va_up (va_up (va_up (va_up (va_up (va_up (va_up (va_up (va_up (va_up (va_up (va_up (fun _ => none) 0 (some (g4 0))) 1 (some (g6 0))) 2 (some (g8 0))) 3 (some (g10 0))) 4 (some (g12 0))) 5 (some (g14 0))) 6 (some (g16 0))) 7 (some (g18 0))) 8 (some (g20 0))) 9 (some (g22 0))) 10 (some (g24 0))) 11 (some (g26 0))) 12 (some (g28 0)))))))) :: ([] ++ [(q2, .inl (ca 0, (12, .inl (fun _ => 0))))] ++ [(q3, .inl (ca 2, (64, .inr (.inl (fun _ => 0)))))] ++ cl_X3 ca g4 ++ cl_X3 ca g6 ++ cl_X3 ca g8 ++ cl_X3 ca g10 ++ cl_X3 ca g12 ++ cl_X3 ca g14 ++ cl_X3 ca g16 ++ cl_X3 ca g18 ++ cl_X3 ca g20 ++ cl_X3 ca g22 ++ cl_X3 ca g24 ++ cl_X3 ca g26 ++ cl_X3 ca g28))) := hD
  refine lv_iinc (v := (13 : Int32)) (lv' := [(1, .int (13 : Int32)), (0, .ref a)]) hx hb dX4_init_50 hl (k := 0) rfl (by decide) (by decide) rfl (fun ls hl => ?_)
  refine lv_goto (tgt := 31) hx hb dX4_init_53 (by decide) ?_
  refine lv_iload_n hx hb dX4_init_31 rfl (lv_at hl 0 rfl) ?_
  refine lv_bipush (v := (12 : Int32)) hx hb dX4_init_32 (by decide) ?_
  refine lv_icmp_gt (tgt := 56) hx hb dX4_init_34 (by decide) (fun _ => ?_) (fun h => absurd (by decide) h)
  refine W.widen (k := 29) (n := 440) (Nat.le_of_ble_eq_true rfl) (Nat.le_of_ble_eq_true rfl) ?_
  exact W.vret hx hb hr (fun t ht hW => ⟨⟨(fun j => match j with | 0 => a | 1 => q1 | 2 => q2 | 3 => q3 | 4 => g4 0 | 5 => g4 1 | 6 => g6 0 | 7 => g6 1 | 8 => g8 0 | 9 => g8 1 | 10 => g10 0 | 11 => g10 1 | 12 => g12 0 | 13 => g12 1 | 14 => g14 0 | 15 => g14 1 | 16 => g16 0 | 17 => g16 1 | 18 => g18 0 | 19 => g18 1 | 20 => g20 0 | 21 => g20 1 | 22 => g22 0 | 23 => g22 1 | 24 => g24 0 | 25 => g24 1 | 26 => g26 0 | 27 => g26 1 | 28 => g28 0 | 29 => g28 1 | _ => 0), rfl, rfl, by rw [ht]; exact hP, va_K.moved hW.alike hK, hD⟩, hS.F ht⟩) hS.2.2 dX4_init_56 (hlocks := hlocks)
