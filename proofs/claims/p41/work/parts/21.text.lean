def rdMem (w : Mem) (n : Int32) (fid : Nat) : Mem := sR (sAf (sF (sF (sF (sF (sF (sF w 5 1 0 n) 5 4 0 0) 5 5 0 0) 5 6 0 0) 5 7 0 0) 5 8 0 0) 29 0 (fun _ => 0)) 5 2 0 fid
def adR (ad : Nat → Nat → Nat) (a b : Nat) : Nat → Nat → Nat := fun k i => if k = 5 then a else if k = 29 then b else ad k i
theorem ent_rd (ca : Nat → ClassId) (ad : Nat → Nat → Nat) (a b : Nat) (w v : Mem) {k : Nat} (i : Nat) (h5 : ¬ k = 5) (h29 : ¬ k = 29) (h1 : ∀ j, gF w k j i = gF v k j i) (h2 : gA w k i = gA v k i) (h3 : gL w k i = gL v k i) (h4 : ∀ j, gR w k j i = gR v k j i) : ent ca (adR ad a b) w k i = ent ca ad v k i := by
  have e : ∀ k i : Nat, ¬ k = 5 → ¬ k = 29 → adR ad a b k i = ad k i := fun k i h h' => by unfold adR; rw [if_neg h, if_neg h']
  rw [← ent_congr ca ad h1 h2 h3 h4]
  unfold ent
  split
  case h_6 => exact absurd rfl h5
  case h_12 =>
    unfold ea
    split
    · rfl
    · congr 1
    · rfl
  all_goals (simp (disch := decide) only [e])
theorem wl_get {ad : Nat → Nat → Nat} {PL : List (Nat × Nat)} (e : Nat → Nat → va_E) {i : Nat} {x : Nat × Nat} (hi : PL[i]? = some x) : (wl ad PL e)[i]? = some (ad x.1 x.2, e x.1 x.2) := by rw [wl, List.getElem?_map, hi]; rfl
theorem vaP_left {D : va_G} {cl : List vw_C} {X L : va_W} {H : Heap} (h : va_P D cl (X ++ L) H) : va_P D cl X H := fun k q hk => h k q (by
  rw [List.getElem?_append_left (List.getElem?_eq_some_iff.mp hk).1]; exact hk)
theorem wl_rd {ca : Nat → ClassId} {ad : Nat → Nat → Nat} {PL : List (Nat × Nat)} (hn : ∀ p ∈ PL, ¬ p.1 = 5 ∧ ¬ p.1 = 29) (a b : Nat) (w : Mem) (n : Int32) (fid : Nat) :
    wl ad PL (ent ca ad w) ++ [(a, .inr (5, [.ref (ad 6 0), .int n, .ref (ad 1 fid), .ref b, .int 0, .int 0, .int 0, .int 0, .int 0])), (b, .inl (ca 0, 3, .inl (fun _ => 0)))] = wl (adR ad a b) (PL ++ [(5, 0), (29, 0)]) (ent ca (adR ad a b) (rdMem w n fid)) := by
  unfold wl
  rw [List.map_append]
  congr 1
  refine List.map_congr_left (fun p hp => ?_)
  obtain ⟨h5, h29⟩ := hn p hp
  have e : adR ad a b p.1 p.2 = ad p.1 p.2 := by unfold adR; rw [if_neg h5, if_neg h29]
  rw [e, ent_rd ca ad a b (rdMem w n fid) w p.2 h5 h29 (fun j => by simp [rdMem, gF_sR, gF_sAf, gF_sF, h5]) (by simp [rdMem, gA_sR, gA_sAf, gA_sF, h29]) rfl (fun j => by simp [rdMem, gR_sR, gR_sAf, gR_sF, h5])]
theorem wl_bk {D : va_G} {ca : Nat → ClassId} {ad : Nat → Nat → Nat} {PL : List (Nat × Nat)} (hn : ∀ p ∈ PL, ¬ p.1 = 5 ∧ ¬ p.1 = 29) {a b : Nat} {w : Mem} {H : Heap} (h : va_P D vwCl (wl (adR ad a b) (PL ++ [(5, 0), (29, 0)]) (ent ca (adR ad a b) w)) H) : va_P D vwCl (wl ad PL (ent ca ad w)) H := by
  have e : wl ad PL (ent ca ad w) = wl (adR ad a b) PL (ent ca (adR ad a b) w) := by
    unfold wl
    refine List.map_congr_left (fun p hp => ?_)
    obtain ⟨h5, h29⟩ := hn p hp
    have e : adR ad a b p.1 p.2 = ad p.1 p.2 := by unfold adR; rw [if_neg h5, if_neg h29]
    rw [e, ent_rd ca ad a b w w p.2 h5 h29 (fun _ => rfl) rfl rfl (fun _ => rfl)]
  rw [e]
  refine vaP_left (L := wl (adR ad a b) [(5, 0), (29, 0)] (ent ca (adR ad a b) w)) ?_
  rw [wl, wl, ← List.map_append]
  exact h

set_option maxRecDepth 100000 in
set_option maxHeartbeats 4000000 in
theorem i_X5 (l : Launch) (D : va_G) (ca : Nat → ClassId) (X : va_W) (a sz t g : Nat) (n : Int32) : Met l yX5_init (wsy yX5_init cX5_init 4 none) ({ frames := 1, cells := 1, slots := 3, locals := 52 } : Room) (va_Pc [.ref a, .ref t, .int n, .ref g] (fun U => U.heap.size = sz ∧ va_P D vwCl (X ++ [(a, .inr (5, [.null, .int 0, .null, .null, .int 0, .int 0, .int 0, .int 0, .int 0]))]) U.heap ∧ va_K D vwCl (tysA ca) U ∧ va_D (fun _ => True) (X ++ [(a, .inr (5, [.null, .int 0, .null, .null, .int 0, .int 0, .int 0, .int 0, .int 0]))]))) (va_Qv (fun _ : Nat => True) (fun b t' => va_P D vwCl (X ++ [(a, .inr (5, [.ref t, .int n, .ref g, .ref b, .int 0, .int 0, .int 0, .int 0, .int 0])), (b, .inl (ca 0, 3, .inl (fun _ => 0)))]) t'.heap ∧ va_K D vwCl (tysA ca) t' ∧ va_D (va_A (X ++ [(a, .inr (5, [.null, .int 0, .null, .null, .int 0, .int 0, .int 0, .int 0, .int 0]))]) sz) (X ++ [(a, .inr (5, [.ref t, .int n, .ref g, .ref b, .int 0, .int 0, .int 0, .int 0, .int 0])), (b, .inl (ca 0, 3, .inl (fun _ => 0)))])) (va_A (X ++ [(a, .inr (5, [.null, .int 0, .null, .null, .int 0, .int 0, .int 0, .int 0, .int 0]))]) sz)) 1 3 (va_A (X ++ [(a, .inr (5, [.null, .int 0, .null, .null, .int 0, .int 0, .int 0, .int 0, .int 0]))]) sz) := by
  refine Met.ofW (cc := cX5_init) (maxL := 4) (ret := none) (by decide +kernel) rfl ?_
  intro p e s m args below meth c s₁ B hml hv
  obtain ⟨rfl, hsz, hP, hK, hD0⟩ := hv
  have hx := B.exec
  have hb := B.bytes
  have hr := B.returns
  have hlocks := B.notSynchronized
  have hts : ∀ w ∈ ALL, w.before _ s = true := fun w hw => atoms_spec (ws := wsy yX5_init cX5_init 4 none) B.pre w (List.mem_cons_of_mem _ hw)
  have hown : s.vm.findClass RX5 = some m.cls := findClass_of_methodNamed B.named
  have hin2 : meth.name = "<init>" := (name_of_methodNamed B.named B.method).1
  have C : CX p s m _ c cX5_init RX5 4 D ca (fun _ => True) := ⟨hx, hb, hml, hown, hts, hK, trivial⟩
  subst hsz
  have hD := hD0.self (sz := s.heap.size)
  generalize hAe : va_A (X ++ [(a, .inr (5, [.null, .int 0, .null, .null, .int 0, .int 0, .int 0, .int 0, .int 0]))]) s.heap.size = A at hD ⊢
  have hA : ∀ q : Nat, s.heap.size ≤ q → A q := fun q h => by rw [← hAe]; exact Or.inr h
  have hS : va_S A s.heap s.heap [] := va_S.rf
  have hl := lv_entry ([.ref a, .ref t, .int n, .ref g]) (n := 4) (Nat.le_of_ble_eq_true rfl)
  rw [lg_entry_eq]
  generalize (lg_sl ([.ref a, .ref t, .int n, .ref g]) ++ List.replicate (4 - (lg_sl ([.ref a, .ref t, .int n, .ref g])).length) Slot.unset).toArray = ls at hl ⊢
  have hl : lv_has ls 4 [(0, .ref a), (1, .ref t), (2, .int n), (3, .ref g)] := hl
  show W p l e ({ frames := 1, cells := 1, slots := 3, locals := 52 } : Room) s m _ below meth c s.heap [] 0 0 _ _
  refine lv_aload_n hx hb dX5_init_0 rfl (lv_at hl 0 rfl) ?_
  refine W.objInit hx hb hown (hts _ ml_X5_3) (hts _ im_objectInit) (hts _ cd_objectInit) rfl (by rw [hml]; exact hl.1) rfl dX5_init_1 (Nat.le_of_ble_eq_true rfl) (Nat.le_of_ble_eq_true rfl) ?_
  refine W.eq (g2 := F0 m 4 ls []) rfl ?_
  refine lv_aload_n hx hb dX5_init_4 rfl (lv_at hl 0 rfl) ?_
  refine lv_iconst (v := (3 : Int32)) hx hb dX5_init_5 (by decide) ?_
  refine rn_arr (ty := .int) (t0 := 0) (q0 := 0) (N' := 3) (a0 := (3, .inl (fun _ => 0))) C rfl rfl (fun cA h1 h2 => Option.some.inj (h1.symm.trans h2)) ac__int hP hD hS hA (fun _ => rfl) (by decide +kernel) (by decide +kernel) (Nat.le_of_ble_eq_true rfl) (Nat.le_of_ble_eq_true rfl) (Nat.le_of_ble_eq_true rfl) dX5_init_6 (fun q1 H hP hD hS => ?_)
  have hP : va_P D vwCl (X ++ [(a, .inr (5, [.null, .int 0, .null, .null, .int 0, .int 0, .int 0, .int 0, .int 0])), (q1, .inl (ca 0, 3, .inl (fun _ => 0)))]) H := hP
  have hD : va_D A (X ++ [(a, .inr (5, [.null, .int 0, .null, .null, .int 0, .int 0, .int 0, .int 0, .int 0])), (q1, .inl (ca 0, 3, .inl (fun _ => 0)))]) := hD
  refine rn_putF (ci := 5) (j := 0) (k := 3) (T := TX5) (Nf := 9) (ty0 := tyX5) (v := .ref q1) (fs := [.null, .int 0, .null, .null, .int 0, .int 0, .int 0, .int 0, .int 0]) C in_wsX50 tyX5_ok nmX5 hP hD hS rfl rfl (Nat.le_of_ble_eq_true rfl) (Nat.le_of_ble_eq_true rfl) rfl hin2 rfl rfl rfl lk_X5_9 dX5_init_8 (fun H locs hP hD hS => ?_)
  have hP : va_P D vwCl (X ++ [(a, .inr (5, [.null, .int 0, .null, .ref q1, .int 0, .int 0, .int 0, .int 0, .int 0])), (q1, .inl (ca 0, 3, .inl (fun _ => 0)))]) H := hP
  have hD : va_D A (X ++ [(a, .inr (5, [.null, .int 0, .null, .ref q1, .int 0, .int 0, .int 0, .int 0, .int 0])), (q1, .inl (ca 0, 3, .inl (fun _ => 0)))]) := hD
  refine lv_aload_n hx hb dX5_init_11 rfl (lv_at hl 0 rfl) ?_
  refine lv_aload_n hx hb dX5_init_12 rfl (lv_at hl 1 rfl) ?_
  refine rn_putF (ci := 5) (j := 0) (k := 0) (T := TX5) (Nf := 9) (ty0 := tyX5) (v := .ref t) (fs := [.null, .int 0, .null, .ref q1, .int 0, .int 0, .int 0, .int 0, .int 0]) C in_wsX50 tyX5_ok nmX5 hP hD hS rfl rfl (Nat.le_of_ble_eq_true rfl) (Nat.le_of_ble_eq_true rfl) rfl hin2 rfl rfl rfl lk_X5_15 dX5_init_13 (fun H locs hP hD hS => ?_)
  have hP : va_P D vwCl (X ++ [(a, .inr (5, [.ref t, .int 0, .null, .ref q1, .int 0, .int 0, .int 0, .int 0, .int 0])), (q1, .inl (ca 0, 3, .inl (fun _ => 0)))]) H := hP
  have hD : va_D A (X ++ [(a, .inr (5, [.ref t, .int 0, .null, .ref q1, .int 0, .int 0, .int 0, .int 0, .int 0])), (q1, .inl (ca 0, 3, .inl (fun _ => 0)))]) := hD
  refine lv_aload_n hx hb dX5_init_16 rfl (lv_at hl 0 rfl) ?_
  refine lv_iload_n hx hb dX5_init_17 rfl (lv_at hl 2 rfl) ?_
  refine rn_putF (ci := 5) (j := 0) (k := 1) (T := TX5) (Nf := 9) (ty0 := tyX5) (v := .int n) (fs := [.ref t, .int 0, .null, .ref q1, .int 0, .int 0, .int 0, .int 0, .int 0]) C in_wsX50 tyX5_ok nmX5 hP hD hS rfl rfl (Nat.le_of_ble_eq_true rfl) (Nat.le_of_ble_eq_true rfl) rfl hin2 rfl rfl rfl lk_X5_19 dX5_init_18 (fun H locs hP hD hS => ?_)
  have hP : va_P D vwCl (X ++ [(a, .inr (5, [.ref t, .int n, .null, .ref q1, .int 0, .int 0, .int 0, .int 0, .int 0])), (q1, .inl (ca 0, 3, .inl (fun _ => 0)))]) H := hP
  have hD : va_D A (X ++ [(a, .inr (5, [.ref t, .int n, .null, .ref q1, .int 0, .int 0, .int 0, .int 0, .int 0])), (q1, .inl (ca 0, 3, .inl (fun _ => 0)))]) := hD
  refine lv_aload_n hx hb dX5_init_21 rfl (lv_at hl 0 rfl) ?_
  refine lv_aload_n hx hb dX5_init_22 rfl (lv_at hl 3 rfl) ?_
  refine rn_putF (ci := 5) (j := 0) (k := 2) (T := TX5) (Nf := 9) (ty0 := tyX5) (v := .ref g) (fs := [.ref t, .int n, .null, .ref q1, .int 0, .int 0, .int 0, .int 0, .int 0]) C in_wsX50 tyX5_ok nmX5 hP hD hS rfl rfl (Nat.le_of_ble_eq_true rfl) (Nat.le_of_ble_eq_true rfl) rfl hin2 rfl rfl rfl lk_X5_23 dX5_init_23 (fun H locs hP hD hS => ?_)
  have hP : va_P D vwCl (X ++ [(a, .inr (5, [.ref t, .int n, .ref g, .ref q1, .int 0, .int 0, .int 0, .int 0, .int 0])), (q1, .inl (ca 0, 3, .inl (fun _ => 0)))]) H := hP
  have hD : va_D A (X ++ [(a, .inr (5, [.ref t, .int n, .ref g, .ref q1, .int 0, .int 0, .int 0, .int 0, .int 0])), (q1, .inl (ca 0, 3, .inl (fun _ => 0)))]) := hD
  refine W.widen (k := 1) (n := 3) (Nat.le_of_ble_eq_true rfl) (Nat.le_of_ble_eq_true rfl) ?_
  exact W.vret hx hb hr (fun t ht hW => ⟨⟨q1, rfl, trivial, by rw [ht]; exact hP, va_K.moved hW.alike hK, hD⟩, hS.F ht⟩) hS.2.2 dX5_init_26 (hlocks := hlocks)
section TXT
variable {p : Program} {l : Launch} {e : Env} {R : Room} {s : State} {m : MethodId} {args : Array Value} {below : List Frame} {meth : Method} {c : Code} {H : Heap} {locs : List Loc} {cells slots : Nat} {Q : State → Prop}
variable {cc : ByteArray} {pc : Nat} {ls : Array Slot} {rest : List Value} {own : String} {nL : Nat} {D : va_G} {ca : Nat → ClassId} {ad : Nat → Nat → Nat} {PL : List (Nat × Nat)} {A : Nat → Prop} {Z : State → Prop} {H0 : Heap} {w : Mem}

theorem kr_iT {ad0 : Nat → Nat → Nat} {PL0 : List (Nat × Nat)} {A0 : Nat → Prop} {w' : Mem} {v r : Int32} (hbk : ∀ H, va_P D vwCl (wl ad PL (ent ca ad w)) H → va_P D vwCl (wl ad0 PL0 (ent ca ad0 w)) H) (hAA : ∀ q, q < s.heap.size → A q → A0 q) (hz : stb A Z) (C : CX p s m args c cc own nL D ca Z) (hlocks : meth.locks = false) (hr : meth.sig.returnType = some .int) (hP : va_P D vwCl (wl ad PL (ent ca ad w)) H) (hS : va_S A s.heap H locs) (hw : w = w') (hv : v = r) (hdg : decode cc pc = .ok (.ireturn, 1)) :
    W p l e R s m args below meth c H locs cells slots (MQ below (qcR D ca ad0 PL0 Z A0 w' (some (.int r))) args s cells slots A) (F0 m pc ls [.int v]) := by
  subst hw; subst hv
  exact W.zret C.1 C.2.1 hr rfl (fun t ht hW => ⟨⟨rfl, by rw [ht]; exact hbk _ hP, va_K.moved hW.alike C.2.2.2.2.2.1, hz.2 s t C.2.2.2.2.2.2 hW (fun q9 h1 h2 => by rw [ht]; exact hS.2.1 q9 h1 h2) (by rw [ht]; exact hS.1)⟩, ⟨by rw [ht]; exact hS.1, fun q h1 h2 => by rw [ht]; exact hS.2.1 q h1 (fun z => h2 (hAA q h1 z))⟩⟩) hS.2.2 hdg (hlocks := hlocks)
/-- new Reader(tape, n, facts fid) -/
theorem kn_read {n : Int32} {fid q idx2 : Nat} (C : CX p s m args c cc own nL D ca Z) (hsz : ls.size = nL) (hnew : ∀ p ∈ PL, ¬ p.1 = 5 ∧ ¬ p.1 = 29) (hRD : RD A ad PL) (hlk : Cond.methodLink own idx2 yX5_init ∈ ALL)
    (hP : va_P D vwCl (wl ad PL (ent ca ad w) ++ [(q, .inr (5, [.null, .int 0, .null, .null, .int 0, .int 0, .int 0, .int 0, .int 0]))]) H) (hD : va_D A (wl ad PL (ent ca ad w) ++ [(q, .inr (5, [.null, .int 0, .null, .null, .int 0, .int 0, .int 0, .int 0, .int 0]))])) (hS : va_S A H0 H locs) (hA : ∀ q, H0.size ≤ q → A q) (hcells : cells + 1 ≤ R.cells) (hslots : slots + 3 ≤ R.slots) (hrm : 2 ≤ R.frames ∧ 75 ≤ R.locals) (hW : ((rest).map fun v => v.category).sum ≤ 8) (hdg : decode cc pc = .ok (.invokespecial idx2, 3))
    (kk : ∀ (b : Nat) (H1 : Heap) (locs1 : List Loc), RD A (adR ad q b) (PL ++ [(5, 0), (29, 0)]) → va_P D vwCl (wl (adR ad q b) (PL ++ [(5, 0), (29, 0)]) (ent ca (adR ad q b) (rdMem w n fid))) H1 → va_S A H0 H1 locs1 → W p l e R s m args below meth c H1 locs1 (cells + 1) (slots + 3) Q (F0 m (pc + 3) ls rest)) : W p l e R s m args below meth c H locs cells slots Q (F0 m pc ls (.ref (ad 1 fid) :: .int n :: .ref (ad 6 0) :: .ref q :: rest)) := by
  obtain ⟨hx, hb, hml, hown, hts, hK, -⟩ := C
  have hGd : GoodIn ALL (wsy yX5_init cX5_init 4 none) := by
    intro w h
    have hm : w ∈ ALL := by
      rcases List.mem_cons.mp h with rfl | h
      · exact cd_X5_init
      · exact h
    exact ⟨hm, ALL_gd w hm⟩
  have hfr : ∀ z, va_A (wl ad PL (ent ca ad w) ++ [(q, .inr (5, [.null, .int 0, .null, .null, .int 0, .int 0, .int 0, .int 0, .int 0]))]) H.size z → A z := fun z h => h.elim (fun ⟨i, x, h⟩ => hD.2 i (z, x) h) (fun h => hA z (Nat.le_trans hS.1 h))
  refine va_callv (va_runI (As := [.ref (ad 6 0), .int n, .ref (ad 1 fid)]) (rest := rest) ⟨hx, hb, hml, hown, hts⟩ (i_X5 l D ca (wl ad PL (ent ca ad w)) q H.size (ad 6 0) (ad 1 fid) n) (cwI 3 hts hGd rfl rfl rfl (hts _ ini_X5) (hts _ hlk) (hts _ im_X5_init) rfl (by decide +kernel) ⟨by show 1 + 1 ≤ _; omega, by show 8 + (4 + 11) + 52 ≤ _; omega⟩)
    ⟨fun a U g mk z => ⟨z.1, z.2.1, z.2.2.1, va_K.moved (u := U) (U := U.calling g mk a) (Vm.Alike.refl U.vm) z.2.2.2.1, z.2.2.2.2⟩, fun U hU hWm => ⟨rfl, by rw [hU], by rw [hU]; exact hP, va_K.moved hWm.alike hK, hD.1, fun _ _ _ => trivial⟩⟩ rfl rfl hsz rfl (by simpa [JFrame.monitorRoom] using hW) hdg ⟨hcells, hslots⟩) hS (fun z _ h => hfr z h) hfr (fun b t H2 locs1 ht hvm hw hB hz hk hS => ?_)
  obtain ⟨hP2, -, hD2⟩ := hB
  rw [ht] at hP2
  have hD3 := hD2.weaken (fun i x _ h => hfr _ h)
  rw [wl_rd hnew] at hP2 hD3
  refine kk b H2 locs1 ⟨?_, ?_, ?_⟩ hP2 hS
  · refine List.nodup_append.mpr ⟨hRD.1, by decide, fun x hx y hy hxy => ?_⟩
    subst hxy
    have h9 := hnew x hx
    simp at hy
    rcases hy with rfl | rfl
    · exact h9.1 rfl
    · exact h9.2 rfl
  · intro x hx y hy hxy
    obtain ⟨i, hi⟩ := List.getElem?_of_mem hx
    obtain ⟨j, hj⟩ := List.getElem?_of_mem hy
    have h1 := wl_get (ad := adR ad q b) (ent ca (adR ad q b) (rdMem w n fid)) hi
    have h2 := wl_get (ad := adR ad q b) (ent ca (adR ad q b) (rdMem w n fid)) hj
    have h3 := hD3.1 i j _ _ h1 h2 hxy
    subst h3
    exact Option.some.inj (hi.symm.trans hj)
  · intro x hx
    obtain ⟨i, hi⟩ := List.getElem?_of_mem hx
    have h1 := wl_get (ad := adR ad q b) (ent ca (adR ad q b) (rdMem w n fid)) hi
    exact hD3.2 i _ h1
theorem ok_rd {ad' : Nat → Nat → Nat} (h : okc bX Z A ad PL) (h2 : RD A ad' (PL ++ [(5, 0), (29, 0)])) : okc bR Z A ad' (PL ++ [(5, 0), (29, 0)]) := by
  refine ⟨h2, fun k i hi => ?_, h.2.2.1, trivial⟩
  by_cases h5 : k = 5
  · subst h5
    have : i = 0 := Nat.lt_one_iff.mp hi
    subst this; simp
  · by_cases h29 : k = 29
    · subst h29
      have : i = 0 := Nat.lt_one_iff.mp hi
      subst this; simp
    · refine List.mem_append_left _ (h.2.1 k i ?_)
      revert hi h5 h29; unfold bX bR
      split <;> intro h1 h2 h3 <;> first | exact h1 | exact h2 | exact h3 | exact absurd rfl h1 | exact absurd rfl h2 | exact absurd rfl h3 | exact absurd (by assumption : i < 0) (Nat.not_lt_zero _)
end TXT
def f_X8_text (N : Nat) (w : Mem) (x1 : Int32) : Option (Mem × Int32) :=
  (if x1 < (0 : Int32) then
(Option.bind (f_X8_refuse N w (2 : Int32)) (fun z1 => some (z1.1, z1.2)))
else
(if x1 ≤ (gF w 6 1 0) then
(if (gR w 8 6 0) < 2 then (Option.bind (f_X5_readText N (rdMem w x1 (gR w 8 6 0)) ) (fun z4 => (if z4.2 = (0 : Int32) then
(Option.bind (f_X8_refuse N (sF (sF z4.1 6 1 0 (0 : Int32)) 8 8 0 (gF (sF z4.1 6 1 0 (0 : Int32)) 5 4 0)) (4 : Int32)) (fun z11 => some ((sF z11.1 8 9 0 (gF z11.1 5 5 0)), (-1 : Int32))))
else
(if (gR (sF (sF z4.1 6 1 0 (0 : Int32)) 8 8 0 (gF (sF z4.1 6 1 0 (0 : Int32)) 5 4 0)) 8 5 0) < 2 then (if (gR (sF (sF z4.1 6 1 0 (0 : Int32)) 8 8 0 (gF (sF z4.1 6 1 0 (0 : Int32)) 5 4 0)) 8 6 0) < 2 then (if (gR (sF (sR (sR (sF (sF z4.1 6 1 0 (0 : Int32)) 8 8 0 (gF (sF z4.1 6 1 0 (0 : Int32)) 5 4 0)) 8 5 0 (gR (sF (sF z4.1 6 1 0 (0 : Int32)) 8 8 0 (gF (sF z4.1 6 1 0 (0 : Int32)) 5 4 0)) 8 6 0)) 8 6 0 (gR (sF (sF z4.1 6 1 0 (0 : Int32)) 8 8 0 (gF (sF z4.1 6 1 0 (0 : Int32)) 5 4 0)) 8 5 0)) 0 4 0 (0 : Int32)) 8 5 0) < 2 then (Option.bind (f_X8_answer N (sF (sR (sR (sF (sF z4.1 6 1 0 (0 : Int32)) 8 8 0 (gF (sF z4.1 6 1 0 (0 : Int32)) 5 4 0)) 8 5 0 (gR (sF (sF z4.1 6 1 0 (0 : Int32)) 8 8 0 (gF (sF z4.1 6 1 0 (0 : Int32)) 5 4 0)) 8 6 0)) 8 6 0 (gR (sF (sF z4.1 6 1 0 (0 : Int32)) 8 8 0 (gF (sF z4.1 6 1 0 (0 : Int32)) 5 4 0)) 8 5 0)) 0 4 0 (0 : Int32)) (gF (sF (sR (sR (sF (sF z4.1 6 1 0 (0 : Int32)) 8 8 0 (gF (sF z4.1 6 1 0 (0 : Int32)) 5 4 0)) 8 5 0 (gR (sF (sF z4.1 6 1 0 (0 : Int32)) 8 8 0 (gF (sF z4.1 6 1 0 (0 : Int32)) 5 4 0)) 8 6 0)) 8 6 0 (gR (sF (sF z4.1 6 1 0 (0 : Int32)) 8 8 0 (gF (sF z4.1 6 1 0 (0 : Int32)) 5 4 0)) 8 5 0)) 0 4 0 (0 : Int32)) 7 10 (gR (sF (sR (sR (sF (sF z4.1 6 1 0 (0 : Int32)) 8 8 0 (gF (sF z4.1 6 1 0 (0 : Int32)) 5 4 0)) 8 5 0 (gR (sF (sF z4.1 6 1 0 (0 : Int32)) 8 8 0 (gF (sF z4.1 6 1 0 (0 : Int32)) 5 4 0)) 8 6 0)) 8 6 0 (gR (sF (sF z4.1 6 1 0 (0 : Int32)) 8 8 0 (gF (sF z4.1 6 1 0 (0 : Int32)) 5 4 0)) 8 5 0)) 0 4 0 (0 : Int32)) 8 5 0))) (fun z9 => some (z9.1, z9.2))) else none) else none) else none)))) else none)
else
(Option.bind (f_X8_refuse N w (2 : Int32)) (fun z14 => some (z14.1, z14.2)))))
set_option maxRecDepth 100000 in
set_option maxHeartbeats 4000000 in
theorem c_X8_text (l : Launch) (D : va_G) (ca : Nat → ClassId) (ad : Nat → Nat → Nat) (PL : List (Nat × Nat)) (Z : State → Prop) (A0 : Nat → Prop) (sz : Nat) (hok : okc bX Z (fun q => A0 q ∨ sz ≤ q) ad PL) (hnew : ∀ p ∈ PL, ¬ p.1 = 5 ∧ ¬ p.1 = 29) (N : Nat) (w : Mem) (x1 : Int32) (w' : Mem) (r : Int32) (hf : f_X8_text N w x1 = some (w', r)) : Met l yX8_text (wsy yX8_text cX8_text 5 (some .int)) ({ frames := 7, cells := 2, slots := 12, locals := 340 } : Room) (va_Pc [.ref (ad 8 0), .int x1] (fun U => U.heap.size = sz ∧ RX D ca ad PL Z w U)) (qcR D ca ad PL Z A0 w' (some (.int r))) 2 12 (fun q => A0 q ∨ sz ≤ q) := by
  refine Met.ofW (cc := cX8_text) (maxL := 5) (ret := some .int) (by decide +kernel) rfl ?_
  intro p e s m args below meth c s₁ B hml hv
  obtain ⟨rfl, hsz, hP, hK, hZ⟩ := hv
  have hx := B.exec
  have hb := B.bytes
  have hr := B.returns
  have hlocks := B.notSynchronized
  have hts : ∀ w ∈ ALL, w.before _ s = true := fun w hw => atoms_spec (ws := wsy yX8_text cX8_text 5 (some .int)) B.pre w (List.mem_cons_of_mem _ hw)
  have hown : s.vm.findClass RX8 = some m.cls := findClass_of_methodNamed B.named
  have C : CX p s m _ c cX8_text RX8 5 D ca Z := ⟨hx, hb, hml, hown, hts, hK, hZ⟩
  subst hsz
  generalize hAe : (fun q => A0 q ∨ s.heap.size ≤ q) = A at hok ⊢
  have hAA : ∀ q, s.heap.size ≤ q → A q := by rw [← hAe]; exact fun q h => Or.inr h
  have hAA2 : ∀ q, q < s.heap.size → A q → A0 q := by rw [← hAe]; exact fun q h z => z.elim id (fun z => absurd h (Nat.not_lt.mpr z))
  have hS : va_S A s.heap s.heap [] := va_S.rf
  have hl := lv_entry ([.ref (ad 8 0), .int x1]) (n := 5) (Nat.le_of_ble_eq_true rfl)
  rw [lg_entry_eq]
  generalize (lg_sl ([.ref (ad 8 0), .int x1]) ++ List.replicate (5 - (lg_sl ([.ref (ad 8 0), .int x1])).length) Slot.unset).toArray = ls at hl ⊢
  have hl : lv_has ls 5 [(0, .ref (ad 8 0)), (1, .int x1)] := hl
  show W p l e ({ frames := 7, cells := 2, slots := 12, locals := 340 } : Room) s m _ below meth c s.heap [] 0 0 _ _
  unfold f_X8_text at hf
  refine lv_iload_n hx hb dX8_text_0 rfl (lv_at hl 1 rfl) ?_
  refine lv_if_lt (tgt := 15) hx hb dX8_text_1 (by decide) (fun c17 => ?_) (fun c17 => ?_)
  · have hf := ifp hf c17
    refine lv_aload_n hx hb dX8_text_15 rfl (lv_at hl 0 rfl) ?_
    refine lv_iconst (v := (2 : Int32)) hx hb dX8_text_16 (by decide) ?_
    obtain ⟨z1, q2, hf⟩ := bsp hf
    refine kc_V (ci := 8) (i := 0) (As := [.int (2 : Int32)]) (rest := []) hok.2.2.1 C hP hS hl.1 (hok.2.1 8 0 (Nat.le_of_ble_eq_true rfl)) rfl rfl cw_X8_refuse ml_X8_61 (c_X8_refuse l D ca ad PL Z A hok N w (2 : Int32) z1.1 z1.2 q2) rfl ⟨rfl, rfl⟩ ⟨Nat.le_of_ble_eq_true rfl, Nat.le_of_ble_eq_true rfl⟩ ⟨Nat.le_of_ble_eq_true rfl, Nat.le_of_ble_eq_true rfl⟩ (Nat.le_of_ble_eq_true rfl) rfl dX8_text_17 (fun H locs hP hS => ?_)
    refine W.widen (k := 2) (n := 12) (Nat.le_of_ble_eq_true rfl) (Nat.le_of_ble_eq_true rfl) ?_
    exact kr_iT (fun _ h => h) hAA2 hok.2.2.1 C hlocks hr hP hS (congrArg Prod.fst (Option.some.inj hf)) (congrArg Prod.snd (Option.some.inj hf)) dX8_text_20
  · have hf := ifn hf c17
    refine lv_iload_n hx hb dX8_text_4 rfl (lv_at hl 1 rfl) ?_
    refine lv_aload_n hx hb dX8_text_5 rfl (lv_at hl 0 rfl) ?_
    refine gt_8_0 (i := 0) C hP (hok.2.1 8 0 (Nat.le_of_ble_eq_true rfl)) lk_X8_12 dX8_text_6 ?_
    refine gt_6_1 (i := 0) C hP (hok.2.1 6 0 (Nat.le_of_ble_eq_true rfl)) lk_X8_54 dX8_text_9 ?_
    refine lv_icmp_le (tgt := 21) hx hb dX8_text_12 (by decide) (fun c16 => ?_) (fun c16 => ?_)
    · have hf := ifp hf c16
      refine va_new (C := RX5) (T := TX5) (N := 9) (ci := 5) (fs := [.null, .int 0, .null, .null, .int 0, .int 0, .int 0, .int 0, .int 0]) hx hb hts in_wsX50 tyX5 tyX5_ok hown (hts _ cl_X8_65) (hts _ it_X5) (hts _ ini_X5) hK hP (wl_D _ hok.1) hS hAA rfl (fun j hj => by rcases (show j = 0 ∨ j = 1 ∨ j = 2 ∨ j = 3 ∨ j = 4 ∨ j = 5 ∨ j = 6 ∨ j = 7 ∨ j = 8 by omega) with rfl | rfl | rfl | rfl | rfl | rfl | rfl | rfl | rfl <;> rfl) (Nat.le_of_ble_eq_true rfl) (Nat.le_of_ble_eq_true rfl) dX8_text_21 (fun q H hPn hDn hS => ?_)
      have hP := vaP_left hPn
      refine lv_dup hx hb dX8_text_24 rfl ?_
      refine lv_aload_n hx hb dX8_text_25 rfl (lv_at hl 0 rfl) ?_
      refine gt_8_0 (i := 0) C hP (hok.2.1 8 0 (Nat.le_of_ble_eq_true rfl)) lk_X8_12 dX8_text_26 ?_
      refine lv_iload_n hx hb dX8_text_29 rfl (lv_at hl 1 rfl) ?_
      refine lv_aload_n hx hb dX8_text_30 rfl (lv_at hl 0 rfl) ?_
      obtain ⟨g3, hf⟩ := gsp hf
      refine gt_8_6 (i := 0) C hP (hok.2.1 8 0 (Nat.le_of_ble_eq_true rfl)) lk_X8_47 dX8_text_31 ?_
      refine kn_read (n := x1) (fid := (gR w 8 6 0)) C hl.1 hnew hok.1 ml_X8_67 hPn hDn hS hAA (Nat.le_of_ble_eq_true rfl) (Nat.le_of_ble_eq_true rfl) ⟨Nat.le_of_ble_eq_true rfl, Nat.le_of_ble_eq_true rfl⟩ (Nat.le_of_ble_eq_true rfl) dX8_text_34 (fun b H locs hRD hP hS => ?_)
      have hok := ok_rd hok hRD
      have hbk : ∀ w H, va_P D vwCl (wl (adR ad q b) (PL ++ [(5, 0), (29, 0)]) (ent ca (adR ad q b) w)) H → va_P D vwCl (wl ad PL (ent ca ad w)) H := fun w H h => wl_bk hnew h
      have e8 : ad 8 0 = adR ad q b 8 0 := rfl
      rw [e8] at hl
      show W p l e _ s m _ below meth c H locs _ _ _ (F0 m (34 + 3) ls [.ref (adR ad q b 5 0)])
      clear e8 hRD hPn hDn
      generalize adR ad q b = ad2 at hP hbk hok hl ⊢
      generalize PL ++ [(5, 0), (29, 0)] = PL2 at hP hbk hok
      refine lv_astore_n (lv' := [(2, .ref (ad2 5 0)), (0, .ref (ad2 8 0)), (1, .int x1)]) hx hb dX8_text_37 rfl hl (by decide) rfl (fun ls hl => ?_)
      refine lv_aload_n hx hb dX8_text_38 rfl (lv_at hl 0 rfl) ?_
      obtain ⟨z4, q5, hf⟩ := bsp hf
      refine kc_V (ci := 5) (i := 0) (As := []) (rest := []) hok.2.2.1 C hP hS hl.1 (hok.2.1 5 0 (Nat.le_of_ble_eq_true rfl)) rfl rfl cw_X5_readText ml_X8_70 (c_X5_readText l D ca ad2 PL2 Z A hok N (rdMem w x1 (gR w 8 6 0))  z4.1 z4.2 q5) rfl ⟨rfl, rfl⟩ ⟨Nat.le_of_ble_eq_true rfl, Nat.le_of_ble_eq_true rfl⟩ ⟨Nat.le_of_ble_eq_true rfl, Nat.le_of_ble_eq_true rfl⟩ (Nat.le_of_ble_eq_true rfl) rfl dX8_text_39 (fun H locs hP hS => ?_)
      refine lv_istore_n (lv' := [(3, .int z4.2), (2, .ref (ad2 5 0)), (0, .ref (ad2 8 0)), (1, .int x1)]) hx hb dX8_text_42 rfl hl (by decide) rfl (fun ls hl => ?_)
      refine lv_aload_n hx hb dX8_text_43 rfl (lv_at hl 2 rfl) ?_
      refine gt_8_0 (i := 0) C hP (hok.2.1 8 0 (Nat.le_of_ble_eq_true rfl)) lk_X8_12 dX8_text_44 ?_
      refine lv_iconst (v := (0 : Int32)) hx hb dX8_text_47 (by decide) ?_
      refine pt_6_1 (i := 0) (v := (0 : Int32)) C hok.1 hP hS (hok.2.1 6 0 (Nat.le_of_ble_eq_true rfl)) lk_X8_54 dX8_text_48 (fun H locs hP hS => ?_)
      refine lv_aload_n hx hb dX8_text_51 rfl (lv_at hl 2 rfl) ?_
      refine lv_aload_n hx hb dX8_text_52 rfl (lv_at hl 1 rfl) ?_
      refine gt_5_4 (i := 0) C hP (hok.2.1 5 0 (Nat.le_of_ble_eq_true rfl)) lk_X8_74 dX8_text_53 ?_
      refine pt_8_8 (i := 0) (v := (gF (sF z4.1 6 1 0 (0 : Int32)) 5 4 0)) C hok.1 hP hS (hok.2.1 8 0 (Nat.le_of_ble_eq_true rfl)) lk_X8_77 dX8_text_56 (fun H locs hP hS => ?_)
      refine lv_iload_n hx hb dX8_text_59 rfl (lv_at hl 0 rfl) ?_
      refine lv_if_ne (tgt := 79) hx hb dX8_text_60 (by decide) (fun c13 => ?_) (fun c13 => ?_)
      · have hf := ifn hf c13
        refine lv_aload_n hx hb dX8_text_79 rfl (lv_at hl 2 rfl) ?_
        obtain ⟨g6, hf⟩ := gsp hf
        refine gt_8_5 (i := 0) C hP (hok.2.1 8 0 (Nat.le_of_ble_eq_true rfl)) lk_X8_43 dX8_text_80 ?_
        refine lv_astore (lv' := [(4, .ref (ad2 1 (gR (sF (sF z4.1 6 1 0 (0 : Int32)) 8 8 0 (gF (sF z4.1 6 1 0 (0 : Int32)) 5 4 0)) 8 5 0))), (3, .int z4.2), (2, .ref (ad2 5 0)), (0, .ref (ad2 8 0)), (1, .int x1)]) hx hb dX8_text_83 hl (by decide) rfl (fun ls hl => ?_)
        refine lv_aload_n hx hb dX8_text_85 rfl (lv_at hl 3 rfl) ?_
        refine lv_aload_n hx hb dX8_text_86 rfl (lv_at hl 3 rfl) ?_
        obtain ⟨g7, hf⟩ := gsp hf
        refine gt_8_6 (i := 0) C hP (hok.2.1 8 0 (Nat.le_of_ble_eq_true rfl)) lk_X8_47 dX8_text_87 ?_
        refine pt_8_5 (i := 0) (fid := (gR (sF (sF z4.1 6 1 0 (0 : Int32)) 8 8 0 (gF (sF z4.1 6 1 0 (0 : Int32)) 5 4 0)) 8 6 0)) C hok.1 hP hS (hok.2.1 8 0 (Nat.le_of_ble_eq_true rfl)) lk_X8_43 dX8_text_90 (fun H locs hP hS => ?_)
        refine lv_aload_n hx hb dX8_text_93 rfl (lv_at hl 3 rfl) ?_
        refine lv_aload hx hb dX8_text_94 (lv_at hl 0 rfl) ?_
        refine pt_8_6 (i := 0) (fid := (gR (sF (sF z4.1 6 1 0 (0 : Int32)) 8 8 0 (gF (sF z4.1 6 1 0 (0 : Int32)) 5 4 0)) 8 5 0)) C hok.1 hP hS (hok.2.1 8 0 (Nat.le_of_ble_eq_true rfl)) lk_X8_47 dX8_text_96 (fun H locs hP hS => ?_)
        refine lv_aload_n hx hb dX8_text_99 rfl (lv_at hl 3 rfl) ?_
        refine gt_8_1 (i := 0) C hP (hok.2.1 8 0 (Nat.le_of_ble_eq_true rfl)) lk_X8_19 dX8_text_100 ?_
        refine lv_iconst (v := (0 : Int32)) hx hb dX8_text_103 (by decide) ?_
        refine pt_0_4 (i := 0) (v := (0 : Int32)) C hok.1 hP hS (hok.2.1 0 0 (Nat.le_of_ble_eq_true rfl)) (Or.inl rfl) lk_X8_83 dX8_text_104 (fun H locs hP hS => ?_)
        refine lv_aload_n hx hb dX8_text_107 rfl (lv_at hl 3 rfl) ?_
        refine lv_aload_n hx hb dX8_text_108 rfl (lv_at hl 3 rfl) ?_
        obtain ⟨g8, hf⟩ := gsp hf
        refine gt_8_5 (i := 0) C hP (hok.2.1 8 0 (Nat.le_of_ble_eq_true rfl)) lk_X8_43 dX8_text_109 ?_
        refine gt_1_0 (i := (gR (sF (sR (sR (sF (sF z4.1 6 1 0 (0 : Int32)) 8 8 0 (gF (sF z4.1 6 1 0 (0 : Int32)) 5 4 0)) 8 5 0 (gR (sF (sF z4.1 6 1 0 (0 : Int32)) 8 8 0 (gF (sF z4.1 6 1 0 (0 : Int32)) 5 4 0)) 8 6 0)) 8 6 0 (gR (sF (sF z4.1 6 1 0 (0 : Int32)) 8 8 0 (gF (sF z4.1 6 1 0 (0 : Int32)) 5 4 0)) 8 5 0)) 0 4 0 (0 : Int32)) 8 5 0)) C hP (hok.2.1 1 (gR (sF (sR (sR (sF (sF z4.1 6 1 0 (0 : Int32)) 8 8 0 (gF (sF z4.1 6 1 0 (0 : Int32)) 5 4 0)) 8 5 0 (gR (sF (sF z4.1 6 1 0 (0 : Int32)) 8 8 0 (gF (sF z4.1 6 1 0 (0 : Int32)) 5 4 0)) 8 6 0)) 8 6 0 (gR (sF (sF z4.1 6 1 0 (0 : Int32)) 8 8 0 (gF (sF z4.1 6 1 0 (0 : Int32)) 5 4 0)) 8 5 0)) 0 4 0 (0 : Int32)) 8 5 0) g8) lk_X8_87 dX8_text_112 ?_
        refine gt_7_10 (i := (gR (sF (sR (sR (sF (sF z4.1 6 1 0 (0 : Int32)) 8 8 0 (gF (sF z4.1 6 1 0 (0 : Int32)) 5 4 0)) 8 5 0 (gR (sF (sF z4.1 6 1 0 (0 : Int32)) 8 8 0 (gF (sF z4.1 6 1 0 (0 : Int32)) 5 4 0)) 8 6 0)) 8 6 0 (gR (sF (sF z4.1 6 1 0 (0 : Int32)) 8 8 0 (gF (sF z4.1 6 1 0 (0 : Int32)) 5 4 0)) 8 5 0)) 0 4 0 (0 : Int32)) 8 5 0)) C hP (hok.2.1 7 (gR (sF (sR (sR (sF (sF z4.1 6 1 0 (0 : Int32)) 8 8 0 (gF (sF z4.1 6 1 0 (0 : Int32)) 5 4 0)) 8 5 0 (gR (sF (sF z4.1 6 1 0 (0 : Int32)) 8 8 0 (gF (sF z4.1 6 1 0 (0 : Int32)) 5 4 0)) 8 6 0)) 8 6 0 (gR (sF (sF z4.1 6 1 0 (0 : Int32)) 8 8 0 (gF (sF z4.1 6 1 0 (0 : Int32)) 5 4 0)) 8 5 0)) 0 4 0 (0 : Int32)) 8 5 0) g8) lk_X8_91 dX8_text_115 ?_
        obtain ⟨z9, q10, hf⟩ := bsp hf
        refine kc_V (ci := 8) (i := 0) (As := [.int (gF (sF (sR (sR (sF (sF z4.1 6 1 0 (0 : Int32)) 8 8 0 (gF (sF z4.1 6 1 0 (0 : Int32)) 5 4 0)) 8 5 0 (gR (sF (sF z4.1 6 1 0 (0 : Int32)) 8 8 0 (gF (sF z4.1 6 1 0 (0 : Int32)) 5 4 0)) 8 6 0)) 8 6 0 (gR (sF (sF z4.1 6 1 0 (0 : Int32)) 8 8 0 (gF (sF z4.1 6 1 0 (0 : Int32)) 5 4 0)) 8 5 0)) 0 4 0 (0 : Int32)) 7 10 (gR (sF (sR (sR (sF (sF z4.1 6 1 0 (0 : Int32)) 8 8 0 (gF (sF z4.1 6 1 0 (0 : Int32)) 5 4 0)) 8 5 0 (gR (sF (sF z4.1 6 1 0 (0 : Int32)) 8 8 0 (gF (sF z4.1 6 1 0 (0 : Int32)) 5 4 0)) 8 6 0)) 8 6 0 (gR (sF (sF z4.1 6 1 0 (0 : Int32)) 8 8 0 (gF (sF z4.1 6 1 0 (0 : Int32)) 5 4 0)) 8 5 0)) 0 4 0 (0 : Int32)) 8 5 0))]) (rest := []) hok.2.2.1 C hP hS hl.1 (hok.2.1 8 0 (Nat.le_of_ble_eq_true rfl)) rfl rfl cw_X8_answer ml_X8_96 (c_X8_answer l D ca ad2 PL2 Z A (okR_X hok) N (sF (sR (sR (sF (sF z4.1 6 1 0 (0 : Int32)) 8 8 0 (gF (sF z4.1 6 1 0 (0 : Int32)) 5 4 0)) 8 5 0 (gR (sF (sF z4.1 6 1 0 (0 : Int32)) 8 8 0 (gF (sF z4.1 6 1 0 (0 : Int32)) 5 4 0)) 8 6 0)) 8 6 0 (gR (sF (sF z4.1 6 1 0 (0 : Int32)) 8 8 0 (gF (sF z4.1 6 1 0 (0 : Int32)) 5 4 0)) 8 5 0)) 0 4 0 (0 : Int32)) (gF (sF (sR (sR (sF (sF z4.1 6 1 0 (0 : Int32)) 8 8 0 (gF (sF z4.1 6 1 0 (0 : Int32)) 5 4 0)) 8 5 0 (gR (sF (sF z4.1 6 1 0 (0 : Int32)) 8 8 0 (gF (sF z4.1 6 1 0 (0 : Int32)) 5 4 0)) 8 6 0)) 8 6 0 (gR (sF (sF z4.1 6 1 0 (0 : Int32)) 8 8 0 (gF (sF z4.1 6 1 0 (0 : Int32)) 5 4 0)) 8 5 0)) 0 4 0 (0 : Int32)) 7 10 (gR (sF (sR (sR (sF (sF z4.1 6 1 0 (0 : Int32)) 8 8 0 (gF (sF z4.1 6 1 0 (0 : Int32)) 5 4 0)) 8 5 0 (gR (sF (sF z4.1 6 1 0 (0 : Int32)) 8 8 0 (gF (sF z4.1 6 1 0 (0 : Int32)) 5 4 0)) 8 6 0)) 8 6 0 (gR (sF (sF z4.1 6 1 0 (0 : Int32)) 8 8 0 (gF (sF z4.1 6 1 0 (0 : Int32)) 5 4 0)) 8 5 0)) 0 4 0 (0 : Int32)) 8 5 0)) z9.1 z9.2 q10) rfl ⟨rfl, rfl⟩ ⟨Nat.le_of_ble_eq_true rfl, Nat.le_of_ble_eq_true rfl⟩ ⟨Nat.le_of_ble_eq_true rfl, Nat.le_of_ble_eq_true rfl⟩ (Nat.le_of_ble_eq_true rfl) rfl dX8_text_118 (fun H locs hP hS => ?_)
        refine W.widen (k := 2) (n := 12) (Nat.le_of_ble_eq_true rfl) (Nat.le_of_ble_eq_true rfl) ?_
        exact kr_iT (hbk _) hAA2 hok.2.2.1 C hlocks hr hP hS (congrArg Prod.fst (Option.some.inj hf)) (congrArg Prod.snd (Option.some.inj hf)) dX8_text_121
      · have hf := ifp hf c13
        refine lv_aload_n hx hb dX8_text_63 rfl (lv_at hl 2 rfl) ?_
        refine lv_iconst (v := (4 : Int32)) hx hb dX8_text_64 (by decide) ?_
        obtain ⟨z11, q12, hf⟩ := bsp hf
        refine kc_V (ci := 8) (i := 0) (As := [.int (4 : Int32)]) (rest := []) hok.2.2.1 C hP hS hl.1 (hok.2.1 8 0 (Nat.le_of_ble_eq_true rfl)) rfl rfl cw_X8_refuse ml_X8_61 (c_X8_refuse l D ca ad2 PL2 Z A (okR_X hok) N (sF (sF z4.1 6 1 0 (0 : Int32)) 8 8 0 (gF (sF z4.1 6 1 0 (0 : Int32)) 5 4 0)) (4 : Int32) z11.1 z11.2 q12) rfl ⟨rfl, rfl⟩ ⟨Nat.le_of_ble_eq_true rfl, Nat.le_of_ble_eq_true rfl⟩ ⟨Nat.le_of_ble_eq_true rfl, Nat.le_of_ble_eq_true rfl⟩ (Nat.le_of_ble_eq_true rfl) rfl dX8_text_65 (fun H locs hP hS => ?_)
        refine lv_pop hx hb dX8_text_68 rfl ?_
        refine lv_aload_n hx hb dX8_text_69 rfl (lv_at hl 2 rfl) ?_
        refine lv_aload_n hx hb dX8_text_70 rfl (lv_at hl 1 rfl) ?_
        refine gt_5_5 (i := 0) C hP (hok.2.1 5 0 (Nat.le_of_ble_eq_true rfl)) lk_X8_80 dX8_text_71 ?_
        refine pt_8_9 (i := 0) (v := (gF z11.1 5 5 0)) C hok.1 hP hS (hok.2.1 8 0 (Nat.le_of_ble_eq_true rfl)) lk_X8_50 dX8_text_74 (fun H locs hP hS => ?_)
        refine lv_iconst (v := (-1 : Int32)) hx hb dX8_text_77 (by decide) ?_
        refine W.widen (k := 2) (n := 12) (Nat.le_of_ble_eq_true rfl) (Nat.le_of_ble_eq_true rfl) ?_
        exact kr_iT (hbk _) hAA2 hok.2.2.1 C hlocks hr hP hS (congrArg Prod.fst (Option.some.inj hf)) (congrArg Prod.snd (Option.some.inj hf)) dX8_text_78
    · have hf := ifn hf c16
      refine lv_aload_n hx hb dX8_text_15 rfl (lv_at hl 0 rfl) ?_
      refine lv_iconst (v := (2 : Int32)) hx hb dX8_text_16 (by decide) ?_
      obtain ⟨z14, q15, hf⟩ := bsp hf
      refine kc_V (ci := 8) (i := 0) (As := [.int (2 : Int32)]) (rest := []) hok.2.2.1 C hP hS hl.1 (hok.2.1 8 0 (Nat.le_of_ble_eq_true rfl)) rfl rfl cw_X8_refuse ml_X8_61 (c_X8_refuse l D ca ad PL Z A hok N w (2 : Int32) z14.1 z14.2 q15) rfl ⟨rfl, rfl⟩ ⟨Nat.le_of_ble_eq_true rfl, Nat.le_of_ble_eq_true rfl⟩ ⟨Nat.le_of_ble_eq_true rfl, Nat.le_of_ble_eq_true rfl⟩ (Nat.le_of_ble_eq_true rfl) rfl dX8_text_17 (fun H locs hP hS => ?_)
      refine W.widen (k := 2) (n := 12) (Nat.le_of_ble_eq_true rfl) (Nat.le_of_ble_eq_true rfl) ?_
      exact kr_iT (fun _ h => h) hAA2 hok.2.2.1 C hlocks hr hP hS (congrArg Prod.fst (Option.some.inj hf)) (congrArg Prod.snd (Option.some.inj hf)) dX8_text_20
