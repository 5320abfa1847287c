/-! the law's text(): rows over the class's and the law's cells beside a builder -/
section TXR
variable {p : Program} {l : Launch} {e : Env} {R : Room} {s : State} {m : MethodId} {args : Array Value} {below : List Frame} {meth : Method} {c : Code} {H : Heap} {locs : List Loc} {cells slots : Nat} {Q : State → Prop}
variable {cc : ByteArray} {pc : Nat} {ls : Array Slot} {rest : List Value} {own : String} {nL : Nat} {D : va_G} {ca : Nat → ClassId} {ad : Nat → Nat → Nat} {PL : List (Nat × Nat)} {A : Nat → Prop} {Z : State → Prop} {H0 : Heap} {w : Mem} {X : va_W}
def rW (ad : Nat → Nat → Nat) (PL : List (Nat × Nat)) : Nat → Prop := fun q => ∃ x, x ∈ PL ∧ ad x.1 x.2 = q
theorem wsl_out {e : Nat → Nat → va_E} {k : Nat} {q : Nat × va_E} (h : (wl ad PL e)[k]? = some q) : rW ad PL q.1 := by
  obtain ⟨p, h1, rfl⟩ := wl_inv h
  exact ⟨p, List.mem_of_getElem? h1, rfl⟩
def lenT (w : Mem) : Nat := (gF w 60 0 0).toNatClampNeg
def ltT (w : Mem) : Nat → Nat := fun j => (gA w 60 0 j).toNatClampNeg
def apC (w : Mem) (x : Int32) : Mem := sF (sA w 60 0 (lenT w) x) 60 0 0 (nI (lenT w + 1))
def apS (w : Mem) (ls : List Nat) : Mem := ls.foldl (fun w c => apC w (nI c)) w
def SBM (ca : Nat → ClassId) (sb : Nat) (w : Mem) (X : va_W) : Prop := SBO ca sb (ltT w) (lenT w) X
theorem SBO.cg {sb n : Nat} {t t' : Nat → Nat} {X : va_W} (h : SBO ca sb t n X) (ht : ∀ j, j < n → t j = t' j) : SBO ca sb t' n X := by
  obtain ⟨q, m, a, h1, h2, h3, h4, h5, h6, h7⟩ := h
  exact ⟨q, m, a, h1, h2, h3, h4, h5, fun j hj => by rw [← ht j hj]; exact h6 j hj, h7⟩
theorem lenT_apC {x : Int32} (h : lenT w < 1000) : lenT (apC w x) = lenT w + 1 := by
  show (gF (sF (sA w 60 0 (lenT w) x) 60 0 0 (nI (lenT w + 1))) 60 0 0).toNatClampNeg = _
  rw [gF_sF, if_pos ⟨rfl, rfl, rfl⟩, nI_clamp (by omega)]
theorem upd_at {f : Nat → Int32} {k j : Nat} {x : Int32} : upd f k x j = if j = k then x else f j := rfl
theorem ltT_apC {x : Int32} {j : Nat} : ltT (apC w x) j = if j = lenT w then x.toNatClampNeg else ltT w j := by
  show (gA (sF (sA w 60 0 (lenT w) x) 60 0 0 (nI (lenT w + 1))) 60 0 j).toNatClampNeg = _
  rw [gA_sF]
  unfold sA
  rw [gA_sAf, if_pos ⟨rfl, rfl⟩, upd_at]
  split <;> rfl
theorem apS_len : ∀ (ls : List Nat) (w : Mem), lenT w + ls.length < 1000 → lenT (apS w ls) = lenT w + ls.length
  | [], w, _ => rfl
  | c :: ls, w, h => by
    have hl : (c :: ls).length = ls.length + 1 := rfl
    have e := lenT_apC (w := w) (x := nI c) (by omega)
    show lenT (apS (apC w (nI c)) ls) = _
    rw [apS_len ls _ (by omega), e]; omega
theorem apS_lt : ∀ (ls : List Nat) (w : Mem) (j : Nat), lenT w + ls.length < 1000 → (∀ c ∈ ls, c < 256) → ltT (apS w ls) j = if lenT w ≤ j ∧ j < lenT w + ls.length then ls.getD (j - lenT w) 0 else ltT w j
  | [], w, j, _, _ => by rw [if_neg (fun h => by have h2 : j < lenT w + 0 := h.2; omega)]; rfl
  | c :: ls, w, j, h, hc => by
    have hl : (c :: ls).length = ls.length + 1 := rfl
    have e := lenT_apC (w := w) (x := nI c) (by omega)
    show ltT (apS (apC w (nI c)) ls) j = _
    rw [apS_lt ls _ j (by omega) (fun c' h' => hc c' (List.mem_cons_of_mem _ h')), e, ltT_apC]
    have hc9 := hc c List.mem_cons_self
    by_cases h1 : j = lenT w
    · subst h1
      rw [if_neg (by omega), if_pos rfl, if_pos (by omega), Nat.sub_self, nI_clamp (by omega)]
      rfl
    · by_cases h2 : lenT w + 1 ≤ j ∧ j < lenT w + 1 + ls.length
      · rw [if_pos h2, if_pos (by omega), show j - lenT w = (j - (lenT w + 1)) + 1 by omega]
        rfl
      · rw [if_neg h2, if_neg h1, if_neg (by omega)]
theorem apC_ent {x : Int32} {k i : Nat} (hk : k ≠ 60) : ent ca ad (apC w x) k i = ent ca ad w k i :=
  ent_congr ca ad (fun j => by show gF (sF _ 60 0 0 _) _ _ _ = _; rw [gF_sF, if_neg (fun h => hk h.1)]; rfl) (by show gA (sF (sA w 60 0 _ _) _ _ _ _) k i = _; rw [gA_sF]; unfold sA; rw [gA_sAf, if_neg (fun h => hk h.1)]) rfl (fun _ => rfl)
theorem apC_wl {x : Int32} (hPL : ∀ q ∈ PL, q.1 ≠ 60) : wl ad PL (ent ca ad (apC w x)) = wl ad PL (ent ca ad w) := by
  unfold wl
  exact List.map_congr_left (fun q hq => by rw [apC_ent (hPL q hq)])
theorem apS_wl (hPL : ∀ q ∈ PL, q.1 ≠ 60) : ∀ (ls : List Nat) (w : Mem), wl ad PL (ent ca ad (apS w ls)) = wl ad PL (ent ca ad w)
  | [], _ => rfl
  | c :: ls, w => by
    show wl ad PL (ent ca ad (apS (apC w (nI c)) ls)) = _
    rw [apS_wl hPL ls, apC_wl hPL]
theorem app_l {Y : va_W} {j : Nat} {x : Nat × va_E} (h : Y[j]? = some x) : (Y ++ X)[j]? = some x := by
  rw [List.getElem?_append_left (List.getElem?_eq_some_iff.mp h).1]; exact h
theorem set_l {Y : va_W} {j : Nat} {x : Nat × va_E} (h : j < Y.length) : (Y ++ X).set j x = Y.set j x ++ X := List.set_append_left _ _ h
theorem tx_get {ci cx i j idx : Nat} {Cn : String} {T : u_T} {Nf : Nat} {fs : List Value} {v : Value} (C : CX p s m args c cc own nL D ca Z) (hin : ∀ w ∈ u_ws Cn T Nf, w ∈ ALL) (hP : va_P D vwCl (wl ad PL (ent ca ad w) ++ X) H) (hp : (ci, i) ∈ PL) (hent : ent ca ad w ci i = .inr (cx, fs)) (hcl : vwCl[cx]? = some (Cn, T, Nf)) (hj : j < Nf) (hv : fs[j]? = some v)
    (hlk : Cond.fieldLink own idx (T j).1 (T j).2.1 (T j).2.2.1 ∈ ALL) (hdg : decode cc pc = .ok (.getfield idx, 3)) (kk : W p l e R s m args below meth c H locs cells slots Q (F0 m (pc + 3) ls (v :: rest))) : W p l e R s m args below meth c H locs cells slots Q (F0 m pc ls (.ref (ad ci i) :: rest)) := by
  obtain ⟨hx, hb, hml, hown, hts, hK, -⟩ := C
  obtain ⟨q0, -, hq⟩ := wl_at (ad := ad) (ent ca ad w) hp
  rw [hent] at hq
  exact va_get (D := D) (ci := cx) (v := v) (C := Cn) (T := T) (N := Nf) hx hb hts hin hown hK hP q0 (app_l hq) hcl j hj (hts _ hlk) (fun _ h9 => h9) hv hdg kk
theorem tx_put {ci cx i j idx : Nat} {Cn : String} {T : u_T} {Nf : Nat} {fs : List Value} {v : Value} {ty0 : Nat → FieldType} {w' : Mem} (C : CX p s m args c cc own nL D ca Z) (hin : ∀ w ∈ u_ws Cn T Nf, w ∈ ALL) (hty : ∀ k, k < Nf → parseFieldDescriptor (T k).2.2.1 = some (ty0 k)) (hnm : ∀ a, a < Nf → ∀ b, b < Nf → a ≠ b → (T a).2.1 ≠ (T b).2.1) (hnd : PL.Nodup) (hD : va_D A (wl ad PL (ent ca ad w) ++ X)) (hP : va_P D vwCl (wl ad PL (ent ca ad w) ++ X) H) (hS : va_S A H0 H locs) (hp : (ci, i) ∈ PL) (hent : ent ca ad w ci i = .inr (cx, fs)) (hcl : vwCl[cx]? = some (Cn, T, Nf)) (hj : j < Nf) (hjl : j < fs.length) (hfin : (T j).2.2.2 = false) (hn : narrow (ty0 j) v = v) (hfit : fits (ty0 j) v = true)
    (h1 : ent ca ad w' ci i = .inr (cx, fs.set j v)) (h2 : ∀ k' i', ¬ (k' = ci ∧ i' = i) → ent ca ad w' k' i' = ent ca ad w k' i')
    (hlk : Cond.fieldLink own idx (T j).1 (T j).2.1 (T j).2.2.1 ∈ ALL) (hdg : decode cc pc = .ok (.putfield idx, 3)) (kk : ∀ (H1 : Heap) (locs1 : List Loc), va_D A (wl ad PL (ent ca ad w') ++ X) → va_P D vwCl (wl ad PL (ent ca ad w') ++ X) H1 → va_S A H0 H1 locs1 → W p l e R s m args below meth c H1 locs1 cells slots Q (F0 m (pc + 3) ls rest)) : W p l e R s m args below meth c H locs cells slots Q (F0 m pc ls (v :: .ref (ad ci i) :: rest)) := by
  obtain ⟨hx, hb, hml, hown, hts, hK, -⟩ := C
  obtain ⟨q0, hq9, hq⟩ := wl_at (ad := ad) (ent ca ad w) hp
  rw [hent] at hq
  have hl : q0 < (wl ad PL (ent ca ad w)).length := (List.getElem?_eq_some_iff.mp hq).1
  refine va_put (D := D) (ci := cx) (v := v) (ty := ty0 j) (C := Cn) (T := T) (N := Nf) hx hb hts hin ty0 hty hnm hown hK hP hD hS q0 (app_l hq) hcl j hj (hts _ hlk) (fun _ h9 => h9) hfin (hty j hj) hn hfit hjl hdg (fun H1 locs1 hP1 hD1 hS1 => ?_)
  rw [set_l hl, wl_set (e' := ent ca ad w') hnd hq9 h1 h2] at hP1 hD1
  exact kk H1 locs1 hD1 hP1 hS1
theorem tx_ild {k i n : Nat} {f : Nat → Int32} {x : Int32} (C : CX p s m args c cc own nL D ca Z) (hP : va_P D vwCl (wl ad PL (ent ca ad w) ++ X) H) (hp : (k, i) ∈ PL) (he : ent ca ad w k i = .inl (ca 0, n, .inl f)) (hin : inb x n = true) (hdg : decode cc pc = .ok (.iaload, 1))
    (kk : W p l e R s m args below meth c H locs cells slots Q (F0 m (pc + 1) ls (.int (f x.toNatClampNeg) :: rest))) : W p l e R s m args below meth c H locs cells slots Q (F0 m pc ls (.int x :: .ref (ad k i) :: rest)) := by
  obtain ⟨hx, hb, hml, hown, hts, hK, -⟩ := C
  obtain ⟨q0, -, hq⟩ := wl_at (ad := ad) (ent ca ad w) hp
  rw [he] at hq
  exact va_iald hx hb hK hP q0 0 (app_l hq) rfl (inb_in hin) hdg kk
theorem tx_ist {k i n : Nat} {x z : Int32} (C : CX p s m args c cc own nL D ca Z) (hnd : PL.Nodup) (hD : va_D A (wl ad PL (ent ca ad w) ++ X)) (hP : va_P D vwCl (wl ad PL (ent ca ad w) ++ X) H) (hS : va_S A H0 H locs) (hp : (k, i) ∈ PL) (he : ∀ u : Mem, ent ca ad u k i = .inl (ca 0, n, .inl (gA u k i))) (hin : inb x n = true) (hdg : decode cc pc = .ok (.iastore, 1))
    (kk : ∀ (H1 : Heap) (locs1 : List Loc), va_D A (wl ad PL (ent ca ad (sA w k i x.toNatClampNeg z)) ++ X) → va_P D vwCl (wl ad PL (ent ca ad (sA w k i x.toNatClampNeg z)) ++ X) H1 → va_S A H0 H1 locs1 → W p l e R s m args below meth c H1 locs1 cells slots Q (F0 m (pc + 1) ls rest)) : W p l e R s m args below meth c H locs cells slots Q (F0 m pc ls (.int z :: .int x :: .ref (ad k i) :: rest)) := by
  obtain ⟨hx, hb, hml, hown, hts, hK, -⟩ := C
  obtain ⟨q0, hq9, hq⟩ := wl_at (ad := ad) (ent ca ad w) hp
  rw [he w] at hq
  have hl : q0 < (wl ad PL (ent ca ad w)).length := (List.getElem?_eq_some_iff.mp hq).1
  refine va_iast hx hb hK hP hD hS q0 0 (app_l hq) rfl (inb_in hin) hdg (fun H1 locs1 hP1 hD1 hS1 => ?_)
  rw [set_l hl, wl_set (e' := ent ca ad (sA w k i x.toNatClampNeg z)) hnd hq9 (by rw [he]; unfold sA; rw [gA_sAf, if_pos ⟨rfl, rfl⟩]) (fun k' i' h => ent_off_A k' i' h)] at hP1 hD1
  exact kk H1 locs1 hD1 hP1 hS1
theorem tx_right {D : va_G} {cl : List vw_C} {Y L : va_W} {H : Heap} (h : va_P D cl (Y ++ L) H) : va_P D cl L H := va_P_mem h (fun x hx => List.mem_append_right _ hx)
theorem tx_left {D : va_G} {cl : List vw_C} {Y L : va_W} {H : Heap} (h : va_P D cl (Y ++ L) H) : va_P D cl Y H := va_P_mem h (fun x hx => List.mem_append_left _ hx)
theorem tx_apart {Y : va_W} (hD : va_D A (Y ++ X)) {i j : Nat} {a b : Nat × va_E} (h1 : Y[i]? = some a) (h2 : X[j]? = some b) : a.1 ≠ b.1 := fun h => by
  have hl := (List.getElem?_eq_some_iff.mp h1).1
  have := hD.1 i (Y.length + j) a b (app_l h1) (by rw [List.getElem?_append_right (Nat.le_add_right _ _), Nat.add_sub_cancel_left]; exact h2) h
  omega
theorem tx_notin {e : Nat → Nat → va_E} (hD : va_D A (wl ad PL e ++ X)) {j : Nat} {b : Nat × va_E} (h2 : X[j]? = some b) : ¬ rW ad PL b.1 := fun ⟨x, hx, h⟩ => by
  obtain ⟨q0, -, hq⟩ := wl_at (ad := ad) e (k := x.1) (i := x.2) hx
  exact tx_apart hD hq h2 h
theorem tx_Dl {Y : va_W} (hD : va_D A (Y ++ X)) : va_D A Y := ⟨fun i j a b h1 h2 h => hD.1 i j a b (app_l h1) (app_l h2) h, fun k q h => hD.2 k q (app_l h)⟩
theorem tx_app {B : Nat → Prop} {Y : va_W} (h1 : va_D A Y) (h2 : va_D B X) (hB : ∀ q, B q → A q) (hd : ∀ (i j : Nat) (a b : Nat × va_E), Y[i]? = some a → X[j]? = some b → a.1 ≠ b.1) : va_D A (Y ++ X) := by
  have cs : ∀ (i : Nat) (a : Nat × va_E), (Y ++ X)[i]? = some a → (i < Y.length ∧ Y[i]? = some a) ∨ (Y.length ≤ i ∧ X[i - Y.length]? = some a) := fun i a h => by
    by_cases z : i < Y.length
    · rw [List.getElem?_append_left z] at h; exact Or.inl ⟨z, h⟩
    · rw [List.getElem?_append_right (by omega)] at h; exact Or.inr ⟨by omega, h⟩
  refine ⟨fun i j a b ha hb h => ?_, fun k q h => ?_⟩
  · rcases cs i a ha with ⟨i1, i2⟩ | ⟨i1, i2⟩ <;> rcases cs j b hb with ⟨j1, j2⟩ | ⟨j1, j2⟩
    · exact h1.1 i j a b i2 j2 h
    · exact absurd h (hd _ _ _ _ i2 j2)
    · exact absurd h.symm (hd _ _ _ _ j2 i2)
    · have := h2.1 _ _ a b i2 j2 h; omega
  · rcases cs k q h with ⟨i1, i2⟩ | ⟨i1, i2⟩
    · exact h1.2 _ _ i2
    · exact hB _ (h2.2 _ _ i2)
/-- a call over the class's and the law's cells, beside the builder: virtual -/
theorem tx_V {y : MethodName} {bytes : ByteArray} {maxL n idx ci cx i : Nat} {ret : Option FieldType} {rm : Room} {fs : List Value} {q : vw_C} {As st0 : List Value} {w' : Mem} {rv : Option Value}
    (hA : ∀ x, rW ad PL x → A x) (hz0 : stb A Z) (C : CX p s m args c cc own nL D ca Z) (hD : va_D A (wl ad PL (ent ca ad w) ++ X)) (hP : va_P D vwCl (wl ad PL (ent ca ad w) ++ X) H) (hS : va_S A s.heap H locs) (hsz : ls.size = nL) (hp : (ci, i) ∈ PL) (hent : ent ca ad w ci i = .inr (cx, fs)) (hcl : vwCl[cx]? = some q)
    (cw : CW q.1 y bytes maxL ret n) (hlk : Cond.methodLink own idx y ∈ ALL) (hM : CT l y (wsy y bytes maxL ret) rm D ca ad PL Z (rW ad PL) (.ref (ad ci i) :: As) w w' rv) (hn : As.length = n)
    (hrc : rm.cells = 0 ∧ rm.slots = 0) (hrm : rm.frames + 1 ≤ R.frames ∧ 8 + (maxL + 11) + rm.locals ≤ R.locals) (hcs : cells ≤ R.cells ∧ slots ≤ R.slots) (hW : (rest.map fun v => v.category).sum ≤ 8)
    (hst : st0 = As.reverse ++ .ref (ad ci i) :: rest) (hdg : decode cc pc = .ok (.invokevirtual idx, 3))
    (kk : ∀ (H1 : Heap) (locs1 : List Loc), va_D A (wl ad PL (ent ca ad w') ++ X) → va_P D vwCl (wl ad PL (ent ca ad w') ++ X) H1 → va_S A s.heap H1 locs1 → W p l e R s m args below meth c H1 locs1 cells slots Q (F0 m (pc + 3) ls (rv.toList ++ rest))) : W p l e R s m args below meth c H locs cells slots Q (F0 m pc ls st0) := by
  obtain ⟨hx, hb, hml, hown, hts, hK, hZ⟩ := C
  obtain ⟨q0, -, hq⟩ := wl_at (ad := ad) (ent ca ad w) hp
  rw [hent] at hq
  have hP1 := tx_left hP
  have hP2 := tx_right hP
  have hzr : stb (rW ad PL) Z := ⟨hz0.1, fun s U hZ hW hq hs => hz0.2 s U hZ hW (fun q h1 h2 => hq q h1 (fun z => h2 (hA q z))) hs⟩
  have hr := va_runV (p := p) (e := e) (m := m) (below := below) (meth := meth) (R := R) (locs := locs) (cells := cells) (slots := slots) (C := q.1) (b := ad ci i) (As := As) (rest := rest) (g := F0 m pc ls st0) ⟨hx, hb, hml, hown, hts⟩ hM (cwV n hts (gdV cw hlk) rfl hrc.1 hrc.2 cw.2.2.2.2 hrm) ⟨rx_blind hzr, va_recv hK hP1 hcl hq, fun U hU hWm => ⟨rfl, by rw [hU]; exact hP1, va_K.moved hWm.alike hK, hz0.2 s U hZ hWm (fun q9 h1 h2 => by rw [hU]; exact hS.2.1 q9 h1 h2) (by rw [hU]; exact hS.1)⟩⟩ rfl hn hsz hst (by simpa [JFrame.monitorRoom] using hW) hdg hcs
  intro T hT X'
  obtain ⟨v, st₀, t, T', L, h0, X2, hL, e1, e2, ⟨⟨hv, hP3, -⟩, hz1, hk⟩, st⟩ := hr T hT X'
  cases hv
  rw [h0] at hz1 hk
  have hPX : va_P D vwCl X T'.heap := by rw [e1]; exact hP2.kept (fun k q hk9 => hk _ (hP2 k q hk9).lt (tx_notin hD hk9))
  have hW2 : va_D A (wl ad PL (ent ca ad w') ++ X) := by
    refine ⟨fun i j a b ha hb9 h => ?_, fun k q h => ?_⟩
    · have len : (wl ad PL (ent ca ad w')).length = (wl ad PL (ent ca ad w)).length := by unfold wl; rw [List.length_map, List.length_map]
      have tr : ∀ (i : Nat) (a : Nat × va_E), (wl ad PL (ent ca ad w') ++ X)[i]? = some a → ∃ a', (wl ad PL (ent ca ad w) ++ X)[i]? = some a' ∧ a'.1 = a.1 := fun i a h => by
        by_cases z : i < (wl ad PL (ent ca ad w')).length
        · rw [List.getElem?_append_left z] at h
          obtain ⟨x, h1, rfl⟩ := wl_inv h
          exact ⟨(ad x.1 x.2, ent ca ad w x.1 x.2), by rw [List.getElem?_append_left (by omega), wl, List.getElem?_map, h1]; rfl, rfl⟩
        · rw [List.getElem?_append_right (by omega)] at h
          exact ⟨a, by rw [List.getElem?_append_right (by omega), ← len]; exact h, rfl⟩
      obtain ⟨a', a1, a2⟩ := tr i a ha
      obtain ⟨b', b1, b2⟩ := tr j b hb9
      exact hD.1 i j a' b' a1 b1 (by rw [a2, b2]; exact h)
    · by_cases z : k < (wl ad PL (ent ca ad w')).length
      · rw [List.getElem?_append_left z] at h
        exact hA _ (wsl_out h)
      · rw [List.getElem?_append_right (by omega)] at h
        exact hD.2 ((wl ad PL (ent ca ad w)).length + (k - (wl ad PL (ent ca ad w')).length)) q (by rw [List.getElem?_append_right (Nat.le_add_right _ _), Nat.add_sub_cancel_left]; exact h)
  obtain ⟨t2, a1, b1⟩ := kk T'.heap (locs ++ L) hW2 (by rw [← e1] at hP3; exact hP3.app hPX)
    ⟨Nat.le_trans hS.1 (by rw [e1]; exact hz1), fun q h1 h2 => by rw [e1, hk q (Nat.lt_of_lt_of_le h1 hS.1) (fun z => h2 (hA q z))]; exact hS.2.1 q h1 h2, fun q hq => by
      rcases List.mem_append.mp hq with h | h
      · exact hS.2.2 q h
      · exact hA _ (hL q h)⟩ T' rfl X2
  exact ⟨t2, st t2 a1, b1⟩
end TXR
