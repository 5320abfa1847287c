/-! the law's frame: two worlds, apart; a row of one long; the script -/
def PLX : List (Nat × Nat) := [(8, 0), (6, 0), (30, 0), (0, 0), (10, 0), (11, 0), (12, 0), (4, 0), (26, 0), (27, 0), (28, 0), (3, 4), (25, 4), (3, 5), (25, 5), (3, 6), (25, 6), (3, 7), (25, 7), (3, 8), (25, 8), (3, 9), (25, 9), (3, 10), (25, 10), (3, 11), (25, 11), (3, 12), (25, 12), (3, 13), (25, 13), (3, 14), (25, 14), (3, 15), (25, 15), (3, 16), (25, 16), (3, 0), (25, 0), (3, 1), (25, 1), (1, 0), (7, 0), (31, 0), (32, 0), (33, 0), (34, 0), (35, 0), (36, 0), (37, 0), (38, 0), (39, 0), (3, 2), (25, 2), (2, 0), (19, 0), (20, 0), (21, 0), (22, 0), (23, 0), (24, 0), (13, 0), (14, 0), (15, 0), (16, 0), (17, 0), (18, 0), (1, 1), (7, 1), (31, 1), (32, 1), (33, 1), (34, 1), (35, 1), (36, 1), (37, 1), (38, 1), (39, 1), (3, 3), (25, 3), (2, 1), (19, 1), (20, 1), (21, 1), (22, 1), (23, 1), (24, 1), (13, 1), (14, 1), (15, 1), (16, 1), (17, 1), (18, 1)]
def PLM : List (Nat × Nat) := [(9, 0), (40, 0), (41, 0), (42, 0), (43, 0), (44, 0), (45, 0), (46, 0), (47, 0), (48, 0), (49, 0), (50, 0), (51, 0), (52, 0), (53, 0), (54, 0), (55, 0), (56, 0), (57, 0), (58, 0), (59, 0), (60, 0), (61, 0), (62, 0), (63, 0), (64, 0), (65, 0), (66, 0), (67, 0), (68, 0)]
theorem bX_out (k : Nat) : bX (k + 69) = 0 := rfl
theorem bM_out (k : Nat) : bM (k + 69) = 0 := rfl
theorem PLX_in0 : ∀ k : Fin 69, ∀ i : Fin 17, i.val < bX k.val → (k.val, i.val) ∈ PLX := by decide +kernel
theorem bX_17 : ∀ k : Fin 69, bX k.val ≤ 17 := by decide +kernel
theorem PLX_in : ∀ k i, i < bX k → (k, i) ∈ PLX := fun k i h => by
  by_cases z : k < 69
  · have := bX_17 ⟨k, z⟩
    exact PLX_in0 ⟨k, z⟩ ⟨i, by
      have h1 : bX k ≤ 17 := this
      omega⟩ h
  · obtain ⟨j, rfl⟩ : ∃ j, k = j + 69 := ⟨k - 69, by omega⟩
    rw [bX_out] at h; omega
theorem PLM_in0 : ∀ k : Fin 69, ∀ i : Fin 17, i.val < bM k.val → (k.val, i.val) ∈ PLM := by decide +kernel
theorem bM_17 : ∀ k : Fin 69, bM k.val ≤ 17 := by decide +kernel
theorem PLM_in : ∀ k i, i < bM k → (k, i) ∈ PLM := fun k i h => by
  by_cases z : k < 69
  · have := bM_17 ⟨k, z⟩
    exact PLM_in0 ⟨k, z⟩ ⟨i, by
      have h1 : bM k ≤ 17 := this
      omega⟩ h
  · obtain ⟨j, rfl⟩ : ∃ j, k = j + 69 := ⟨k - 69, by omega⟩
    rw [bM_out] at h; omega
theorem PLX_new : ∀ p ∈ PLX, ¬ p.1 = 5 ∧ ¬ p.1 = 29 := by decide +kernel
def A0s (s : State) : Nat → Prop := fun q => s.heap.size ≤ q
def rW (ad : Nat → Nat → Nat) (PL : List (Nat × Nat)) : Nat → Prop := fun q => ∃ x, x ∈ PL ∧ ad x.1 x.2 = q
theorem ws_out {ad : Nat → Nat → Nat} {PL : List (Nat × Nat)} {e : Nat → Nat → va_E} {k : Nat} {q : Nat × va_E} (h : (wl ad PL e)[k]? = some q) : rW ad PL q.1 := by
  obtain ⟨p, h1, rfl⟩ := wl_inv h
  exact ⟨p, List.mem_of_getElem? h1, rfl⟩
theorem po_out {ca : Nat → ClassId} {ao : Nat} {f : Nat → Int64} {k : Nat} {q : Nat × va_E} (h : (PO ca ao f)[k]? = some q) : q.1 = ao := by
  cases k with
  | zero => cases h; rfl
  | succ k => simp [PO] at h
theorem app_out {A : Nat → Prop} {X Y : va_W} (h1 : ∀ (k : Nat) (q : Nat × va_E), X[k]? = some q → ¬ A q.1) (h2 : ∀ (k : Nat) (q : Nat × va_E), Y[k]? = some q → ¬ A q.1) : ∀ (k : Nat) (q : Nat × va_E), (X ++ Y)[k]? = some q → ¬ A q.1 := fun k q h => by
  by_cases z : k < X.length
  · rw [List.getElem?_append_left z] at h; exact h1 k q h
  · rw [List.getElem?_append_right (by omega)] at h; exact h2 _ q h
def LG (p : Program) (s : State) (m : MethodId) (b : Nat) (c : Code) (meth : Method) (D : va_G) (ca : Nat → ClassId) (adX adM : Nat → Nat → Nat) (ao : Nat) (K V : Nat → Nat) (L : Nat) (xs : Nat → Int32) : Prop :=
  CX p s m #[.ref b] c cL_law RL 7 D ca (ZZ (A0s s) K V) ∧ (meth.sig.returnType = ret ∧ meth.locks = false) ∧ (va_X b L xs s s.heap ∧ b < s.heap.size ∧ L ≤ 3072) ∧ RD (rW adX PLX) adX PLX ∧ RD (rW adM PLM) adM PLM ∧ (∀ x, rW adX PLX x → A0s s x) ∧ (∀ x, rW adM PLM x → A0s s x) ∧ A0s s ao ∧ (∀ x, rW adX PLX x → ¬ rW adM PLM x) ∧ ¬ rW adX PLX ao ∧ ¬ rW adM PLM ao ∧ (Cond.codeWith yL_named cL_named 4 (some .int) [(0, 9, 12, 13)]).before #[.ref b] s = true
def LV (b : Nat) (adX adM : Nat → Nat → Nat) (ao : Nat) (k : Nat) : List (Nat × Value) := [(0, .ref b), (1, .ref (adX 8 0)), (2, .ref (adM 9 0)), (3, .ref ao), (4, .int (nI k))]
/-- the worlds in a heap -/
def LW (s : State) (D : va_G) (ca : Nat → ClassId) (adX adM : Nat → Nat → Nat) (ao : Nat) (wx wm : Mem) (H : Heap) (locs : List Loc) : Prop :=
  va_P D vwCl (wl adX PLX (ent ca adX wx)) H ∧ va_P D vwCl (wl adM PLM (ent ca adM wm)) H ∧ (∃ f, va_P D vwCl (PO ca ao f) H) ∧ va_S (A0s s) s.heap H locs
section LAWD
variable {p : Program} {l : Launch} {e : Env} {R : Room} {s : State} {m : MethodId} {below : List Frame} {meth : Method} {c : Code} {H : Heap} {locs : List Loc} {cells slots : Nat} {Q : State → Prop}
variable {pc : Nat} {ls : Array Slot} {rest : List Value} {D : va_G} {ca : Nat → ClassId} {adX adM : Nat → Nat → Nat} {ao b L k : Nat} {K V : Nat → Nat} {xs : Nat → Int32} {wx wm : Mem}
theorem LG.okX (G : LG p s m b c meth D ca adX adM ao K V L xs) : okc bX (ZZ (A0s s) K V) (rW adX PLX) adX PLX := ⟨G.2.2.2.1, PLX_in, ZZ_stb G.2.2.2.2.2.1, fun h => absurd h (by decide)⟩
theorem LG.okM (G : LG p s m b c meth D ca adX adM ao K V L xs) : okc bM (ZZ (A0s s) K V) (rW adM PLM) adM PLM := ⟨G.2.2.2.2.1, PLM_in, ZZ_stb G.2.2.2.2.2.2.1, fun _ => ZZ_okS G.2.2.2.2.2.2.1⟩
theorem LG.z0 (G : LG p s m b c meth D ca adX adM ao K V L xs) : stb (A0s s) (ZZ (A0s s) K V) := ZZ_stb (fun _ h => h)
/-- an int of the script -/
theorem larg (G : LG p s m b c meth D ca adX adM ao K V L xs) (hl : lv_has ls 7 (LV b adX adM ao k)) (hS : va_S (A0s s) s.heap H locs) {j : Nat} {n : Int} (hj : j ≤ 5) (hk : k + 6 ≤ L) (d0 : decode cL_law pc = .ok (.aload_n 0, 1)) (d1 : decode cL_law (pc + 1) = .ok (.iload 4, 2)) (d3 : decode cL_law (pc + 1 + 2) = .ok (.iconst n, 1)) (hn : Int32.ofInt n = nI j) (d4 : decode cL_law (pc + 1 + 2 + 1) = .ok (.iadd, 1)) (d5 : decode cL_law (pc + 1 + 2 + 1 + 1) = .ok (.iaload, 1))
    (kk : W p l e R s m #[.ref b] below meth c H locs cells slots Q (F0 m (pc + 1 + 2 + 1 + 1 + 1) ls (.int (xs (k + j)) :: rest))) : W p l e R s m #[.ref b] below meth c H locs cells slots Q (F0 m pc ls rest) := by
  obtain ⟨⟨hx, hb, -⟩, -, ⟨hX, hbl, hL⟩, -⟩ := id G
  refine lv_aload_n hx hb d0 rfl (lv_at hl 0 rfl) ?_
  refine lv_iload hx hb d1 (lv_at hl 4 rfl) ?_
  refine lv_iconst hx hb d3 hn ?_
  refine lv_iadd hx hb d4 ?_
  rw [q_add]
  refine va_sld hx hb hX hbl (Nat.not_le.mpr hbl) hS (inb_in (inb_t (by omega) (by omega))) d5 ?_
  rw [nI_clamp (by omega)]
  exact kk
theorem kX {y : MethodName} {bytes : ByteArray} {maxL n idx : Nat} {ret : Option FieldType} {rm : Room} {As st0 : List Value} {wx' : Mem} {r : Int32} (G : LG p s m b c meth D ca adX adM ao K V L xs) (hLW : LW s D ca adX adM ao wx wm H locs) (hsz : ls.size = 7)
    (cw : CW RX8 y bytes maxL ret n) (hlk : Cond.methodLink RL idx y ∈ ALL) (hM : CT l y (wsy y bytes maxL ret) rm D ca adX PLX (ZZ (A0s s) K V) (rW adX PLX) (.ref (adX 8 0) :: As) wx wx' (some (.int r))) (hn : As.length = n)
    (hrc : rm.cells = 0 ∧ rm.slots = 0) (hrm : rm.frames + 1 ≤ R.frames ∧ 8 + (maxL + 11) + rm.locals ≤ R.locals) (hcs : cells ≤ R.cells ∧ slots ≤ R.slots) (hW : (rest.map fun v => v.category).sum ≤ 8)
    (hst : st0 = As.reverse ++ .ref (adX 8 0) :: rest) (hdg : decode cL_law pc = .ok (.invokevirtual idx, 3))
    (kk : ∀ (H1 : Heap) (locs1 : List Loc), LW s D ca adX adM ao wx' wm H1 locs1 → W p l e R s m #[.ref b] below meth c H1 locs1 cells slots Q (F0 m (pc + 3) ls (.int r :: rest))) : W p l e R s m #[.ref b] below meth c H locs cells slots Q (F0 m pc ls st0) := by
  obtain ⟨hX, hM2, ⟨f, hO⟩, hS⟩ := hLW
  refine kcL (ci := 8) (i := 0) (ws2 := wl adM PLM (ent ca adM wm) ++ PO ca ao f) (A0 := A0s s) G.2.2.2.2.2.1 G.okX.2.2.1 G.z0 G.1 hX (hM2.app hO) (app_out (fun k q h z => G.2.2.2.2.2.2.2.2.1 _ z (ws_out h)) (fun k q h => by rw [po_out h]; exact G.2.2.2.2.2.2.2.2.2.1)) hS hsz (PLX_in 8 0 (Nat.le_of_ble_eq_true rfl)) rfl rfl cw hlk hM hn hrc hrm hcs hW hst hdg (fun H1 locs1 h1 h2 h3 => kk H1 locs1 ⟨h1, vaP_left h2, ⟨f, vaP_right h2⟩, h3⟩)
theorem kM {y : MethodName} {bytes : ByteArray} {maxL n idx : Nat} {ret : Option FieldType} {rm : Room} {As st0 : List Value} {wm' : Mem} {r : Int32} (G : LG p s m b c meth D ca adX adM ao K V L xs) (hLW : LW s D ca adX adM ao wx wm H locs) (hsz : ls.size = 7)
    (cw : CW RX9 y bytes maxL ret n) (hlk : Cond.methodLink RL idx y ∈ ALL) (hM : CT l y (wsy y bytes maxL ret) rm D ca adM PLM (ZZ (A0s s) K V) (rW adM PLM) (.ref (adM 9 0) :: As) wm wm' (some (.int r))) (hn : As.length = n)
    (hrc : rm.cells = 0 ∧ rm.slots = 0) (hrm : rm.frames + 1 ≤ R.frames ∧ 8 + (maxL + 11) + rm.locals ≤ R.locals) (hcs : cells ≤ R.cells ∧ slots ≤ R.slots) (hW : (rest.map fun v => v.category).sum ≤ 8)
    (hst : st0 = As.reverse ++ .ref (adM 9 0) :: rest) (hdg : decode cL_law pc = .ok (.invokevirtual idx, 3))
    (kk : ∀ (H1 : Heap) (locs1 : List Loc), LW s D ca adX adM ao wx wm' H1 locs1 → W p l e R s m #[.ref b] below meth c H1 locs1 cells slots Q (F0 m (pc + 3) ls (.int r :: rest))) : W p l e R s m #[.ref b] below meth c H locs cells slots Q (F0 m pc ls st0) := by
  obtain ⟨hX, hM2, ⟨f, hO⟩, hS⟩ := hLW
  refine kcL (ci := 9) (i := 0) (ws2 := wl adX PLX (ent ca adX wx) ++ PO ca ao f) (A0 := A0s s) G.2.2.2.2.2.2.1 G.okM.2.2.1 G.z0 G.1 hM2 (hX.app hO) (app_out (fun k q h z => G.2.2.2.2.2.2.2.2.1 _ (ws_out h) z) (fun k q h => by rw [po_out h]; exact G.2.2.2.2.2.2.2.2.2.2.1)) hS hsz (PLM_in 9 0 (Nat.le_of_ble_eq_true rfl)) rfl rfl cw hlk hM hn hrc hrm hcs hW hst hdg (fun H1 locs1 h1 h2 h3 => kk H1 locs1 ⟨vaP_left h2, h1, ⟨f, vaP_right h2⟩, h3⟩)
end LAWD
