/-! the law's cases: text, named -/
theorem lg_self (x : Int64) : lg_cmp x x = 0 := by
  unfold lg_cmp
  simp
theorem Rel.s0 {wx wm : Mem} (h : Rel wx wm) (v : Int32) : Rel wx (sF wm 9 0 0 v) := by
  obtain ⟨f, nf, tk, R, A, NL, tp, ⟨hX, hM, hP, hf2⟩, h7, h9⟩ := h
  have hTM : TMm wm tp := hM.2.2.2.2.2.2
  have hT0 : TMm (sF wm 9 0 0 v) tp := ⟨by rw [gF_sF, if_neg (by omega)]; exact hTM.1, fun i hi => by rw [gA_sF]; exact hTM.2 i hi⟩
  have hF0 : FrTm wm (sF wm 9 0 0 v) := ⟨fun k j i z => by rw [gF_sF, if_neg (by omega)], fun _ _ _ => rfl, fun _ _ => rfl, fun _ _ _ => rfl⟩
  exact ⟨f, nf, tk, R, A, NL, tp, ⟨hX, hM.tape hF0.kt hT0, hP, by rw [hF0.1 _ _ _ (by omega)]; exact hf2⟩, by rw [hF0.1 _ _ _ (by omega)]; exact h7, by rw [hF0.1 _ _ _ (by omega), hF0.1 _ _ _ (by omega)]; exact h9⟩
theorem L_text {p : Program} {l : Launch} {e : Env} {s : State} {m : MethodId} {below : List Frame} {meth : Method} {c : Code} {H : Heap} {locs : List Loc} {cells slots : Nat} {Q : State → Prop} {ls : Array Slot} {D : va_G} {ca : Nat → ClassId} {adX adM : Nat → Nat → Nat} {ao b L k : Nat} {K V : Nat → Nat} {xs : Nat → Int32} {wx wm : Mem} (G : LG p s m b c meth D ca adX adM ao K V L xs) (hRel : Rel wx wm) (hLW : LW s D ca adX adM ao wx wm H locs) (hl : lv_has ls 7 (LV b adX adM ao k)) (hk : k + 6 ≤ L) (hc : cells + 2 ≤ room_1.cells) (hs : slots + 12 ≤ room_1.slots) (kk : ∀ (wx' wm' : Mem) (H' : Heap) (locs' : List Loc) (ls' : Array Slot), Rel wx' wm' → LW s D ca adX adM ao wx' wm' H' locs' → lv_has ls' 7 (LV b adX adM ao k) → W p l e room_1 s m #[.ref b] below meth c H' locs' (cells + 2) (slots + 12) Q (F0 m 1525 ls' [])) : W p l e room_1 s m #[.ref b] below meth c H locs cells slots Q (F0 m 281 ls []) := by
  obtain ⟨⟨hx, hb, -⟩, -⟩ := id G
  obtain ⟨f, nf, tk, R, A, NL, tp, hC, -, -⟩ := id hRel
  obtain ⟨wx2, wm2, r, e1, e2, hRel⟩ := op_text (N := NB) (by decide) hC (xs (k + 1))
  obtain ⟨hX, hM2, ⟨f, hO⟩, hS⟩ := hLW
  have hok2 : okc bX (ZZ (A0s s) K V) (fun q => rW adX PLX q ∨ H.size ≤ q) adX PLX := ⟨⟨G.okX.1.1, G.okX.1.2.1, fun p hp => Or.inl (G.okX.1.2.2 p hp)⟩, PLX_in, ZZ_stb (fun x hx => hx.elim (G.2.2.2.2.2.1 x) (fun h => Nat.le_trans hS.1 h)), fun h => absurd h (by decide)⟩
  refine lv_aload_n hx hb dL_law_281 rfl (lv_at hl 1 rfl) ?_
  refine larg G hl hS (j := 1) (by omega) hk dL_law_282 dL_law_283 dL_law_285 rfl dL_law_286 dL_law_287 ?_
  refine kcT (ci := 8) (i := 0) (mc := 2) (ms := 12) (A := rW adX PLX) (A0 := A0s s) (ws2 := wl adM PLM (ent ca adM wm) ++ PO ca ao f) G.2.2.2.2.2.1 (fun _ h => h) G.z0 G.1 hX (hM2.app hO) (app_out (fun k q h z => G.2.2.2.2.2.2.2.2.1 _ z (ws_out h)) (fun k q h => by rw [po_out h]; exact G.2.2.2.2.2.2.2.2.2.1)) hS hl.1 (PLX_in 8 0 (Nat.le_of_ble_eq_true rfl)) rfl rfl cw_X8_text ml_L_24 (c_X8_text l D ca adX PLX (ZZ (A0s s) K V) (rW adX PLX) H.size hok2 PLX_new NB wx (xs (k + 1)) wx2 r e1) rfl ⟨rfl, rfl⟩ ⟨Nat.le_of_ble_eq_true rfl, Nat.le_of_ble_eq_true rfl⟩ ⟨hc, hs⟩ (Nat.le_of_ble_eq_true rfl) rfl dL_law_288 (fun H locs h1 h2 h3 => ?_)
  have hLW : LW s D ca adX adM ao wx2 wm H locs := ⟨h1, vaP_left h2, ⟨f, vaP_right h2⟩, h3⟩
  refine lv_aload_n hx hb dL_law_291 rfl (lv_at hl 2 rfl) ?_
  refine larg G hl hLW.2.2.2 (j := 1) (by omega) hk dL_law_292 dL_law_293 dL_law_295 rfl dL_law_296 dL_law_297 ?_
  refine kM G hLW hl.1 cw_X9_text ml_L_27 (c_X9_text l D ca adM PLM _ _ G.okM NB wm (xs (k + 1)) wm2 r e2) rfl ⟨rfl, rfl⟩ ⟨Nat.le_of_ble_eq_true rfl, Nat.le_of_ble_eq_true rfl⟩ ⟨by omega, by omega⟩ (Nat.le_of_ble_eq_true rfl) rfl dL_law_298 (fun H locs hLW => ?_)
  refine lv_icmp_eq (tgt := 1525) hx hb dL_law_301 (by decide) (fun _ => ?_) (fun h => absurd rfl h)
  exact kk _ _ _ _ _ hRel hLW hl
/-- what named gives on both sides -/
theorem op_named2 {wx wm : Mem} (hRel : Rel wx wm) (x : Int32) : ∃ (o : Option Int32) (v y : Int32), nmO NB wx x o ∧ f_X9_named NB wm x = some (sF wm 9 0 0 v, y) ∧ v = lnR o ∧ (∀ r, o = some r → y = r) := by
  obtain ⟨f, nf, tk, R, A, NL, tp, hC, -, -⟩ := id hRel
  have hTX : TX wx tp := hC.1.2.2.2.2.2.1
  have h5 : gR wx 8 5 0 = f := hC.1.1.2.1
  have hf : f < 2 := hC.1.1.1
  have hl5 : tp.length ≤ 500 := hC.2.2.1.2.2.2.1
  rcases named_ok (N := NB) (by decide) hC hC.nl al44 x with ⟨n, z, t, rfl, h1, h2, h3, h4, h6⟩ | ⟨h1, h2⟩
  · refine ⟨some (nI t), 0, nI t, ⟨nI_nn (by omega), by rw [hTX.1]; exact of_eq_true (le_tt (by omega) (by omega) h1), by rw [h5]; exact hf, z, h3, by rw [h5]; exact h4, of_eq_true (le_tt (a := 0) (by omega) (by omega) (Nat.zero_le _))⟩, h6, rfl, fun r hr => Option.some.inj hr⟩
  · have e : sF (sF wm 9 0 0 0) 9 0 0 1 = sF wm 9 0 0 1 := by
      unfold sF
      congr 1
      funext a b c
      by_cases q : a = 9 ∧ b = 0 ∧ c = 0
      · rw [if_pos q, if_pos q]
      · rw [if_neg q, if_neg q]
        exact if_neg q
    rw [e] at h2
    refine ⟨none, 1, 0, ?_, h2, rfl, fun r hr => by cases hr⟩
    rcases h1 with (h | ⟨n, rfl, hn, h⟩) | ⟨n, z, rfl, h, h3, h4⟩
    · exact Or.inl (Or.inl h)
    · exact Or.inl (Or.inr (by rw [hTX.1]; exact of_eq_false (le_tf hn (by omega) h)))
    · exact Or.inr ⟨nI_nn (by omega), by rw [hTX.1]; exact of_eq_true (le_tt (by omega) (by omega) h), by rw [h5]; exact hf, z, n1, h3, by rw [h5]; exact h4, by decide⟩
theorem tsN_ok {s : State} {b : Nat} (h1 : ∀ w ∈ ALL, w.before #[.ref b] s = true) (h2 : (Cond.codeWith yL_named cL_named 4 (some .int) [(0, 9, 12, 13)]).before #[.ref b] s = true) : ∀ w ∈ wsN, w.before #[.ref b] s = true := fun w hw => (List.mem_cons.mp hw).elim (fun e => by rw [e]; exact h2) (h1 w)
theorem gdN : GoodIn wsN (va_wsS RL 165 yL_named wsN) := by
  intro w h
  have h2 : ∀ w ∈ wsN, goodWord w = true := fun w hw => (List.mem_cons.mp hw).elim (fun e => by rw [e]; decide +kernel) (fun h => ALL_gd0 w h)
  have hm : w ∈ wsN := by
    simp only [va_wsS, List.cons_append, List.nil_append, List.mem_cons] at h
    rcases h with rfl | rfl | rfl | h
    · exact List.mem_cons_of_mem _ ml_L_165
    · exact List.mem_cons_of_mem _ st_L_named
    · exact List.mem_cons_of_mem _ ini_L
    · exact h
  exact ⟨hm, good_of_word (h2 w hm)⟩
set_option maxHeartbeats 4000000 in
theorem L_named {p : Program} {l : Launch} {e : Env} {s : State} {m : MethodId} {below : List Frame} {meth : Method} {c : Code} {H : Heap} {locs : List Loc} {cells slots : Nat} {Q : State → Prop} {ls : Array Slot} {D : va_G} {ca : Nat → ClassId} {adX adM : Nat → Nat → Nat} {ao b L k : Nat} {K V : Nat → Nat} {xs : Nat → Int32} {wx wm : Mem} (hfl : l.stackTraces = false) (G : LG p s m b c meth D ca adX adM ao K V L xs) (hRel : Rel wx wm) (hLW : LW s D ca adX adM ao wx wm H locs) (hl : lv_has ls 7 (LV b adX adM ao k)) (hk : k + 6 ≤ L) (hc : cells + 2 ≤ room_1.cells) (hs : slots + 12 ≤ room_1.slots) (kk : ∀ (wx' wm' : Mem) (H' : Heap) (locs' : List Loc) (ls' : Array Slot), Rel wx' wm' → LW s D ca adX adM ao wx' wm' H' locs' → lv_has ls' 7 (LV b adX adM ao k) → W p l e room_1 s m #[.ref b] below meth c H' locs' (cells + 2) (slots + 12) Q (F0 m 1525 ls' [])) : W p l e room_1 s m #[.ref b] below meth c H locs cells slots Q (F0 m 1443 ls []) := by
  obtain ⟨⟨hx, hb, hml, hown, hts, hK, hZ⟩, -⟩ := id G
  obtain ⟨o, v, y, ho, e2, hv, hy⟩ := op_named2 hRel (xs (k + 1))
  obtain ⟨hX, hM2, ⟨f, hO⟩, hS⟩ := hLW
  refine lv_aload_n hx hb dL_law_1443 rfl (lv_at hl 1 rfl) ?_
  refine larg G hl hS (j := 1) (by omega) hk dL_law_1444 dL_law_1445 dL_law_1447 rfl dL_law_1448 dL_law_1449 ?_
  refine lv_aload_n hx hb dL_law_1450 rfl (lv_at hl 3 rfl) ?_
  have hZn : ∀ U, ZZ (A0s s) K V U → Zn (rW adX PLX) U := fun U h => h.1.narrow G.2.2.2.2.2.1
  have hrun := vx_runSW (R := room_1) (s := s) (e := e) (H := H) (locs := locs) (cells := cells) (slots := slots) (below := below) (meth := meth) (As := [.ref (adX 8 0), .int (xs (k + 1)), .ref ao]) (rest := []) (g := F0 m 1451 ls [.ref ao, .int (xs (k + 1)), .ref (adX 8 0)]) ⟨hx, hb, hml, hown, tsN_ok hts G.2.2.2.2.2.2.2.2.2.2.2⟩ (c_L_named l hfl D ca adX PLX (ZZ (A0s s) K V) (rW adX PLX) G.okX hZn NB wx (xs (k + 1)) o ho ao G.2.2.2.2.2.2.2.2.2.1 f) (vx_cwSW (R := room_1) 3 (tsN_ok hts G.2.2.2.2.2.2.2.2.2.2.2) gdN rfl rfl rfl (by decide +kernel) ⟨Nat.le_of_ble_eq_true rfl, Nat.le_of_ble_eq_true rfl⟩) ⟨fun a U g mk q => ⟨q.1, ⟨q.2.1.1, va_K.moved (u := U) (U := U.calling g mk a) (Vm.Alike.refl U.vm) q.2.1.2.1, G.z0.1 U g mk a q.2.1.2.2⟩, q.2.2⟩, fun U hU hWm => ⟨rfl, ⟨by rw [hU]; exact hX, va_K.moved hWm.alike hK, G.z0.2 s U hZ hWm (fun q9 h1 h2 => by rw [hU]; exact hS.2.1 q9 h1 h2) (by rw [hU]; exact hS.1)⟩, by rw [hU]; exact hO⟩⟩ rfl rfl hl.1 rfl (Nat.le_of_ble_eq_true rfl) dL_law_1451 ⟨by omega, by omega⟩
  have hAA : ∀ q, (rW adX PLX q ∨ q = ao) → A0s s q := fun q h => h.elim (G.2.2.2.2.2.1 q) (fun e => by rw [e]; exact G.2.2.2.2.2.2.2.1)
  refine va_calli hrun hS (fun q _ h => hAA q h) hAA (fun r u t H1 locs1 ht hvm hpost hB hz1 hk1 hS => ?_)
  obtain ⟨hX, hO⟩ := hB
  rw [ht] at hX hO
  have hM2 : va_P D vwCl (wl adM PLM (ent ca adM wm)) H1 := hM2.kept (fun k9 q h => hk1 _ (hM2 k9 q h).lt (fun z => z.elim (fun z => G.2.2.2.2.2.2.2.2.1 _ z (ws_out h)) (fun z => G.2.2.2.2.2.2.2.2.2.2.1 (by rw [← z]; exact ws_out h))))
  have hpost : r = lnR o := hpost
  subst hpost
  refine lv_istore (lv' := (5, .int (lnR o)) :: LV b adX adM ao k) hx hb dL_law_1454 hl (by decide) rfl (fun ls hl => ?_)
  have hlB := lv_sub (l' := LV b adX adM ao k) hl [1, 2, 3, 4, 5] rfl
  refine lv_aload_n hx hb dL_law_1456 rfl (lv_at hl 3 rfl) ?_
  refine larg G hlB hS (j := 1) (by omega) hk dL_law_1457 dL_law_1458 dL_law_1460 rfl dL_law_1461 dL_law_1462 ?_
  refine kcL (ci := 9) (i := 0) (ws2 := wl adX PLX (ent ca adX wx) ++ PO ca ao (lnF f o)) (A := rW adM PLM) (A0 := A0s s) G.2.2.2.2.2.2.1 G.okM.2.2.1 G.z0 G.1 hM2 (hX.app hO) (app_out (fun k9 q h z => G.2.2.2.2.2.2.2.2.1 _ (ws_out h) z) (fun k9 q h => by rw [po_out h]; exact G.2.2.2.2.2.2.2.2.2.2.1)) hS hl.1 (PLM_in 9 0 (Nat.le_of_ble_eq_true rfl)) rfl rfl cw_X9_named ml_L_170 (c_X9_named l D ca adM PLM _ _ G.okM NB wm (xs (k + 1)) (sF wm 9 0 0 v) y e2) rfl ⟨rfl, rfl⟩ ⟨Nat.le_of_ble_eq_true rfl, Nat.le_of_ble_eq_true rfl⟩ ⟨by omega, by omega⟩ (Nat.le_of_ble_eq_true rfl) rfl dL_law_1463 (fun H2 locs2 hM2 hXO hS => ?_)
  refine lv_istore (lv' := (6, .int y) :: (5, .int (lnR o)) :: LV b adX adM ao k) hx hb dL_law_1466 hl (by decide) rfl (fun ls hl => ?_)
  refine lv_aload_n hx hb dL_law_1468 rfl (lv_at hl 4 rfl) ?_
  refine kcL (ci := 9) (i := 0) (As := []) (rest := []) (ws2 := wl adX PLX (ent ca adX wx) ++ PO ca ao (lnF f o)) (A := rW adM PLM) (A0 := A0s s) G.2.2.2.2.2.2.1 G.okM.2.2.1 G.z0 G.1 hM2 hXO (app_out (fun k9 q h z => G.2.2.2.2.2.2.2.2.1 _ (ws_out h) z) (fun k9 q h => by rw [po_out h]; exact G.2.2.2.2.2.2.2.2.2.2.1)) hS hl.1 (PLM_in 9 0 (Nat.le_of_ble_eq_true rfl)) rfl rfl cw_X9_thrown ml_L_171 (c_X9_thrown l D ca adM PLM _ _ G.okM NB (sF wm 9 0 0 v) v (by rw [f_X9_thrown, gF_sF, if_pos ⟨rfl, rfl, rfl⟩])) rfl ⟨rfl, rfl⟩ ⟨Nat.le_of_ble_eq_true rfl, Nat.le_of_ble_eq_true rfl⟩ ⟨by omega, by omega⟩ (Nat.le_of_ble_eq_true rfl) rfl dL_law_1469 (fun H3 locs3 hM2 hXO hS => ?_)
  have hlB := lv_sub (l' := LV b adX adM ao k) hl [2, 3, 4, 5, 6] rfl
  have hLW : LW s D ca adX adM ao wx (sF wm 9 0 0 v) H3 locs3 := ⟨vaP_left hXO, hM2, ⟨_, vaP_right hXO⟩, hS⟩
  have hend : ∀ pcx : Nat, pcx = 1496 → W p l e room_1 s m #[.ref b] below meth c H3 locs3 (cells + 1) (slots + 6) Q (F0 m pcx ls []) := fun pcx hp => by
    subst hp
    refine lv_goto (tgt := 1525) hx hb dL_law_1496 (by decide) ?_
    exact W.widen (k := cells + 2) (n := slots + 12) (by omega) (by omega) (kk _ _ _ _ _ (hRel.s0 v) hLW hlB)
  refine lv_iload hx hb dL_law_1472 (lv_at hl 1 rfl) ?_
  refine lv_icmp_eq (tgt := 1479) hx hb dL_law_1474 (by decide) (fun _ => ?_) (fun h => absurd hv h)
  refine lv_iload hx hb dL_law_1479 (lv_at hl 1 rfl) ?_
  refine lv_if_ne (tgt := 1496) hx hb dL_law_1481 (by decide) (fun _ => hend 1496 rfl) (fun h0 => ?_)
  cases o with
  | none => exact absurd h0 (by decide)
  | some r =>
    have hyr := hy r rfl
    subst hyr
    refine lv_aload_n hx hb dL_law_1484 rfl (lv_at hl 5 rfl) ?_
    refine lv_iconst (v := 0) hx hb dL_law_1485 (by decide) ?_
    refine va_lald (a := ao) hx hb hK (vaP_right hXO) 0 2 rfl rfl (inb_in (show inb 0 1 = true by decide)) dL_law_1486 ?_
    refine lv_iload hx hb dL_law_1487 (lv_at hl 0 rfl) ?_
    refine lv_i2l hx hb dL_law_1489 rfl ?_
    refine W.lcmp hx hb dL_law_1490 ?_
    refine lv_if_eq (tgt := 1496) hx hb dL_law_1491 (by decide) (fun _ => hend 1496 rfl) (fun h => absurd (lg_self _) h)
