/-! the law's cases -/
def NB : Nat := 10000000000001
theorem L_feed {p : Program} {l : Launch} {e : Env} {s : State} {m : MethodId} {below : List Frame} {meth : Method} {c : Code} {H : Heap} {locs : List Loc} {cells slots : Nat} {Q : State → Prop} {ls : Array Slot} {D : va_G} {ca : Nat → ClassId} {adX adM : Nat → Nat → Nat} {ao b L k : Nat} {K V : Nat → Nat} {xs : Nat → Int32} {wx wm : Mem} (G : LG p s m b c meth D ca adX adM ao K V L xs) (hRel : Rel wx wm) (hLW : LW s D ca adX adM ao wx wm H locs) (hl : lv_has ls 7 (LV b adX adM ao k)) (hk : k + 6 ≤ L) (hc : cells + 2 ≤ room_1.cells) (hs : slots + 12 ≤ room_1.slots) (kk : ∀ (wx' wm' : Mem) (H' : Heap) (locs' : List Loc) (ls' : Array Slot), Rel wx' wm' → LW s D ca adX adM ao wx' wm' H' locs' → lv_has ls' 7 (LV b adX adM ao k) → W p l e room_1 s m #[.ref b] below meth c H' locs' (cells + 2) (slots + 12) Q (F0 m 1525 ls' [])) : W p l e room_1 s m #[.ref b] below meth c H locs cells slots Q (F0 m 208 ls []) := by
  obtain ⟨⟨hx, hb, -⟩, -⟩ := id G
  obtain ⟨wx2, wm2, r, e1, e2, hRel⟩ := op_feed (N := NB) (by decide) hRel (xs (k + 1)) (xs (k + 2)) (xs (k + 3)) (xs (k + 4)) (xs (k + 5))
  refine lv_aload_n hx hb dL_law_208 rfl (lv_at hl 1 rfl) ?_
  refine larg G hl hLW.2.2.2 (j := 1) (by omega) hk dL_law_209 dL_law_210 dL_law_212 rfl dL_law_213 dL_law_214 ?_
  refine larg G hl hLW.2.2.2 (j := 2) (by omega) hk dL_law_215 dL_law_216 dL_law_218 rfl dL_law_219 dL_law_220 ?_
  refine larg G hl hLW.2.2.2 (j := 3) (by omega) hk dL_law_221 dL_law_222 dL_law_224 rfl dL_law_225 dL_law_226 ?_
  refine larg G hl hLW.2.2.2 (j := 4) (by omega) hk dL_law_227 dL_law_228 dL_law_230 rfl dL_law_231 dL_law_232 ?_
  refine larg G hl hLW.2.2.2 (j := 5) (by omega) hk dL_law_233 dL_law_234 dL_law_236 rfl dL_law_237 dL_law_238 ?_
  refine kX G hLW hl.1 cw_X8_feed ml_L_19 (c_X8_feed l D ca adX PLX _ _ G.okX NB wx (xs (k + 1)) (xs (k + 2)) (xs (k + 3)) (xs (k + 4)) (xs (k + 5)) wx2 r e1) rfl ⟨rfl, rfl⟩ ⟨Nat.le_of_ble_eq_true rfl, Nat.le_of_ble_eq_true rfl⟩ ⟨by omega, by omega⟩ (Nat.le_of_ble_eq_true rfl) rfl dL_law_239 (fun H locs hLW => ?_)
  refine lv_aload_n hx hb dL_law_242 rfl (lv_at hl 2 rfl) ?_
  refine larg G hl hLW.2.2.2 (j := 1) (by omega) hk dL_law_243 dL_law_244 dL_law_246 rfl dL_law_247 dL_law_248 ?_
  refine larg G hl hLW.2.2.2 (j := 2) (by omega) hk dL_law_249 dL_law_250 dL_law_252 rfl dL_law_253 dL_law_254 ?_
  refine larg G hl hLW.2.2.2 (j := 3) (by omega) hk dL_law_255 dL_law_256 dL_law_258 rfl dL_law_259 dL_law_260 ?_
  refine larg G hl hLW.2.2.2 (j := 4) (by omega) hk dL_law_261 dL_law_262 dL_law_264 rfl dL_law_265 dL_law_266 ?_
  refine larg G hl hLW.2.2.2 (j := 5) (by omega) hk dL_law_267 dL_law_268 dL_law_270 rfl dL_law_271 dL_law_272 ?_
  refine kM G hLW hl.1 cw_X9_feed ml_L_23 (c_X9_feed l D ca adM PLM _ _ G.okM NB wm (xs (k + 1)) (xs (k + 2)) (xs (k + 3)) (xs (k + 4)) (xs (k + 5)) wm2 r e2) rfl ⟨rfl, rfl⟩ ⟨Nat.le_of_ble_eq_true rfl, Nat.le_of_ble_eq_true rfl⟩ ⟨by omega, by omega⟩ (Nat.le_of_ble_eq_true rfl) rfl dL_law_273 (fun H locs hLW => ?_)
  refine lv_icmp_eq (tgt := 1525) hx hb dL_law_276 (by decide) (fun _ => ?_) (fun h => absurd rfl h)
  exact W.widen (k := cells + 2) (n := slots + 12) (by omega) (by omega) (kk _ _ _ _ _ hRel hLW hl)
theorem L_fault {p : Program} {l : Launch} {e : Env} {s : State} {m : MethodId} {below : List Frame} {meth : Method} {c : Code} {H : Heap} {locs : List Loc} {cells slots : Nat} {Q : State → Prop} {ls : Array Slot} {D : va_G} {ca : Nat → ClassId} {adX adM : Nat → Nat → Nat} {ao b L k : Nat} {K V : Nat → Nat} {xs : Nat → Int32} {wx wm : Mem} (G : LG p s m b c meth D ca adX adM ao K V L xs) (hRel : Rel wx wm) (hLW : LW s D ca adX adM ao wx wm H locs) (hl : lv_has ls 7 (LV b adX adM ao k)) (hk : k + 6 ≤ L) (hc : cells + 2 ≤ room_1.cells) (hs : slots + 12 ≤ room_1.slots) (kk : ∀ (wx' wm' : Mem) (H' : Heap) (locs' : List Loc) (ls' : Array Slot), Rel wx' wm' → LW s D ca adX adM ao wx' wm' H' locs' → lv_has ls' 7 (LV b adX adM ao k) → W p l e room_1 s m #[.ref b] below meth c H' locs' (cells + 2) (slots + 12) Q (F0 m 1525 ls' [])) : W p l e room_1 s m #[.ref b] below meth c H locs cells slots Q (F0 m 306 ls []) := by
  obtain ⟨⟨hx, hb, -⟩, -⟩ := id G
  obtain ⟨wm2, r, e1, e2, hRel⟩ := op_fault (N := NB) hRel
  refine lv_aload_n hx hb dL_law_306 rfl (lv_at hl 1 rfl) ?_
  refine kX G hLW hl.1 cw_X8_fault ml_L_28 (c_X8_fault l D ca adX PLX _ _ G.okX NB wx   r e1) rfl ⟨rfl, rfl⟩ ⟨Nat.le_of_ble_eq_true rfl, Nat.le_of_ble_eq_true rfl⟩ ⟨by omega, by omega⟩ (Nat.le_of_ble_eq_true rfl) rfl dL_law_307 (fun H locs hLW => ?_)
  refine lv_aload_n hx hb dL_law_310 rfl (lv_at hl 2 rfl) ?_
  refine kM G hLW hl.1 cw_X9_fault ml_L_32 (c_X9_fault l D ca adM PLM _ _ G.okM NB wm  wm2 r e2) rfl ⟨rfl, rfl⟩ ⟨Nat.le_of_ble_eq_true rfl, Nat.le_of_ble_eq_true rfl⟩ ⟨by omega, by omega⟩ (Nat.le_of_ble_eq_true rfl) rfl dL_law_311 (fun H locs hLW => ?_)
  refine lv_icmp_eq (tgt := 1525) hx hb dL_law_314 (by decide) (fun _ => ?_) (fun h => absurd rfl h)
  exact W.widen (k := cells + 2) (n := slots + 12) (by omega) (by omega) (kk _ _ _ _ _ hRel hLW hl)
theorem L_where {p : Program} {l : Launch} {e : Env} {s : State} {m : MethodId} {below : List Frame} {meth : Method} {c : Code} {H : Heap} {locs : List Loc} {cells slots : Nat} {Q : State → Prop} {ls : Array Slot} {D : va_G} {ca : Nat → ClassId} {adX adM : Nat → Nat → Nat} {ao b L k : Nat} {K V : Nat → Nat} {xs : Nat → Int32} {wx wm : Mem} (G : LG p s m b c meth D ca adX adM ao K V L xs) (hRel : Rel wx wm) (hLW : LW s D ca adX adM ao wx wm H locs) (hl : lv_has ls 7 (LV b adX adM ao k)) (hk : k + 6 ≤ L) (hc : cells + 2 ≤ room_1.cells) (hs : slots + 12 ≤ room_1.slots) (kk : ∀ (wx' wm' : Mem) (H' : Heap) (locs' : List Loc) (ls' : Array Slot), Rel wx' wm' → LW s D ca adX adM ao wx' wm' H' locs' → lv_has ls' 7 (LV b adX adM ao k) → W p l e room_1 s m #[.ref b] below meth c H' locs' (cells + 2) (slots + 12) Q (F0 m 1525 ls' [])) : W p l e room_1 s m #[.ref b] below meth c H locs cells slots Q (F0 m 319 ls []) := by
  obtain ⟨⟨hx, hb, -⟩, -⟩ := id G
  obtain ⟨wm2, r, e1, e2, hRel⟩ := op_where (N := NB) hRel
  refine lv_aload_n hx hb dL_law_319 rfl (lv_at hl 1 rfl) ?_
  refine kX G hLW hl.1 cw_X8_where ml_L_33 (c_X8_where l D ca adX PLX _ _ G.okX NB wx   r e1) rfl ⟨rfl, rfl⟩ ⟨Nat.le_of_ble_eq_true rfl, Nat.le_of_ble_eq_true rfl⟩ ⟨by omega, by omega⟩ (Nat.le_of_ble_eq_true rfl) rfl dL_law_320 (fun H locs hLW => ?_)
  refine lv_aload_n hx hb dL_law_323 rfl (lv_at hl 2 rfl) ?_
  refine kM G hLW hl.1 cw_X9_where ml_L_36 (c_X9_where l D ca adM PLM _ _ G.okM NB wm  wm2 r e2) rfl ⟨rfl, rfl⟩ ⟨Nat.le_of_ble_eq_true rfl, Nat.le_of_ble_eq_true rfl⟩ ⟨by omega, by omega⟩ (Nat.le_of_ble_eq_true rfl) rfl dL_law_324 (fun H locs hLW => ?_)
  refine lv_icmp_eq (tgt := 1525) hx hb dL_law_327 (by decide) (fun _ => ?_) (fun h => absurd rfl h)
  exact W.widen (k := cells + 2) (n := slots + 12) (by omega) (by omega) (kk _ _ _ _ _ hRel hLW hl)
theorem L_about {p : Program} {l : Launch} {e : Env} {s : State} {m : MethodId} {below : List Frame} {meth : Method} {c : Code} {H : Heap} {locs : List Loc} {cells slots : Nat} {Q : State → Prop} {ls : Array Slot} {D : va_G} {ca : Nat → ClassId} {adX adM : Nat → Nat → Nat} {ao b L k : Nat} {K V : Nat → Nat} {xs : Nat → Int32} {wx wm : Mem} (G : LG p s m b c meth D ca adX adM ao K V L xs) (hRel : Rel wx wm) (hLW : LW s D ca adX adM ao wx wm H locs) (hl : lv_has ls 7 (LV b adX adM ao k)) (hk : k + 6 ≤ L) (hc : cells + 2 ≤ room_1.cells) (hs : slots + 12 ≤ room_1.slots) (kk : ∀ (wx' wm' : Mem) (H' : Heap) (locs' : List Loc) (ls' : Array Slot), Rel wx' wm' → LW s D ca adX adM ao wx' wm' H' locs' → lv_has ls' 7 (LV b adX adM ao k) → W p l e room_1 s m #[.ref b] below meth c H' locs' (cells + 2) (slots + 12) Q (F0 m 1525 ls' [])) : W p l e room_1 s m #[.ref b] below meth c H locs cells slots Q (F0 m 332 ls []) := by
  obtain ⟨⟨hx, hb, -⟩, -⟩ := id G
  obtain ⟨f, nf, tk, R, A, NL, tp, hC, -, -⟩ := id hRel
  obtain ⟨wx2, wm2, r, e1, e2, hRel⟩ := op_about (N := NB) hC (by decide) (xs (k + 1))
  refine lv_aload_n hx hb dL_law_332 rfl (lv_at hl 1 rfl) ?_
  refine larg G hl hLW.2.2.2 (j := 1) (by omega) hk dL_law_333 dL_law_334 dL_law_336 rfl dL_law_337 dL_law_338 ?_
  refine kX G hLW hl.1 cw_X8_about ml_L_37 (c_X8_about l D ca adX PLX _ _ G.okX NB wx (xs (k + 1)) wx2 r e1) rfl ⟨rfl, rfl⟩ ⟨Nat.le_of_ble_eq_true rfl, Nat.le_of_ble_eq_true rfl⟩ ⟨by omega, by omega⟩ (Nat.le_of_ble_eq_true rfl) rfl dL_law_339 (fun H locs hLW => ?_)
  refine lv_aload_n hx hb dL_law_342 rfl (lv_at hl 2 rfl) ?_
  refine larg G hl hLW.2.2.2 (j := 1) (by omega) hk dL_law_343 dL_law_344 dL_law_346 rfl dL_law_347 dL_law_348 ?_
  refine kM G hLW hl.1 cw_X9_about ml_L_40 (c_X9_about l D ca adM PLM _ _ G.okM NB wm (xs (k + 1)) wm2 r e2) rfl ⟨rfl, rfl⟩ ⟨Nat.le_of_ble_eq_true rfl, Nat.le_of_ble_eq_true rfl⟩ ⟨by omega, by omega⟩ (Nat.le_of_ble_eq_true rfl) rfl dL_law_349 (fun H locs hLW => ?_)
  refine lv_icmp_eq (tgt := 1525) hx hb dL_law_352 (by decide) (fun _ => ?_) (fun h => absurd rfl h)
  exact W.widen (k := cells + 2) (n := slots + 12) (by omega) (by omega) (kk _ _ _ _ _ hRel hLW hl)
theorem L_function {p : Program} {l : Launch} {e : Env} {s : State} {m : MethodId} {below : List Frame} {meth : Method} {c : Code} {H : Heap} {locs : List Loc} {cells slots : Nat} {Q : State → Prop} {ls : Array Slot} {D : va_G} {ca : Nat → ClassId} {adX adM : Nat → Nat → Nat} {ao b L k : Nat} {K V : Nat → Nat} {xs : Nat → Int32} {wx wm : Mem} (G : LG p s m b c meth D ca adX adM ao K V L xs) (hRel : Rel wx wm) (hLW : LW s D ca adX adM ao wx wm H locs) (hl : lv_has ls 7 (LV b adX adM ao k)) (hk : k + 6 ≤ L) (hc : cells + 2 ≤ room_1.cells) (hs : slots + 12 ≤ room_1.slots) (kk : ∀ (wx' wm' : Mem) (H' : Heap) (locs' : List Loc) (ls' : Array Slot), Rel wx' wm' → LW s D ca adX adM ao wx' wm' H' locs' → lv_has ls' 7 (LV b adX adM ao k) → W p l e room_1 s m #[.ref b] below meth c H' locs' (cells + 2) (slots + 12) Q (F0 m 1525 ls' [])) : W p l e room_1 s m #[.ref b] below meth c H locs cells slots Q (F0 m 357 ls []) := by
  obtain ⟨⟨hx, hb, -⟩, -⟩ := id G
  obtain ⟨f, nf, tk, R, A, NL, tp, hC, -, -⟩ := id hRel
  obtain ⟨wx2, wm2, r, e1, e2, hRel⟩ := op_function (N := NB) hC (by decide) (xs (k + 1)) (xs (k + 2))
  refine lv_aload_n hx hb dL_law_357 rfl (lv_at hl 1 rfl) ?_
  refine larg G hl hLW.2.2.2 (j := 1) (by omega) hk dL_law_358 dL_law_359 dL_law_361 rfl dL_law_362 dL_law_363 ?_
  refine larg G hl hLW.2.2.2 (j := 2) (by omega) hk dL_law_364 dL_law_365 dL_law_367 rfl dL_law_368 dL_law_369 ?_
  refine kX G hLW hl.1 cw_X8_function ml_L_41 (c_X8_function l D ca adX PLX _ _ G.okX NB wx (xs (k + 1)) (xs (k + 2)) wx2 r e1) rfl ⟨rfl, rfl⟩ ⟨Nat.le_of_ble_eq_true rfl, Nat.le_of_ble_eq_true rfl⟩ ⟨by omega, by omega⟩ (Nat.le_of_ble_eq_true rfl) rfl dL_law_370 (fun H locs hLW => ?_)
  refine lv_aload_n hx hb dL_law_373 rfl (lv_at hl 2 rfl) ?_
  refine larg G hl hLW.2.2.2 (j := 1) (by omega) hk dL_law_374 dL_law_375 dL_law_377 rfl dL_law_378 dL_law_379 ?_
  refine larg G hl hLW.2.2.2 (j := 2) (by omega) hk dL_law_380 dL_law_381 dL_law_383 rfl dL_law_384 dL_law_385 ?_
  refine kM G hLW hl.1 cw_X9_function ml_L_45 (c_X9_function l D ca adM PLM _ _ G.okM NB wm (xs (k + 1)) (xs (k + 2)) wm2 r e2) rfl ⟨rfl, rfl⟩ ⟨Nat.le_of_ble_eq_true rfl, Nat.le_of_ble_eq_true rfl⟩ ⟨by omega, by omega⟩ (Nat.le_of_ble_eq_true rfl) rfl dL_law_386 (fun H locs hLW => ?_)
  refine lv_icmp_eq (tgt := 1525) hx hb dL_law_389 (by decide) (fun _ => ?_) (fun h => absurd rfl h)
  exact W.widen (k := cells + 2) (n := slots + 12) (by omega) (by omega) (kk _ _ _ _ _ hRel hLW hl)
theorem L_term {p : Program} {l : Launch} {e : Env} {s : State} {m : MethodId} {below : List Frame} {meth : Method} {c : Code} {H : Heap} {locs : List Loc} {cells slots : Nat} {Q : State → Prop} {ls : Array Slot} {D : va_G} {ca : Nat → ClassId} {adX adM : Nat → Nat → Nat} {ao b L k : Nat} {K V : Nat → Nat} {xs : Nat → Int32} {wx wm : Mem} (G : LG p s m b c meth D ca adX adM ao K V L xs) (hRel : Rel wx wm) (hLW : LW s D ca adX adM ao wx wm H locs) (hl : lv_has ls 7 (LV b adX adM ao k)) (hk : k + 6 ≤ L) (hc : cells + 2 ≤ room_1.cells) (hs : slots + 12 ≤ room_1.slots) (kk : ∀ (wx' wm' : Mem) (H' : Heap) (locs' : List Loc) (ls' : Array Slot), Rel wx' wm' → LW s D ca adX adM ao wx' wm' H' locs' → lv_has ls' 7 (LV b adX adM ao k) → W p l e room_1 s m #[.ref b] below meth c H' locs' (cells + 2) (slots + 12) Q (F0 m 1525 ls' [])) : W p l e room_1 s m #[.ref b] below meth c H locs cells slots Q (F0 m 394 ls []) := by
  obtain ⟨⟨hx, hb, -⟩, -⟩ := id G
  obtain ⟨f, nf, tk, R, A, NL, tp, hC, -, -⟩ := id hRel
  obtain ⟨wx2, wm2, r, e1, e2, hRel⟩ := op_term (N := NB) hC (by decide) (xs (k + 1)) (xs (k + 2))
  refine lv_aload_n hx hb dL_law_394 rfl (lv_at hl 1 rfl) ?_
  refine larg G hl hLW.2.2.2 (j := 1) (by omega) hk dL_law_395 dL_law_396 dL_law_398 rfl dL_law_399 dL_law_400 ?_
  refine larg G hl hLW.2.2.2 (j := 2) (by omega) hk dL_law_401 dL_law_402 dL_law_404 rfl dL_law_405 dL_law_406 ?_
  refine kX G hLW hl.1 cw_X8_term ml_L_46 (c_X8_term l D ca adX PLX _ _ G.okX NB wx (xs (k + 1)) (xs (k + 2)) wx2 r e1) rfl ⟨rfl, rfl⟩ ⟨Nat.le_of_ble_eq_true rfl, Nat.le_of_ble_eq_true rfl⟩ ⟨by omega, by omega⟩ (Nat.le_of_ble_eq_true rfl) rfl dL_law_407 (fun H locs hLW => ?_)
  refine lv_aload_n hx hb dL_law_410 rfl (lv_at hl 2 rfl) ?_
  refine larg G hl hLW.2.2.2 (j := 1) (by omega) hk dL_law_411 dL_law_412 dL_law_414 rfl dL_law_415 dL_law_416 ?_
  refine larg G hl hLW.2.2.2 (j := 2) (by omega) hk dL_law_417 dL_law_418 dL_law_420 rfl dL_law_421 dL_law_422 ?_
  refine kM G hLW hl.1 cw_X9_term ml_L_49 (c_X9_term l D ca adM PLM _ _ G.okM NB wm (xs (k + 1)) (xs (k + 2)) wm2 r e2) rfl ⟨rfl, rfl⟩ ⟨Nat.le_of_ble_eq_true rfl, Nat.le_of_ble_eq_true rfl⟩ ⟨by omega, by omega⟩ (Nat.le_of_ble_eq_true rfl) rfl dL_law_423 (fun H locs hLW => ?_)
  refine lv_icmp_eq (tgt := 1525) hx hb dL_law_426 (by decide) (fun _ => ?_) (fun h => absurd rfl h)
  exact W.widen (k := cells + 2) (n := slots + 12) (by omega) (by omega) (kk _ _ _ _ _ hRel hLW hl)
theorem L_partOf {p : Program} {l : Launch} {e : Env} {s : State} {m : MethodId} {below : List Frame} {meth : Method} {c : Code} {H : Heap} {locs : List Loc} {cells slots : Nat} {Q : State → Prop} {ls : Array Slot} {D : va_G} {ca : Nat → ClassId} {adX adM : Nat → Nat → Nat} {ao b L k : Nat} {K V : Nat → Nat} {xs : Nat → Int32} {wx wm : Mem} (G : LG p s m b c meth D ca adX adM ao K V L xs) (hRel : Rel wx wm) (hLW : LW s D ca adX adM ao wx wm H locs) (hl : lv_has ls 7 (LV b adX adM ao k)) (hk : k + 6 ≤ L) (hc : cells + 2 ≤ room_1.cells) (hs : slots + 12 ≤ room_1.slots) (kk : ∀ (wx' wm' : Mem) (H' : Heap) (locs' : List Loc) (ls' : Array Slot), Rel wx' wm' → LW s D ca adX adM ao wx' wm' H' locs' → lv_has ls' 7 (LV b adX adM ao k) → W p l e room_1 s m #[.ref b] below meth c H' locs' (cells + 2) (slots + 12) Q (F0 m 1525 ls' [])) : W p l e room_1 s m #[.ref b] below meth c H locs cells slots Q (F0 m 431 ls []) := by
  obtain ⟨⟨hx, hb, -⟩, -⟩ := id G
  obtain ⟨f, nf, tk, R, A, NL, tp, hC, -, -⟩ := id hRel
  obtain ⟨wx2, wm2, r, e1, e2, hRel⟩ := op_partOf (N := NB) hC (xs (k + 1)) (xs (k + 2))
  refine lv_aload_n hx hb dL_law_431 rfl (lv_at hl 1 rfl) ?_
  refine larg G hl hLW.2.2.2 (j := 1) (by omega) hk dL_law_432 dL_law_433 dL_law_435 rfl dL_law_436 dL_law_437 ?_
  refine larg G hl hLW.2.2.2 (j := 2) (by omega) hk dL_law_438 dL_law_439 dL_law_441 rfl dL_law_442 dL_law_443 ?_
  refine kX G hLW hl.1 cw_X8_partOf ml_L_50 (c_X8_partOf l D ca adX PLX _ _ G.okX NB wx (xs (k + 1)) (xs (k + 2)) wx2 r e1) rfl ⟨rfl, rfl⟩ ⟨Nat.le_of_ble_eq_true rfl, Nat.le_of_ble_eq_true rfl⟩ ⟨by omega, by omega⟩ (Nat.le_of_ble_eq_true rfl) rfl dL_law_444 (fun H locs hLW => ?_)
  refine lv_aload_n hx hb dL_law_447 rfl (lv_at hl 2 rfl) ?_
  refine larg G hl hLW.2.2.2 (j := 1) (by omega) hk dL_law_448 dL_law_449 dL_law_451 rfl dL_law_452 dL_law_453 ?_
  refine larg G hl hLW.2.2.2 (j := 2) (by omega) hk dL_law_454 dL_law_455 dL_law_457 rfl dL_law_458 dL_law_459 ?_
  refine kM G hLW hl.1 cw_X9_partOf ml_L_53 (c_X9_partOf l D ca adM PLM _ _ G.okM NB wm (xs (k + 1)) (xs (k + 2)) wm2 r e2) rfl ⟨rfl, rfl⟩ ⟨Nat.le_of_ble_eq_true rfl, Nat.le_of_ble_eq_true rfl⟩ ⟨by omega, by omega⟩ (Nat.le_of_ble_eq_true rfl) rfl dL_law_460 (fun H locs hLW => ?_)
  refine lv_icmp_eq (tgt := 1525) hx hb dL_law_463 (by decide) (fun _ => ?_) (fun h => absurd rfl h)
  exact W.widen (k := cells + 2) (n := slots + 12) (by omega) (by omega) (kk _ _ _ _ _ hRel hLW hl)
theorem L_sameOf {p : Program} {l : Launch} {e : Env} {s : State} {m : MethodId} {below : List Frame} {meth : Method} {c : Code} {H : Heap} {locs : List Loc} {cells slots : Nat} {Q : State → Prop} {ls : Array Slot} {D : va_G} {ca : Nat → ClassId} {adX adM : Nat → Nat → Nat} {ao b L k : Nat} {K V : Nat → Nat} {xs : Nat → Int32} {wx wm : Mem} (G : LG p s m b c meth D ca adX adM ao K V L xs) (hRel : Rel wx wm) (hLW : LW s D ca adX adM ao wx wm H locs) (hl : lv_has ls 7 (LV b adX adM ao k)) (hk : k + 6 ≤ L) (hc : cells + 2 ≤ room_1.cells) (hs : slots + 12 ≤ room_1.slots) (kk : ∀ (wx' wm' : Mem) (H' : Heap) (locs' : List Loc) (ls' : Array Slot), Rel wx' wm' → LW s D ca adX adM ao wx' wm' H' locs' → lv_has ls' 7 (LV b adX adM ao k) → W p l e room_1 s m #[.ref b] below meth c H' locs' (cells + 2) (slots + 12) Q (F0 m 1525 ls' [])) : W p l e room_1 s m #[.ref b] below meth c H locs cells slots Q (F0 m 468 ls []) := by
  obtain ⟨⟨hx, hb, -⟩, -⟩ := id G
  obtain ⟨f, nf, tk, R, A, NL, tp, hC, -, -⟩ := id hRel
  obtain ⟨wx2, wm2, r, e1, e2, hRel⟩ := op_sameOf (N := NB) (by decide) hC (xs (k + 1)) (xs (k + 2))
  refine lv_aload_n hx hb dL_law_468 rfl (lv_at hl 1 rfl) ?_
  refine larg G hl hLW.2.2.2 (j := 1) (by omega) hk dL_law_469 dL_law_470 dL_law_472 rfl dL_law_473 dL_law_474 ?_
  refine larg G hl hLW.2.2.2 (j := 2) (by omega) hk dL_law_475 dL_law_476 dL_law_478 rfl dL_law_479 dL_law_480 ?_
  refine kX G hLW hl.1 cw_X8_sameOf ml_L_54 (c_X8_sameOf l D ca adX PLX _ _ G.okX NB wx (xs (k + 1)) (xs (k + 2)) wx2 r e1) rfl ⟨rfl, rfl⟩ ⟨Nat.le_of_ble_eq_true rfl, Nat.le_of_ble_eq_true rfl⟩ ⟨by omega, by omega⟩ (Nat.le_of_ble_eq_true rfl) rfl dL_law_481 (fun H locs hLW => ?_)
  refine lv_aload_n hx hb dL_law_484 rfl (lv_at hl 2 rfl) ?_
  refine larg G hl hLW.2.2.2 (j := 1) (by omega) hk dL_law_485 dL_law_486 dL_law_488 rfl dL_law_489 dL_law_490 ?_
  refine larg G hl hLW.2.2.2 (j := 2) (by omega) hk dL_law_491 dL_law_492 dL_law_494 rfl dL_law_495 dL_law_496 ?_
  refine kM G hLW hl.1 cw_X9_sameOf ml_L_57 (c_X9_sameOf l D ca adM PLM _ _ G.okM NB wm (xs (k + 1)) (xs (k + 2)) wm2 r e2) rfl ⟨rfl, rfl⟩ ⟨Nat.le_of_ble_eq_true rfl, Nat.le_of_ble_eq_true rfl⟩ ⟨by omega, by omega⟩ (Nat.le_of_ble_eq_true rfl) rfl dL_law_497 (fun H locs hLW => ?_)
  refine lv_icmp_eq (tgt := 1525) hx hb dL_law_500 (by decide) (fun _ => ?_) (fun h => absurd rfl h)
  exact W.widen (k := cells + 2) (n := slots + 12) (by omega) (by omega) (kk _ _ _ _ _ hRel hLW hl)
theorem L_diffOf {p : Program} {l : Launch} {e : Env} {s : State} {m : MethodId} {below : List Frame} {meth : Method} {c : Code} {H : Heap} {locs : List Loc} {cells slots : Nat} {Q : State → Prop} {ls : Array Slot} {D : va_G} {ca : Nat → ClassId} {adX adM : Nat → Nat → Nat} {ao b L k : Nat} {K V : Nat → Nat} {xs : Nat → Int32} {wx wm : Mem} (G : LG p s m b c meth D ca adX adM ao K V L xs) (hRel : Rel wx wm) (hLW : LW s D ca adX adM ao wx wm H locs) (hl : lv_has ls 7 (LV b adX adM ao k)) (hk : k + 6 ≤ L) (hc : cells + 2 ≤ room_1.cells) (hs : slots + 12 ≤ room_1.slots) (kk : ∀ (wx' wm' : Mem) (H' : Heap) (locs' : List Loc) (ls' : Array Slot), Rel wx' wm' → LW s D ca adX adM ao wx' wm' H' locs' → lv_has ls' 7 (LV b adX adM ao k) → W p l e room_1 s m #[.ref b] below meth c H' locs' (cells + 2) (slots + 12) Q (F0 m 1525 ls' [])) : W p l e room_1 s m #[.ref b] below meth c H locs cells slots Q (F0 m 505 ls []) := by
  obtain ⟨⟨hx, hb, -⟩, -⟩ := id G
  obtain ⟨f, nf, tk, R, A, NL, tp, hC, -, -⟩ := id hRel
  obtain ⟨wx2, wm2, r, e1, e2, hRel⟩ := op_diffOf (N := NB) hC (xs (k + 1)) (xs (k + 2))
  refine lv_aload_n hx hb dL_law_505 rfl (lv_at hl 1 rfl) ?_
  refine larg G hl hLW.2.2.2 (j := 1) (by omega) hk dL_law_506 dL_law_507 dL_law_509 rfl dL_law_510 dL_law_511 ?_
  refine larg G hl hLW.2.2.2 (j := 2) (by omega) hk dL_law_512 dL_law_513 dL_law_515 rfl dL_law_516 dL_law_517 ?_
  refine kX G hLW hl.1 cw_X8_diffOf ml_L_58 (c_X8_diffOf l D ca adX PLX _ _ G.okX NB wx (xs (k + 1)) (xs (k + 2)) wx2 r e1) rfl ⟨rfl, rfl⟩ ⟨Nat.le_of_ble_eq_true rfl, Nat.le_of_ble_eq_true rfl⟩ ⟨by omega, by omega⟩ (Nat.le_of_ble_eq_true rfl) rfl dL_law_518 (fun H locs hLW => ?_)
  refine lv_aload_n hx hb dL_law_521 rfl (lv_at hl 2 rfl) ?_
  refine larg G hl hLW.2.2.2 (j := 1) (by omega) hk dL_law_522 dL_law_523 dL_law_525 rfl dL_law_526 dL_law_527 ?_
  refine larg G hl hLW.2.2.2 (j := 2) (by omega) hk dL_law_528 dL_law_529 dL_law_531 rfl dL_law_532 dL_law_533 ?_
  refine kM G hLW hl.1 cw_X9_diffOf ml_L_61 (c_X9_diffOf l D ca adM PLM _ _ G.okM NB wm (xs (k + 1)) (xs (k + 2)) wm2 r e2) rfl ⟨rfl, rfl⟩ ⟨Nat.le_of_ble_eq_true rfl, Nat.le_of_ble_eq_true rfl⟩ ⟨by omega, by omega⟩ (Nat.le_of_ble_eq_true rfl) rfl dL_law_534 (fun H locs hLW => ?_)
  refine lv_icmp_eq (tgt := 1525) hx hb dL_law_537 (by decide) (fun _ => ?_) (fun h => absurd rfl h)
  exact W.widen (k := cells + 2) (n := slots + 12) (by omega) (by omega) (kk _ _ _ _ _ hRel hLW hl)
theorem L_joinOf {p : Program} {l : Launch} {e : Env} {s : State} {m : MethodId} {below : List Frame} {meth : Method} {c : Code} {H : Heap} {locs : List Loc} {cells slots : Nat} {Q : State → Prop} {ls : Array Slot} {D : va_G} {ca : Nat → ClassId} {adX adM : Nat → Nat → Nat} {ao b L k : Nat} {K V : Nat → Nat} {xs : Nat → Int32} {wx wm : Mem} (G : LG p s m b c meth D ca adX adM ao K V L xs) (hRel : Rel wx wm) (hLW : LW s D ca adX adM ao wx wm H locs) (hl : lv_has ls 7 (LV b adX adM ao k)) (hk : k + 6 ≤ L) (hc : cells + 2 ≤ room_1.cells) (hs : slots + 12 ≤ room_1.slots) (kk : ∀ (wx' wm' : Mem) (H' : Heap) (locs' : List Loc) (ls' : Array Slot), Rel wx' wm' → LW s D ca adX adM ao wx' wm' H' locs' → lv_has ls' 7 (LV b adX adM ao k) → W p l e room_1 s m #[.ref b] below meth c H' locs' (cells + 2) (slots + 12) Q (F0 m 1525 ls' [])) : W p l e room_1 s m #[.ref b] below meth c H locs cells slots Q (F0 m 542 ls []) := by
  obtain ⟨⟨hx, hb, -⟩, -⟩ := id G
  obtain ⟨f, nf, tk, R, A, NL, tp, hC, -, -⟩ := id hRel
  obtain ⟨wx2, wm2, r, e1, e2, hRel⟩ := op_joinOf (N := NB) hC (xs (k + 1)) (xs (k + 2))
  refine lv_aload_n hx hb dL_law_542 rfl (lv_at hl 1 rfl) ?_
  refine larg G hl hLW.2.2.2 (j := 1) (by omega) hk dL_law_543 dL_law_544 dL_law_546 rfl dL_law_547 dL_law_548 ?_
  refine larg G hl hLW.2.2.2 (j := 2) (by omega) hk dL_law_549 dL_law_550 dL_law_552 rfl dL_law_553 dL_law_554 ?_
  refine kX G hLW hl.1 cw_X8_joinOf ml_L_62 (c_X8_joinOf l D ca adX PLX _ _ G.okX NB wx (xs (k + 1)) (xs (k + 2)) wx2 r e1) rfl ⟨rfl, rfl⟩ ⟨Nat.le_of_ble_eq_true rfl, Nat.le_of_ble_eq_true rfl⟩ ⟨by omega, by omega⟩ (Nat.le_of_ble_eq_true rfl) rfl dL_law_555 (fun H locs hLW => ?_)
  refine lv_aload_n hx hb dL_law_558 rfl (lv_at hl 2 rfl) ?_
  refine larg G hl hLW.2.2.2 (j := 1) (by omega) hk dL_law_559 dL_law_560 dL_law_562 rfl dL_law_563 dL_law_564 ?_
  refine larg G hl hLW.2.2.2 (j := 2) (by omega) hk dL_law_565 dL_law_566 dL_law_568 rfl dL_law_569 dL_law_570 ?_
  refine kM G hLW hl.1 cw_X9_joinOf ml_L_65 (c_X9_joinOf l D ca adM PLM _ _ G.okM NB wm (xs (k + 1)) (xs (k + 2)) wm2 r e2) rfl ⟨rfl, rfl⟩ ⟨Nat.le_of_ble_eq_true rfl, Nat.le_of_ble_eq_true rfl⟩ ⟨by omega, by omega⟩ (Nat.le_of_ble_eq_true rfl) rfl dL_law_571 (fun H locs hLW => ?_)
  refine lv_icmp_eq (tgt := 1525) hx hb dL_law_574 (by decide) (fun _ => ?_) (fun h => absurd rfl h)
  exact W.widen (k := cells + 2) (n := slots + 12) (by omega) (by omega) (kk _ _ _ _ _ hRel hLW hl)
theorem L_height {p : Program} {l : Launch} {e : Env} {s : State} {m : MethodId} {below : List Frame} {meth : Method} {c : Code} {H : Heap} {locs : List Loc} {cells slots : Nat} {Q : State → Prop} {ls : Array Slot} {D : va_G} {ca : Nat → ClassId} {adX adM : Nat → Nat → Nat} {ao b L k : Nat} {K V : Nat → Nat} {xs : Nat → Int32} {wx wm : Mem} (G : LG p s m b c meth D ca adX adM ao K V L xs) (hRel : Rel wx wm) (hLW : LW s D ca adX adM ao wx wm H locs) (hl : lv_has ls 7 (LV b adX adM ao k)) (hk : k + 6 ≤ L) (hc : cells + 2 ≤ room_1.cells) (hs : slots + 12 ≤ room_1.slots) (kk : ∀ (wx' wm' : Mem) (H' : Heap) (locs' : List Loc) (ls' : Array Slot), Rel wx' wm' → LW s D ca adX adM ao wx' wm' H' locs' → lv_has ls' 7 (LV b adX adM ao k) → W p l e room_1 s m #[.ref b] below meth c H' locs' (cells + 2) (slots + 12) Q (F0 m 1525 ls' [])) : W p l e room_1 s m #[.ref b] below meth c H locs cells slots Q (F0 m 579 ls []) := by
  obtain ⟨⟨hx, hb, -⟩, -⟩ := id G
  obtain ⟨f, nf, tk, R, A, NL, tp, hC, -, -⟩ := id hRel
  obtain ⟨wx2, wm2, r, e1, e2, hRel⟩ := op_height (N := NB) (by decide) hC (xs (k + 1))
  refine lv_aload_n hx hb dL_law_579 rfl (lv_at hl 1 rfl) ?_
  refine larg G hl hLW.2.2.2 (j := 1) (by omega) hk dL_law_580 dL_law_581 dL_law_583 rfl dL_law_584 dL_law_585 ?_
  refine kX G hLW hl.1 cw_X8_height ml_L_66 (c_X8_height l D ca adX PLX _ _ G.okX NB wx (xs (k + 1)) wx2 r e1) rfl ⟨rfl, rfl⟩ ⟨Nat.le_of_ble_eq_true rfl, Nat.le_of_ble_eq_true rfl⟩ ⟨by omega, by omega⟩ (Nat.le_of_ble_eq_true rfl) rfl dL_law_586 (fun H locs hLW => ?_)
  refine lv_aload_n hx hb dL_law_589 rfl (lv_at hl 2 rfl) ?_
  refine larg G hl hLW.2.2.2 (j := 1) (by omega) hk dL_law_590 dL_law_591 dL_law_593 rfl dL_law_594 dL_law_595 ?_
  refine kM G hLW hl.1 cw_X9_height ml_L_69 (c_X9_height l D ca adM PLM _ _ G.okM NB wm (xs (k + 1)) wm2 r e2) rfl ⟨rfl, rfl⟩ ⟨Nat.le_of_ble_eq_true rfl, Nat.le_of_ble_eq_true rfl⟩ ⟨by omega, by omega⟩ (Nat.le_of_ble_eq_true rfl) rfl dL_law_596 (fun H locs hLW => ?_)
  refine lv_icmp_eq (tgt := 1525) hx hb dL_law_599 (by decide) (fun _ => ?_) (fun h => absurd rfl h)
  exact W.widen (k := cells + 2) (n := slots + 12) (by omega) (by omega) (kk _ _ _ _ _ hRel hLW hl)
theorem L_hung {p : Program} {l : Launch} {e : Env} {s : State} {m : MethodId} {below : List Frame} {meth : Method} {c : Code} {H : Heap} {locs : List Loc} {cells slots : Nat} {Q : State → Prop} {ls : Array Slot} {D : va_G} {ca : Nat → ClassId} {adX adM : Nat → Nat → Nat} {ao b L k : Nat} {K V : Nat → Nat} {xs : Nat → Int32} {wx wm : Mem} (G : LG p s m b c meth D ca adX adM ao K V L xs) (hRel : Rel wx wm) (hLW : LW s D ca adX adM ao wx wm H locs) (hl : lv_has ls 7 (LV b adX adM ao k)) (hk : k + 6 ≤ L) (hc : cells + 2 ≤ room_1.cells) (hs : slots + 12 ≤ room_1.slots) (kk : ∀ (wx' wm' : Mem) (H' : Heap) (locs' : List Loc) (ls' : Array Slot), Rel wx' wm' → LW s D ca adX adM ao wx' wm' H' locs' → lv_has ls' 7 (LV b adX adM ao k) → W p l e room_1 s m #[.ref b] below meth c H' locs' (cells + 2) (slots + 12) Q (F0 m 1525 ls' [])) : W p l e room_1 s m #[.ref b] below meth c H locs cells slots Q (F0 m 604 ls []) := by
  obtain ⟨⟨hx, hb, -⟩, -⟩ := id G
  obtain ⟨f, nf, tk, R, A, NL, tp, hC, -, -⟩ := id hRel
  obtain ⟨wx2, wm2, r, e1, e2, hRel⟩ := op_hung (N := NB) (by decide) hC (xs (k + 1)) (xs (k + 2))
  refine lv_aload_n hx hb dL_law_604 rfl (lv_at hl 1 rfl) ?_
  refine larg G hl hLW.2.2.2 (j := 1) (by omega) hk dL_law_605 dL_law_606 dL_law_608 rfl dL_law_609 dL_law_610 ?_
  refine larg G hl hLW.2.2.2 (j := 2) (by omega) hk dL_law_611 dL_law_612 dL_law_614 rfl dL_law_615 dL_law_616 ?_
  refine kX G hLW hl.1 cw_X8_hung ml_L_70 (c_X8_hung l D ca adX PLX _ _ G.okX NB wx (xs (k + 1)) (xs (k + 2)) wx2 r e1) rfl ⟨rfl, rfl⟩ ⟨Nat.le_of_ble_eq_true rfl, Nat.le_of_ble_eq_true rfl⟩ ⟨by omega, by omega⟩ (Nat.le_of_ble_eq_true rfl) rfl dL_law_617 (fun H locs hLW => ?_)
  refine lv_aload_n hx hb dL_law_620 rfl (lv_at hl 2 rfl) ?_
  refine larg G hl hLW.2.2.2 (j := 1) (by omega) hk dL_law_621 dL_law_622 dL_law_624 rfl dL_law_625 dL_law_626 ?_
  refine larg G hl hLW.2.2.2 (j := 2) (by omega) hk dL_law_627 dL_law_628 dL_law_630 rfl dL_law_631 dL_law_632 ?_
  refine kM G hLW hl.1 cw_X9_hung ml_L_73 (c_X9_hung l D ca adM PLM _ _ G.okM NB wm (xs (k + 1)) (xs (k + 2)) wm2 r e2) rfl ⟨rfl, rfl⟩ ⟨Nat.le_of_ble_eq_true rfl, Nat.le_of_ble_eq_true rfl⟩ ⟨by omega, by omega⟩ (Nat.le_of_ble_eq_true rfl) rfl dL_law_633 (fun H locs hLW => ?_)
  refine lv_icmp_eq (tgt := 1525) hx hb dL_law_636 (by decide) (fun _ => ?_) (fun h => absurd rfl h)
  exact W.widen (k := cells + 2) (n := slots + 12) (by omega) (by omega) (kk _ _ _ _ _ hRel hLW hl)
theorem L_equal {p : Program} {l : Launch} {e : Env} {s : State} {m : MethodId} {below : List Frame} {meth : Method} {c : Code} {H : Heap} {locs : List Loc} {cells slots : Nat} {Q : State → Prop} {ls : Array Slot} {D : va_G} {ca : Nat → ClassId} {adX adM : Nat → Nat → Nat} {ao b L k : Nat} {K V : Nat → Nat} {xs : Nat → Int32} {wx wm : Mem} (G : LG p s m b c meth D ca adX adM ao K V L xs) (hRel : Rel wx wm) (hLW : LW s D ca adX adM ao wx wm H locs) (hl : lv_has ls 7 (LV b adX adM ao k)) (hk : k + 6 ≤ L) (hc : cells + 2 ≤ room_1.cells) (hs : slots + 12 ≤ room_1.slots) (kk : ∀ (wx' wm' : Mem) (H' : Heap) (locs' : List Loc) (ls' : Array Slot), Rel wx' wm' → LW s D ca adX adM ao wx' wm' H' locs' → lv_has ls' 7 (LV b adX adM ao k) → W p l e room_1 s m #[.ref b] below meth c H' locs' (cells + 2) (slots + 12) Q (F0 m 1525 ls' [])) : W p l e room_1 s m #[.ref b] below meth c H locs cells slots Q (F0 m 641 ls []) := by
  obtain ⟨⟨hx, hb, -⟩, -⟩ := id G
  obtain ⟨f, nf, tk, R, A, NL, tp, hC, -, -⟩ := id hRel
  obtain ⟨wx2, wm2, r, e1, e2, hRel⟩ := op_equal (N := NB) hC (xs (k + 1)) (xs (k + 2))
  refine lv_aload_n hx hb dL_law_641 rfl (lv_at hl 1 rfl) ?_
  refine larg G hl hLW.2.2.2 (j := 1) (by omega) hk dL_law_642 dL_law_643 dL_law_645 rfl dL_law_646 dL_law_647 ?_
  refine larg G hl hLW.2.2.2 (j := 2) (by omega) hk dL_law_648 dL_law_649 dL_law_651 rfl dL_law_652 dL_law_653 ?_
  refine kX G hLW hl.1 cw_X8_equal ml_L_74 (c_X8_equal l D ca adX PLX _ _ G.okX NB wx (xs (k + 1)) (xs (k + 2)) wx2 r e1) rfl ⟨rfl, rfl⟩ ⟨Nat.le_of_ble_eq_true rfl, Nat.le_of_ble_eq_true rfl⟩ ⟨by omega, by omega⟩ (Nat.le_of_ble_eq_true rfl) rfl dL_law_654 (fun H locs hLW => ?_)
  refine lv_aload_n hx hb dL_law_657 rfl (lv_at hl 2 rfl) ?_
  refine larg G hl hLW.2.2.2 (j := 1) (by omega) hk dL_law_658 dL_law_659 dL_law_661 rfl dL_law_662 dL_law_663 ?_
  refine larg G hl hLW.2.2.2 (j := 2) (by omega) hk dL_law_664 dL_law_665 dL_law_667 rfl dL_law_668 dL_law_669 ?_
  refine kM G hLW hl.1 cw_X9_equal ml_L_77 (c_X9_equal l D ca adM PLM _ _ G.okM NB wm (xs (k + 1)) (xs (k + 2)) wm2 r e2) rfl ⟨rfl, rfl⟩ ⟨Nat.le_of_ble_eq_true rfl, Nat.le_of_ble_eq_true rfl⟩ ⟨by omega, by omega⟩ (Nat.le_of_ble_eq_true rfl) rfl dL_law_670 (fun H locs hLW => ?_)
  refine lv_icmp_eq (tgt := 1525) hx hb dL_law_673 (by decide) (fun _ => ?_) (fun h => absurd rfl h)
  exact W.widen (k := cells + 2) (n := slots + 12) (by omega) (by omega) (kk _ _ _ _ _ hRel hLW hl)
theorem L_apart {p : Program} {l : Launch} {e : Env} {s : State} {m : MethodId} {below : List Frame} {meth : Method} {c : Code} {H : Heap} {locs : List Loc} {cells slots : Nat} {Q : State → Prop} {ls : Array Slot} {D : va_G} {ca : Nat → ClassId} {adX adM : Nat → Nat → Nat} {ao b L k : Nat} {K V : Nat → Nat} {xs : Nat → Int32} {wx wm : Mem} (G : LG p s m b c meth D ca adX adM ao K V L xs) (hRel : Rel wx wm) (hLW : LW s D ca adX adM ao wx wm H locs) (hl : lv_has ls 7 (LV b adX adM ao k)) (hk : k + 6 ≤ L) (hc : cells + 2 ≤ room_1.cells) (hs : slots + 12 ≤ room_1.slots) (kk : ∀ (wx' wm' : Mem) (H' : Heap) (locs' : List Loc) (ls' : Array Slot), Rel wx' wm' → LW s D ca adX adM ao wx' wm' H' locs' → lv_has ls' 7 (LV b adX adM ao k) → W p l e room_1 s m #[.ref b] below meth c H' locs' (cells + 2) (slots + 12) Q (F0 m 1525 ls' [])) : W p l e room_1 s m #[.ref b] below meth c H locs cells slots Q (F0 m 678 ls []) := by
  obtain ⟨⟨hx, hb, -⟩, -⟩ := id G
  obtain ⟨f, nf, tk, R, A, NL, tp, hC, -, -⟩ := id hRel
  obtain ⟨wx2, wm2, r, e1, e2, hRel⟩ := op_apart (N := NB) (by decide) hC (xs (k + 1)) (xs (k + 2))
  refine lv_aload_n hx hb dL_law_678 rfl (lv_at hl 1 rfl) ?_
  refine larg G hl hLW.2.2.2 (j := 1) (by omega) hk dL_law_679 dL_law_680 dL_law_682 rfl dL_law_683 dL_law_684 ?_
  refine larg G hl hLW.2.2.2 (j := 2) (by omega) hk dL_law_685 dL_law_686 dL_law_688 rfl dL_law_689 dL_law_690 ?_
  refine kX G hLW hl.1 cw_X8_apart ml_L_78 (c_X8_apart l D ca adX PLX _ _ G.okX NB wx (xs (k + 1)) (xs (k + 2)) wx2 r e1) rfl ⟨rfl, rfl⟩ ⟨Nat.le_of_ble_eq_true rfl, Nat.le_of_ble_eq_true rfl⟩ ⟨by omega, by omega⟩ (Nat.le_of_ble_eq_true rfl) rfl dL_law_691 (fun H locs hLW => ?_)
  refine lv_aload_n hx hb dL_law_694 rfl (lv_at hl 2 rfl) ?_
  refine larg G hl hLW.2.2.2 (j := 1) (by omega) hk dL_law_695 dL_law_696 dL_law_698 rfl dL_law_699 dL_law_700 ?_
  refine larg G hl hLW.2.2.2 (j := 2) (by omega) hk dL_law_701 dL_law_702 dL_law_704 rfl dL_law_705 dL_law_706 ?_
  refine kM G hLW hl.1 cw_X9_apart ml_L_81 (c_X9_apart l D ca adM PLM _ _ G.okM NB wm (xs (k + 1)) (xs (k + 2)) wm2 r e2) rfl ⟨rfl, rfl⟩ ⟨Nat.le_of_ble_eq_true rfl, Nat.le_of_ble_eq_true rfl⟩ ⟨by omega, by omega⟩ (Nat.le_of_ble_eq_true rfl) rfl dL_law_707 (fun H locs hLW => ?_)
  refine lv_icmp_eq (tgt := 1525) hx hb dL_law_710 (by decide) (fun _ => ?_) (fun h => absurd rfl h)
  exact W.widen (k := cells + 2) (n := slots + 12) (by omega) (by omega) (kk _ _ _ _ _ hRel hLW hl)
theorem L_reasons {p : Program} {l : Launch} {e : Env} {s : State} {m : MethodId} {below : List Frame} {meth : Method} {c : Code} {H : Heap} {locs : List Loc} {cells slots : Nat} {Q : State → Prop} {ls : Array Slot} {D : va_G} {ca : Nat → ClassId} {adX adM : Nat → Nat → Nat} {ao b L k : Nat} {K V : Nat → Nat} {xs : Nat → Int32} {wx wm : Mem} (G : LG p s m b c meth D ca adX adM ao K V L xs) (hRel : Rel wx wm) (hLW : LW s D ca adX adM ao wx wm H locs) (hl : lv_has ls 7 (LV b adX adM ao k)) (hk : k + 6 ≤ L) (hc : cells + 2 ≤ room_1.cells) (hs : slots + 12 ≤ room_1.slots) (kk : ∀ (wx' wm' : Mem) (H' : Heap) (locs' : List Loc) (ls' : Array Slot), Rel wx' wm' → LW s D ca adX adM ao wx' wm' H' locs' → lv_has ls' 7 (LV b adX adM ao k) → W p l e room_1 s m #[.ref b] below meth c H' locs' (cells + 2) (slots + 12) Q (F0 m 1525 ls' [])) : W p l e room_1 s m #[.ref b] below meth c H locs cells slots Q (F0 m 715 ls []) := by
  obtain ⟨⟨hx, hb, -⟩, -⟩ := id G
  obtain ⟨f, nf, tk, R, A, NL, tp, hC, -, -⟩ := id hRel
  obtain ⟨wx2, wm2, r, e1, e2, hRel⟩ := op_reasons (N := NB) (by decide) hC (xs (k + 1)) (xs (k + 2))
  refine lv_aload_n hx hb dL_law_715 rfl (lv_at hl 1 rfl) ?_
  refine larg G hl hLW.2.2.2 (j := 1) (by omega) hk dL_law_716 dL_law_717 dL_law_719 rfl dL_law_720 dL_law_721 ?_
  refine larg G hl hLW.2.2.2 (j := 2) (by omega) hk dL_law_722 dL_law_723 dL_law_725 rfl dL_law_726 dL_law_727 ?_
  refine kX G hLW hl.1 cw_X8_reasons ml_L_82 (c_X8_reasons l D ca adX PLX _ _ G.okX NB wx (xs (k + 1)) (xs (k + 2)) wx2 r e1) rfl ⟨rfl, rfl⟩ ⟨Nat.le_of_ble_eq_true rfl, Nat.le_of_ble_eq_true rfl⟩ ⟨by omega, by omega⟩ (Nat.le_of_ble_eq_true rfl) rfl dL_law_728 (fun H locs hLW => ?_)
  refine lv_aload_n hx hb dL_law_731 rfl (lv_at hl 2 rfl) ?_
  refine larg G hl hLW.2.2.2 (j := 1) (by omega) hk dL_law_732 dL_law_733 dL_law_735 rfl dL_law_736 dL_law_737 ?_
  refine larg G hl hLW.2.2.2 (j := 2) (by omega) hk dL_law_738 dL_law_739 dL_law_741 rfl dL_law_742 dL_law_743 ?_
  refine kM G hLW hl.1 cw_X9_reasons ml_L_85 (c_X9_reasons l D ca adM PLM _ _ G.okM NB wm (xs (k + 1)) (xs (k + 2)) wm2 r e2) rfl ⟨rfl, rfl⟩ ⟨Nat.le_of_ble_eq_true rfl, Nat.le_of_ble_eq_true rfl⟩ ⟨by omega, by omega⟩ (Nat.le_of_ble_eq_true rfl) rfl dL_law_744 (fun H locs hLW => ?_)
  refine lv_icmp_eq (tgt := 1525) hx hb dL_law_747 (by decide) (fun _ => ?_) (fun h => absurd rfl h)
  exact W.widen (k := cells + 2) (n := slots + 12) (by omega) (by omega) (kk _ _ _ _ _ hRel hLW hl)
theorem L_pruned {p : Program} {l : Launch} {e : Env} {s : State} {m : MethodId} {below : List Frame} {meth : Method} {c : Code} {H : Heap} {locs : List Loc} {cells slots : Nat} {Q : State → Prop} {ls : Array Slot} {D : va_G} {ca : Nat → ClassId} {adX adM : Nat → Nat → Nat} {ao b L k : Nat} {K V : Nat → Nat} {xs : Nat → Int32} {wx wm : Mem} (G : LG p s m b c meth D ca adX adM ao K V L xs) (hRel : Rel wx wm) (hLW : LW s D ca adX adM ao wx wm H locs) (hl : lv_has ls 7 (LV b adX adM ao k)) (hk : k + 6 ≤ L) (hc : cells + 2 ≤ room_1.cells) (hs : slots + 12 ≤ room_1.slots) (kk : ∀ (wx' wm' : Mem) (H' : Heap) (locs' : List Loc) (ls' : Array Slot), Rel wx' wm' → LW s D ca adX adM ao wx' wm' H' locs' → lv_has ls' 7 (LV b adX adM ao k) → W p l e room_1 s m #[.ref b] below meth c H' locs' (cells + 2) (slots + 12) Q (F0 m 1525 ls' [])) : W p l e room_1 s m #[.ref b] below meth c H locs cells slots Q (F0 m 752 ls []) := by
  obtain ⟨⟨hx, hb, -⟩, -⟩ := id G
  obtain ⟨f, nf, tk, R, A, NL, tp, hC, -, -⟩ := id hRel
  obtain ⟨wx2, wm2, r, e1, e2, hRel⟩ := op_pruned (N := NB) (by decide) hC (xs (k + 1)) (xs (k + 2))
  refine lv_aload_n hx hb dL_law_752 rfl (lv_at hl 1 rfl) ?_
  refine larg G hl hLW.2.2.2 (j := 1) (by omega) hk dL_law_753 dL_law_754 dL_law_756 rfl dL_law_757 dL_law_758 ?_
  refine larg G hl hLW.2.2.2 (j := 2) (by omega) hk dL_law_759 dL_law_760 dL_law_762 rfl dL_law_763 dL_law_764 ?_
  refine kX G hLW hl.1 cw_X8_pruned ml_L_86 (c_X8_pruned l D ca adX PLX _ _ G.okX NB wx (xs (k + 1)) (xs (k + 2)) wx2 r e1) rfl ⟨rfl, rfl⟩ ⟨Nat.le_of_ble_eq_true rfl, Nat.le_of_ble_eq_true rfl⟩ ⟨by omega, by omega⟩ (Nat.le_of_ble_eq_true rfl) rfl dL_law_765 (fun H locs hLW => ?_)
  refine lv_aload_n hx hb dL_law_768 rfl (lv_at hl 2 rfl) ?_
  refine larg G hl hLW.2.2.2 (j := 1) (by omega) hk dL_law_769 dL_law_770 dL_law_772 rfl dL_law_773 dL_law_774 ?_
  refine larg G hl hLW.2.2.2 (j := 2) (by omega) hk dL_law_775 dL_law_776 dL_law_778 rfl dL_law_779 dL_law_780 ?_
  refine kM G hLW hl.1 cw_X9_pruned ml_L_89 (c_X9_pruned l D ca adM PLM _ _ G.okM NB wm (xs (k + 1)) (xs (k + 2)) wm2 r e2) rfl ⟨rfl, rfl⟩ ⟨Nat.le_of_ble_eq_true rfl, Nat.le_of_ble_eq_true rfl⟩ ⟨by omega, by omega⟩ (Nat.le_of_ble_eq_true rfl) rfl dL_law_781 (fun H locs hLW => ?_)
  refine lv_icmp_eq (tgt := 1525) hx hb dL_law_784 (by decide) (fun _ => ?_) (fun h => absurd rfl h)
  exact W.widen (k := cells + 2) (n := slots + 12) (by omega) (by omega) (kk _ _ _ _ _ hRel hLW hl)
theorem L_fewest {p : Program} {l : Launch} {e : Env} {s : State} {m : MethodId} {below : List Frame} {meth : Method} {c : Code} {H : Heap} {locs : List Loc} {cells slots : Nat} {Q : State → Prop} {ls : Array Slot} {D : va_G} {ca : Nat → ClassId} {adX adM : Nat → Nat → Nat} {ao b L k : Nat} {K V : Nat → Nat} {xs : Nat → Int32} {wx wm : Mem} (G : LG p s m b c meth D ca adX adM ao K V L xs) (hRel : Rel wx wm) (hLW : LW s D ca adX adM ao wx wm H locs) (hl : lv_has ls 7 (LV b adX adM ao k)) (hk : k + 6 ≤ L) (hc : cells + 2 ≤ room_1.cells) (hs : slots + 12 ≤ room_1.slots) (kk : ∀ (wx' wm' : Mem) (H' : Heap) (locs' : List Loc) (ls' : Array Slot), Rel wx' wm' → LW s D ca adX adM ao wx' wm' H' locs' → lv_has ls' 7 (LV b adX adM ao k) → W p l e room_1 s m #[.ref b] below meth c H' locs' (cells + 2) (slots + 12) Q (F0 m 1525 ls' [])) : W p l e room_1 s m #[.ref b] below meth c H locs cells slots Q (F0 m 789 ls []) := by
  obtain ⟨⟨hx, hb, -⟩, -⟩ := id G
  obtain ⟨f, nf, tk, R, A, NL, tp, hC, -, -⟩ := id hRel
  obtain ⟨wx2, wm2, r, e1, e2, hRel⟩ := op_fewest (N := NB) (by decide) hC (xs (k + 1)) (xs (k + 2))
  refine lv_aload_n hx hb dL_law_789 rfl (lv_at hl 1 rfl) ?_
  refine larg G hl hLW.2.2.2 (j := 1) (by omega) hk dL_law_790 dL_law_791 dL_law_793 rfl dL_law_794 dL_law_795 ?_
  refine larg G hl hLW.2.2.2 (j := 2) (by omega) hk dL_law_796 dL_law_797 dL_law_799 rfl dL_law_800 dL_law_801 ?_
  refine kX G hLW hl.1 cw_X8_fewest ml_L_90 (c_X8_fewest l D ca adX PLX _ _ G.okX NB wx (xs (k + 1)) (xs (k + 2)) wx2 r e1) rfl ⟨rfl, rfl⟩ ⟨Nat.le_of_ble_eq_true rfl, Nat.le_of_ble_eq_true rfl⟩ ⟨by omega, by omega⟩ (Nat.le_of_ble_eq_true rfl) rfl dL_law_802 (fun H locs hLW => ?_)
  refine lv_aload_n hx hb dL_law_805 rfl (lv_at hl 2 rfl) ?_
  refine larg G hl hLW.2.2.2 (j := 1) (by omega) hk dL_law_806 dL_law_807 dL_law_809 rfl dL_law_810 dL_law_811 ?_
  refine larg G hl hLW.2.2.2 (j := 2) (by omega) hk dL_law_812 dL_law_813 dL_law_815 rfl dL_law_816 dL_law_817 ?_
  refine kM G hLW hl.1 cw_X9_fewest ml_L_93 (c_X9_fewest l D ca adM PLM _ _ G.okM NB wm (xs (k + 1)) (xs (k + 2)) wm2 r e2) rfl ⟨rfl, rfl⟩ ⟨Nat.le_of_ble_eq_true rfl, Nat.le_of_ble_eq_true rfl⟩ ⟨by omega, by omega⟩ (Nat.le_of_ble_eq_true rfl) rfl dL_law_818 (fun H locs hLW => ?_)
  refine lv_icmp_eq (tgt := 1525) hx hb dL_law_821 (by decide) (fun _ => ?_) (fun h => absurd rfl h)
  exact W.widen (k := cells + 2) (n := slots + 12) (by omega) (by omega) (kk _ _ _ _ _ hRel hLW hl)
theorem L_proves {p : Program} {l : Launch} {e : Env} {s : State} {m : MethodId} {below : List Frame} {meth : Method} {c : Code} {H : Heap} {locs : List Loc} {cells slots : Nat} {Q : State → Prop} {ls : Array Slot} {D : va_G} {ca : Nat → ClassId} {adX adM : Nat → Nat → Nat} {ao b L k : Nat} {K V : Nat → Nat} {xs : Nat → Int32} {wx wm : Mem} (G : LG p s m b c meth D ca adX adM ao K V L xs) (hRel : Rel wx wm) (hLW : LW s D ca adX adM ao wx wm H locs) (hl : lv_has ls 7 (LV b adX adM ao k)) (hk : k + 6 ≤ L) (hc : cells + 2 ≤ room_1.cells) (hs : slots + 12 ≤ room_1.slots) (kk : ∀ (wx' wm' : Mem) (H' : Heap) (locs' : List Loc) (ls' : Array Slot), Rel wx' wm' → LW s D ca adX adM ao wx' wm' H' locs' → lv_has ls' 7 (LV b adX adM ao k) → W p l e room_1 s m #[.ref b] below meth c H' locs' (cells + 2) (slots + 12) Q (F0 m 1525 ls' [])) : W p l e room_1 s m #[.ref b] below meth c H locs cells slots Q (F0 m 826 ls []) := by
  obtain ⟨⟨hx, hb, -⟩, -⟩ := id G
  obtain ⟨f, nf, tk, R, A, NL, tp, hC, -, -⟩ := id hRel
  obtain ⟨wx2, wm2, r, e1, e2, hRel⟩ := op_proves (N := NB) (by decide) hC (xs (k + 1)) (xs (k + 2)) (xs (k + 3))
  refine lv_aload_n hx hb dL_law_826 rfl (lv_at hl 1 rfl) ?_
  refine larg G hl hLW.2.2.2 (j := 1) (by omega) hk dL_law_827 dL_law_828 dL_law_830 rfl dL_law_831 dL_law_832 ?_
  refine larg G hl hLW.2.2.2 (j := 2) (by omega) hk dL_law_833 dL_law_834 dL_law_836 rfl dL_law_837 dL_law_838 ?_
  refine larg G hl hLW.2.2.2 (j := 3) (by omega) hk dL_law_839 dL_law_840 dL_law_842 rfl dL_law_843 dL_law_844 ?_
  refine kX G hLW hl.1 cw_X8_proves ml_L_94 (c_X8_proves l D ca adX PLX _ _ G.okX NB wx (xs (k + 1)) (xs (k + 2)) (xs (k + 3)) wx2 r e1) rfl ⟨rfl, rfl⟩ ⟨Nat.le_of_ble_eq_true rfl, Nat.le_of_ble_eq_true rfl⟩ ⟨by omega, by omega⟩ (Nat.le_of_ble_eq_true rfl) rfl dL_law_845 (fun H locs hLW => ?_)
  refine lv_aload_n hx hb dL_law_848 rfl (lv_at hl 2 rfl) ?_
  refine larg G hl hLW.2.2.2 (j := 1) (by omega) hk dL_law_849 dL_law_850 dL_law_852 rfl dL_law_853 dL_law_854 ?_
  refine larg G hl hLW.2.2.2 (j := 2) (by omega) hk dL_law_855 dL_law_856 dL_law_858 rfl dL_law_859 dL_law_860 ?_
  refine larg G hl hLW.2.2.2 (j := 3) (by omega) hk dL_law_861 dL_law_862 dL_law_864 rfl dL_law_865 dL_law_866 ?_
  refine kM G hLW hl.1 cw_X9_proves ml_L_98 (c_X9_proves l D ca adM PLM _ _ G.okM NB wm (xs (k + 1)) (xs (k + 2)) (xs (k + 3)) wm2 r e2) rfl ⟨rfl, rfl⟩ ⟨Nat.le_of_ble_eq_true rfl, Nat.le_of_ble_eq_true rfl⟩ ⟨by omega, by omega⟩ (Nat.le_of_ble_eq_true rfl) rfl dL_law_867 (fun H locs hLW => ?_)
  refine lv_icmp_eq (tgt := 1525) hx hb dL_law_870 (by decide) (fun _ => ?_) (fun h => absurd rfl h)
  exact W.widen (k := cells + 2) (n := slots + 12) (by omega) (by omega) (kk _ _ _ _ _ hRel hLW hl)
theorem L_since {p : Program} {l : Launch} {e : Env} {s : State} {m : MethodId} {below : List Frame} {meth : Method} {c : Code} {H : Heap} {locs : List Loc} {cells slots : Nat} {Q : State → Prop} {ls : Array Slot} {D : va_G} {ca : Nat → ClassId} {adX adM : Nat → Nat → Nat} {ao b L k : Nat} {K V : Nat → Nat} {xs : Nat → Int32} {wx wm : Mem} (G : LG p s m b c meth D ca adX adM ao K V L xs) (hRel : Rel wx wm) (hLW : LW s D ca adX adM ao wx wm H locs) (hl : lv_has ls 7 (LV b adX adM ao k)) (hk : k + 6 ≤ L) (hc : cells + 2 ≤ room_1.cells) (hs : slots + 12 ≤ room_1.slots) (kk : ∀ (wx' wm' : Mem) (H' : Heap) (locs' : List Loc) (ls' : Array Slot), Rel wx' wm' → LW s D ca adX adM ao wx' wm' H' locs' → lv_has ls' 7 (LV b adX adM ao k) → W p l e room_1 s m #[.ref b] below meth c H' locs' (cells + 2) (slots + 12) Q (F0 m 1525 ls' [])) : W p l e room_1 s m #[.ref b] below meth c H locs cells slots Q (F0 m 875 ls []) := by
  obtain ⟨⟨hx, hb, -⟩, -⟩ := id G
  obtain ⟨f, nf, tk, R, A, NL, tp, hC, -, -⟩ := id hRel
  obtain ⟨wx2, wm2, r, e1, e2, hRel⟩ := op_since (N := NB) (by decide) hC (xs (k + 1)) (xs (k + 2))
  refine lv_aload_n hx hb dL_law_875 rfl (lv_at hl 1 rfl) ?_
  refine larg G hl hLW.2.2.2 (j := 1) (by omega) hk dL_law_876 dL_law_877 dL_law_879 rfl dL_law_880 dL_law_881 ?_
  refine larg G hl hLW.2.2.2 (j := 2) (by omega) hk dL_law_882 dL_law_883 dL_law_885 rfl dL_law_886 dL_law_887 ?_
  refine kX G hLW hl.1 cw_X8_since ml_L_99 (c_X8_since l D ca adX PLX _ _ G.okX NB wx (xs (k + 1)) (xs (k + 2)) wx2 r e1) rfl ⟨rfl, rfl⟩ ⟨Nat.le_of_ble_eq_true rfl, Nat.le_of_ble_eq_true rfl⟩ ⟨by omega, by omega⟩ (Nat.le_of_ble_eq_true rfl) rfl dL_law_888 (fun H locs hLW => ?_)
  refine lv_aload_n hx hb dL_law_891 rfl (lv_at hl 2 rfl) ?_
  refine larg G hl hLW.2.2.2 (j := 1) (by omega) hk dL_law_892 dL_law_893 dL_law_895 rfl dL_law_896 dL_law_897 ?_
  refine larg G hl hLW.2.2.2 (j := 2) (by omega) hk dL_law_898 dL_law_899 dL_law_901 rfl dL_law_902 dL_law_903 ?_
  refine kM G hLW hl.1 cw_X9_since ml_L_102 (c_X9_since l D ca adM PLM _ _ G.okM NB wm (xs (k + 1)) (xs (k + 2)) wm2 r e2) rfl ⟨rfl, rfl⟩ ⟨Nat.le_of_ble_eq_true rfl, Nat.le_of_ble_eq_true rfl⟩ ⟨by omega, by omega⟩ (Nat.le_of_ble_eq_true rfl) rfl dL_law_904 (fun H locs hLW => ?_)
  refine lv_icmp_eq (tgt := 1525) hx hb dL_law_907 (by decide) (fun _ => ?_) (fun h => absurd rfl h)
  exact W.widen (k := cells + 2) (n := slots + 12) (by omega) (by omega) (kk _ _ _ _ _ hRel hLW hl)
theorem L_needed {p : Program} {l : Launch} {e : Env} {s : State} {m : MethodId} {below : List Frame} {meth : Method} {c : Code} {H : Heap} {locs : List Loc} {cells slots : Nat} {Q : State → Prop} {ls : Array Slot} {D : va_G} {ca : Nat → ClassId} {adX adM : Nat → Nat → Nat} {ao b L k : Nat} {K V : Nat → Nat} {xs : Nat → Int32} {wx wm : Mem} (G : LG p s m b c meth D ca adX adM ao K V L xs) (hRel : Rel wx wm) (hLW : LW s D ca adX adM ao wx wm H locs) (hl : lv_has ls 7 (LV b adX adM ao k)) (hk : k + 6 ≤ L) (hc : cells + 2 ≤ room_1.cells) (hs : slots + 12 ≤ room_1.slots) (kk : ∀ (wx' wm' : Mem) (H' : Heap) (locs' : List Loc) (ls' : Array Slot), Rel wx' wm' → LW s D ca adX adM ao wx' wm' H' locs' → lv_has ls' 7 (LV b adX adM ao k) → W p l e room_1 s m #[.ref b] below meth c H' locs' (cells + 2) (slots + 12) Q (F0 m 1525 ls' [])) : W p l e room_1 s m #[.ref b] below meth c H locs cells slots Q (F0 m 912 ls []) := by
  obtain ⟨⟨hx, hb, -⟩, -⟩ := id G
  obtain ⟨f, nf, tk, R, A, NL, tp, hC, -, -⟩ := id hRel
  obtain ⟨wx2, wm2, r, e1, e2, hRel⟩ := op_needed (N := NB) (by decide) hC (xs (k + 1)) (xs (k + 2))
  refine lv_aload_n hx hb dL_law_912 rfl (lv_at hl 1 rfl) ?_
  refine larg G hl hLW.2.2.2 (j := 1) (by omega) hk dL_law_913 dL_law_914 dL_law_916 rfl dL_law_917 dL_law_918 ?_
  refine larg G hl hLW.2.2.2 (j := 2) (by omega) hk dL_law_919 dL_law_920 dL_law_922 rfl dL_law_923 dL_law_924 ?_
  refine kX G hLW hl.1 cw_X8_needed ml_L_103 (c_X8_needed l D ca adX PLX _ _ G.okX NB wx (xs (k + 1)) (xs (k + 2)) wx2 r e1) rfl ⟨rfl, rfl⟩ ⟨Nat.le_of_ble_eq_true rfl, Nat.le_of_ble_eq_true rfl⟩ ⟨by omega, by omega⟩ (Nat.le_of_ble_eq_true rfl) rfl dL_law_925 (fun H locs hLW => ?_)
  refine lv_aload_n hx hb dL_law_928 rfl (lv_at hl 2 rfl) ?_
  refine larg G hl hLW.2.2.2 (j := 1) (by omega) hk dL_law_929 dL_law_930 dL_law_932 rfl dL_law_933 dL_law_934 ?_
  refine larg G hl hLW.2.2.2 (j := 2) (by omega) hk dL_law_935 dL_law_936 dL_law_938 rfl dL_law_939 dL_law_940 ?_
  refine kM G hLW hl.1 cw_X9_needed ml_L_106 (c_X9_needed l D ca adM PLM _ _ G.okM NB wm (xs (k + 1)) (xs (k + 2)) wm2 r e2) rfl ⟨rfl, rfl⟩ ⟨Nat.le_of_ble_eq_true rfl, Nat.le_of_ble_eq_true rfl⟩ ⟨by omega, by omega⟩ (Nat.le_of_ble_eq_true rfl) rfl dL_law_941 (fun H locs hLW => ?_)
  refine lv_icmp_eq (tgt := 1525) hx hb dL_law_944 (by decide) (fun _ => ?_) (fun h => absurd rfl h)
  exact W.widen (k := cells + 2) (n := slots + 12) (by omega) (by omega) (kk _ _ _ _ _ hRel hLW hl)
theorem L_many {p : Program} {l : Launch} {e : Env} {s : State} {m : MethodId} {below : List Frame} {meth : Method} {c : Code} {H : Heap} {locs : List Loc} {cells slots : Nat} {Q : State → Prop} {ls : Array Slot} {D : va_G} {ca : Nat → ClassId} {adX adM : Nat → Nat → Nat} {ao b L k : Nat} {K V : Nat → Nat} {xs : Nat → Int32} {wx wm : Mem} (G : LG p s m b c meth D ca adX adM ao K V L xs) (hRel : Rel wx wm) (hLW : LW s D ca adX adM ao wx wm H locs) (hl : lv_has ls 7 (LV b adX adM ao k)) (hk : k + 6 ≤ L) (hc : cells + 2 ≤ room_1.cells) (hs : slots + 12 ≤ room_1.slots) (kk : ∀ (wx' wm' : Mem) (H' : Heap) (locs' : List Loc) (ls' : Array Slot), Rel wx' wm' → LW s D ca adX adM ao wx' wm' H' locs' → lv_has ls' 7 (LV b adX adM ao k) → W p l e room_1 s m #[.ref b] below meth c H' locs' (cells + 2) (slots + 12) Q (F0 m 1525 ls' [])) : W p l e room_1 s m #[.ref b] below meth c H locs cells slots Q (F0 m 949 ls []) := by
  obtain ⟨⟨hx, hb, -⟩, -⟩ := id G
  obtain ⟨f, nf, tk, R, A, NL, tp, hC, -, -⟩ := id hRel
  obtain ⟨wx2, wm2, r, e1, e2, hRel⟩ := op_many (N := NB) (by decide) hC (xs (k + 1)) (xs (k + 2))
  refine lv_aload_n hx hb dL_law_949 rfl (lv_at hl 1 rfl) ?_
  refine larg G hl hLW.2.2.2 (j := 1) (by omega) hk dL_law_950 dL_law_951 dL_law_953 rfl dL_law_954 dL_law_955 ?_
  refine larg G hl hLW.2.2.2 (j := 2) (by omega) hk dL_law_956 dL_law_957 dL_law_959 rfl dL_law_960 dL_law_961 ?_
  refine kX G hLW hl.1 cw_X8_many ml_L_107 (c_X8_many l D ca adX PLX _ _ G.okX NB wx (xs (k + 1)) (xs (k + 2)) wx2 r e1) rfl ⟨rfl, rfl⟩ ⟨Nat.le_of_ble_eq_true rfl, Nat.le_of_ble_eq_true rfl⟩ ⟨by omega, by omega⟩ (Nat.le_of_ble_eq_true rfl) rfl dL_law_962 (fun H locs hLW => ?_)
  refine lv_aload_n hx hb dL_law_965 rfl (lv_at hl 2 rfl) ?_
  refine larg G hl hLW.2.2.2 (j := 1) (by omega) hk dL_law_966 dL_law_967 dL_law_969 rfl dL_law_970 dL_law_971 ?_
  refine larg G hl hLW.2.2.2 (j := 2) (by omega) hk dL_law_972 dL_law_973 dL_law_975 rfl dL_law_976 dL_law_977 ?_
  refine kM G hLW hl.1 cw_X9_many ml_L_110 (c_X9_many l D ca adM PLM _ _ G.okM NB wm (xs (k + 1)) (xs (k + 2)) wm2 r e2) rfl ⟨rfl, rfl⟩ ⟨Nat.le_of_ble_eq_true rfl, Nat.le_of_ble_eq_true rfl⟩ ⟨by omega, by omega⟩ (Nat.le_of_ble_eq_true rfl) rfl dL_law_978 (fun H locs hLW => ?_)
  refine lv_icmp_eq (tgt := 1525) hx hb dL_law_981 (by decide) (fun _ => ?_) (fun h => absurd rfl h)
  exact W.widen (k := cells + 2) (n := slots + 12) (by omega) (by omega) (kk _ _ _ _ _ hRel hLW hl)
theorem L_base {p : Program} {l : Launch} {e : Env} {s : State} {m : MethodId} {below : List Frame} {meth : Method} {c : Code} {H : Heap} {locs : List Loc} {cells slots : Nat} {Q : State → Prop} {ls : Array Slot} {D : va_G} {ca : Nat → ClassId} {adX adM : Nat → Nat → Nat} {ao b L k : Nat} {K V : Nat → Nat} {xs : Nat → Int32} {wx wm : Mem} (G : LG p s m b c meth D ca adX adM ao K V L xs) (hRel : Rel wx wm) (hLW : LW s D ca adX adM ao wx wm H locs) (hl : lv_has ls 7 (LV b adX adM ao k)) (hk : k + 6 ≤ L) (hc : cells + 2 ≤ room_1.cells) (hs : slots + 12 ≤ room_1.slots) (kk : ∀ (wx' wm' : Mem) (H' : Heap) (locs' : List Loc) (ls' : Array Slot), Rel wx' wm' → LW s D ca adX adM ao wx' wm' H' locs' → lv_has ls' 7 (LV b adX adM ao k) → W p l e room_1 s m #[.ref b] below meth c H' locs' (cells + 2) (slots + 12) Q (F0 m 1525 ls' [])) : W p l e room_1 s m #[.ref b] below meth c H locs cells slots Q (F0 m 986 ls []) := by
  obtain ⟨⟨hx, hb, -⟩, -⟩ := id G
  obtain ⟨wx2, wm2, r, e1, e2, hRel⟩ := op_base (N := NB) (by decide) hRel
  refine lv_aload_n hx hb dL_law_986 rfl (lv_at hl 1 rfl) ?_
  refine kX G hLW hl.1 cw_X8_base ml_L_111 (c_X8_base l D ca adX PLX _ _ G.okX NB wx  wx2 r e1) rfl ⟨rfl, rfl⟩ ⟨Nat.le_of_ble_eq_true rfl, Nat.le_of_ble_eq_true rfl⟩ ⟨by omega, by omega⟩ (Nat.le_of_ble_eq_true rfl) rfl dL_law_987 (fun H locs hLW => ?_)
  refine lv_aload_n hx hb dL_law_990 rfl (lv_at hl 2 rfl) ?_
  refine kM G hLW hl.1 cw_X9_base ml_L_114 (c_X9_base l D ca adM PLM _ _ G.okM NB wm  wm2 r e2) rfl ⟨rfl, rfl⟩ ⟨Nat.le_of_ble_eq_true rfl, Nat.le_of_ble_eq_true rfl⟩ ⟨by omega, by omega⟩ (Nat.le_of_ble_eq_true rfl) rfl dL_law_991 (fun H locs hLW => ?_)
  refine lv_icmp_eq (tgt := 1525) hx hb dL_law_994 (by decide) (fun _ => ?_) (fun h => absurd rfl h)
  exact W.widen (k := cells + 2) (n := slots + 12) (by omega) (by omega) (kk _ _ _ _ _ hRel hLW hl)
theorem L_level {p : Program} {l : Launch} {e : Env} {s : State} {m : MethodId} {below : List Frame} {meth : Method} {c : Code} {H : Heap} {locs : List Loc} {cells slots : Nat} {Q : State → Prop} {ls : Array Slot} {D : va_G} {ca : Nat → ClassId} {adX adM : Nat → Nat → Nat} {ao b L k : Nat} {K V : Nat → Nat} {xs : Nat → Int32} {wx wm : Mem} (G : LG p s m b c meth D ca adX adM ao K V L xs) (hRel : Rel wx wm) (hLW : LW s D ca adX adM ao wx wm H locs) (hl : lv_has ls 7 (LV b adX adM ao k)) (hk : k + 6 ≤ L) (hc : cells + 2 ≤ room_1.cells) (hs : slots + 12 ≤ room_1.slots) (kk : ∀ (wx' wm' : Mem) (H' : Heap) (locs' : List Loc) (ls' : Array Slot), Rel wx' wm' → LW s D ca adX adM ao wx' wm' H' locs' → lv_has ls' 7 (LV b adX adM ao k) → W p l e room_1 s m #[.ref b] below meth c H' locs' (cells + 2) (slots + 12) Q (F0 m 1525 ls' [])) : W p l e room_1 s m #[.ref b] below meth c H locs cells slots Q (F0 m 999 ls []) := by
  obtain ⟨⟨hx, hb, -⟩, -⟩ := id G
  obtain ⟨f, nf, tk, R, A, NL, tp, hC, -, -⟩ := id hRel
  obtain ⟨wx2, wm2, r, e1, e2, hRel⟩ := op_level (N := NB) (by decide) hC (xs (k + 1)) (xs (k + 2))
  refine lv_aload_n hx hb dL_law_999 rfl (lv_at hl 1 rfl) ?_
  refine larg G hl hLW.2.2.2 (j := 1) (by omega) hk dL_law_1000 dL_law_1001 dL_law_1003 rfl dL_law_1004 dL_law_1005 ?_
  refine larg G hl hLW.2.2.2 (j := 2) (by omega) hk dL_law_1006 dL_law_1007 dL_law_1009 rfl dL_law_1010 dL_law_1011 ?_
  refine kX G hLW hl.1 cw_X8_level ml_L_115 (c_X8_level l D ca adX PLX _ _ G.okX NB wx (xs (k + 1)) (xs (k + 2)) wx2 r e1) rfl ⟨rfl, rfl⟩ ⟨Nat.le_of_ble_eq_true rfl, Nat.le_of_ble_eq_true rfl⟩ ⟨by omega, by omega⟩ (Nat.le_of_ble_eq_true rfl) rfl dL_law_1012 (fun H locs hLW => ?_)
  refine lv_aload_n hx hb dL_law_1015 rfl (lv_at hl 2 rfl) ?_
  refine larg G hl hLW.2.2.2 (j := 1) (by omega) hk dL_law_1016 dL_law_1017 dL_law_1019 rfl dL_law_1020 dL_law_1021 ?_
  refine larg G hl hLW.2.2.2 (j := 2) (by omega) hk dL_law_1022 dL_law_1023 dL_law_1025 rfl dL_law_1026 dL_law_1027 ?_
  refine kM G hLW hl.1 cw_X9_level ml_L_118 (c_X9_level l D ca adM PLM _ _ G.okM NB wm (xs (k + 1)) (xs (k + 2)) wm2 r e2) rfl ⟨rfl, rfl⟩ ⟨Nat.le_of_ble_eq_true rfl, Nat.le_of_ble_eq_true rfl⟩ ⟨by omega, by omega⟩ (Nat.le_of_ble_eq_true rfl) rfl dL_law_1028 (fun H locs hLW => ?_)
  refine lv_icmp_eq (tgt := 1525) hx hb dL_law_1031 (by decide) (fun _ => ?_) (fun h => absurd rfl h)
  exact W.widen (k := cells + 2) (n := slots + 12) (by omega) (by omega) (kk _ _ _ _ _ hRel hLW hl)
theorem L_cost {p : Program} {l : Launch} {e : Env} {s : State} {m : MethodId} {below : List Frame} {meth : Method} {c : Code} {H : Heap} {locs : List Loc} {cells slots : Nat} {Q : State → Prop} {ls : Array Slot} {D : va_G} {ca : Nat → ClassId} {adX adM : Nat → Nat → Nat} {ao b L k : Nat} {K V : Nat → Nat} {xs : Nat → Int32} {wx wm : Mem} (G : LG p s m b c meth D ca adX adM ao K V L xs) (hRel : Rel wx wm) (hLW : LW s D ca adX adM ao wx wm H locs) (hl : lv_has ls 7 (LV b adX adM ao k)) (hk : k + 6 ≤ L) (hc : cells + 2 ≤ room_1.cells) (hs : slots + 12 ≤ room_1.slots) (kk : ∀ (wx' wm' : Mem) (H' : Heap) (locs' : List Loc) (ls' : Array Slot), Rel wx' wm' → LW s D ca adX adM ao wx' wm' H' locs' → lv_has ls' 7 (LV b adX adM ao k) → W p l e room_1 s m #[.ref b] below meth c H' locs' (cells + 2) (slots + 12) Q (F0 m 1525 ls' [])) : W p l e room_1 s m #[.ref b] below meth c H locs cells slots Q (F0 m 1036 ls []) := by
  obtain ⟨⟨hx, hb, -⟩, -⟩ := id G
  obtain ⟨f, nf, tk, R, A, NL, tp, hC, -, -⟩ := id hRel
  obtain ⟨wx2, wm2, r, e1, e2, hRel⟩ := op_cost (N := NB) (by decide) hC (xs (k + 1)) (xs (k + 2))
  refine lv_aload_n hx hb dL_law_1036 rfl (lv_at hl 1 rfl) ?_
  refine larg G hl hLW.2.2.2 (j := 1) (by omega) hk dL_law_1037 dL_law_1038 dL_law_1040 rfl dL_law_1041 dL_law_1042 ?_
  refine larg G hl hLW.2.2.2 (j := 2) (by omega) hk dL_law_1043 dL_law_1044 dL_law_1046 rfl dL_law_1047 dL_law_1048 ?_
  refine kX G hLW hl.1 cw_X8_cost ml_L_119 (c_X8_cost l D ca adX PLX _ _ G.okX NB wx (xs (k + 1)) (xs (k + 2)) wx2 r e1) rfl ⟨rfl, rfl⟩ ⟨Nat.le_of_ble_eq_true rfl, Nat.le_of_ble_eq_true rfl⟩ ⟨by omega, by omega⟩ (Nat.le_of_ble_eq_true rfl) rfl dL_law_1049 (fun H locs hLW => ?_)
  refine lv_aload_n hx hb dL_law_1052 rfl (lv_at hl 2 rfl) ?_
  refine larg G hl hLW.2.2.2 (j := 1) (by omega) hk dL_law_1053 dL_law_1054 dL_law_1056 rfl dL_law_1057 dL_law_1058 ?_
  refine larg G hl hLW.2.2.2 (j := 2) (by omega) hk dL_law_1059 dL_law_1060 dL_law_1062 rfl dL_law_1063 dL_law_1064 ?_
  refine kM G hLW hl.1 cw_X9_cost ml_L_122 (c_X9_cost l D ca adM PLM _ _ G.okM NB wm (xs (k + 1)) (xs (k + 2)) wm2 r e2) rfl ⟨rfl, rfl⟩ ⟨Nat.le_of_ble_eq_true rfl, Nat.le_of_ble_eq_true rfl⟩ ⟨by omega, by omega⟩ (Nat.le_of_ble_eq_true rfl) rfl dL_law_1065 (fun H locs hLW => ?_)
  refine lv_icmp_eq (tgt := 1525) hx hb dL_law_1068 (by decide) (fun _ => ?_) (fun h => absurd rfl h)
  exact W.widen (k := cells + 2) (n := slots + 12) (by omega) (by omega) (kk _ _ _ _ _ hRel hLW hl)
theorem L_way {p : Program} {l : Launch} {e : Env} {s : State} {m : MethodId} {below : List Frame} {meth : Method} {c : Code} {H : Heap} {locs : List Loc} {cells slots : Nat} {Q : State → Prop} {ls : Array Slot} {D : va_G} {ca : Nat → ClassId} {adX adM : Nat → Nat → Nat} {ao b L k : Nat} {K V : Nat → Nat} {xs : Nat → Int32} {wx wm : Mem} (G : LG p s m b c meth D ca adX adM ao K V L xs) (hRel : Rel wx wm) (hLW : LW s D ca adX adM ao wx wm H locs) (hl : lv_has ls 7 (LV b adX adM ao k)) (hk : k + 6 ≤ L) (hc : cells + 2 ≤ room_1.cells) (hs : slots + 12 ≤ room_1.slots) (kk : ∀ (wx' wm' : Mem) (H' : Heap) (locs' : List Loc) (ls' : Array Slot), Rel wx' wm' → LW s D ca adX adM ao wx' wm' H' locs' → lv_has ls' 7 (LV b adX adM ao k) → W p l e room_1 s m #[.ref b] below meth c H' locs' (cells + 2) (slots + 12) Q (F0 m 1525 ls' [])) : W p l e room_1 s m #[.ref b] below meth c H locs cells slots Q (F0 m 1073 ls []) := by
  obtain ⟨⟨hx, hb, -⟩, -⟩ := id G
  obtain ⟨f, nf, tk, R, A, NL, tp, hC, -, -⟩ := id hRel
  obtain ⟨wx2, wm2, r, e1, e2, hRel⟩ := op_way (N := NB) (by decide) hC (xs (k + 1)) (xs (k + 2)) (xs (k + 3))
  refine lv_aload_n hx hb dL_law_1073 rfl (lv_at hl 1 rfl) ?_
  refine larg G hl hLW.2.2.2 (j := 1) (by omega) hk dL_law_1074 dL_law_1075 dL_law_1077 rfl dL_law_1078 dL_law_1079 ?_
  refine larg G hl hLW.2.2.2 (j := 2) (by omega) hk dL_law_1080 dL_law_1081 dL_law_1083 rfl dL_law_1084 dL_law_1085 ?_
  refine larg G hl hLW.2.2.2 (j := 3) (by omega) hk dL_law_1086 dL_law_1087 dL_law_1089 rfl dL_law_1090 dL_law_1091 ?_
  refine kX G hLW hl.1 cw_X8_way ml_L_123 (c_X8_way l D ca adX PLX _ _ G.okX NB wx (xs (k + 1)) (xs (k + 2)) (xs (k + 3)) wx2 r e1) rfl ⟨rfl, rfl⟩ ⟨Nat.le_of_ble_eq_true rfl, Nat.le_of_ble_eq_true rfl⟩ ⟨by omega, by omega⟩ (Nat.le_of_ble_eq_true rfl) rfl dL_law_1092 (fun H locs hLW => ?_)
  refine lv_aload_n hx hb dL_law_1095 rfl (lv_at hl 2 rfl) ?_
  refine larg G hl hLW.2.2.2 (j := 1) (by omega) hk dL_law_1096 dL_law_1097 dL_law_1099 rfl dL_law_1100 dL_law_1101 ?_
  refine larg G hl hLW.2.2.2 (j := 2) (by omega) hk dL_law_1102 dL_law_1103 dL_law_1105 rfl dL_law_1106 dL_law_1107 ?_
  refine larg G hl hLW.2.2.2 (j := 3) (by omega) hk dL_law_1108 dL_law_1109 dL_law_1111 rfl dL_law_1112 dL_law_1113 ?_
  refine kM G hLW hl.1 cw_X9_way ml_L_126 (c_X9_way l D ca adM PLM _ _ G.okM NB wm (xs (k + 1)) (xs (k + 2)) (xs (k + 3)) wm2 r e2) rfl ⟨rfl, rfl⟩ ⟨Nat.le_of_ble_eq_true rfl, Nat.le_of_ble_eq_true rfl⟩ ⟨by omega, by omega⟩ (Nat.le_of_ble_eq_true rfl) rfl dL_law_1114 (fun H locs hLW => ?_)
  refine lv_icmp_eq (tgt := 1525) hx hb dL_law_1117 (by decide) (fun _ => ?_) (fun h => absurd rfl h)
  exact W.widen (k := cells + 2) (n := slots + 12) (by omega) (by omega) (kk _ _ _ _ _ hRel hLW hl)
theorem L_core {p : Program} {l : Launch} {e : Env} {s : State} {m : MethodId} {below : List Frame} {meth : Method} {c : Code} {H : Heap} {locs : List Loc} {cells slots : Nat} {Q : State → Prop} {ls : Array Slot} {D : va_G} {ca : Nat → ClassId} {adX adM : Nat → Nat → Nat} {ao b L k : Nat} {K V : Nat → Nat} {xs : Nat → Int32} {wx wm : Mem} (G : LG p s m b c meth D ca adX adM ao K V L xs) (hRel : Rel wx wm) (hLW : LW s D ca adX adM ao wx wm H locs) (hl : lv_has ls 7 (LV b adX adM ao k)) (hk : k + 6 ≤ L) (hc : cells + 2 ≤ room_1.cells) (hs : slots + 12 ≤ room_1.slots) (kk : ∀ (wx' wm' : Mem) (H' : Heap) (locs' : List Loc) (ls' : Array Slot), Rel wx' wm' → LW s D ca adX adM ao wx' wm' H' locs' → lv_has ls' 7 (LV b adX adM ao k) → W p l e room_1 s m #[.ref b] below meth c H' locs' (cells + 2) (slots + 12) Q (F0 m 1525 ls' [])) : W p l e room_1 s m #[.ref b] below meth c H locs cells slots Q (F0 m 1122 ls []) := by
  obtain ⟨⟨hx, hb, -⟩, -⟩ := id G
  obtain ⟨wx2, wm2, r, e1, e2, hRel⟩ := op_core (N := NB) (by decide) hRel
  refine lv_aload_n hx hb dL_law_1122 rfl (lv_at hl 1 rfl) ?_
  refine kX G hLW hl.1 cw_X8_core ml_L_127 (c_X8_core l D ca adX PLX _ _ G.okX NB wx  wx2 r e1) rfl ⟨rfl, rfl⟩ ⟨Nat.le_of_ble_eq_true rfl, Nat.le_of_ble_eq_true rfl⟩ ⟨by omega, by omega⟩ (Nat.le_of_ble_eq_true rfl) rfl dL_law_1123 (fun H locs hLW => ?_)
  refine lv_aload_n hx hb dL_law_1126 rfl (lv_at hl 2 rfl) ?_
  refine kM G hLW hl.1 cw_X9_core ml_L_130 (c_X9_core l D ca adM PLM _ _ G.okM NB wm  wm2 r e2) rfl ⟨rfl, rfl⟩ ⟨Nat.le_of_ble_eq_true rfl, Nat.le_of_ble_eq_true rfl⟩ ⟨by omega, by omega⟩ (Nat.le_of_ble_eq_true rfl) rfl dL_law_1127 (fun H locs hLW => ?_)
  refine lv_icmp_eq (tgt := 1525) hx hb dL_law_1130 (by decide) (fun _ => ?_) (fun h => absurd rfl h)
  exact W.widen (k := cells + 2) (n := slots + 12) (by omega) (by omega) (kk _ _ _ _ _ hRel hLW hl)
theorem L_would {p : Program} {l : Launch} {e : Env} {s : State} {m : MethodId} {below : List Frame} {meth : Method} {c : Code} {H : Heap} {locs : List Loc} {cells slots : Nat} {Q : State → Prop} {ls : Array Slot} {D : va_G} {ca : Nat → ClassId} {adX adM : Nat → Nat → Nat} {ao b L k : Nat} {K V : Nat → Nat} {xs : Nat → Int32} {wx wm : Mem} (G : LG p s m b c meth D ca adX adM ao K V L xs) (hRel : Rel wx wm) (hLW : LW s D ca adX adM ao wx wm H locs) (hl : lv_has ls 7 (LV b adX adM ao k)) (hk : k + 6 ≤ L) (hc : cells + 2 ≤ room_1.cells) (hs : slots + 12 ≤ room_1.slots) (kk : ∀ (wx' wm' : Mem) (H' : Heap) (locs' : List Loc) (ls' : Array Slot), Rel wx' wm' → LW s D ca adX adM ao wx' wm' H' locs' → lv_has ls' 7 (LV b adX adM ao k) → W p l e room_1 s m #[.ref b] below meth c H' locs' (cells + 2) (slots + 12) Q (F0 m 1525 ls' [])) : W p l e room_1 s m #[.ref b] below meth c H locs cells slots Q (F0 m 1135 ls []) := by
  obtain ⟨⟨hx, hb, -⟩, -⟩ := id G
  obtain ⟨f, nf, tk, R, A, NL, tp, hC, -, -⟩ := id hRel
  obtain ⟨wx2, wm2, r, e1, e2, hRel⟩ := op_would (N := NB) (by decide) hC (xs (k + 1)) (xs (k + 2)) (xs (k + 3))
  refine lv_aload_n hx hb dL_law_1135 rfl (lv_at hl 1 rfl) ?_
  refine larg G hl hLW.2.2.2 (j := 1) (by omega) hk dL_law_1136 dL_law_1137 dL_law_1139 rfl dL_law_1140 dL_law_1141 ?_
  refine larg G hl hLW.2.2.2 (j := 2) (by omega) hk dL_law_1142 dL_law_1143 dL_law_1145 rfl dL_law_1146 dL_law_1147 ?_
  refine larg G hl hLW.2.2.2 (j := 3) (by omega) hk dL_law_1148 dL_law_1149 dL_law_1151 rfl dL_law_1152 dL_law_1153 ?_
  refine kX G hLW hl.1 cw_X8_would ml_L_131 (c_X8_would l D ca adX PLX _ _ G.okX NB wx (xs (k + 1)) (xs (k + 2)) (xs (k + 3)) wx2 r e1) rfl ⟨rfl, rfl⟩ ⟨Nat.le_of_ble_eq_true rfl, Nat.le_of_ble_eq_true rfl⟩ ⟨by omega, by omega⟩ (Nat.le_of_ble_eq_true rfl) rfl dL_law_1154 (fun H locs hLW => ?_)
  refine lv_aload_n hx hb dL_law_1157 rfl (lv_at hl 2 rfl) ?_
  refine larg G hl hLW.2.2.2 (j := 1) (by omega) hk dL_law_1158 dL_law_1159 dL_law_1161 rfl dL_law_1162 dL_law_1163 ?_
  refine larg G hl hLW.2.2.2 (j := 2) (by omega) hk dL_law_1164 dL_law_1165 dL_law_1167 rfl dL_law_1168 dL_law_1169 ?_
  refine larg G hl hLW.2.2.2 (j := 3) (by omega) hk dL_law_1170 dL_law_1171 dL_law_1173 rfl dL_law_1174 dL_law_1175 ?_
  refine kM G hLW hl.1 cw_X9_would ml_L_134 (c_X9_would l D ca adM PLM _ _ G.okM NB wm (xs (k + 1)) (xs (k + 2)) (xs (k + 3)) wm2 r e2) rfl ⟨rfl, rfl⟩ ⟨Nat.le_of_ble_eq_true rfl, Nat.le_of_ble_eq_true rfl⟩ ⟨by omega, by omega⟩ (Nat.le_of_ble_eq_true rfl) rfl dL_law_1176 (fun H locs hLW => ?_)
  refine lv_icmp_eq (tgt := 1525) hx hb dL_law_1179 (by decide) (fun _ => ?_) (fun h => absurd rfl h)
  exact W.widen (k := cells + 2) (n := slots + 12) (by omega) (by omega) (kk _ _ _ _ _ hRel hLW hl)
theorem L_next {p : Program} {l : Launch} {e : Env} {s : State} {m : MethodId} {below : List Frame} {meth : Method} {c : Code} {H : Heap} {locs : List Loc} {cells slots : Nat} {Q : State → Prop} {ls : Array Slot} {D : va_G} {ca : Nat → ClassId} {adX adM : Nat → Nat → Nat} {ao b L k : Nat} {K V : Nat → Nat} {xs : Nat → Int32} {wx wm : Mem} (G : LG p s m b c meth D ca adX adM ao K V L xs) (hRel : Rel wx wm) (hLW : LW s D ca adX adM ao wx wm H locs) (hl : lv_has ls 7 (LV b adX adM ao k)) (hk : k + 6 ≤ L) (hc : cells + 2 ≤ room_1.cells) (hs : slots + 12 ≤ room_1.slots) (kk : ∀ (wx' wm' : Mem) (H' : Heap) (locs' : List Loc) (ls' : Array Slot), Rel wx' wm' → LW s D ca adX adM ao wx' wm' H' locs' → lv_has ls' 7 (LV b adX adM ao k) → W p l e room_1 s m #[.ref b] below meth c H' locs' (cells + 2) (slots + 12) Q (F0 m 1525 ls' [])) : W p l e room_1 s m #[.ref b] below meth c H locs cells slots Q (F0 m 1184 ls []) := by
  obtain ⟨⟨hx, hb, -⟩, -⟩ := id G
  obtain ⟨f, nf, tk, R, A, NL, tp, hC, -, -⟩ := id hRel
  obtain ⟨wx2, wm2, r, e1, e2, hRel⟩ := op_next (N := NB) (by decide) hC (xs (k + 1)) (xs (k + 2)) (xs (k + 3)) (xs (k + 4))
  refine lv_aload_n hx hb dL_law_1184 rfl (lv_at hl 1 rfl) ?_
  refine larg G hl hLW.2.2.2 (j := 1) (by omega) hk dL_law_1185 dL_law_1186 dL_law_1188 rfl dL_law_1189 dL_law_1190 ?_
  refine larg G hl hLW.2.2.2 (j := 2) (by omega) hk dL_law_1191 dL_law_1192 dL_law_1194 rfl dL_law_1195 dL_law_1196 ?_
  refine larg G hl hLW.2.2.2 (j := 3) (by omega) hk dL_law_1197 dL_law_1198 dL_law_1200 rfl dL_law_1201 dL_law_1202 ?_
  refine larg G hl hLW.2.2.2 (j := 4) (by omega) hk dL_law_1203 dL_law_1204 dL_law_1206 rfl dL_law_1207 dL_law_1208 ?_
  refine kX G hLW hl.1 cw_X8_next ml_L_135 (c_X8_next l D ca adX PLX _ _ G.okX NB wx (xs (k + 1)) (xs (k + 2)) (xs (k + 3)) (xs (k + 4)) wx2 r e1) rfl ⟨rfl, rfl⟩ ⟨Nat.le_of_ble_eq_true rfl, Nat.le_of_ble_eq_true rfl⟩ ⟨by omega, by omega⟩ (Nat.le_of_ble_eq_true rfl) rfl dL_law_1209 (fun H locs hLW => ?_)
  refine lv_aload_n hx hb dL_law_1212 rfl (lv_at hl 2 rfl) ?_
  refine larg G hl hLW.2.2.2 (j := 1) (by omega) hk dL_law_1213 dL_law_1214 dL_law_1216 rfl dL_law_1217 dL_law_1218 ?_
  refine larg G hl hLW.2.2.2 (j := 2) (by omega) hk dL_law_1219 dL_law_1220 dL_law_1222 rfl dL_law_1223 dL_law_1224 ?_
  refine larg G hl hLW.2.2.2 (j := 3) (by omega) hk dL_law_1225 dL_law_1226 dL_law_1228 rfl dL_law_1229 dL_law_1230 ?_
  refine larg G hl hLW.2.2.2 (j := 4) (by omega) hk dL_law_1231 dL_law_1232 dL_law_1234 rfl dL_law_1235 dL_law_1236 ?_
  refine kM G hLW hl.1 cw_X9_next ml_L_139 (c_X9_next l D ca adM PLM _ _ G.okM NB wm (xs (k + 1)) (xs (k + 2)) (xs (k + 3)) (xs (k + 4)) wm2 r e2) rfl ⟨rfl, rfl⟩ ⟨Nat.le_of_ble_eq_true rfl, Nat.le_of_ble_eq_true rfl⟩ ⟨by omega, by omega⟩ (Nat.le_of_ble_eq_true rfl) rfl dL_law_1237 (fun H locs hLW => ?_)
  refine lv_icmp_eq (tgt := 1525) hx hb dL_law_1240 (by decide) (fun _ => ?_) (fun h => absurd rfl h)
  exact W.widen (k := cells + 2) (n := slots + 12) (by omega) (by omega) (kk _ _ _ _ _ hRel hLW hl)
theorem L_without {p : Program} {l : Launch} {e : Env} {s : State} {m : MethodId} {below : List Frame} {meth : Method} {c : Code} {H : Heap} {locs : List Loc} {cells slots : Nat} {Q : State → Prop} {ls : Array Slot} {D : va_G} {ca : Nat → ClassId} {adX adM : Nat → Nat → Nat} {ao b L k : Nat} {K V : Nat → Nat} {xs : Nat → Int32} {wx wm : Mem} (G : LG p s m b c meth D ca adX adM ao K V L xs) (hRel : Rel wx wm) (hLW : LW s D ca adX adM ao wx wm H locs) (hl : lv_has ls 7 (LV b adX adM ao k)) (hk : k + 6 ≤ L) (hc : cells + 2 ≤ room_1.cells) (hs : slots + 12 ≤ room_1.slots) (kk : ∀ (wx' wm' : Mem) (H' : Heap) (locs' : List Loc) (ls' : Array Slot), Rel wx' wm' → LW s D ca adX adM ao wx' wm' H' locs' → lv_has ls' 7 (LV b adX adM ao k) → W p l e room_1 s m #[.ref b] below meth c H' locs' (cells + 2) (slots + 12) Q (F0 m 1525 ls' [])) : W p l e room_1 s m #[.ref b] below meth c H locs cells slots Q (F0 m 1245 ls []) := by
  obtain ⟨⟨hx, hb, -⟩, -⟩ := id G
  obtain ⟨f, nf, tk, R, A, NL, tp, hC, -, -⟩ := id hRel
  obtain ⟨wx2, wm2, r, e1, e2, hRel⟩ := op_without (N := NB) (by decide) hC (xs (k + 1)) (xs (k + 2))
  refine lv_aload_n hx hb dL_law_1245 rfl (lv_at hl 1 rfl) ?_
  refine larg G hl hLW.2.2.2 (j := 1) (by omega) hk dL_law_1246 dL_law_1247 dL_law_1249 rfl dL_law_1250 dL_law_1251 ?_
  refine larg G hl hLW.2.2.2 (j := 2) (by omega) hk dL_law_1252 dL_law_1253 dL_law_1255 rfl dL_law_1256 dL_law_1257 ?_
  refine kX G hLW hl.1 cw_X8_without ml_L_140 (c_X8_without l D ca adX PLX _ _ G.okX NB wx (xs (k + 1)) (xs (k + 2)) wx2 r e1) rfl ⟨rfl, rfl⟩ ⟨Nat.le_of_ble_eq_true rfl, Nat.le_of_ble_eq_true rfl⟩ ⟨by omega, by omega⟩ (Nat.le_of_ble_eq_true rfl) rfl dL_law_1258 (fun H locs hLW => ?_)
  refine lv_aload_n hx hb dL_law_1261 rfl (lv_at hl 2 rfl) ?_
  refine larg G hl hLW.2.2.2 (j := 1) (by omega) hk dL_law_1262 dL_law_1263 dL_law_1265 rfl dL_law_1266 dL_law_1267 ?_
  refine larg G hl hLW.2.2.2 (j := 2) (by omega) hk dL_law_1268 dL_law_1269 dL_law_1271 rfl dL_law_1272 dL_law_1273 ?_
  refine kM G hLW hl.1 cw_X9_without ml_L_143 (c_X9_without l D ca adM PLM _ _ G.okM NB wm (xs (k + 1)) (xs (k + 2)) wm2 r e2) rfl ⟨rfl, rfl⟩ ⟨Nat.le_of_ble_eq_true rfl, Nat.le_of_ble_eq_true rfl⟩ ⟨by omega, by omega⟩ (Nat.le_of_ble_eq_true rfl) rfl dL_law_1274 (fun H locs hLW => ?_)
  refine lv_icmp_eq (tgt := 1525) hx hb dL_law_1277 (by decide) (fun _ => ?_) (fun h => absurd rfl h)
  exact W.widen (k := cells + 2) (n := slots + 12) (by omega) (by omega) (kk _ _ _ _ _ hRel hLW hl)
theorem L_free {p : Program} {l : Launch} {e : Env} {s : State} {m : MethodId} {below : List Frame} {meth : Method} {c : Code} {H : Heap} {locs : List Loc} {cells slots : Nat} {Q : State → Prop} {ls : Array Slot} {D : va_G} {ca : Nat → ClassId} {adX adM : Nat → Nat → Nat} {ao b L k : Nat} {K V : Nat → Nat} {xs : Nat → Int32} {wx wm : Mem} (G : LG p s m b c meth D ca adX adM ao K V L xs) (hRel : Rel wx wm) (hLW : LW s D ca adX adM ao wx wm H locs) (hl : lv_has ls 7 (LV b adX adM ao k)) (hk : k + 6 ≤ L) (hc : cells + 2 ≤ room_1.cells) (hs : slots + 12 ≤ room_1.slots) (kk : ∀ (wx' wm' : Mem) (H' : Heap) (locs' : List Loc) (ls' : Array Slot), Rel wx' wm' → LW s D ca adX adM ao wx' wm' H' locs' → lv_has ls' 7 (LV b adX adM ao k) → W p l e room_1 s m #[.ref b] below meth c H' locs' (cells + 2) (slots + 12) Q (F0 m 1525 ls' [])) : W p l e room_1 s m #[.ref b] below meth c H locs cells slots Q (F0 m 1282 ls []) := by
  obtain ⟨⟨hx, hb, -⟩, -⟩ := id G
  obtain ⟨wx2, wm2, r, e1, e2, hRel⟩ := op_free (N := NB) (by decide) hRel
  refine lv_aload_n hx hb dL_law_1282 rfl (lv_at hl 1 rfl) ?_
  refine kX G hLW hl.1 cw_X8_free ml_L_144 (c_X8_free l D ca adX PLX _ _ G.okX NB wx  wx2 r e1) rfl ⟨rfl, rfl⟩ ⟨Nat.le_of_ble_eq_true rfl, Nat.le_of_ble_eq_true rfl⟩ ⟨by omega, by omega⟩ (Nat.le_of_ble_eq_true rfl) rfl dL_law_1283 (fun H locs hLW => ?_)
  refine lv_aload_n hx hb dL_law_1286 rfl (lv_at hl 2 rfl) ?_
  refine kM G hLW hl.1 cw_X9_free ml_L_147 (c_X9_free l D ca adM PLM _ _ G.okM NB wm  wm2 r e2) rfl ⟨rfl, rfl⟩ ⟨Nat.le_of_ble_eq_true rfl, Nat.le_of_ble_eq_true rfl⟩ ⟨by omega, by omega⟩ (Nat.le_of_ble_eq_true rfl) rfl dL_law_1287 (fun H locs hLW => ?_)
  refine lv_icmp_eq (tgt := 1525) hx hb dL_law_1290 (by decide) (fun _ => ?_) (fun h => absurd rfl h)
  exact W.widen (k := cells + 2) (n := slots + 12) (by omega) (by omega) (kk _ _ _ _ _ hRel hLW hl)
theorem L_join {p : Program} {l : Launch} {e : Env} {s : State} {m : MethodId} {below : List Frame} {meth : Method} {c : Code} {H : Heap} {locs : List Loc} {cells slots : Nat} {Q : State → Prop} {ls : Array Slot} {D : va_G} {ca : Nat → ClassId} {adX adM : Nat → Nat → Nat} {ao b L k : Nat} {K V : Nat → Nat} {xs : Nat → Int32} {wx wm : Mem} (G : LG p s m b c meth D ca adX adM ao K V L xs) (hRel : Rel wx wm) (hLW : LW s D ca adX adM ao wx wm H locs) (hl : lv_has ls 7 (LV b adX adM ao k)) (hk : k + 6 ≤ L) (hc : cells + 2 ≤ room_1.cells) (hs : slots + 12 ≤ room_1.slots) (kk : ∀ (wx' wm' : Mem) (H' : Heap) (locs' : List Loc) (ls' : Array Slot), Rel wx' wm' → LW s D ca adX adM ao wx' wm' H' locs' → lv_has ls' 7 (LV b adX adM ao k) → W p l e room_1 s m #[.ref b] below meth c H' locs' (cells + 2) (slots + 12) Q (F0 m 1525 ls' [])) : W p l e room_1 s m #[.ref b] below meth c H locs cells slots Q (F0 m 1295 ls []) := by
  obtain ⟨⟨hx, hb, -⟩, -⟩ := id G
  obtain ⟨f, nf, tk, R, A, NL, tp, hC, -, -⟩ := id hRel
  obtain ⟨wx2, wm2, r, e1, e2, hRel⟩ := op_join (N := NB) (by decide) hC (xs (k + 1)) (xs (k + 2))
  refine lv_aload_n hx hb dL_law_1295 rfl (lv_at hl 1 rfl) ?_
  refine larg G hl hLW.2.2.2 (j := 1) (by omega) hk dL_law_1296 dL_law_1297 dL_law_1299 rfl dL_law_1300 dL_law_1301 ?_
  refine larg G hl hLW.2.2.2 (j := 2) (by omega) hk dL_law_1302 dL_law_1303 dL_law_1305 rfl dL_law_1306 dL_law_1307 ?_
  refine kX G hLW hl.1 cw_X8_join ml_L_148 (c_X8_join l D ca adX PLX _ _ G.okX NB wx (xs (k + 1)) (xs (k + 2)) wx2 r e1) rfl ⟨rfl, rfl⟩ ⟨Nat.le_of_ble_eq_true rfl, Nat.le_of_ble_eq_true rfl⟩ ⟨by omega, by omega⟩ (Nat.le_of_ble_eq_true rfl) rfl dL_law_1308 (fun H locs hLW => ?_)
  refine lv_aload_n hx hb dL_law_1311 rfl (lv_at hl 2 rfl) ?_
  refine larg G hl hLW.2.2.2 (j := 1) (by omega) hk dL_law_1312 dL_law_1313 dL_law_1315 rfl dL_law_1316 dL_law_1317 ?_
  refine larg G hl hLW.2.2.2 (j := 2) (by omega) hk dL_law_1318 dL_law_1319 dL_law_1321 rfl dL_law_1322 dL_law_1323 ?_
  refine kM G hLW hl.1 cw_X9_join ml_L_151 (c_X9_join l D ca adM PLM _ _ G.okM NB wm (xs (k + 1)) (xs (k + 2)) wm2 r e2) rfl ⟨rfl, rfl⟩ ⟨Nat.le_of_ble_eq_true rfl, Nat.le_of_ble_eq_true rfl⟩ ⟨by omega, by omega⟩ (Nat.le_of_ble_eq_true rfl) rfl dL_law_1324 (fun H locs hLW => ?_)
  refine lv_icmp_eq (tgt := 1525) hx hb dL_law_1327 (by decide) (fun _ => ?_) (fun h => absurd rfl h)
  exact W.widen (k := cells + 2) (n := slots + 12) (by omega) (by omega) (kk _ _ _ _ _ hRel hLW hl)
theorem L_part {p : Program} {l : Launch} {e : Env} {s : State} {m : MethodId} {below : List Frame} {meth : Method} {c : Code} {H : Heap} {locs : List Loc} {cells slots : Nat} {Q : State → Prop} {ls : Array Slot} {D : va_G} {ca : Nat → ClassId} {adX adM : Nat → Nat → Nat} {ao b L k : Nat} {K V : Nat → Nat} {xs : Nat → Int32} {wx wm : Mem} (G : LG p s m b c meth D ca adX adM ao K V L xs) (hRel : Rel wx wm) (hLW : LW s D ca adX adM ao wx wm H locs) (hl : lv_has ls 7 (LV b adX adM ao k)) (hk : k + 6 ≤ L) (hc : cells + 2 ≤ room_1.cells) (hs : slots + 12 ≤ room_1.slots) (kk : ∀ (wx' wm' : Mem) (H' : Heap) (locs' : List Loc) (ls' : Array Slot), Rel wx' wm' → LW s D ca adX adM ao wx' wm' H' locs' → lv_has ls' 7 (LV b adX adM ao k) → W p l e room_1 s m #[.ref b] below meth c H' locs' (cells + 2) (slots + 12) Q (F0 m 1525 ls' [])) : W p l e room_1 s m #[.ref b] below meth c H locs cells slots Q (F0 m 1332 ls []) := by
  obtain ⟨⟨hx, hb, -⟩, -⟩ := id G
  obtain ⟨f, nf, tk, R, A, NL, tp, hC, -, -⟩ := id hRel
  obtain ⟨wx2, wm2, r, e1, e2, hRel⟩ := op_part (N := NB) (by decide) hC (xs (k + 1)) (xs (k + 2))
  refine lv_aload_n hx hb dL_law_1332 rfl (lv_at hl 1 rfl) ?_
  refine larg G hl hLW.2.2.2 (j := 1) (by omega) hk dL_law_1333 dL_law_1334 dL_law_1336 rfl dL_law_1337 dL_law_1338 ?_
  refine larg G hl hLW.2.2.2 (j := 2) (by omega) hk dL_law_1339 dL_law_1340 dL_law_1342 rfl dL_law_1343 dL_law_1344 ?_
  refine kX G hLW hl.1 cw_X8_part ml_L_152 (c_X8_part l D ca adX PLX _ _ G.okX NB wx (xs (k + 1)) (xs (k + 2)) wx2 r e1) rfl ⟨rfl, rfl⟩ ⟨Nat.le_of_ble_eq_true rfl, Nat.le_of_ble_eq_true rfl⟩ ⟨by omega, by omega⟩ (Nat.le_of_ble_eq_true rfl) rfl dL_law_1345 (fun H locs hLW => ?_)
  refine lv_aload_n hx hb dL_law_1348 rfl (lv_at hl 2 rfl) ?_
  refine larg G hl hLW.2.2.2 (j := 1) (by omega) hk dL_law_1349 dL_law_1350 dL_law_1352 rfl dL_law_1353 dL_law_1354 ?_
  refine larg G hl hLW.2.2.2 (j := 2) (by omega) hk dL_law_1355 dL_law_1356 dL_law_1358 rfl dL_law_1359 dL_law_1360 ?_
  refine kM G hLW hl.1 cw_X9_part ml_L_155 (c_X9_part l D ca adM PLM _ _ G.okM NB wm (xs (k + 1)) (xs (k + 2)) wm2 r e2) rfl ⟨rfl, rfl⟩ ⟨Nat.le_of_ble_eq_true rfl, Nat.le_of_ble_eq_true rfl⟩ ⟨by omega, by omega⟩ (Nat.le_of_ble_eq_true rfl) rfl dL_law_1361 (fun H locs hLW => ?_)
  refine lv_icmp_eq (tgt := 1525) hx hb dL_law_1364 (by decide) (fun _ => ?_) (fun h => absurd rfl h)
  exact W.widen (k := cells + 2) (n := slots + 12) (by omega) (by omega) (kk _ _ _ _ _ hRel hLW hl)
theorem L_make {p : Program} {l : Launch} {e : Env} {s : State} {m : MethodId} {below : List Frame} {meth : Method} {c : Code} {H : Heap} {locs : List Loc} {cells slots : Nat} {Q : State → Prop} {ls : Array Slot} {D : va_G} {ca : Nat → ClassId} {adX adM : Nat → Nat → Nat} {ao b L k : Nat} {K V : Nat → Nat} {xs : Nat → Int32} {wx wm : Mem} (G : LG p s m b c meth D ca adX adM ao K V L xs) (hRel : Rel wx wm) (hLW : LW s D ca adX adM ao wx wm H locs) (hl : lv_has ls 7 (LV b adX adM ao k)) (hk : k + 6 ≤ L) (hc : cells + 2 ≤ room_1.cells) (hs : slots + 12 ≤ room_1.slots) (kk : ∀ (wx' wm' : Mem) (H' : Heap) (locs' : List Loc) (ls' : Array Slot), Rel wx' wm' → LW s D ca adX adM ao wx' wm' H' locs' → lv_has ls' 7 (LV b adX adM ao k) → W p l e room_1 s m #[.ref b] below meth c H' locs' (cells + 2) (slots + 12) Q (F0 m 1525 ls' [])) : W p l e room_1 s m #[.ref b] below meth c H locs cells slots Q (F0 m 1369 ls []) := by
  obtain ⟨⟨hx, hb, -⟩, -⟩ := id G
  obtain ⟨f, nf, tk, R, A, NL, tp, hC, -, -⟩ := id hRel
  obtain ⟨wx2, wm2, r, e1, e2, hRel⟩ := op_make (N := NB) (by decide) hC (xs (k + 1)) (xs (k + 2)) (xs (k + 3)) (xs (k + 4))
  refine lv_aload_n hx hb dL_law_1369 rfl (lv_at hl 1 rfl) ?_
  refine larg G hl hLW.2.2.2 (j := 1) (by omega) hk dL_law_1370 dL_law_1371 dL_law_1373 rfl dL_law_1374 dL_law_1375 ?_
  refine larg G hl hLW.2.2.2 (j := 2) (by omega) hk dL_law_1376 dL_law_1377 dL_law_1379 rfl dL_law_1380 dL_law_1381 ?_
  refine larg G hl hLW.2.2.2 (j := 3) (by omega) hk dL_law_1382 dL_law_1383 dL_law_1385 rfl dL_law_1386 dL_law_1387 ?_
  refine larg G hl hLW.2.2.2 (j := 4) (by omega) hk dL_law_1388 dL_law_1389 dL_law_1391 rfl dL_law_1392 dL_law_1393 ?_
  refine kX G hLW hl.1 cw_X8_make ml_L_156 (c_X8_make l D ca adX PLX _ _ G.okX NB wx (xs (k + 1)) (xs (k + 2)) (xs (k + 3)) (xs (k + 4)) wx2 r e1) rfl ⟨rfl, rfl⟩ ⟨Nat.le_of_ble_eq_true rfl, Nat.le_of_ble_eq_true rfl⟩ ⟨by omega, by omega⟩ (Nat.le_of_ble_eq_true rfl) rfl dL_law_1394 (fun H locs hLW => ?_)
  refine lv_aload_n hx hb dL_law_1397 rfl (lv_at hl 2 rfl) ?_
  refine larg G hl hLW.2.2.2 (j := 1) (by omega) hk dL_law_1398 dL_law_1399 dL_law_1401 rfl dL_law_1402 dL_law_1403 ?_
  refine larg G hl hLW.2.2.2 (j := 2) (by omega) hk dL_law_1404 dL_law_1405 dL_law_1407 rfl dL_law_1408 dL_law_1409 ?_
  refine larg G hl hLW.2.2.2 (j := 3) (by omega) hk dL_law_1410 dL_law_1411 dL_law_1413 rfl dL_law_1414 dL_law_1415 ?_
  refine larg G hl hLW.2.2.2 (j := 4) (by omega) hk dL_law_1416 dL_law_1417 dL_law_1419 rfl dL_law_1420 dL_law_1421 ?_
  refine kM G hLW hl.1 cw_X9_make ml_L_159 (c_X9_make l D ca adM PLM _ _ G.okM NB wm (xs (k + 1)) (xs (k + 2)) (xs (k + 3)) (xs (k + 4)) wm2 r e2) rfl ⟨rfl, rfl⟩ ⟨Nat.le_of_ble_eq_true rfl, Nat.le_of_ble_eq_true rfl⟩ ⟨by omega, by omega⟩ (Nat.le_of_ble_eq_true rfl) rfl dL_law_1422 (fun H locs hLW => ?_)
  refine lv_icmp_eq (tgt := 1525) hx hb dL_law_1425 (by decide) (fun _ => ?_) (fun h => absurd rfl h)
  exact W.widen (k := cells + 2) (n := slots + 12) (by omega) (by omega) (kk _ _ _ _ _ hRel hLW hl)
theorem L_undo {p : Program} {l : Launch} {e : Env} {s : State} {m : MethodId} {below : List Frame} {meth : Method} {c : Code} {H : Heap} {locs : List Loc} {cells slots : Nat} {Q : State → Prop} {ls : Array Slot} {D : va_G} {ca : Nat → ClassId} {adX adM : Nat → Nat → Nat} {ao b L k : Nat} {K V : Nat → Nat} {xs : Nat → Int32} {wx wm : Mem} (G : LG p s m b c meth D ca adX adM ao K V L xs) (hRel : Rel wx wm) (hLW : LW s D ca adX adM ao wx wm H locs) (hl : lv_has ls 7 (LV b adX adM ao k)) (hk : k + 6 ≤ L) (hc : cells + 2 ≤ room_1.cells) (hs : slots + 12 ≤ room_1.slots) (kk : ∀ (wx' wm' : Mem) (H' : Heap) (locs' : List Loc) (ls' : Array Slot), Rel wx' wm' → LW s D ca adX adM ao wx' wm' H' locs' → lv_has ls' 7 (LV b adX adM ao k) → W p l e room_1 s m #[.ref b] below meth c H' locs' (cells + 2) (slots + 12) Q (F0 m 1525 ls' [])) : W p l e room_1 s m #[.ref b] below meth c H locs cells slots Q (F0 m 1430 ls []) := by
  obtain ⟨⟨hx, hb, -⟩, -⟩ := id G
  obtain ⟨wx2, wm2, r, e1, e2, hRel⟩ := op_undo (N := NB) (by decide) hRel
  refine lv_aload_n hx hb dL_law_1430 rfl (lv_at hl 1 rfl) ?_
  refine kX G hLW hl.1 cw_X8_undo ml_L_160 (c_X8_undo l D ca adX PLX _ _ G.okX NB wx  wx2 r e1) rfl ⟨rfl, rfl⟩ ⟨Nat.le_of_ble_eq_true rfl, Nat.le_of_ble_eq_true rfl⟩ ⟨by omega, by omega⟩ (Nat.le_of_ble_eq_true rfl) rfl dL_law_1431 (fun H locs hLW => ?_)
  refine lv_aload_n hx hb dL_law_1434 rfl (lv_at hl 2 rfl) ?_
  refine kM G hLW hl.1 cw_X9_undo ml_L_164 (c_X9_undo l D ca adM PLM _ _ G.okM NB wm  wm2 r e2) rfl ⟨rfl, rfl⟩ ⟨Nat.le_of_ble_eq_true rfl, Nat.le_of_ble_eq_true rfl⟩ ⟨by omega, by omega⟩ (Nat.le_of_ble_eq_true rfl) rfl dL_law_1435 (fun H locs hLW => ?_)
  refine lv_icmp_eq (tgt := 1525) hx hb dL_law_1438 (by decide) (fun _ => ?_) (fun h => absurd rfl h)
  exact W.widen (k := cells + 2) (n := slots + 12) (by omega) (by omega) (kk _ _ _ _ _ hRel hLW hl)
theorem L_size {p : Program} {l : Launch} {e : Env} {s : State} {m : MethodId} {below : List Frame} {meth : Method} {c : Code} {H : Heap} {locs : List Loc} {cells slots : Nat} {Q : State → Prop} {ls : Array Slot} {D : va_G} {ca : Nat → ClassId} {adX adM : Nat → Nat → Nat} {ao b L k : Nat} {K V : Nat → Nat} {xs : Nat → Int32} {wx wm : Mem} (G : LG p s m b c meth D ca adX adM ao K V L xs) (hRel : Rel wx wm) (hLW : LW s D ca adX adM ao wx wm H locs) (hl : lv_has ls 7 (LV b adX adM ao k)) (hk : k + 6 ≤ L) (hc : cells + 2 ≤ room_1.cells) (hs : slots + 12 ≤ room_1.slots) (kk : ∀ (wx' wm' : Mem) (H' : Heap) (locs' : List Loc) (ls' : Array Slot), Rel wx' wm' → LW s D ca adX adM ao wx' wm' H' locs' → lv_has ls' 7 (LV b adX adM ao k) → W p l e room_1 s m #[.ref b] below meth c H' locs' (cells + 2) (slots + 12) Q (F0 m 1525 ls' [])) : W p l e room_1 s m #[.ref b] below meth c H locs cells slots Q (F0 m 1499 ls []) := by
  obtain ⟨⟨hx, hb, -⟩, -⟩ := id G
  obtain ⟨wm2, r, e1, e2, hRel⟩ := op_size (N := NB) hRel
  refine lv_aload_n hx hb dL_law_1499 rfl (lv_at hl 1 rfl) ?_
  refine kX G hLW hl.1 cw_X8_size ml_L_174 (c_X8_size l D ca adX PLX _ _ G.okX NB wx   r e1) rfl ⟨rfl, rfl⟩ ⟨Nat.le_of_ble_eq_true rfl, Nat.le_of_ble_eq_true rfl⟩ ⟨by omega, by omega⟩ (Nat.le_of_ble_eq_true rfl) rfl dL_law_1500 (fun H locs hLW => ?_)
  refine lv_aload_n hx hb dL_law_1503 rfl (lv_at hl 2 rfl) ?_
  refine kM G hLW hl.1 cw_X9_size ml_L_177 (c_X9_size l D ca adM PLM _ _ G.okM NB wm  wm2 r e2) rfl ⟨rfl, rfl⟩ ⟨Nat.le_of_ble_eq_true rfl, Nat.le_of_ble_eq_true rfl⟩ ⟨by omega, by omega⟩ (Nat.le_of_ble_eq_true rfl) rfl dL_law_1504 (fun H locs hLW => ?_)
  refine lv_icmp_eq (tgt := 1525) hx hb dL_law_1507 (by decide) (fun _ => ?_) (fun h => absurd rfl h)
  exact W.widen (k := cells + 2) (n := slots + 12) (by omega) (by omega) (kk _ _ _ _ _ hRel hLW hl)
theorem L_trouble {p : Program} {l : Launch} {e : Env} {s : State} {m : MethodId} {below : List Frame} {meth : Method} {c : Code} {H : Heap} {locs : List Loc} {cells slots : Nat} {Q : State → Prop} {ls : Array Slot} {D : va_G} {ca : Nat → ClassId} {adX adM : Nat → Nat → Nat} {ao b L k : Nat} {K V : Nat → Nat} {xs : Nat → Int32} {wx wm : Mem} (G : LG p s m b c meth D ca adX adM ao K V L xs) (hRel : Rel wx wm) (hLW : LW s D ca adX adM ao wx wm H locs) (hl : lv_has ls 7 (LV b adX adM ao k)) (hk : k + 6 ≤ L) (hc : cells + 2 ≤ room_1.cells) (hs : slots + 12 ≤ room_1.slots) (kk : ∀ (wx' wm' : Mem) (H' : Heap) (locs' : List Loc) (ls' : Array Slot), Rel wx' wm' → LW s D ca adX adM ao wx' wm' H' locs' → lv_has ls' 7 (LV b adX adM ao k) → W p l e room_1 s m #[.ref b] below meth c H' locs' (cells + 2) (slots + 12) Q (F0 m 1525 ls' [])) : W p l e room_1 s m #[.ref b] below meth c H locs cells slots Q (F0 m 1512 ls []) := by
  obtain ⟨⟨hx, hb, -⟩, -⟩ := id G
  obtain ⟨wm2, r, e1, e2, hRel⟩ := op_trouble (N := NB) hRel
  refine lv_aload_n hx hb dL_law_1512 rfl (lv_at hl 1 rfl) ?_
  refine kX G hLW hl.1 cw_X8_trouble ml_L_178 (c_X8_trouble l D ca adX PLX _ _ G.okX NB wx   r e1) rfl ⟨rfl, rfl⟩ ⟨Nat.le_of_ble_eq_true rfl, Nat.le_of_ble_eq_true rfl⟩ ⟨by omega, by omega⟩ (Nat.le_of_ble_eq_true rfl) rfl dL_law_1513 (fun H locs hLW => ?_)
  refine lv_aload_n hx hb dL_law_1516 rfl (lv_at hl 2 rfl) ?_
  refine kM G hLW hl.1 cw_X9_trouble ml_L_181 (c_X9_trouble l D ca adM PLM _ _ G.okM NB wm  wm2 r e2) rfl ⟨rfl, rfl⟩ ⟨Nat.le_of_ble_eq_true rfl, Nat.le_of_ble_eq_true rfl⟩ ⟨by omega, by omega⟩ (Nat.le_of_ble_eq_true rfl) rfl dL_law_1517 (fun H locs hLW => ?_)
  refine lv_icmp_eq (tgt := 1525) hx hb dL_law_1520 (by decide) (fun _ => ?_) (fun h => absurd rfl h)
  exact W.widen (k := cells + 2) (n := slots + 12) (by omega) (by omega) (kk _ _ _ _ _ hRel hLW hl)
