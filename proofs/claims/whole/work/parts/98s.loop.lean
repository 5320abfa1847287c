/-! the law: what a round does; its loop -/
set_option maxHeartbeats 4000000 in
theorem L_body {p : Program} {l : Launch} {e : Env} {s : State} {m : MethodId} {below : List Frame} {meth : Method} {c : Code} {H : Heap} {locs : List Loc} {cells slots : Nat} {Q : State → Prop} {ls : Array Slot} {D : va_G} {ca : Nat → ClassId} {adX adM : Nat → Nat → Nat} {ao b L k : Nat} {K V : Nat → Nat} {xs : Nat → Int32} {wx wm : Mem} (hfl : l.stackTraces = false) (G : LG p s m b c meth D ca adX adM ao K V L xs) (hRel : Rel wx wm) (hLW : LW s D ca adX adM ao wx wm H locs) (hl : lv_has ls 7 (LV b adX adM ao k)) (hk : k + 6 ≤ L) (x : Int32) (hc : cells + 2 ≤ room_1.cells) (hs : slots + 12 ≤ room_1.slots) (kk : ∀ (wx' wm' : Mem) (H' : Heap) (locs' : List Loc) (ls' : Array Slot), Rel wx' wm' → LW s D ca adX adM ao wx' wm' H' locs' → lv_has ls' 7 (LV b adX adM ao k) → W p l e room_1 s m #[.ref b] below meth c H' locs' (cells + 2) (slots + 12) Q (F0 m 1525 ls' [])) : W p l e room_1 s m #[.ref b] below meth c H locs cells slots Q (F0 m 40 ls [.int x]) := by
  obtain ⟨⟨hx, hb, -⟩, -⟩ := id G
  have hout : W p l e room_1 s m #[.ref b] below meth c H locs cells slots Q (F0 m 1525 ls []) := W.widen (k := cells + 2) (n := slots + 12) (by omega) (by omega) (kk _ _ _ _ _ hRel hLW hl)
  rcases i_cases x with hneg | ⟨q, hq, rfl⟩
  · refine lv_tableOut (tgt := 1525) hx hb dL_law_40 (Or.inl ?_) (by decide) hout
    rw [Int32.lt_iff_toInt_lt] at hneg
    exact hneg
  · by_cases hq38 : q < 38
    · have hq2 : q = 0 ∨ q = 1 ∨ q = 2 ∨ q = 3 ∨ q = 4 ∨ q = 5 ∨ q = 6 ∨ q = 7 ∨ q = 8 ∨ q = 9 ∨ q = 10 ∨ q = 11 ∨ q = 12 ∨ q = 13 ∨ q = 14 ∨ q = 15 ∨ q = 16 ∨ q = 17 ∨ q = 18 ∨ q = 19 ∨ q = 20 ∨ q = 21 ∨ q = 22 ∨ q = 23 ∨ q = 24 ∨ q = 25 ∨ q = 26 ∨ q = 27 ∨ q = 28 ∨ q = 29 ∨ q = 30 ∨ q = 31 ∨ q = 32 ∨ q = 33 ∨ q = 34 ∨ q = 35 ∨ q = 36 ∨ q = 37 := by omega
      rcases hq2 with rfl | rfl | rfl | rfl | rfl | rfl | rfl | rfl | rfl | rfl | rfl | rfl | rfl | rfl | rfl | rfl | rfl | rfl | rfl | rfl | rfl | rfl | rfl | rfl | rfl | rfl | rfl | rfl | rfl | rfl | rfl | rfl | rfl | rfl | rfl | rfl | rfl | rfl
      · refine lv_tableIn (tgt := 208) hx hb dL_law_40 (by decide) (by decide) rfl (by decide) ?_
        exact L_feed G hRel hLW hl hk hc hs kk
      · refine lv_tableIn (tgt := 281) hx hb dL_law_40 (by decide) (by decide) rfl (by decide) ?_
        exact L_text G hRel hLW hl hk hc hs kk
      · refine lv_tableIn (tgt := 306) hx hb dL_law_40 (by decide) (by decide) rfl (by decide) ?_
        exact L_fault G hRel hLW hl hk hc hs kk
      · refine lv_tableIn (tgt := 319) hx hb dL_law_40 (by decide) (by decide) rfl (by decide) ?_
        exact L_where G hRel hLW hl hk hc hs kk
      · refine lv_tableIn (tgt := 332) hx hb dL_law_40 (by decide) (by decide) rfl (by decide) ?_
        exact L_about G hRel hLW hl hk hc hs kk
      · refine lv_tableIn (tgt := 357) hx hb dL_law_40 (by decide) (by decide) rfl (by decide) ?_
        exact L_function G hRel hLW hl hk hc hs kk
      · refine lv_tableIn (tgt := 394) hx hb dL_law_40 (by decide) (by decide) rfl (by decide) ?_
        exact L_term G hRel hLW hl hk hc hs kk
      · refine lv_tableIn (tgt := 431) hx hb dL_law_40 (by decide) (by decide) rfl (by decide) ?_
        exact L_partOf G hRel hLW hl hk hc hs kk
      · refine lv_tableIn (tgt := 468) hx hb dL_law_40 (by decide) (by decide) rfl (by decide) ?_
        exact L_sameOf G hRel hLW hl hk hc hs kk
      · refine lv_tableIn (tgt := 505) hx hb dL_law_40 (by decide) (by decide) rfl (by decide) ?_
        exact L_diffOf G hRel hLW hl hk hc hs kk
      · refine lv_tableIn (tgt := 542) hx hb dL_law_40 (by decide) (by decide) rfl (by decide) ?_
        exact L_joinOf G hRel hLW hl hk hc hs kk
      · refine lv_tableIn (tgt := 579) hx hb dL_law_40 (by decide) (by decide) rfl (by decide) ?_
        exact L_height G hRel hLW hl hk hc hs kk
      · refine lv_tableIn (tgt := 604) hx hb dL_law_40 (by decide) (by decide) rfl (by decide) ?_
        exact L_hung G hRel hLW hl hk hc hs kk
      · refine lv_tableIn (tgt := 641) hx hb dL_law_40 (by decide) (by decide) rfl (by decide) ?_
        exact L_equal G hRel hLW hl hk hc hs kk
      · refine lv_tableIn (tgt := 678) hx hb dL_law_40 (by decide) (by decide) rfl (by decide) ?_
        exact L_apart G hRel hLW hl hk hc hs kk
      · refine lv_tableIn (tgt := 715) hx hb dL_law_40 (by decide) (by decide) rfl (by decide) ?_
        exact L_reasons G hRel hLW hl hk hc hs kk
      · refine lv_tableIn (tgt := 752) hx hb dL_law_40 (by decide) (by decide) rfl (by decide) ?_
        exact L_pruned G hRel hLW hl hk hc hs kk
      · refine lv_tableIn (tgt := 789) hx hb dL_law_40 (by decide) (by decide) rfl (by decide) ?_
        exact L_fewest G hRel hLW hl hk hc hs kk
      · refine lv_tableIn (tgt := 826) hx hb dL_law_40 (by decide) (by decide) rfl (by decide) ?_
        exact L_proves G hRel hLW hl hk hc hs kk
      · refine lv_tableIn (tgt := 875) hx hb dL_law_40 (by decide) (by decide) rfl (by decide) ?_
        exact L_since G hRel hLW hl hk hc hs kk
      · refine lv_tableIn (tgt := 912) hx hb dL_law_40 (by decide) (by decide) rfl (by decide) ?_
        exact L_needed G hRel hLW hl hk hc hs kk
      · refine lv_tableIn (tgt := 949) hx hb dL_law_40 (by decide) (by decide) rfl (by decide) ?_
        exact L_many G hRel hLW hl hk hc hs kk
      · refine lv_tableIn (tgt := 986) hx hb dL_law_40 (by decide) (by decide) rfl (by decide) ?_
        exact L_base G hRel hLW hl hk hc hs kk
      · refine lv_tableIn (tgt := 999) hx hb dL_law_40 (by decide) (by decide) rfl (by decide) ?_
        exact L_level G hRel hLW hl hk hc hs kk
      · refine lv_tableIn (tgt := 1036) hx hb dL_law_40 (by decide) (by decide) rfl (by decide) ?_
        exact L_cost G hRel hLW hl hk hc hs kk
      · refine lv_tableIn (tgt := 1073) hx hb dL_law_40 (by decide) (by decide) rfl (by decide) ?_
        exact L_way G hRel hLW hl hk hc hs kk
      · refine lv_tableIn (tgt := 1122) hx hb dL_law_40 (by decide) (by decide) rfl (by decide) ?_
        exact L_core G hRel hLW hl hk hc hs kk
      · refine lv_tableIn (tgt := 1135) hx hb dL_law_40 (by decide) (by decide) rfl (by decide) ?_
        exact L_would G hRel hLW hl hk hc hs kk
      · refine lv_tableIn (tgt := 1184) hx hb dL_law_40 (by decide) (by decide) rfl (by decide) ?_
        exact L_next G hRel hLW hl hk hc hs kk
      · refine lv_tableIn (tgt := 1245) hx hb dL_law_40 (by decide) (by decide) rfl (by decide) ?_
        exact L_without G hRel hLW hl hk hc hs kk
      · refine lv_tableIn (tgt := 1282) hx hb dL_law_40 (by decide) (by decide) rfl (by decide) ?_
        exact L_free G hRel hLW hl hk hc hs kk
      · refine lv_tableIn (tgt := 1295) hx hb dL_law_40 (by decide) (by decide) rfl (by decide) ?_
        exact L_join G hRel hLW hl hk hc hs kk
      · refine lv_tableIn (tgt := 1332) hx hb dL_law_40 (by decide) (by decide) rfl (by decide) ?_
        exact L_part G hRel hLW hl hk hc hs kk
      · refine lv_tableIn (tgt := 1369) hx hb dL_law_40 (by decide) (by decide) rfl (by decide) ?_
        exact L_make G hRel hLW hl hk hc hs kk
      · refine lv_tableIn (tgt := 1430) hx hb dL_law_40 (by decide) (by decide) rfl (by decide) ?_
        exact L_undo G hRel hLW hl hk hc hs kk
      · refine lv_tableIn (tgt := 1443) hx hb dL_law_40 (by decide) (by decide) rfl (by decide) ?_
        exact L_named hfl G hRel hLW hl hk hc hs kk
      · refine lv_tableIn (tgt := 1499) hx hb dL_law_40 (by decide) (by decide) rfl (by decide) ?_
        exact L_size G hRel hLW hl hk hc hs kk
      · refine lv_tableIn (tgt := 1512) hx hb dL_law_40 (by decide) (by decide) rfl (by decide) ?_
        exact L_trouble G hRel hLW hl hk hc hs kk
    · refine lv_tableOut (tgt := 1525) hx hb dL_law_40 (Or.inr ?_) (by decide) hout
      rw [nI_int (by omega)]
      omega
theorem lt_head {L k : Nat} (hL : L ≤ 3072) (hk : k ≤ 3072) : (Int32.ofNat L - 6 < nI k) ↔ ¬ k + 6 ≤ L := by
  have e : Int32.ofNat L = nI L := rfl
  rw [e]
  by_cases z : 6 ≤ L
  · rw [li6, q_sub z, nI_lt_iff (by omega) (by omega)]
    omega
  · have h1 : nI L - 6 < nI k := by
      refine i_lt_of_lt_le (y := 0) ?_ (nI_nn (by omega))
      have hq : L = 0 ∨ L = 1 ∨ L = 2 ∨ L = 3 ∨ L = 4 ∨ L = 5 := by omega
      rcases hq with rfl | rfl | rfl | rfl | rfl | rfl <;> decide
    exact ⟨fun _ => by omega, fun _ => h1⟩
/-- the law's end, with 1 on the stack, nothing written that was there before, its room as the claim has it -/
def LZ (below : List Frame) (a : Array Value) (s : State) : State → Prop := fun t => ∃ o, t.status = .running ∧ Ended t below o ∧ (o = .returned (some (.int 1)) ∧ Framed s o t [] 601024 7293034)
theorem law_end {p : Program} {l : Launch} {e : Env} {s : State} {m : MethodId} {below : List Frame} {meth : Method} {c : Code} {b : Nat} (hx : p.tables.exec = Jvm.exec) (hb : c.code = code) (hr : meth.sig.returnType = ret) (hlocks : meth.locks = false) {pc : Nat} {H : Heap} {ls : Array Slot} (hdg : decode code pc = .ok (.ireturn, 1)) : W p l e room_1 s m #[Value.ref b] below meth c H [] 601024 7293034 (LZ below #[Value.ref b] s) (F0 m pc ls [.int 1]) := by
  intro T hT X
  obtain ⟨fs, hret, hrun, hended, hW, hframe⟩ := X.leave (v := some (.int 1)) (hlocks := hlocks) (fun h => by rw [hr] at h; cases h)
  have hmeth' : T.vm.method? m = some meth := X.method'
  refine ⟨T.setFrames fs, ?_, .returned (some (.int 1)), hrun, hended, rfl, ⟨_, rfl⟩, hW, hframe⟩
  jvm_step X.here [X.here.top, hx, hb, hdg, hmeth', hr, ret, narrow_b1]
  (try refine ⟨rfl, ?_⟩); (try refine ⟨rfl, ?_⟩)
  first | (intro acts; rw [hret _ acts rfl rfl rfl]) | rw [hret _ _ rfl rfl rfl]
  exact Steps.refl _
set_option maxHeartbeats 4000000 in
theorem law_loop {p : Program} {l : Launch} {e : Env} {s : State} {m : MethodId} {below : List Frame} {meth : Method} {c : Code} {D : va_G} {ca : Nat → ClassId} {adX adM : Nat → Nat → Nat} {ao b L : Nat} {K V : Nat → Nat} {xs : Nat → Int32} (hfl : l.stackTraces = false) (G : LG p s m b c meth D ca adX adM ao K V L xs) {cb sb : Nat} (hcb : cb + 1100 ≤ 601024) (hsb : sb + 6500 ≤ 7293034) : ∀ (n j : Nat) (H : Heap) (locs : List Loc) (ls : Array Slot) (wx wm : Mem), L < 6 * j + 6 * n + 6 → 6 * j ≤ L → Rel wx wm → LW s D ca adX adM ao wx wm H locs → lv_has ls 7 (LV b adX adM ao (6 * j)) → W p l e room_1 s m #[.ref b] below meth c H locs (cb + 2 * j) (sb + 12 * j) (LZ below #[.ref b] s) (F0 m 23 ls []) := by
  obtain ⟨⟨hx, hb, hml, hown, hts, hK, hZ⟩, ⟨hr, hlocks⟩, ⟨hXs, hbl, hL⟩, -⟩ := id G
  intro n
  induction n with
  | zero =>
    intro j H locs ls wx wm h1 h2 hRel hLW hl
    refine lv_iload hx hb dL_law_23 (lv_at hl 4 rfl) ?_
    refine lv_aload_n hx hb dL_law_25 rfl (lv_at hl 0 rfl) ?_
    refine va_slen hx hb hXs hbl (Nat.not_le.mpr hbl) hLW.2.2.2 dL_law_26 ?_
    refine lv_bipush (v := 6) hx hb dL_law_27 (by decide) ?_
    refine lv_isub hx hb dL_law_29 ?_
    refine lv_icmp_gt (tgt := 1531) hx hb dL_law_30 (by decide) (fun _ => ?_) (fun hc => absurd ((lt_head hL (by omega)).mpr (by omega)) hc)
    refine lv_iconst (v := 1) hx hb dL_law_1531 (by decide) ?_
    refine W.widen (k := 601024) (n := 7293034) (by omega) (by omega) ?_
    exact va_forget (fun q hq => hLW.2.2.2.2.2 q hq) (law_end hx hb hr hlocks dL_law_1532)
  | succ n ih =>
    intro j H locs ls wx wm h1 h2 hRel hLW hl
    refine lv_iload hx hb dL_law_23 (lv_at hl 4 rfl) ?_
    refine lv_aload_n hx hb dL_law_25 rfl (lv_at hl 0 rfl) ?_
    refine va_slen hx hb hXs hbl (Nat.not_le.mpr hbl) hLW.2.2.2 dL_law_26 ?_
    refine lv_bipush (v := 6) hx hb dL_law_27 (by decide) ?_
    refine lv_isub hx hb dL_law_29 ?_
    refine lv_icmp_gt (tgt := 1531) hx hb dL_law_30 (by decide) (fun _ => ?_) (fun hc => ?_)
    · refine lv_iconst (v := 1) hx hb dL_law_1531 (by decide) ?_
      refine W.widen (k := 601024) (n := 7293034) (by omega) (by omega) ?_
      exact va_forget (fun q hq => hLW.2.2.2.2.2 q hq) (law_end hx hb hr hlocks dL_law_1532)
    · have hk : 6 * j + 6 ≤ L := Classical.not_not.mp (fun z => hc ((lt_head hL (by omega)).mpr z))
      refine lv_aload_n hx hb dL_law_33 rfl (lv_at hl 0 rfl) ?_
      refine lv_iload hx hb dL_law_34 (lv_at hl 4 rfl) ?_
      refine va_sld hx hb hXs hbl (Nat.not_le.mpr hbl) hLW.2.2.2 (inb_in (inb_t (by omega) (by omega))) dL_law_36 ?_
      refine lv_bipush (v := 63) hx hb dL_law_37 (by decide) ?_
      refine lv_iand hx hb dL_law_39 ?_
      refine L_body hfl G hRel hLW hl hk _ (show cb + 2 * j + 2 ≤ 601024 by omega) (show sb + 12 * j + 12 ≤ 7293034 by omega) (fun wx' wm' H' locs' ls' hRel' hLW' hl' => ?_)
      refine lv_iinc (i := 4) (k := 4) (v := nI (6 * (j + 1))) (lv' := [(4, .int (nI (6 * (j + 1)))), (0, .ref b), (1, .ref (adX 8 0)), (2, .ref (adM 9 0)), (3, .ref ao)]) hx hb dL_law_1525 hl' rfl (by rw [show Int32.ofInt 6 = nI 6 by decide, q_add, show 6 * j + 6 = 6 * (j + 1) by omega]) (by decide) rfl (fun ls2 hl2 => ?_)
      refine lv_goto (tgt := 23) hx hb dL_law_1528 (by decide) ?_
      have := ih (j + 1) H' locs' ls2 wx' wm' (by omega) (by omega) hRel' hLW' (lv_sub (l' := LV b adX adM ao (6 * (j + 1))) hl2 [1, 2, 3, 4, 0] rfl)
      rw [show cb + 2 * (j + 1) = cb + 2 * j + 2 by omega, show sb + 12 * (j + 1) = sb + 12 * j + 12 by omega] at this
      exact this
