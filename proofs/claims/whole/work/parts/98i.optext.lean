/-! text: the call -/
theorem RW1.move {w v : Mem} {p p' : Nat} {r : Row} (h : RW1 w p r) (h1 : gA v 42 0 p' = gA w 42 0 p) (h2 : ∀ i, i < 4 → gA v 43 0 (4 * p' + i) = gA w 43 0 (4 * p + i)) (hr : ∀ x, r = .inl x → x.2.length ≤ 3) : RW1 v p' r := by
  have e0 : gA v 43 0 (4 * p') = gA w 43 0 (4 * p) := h2 0 (by omega)
  have e1 : gA v 43 0 (4 * p' + 1) = gA w 43 0 (4 * p + 1) := h2 1 (by omega)
  cases r with
  | inl x =>
    obtain ⟨f, ps⟩ := x
    have h3 : ps.length ≤ 3 := hr (f, ps) rfl
    obtain ⟨a, b, c⟩ := h
    refine ⟨h1.trans a, e0.trans b, fun k hk => ?_⟩
    rw [show 4 * p' + 1 + k = 4 * p' + (1 + k) by omega, h2 (1 + k) (by omega), show 4 * p + (1 + k) = 4 * p + 1 + k by omega]
    exact c k hk
  | inr y =>
    obtain ⟨bb, a, b⟩ := y
    cases bb with
    | true => obtain ⟨a, b, c⟩ := h; exact ⟨h1.trans a, e0.trans b, e1.trans c⟩
    | false => obtain ⟨a, b, c⟩ := h; exact ⟨h1.trans a, e0.trans b, e1.trans c⟩
theorem okRs_in {tk : Nat → Nat} {nf : Nat} {x : Nat × List Nat} : ∀ {rs : List Row} {c : Core}, okRs tk nf c rs → .inl x ∈ rs → x.1 < nf ∧ x.2.length = tk x.1
  | [], _, _, h => by cases h
  | r :: rs, c, ⟨h1, h2⟩, h => by
    rcases List.mem_cons.mp h with e | e
    · subst e
      exact ⟨h1.1, h1.2.1⟩
    · exact okRs_in h2 e
/-- the model takes over what was told -/
theorem take_ok {N g n : Nat} {wm wx : Mem} {tp : List Nat} {FL : List (List Nat)} {tg : List Nat} {NL : List (List Nat)} {rs : List Row} (hN : 2000 < N) (hX : RXt wx g n tp FL tg NL rs) (h : RM9 wm n tp FL tg NL rs) (hP : RPr g n tp FL tg NL rs) (h5 : gF wm 9 5 0 = nI 0) : ∃ v, lp_X9_text_76 (fun (w_7 : Mem) => (f_X9_text_105 N w_7)) N N (sF wm 9 6 0 (gF wm 9 20 0)) (0 : Int32) = some (v, nI NL.length) ∧ RelM v FL.length (tk0 tg) rs [] NL [] ∧ (∀ j, j = 1 ∨ j = 2 ∨ j = 3 → gF v 9 j 0 = gF wm 9 j 0) := by
  obtain ⟨⟨a1, a2⟩, ⟨b1, b2⟩, ⟨c1, c2⟩, ⟨d1, d2⟩, e⟩ := h
  have hrl := hP.rl
  have h24 := hP.nl
  have hF8 : FL.length ≤ 8 := hP.2.1.1
  have hln := (hP.2.2.2 _ (AG.z tg)).2
  obtain ⟨v1, k1, k2, k3⟩ := copyF_ok (N := N) (m := FL.length) (w := sF wm 9 6 0 (gF wm 9 20 0)) (fun (w_7 : Mem) => (f_X9_text_105 N w_7)) (by omega) hF8 (by rw [gF_sF, if_pos ⟨rfl, rfl, rfl⟩]; exact b1)
  have v1F : ∀ j, j ≠ 6 → gF v1 9 j 0 = gF wm 9 j 0 := fun j hj => (k3.1 _ _ _ (fun z => z)).trans (by rw [gF_sF, if_neg (by omega)])
  have v1A : ∀ k x, k ≠ 41 → gA v1 k 0 x = gA wm k 0 x := fun k x hk => by rw [k3.2.1 _ _ (by omega)]; rfl
  have v16 : gF v1 9 6 0 = nI FL.length := (k3.1 _ _ _ (fun z => z)).trans (by rw [gF_sF, if_pos ⟨rfl, rfl, rfl⟩]; exact b1)
  obtain ⟨v2, l1, l2, l3⟩ := copyR_ok (N := N) (m := rs.length) (w := sF (sF v1 9 8 0 (gF v1 9 24 0)) 9 9 0 (gF (sF v1 9 8 0 (gF v1 9 24 0)) 9 8 0)) (fun (w_8 : Mem) => (f_X9_text_188 N w_8)) (by omega) (by omega) (by rw [gF_sF, if_neg (by omega), gF_sF, if_pos ⟨rfl, rfl, rfl⟩, v1F 24 (by omega)]; exact d1)
  have v2F : ∀ j, j ≠ 8 → j ≠ 9 → gF v2 9 j 0 = gF v1 9 j 0 := fun j h1 h2 => (l3.1 _ _ _ (fun z => z)).trans (by rw [gF_sF, if_neg (by omega), gF_sF, if_neg (by omega)])
  have v2A : ∀ k x, k ≠ 42 → k ≠ 43 → gA v2 k 0 x = gA v1 k 0 x := fun k x h1 h2 => by rw [l3.2.1 _ _ (by omega)]; rfl
  have v28 : gF v2 9 8 0 = nI rs.length := (l3.1 _ _ _ (fun z => z)).trans (by rw [gF_sF, if_neg (by omega), gF_sF, if_pos ⟨rfl, rfl, rfl⟩, v1F 24 (by omega)]; exact d1)
  have v29 : gF v2 9 9 0 = nI rs.length := (l3.1 _ _ _ (fun z => z)).trans (by rw [gF_sF, if_pos ⟨rfl, rfl, rfl⟩, gF_sF, if_pos ⟨rfl, rfl, rfl⟩, v1F 24 (by omega)]; exact d1)
  obtain ⟨v3, m1, m2, m3⟩ := copyN_ok (N := N) (w := sF v2 9 26 0 (gF v2 9 21 0)) (fun (w_9 : Mem) => (f_X9_text_227 N w_9)) (by omega)
  have v3F : ∀ j, j ≠ 26 → gF v3 9 j 0 = gF v2 9 j 0 := fun j h1 => (m3.1 _ _ _ (fun z => z)).trans (by rw [gF_sF, if_neg (by omega)])
  have v3A : ∀ k x, k ≠ 44 → gA v3 k 0 x = gA v2 k 0 x := fun k x h1 => by rw [m3.2.1 _ _ (by omega)]; rfl
  have v326 : gF v3 9 26 0 = nI NL.length := (m3.1 _ _ _ (fun z => z)).trans (by rw [gF_sF, if_pos ⟨rfl, rfl, rfl⟩, v2F 21 (by omega) (by omega), v1F 21 (by omega)]; exact c1)
  have hMFN : MFN v3 FL.length (tk0 tg) := ⟨hF8, by rw [v3F 6 (by omega), v2F 6 (by omega) (by omega)]; exact v16, fun i hi => ⟨hP.2.1.2.2 i, by
    rw [v3A 41 _ (by omega), v2A 41 _ (by omega) (by omega), k2 i hi]
    show gA wm 41 0 (8 + i) = _
    exact (b2 i hi).2⟩⟩
  have hRW : RWS v3 0 rs := fun p r hp => by
    have hpl := (List.getElem?_eq_some_iff.mp hp).1
    have q42 : gA v3 42 0 (0 + p) = gA wm 42 0 (48 + p) := by
      rw [v3A 42 _ (by omega), Nat.zero_add, (l2 p hpl).1]
      exact v1A 42 _ (by omega)
    refine (d2 p r hp).move q42 (fun i hi => ?_) (fun x hx => hP.2.2.1.2.2 x (by rw [← hx]; exact List.mem_of_getElem? hp))
    rw [v3A 43 _ (by omega), Nat.zero_add, (l2 p hpl).2 i hi]
    exact v1A 43 _ (by omega)
  have v38 : gF v3 9 8 0 = nI rs.length := (v3F 8 (by omega)).trans v28
  obtain ⟨v4, n1', n2', n3'⟩ := makes_ok (N := N) (by omega) hMFN hRW v38 (by omega) (hP.2.2.2 _ (AG.z tg)).1
  have e27 : gF v4 9 27 0 = nI NL.length := by rw [hln]; exact n2'.1.1.2.2.1
  have l2' : lp_X9_text_76 (fun (w_7 : Mem) => (f_X9_text_105 N w_7)) N N (sF wm 9 6 0 (gF wm 9 20 0)) (0 : Int32) = some (v4, nI NL.length) := by
    refine k1.trans ?_
    show f_X9_text_105 N v1 = _
    rw [f_X9_text_105]
    refine l1.trans ?_
    show f_X9_text_188 N v2 = _
    rw [f_X9_text_188]
    refine m1.trans ?_
    show f_X9_text_227 N v3 = _
    rw [f_X9_text_227, n1', Option.bind_some, e27]
  refine ⟨v4, l2', ?_, fun j hj => ?_⟩
  · refine ⟨by rw [List.append_nil]; exact n2', hMFN.fr n3', by rw [List.append_nil]; exact hRW.fr n3', ?_, ?_, ⟨(n3'.1 _ _ _ (by omega)).trans v326, fun t k ht hk => ?_⟩, ?_, fun i hi => absurd hi (Nat.not_lt_zero i)⟩
    · rw [List.append_nil, n3'.1 _ _ _ (by omega)]; exact v38
    · rw [n3'.1 _ _ _ (by omega), v3F 9 (by omega)]; exact v29
    · rw [n3'.2.1 44 0 (by omega), m2 _ (by omega)]
      show gA v2 44 0 (144 + (6 * t + k)) = _
      rw [v2A 44 _ (by omega) (by omega), v1A 44 _ (by omega), show 144 + (6 * t + k) = 6 * (24 + t) + k by omega]
      exact c2 t ht k hk
    · rw [n3'.1 _ _ _ (by omega), v3F 5 (by omega), v2F 5 (by omega) (by omega), v1F 5 (by omega)]; exact h5
  · rw [n3'.1 _ _ _ (by omega), v3F j (by omega), v2F j (by omega) (by omega), v1F j (by omega)]
set_option maxHeartbeats 8000000 in
theorem op_text {N f nf : Nat} {tk : Nat → Nat} {R A : List Row} {NL : List (List Nat)} {tp : List Nat} {wx wm : Mem} (hN : 2000 < N) (h : RelC wx wm f nf tk R A NL tp) (x : Int32) : Op (f_X8_text N wx x) (f_X9_text N wm x) := by
  obtain ⟨hX, hM, hP, hf2⟩ := id h
  obtain ⟨hf, h5, h6⟩ := hX.1
  have hTX : TX wx tp := hX.2.2.2.2.2.1
  have hTM : TMm wm tp := hM.2.2.2.2.2.2
  have hl5 : tp.length ≤ 500 := hP.2.2.2.1
  have hb := hP.2.2.2.2
  have hin : f_X9_in N wm x (0 : Int32) (nI tp.length) = some (nI (b01 (isT (tp.length + 1) x))) := in_ok2 (N := N) (w := wm) (n := tp.length) (by omega) x
  have z1n : ¬ ((nI 1 : Int32) = 0) := by decide
  by_cases hx : isT (tp.length + 1) x
  · obtain ⟨n, hn, rfl⟩ := hx
    have hx2 : isT (tp.length + 1) (nI n) := ⟨n, hn, rfl⟩
    have hg : 1 - f < 2 := by omega
    let rx : Mem := rdMem wx (nI n) (1 - f)
    let wm2 : Mem := sF (sF (mAns wm (nI 0)) 9 5 0 (0 : Int32)) 9 2 0 (0 : Int32)
    have r1 : gF rx 5 1 0 = nI n := rfl
    have r2 : gR rx 5 2 0 = 1 - f := rfl
    have r4 : gF rx 5 4 0 = nI 0 := rfl
    have r8 : gF rx 5 8 0 = nI 0 := rfl
    have rT : TX rx tp := hTX
    have mT : TMt wm2 tp := hTM.2
    obtain ⟨vx, vm, F1, F2, hres⟩ := read_ok (N := N) hN hg hb hl5 (show n ≤ tp.length by omega) rT mT r1 r2 r4 r8
    have R5 : gR vx 8 5 0 = f := (F1.2.2.2 _ _ _).trans h5
    have R6 : gR vx 8 6 0 = 1 - f := (F1.2.2.2 _ _ _).trans h6
    have em0 : f_X9_text N wm (nI n) = Option.bind (f_X9_readAll N wm2 (nI n)) (fun z5 => (if z5.2 = (0 : Int32) then (Option.bind (f_X9_no N (sF (sF z5.1 9 2 0 (gF z5.1 9 18 0)) 9 3 0 (gF (sF z5.1 9 2 0 (gF z5.1 9 18 0)) 9 19 0)) (4 : Int32)) (fun z25 => some (z25.1, z25.2))) else (lp_X9_text_76 (fun (w_7 : Mem) => (f_X9_text_105 N w_7)) N N (sF z5.1 9 6 0 (gF z5.1 9 20 0)) (0 : Int32)))) := by
      have hr0 : f_X9_isRefused N wm (0 : Int32) = some (mAns wm (nI 0), nI 0) := refused_0 N wm
      rw [f_X9_text, hTM.1, hin, Option.bind_some, b01_t hx2, if_neg z1n, f_X9_text_18_s2, hr0, Option.bind_some, if_pos (show (nI 0 : Int32) = 0 from rfl)]
    have ex0 : f_X8_text N wx (nI n) = Option.bind (f_X5_readText N rx) (fun z4 => (if z4.2 = (0 : Int32) then (Option.bind (f_X8_refuse N (sF (sF z4.1 6 1 0 (0 : Int32)) 8 8 0 (gF (sF z4.1 6 1 0 (0 : Int32)) 5 4 0)) (4 : Int32)) (fun z11 => some ((sF z11.1 8 9 0 (gF z11.1 5 5 0)), (-1 : Int32)))) else (if (gR (sF (sF z4.1 6 1 0 (0 : Int32)) 8 8 0 (gF (sF z4.1 6 1 0 (0 : Int32)) 5 4 0)) 8 5 0) < 2 then (if (gR (sF (sF z4.1 6 1 0 (0 : Int32)) 8 8 0 (gF (sF z4.1 6 1 0 (0 : Int32)) 5 4 0)) 8 6 0) < 2 then (if (gR (sF (sR (sR (sF (sF z4.1 6 1 0 (0 : Int32)) 8 8 0 (gF (sF z4.1 6 1 0 (0 : Int32)) 5 4 0)) 8 5 0 (gR (sF (sF z4.1 6 1 0 (0 : Int32)) 8 8 0 (gF (sF z4.1 6 1 0 (0 : Int32)) 5 4 0)) 8 6 0)) 8 6 0 (gR (sF (sF z4.1 6 1 0 (0 : Int32)) 8 8 0 (gF (sF z4.1 6 1 0 (0 : Int32)) 5 4 0)) 8 5 0)) 0 4 0 (0 : Int32)) 8 5 0) < 2 then (Option.bind (f_X8_answer N (sF (sR (sR (sF (sF z4.1 6 1 0 (0 : Int32)) 8 8 0 (gF (sF z4.1 6 1 0 (0 : Int32)) 5 4 0)) 8 5 0 (gR (sF (sF z4.1 6 1 0 (0 : Int32)) 8 8 0 (gF (sF z4.1 6 1 0 (0 : Int32)) 5 4 0)) 8 6 0)) 8 6 0 (gR (sF (sF z4.1 6 1 0 (0 : Int32)) 8 8 0 (gF (sF z4.1 6 1 0 (0 : Int32)) 5 4 0)) 8 5 0)) 0 4 0 (0 : Int32)) (gF (sF (sR (sR (sF (sF z4.1 6 1 0 (0 : Int32)) 8 8 0 (gF (sF z4.1 6 1 0 (0 : Int32)) 5 4 0)) 8 5 0 (gR (sF (sF z4.1 6 1 0 (0 : Int32)) 8 8 0 (gF (sF z4.1 6 1 0 (0 : Int32)) 5 4 0)) 8 6 0)) 8 6 0 (gR (sF (sF z4.1 6 1 0 (0 : Int32)) 8 8 0 (gF (sF z4.1 6 1 0 (0 : Int32)) 5 4 0)) 8 5 0)) 0 4 0 (0 : Int32)) 7 10 (gR (sF (sR (sR (sF (sF z4.1 6 1 0 (0 : Int32)) 8 8 0 (gF (sF z4.1 6 1 0 (0 : Int32)) 5 4 0)) 8 5 0 (gR (sF (sF z4.1 6 1 0 (0 : Int32)) 8 8 0 (gF (sF z4.1 6 1 0 (0 : Int32)) 5 4 0)) 8 6 0)) 8 6 0 (gR (sF (sF z4.1 6 1 0 (0 : Int32)) 8 8 0 (gF (sF z4.1 6 1 0 (0 : Int32)) 5 4 0)) 8 5 0)) 0 4 0 (0 : Int32)) 8 5 0))) (fun z9 => some (z9.1, z9.2))) else none) else none) else none))) := by
      rw [f_X8_text, if_neg (nI_nn (by omega)), hTX.1, if_pos (of_eq_true (le_tt (by omega) (by omega) (by omega))), h6, if_pos hg]
    rcases hres with ⟨e1, e2, FL, tg, NL2, rs, p', q', K', hTR, _⟩ | ⟨e1, e2, e3, e4⟩
    · -- read
      obtain ⟨tX, tM, tP, _⟩ := hTR
      have m5 : gF vm 9 5 0 = nI 0 := (F2.1 _ _ _ (by omega)).trans rfl
      obtain ⟨ym, y1, y2, y3⟩ := take_ok (N := N) hN tX tM tP m5
      let sx : Mem := sF (sR (sR (sF (sF vx 6 1 0 (0 : Int32)) 8 8 0 (gF (sF vx 6 1 0 (0 : Int32)) 5 4 0)) 8 5 0 (gR (sF (sF vx 6 1 0 (0 : Int32)) 8 8 0 (gF (sF vx 6 1 0 (0 : Int32)) 5 4 0)) 8 6 0)) 8 6 0 (gR (sF (sF vx 6 1 0 (0 : Int32)) 8 8 0 (gF (sF vx 6 1 0 (0 : Int32)) 5 4 0)) 8 5 0)) 0 4 0 (0 : Int32)
      have s5 : gR sx 8 5 0 = 1 - f := R6
      have s6 : gR sx 8 6 0 = 1 - (1 - f) := by
        have : gR sx 8 6 0 = f := R5
        omega
      have sF' : ∀ k j i, k = 1 ∨ k = 2 ∨ k = 3 ∨ k = 7 → gF (xAns sx (nI 0)) k j i = gF vx k j i := fun k j i hk => by
        show gF (sF (sF (sF (sR (sR (sF (sF vx 6 1 0 (0 : Int32)) 8 8 0 (gF (sF vx 6 1 0 (0 : Int32)) 5 4 0)) 8 5 0 _) 8 6 0 _) 0 4 0 (0 : Int32)) 8 7 0 (nI 0)) 8 9 0 n1) k j i = _
        rw [gF_sF, if_neg (by omega), gF_sF, if_neg (by omega), gF_sF, if_neg (by omega)]
        show gF (sF (sF vx 6 1 0 (0 : Int32)) 8 8 0 (gF (sF vx 6 1 0 (0 : Int32)) 5 4 0)) k j i = _
        rw [gF_sF, if_neg (by omega), gF_sF, if_neg (by omega)]
      have hXX : RelX (xAns sx (nI 0)) (1 - f) FL.length (tk0 tg) rs [] NL2 [] := tX.rel tP sF' (fun _ _ => rfl) s5 s6 rfl rfl
      have hln := (tP.2.2.2 _ (AG.z tg)).2
      have x10 : gF sx 7 10 (gR sx 8 5 0) = nI NL2.length := by
        rw [s5]
        have : gF sx 7 10 (1 - f) = gF vx 7 10 (1 - f) := by
          show gF (sF (sR (sR (sF (sF vx 6 1 0 (0 : Int32)) 8 8 0 (gF (sF vx 6 1 0 (0 : Int32)) 5 4 0)) 8 5 0 _) 8 6 0 _) 0 4 0 (0 : Int32)) 7 10 (1 - f) = _
          rw [gF_sF, if_neg (by omega)]
          show gF (sF (sF vx 6 1 0 (0 : Int32)) 8 8 0 (gF (sF vx 6 1 0 (0 : Int32)) 5 4 0)) 7 10 (1 - f) = _
          rw [gF_sF, if_neg (by omega), gF_sF, if_neg (by omega)]
        rw [this, hln]
        exact (tX.2.2.2.2 _ (AG.z tg)).1.1.2.2.1
      have exx : f_X8_text N wx (nI n) = some (xAns sx (nI 0), nI NL2.length) := by
        rw [ex0, e1, Option.bind_some, ← x10]
        refine (if_neg (show ¬ (1 : Int32) = 0 by decide)).trans ?_
        refine (if_pos (show gR vx 8 5 0 < 2 by rw [R5]; exact hf)).trans ?_
        refine (if_pos (show gR vx 8 6 0 < 2 by rw [R6]; exact hg)).trans ?_
        refine (if_pos (show gR vx 8 6 0 < 2 by rw [R6]; exact hg)).trans ?_
        rfl
      have emm : f_X9_text N wm (nI n) = some (ym, nI NL2.length) := by
        rw [em0, e2, Option.bind_some]
        refine (if_neg (show ¬ (1 : Int32) = 0 by decide)).trans ?_
        exact y1
      have M1 : gF ym 9 1 0 = nI 0 := (y3 1 (by omega)).trans ((F2.1 _ _ _ (by omega)).trans rfl)
      have M2 : gF ym 9 2 0 = nI 0 := (y3 2 (by omega)).trans ((F2.1 _ _ _ (by omega)).trans rfl)
      refine ⟨_, _, _, exx, emm, 1 - f, FL.length, tk0 tg, rs, [], NL2, [], ⟨hXX, y2, ⟨by rw [List.append_nil]; exact (tP.2.2.2 _ (AG.z tg)).1, tP.2.2.1.2.1, hln, by show 0 ≤ 500; omega, fun b hb => by cases hb⟩, ?_⟩, ?_, ?_⟩
      · rw [M2]
        exact tX.1.2.2.2
      · rw [M1]; rfl
      · rw [M1, if_neg (by decide)]; rfl
    · -- a fault
      let sx : Mem := sF (xAns (sF (sF vx 6 1 0 (0 : Int32)) 8 8 0 (gF (sF vx 6 1 0 (0 : Int32)) 5 4 0)) (4 : Int32)) 8 9 0 (gF (xAns (sF (sF vx 6 1 0 (0 : Int32)) 8 8 0 (gF (sF vx 6 1 0 (0 : Int32)) 5 4 0)) (4 : Int32)) 5 5 0)
      let sm : Mem := sF (sF (sF vm 9 2 0 (gF vm 9 18 0)) 9 3 0 (gF (sF vm 9 2 0 (gF vm 9 18 0)) 9 19 0)) 9 1 0 (4 : Int32)
      have exx : f_X8_text N wx (nI n) = some (sx, (-1 : Int32)) := by
        rw [ex0, e1, Option.bind_some]
        exact (if_pos rfl).trans rfl
      have emm : f_X9_text N wm (nI n) = some (sm, (-1 : Int32)) := by
        rw [em0, e2, Option.bind_some]
        exact (if_pos rfl).trans rfl
      have sxF : ∀ k j i, k ≠ 6 → k ≠ 8 → gF sx k j i = gF vx k j i := fun k j i h1 h2 => by
        show gF (sF (sF (sF (sF (sF vx 6 1 0 (0 : Int32)) 8 8 0 (gF (sF vx 6 1 0 (0 : Int32)) 5 4 0)) 8 7 0 (4 : Int32)) 8 9 0 n1) 8 9 0 _) k j i = _
        rw [gF_sF, if_neg (by omega), gF_sF, if_neg (by omega), gF_sF, if_neg (by omega), gF_sF, if_neg (by omega), gF_sF, if_neg (by omega)]
      have rxF : ∀ k j i, k ≠ 5 → gF rx k j i = gF wx k j i := fun k j i h1 => by
        show gF (sF (sF (sF (sF (sF (sF wx 5 1 0 (nI n)) 5 4 0 0) 5 5 0 0) 5 6 0 0) 5 7 0 0) 5 8 0 0) k j i = _
        rw [gF_sF, if_neg (by omega), gF_sF, if_neg (by omega), gF_sF, if_neg (by omega), gF_sF, if_neg (by omega), gF_sF, if_neg (by omega), gF_sF, if_neg (by omega)]
      have rxA : ∀ k i, ¬ (k = 29 ∧ i = 0) → gA rx k i = gA wx k i := fun k i h1 => by
        show (if k = 29 ∧ i = 0 then _ else _) = _
        rw [if_neg h1]; rfl
      have toF : ∀ k j i, k ≠ 5 → k ≠ 6 → k ≠ 8 → ¬ ((k = 7 ∨ k = 2 ∨ k = 1) ∧ i = 1 - f) → ¬ (k = 3 ∧ i = 2 + (1 - f)) → gF sx k j i = gF wx k j i := fun k j i h1 h2 h3 h4 h5 => by
        rw [sxF k j i h2 h3, F1.1 k j i (by omega), rxF k j i h1]
      have toA : ∀ k i, ¬ ((((13 ≤ k ∧ k ≤ 24) ∨ (31 ≤ k ∧ k ≤ 39 ∧ k ≠ 37)) ∧ i = 1 - f) ∨ (k = 25 ∧ i = 2 + (1 - f)) ∨ (k = 29 ∧ i = 0)) → gA sx k i = gA wx k i := fun k i h1 => by
        show gA vx k i = _
        rw [F1.2.1 k i h1, rxA k i (by omega)]
      have hKQ : KQ f wx sx := ⟨fun k j hk => toF k j f (by omega) (by omega) (by omega) (by omega) (by omega), fun j => toF 3 j (2 + f) (by omega) (by omega) (by omega) (by omega) (by omega), fun k hk => toA k f (by omega), toA 25 (2 + f) (by omega)⟩
      have hXX : RelX sx f nf tk R A NL [] := hX.cong hKQ (fun j => toF 0 j 0 (by omega) (by omega) (by omega) (by omega) (by omega)) ⟨toA 10 0 (by omega), toA 11 0 (by omega)⟩ ⟨R5.trans h5.symm, R6.trans h6.symm⟩ ⟨rfl, fun i hi => absurd hi (Nat.not_lt_zero i)⟩
      have smF : ∀ j, j ≠ 1 → j ≠ 2 → j ≠ 3 → gF sm 9 j 0 = gF vm 9 j 0 := fun j h1 h2 h3 => by
        show gF (sF (sF (sF vm 9 2 0 (gF vm 9 18 0)) 9 3 0 (gF (sF vm 9 2 0 (gF vm 9 18 0)) 9 19 0)) 9 1 0 (4 : Int32)) 9 j 0 = _
        rw [gF_sF, if_neg (by omega), gF_sF, if_neg (by omega), gF_sF, if_neg (by omega)]
      have wmF : ∀ j, 4 < j → j ≠ 5 → j ≠ 13 → gF (sF wm2 9 13 0 (nI n)) 9 j 0 = gF wm 9 j 0 := fun j h1 h2 h3 => by
        show gF (sF (sF (sF (sF (sF (sF wm 9 0 0 (nI 0)) 9 3 0 n1) 9 1 0 (nI 0)) 9 5 0 (0 : Int32)) 9 2 0 (0 : Int32)) 9 13 0 (nI n)) 9 j 0 = _
        rw [gF_sF, if_neg (by omega), gF_sF, if_neg (by omega), gF_sF, if_neg (by omega), gF_sF, if_neg (by omega), gF_sF, if_neg (by omega), gF_sF, if_neg (by omega)]
      have hKN : KN wm sm := ⟨fun j hj => by rw [smF j (by omega) (by omega) (by omega), F2.1 _ _ _ (by omega), wmF j (by omega) (by omega) (by omega)], fun k h1 h2 => F2.2.1 k 0 (by omega), F2.2.2.1, F2.2.2.2.1, F2.2.2.2.2.1, F2.2.2.2.2.2⟩
      have hCI := h.ci
      have hR3 : ∀ x, .inl x ∈ R ++ A → x.2.length ≤ 3 := fun x hx => by
        have h1 := okRs_in hP.1 hx
        rw [h1.2]
        exact hCI.2.2.2.2.2.2.2 _ h1.1
      have hR48 : (R ++ A).length ≤ 48 := by
        have hl := run_len tk (R ++ A) c0
        have h1 := hCI.1.2.1
        rw [tN_mk] at h1
        have h2 := hCI.2.2.1.1
        have h3 := hCI.2.2.2.1.1
        have h0 : (cL c0).length + (cS c0).length + (cQ c0).length = 0 := rfl
        omega
      have hN24 : NL.length ≤ 24 := by
        have h1 := hCI.1.2.1
        rw [tN_mk] at h1
        have := h.nl
        omega
      have m5 : gF sm 9 5 0 = nI 0 := (smF 5 (by omega) (by omega) (by omega)).trans ((F2.1 _ _ _ (by omega)).trans rfl)
      have hMM : RelM sm nf tk R A NL [] := hM.cong hKN ⟨m5, fun i hi => absurd hi (Nat.not_lt_zero i)⟩ hR48 hR3 hN24 (fun t ht => by
        have := (hCI.2.2.2.2.1 t ht).1
        have := hCI.2.2.2.2.2.2.1
        omega)
      refine ⟨sx, sm, _, exx, emm, f, nf, tk, R, A, NL, [], ⟨hXX, hMM, ⟨hP.1, hP.2.1, hP.2.2.1, by show 0 ≤ 500; omega, fun b hb => by cases hb⟩, ?_⟩, rfl, ?_⟩
      · show gF vx 5 4 0 = gF vm 9 18 0
        exact e3
      · have q1 : gF sm 9 1 0 = nI 4 := rfl
        rw [q1, if_pos rfl]
        show gF vx 5 5 0 = gF vm 9 19 0
        exact e4
  · have ex : f_X8_text N wx x = some (xAns wx (nI 2), n1) := by
      rw [f_X8_text]
      rcases i_cases x with y | ⟨n, hn, rfl⟩
      · rw [if_pos y]; rfl
      · rw [if_neg (nI_nn hn), hTX.1, if_neg (of_eq_false (le_tf (by omega) (by omega) (Nat.lt_of_not_le (fun q => hx ⟨n, by omega, rfl⟩))))]; rfl
    have em : f_X9_text N wm x = some (mAns wm (nI 2), n1) := by
      have hr2 : f_X9_isRefused N wm (2 : Int32) = some (mAns wm (nI 2), nI 1) := refused_n N wm (x := 2) (by omega) (by omega)
      rw [f_X9_text, hTM.1, hin, Option.bind_some, b01_f hx, if_pos (show (nI 0 : Int32) = 0 from rfl), f_X9_text_18_s2, hr2, Option.bind_some, if_neg z1n]; rfl
    rw [ex, em]
    exact op_ans0 h
