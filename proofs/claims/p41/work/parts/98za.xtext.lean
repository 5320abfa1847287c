/-! text(n): the class takes over what was told -/
theorem readText_ok {N g n : Nat} {tp : List Nat} {rs : List Row} {w : Mem} (hN : 2000 < N) (hg2 : g < 2) (hb : ∀ b, b ∈ tp → b < 256) (hl : tp.length ≤ 500) (hn : n ≤ tp.length) (hT : TX w tp) (h1 : gF w 5 1 0 = nI n) (h2 : gR w 5 2 0 = g) (h4 : gF w 5 4 0 = nI 0) (h8 : gF w 5 8 0 = nI 0)
    (hTK : TKs tp n 0 (bTk ++ tks 0 rs)) (hg : GRs 0 rs) (hok : okRs tk5 5 c0 rs) (hnf : ∀ r ∈ rs, ∀ x, r ≠ .inr (false, x)) (hp2 : ∀ x, .inl x ∈ rs → x.2.length ≤ 2) (hrs : rs.length ≤ 40) :
    ∃ wf, f_X5_readText N w = some (wf, 1) ∧ R9 wf g n tp .eot [] FL5 tg5 (NLs (cnt9 0 rs)) rs ∧ FrR g w wf := by
  obtain ⟨vx, a1, a2, a3, a4, a5⟩ := clear_ok (N := N) (w := w) (by omega) hg2
  have a5r : FrR g w vx := a5.mono (fun _ _ _ z => by omega) (fun _ _ z => by omega)
  have hTv : TX vx tp := ⟨(a5.1 _ _ _ (by omega)).trans hT.1, fun i hi => by rw [a5.2.1 30 0 (by omega)]; exact hT.2 i hi⟩
  have g1 : gF vx 5 1 0 = nI n := (a5.1 _ _ _ (by omega)).trans h1
  have g8 : gF vx 5 8 0 = nI 0 := (a5.1 _ _ _ (by omega)).trans h8
  have g4 : gF vx 5 4 0 = nI 0 := (a5.1 _ _ _ (by omega)).trans h4
  have g2 : gR vx 5 2 0 = g := (a5.2.2.2 _ _ _).trans h2
  have hTK' : TKs tp n 0 (.word kwF :: (.word [97] :: .dig 0 :: .sgn 59 :: .word kwF :: .word [98] :: .dig 0 :: .sgn 59 :: .word kwF :: .word [99] :: .dig 0 :: .sgn 59 :: .word kwF :: .word [102] :: .dig 1 :: .sgn 59 :: .word kwF :: .word [103] :: .dig 2 :: tks 0 rs)) := hTK
  obtain ⟨p, q', hNT, hrest⟩ := hTK'
  obtain ⟨ux, b1, b2, b3, b4, b5⟩ := adv_ok (N := N) (by omega) hTv hb hl hn g1 g8 hNT
  have hXv : RXt vx g n tp [] [] [] [] := ⟨⟨hTv, g1, g2, g4⟩, ⟨a3, fun i hi => absurd hi (Nat.not_lt_zero i)⟩, fun t ht => absurd ht (Nat.not_lt_zero t), a4, fun tk _ => a2 tk⟩
  have hPr : RPr g n tp [] [] [] [] := ⟨⟨hg2, hn, hl, hb⟩, ⟨by show 0 ≤ 8; omega, rfl, fun i => by show 0 ≤ 3; omega⟩, ⟨(fun l hl => by cases hl), (fun l hl => by cases hl), (fun x hx => by cases hx)⟩, fun tk _ => ⟨trivial, rfl⟩⟩
  have hR : R9 ux g n tp (.word kwF) _ [] [] [] [] := ⟨hXv.fr b5 (fun _ _ _ z => by omega) (fun _ _ z => z.elim), hPr, b2, p, q', b4 (fun z => by cases z), (hNT.ko hn).1, hrest⟩
  obtain ⟨wf, c1, c2, c3⟩ := rd_all (N := N) (k := fun (w_6 : Mem) => (f_X5_readText_63 N w_6)) (by omega) hg hok hnf hp2 hrs hR
  refine ⟨wf, ?_, c2, (a5r.tr2 b5.r).tr2 c3⟩
  rw [f_X5_readText]
  refine oit (by rw [h2]; exact hg2) (obind (show f_X1_clear N w (gR w 5 2 0) = some vx from by rw [h2]; exact a1) (obind b1 ?_))
  exact c1
theorem rd_fr (w : Mem) (n : Int32) (fid : Nat) : (∀ k j i, k ≠ 5 → gF (rdMem w n fid) k j i = gF w k j i) ∧ (∀ k i, k ≠ 29 → gA (rdMem w n fid) k i = gA w k i) ∧ ∀ k j i, k ≠ 5 → gR (rdMem w n fid) k j i = gR w k j i := by
  refine ⟨fun k j i h => ?_, fun k i h => ?_, fun k j i h => ?_⟩
  · unfold rdMem
    rw [gF_sR]
    show gF (sF (sF (sF (sF (sF (sF w 5 1 0 n) 5 4 0 0) 5 5 0 0) 5 6 0 0) 5 7 0 0) 5 8 0 0) k j i = _
    rw [gF_sF, if_neg (by omega), gF_sF, if_neg (by omega), gF_sF, if_neg (by omega), gF_sF, if_neg (by omega), gF_sF, if_neg (by omega), gF_sF, if_neg (by omega)]
  · unfold rdMem
    show gA (sAf (sF (sF (sF (sF (sF (sF w 5 1 0 n) 5 4 0 0) 5 5 0 0) 5 6 0 0) 5 7 0 0) 5 8 0 0) 29 0 (fun _ => 0)) k i = _
    rw [gA_sAf, if_neg (by omega)]; rfl
  · unfold rdMem
    rw [gR_sR, if_neg (by omega)]; rfl
theorem xtext_ok {N n : Nat} {tp : List Nat} {rs : List Row} {w : Mem} (hN : 2000 < N) (hb : ∀ b, b ∈ tp → b < 256) (hl : tp.length ≤ 500) (hn : n ≤ tp.length) (hT : TX w tp) (h5 : gR w 8 5 0 = 0) (h6 : gR w 8 6 0 = 1)
    (hTK : TKs tp n 0 (bTk ++ tks 0 rs)) (hg : GRs 0 rs) (hok : okRs tk5 5 c0 rs) (hnf : ∀ r ∈ rs, ∀ x, r ≠ .inr (false, x)) (hp2 : ∀ x, .inl x ∈ rs → x.2.length ≤ 2) (hrs : rs.length ≤ 40) :
    ∃ v, f_X8_text N w (nI n) = some (v, nI (cL (run tk5 c0 rs)).length) ∧ RelX v 1 5 tk5 rs [] (NLs (cnt9 0 rs)) [] ∧ (∀ k j i, (k = 9 ∨ k = 46) → gF v k j i = gF w k j i) ∧ ∀ k i, 40 ≤ k → gA v k i = gA w k i := by
  obtain ⟨r1, r2, r3⟩ := rd_fr w (nI n) 1
  have hT' : TX (rdMem w (nI n) 1) tp := ⟨(r1 _ _ _ (by omega)).trans hT.1, fun i hi => by rw [r2 30 0 (by omega)]; exact hT.2 i hi⟩
  obtain ⟨wf, e, hR, hF⟩ := readText_ok (N := N) (g := 1) (w := rdMem w (nI n) 1) hN (by omega) hb hl hn hT' rfl rfl rfl rfl hTK hg hok hnf hp2 hrs
  have k85 : gR wf 8 5 0 = 0 := (hF.2.2.2 _ _ _).trans ((r3 _ _ _ (by omega)).trans h5)
  have k86 : gR wf 8 6 0 = 1 := (hF.2.2.2 _ _ _).trans ((r3 _ _ _ (by omega)).trans h6)
  let M1 : Mem := sF (sF wf 6 1 0 0) 8 8 0 (gF (sF wf 6 1 0 0) 5 4 0)
  let M2 : Mem := sR (sR M1 8 5 0 (gR M1 8 6 0)) 8 6 0 (gR M1 8 5 0)
  let M3 : Mem := sF M2 0 4 0 0
  have m85 : gR M1 8 5 0 = 0 := k85
  have m86 : gR M1 8 6 0 = 1 := k86
  have q85 : gR M3 8 5 0 = 1 := by
    show gR (sR (sR M1 8 5 0 (gR M1 8 6 0)) 8 6 0 (gR M1 8 5 0)) 8 5 0 = 1
    rw [gR_sR, if_neg (by omega), gR_sR, if_pos ⟨rfl, rfl, rfl⟩, m86]
  have q86 : gR M3 8 6 0 = 0 := by
    show gR (sR (sR M1 8 5 0 (gR M1 8 6 0)) 8 6 0 (gR M1 8 5 0)) 8 6 0 = 0
    rw [gR_sR, if_pos ⟨rfl, rfl, rfl⟩, m85]
  have f3 : ∀ k j i, ¬ ((k = 6 ∧ j = 1) ∨ k = 8 ∨ k = 0) → gF M3 k j i = gF wf k j i := fun k j i z => by
    show gF (sF M2 0 4 0 0) k j i = _
    rw [gF_sF, if_neg (by omega)]
    show gF M1 k j i = _
    show gF (sF (sF wf 6 1 0 0) 8 8 0 (gF (sF wf 6 1 0 0) 5 4 0)) k j i = _
    rw [gF_sF, if_neg (by omega), gF_sF, if_neg (by omega)]
  have x3 : ∀ k j i, k ≠ 8 → gF (xAns M3 (nI 0)) k j i = gF M3 k j i := fun k j i z => by
    show gF (sF (sF M3 8 7 0 (nI 0)) 8 9 0 n1) k j i = _
    rw [gF_sF, if_neg (by omega), gF_sF, if_neg (by omega)]
  have hln : NLs (cnt9 0 rs) = NLs (cL (run tk5 c0 rs)).length := by rw [show cnt9 0 rs = (cL (run tk5 c0 rs)).length from cnt_run rs c0]
  have e10 : gF M3 7 10 1 = nI (cL (run tk5 c0 rs)).length := by
    rw [f3 _ _ _ (by omega), hR.n24.2, NLs_len]
    rw [show cnt9 0 rs = (cL (run tk5 c0 rs)).length from cnt_run rs c0]
  refine ⟨xAns M3 (nI 0), ?_, ?_, fun k j i hk => ?_, fun k i hk => ?_⟩
  · rw [f_X8_text]
    refine oie (nI_pos (by omega)) (oit (show nI n ≤ gF w 6 1 0 from by rw [hT.1]; exact nI_le hn (by omega)) (oit (show gR w 8 6 0 < 2 from by rw [h6]; omega) (obind (show f_X5_readText N (rdMem w (nI n) (gR w 8 6 0)) = some (wf, 1) from by rw [h6]; exact e) (oie h10_ ?_))))
    show (if gR M1 8 5 0 < 2 then (if gR M1 8 6 0 < 2 then (if gR M3 8 5 0 < 2 then (Option.bind (f_X8_answer N M3 (gF M3 7 10 (gR M3 8 5 0))) (fun z9 => some (z9.1, z9.2))) else none) else none) else none) = _
    rw [q85, e10]
    refine oit (by rw [m85]; omega) (oit (by rw [m86]; omega) (oit (by omega) ?_))
    exact obind (answer_eq N M3 _) rfl
  · exact RXt.rel (v := xAns M3 (nI 0)) hR.1 hR.2.1 (fun k j i hk => (x3 _ _ _ (by omega)).trans (f3 _ _ _ (by omega))) (fun k i => rfl) q85 (by show gR M3 8 6 0 = 1 - 1; rw [q86]) (by
      rw [x3 _ _ _ (by omega)]
      show gF (sF (sF wf 6 1 0 0) 8 8 0 (gF (sF wf 6 1 0 0) 5 4 0)) 6 1 0 = _
      rw [gF_sF, if_neg (by omega), gF_sF, if_pos ⟨rfl, rfl, rfl⟩]; rfl) (by
      rw [x3 _ _ _ (by omega)]
      show gF (sF M2 0 4 0 0) 0 4 0 = _
      rw [gF_sF, if_pos ⟨rfl, rfl, rfl⟩]; rfl)
  · rw [x3 _ _ _ (by omega), f3 _ _ _ (by omega), hF.1 _ _ _ (by omega), r1 _ _ _ (by omega)]
  · show gA wf k i = _
    rw [hF.2.1 _ _ (by omega), r2 _ _ (by omega)]
