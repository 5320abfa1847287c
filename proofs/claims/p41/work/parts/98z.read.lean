/-! the text is read: all of it -/
def FL5 : List (List Nat) := [[97], [98], [99], [102], [103]]
def tg5 : List Nat := [0, 0, 0, 1, 2]
def NLs (t : Nat) : List (List Nat) := (List.range t).map (fun s => [107 + s])
theorem NLs_len (t : Nat) : (NLs t).length = t := by unfold NLs; rw [List.length_map, List.length_range]
theorem NLs_get {t s : Nat} (h : s < t) : (NLs t).getD s [] = [107 + s] := by
  unfold NLs
  rw [List.getD_eq_getElem?_getD, List.getElem?_map, List.getElem?_range h]; rfl
theorem NLs_succ (t : Nat) : NLs (t + 1) = NLs t ++ [[107 + t]] := by unfold NLs; rw [List.range_succ, List.map_append]; rfl
theorem one_inj {a b : Nat} (h : [a] = [b]) : a = b := by injection h
theorem NLs_at {t a : Nat} (h : a < t) : lkp (NLs t) [107 + a] a := ⟨by rw [NLs_len]; exact h, NLs_get h, fun s hs e => by
  rw [NLs_get (by omega)] at e
  have := one_inj e
  omega⟩
theorem NLs_new (t : Nat) : lkn (NLs t) [107 + t] := fun s hs e => by
  rw [NLs_len] at hs
  rw [NLs_get hs] at e
  have := one_inj e
  omega
theorem FL5_at : ∀ f, f < 5 → lkp FL5 [fch f] f := by
  unfold lkp
  decide
theorem FL5_new {t : Nat} : lkn FL5 [107 + t] := fun s hs e => by
  have hs5 : s < 5 := hs
  have : s = 0 ∨ s = 1 ∨ s = 2 ∨ s = 3 ∨ s = 4 := by omega
  rcases this with rfl | rfl | rfl | rfl | rfl
  · have : 97 = 107 + t := one_inj e
    omega
  · have : 98 = 107 + t := one_inj e
    omega
  · have : 99 = 107 + t := one_inj e
    omega
  · have : 102 = 107 + t := one_inj e
    omega
  · have : 103 = 107 + t := one_inj e
    omega
/-- what a core holds but its joins does not hang on the arities -/
theorem run_LS (tk tk' : Nat → Nat) : ∀ (rs : List Row) (c c' : Core), cL c = cL c' → cS c = cS c' → cQ c = cQ c' → cL (run tk c rs) = cL (run tk' c' rs) ∧ cS (run tk c rs) = cS (run tk' c' rs) ∧ cQ (run tk c rs) = cQ (run tk' c' rs)
  | [], c, c', h1, h2, h3 => ⟨h1, h2, h3⟩
  | r :: rs, c, c', h1, h2, h3 => by
    refine run_LS tk tk' rs (stp tk c r) (stp tk' c' r) ?_ ?_ ?_
    · rcases r with x | ⟨b, u, v⟩
      · show cL c ++ [x] = cL c' ++ [x]; rw [h1]
      · cases b <;> exact h1
    · rcases r with x | ⟨b, u, v⟩
      · exact h2
      · cases b
        · exact h2
        · show cS c ++ [(u, v)] = cS c' ++ [(u, v)]; rw [h2]
    · rcases r with x | ⟨b, u, v⟩
      · exact h3
      · cases b
        · show cQ c ++ [(u, v)] = cQ c' ++ [(u, v)]; rw [h3]
        · exact h3
theorem tk5_AG {tk : Nat → Nat} (h : AG tk tg5) {f : Nat} (hf : f < 5) : tk f = tk5 f := h f hf
theorem okR_any {tk : Nat → Nat} (h : AG tk tg5) {rd : List Row} {r : Row} (hok : okR tk5 5 (run tk5 c0 rd) r) : okR tk FL5.length (run tk c0 rd) r := by
  obtain ⟨e1, e2, e3⟩ := run_LS tk tk5 rd c0 c0 rfl rfl rfl
  rcases r with ⟨f, ps⟩ | ⟨b, u, v⟩
  · have hok : f < 5 ∧ ps.length = tk5 f ∧ (∀ k, k < ps.length → ps.getD k 0 < (cL (run tk5 c0 rd)).length) ∧ (cL (run tk5 c0 rd)).length < 24 := hok
    show f < 5 ∧ ps.length = tk f ∧ (∀ k, k < ps.length → ps.getD k 0 < (cL (run tk c0 rd)).length) ∧ (cL (run tk c0 rd)).length < 24
    rw [e1, tk5_AG h hok.1]; exact hok
  · cases b
    · have hok : u < (cL (run tk5 c0 rd)).length ∧ v < (cL (run tk5 c0 rd)).length ∧ (cQ (run tk5 c0 rd)).length < 8 := hok
      show u < (cL (run tk c0 rd)).length ∧ v < (cL (run tk c0 rd)).length ∧ (cQ (run tk c0 rd)).length < 8
      rw [e1, e3]; exact hok
    · have hok : u < (cL (run tk5 c0 rd)).length ∧ v < (cL (run tk5 c0 rd)).length ∧ (cS (run tk5 c0 rd)).length < 12 := hok
      show u < (cL (run tk c0 rd)).length ∧ v < (cL (run tk c0 rd)).length ∧ (cS (run tk c0 rd)).length < 12
      rw [e1, e2]; exact hok
section RDA
variable {w v w' : Mem} {N g n f x : Nat} {tp : List Nat} {K K2 K3 : Kd} {Ks : List Kd} {FL : List (List Nat)} {tg : List Nat} {NL : List (List Nat)} {rs : List Row} {k : Mem → Option (Mem × Int32)}
theorem line_eot (h : f_X5_readLine N w = some (w', 1)) (h2 : R9 w' g n tp .eot Ks FL tg NL rs) (hx : x ≤ 500) : lp_X5_readText_13 k N (f + 1) w (nI x) = some (w', 1) := by
  have e6 : gF w' 5 6 0 = (0 : Int32) := h2.2.2.1
  rw [lp_X5_readText_13]
  exact oie (show ¬ (500 : Int32) < nI x from nI_nlt (a := 500) hx (by omega)) (obind h (oie h10_ (oit e6 rfl)))
theorem line_nx (hN : 600 < N) (h : f_X5_readLine N w = some (w', 1)) (h2 : R9 w' g n tp (.sgn 59) (K2 :: Ks) FL tg NL rs) (hb : K2 ≠ .bad) (hx : x ≤ 500) : ∃ w2, lp_X5_readText_13 k N (f + 1) w (nI x) = lp_X5_readText_13 k N f w2 (nI (x + 1)) ∧ R9 w2 g n tp K2 Ks FL tg NL rs ∧ Fr5 w' w2 := by
  obtain ⟨w2, e, h3, f3⟩ := h2.adv hN hb
  refine ⟨w2, ?_, h3, f3⟩
  have e6 : ¬ gF w' 5 6 0 = (0 : Int32) := by rw [h2.2.2.1.1]; decide
  have s59 : f_X5_isSign N w' (59 : Int32) = some (nI (b01 ((Kd.sgn 59) = .sgn 59))) := h2.sg (c := 59) (by omega)
  rw [b01_t rfl] at s59
  rw [lp_X5_readText_13]
  refine oie (show ¬ (500 : Int32) < nI x from nI_nlt (a := 500) hx (by omega)) (obind h (oie h10_ (oie e6 (obind s59 (oie h10_ (obind e ?_))))))
  rw [nI1]
theorem ln_fun (h : R9 w g n tp (.word kwF) Ks FL tg NL rs) (e : f_X5_readFunction N w = some (w', 1)) : f_X5_readLine N w = some (w', 1) := by
  have e6 : gF w 5 6 0 = (1 : Int32) := h.2.2.1.1
  have e7 : gF w 5 7 0 = nI (wn kwF) := h.2.2.1.2
  rw [f_X5_readLine]
  exact oit e6 (oit (by rw [e7]; decide) (obind e (oit (Or.inr rfl) rfl)))
theorem ln_term (h : R9 w g n tp (.word kwT) Ks FL tg NL rs) (e : f_X5_readTerm N w = some (w', 1)) : f_X5_readLine N w = some (w', 1) := by
  have e6 : gF w 5 6 0 = (1 : Int32) := h.2.2.1.1
  have e7 : gF w 5 7 0 = nI (wn kwT) := h.2.2.1.2
  rw [f_X5_readLine]
  exact oit e6 (oie (by rw [e7]; decide) (oie (by rw [e7]; decide) (oie (by rw [e7]; decide) (oit (by rw [e7]; decide) (obind e (oit (Or.inr rfl) rfl))))))
theorem ln_same (h : R9 w g n tp (.word kwS) Ks FL tg NL rs) (e : f_X5_readTwo N w 1 = some (w', 1)) (hs : gF w 1 9 g < (12 : Int32)) : f_X5_readLine N w = some (w', 1) := by
  have e6 : gF w 5 6 0 = (1 : Int32) := h.2.2.1.1
  have e7 : gF w 5 7 0 = nI (wn kwS) := h.2.2.1.2
  have q0 := h.g2.1
  have q1 := h.g2.2
  rw [f_X5_readLine]
  exact oit e6 (oie (by rw [e7]; decide) (oie (by rw [e7]; decide) (oit (by rw [e7]; decide) (oit (q0.symm ▸ q1) (oit (by rw [q0]; exact hs) (obind e (oit (Or.inr rfl) rfl)))))))
/-- one row is read -/
theorem rd_row {t : Nat} {rd : List Row} {r : Row} {rs' : List Row} (hN : 600 < N) (hg : GR t r) (hok : okR tk5 5 (run tk5 c0 rd) r) (ht : (cL (run tk5 c0 rd)).length = t) (hnf : ∀ x, r ≠ .inr (false, x)) (h2 : ∀ x, r = .inl x → x.2.length ≤ 2)
    (h : ∃ K Kr, K :: Kr = tkr t r ++ tks (nx9 t r) rs' ∧ R9 w g n tp K Kr FL5 tg5 (NLs t) rd) :
    ∃ w2, f_X5_readLine N w = some (w2, 1) ∧ (∃ K Kr, K :: Kr = tks (nx9 t r) rs' ∧ R9 w2 g n tp K Kr FL5 tg5 (NLs (nx9 t r)) (rd ++ [r])) ∧ FrR g w w2 := by
  obtain ⟨K, Kr, eK, h⟩ := h
  have hks : ∃ K3 Ks, tks (nx9 t r) rs' = K3 :: Ks ∧ (K3 = .eot ∨ K3 = .sgn 59) := by
    cases rs' with
    | nil => exact ⟨_, _, rfl, Or.inl rfl⟩
    | cons r2 rs2 => exact ⟨_, _, rfl, Or.inr rfl⟩
  obtain ⟨K3, Ks, eks, hK3⟩ := hks
  rw [eks] at eK ⊢
  rcases r with ⟨f, ps⟩ | ⟨b, u, v⟩
  · have eK : K :: Kr = .word kwT :: .word [107 + t] :: .sgn 61 :: .word [fch f] :: (tkp ps ++ (K3 :: Ks)) := eK
    cases eK
    have hok2 : f < 5 ∧ ps.length = tk5 f ∧ (∀ k, k < ps.length → ps.getD k 0 < (cL (run tk5 c0 rd)).length) ∧ (cL (run tk5 c0 rd)).length < 24 := hok
    have htg : tg5.getD f 0 = ps.length := hok2.2.1.symm
    obtain ⟨w2, e, h3, f3⟩ := R9.rterm (f := f) (ps := ps) hN (h2 _ rfl) (fun k hk => ⟨hg.2.2 k hk, NLs_at (by have := hok2.2.2.1 k hk; omega)⟩) hK3 h (by rw [NLs_len]; omega) (w1_ok hg.1) nm1 FL5_new (NLs_new t) (fch_ok f hg.2.1) nm1 (FL5_at f hg.2.1) htg (fun tk ha => okR_any ha hok)
    exact ⟨w2, ln_term h e, ⟨_, _, rfl, by
      show R9 w2 g n tp K3 Ks FL5 tg5 (NLs (t + 1)) _
      rw [NLs_succ]; exact h3⟩, f3⟩
  · cases b with
    | false => exact absurd rfl (hnf (u, v))
    | true =>
      have eK : K :: Kr = .word kwS :: .word [107 + u] :: .word [107 + v] :: K3 :: Ks := eK
      cases eK
      have hok2 : u < (cL (run tk5 c0 rd)).length ∧ v < (cL (run tk5 c0 rd)).length ∧ (cS (run tk5 c0 rd)).length < 12 := hok
      have hb : K3 ≠ .bad := fun z => by rcases hK3 with e | e <;> rw [e] at z <;> cases z
      obtain ⟨w2, e, h3, f3⟩ := R9.rsame hN hb h ⟨hg.1, NLs_at (by omega)⟩ ⟨hg.2, NLs_at (by omega)⟩ (fun tk ha => okR_any ha hok)
      have hS : gF w 1 9 g < (12 : Int32) := by
        have hX := h.1.2.2.2.2 (tk0 tg5) (AG.z tg5)
        rw [hX.2.1.2.1]
        exact nI_lt (b := 12) hok2.2.2 (by omega)
      exact ⟨w2, ln_same h e hS, ⟨_, _, rfl, h3⟩, f3⟩
theorem rd_aft (hN : 600 < N) : ∀ (rs' : List Row) (t : Nat) (rd : List Row) (w w1 : Mem) (f x : Nat), f_X5_readLine N w = some (w1, 1) → (∃ K Kr, K :: Kr = tks t rs' ∧ R9 w1 g n tp K Kr FL5 tg5 (NLs t) rd) → GRs t rs' → okRs tk5 5 c0 (rd ++ rs') → (cL (run tk5 c0 rd)).length = t → (∀ r ∈ rs', ∀ x, r ≠ .inr (false, x)) → (∀ x, .inl x ∈ rs' → x.2.length ≤ 2) → rs'.length ≤ f → x + rs'.length ≤ 500 →
    ∃ wf, lp_X5_readText_13 k N (f + 1) w (nI x) = some (wf, 1) ∧ R9 wf g n tp .eot [] FL5 tg5 (NLs (cnt9 t rs')) (rd ++ rs') ∧ FrR g w1 wf
  | [], t, rd, w, w1, f, x, e, ⟨K, Kr, eK, h⟩, _, _, _, _, _, _, hx => by
    have eK : K :: Kr = .eot :: [] := eK
    cases eK
    exact ⟨w1, line_eot e h hx, by rw [List.append_nil]; exact h, Fr.rf⟩
  | r :: rs', t, rd, w, w1, f, x, e, ⟨K, Kr, eK, h⟩, hg, hok, ht, hnf, h2, hf, hx => by
    have eK : K :: Kr = .sgn 59 :: (tkr t r ++ tks (nx9 t r) rs') := eK
    cases eK
    have hl : (r :: rs').length = rs'.length + 1 := rfl
    have hhd : ∃ K2 Ks2, tkr t r ++ tks (nx9 t r) rs' = K2 :: Ks2 ∧ K2 ≠ .bad := by
      rcases r with x9 | x9
      · exact ⟨_, _, rfl, fun z => by cases z⟩
      · exact ⟨_, _, rfl, fun z => by cases z⟩
    obtain ⟨K2, Ks2, e2, hb⟩ := hhd
    rw [e2] at h
    obtain ⟨f', rfl⟩ : ∃ f', f = f' + 1 := ⟨f - 1, by omega⟩
    obtain ⟨w2, q1, q2, q3⟩ := line_nx (k := k) (f := f' + 1) (x := x) hN e h hb (by omega)
    have hokr : okR tk5 5 (run tk5 c0 rd) r := (okRs_app.mp hok).2.1
    obtain ⟨w3, q4, q5, q6⟩ := rd_row (r := r) (rs' := rs') hN hg.1 hokr ht (hnf r List.mem_cons_self) (fun y e => h2 y (by rw [e]; exact List.mem_cons_self)) ⟨K2, Ks2, e2.symm, q2⟩
    have eap : rd ++ r :: rs' = rd ++ [r] ++ rs' := by rw [List.append_assoc]; rfl
    obtain ⟨wf, q7, q8, q9⟩ := rd_aft hN rs' (nx9 t r) (rd ++ [r]) w2 w3 f' (x + 1) q4 q5 hg.2 (by rw [← eap]; exact hok) (by
      rw [run_snoc, ← ht]
      rcases r with y | ⟨b, u, v⟩
      · show (cL (run tk5 c0 rd) ++ [y]).length = _; rw [List.length_append]; rfl
      · cases b <;> rfl) (fun r' hr' => hnf r' (List.mem_cons_of_mem _ hr')) (fun y hy => h2 y (List.mem_cons_of_mem _ hy)) (by omega) (by omega)
    refine ⟨wf, q1.trans q7, by rw [eap]; exact q8, (q3.r.tr2 q6).tr2 q9⟩
end RDA
/-- the five functions and all rows -/
theorem rd_all {N g n : Nat} {tp : List Nat} {rs : List Row} {w : Mem} {k : Mem → Option (Mem × Int32)} (hN : 600 < N) (hg : GRs 0 rs) (hok : okRs tk5 5 c0 rs) (hnf : ∀ r ∈ rs, ∀ x, r ≠ .inr (false, x)) (h2 : ∀ x, .inl x ∈ rs → x.2.length ≤ 2) (hrs : rs.length ≤ 40)
    (h : R9 w g n tp (.word kwF) (.word [97] :: .dig 0 :: .sgn 59 :: .word kwF :: .word [98] :: .dig 0 :: .sgn 59 :: .word kwF :: .word [99] :: .dig 0 :: .sgn 59 :: .word kwF :: .word [102] :: .dig 1 :: .sgn 59 :: .word kwF :: .word [103] :: .dig 2 :: tks 0 rs) [] [] [] []) :
    ∃ wf, lp_X5_readText_13 k N N w (nI 0) = some (wf, 1) ∧ R9 wf g n tp .eot [] FL5 tg5 (NLs (cnt9 0 rs)) rs ∧ FrR g w wf := by
  have no0 : ∀ ls, lkn [] ls := fun ls s hs => absurd hs (Nat.not_lt_zero s)
  obtain ⟨N', rfl⟩ : ∃ N', N = N' + 1 + 1 + 1 + 1 + 1 := ⟨N - 5, by omega⟩
  obtain ⟨w1, e1, h1, f1⟩ := h.rfun hN (fun z => by cases z) (by decide) (fch_ok 0 (by omega)) nm1 (no0 _) (no0 _) (by omega)
  obtain ⟨v1, q1, g1, r1⟩ := line_nx (k := k) (f := N' + 1 + 1 + 1 + 1) (x := 0) hN (ln_fun h e1) h1 (fun z => by cases z) (by omega)
  obtain ⟨w2, e2, h2', f2⟩ := g1.rfun hN (fun z => by cases z) (by decide) (fch_ok 1 (by omega)) nm1 (by unfold lkn; decide) (no0 _) (by omega)
  obtain ⟨v2, q2, g2, r2⟩ := line_nx (k := k) (f := N' + 1 + 1 + 1) (x := 1) hN (ln_fun g1 e2) h2' (fun z => by cases z) (by omega)
  obtain ⟨w3, e3, h3, f3⟩ := g2.rfun hN (fun z => by cases z) (by decide) (fch_ok 2 (by omega)) nm1 (by unfold lkn; decide) (no0 _) (by omega)
  obtain ⟨v3, q3, g3, r3⟩ := line_nx (k := k) (f := N' + 1 + 1) (x := 2) hN (ln_fun g2 e3) h3 (fun z => by cases z) (by omega)
  obtain ⟨w4, e4, h4, f4⟩ := g3.rfun hN (fun z => by cases z) (by decide) (fch_ok 3 (by omega)) nm1 (by unfold lkn; decide) (no0 _) (by omega)
  obtain ⟨v4, q4, g4, r4⟩ := line_nx (k := k) (f := N' + 1) (x := 3) hN (ln_fun g3 e4) h4 (fun z => by cases z) (by omega)
  have hks : ∃ K3 Ks, tks 0 rs = K3 :: Ks ∧ K3 ≠ .bad := by
    cases rs with
    | nil => exact ⟨_, _, rfl, fun z => by cases z⟩
    | cons r2 rs2 => exact ⟨_, _, rfl, fun z => by cases z⟩
  obtain ⟨K3, Ks, eks, hb⟩ := hks
  rw [eks] at g4
  obtain ⟨w5, e5, h5, f5⟩ := g4.rfun hN hb (by decide) (fch_ok 4 (by omega)) nm1 (by unfold lkn; decide) (no0 _) (by omega)
  obtain ⟨wf, q5, g5, r5⟩ := rd_aft (k := k) hN rs 0 [] v4 w5 N' 4 (ln_fun g4 e5) ⟨K3, Ks, eks.symm, h5⟩ hg hok rfl hnf h2 (by omega) (by omega)
  exact ⟨wf, (((q1.trans q2).trans q3).trans q4).trans q5, g5, ((((((((f1.tr2 r1.r).tr2 f2).tr2 r2.r).tr2 f3).tr2 r3.r).tr2 f4).tr2 r4.r).tr2 f5).tr2 r5⟩
theorem okRs_GRs : ∀ (rs : List Row) (c : Core), okRs tk5 5 c rs → (∀ n, n ≤ (cL (run tk5 c rs)).length → n ≤ 9) → GRs (cL c).length rs ∧ ∀ x, .inl x ∈ rs → x.2.length ≤ 2
  | [], c, _, _ => ⟨trivial, fun x hx => absurd hx List.not_mem_nil⟩
  | r :: rs, c, hok, h9 => by
    have hm : (cL (stp tk5 c r)).length ≤ (cL (run tk5 c (r :: rs))).length := cL_mono tk5 rs (stp tk5 c r)
    obtain ⟨i1, i2⟩ := okRs_GRs rs (stp tk5 c r) hok.2 h9
    have h12 : (cL (stp tk5 c r)).length ≤ 9 := h9 _ hm
    rcases r with ⟨f, ps⟩ | ⟨b, u, v⟩
    · have ho : f < 5 ∧ ps.length = tk5 f ∧ (∀ k, k < ps.length → ps.getD k 0 < (cL c).length) ∧ (cL c).length < 24 := hok.1
      have e1 : (cL (stp tk5 c (.inl (f, ps)))).length = (cL c).length + 1 := by show (cL c ++ [(f, ps)]).length = _; rw [List.length_append]; rfl
      have t2 : ps.length ≤ 2 := by
        rw [ho.2.1]
        have : f = 0 ∨ f = 1 ∨ f = 2 ∨ f = 3 ∨ f = 4 := by omega
        rcases this with rfl | rfl | rfl | rfl | rfl <;> decide
      rw [e1] at i1 h12
      refine ⟨⟨⟨by omega, ho.1, fun k hk => by have := ho.2.2.1 k hk; show ps.getD k 0 < 12; omega⟩, i1⟩, fun x hx => ?_⟩
      rcases List.mem_cons.mp hx with e | e
      · cases e; exact t2
      · exact i2 x e
    · have e1 : (cL (stp tk5 c (.inr (b, u, v)))).length = (cL c).length := by cases b <;> rfl
      rw [e1] at i1 h12
      have ho : u < (cL c).length ∧ v < (cL c).length := by
        cases b
        · exact ⟨hok.1.1, hok.1.2.1⟩
        · exact ⟨hok.1.1, hok.1.2.1⟩
      refine ⟨⟨⟨by show u < 12; omega, by show v < 12; omega⟩, i1⟩, fun x hx => ?_⟩
      rcases List.mem_cons.mp hx with e | e
      · cases e
      · exact i2 x e
