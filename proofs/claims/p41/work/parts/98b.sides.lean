/-! text: both sides of a look -/
abbrev FrR (g : Nat) (w v : Mem) : Prop := Fr (fun k j i => (k = 5 ∧ 4 ≤ j ∧ i = 0) ∨ ((k = 7 ∨ k = 2 ∨ k = 1) ∧ i = g) ∨ (k = 3 ∧ i = 2 + g)) (fun k i => (((13 ≤ k ∧ k ≤ 24) ∨ (31 ≤ k ∧ k ≤ 39 ∧ k ≠ 37)) ∧ i = g) ∨ (k = 25 ∧ i = 2 + g) ∨ (k = 29 ∧ i = 0)) w v
abbrev FrY (w v : Mem) : Prop := Fr (fun k j i => k = 5 ∧ 4 ≤ j ∧ i = 0) (fun k i => k = 29 ∧ i = 0) w v
theorem FrY.r {g : Nat} {w v : Mem} (h : FrY w v) : FrR g w v := h.mono (fun _ _ _ z => by omega) (fun _ _ z => by omega)
theorem Fr5.y {w v : Mem} (h : Fr5 w v) : FrY w v := h.mono (fun _ _ _ z => by omega) (fun _ _ z => z.elim)
def FrNn (w v : Mem) : Prop := (∀ k j i, ¬ (k = 9 ∧ (14 ≤ j ∧ j ≤ 24) ∧ i = 0) → gF v k j i = gF w k j i) ∧ (∀ k i, ¬ ((41 ≤ k ∧ k ≤ 45) ∧ i = 0) → gA v k i = gA w k i) ∧ (∀ x, x < 8 → gA v 41 0 x = gA w 41 0 x) ∧ (∀ x, x < 48 → gA v 42 0 x = gA w 42 0 x) ∧ (∀ x, x < 192 → gA v 43 0 x = gA w 43 0 x) ∧ ∀ x, x < 144 → gA v 44 0 x = gA w 44 0 x
theorem FrNn.rf {w : Mem} : FrNn w w := ⟨fun _ _ _ _ => rfl, fun _ _ _ => rfl, fun _ _ => rfl, fun _ _ => rfl, fun _ _ => rfl, fun _ _ => rfl⟩
theorem FrNn.tr {w v u : Mem} (h : FrNn w v) (k : FrNn v u) : FrNn w u := ⟨fun a b c z => (k.1 a b c z).trans (h.1 a b c z), fun a b z => (k.2.1 a b z).trans (h.2.1 a b z), fun x z => (k.2.2.1 x z).trans (h.2.2.1 x z), fun x z => (k.2.2.2.1 x z).trans (h.2.2.2.1 x z), fun x z => (k.2.2.2.2.1 x z).trans (h.2.2.2.2.1 x z), fun x z => (k.2.2.2.2.2 x z).trans (h.2.2.2.2.2 x z)⟩
theorem FrNn.F {w : Mem} {j : Nat} {y : Int32} (h : 14 ≤ j ∧ j ≤ 24) : FrNn w (sF w 9 j 0 y) := ⟨fun a b c z => by rw [gF_sF, if_neg (by omega)], fun _ _ _ => rfl, fun _ _ => rfl, fun _ _ => rfl, fun _ _ => rfl, fun _ _ => rfl⟩
theorem FrNn.A {w : Mem} {k x : Nat} {y : Int32} (h : k = 45 ∨ (k = 41 ∧ 8 ≤ x) ∨ (k = 42 ∧ 48 ≤ x) ∨ (k = 43 ∧ 192 ≤ x) ∨ (k = 44 ∧ 144 ≤ x)) : FrNn w (sA w k 0 x y) := by
  refine ⟨fun _ _ _ _ => rfl, fun a b z => by rw [gA_sA_ne (by omega)], fun z hz => ?_, fun z hz => ?_, fun z hz => ?_, fun z hz => ?_⟩
  all_goals rw [gA_sA, if_neg (by omega)]
theorem Fr9.n {w v : Mem} (h : Fr9 w v) : FrNn w v := ⟨fun a b c z => h.1 a b c (by omega), fun a b _ => h.2.1 a b (fun z => z), fun x _ => by rw [h.2.1 _ _ (fun z => z)], fun x _ => by rw [h.2.1 _ _ (fun z => z)], fun x _ => by rw [h.2.1 _ _ (fun z => z)], fun x _ => by rw [h.2.1 _ _ (fun z => z)]⟩
/-- what both do: go on, or tell one fault at one place -/
def LO (Fx Fm : Mem → Mem → Prop) (wx0 wm0 : Mem) (ox om : Option (Mem × Int32)) (G : Mem → Mem → Prop) : Prop :=
  ∃ wx wm, Fx wx0 wx ∧ Fm wm0 wm ∧ ((ox = some (wx, 1) ∧ om = some (wm, 1) ∧ G wx wm) ∨ (ox = some (wx, 0) ∧ om = some (wm, 0) ∧ gF wx 5 4 0 = gF wm 9 18 0 ∧ gF wx 5 5 0 = gF wm 9 19 0))
def xF (w : Mem) (e : Int32) : Mem := sF w 5 4 0 e
def mE (w : Mem) (e : Int32) : Mem := sF (sF w 9 18 0 e) 9 19 0 (gF (sF w 9 18 0 e) 9 14 0)
theorem fail_eq {N : Nat} {w : Mem} {e : Int32} : f_X5_fail N w e = some (xF w e, 0) := rfl
theorem xF_fr (w : Mem) (e : Int32) : FrY w (xF w e) := ⟨fun k j i z => by unfold xF; rw [gF_sF, if_neg (by omega)], fun _ _ _ => rfl, fun _ _ => rfl, fun _ _ _ => rfl⟩
theorem mE_n (w : Mem) (e : Int32) : FrNn w (mE w e) := (FrNn.F (by omega)).tr (FrNn.F (by omega))
theorem LO.fail {Fx Fm : Mem → Mem → Prop} {wx0 wm0 wx wm : Mem} {ox om : Option (Mem × Int32)} {G : Mem → Mem → Prop} {e : Int32} {tp : List Nat} {n p q : Nat} {K : Kd} (hx : Fx wx0 (xF wx e)) (hm : Fm wm0 (mE wm e)) (hT : TK wx wm tp n p q K) (h1 : ox = some (xF wx e, 0)) (h2 : om = some (mE wm e, 0)) : LO Fx Fm wx0 wm0 ox om G := by
  refine ⟨xF wx e, mE wm e, hx, hm, Or.inr ⟨h1, h2, ?_, ?_⟩⟩
  · unfold xF mE
    rw [gF_sF, if_pos ⟨rfl, rfl, rfl⟩, gF_sF, if_neg (by omega), gF_sF, if_pos ⟨rfl, rfl, rfl⟩]
  · unfold xF mE
    rw [gF_sF, if_neg (by omega), gF_sF, if_pos ⟨rfl, rfl, rfl⟩, gF_sF, if_neg (by omega), hT.2.2.1.1, hT.2.2.1.2]
/-! looks -/
theorem xSign {N c n p q : Nat} {w : Mem} {tp : List Nat} {K : Kd} (h : TkX w K) (hk : KO tp n p q K) (hc : c < 128) : f_X5_isSign N w (nI c) = some (nI (b01 (K = .sgn c))) := by
  rw [f_X5_isSign]
  rcases K.cs with rfl | ⟨ls, rfl⟩ | ⟨d, rfl⟩ | ⟨d, rfl⟩ | rfl
  · have e : gF w 5 6 0 = nI 0 := h; rw [e, if_neg (by decide), b01_f (fun z => by cases z)]; rfl
  · rw [h.1, if_neg (by decide), b01_f (fun z => by cases z)]; rfl
  · rw [h.1, if_neg (by decide), b01_f (fun z => by cases z)]; rfl
  ·
    have hd : d < 128 := by rcases hk.1 with y | y | y | y | y <;> omega
    rw [h.1, if_pos (show (nI 3 : Int32) = 3 from rfl), h.2]
    by_cases e : d = c
    · rw [e, if_pos rfl, b01_t rfl]; rfl
    · rw [if_neg (of_eq_false (eq_tf (by omega) (by omega) e)), b01_f (fun z => e (by cases z; rfl))]; rfl
  · have e : gF w 5 6 0 = nI 4 := h; rw [e, if_neg (by decide), b01_f (fun z => by cases z)]; rfl
theorem mSign {c n p q : Nat} {w : Mem} {tp : List Nat} {K : Kd} (h : TkM w K) (hk : KO tp n p q K) (hc : sig c) : (gF w 9 16 0 = nI c) = (K = .sgn c) := by
  have hc1 : 40 ≤ c ∧ c < 128 := by rcases hc with y | y | y | y | y <;> omega
  rcases K.cs with rfl | ⟨ls, rfl⟩ | ⟨d, rfl⟩ | ⟨d, rfl⟩ | rfl
  · have e : gF w 9 16 0 = nI 0 := h; rw [e, eq_tf (by omega) (by omega) (by omega)]; exact (eq_false (fun z => by cases z)).symm
  · have e : gF w 9 16 0 = nI 2 := h; rw [e, eq_tf (by omega) (by omega) (by omega)]; exact (eq_false (fun z => by cases z)).symm
  · rw [h.1, eq_tf (by omega) (by omega) (by omega)]; exact (eq_false (fun z => by cases z)).symm
  ·
    have hd : d < 128 := by rcases hk.1 with y | y | y | y | y <;> omega
    have e : gF w 9 16 0 = nI d := h
    rw [e]
    by_cases e : d = c
    · rw [e]; exact propext ⟨fun _ => rfl, fun _ => rfl⟩
    · rw [eq_tf (by omega) (by omega) e]; exact (eq_false (fun z => e (by cases z; rfl))).symm
  · have e : gF w 9 16 0 = nI 1 := h; rw [e, eq_tf (by omega) (by omega) (by omega)]; exact (eq_false (fun z => by cases z)).symm
theorem mEot {n p q : Nat} {w : Mem} {tp : List Nat} {K : Kd} (h : TkM w K) (hk : KO tp n p q K) : (gF w 9 16 0 = nI 0) = (K = .eot) := by
  rcases K.cs with rfl | ⟨ls, rfl⟩ | ⟨d, rfl⟩ | ⟨d, rfl⟩ | rfl
  · have e : gF w 9 16 0 = nI 0 := h; rw [e]; exact propext ⟨fun _ => rfl, fun _ => rfl⟩
  · have e : gF w 9 16 0 = nI 2 := h; rw [e, eq_tf (by omega) (by omega) (by omega)]; exact (eq_false (fun z => by cases z)).symm
  · rw [h.1, eq_tf (by omega) (by omega) (by omega)]; exact (eq_false (fun z => by cases z)).symm
  ·
    have hd : 40 ≤ d ∧ d < 128 := by rcases hk.1 with y | y | y | y | y <;> omega
    have e : gF w 9 16 0 = nI d := h
    rw [e, eq_tf (by omega) (by omega) (by omega)]; exact (eq_false (fun z => by cases z)).symm
  · have e : gF w 9 16 0 = nI 1 := h; rw [e, eq_tf (by omega) (by omega) (by omega)]; exact (eq_false (fun z => by cases z)).symm
theorem xEot {w : Mem} {K : Kd} (h : TkX w K) : (gF w 5 6 0 = nI 0) = (K = .eot) := by
  rcases K.cs with rfl | ⟨ls, rfl⟩ | ⟨d, rfl⟩ | ⟨d, rfl⟩ | rfl
  · have e : gF w 5 6 0 = nI 0 := h; rw [e]; exact propext ⟨fun _ => rfl, fun _ => rfl⟩
  · rw [h.1, eq_tf (by omega) (by omega) (by omega)]; exact (eq_false (fun z => by cases z)).symm
  · rw [h.1, eq_tf (by omega) (by omega) (by omega)]; exact (eq_false (fun z => by cases z)).symm
  · rw [h.1, eq_tf (by omega) (by omega) (by omega)]; exact (eq_false (fun z => by cases z)).symm
  · have e : gF w 5 6 0 = nI 4 := h; rw [e, eq_tf (by omega) (by omega) (by omega)]; exact (eq_false (fun z => by cases z)).symm
theorem xWord {w : Mem} {K : Kd} (h : TkX w K) : (gF w 5 6 0 = nI 1) = (∃ ls, K = .word ls) := by
  rcases K.cs with rfl | ⟨ls, rfl⟩ | ⟨d, rfl⟩ | ⟨d, rfl⟩ | rfl
  · have e : gF w 5 6 0 = nI 0 := h; rw [e, eq_tf (by omega) (by omega) (by omega)]; exact (eq_false (fun ⟨_, z⟩ => by cases z)).symm
  · rw [h.1]; exact propext ⟨fun _ => ⟨ls, rfl⟩, fun _ => rfl⟩
  · rw [h.1, eq_tf (by omega) (by omega) (by omega)]; exact (eq_false (fun ⟨_, z⟩ => by cases z)).symm
  · rw [h.1, eq_tf (by omega) (by omega) (by omega)]; exact (eq_false (fun ⟨_, z⟩ => by cases z)).symm
  · have e : gF w 5 6 0 = nI 4 := h; rw [e, eq_tf (by omega) (by omega) (by omega)]; exact (eq_false (fun ⟨_, z⟩ => by cases z)).symm
theorem xDig {w : Mem} {K : Kd} (h : TkX w K) : (gF w 5 6 0 = nI 2) = (∃ d, K = .dig d) := by
  rcases K.cs with rfl | ⟨ls, rfl⟩ | ⟨d, rfl⟩ | ⟨d, rfl⟩ | rfl
  · have e : gF w 5 6 0 = nI 0 := h; rw [e, eq_tf (by omega) (by omega) (by omega)]; exact (eq_false (fun ⟨_, z⟩ => by cases z)).symm
  · rw [h.1, eq_tf (by omega) (by omega) (by omega)]; exact (eq_false (fun ⟨_, z⟩ => by cases z)).symm
  · rw [h.1]; exact propext ⟨fun _ => ⟨d, rfl⟩, fun _ => rfl⟩
  · rw [h.1, eq_tf (by omega) (by omega) (by omega)]; exact (eq_false (fun ⟨_, z⟩ => by cases z)).symm
  · have e : gF w 5 6 0 = nI 4 := h; rw [e, eq_tf (by omega) (by omega) (by omega)]; exact (eq_false (fun ⟨_, z⟩ => by cases z)).symm
theorem mDig {n p q : Nat} {w : Mem} {tp : List Nat} {K : Kd} (h : TkM w K) (hk : KO tp n p q K) : (gF w 9 16 0 = nI 3) = (∃ d, K = .dig d) := by
  rcases K.cs with rfl | ⟨ls, rfl⟩ | ⟨d, rfl⟩ | ⟨d, rfl⟩ | rfl
  · have e : gF w 9 16 0 = nI 0 := h; rw [e, eq_tf (by omega) (by omega) (by omega)]; exact (eq_false (fun ⟨_, z⟩ => by cases z)).symm
  · have e : gF w 9 16 0 = nI 2 := h; rw [e, eq_tf (by omega) (by omega) (by omega)]; exact (eq_false (fun ⟨_, z⟩ => by cases z)).symm
  · rw [h.1]; exact propext ⟨fun _ => ⟨d, rfl⟩, fun _ => rfl⟩
  ·
    have hd : 40 ≤ d ∧ d < 128 := by rcases hk.1 with y | y | y | y | y <;> omega
    have e : gF w 9 16 0 = nI d := h
    rw [e, eq_tf (by omega) (by omega) (by omega)]; exact (eq_false (fun ⟨_, z⟩ => by cases z)).symm
  · have e : gF w 9 16 0 = nI 1 := h; rw [e, eq_tf (by omega) (by omega) (by omega)]; exact (eq_false (fun ⟨_, z⟩ => by cases z)).symm
theorem xKw {ls kw : List Nat} {w : Mem} (h : TkX w (.word ls)) (hls : WOK ls) (hkw : WOK kw) : (gF w 5 7 0 = nI (wn kw)) = (ls = kw) := by
  have b1 := (wn_lt6 hls).1
  have b2 := (wn_lt6 hkw).1
  rw [h.2]
  by_cases e : ls = kw
  · rw [e]; exact propext ⟨fun _ => rfl, fun _ => rfl⟩
  · rw [eq_tf (by omega) (by omega) (fun z => e ((wn_iff hls hkw).mp z))]; exact (eq_false e).symm
theorem kwF_n : (4955 : Int32) = nI (wn kwF) := by decide
theorem kwT_n : (397804 : Int32) = nI (wn kwT) := by decide
theorem kwS_n : (375062 : Int32) = nI (wn kwS) := by decide
theorem kwD_n : (85461 : Int32) = nI (wn kwD) := by decide
theorem xName {N n p q : Nat} {w : Mem} {tp : List Nat} {K : Kd} (h : TkX w K) (hk : KO tp n p q K) : f_X5_isName N w = some (nI (b01 (isNm K))) := by
  have x1 : (gF w 5 6 0 = (1 : Int32)) = _ := xWord h
  rw [f_X5_isName]
  by_cases hw : ∃ ls, K = .word ls
  · have x1' := x1.trans (eq_true hw)
    obtain ⟨ls, rfl⟩ := hw
    have hls : WOK ls := hk.1
    have x2 : (gF w 5 7 0 = (4955 : Int32)) = (ls = kwF) := by rw [kwF_n]; exact xKw h hls kwF_ok
    have x3 : (gF w 5 7 0 = (397804 : Int32)) = (ls = kwT) := by rw [kwT_n]; exact xKw h hls kwT_ok
    have x4 : (gF w 5 7 0 = (375062 : Int32)) = (ls = kwS) := by rw [kwS_n]; exact xKw h hls kwS_ok
    have x5 : (gF w 5 7 0 = (85461 : Int32)) = (ls = kwD) := by rw [kwD_n]; exact xKw h hls kwD_ok
    by_cases e1 : ls = kwF
    · simp only [x1', x2.trans (eq_true e1), ↓reduceIte]
      rw [b01_f (fun ⟨l, z, y⟩ => by cases z; exact y.1 e1)]; rfl
    · by_cases e2 : ls = kwT
      · simp only [x1', x2.trans (eq_false e1), x3.trans (eq_true e2), ↓reduceIte]
        rw [b01_f (fun ⟨l, z, y⟩ => by cases z; exact y.2.1 e2)]; rfl
      · by_cases e3 : ls = kwS
        · simp only [x1', x2.trans (eq_false e1), x3.trans (eq_false e2), x4.trans (eq_true e3), ↓reduceIte]
          rw [b01_f (fun ⟨l, z, y⟩ => by cases z; exact y.2.2.1 e3)]; rfl
        · by_cases e4 : ls = kwD
          · simp only [x1', x2.trans (eq_false e1), x3.trans (eq_false e2), x4.trans (eq_false e3), x5.trans (eq_true e4), ↓reduceIte]
            rw [b01_f (fun ⟨l, z, y⟩ => by cases z; exact y.2.2.2 e4)]; rfl
          · simp only [x1', x2.trans (eq_false e1), x3.trans (eq_false e2), x4.trans (eq_false e3), x5.trans (eq_false e4), ↓reduceIte]
            rw [b01_t ⟨ls, rfl, e1, e2, e3, e4⟩]; rfl
  · simp only [x1.trans (eq_false hw), ↓reduceIte]
    rw [b01_f (fun ⟨l, z, y⟩ => hw ⟨l, z⟩)]; rfl
