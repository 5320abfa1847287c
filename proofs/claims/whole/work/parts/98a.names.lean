/-! text: the model's names; words that are kept -/
theorem here_ok {N K B : Nat} {w : Mem} {tp : List Nat} {L : List (List Nat)} {ls : List Nat} {p q : Nat} (lp : Nat → Int32 → Option Int32) (cnt : Int32) (hcnt : cnt = nI L.length) (hlp : ∀ fu v, lp (fu + 1) v = if cnt ≤ v then some (-1) else Option.bind (f_X9_isAt N w K (6 * (nI B + v)) (gF w 9 14 0) (gF w 9 15 0)) (fun z2 => if z2 = (0 : Int32) then lp fu (v + 1) else some v)) (hN : 200 < N) (hT : TMt w tp) (hb : ∀ b, b ∈ tp → b < 256) (hl : tp.length ≤ 500) (h14 : gF w 9 14 0 = nI p) (h15 : gF w 9 15 0 = nI q) (hpq : p < q) (hq : q ≤ tp.length) (hK : 6 * (B + L.length) ≤ alen K) (hK2 : alen K ≤ 1000) (hx : ∀ t, t < L.length → ∀ k, k < 6 → gA w K 0 (6 * (B + t) + k) = nI ((L.getD t []).getD k 0)) (hW : ∀ ls, ls ∈ L → WOK ls) (hls : WOK ls) (e : ls = cut tp p q) : (∀ t, lkp L ls t → lp N (nI 0) = some (nI t)) ∧ (lkn L ls → lp N (nI 0) = some n1) := by
  have key := lpe (α := Unit) L.length (fun fu _ v => lp fu v) (fun o => (∃ t, lkp L ls t ∧ o = some (nI t)) ∨ (lkn L ls ∧ o = some n1)) (fun s _ => ∀ t, t < s → L.getD t [] ≠ ls) ?_ ?_ 0 N () (by omega) (by omega) (fun s hs => absurd hs (Nat.not_lt_zero s))
  · refine ⟨fun t ht => ?_, fun hn => ?_⟩
    · rcases key with ⟨s, hs, e⟩ | ⟨hs, e⟩
      · have : s = t := by
          rcases Nat.lt_trichotomy s t with y | y | y
          · exact absurd hs.2.1 (ht.2.2 s y)
          · exact y
          · exact absurd ht.2.1 (hs.2.2 t y)
        rw [← this]; exact e
      · exact absurd ht.2.1 (hs t ht.1)
    · rcases key with ⟨s, hs, e⟩ | ⟨hs, e⟩
      · exact absurd hs.2.1 (hn s hs.1)
      · exact e
  · intro fu _ hq
    refine Or.inr ⟨hq, ?_⟩
    show lp (fu + 1) (nI L.length) = some n1
    rw [hlp, hcnt, if_pos (of_eq_true (le_tt (by omega) (by omega) (Nat.le_refl _)))]; rfl
  · intro fu s _ hs hss
    have hws := getD_WOK hW hs
    have hat := isAt_ok (N := N) (K := K) (a := p) (b := q) (p := 6 * (B + s)) (w := w) (fun k => (L.getD s []).getD k 0) (by omega) hT hb hl hq (by omega) (by omega) hK2 (fun k hk => ⟨hx s hs k hk, getD_b (fun b hb => by have := hws.2.2 b hb; omega) k⟩)
    rw [b01_c (ltr_iff hws hls e hpq hq)] at hat
    by_cases y : L.getD s [] = ls
    · refine Or.inl (Or.inl ⟨s, ⟨hs, y, hss⟩, ?_⟩)
      show lp (fu + 1) (nI s) = some (nI s)
      rw [hlp, hcnt, if_neg (of_eq_false (le_tf (by omega) (by omega) hs)), h14, h15, li6, q_add, q_mul, hat, Option.bind_some, b01_t y, if_neg (by decide)]
    · refine Or.inr ⟨(), fun t ht => ?_, ?_⟩
      · by_cases e : t = s
        · rw [e]; exact y
        · exact hss t (by omega)
      · show lp (fu + 1) (nI s) = lp fu (nI (s + 1))
        rw [hlp, hcnt, if_neg (of_eq_false (le_tf (by omega) (by omega) hs)), h14, h15, li6, q_add, q_mul, hat, Option.bind_some, b01_f y, if_pos (show (nI 0 : Int32) = 0 from rfl), li1, q_add]
theorem al45 : alen 45 = 48 := by decide
theorem al41 : alen 41 = 16 := by decide
theorem funHere_ok {N : Nat} {w : Mem} {n : Nat} {tp : List Nat} {FL : List (List Nat)} {tg : List Nat} {NL : List (List Nat)} {rs : List Row} {ls : List Nat} {g p q : Nat} (hN : 200 < N) (h : RM9 w n tp FL tg NL rs) (hP : RPr g n tp FL tg NL rs) (h14 : gF w 9 14 0 = nI p) (h15 : gF w 9 15 0 = nI q) (hpq : p < q) (hq : q ≤ n) (hls : WOK ls) (e : ls = cut tp p q) : (∀ t, lkp FL ls t → f_X9_funHere N w = some (nI t)) ∧ (lkn FL ls → f_X9_funHere N w = some n1) := by
  obtain ⟨⟨_, hn, hl, hb⟩, ⟨hF, _, _⟩, ⟨hW, _, _⟩, _⟩ := hP
  refine here_ok (N := N) (K := 45) (B := 0) (fun fu v => lp_X9_funHere_2 (f_X9_funHere_41 N w) N w fu v) (gF w 9 20 0) h.2.1.1 (fun fu v => ?_) hN h.1.1 hb hl h14 h15 hpq (by omega) (by rw [al45]; omega) (by rw [al45]; omega) (fun t ht k hk => ?_) hW hls e
  · show lp_X9_funHere_2 (f_X9_funHere_41 N w) N w (fu + 1) v = _
    rw [lp_X9_funHere_2, f_X9_funHere_41, show (nI 0 + v : Int32) = v from Int32.zero_add v]
  · rw [Nat.zero_add]; exact (h.2.1.2 t ht).1 k hk
theorem RPr.n24 {g n : Nat} {tp : List Nat} {FL : List (List Nat)} {tg : List Nat} {NL : List (List Nat)} {rs : List Row} (h : RPr g n tp FL tg NL rs) (tk : Nat → Nat) (ht : AG tk tg) : CI tk FL.length (run tk c0 rs) := by
  obtain ⟨_, ⟨hF, hT, h3⟩, _, ho⟩ := h
  exact (CI.zero hF (fun g hg => by rw [ht g (by omega)]; exact h3 g)).rn (ho tk ht).1
def tk0 (tg : List Nat) : Nat → Nat := fun i => tg.getD i 0
theorem AG.z (tg : List Nat) : AG (tk0 tg) tg := fun _ _ => rfl
theorem RPr.nl {g n : Nat} {tp : List Nat} {FL : List (List Nat)} {tg : List Nat} {NL : List (List Nat)} {rs : List Row} (h : RPr g n tp FL tg NL rs) : NL.length ≤ 24 := by
  have h1 := (h.n24 _ (AG.z tg)).1.2.1
  rw [(h.2.2.2 _ (AG.z tg)).2]; exact h1
theorem termHere_ok {N : Nat} {w : Mem} {n : Nat} {tp : List Nat} {FL : List (List Nat)} {tg : List Nat} {NL : List (List Nat)} {rs : List Row} {ls : List Nat} {g p q : Nat} (hN : 200 < N) (h : RM9 w n tp FL tg NL rs) (hP : RPr g n tp FL tg NL rs) (h14 : gF w 9 14 0 = nI p) (h15 : gF w 9 15 0 = nI q) (hpq : p < q) (hq : q ≤ n) (hls : WOK ls) (e : ls = cut tp p q) : (∀ t, lkp NL ls t → f_X9_termHere N w = some (nI t)) ∧ (lkn NL ls → f_X9_termHere N w = some n1) := by
  have h24 := hP.nl
  obtain ⟨⟨_, hn, hl, hb⟩, _, ⟨_, hW, _⟩, _⟩ := hP
  refine here_ok (N := N) (K := 44) (B := 24) (fun fu v => lp_X9_termHere_2 (f_X9_termHere_44 N w) N w fu v) (gF w 9 21 0) h.2.2.1.1 (fun fu v => ?_) hN h.1.1 hb hl h14 h15 hpq (by omega) (by rw [al44]; omega) (by rw [al44]; omega) (fun t ht k hk => h.2.2.1.2 t ht k hk) hW hls e
  show lp_X9_termHere_2 (f_X9_termHere_44 N w) N w (fu + 1) v = _
  rw [lp_X9_termHere_2, f_X9_termHere_44]; rfl
/-- the four words that are no names -/
def kwF : List Nat := [102, 117, 110]
def kwT : List Nat := [116, 101, 114, 109]
def kwS : List Nat := [115, 97, 109, 101]
def kwD : List Nat := [100, 105, 102, 102]
theorem kwF_ok : WOK kwF := ⟨by decide, by decide, by decide⟩
theorem kwT_ok : WOK kwT := ⟨by decide, by decide, by decide⟩
theorem kwS_ok : WOK kwS := ⟨by decide, by decide, by decide⟩
theorem kwD_ok : WOK kwD := ⟨by decide, by decide, by decide⟩
def isNm (K : Kd) : Prop := ∃ ls, K = .word ls ∧ ls ≠ kwF ∧ ls ≠ kwT ∧ ls ≠ kwS ∧ ls ≠ kwD
theorem i2c_l : ∀ c : Nat, c < 128 → i2c (nI c &&& 255) = nI c := by
  have key : ∀ c : Fin 128, i2c (nI c.val &&& 255) = nI c.val := by decide +kernel
  exact fun c hc => key ⟨c, hc⟩
theorem TkM.ne2 {w : Mem} {K : Kd} {tp : List Nat} {n p q : Nat} (h : TkM w K) (hk : KO tp n p q K) (hK : ∀ ls, K ≠ .word ls) : gF w 9 16 0 ≠ (2 : Int32) := by
  rcases K.cs with rfl | ⟨ls, rfl⟩ | ⟨d, rfl⟩ | ⟨c, rfl⟩ | rfl
  · have : gF w 9 16 0 = nI 0 := h; rw [this]; decide
  · exact absurd rfl (hK ls)
  · have : gF w 9 16 0 = nI 3 := h.1; rw [this]; decide
  ·
    have e : gF w 9 16 0 = nI c := h
    rw [e]
    rcases hk.1 with y | y | y | y | y <;> rw [y] <;> decide
  · have : gF w 9 16 0 = nI 1 := h; rw [this]; decide
theorem isWord_ok {N n p q : Nat} {w : Mem} {tp : List Nat} {K : Kd} (bl : List Nat) (b1 : List Int32) (hb1 : b1 = bl.map nI) (hbl : WOK bl) (hN : 200 < N) (hT : TMt w tp) (hl : tp.length ≤ 500) (hn : n ≤ tp.length) (hb : ∀ b, b ∈ tp → b < 256) (hK : TkM w K) (h14 : gF w 9 14 0 = nI p) (h15 : K ≠ .bad → gF w 9 15 0 = nI q) (hk : KO tp n p q K) : f_X9_isWord N w b1 = some (nI (b01 (K = .word bl))) := by
  have hlb : b1.length = bl.length := by rw [hb1, List.length_map]
  have hbl6 := hbl.2.1
  by_cases hw : ∃ ls, K = .word ls
  · obtain ⟨ls, rfl⟩ := hw
    have h16 : gF w 9 16 0 = nI 2 := hK
    have h15 := h15 (fun z => by cases z)
    obtain ⟨k1, k2, k3, k4⟩ := hk
    have hll : ls.length = q - p := by rw [k2, cut_len (by omega)]
    rw [f_X9_isWord, h16, if_pos (show (nI 2 : Int32) = 2 from rfl), h14, h15, q_sub (by omega), hlb]
    have hinj : (Kd.word ls = Kd.word bl) ↔ ls = bl := ⟨fun z => by cases z; rfl, fun z => by rw [z]⟩
    rw [b01_c hinj]
    by_cases hlen : q - p = bl.length
    · rw [if_pos (by rw [hlen])]
      have key := lpe (α := Unit) bl.length (fun fu _ v => lp_X9_isWord_28 (f_X9_isWord_63 N w b1) N w b1 fu v) (fun o => o = some (nI (b01 (ls = bl)))) (fun s _ => ∀ t, t < s → ls.getD t 0 = bl.getD t 0) ?_ ?_ 0 N () (by omega) (by omega) (fun s hs => absurd hs (Nat.not_lt_zero s))
      · exact key
      · intro fu _ hs
        show lp_X9_isWord_28 (f_X9_isWord_63 N w b1) N w b1 (fu + 1) (nI bl.length) = _
        have e : ls = bl := eq_getD k1 hbl (fun k hk => by
          by_cases z : k < bl.length
          · exact hs k z
          · rw [List.getD_eq_getElem?_getD, List.getD_eq_getElem?_getD, List.getElem?_eq_none (by omega), List.getElem?_eq_none (by omega)])
        rw [lp_X9_isWord_28, hlb, if_pos (of_eq_true (le_tt (by omega) (by omega) (Nat.le_refl _))), f_X9_isWord_63, b01_t e]; rfl
      · intro fu s _ hs hss
        have hc := hT (p + s) (by omega)
        have hbs : bl.getD s 0 = bl[s] := by rw [List.getD_eq_getElem?_getD, List.getElem?_eq_getElem hs]; rfl
        have hb97 := hbl.2.2 _ (List.getElem_mem hs)
        have hi : i2c (b1.getD s 0 &&& 255) = nI (bl.getD s 0) := by
          have e1 : b1.getD s 0 = nI (bl.getD s 0) := by
            rw [hb1, List.getD_eq_getElem?_getD, List.getElem?_map, List.getElem?_eq_getElem hs, hbs]; rfl
          rw [e1]
          exact i2c_l _ (by rw [hbs]; omega)
        have hcs : ls.getD s 0 = tp.getD (p + s) 0 := by rw [k2, cut_getD (by omega)]
        have hbb := getD_b hb (p + s)
        by_cases y : ls.getD s 0 = bl.getD s 0
        · refine Or.inr ⟨(), fun t ht => ?_, ?_⟩
          · by_cases e : t = s
            · rw [e]; exact y
            · exact hss t (by omega)
          · show lp_X9_isWord_28 (f_X9_isWord_63 N w b1) N w b1 (fu + 1) (nI s) = lp_X9_isWord_28 (f_X9_isWord_63 N w b1) N w b1 fu (nI (s + 1))
            rw [lp_X9_isWord_28, hlb, if_neg (of_eq_false (le_tf (by omega) (by omega) hs)), h14, q_add, if_pos (inb_t (by omega) (by omega)), if_pos (inb_t (by omega) (by omega)), cl_t (by omega), cl_t (by omega), hc, hi, if_pos (by rw [← hcs, y]), li1, q_add]
        · refine Or.inl ?_
          show lp_X9_isWord_28 (f_X9_isWord_63 N w b1) N w b1 (fu + 1) (nI s) = _
          rw [lp_X9_isWord_28, hlb, if_neg (of_eq_false (le_tf (by omega) (by omega) hs)), h14, q_add, if_pos (inb_t (by omega) (by omega)), if_pos (inb_t (by omega) (by omega)), cl_t (by omega), cl_t (by omega), hc, hi, if_neg (of_eq_false (eq_tf (by omega) (by rw [hbs]; omega) (fun z => y (by rw [hcs, z])))), b01_f (fun z => y (by rw [z]))]; rfl
    · rw [if_neg (of_eq_false (eq_tf (by omega) (by omega) hlen)), b01_f (fun z => hlen (by rw [← hll, z]))]; rfl
  · have hne : ∀ ls, K ≠ .word ls := fun ls z => hw ⟨ls, z⟩
    rw [f_X9_isWord, if_neg (hK.ne2 hk hne), b01_f (hne bl)]; rfl
theorem keeps_ok {N K B p q : Nat} {w : Mem} {tp : List Nat} (hN : 200 < N) (hT : TMt w tp) (hl : tp.length ≤ 500) (hq : q ≤ tp.length) (hKt : K ≠ 40) (h14 : gF w 9 14 0 = nI p) (h15 : gF w 9 15 0 = nI q) (hpq : p < q) (hB : B + 6 ≤ alen K) (hK2 : alen K ≤ 1000) : ∃ v, f_X9_keeps N w K (nI B) = some v ∧ (∀ k, k < 6 → gA v K 0 (B + k) = nI ((cut tp p q).getD k 0)) ∧ (∀ x, x < B → gA v K 0 x = gA w K 0 x) ∧ Fr (fun _ _ _ => False) (fun k i => k = K ∧ i = 0) w v := by
  have key := lpc (α := Mem) 6 (fun fu a v => lp_X9_keeps_2 (fun (w_1 : Mem) => (f_X9_keeps_47 N w_1 K)) N K (nI B) fu a v) (fun a => some a) (fun s a => (∀ k, k < s → gA a K 0 (B + k) = nI (ltr tp p q k)) ∧ (∀ x, x < B → gA a K 0 x = gA w K 0 x) ∧ Fr (fun _ _ _ => False) (fun k i => k = K ∧ i = 0) w a) ?_ ?_ 0 N w (by omega) (by omega) ⟨fun k hk => absurd hk (Nat.not_lt_zero k), fun _ _ => rfl, Fr.rf⟩
  · obtain ⟨v, ⟨a1, a2, a3⟩, a4⟩ := key
    exact ⟨v, a4, fun k hk => by rw [ltr_cut hq]; exact a1 k hk, a2, a3⟩
  · intro fu a _
    show lp_X9_keeps_2 (fun (w_1 : Mem) => (f_X9_keeps_47 N w_1 K)) N K (nI B) (fu + 1) a (nI 6) = some a
    rw [lp_X9_keeps_2, if_pos (by decide)]; rfl
  · intro fu s a hs ⟨a1, a2, a3⟩
    have e14 : gF a 9 14 0 = nI p := (a3.1 _ _ _ (fun z => z)).trans h14
    have e15 : gF a 9 15 0 = nI q := (a3.1 _ _ _ (fun z => z)).trans h15
    have hib : inb (nI (B + s)) (alen K) = true := inb_t (by omega) (by omega)
    refine ⟨sA a K 0 (B + s) (nI (ltr tp p q s)), ⟨fun k hk => ?_, fun x hx => by rw [gA_sA, if_neg (by omega)]; exact a2 x hx, a3.tr ⟨fun _ _ _ _ => rfl, fun k i z => by rw [gA_sA_ne z], fun _ _ => rfl, fun _ _ _ => rfl⟩⟩, ?_⟩
    · rw [gA_sA]
      by_cases e : k = s
      · rw [e, if_pos ⟨rfl, rfl, rfl⟩]
      · rw [if_neg (by omega)]; exact a1 k (by omega)
    · show lp_X9_keeps_2 (fun (w_1 : Mem) => (f_X9_keeps_47 N w_1 K)) N K (nI B) (fu + 1) a (nI s) = lp_X9_keeps_2 (fun (w_1 : Mem) => (f_X9_keeps_47 N w_1 K)) N K (nI B) fu (sA a K 0 (B + s) (nI (ltr tp p q s))) (nI (s + 1))
      rw [lp_X9_keeps_2, li6, if_neg (of_eq_false (le_tf (by omega) (by omega) hs)), e14, e15, q_add, q_add]
      unfold ltr
      by_cases z : q ≤ p + s
      · rw [if_pos (of_eq_true (le_tt (by omega) (by omega) z)), if_pos hib, cl_t (by omega), if_pos z, li1, q_add]; rfl
      · have hc : gA a 40 0 (p + s) = nI (tp.getD (p + s) 0) := by rw [a3.2.1 40 0 (fun y => hKt y.1.symm)]; exact hT (p + s) (by omega)
        rw [if_neg (of_eq_false (le_tf (by omega) (by omega) (by omega))), if_pos (inb_t (by omega) (by omega)), if_pos hib, cl_t (by omega), cl_t (by omega), hc, if_neg z, li1, q_add]
