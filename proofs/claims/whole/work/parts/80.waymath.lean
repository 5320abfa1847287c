/-! ways: what they are -/
/-- the least capped sum from s to b in h steps at most; NOW where there is none -/
noncomputable def onw (W : Mx) (g s v x : Nat) : Nat := if W s v = 1000000001 then 1000000001 else if x = 1000000001 then 1000000001 else pl (pl g (W s v)) x
noncomputable def mnv (f : Nat → Nat) (b : Nat) : Nat → Nat
  | 0 => b
  | q + 1 => min (f q) (mnv f b q)
theorem mnv_le (f : Nat → Nat) (b : Nat) : ∀ q, mnv f b q ≤ b ∧ ∀ v, v < q → mnv f b q ≤ f v
  | 0 => ⟨Nat.le_refl _, fun v hv => absurd hv (Nat.not_lt_zero v)⟩
  | q + 1 => by
    obtain ⟨h1, h2⟩ := mnv_le f b q
    rw [mnv]
    refine ⟨by omega, fun v hv => ?_⟩
    by_cases e : v = q
    · subst e; omega
    · have := h2 v (by omega); omega
theorem mnv_ex (f : Nat → Nat) (b : Nat) : ∀ q, mnv f b q = b ∨ ∃ v, v < q ∧ mnv f b q = f v
  | 0 => Or.inl rfl
  | q + 1 => by
    rw [mnv]
    by_cases z : f q ≤ mnv f b q
    · exact Or.inr ⟨q, by omega, Nat.min_eq_left z⟩
    · rw [Nat.min_eq_right (by omega)]
      rcases mnv_ex f b q with h | ⟨v, hv, h⟩
      · exact Or.inl h
      · exact Or.inr ⟨v, by omega, h⟩
noncomputable def rst (n : Nat) (W : Mx) (b : Nat) : Nat → Nat → Nat
  | 0, s => if s = b then 0 else 1000000001
  | h + 1, s => mnv (fun v => onw W 0 s v (rst n W b h v)) (rst n W b h s) n
theorem onw_le (W : Mx) (g s v x : Nat) : onw W g s v x ≤ 1000000001 := by
  unfold onw
  split
  · omega
  · split
    · omega
    · have := pl_bd (pl g (W s v)) x; omega
theorem rst_bd (n : Nat) (W : Mx) (b : Nat) : ∀ h s, rst n W b h s ≤ 1000000001
  | 0, s => by rw [rst]; split <;> omega
  | h + 1, s => by
    rw [rst]
    exact Nat.le_trans (mnv_le _ _ _).1 (rst_bd n W b h s)
theorem rst_down (n : Nat) (W : Mx) (b h s : Nat) : rst n W b (h + 1) s ≤ rst n W b h s := by
  rw [rst]; exact (mnv_le _ _ _).1
theorem rst_step {n : Nat} {W : Mx} {b h s v : Nat} (hv : v < n) : rst n W b (h + 1) s ≤ onw W 0 s v (rst n W b h v) := by
  rw [rst]; exact (mnv_le _ _ _).2 v hv
theorem rst_ex (n : Nat) (W : Mx) (b h s : Nat) : rst n W b (h + 1) s = rst n W b h s ∨ ∃ v, v < n ∧ rst n W b (h + 1) s = onw W 0 s v (rst n W b h v) := by
  rw [rst]
  exact mnv_ex _ _ _
theorem onw_0 {W : Mx} {s v x : Nat} (h1 : W s v ≠ 1000000001) (h2 : x ≠ 1000000001) : onw W 0 s v x = min 1000000000 (W s v + x) := by
  unfold onw
  rw [if_neg h1, if_neg h2, pl3, Nat.zero_add]
theorem onw_now {W : Mx} {g s v x : Nat} (h : onw W g s v x ≠ 1000000001) : W s v ≠ 1000000001 ∧ x ≠ 1000000001 := by
  unfold onw at h
  refine ⟨fun z => h (by rw [if_pos z]), fun z => h ?_⟩
  by_cases y : W s v = 1000000001
  · rw [if_pos y]
  · rw [if_neg y, if_pos z]
/-- one way behind another -/
theorem rst_cat {n : Nat} {W : Mx} {b c h2 : Nat} : ∀ h1 a, a < n → min 1000000000 (rst n W c (h1 + h2) a) ≤ min 1000000000 (rst n W b h1 a + rst n W c h2 b) ∧ (rst n W b h1 a ≠ 1000000001 → rst n W c h2 b ≠ 1000000001 → rst n W c (h1 + h2) a ≠ 1000000001) := by
  intro h1
  induction h1 with
  | zero =>
    intro a ha
    rw [Nat.zero_add, rst]
    by_cases e : a = b
    · subst e
      rw [if_pos rfl, Nat.zero_add]
      exact ⟨Nat.le_refl _, fun _ h => h⟩
    · rw [if_neg e]
      exact ⟨by omega, fun h => absurd rfl h⟩
  | succ h1 ih =>
    intro a ha
    rw [show h1 + 1 + h2 = (h1 + h2) + 1 by omega]
    have hd := rst_down n W c (h1 + h2) a
    have hb1 := rst_bd n W c (h1 + h2) a
    rcases rst_ex n W b h1 a with e | ⟨v, hv, e⟩
    · rw [e]
      obtain ⟨i1, i2⟩ := ih a ha
      exact ⟨by omega, fun x y => by have := i2 x y; omega⟩
    · rw [e]
      obtain ⟨i1, i2⟩ := ih v hv
      have hs := rst_step (n := n) (W := W) (b := c) (h := h1 + h2) (s := a) hv
      have hbd := rst_bd n W c (h1 + h2 + 1) a
      by_cases y : onw W 0 a v (rst n W b h1 v) = 1000000001
      · rw [y]
        exact ⟨by omega, fun x => absurd rfl x⟩
      · obtain ⟨y1, y2⟩ := onw_now y
        rw [onw_0 y1 y2]
        by_cases x : rst n W c (h1 + h2) v = 1000000001
        · rw [x] at i1
          exact ⟨by omega, fun _ q => absurd x (i2 y2 q)⟩
        · rw [onw_0 y1 x] at hs
          exact ⟨by omega, fun _ q => by omega⟩
theorem rst_ge {T : Trm} {S : Prs} {ld : Nat → Nat} {D : Mx} (hD : Sol T S ld D) (hw : ∀ a v, a < tN T → v < tN T → D a v ≤ wt T S ld D a v) {b : Nat} (hb : b < tN T) : ∀ h s, s < tN T → D s b ≤ rst (tN T) (wt T S ld D) b h s := by
  intro h
  induction h with
  | zero =>
    intro s hs
    rw [rst]
    by_cases e : s = b
    · subst e; rw [if_pos rfl, hD.1 s hs]; omega
    · rw [if_neg e]
      have := (sol_tri hD).1 s b hs hb
      omega
  | succ h ih =>
    intro s hs
    rcases rst_ex (tN T) (wt T S ld D) b h s with e | ⟨v, hv, e⟩
    · rw [e]; exact ih s hs
    · rw [e]
      have h1 := (sol_tri hD).1 s b hs hb
      by_cases y : onw (wt T S ld D) 0 s v (rst (tN T) (wt T S ld D) b h v) = 1000000001
      · rw [y]; omega
      · obtain ⟨y1, y2⟩ := onw_now y
        rw [onw_0 y1 y2]
        have h2 := ih v hv
        have h3 := hw s v hs hv
        have h4 := (sol_tri hD).2 s b v hs hb hv
        omega
theorem wt_in {T : Trm} {S : Prs} {ld : Nat → Nat} {D : Mx} {a v : Nat} (h : wt T S ld D a v ≠ 1000000001) : ((a, v) ∈ S ∨ (v, a) ∈ S) ∨ alk T ld a v := by
  by_cases z : (a, v) ∈ S ∨ (v, a) ∈ S
  · exact Or.inl z
  · by_cases y : alk T ld a v
    · exact Or.inr y
    · exact absurd (by unfold wt; rw [if_neg z, if_neg y]; rfl) h
theorem sol_wt {T : Trm} {S : Prs} {ld : Nat → Nat} {D : Mx} (hD : Sol T S ld D) {a v : Nat} (ha : a < tN T) (hv : v < tN T) : D a v ≤ wt T S ld D a v := by
  have h1 := (sol_tri hD).1 a v ha hv
  refine le_wt (fun h => ?_) (fun h => hD.2.2.2.2 a v ha hv h) (by omega)
  rcases h with h | h
  · exact (hD.2.2.2.1 _ _ h).1
  · exact (hD.2.2.2.1 _ _ h).2
theorem rst_one {n : Nat} {W : Mx} {a b : Nat} (hb : b < n) (h : W a b ≠ 1000000001) : rst n W b 1 a ≤ min 1000000000 (W a b) := by
  have := rst_step (n := n) (W := W) (b := b) (h := 0) (s := a) hb
  rw [rst, if_pos rfl, onw_0 h (by omega)] at this
  exact this
/-- a cost is the sum of a way -/
theorem rst_eq {T : Trm} {S : Prs} {ld : Nat → Nat} {D : Mx} (hT : TOK T) (hS : PRok (tN T) S) (hD : GSol T S ld D) {a b : Nat} (ha : a < tN T) (hb : b < tN T) : ∃ h, min 1000000000 (rst (tN T) (wt T S ld D) b h a) = D a b := by
  have hw : ∀ a v, a < tN T → v < tN T → D a v ≤ wt T S ld D a v := fun a v ha hv => sol_wt hD.1 ha hv
  have hL : ∀ a b, ∃ x, (∃ h, min 1000000000 (rst (tN T) (wt T S ld D) b h a) = x) ∧ ∀ y, (∃ h, min 1000000000 (rst (tN T) (wt T S ld D) b h a) = y) → x ≤ y := fun a b => least_ex ⟨_, 0, rfl⟩
  have hE : ∃ E : Mx, ∀ a b, (∃ h, min 1000000000 (rst (tN T) (wt T S ld D) b h a) = E a b) ∧ ∀ h, E a b ≤ min 1000000000 (rst (tN T) (wt T S ld D) b h a) :=
    ⟨fun a b => Classical.choose (hL a b), fun a b => ⟨(Classical.choose_spec (hL a b)).1, fun h => (Classical.choose_spec (hL a b)).2 _ ⟨h, rfl⟩⟩⟩
  obtain ⟨E, hE⟩ := hE
  have hDE : Und (tN T) D E := by
    intro t u ht hu
    obtain ⟨h, e⟩ := (hE t u).1
    have h1 := rst_ge hD.1 hw hu h t ht
    have h2 := (sol_tri hD.1).1 t u ht hu
    omega
  have h1s : ∀ a b, a < tN T → b < tN T → wt T S ld D a b ≠ 1000000001 → E a b ≤ wt T S ld D a b := by
    intro a b ha hb hn
    have e1 := (hE a b).2 1
    have e2 := rst_one (n := tN T) (W := wt T S ld D) hb hn
    omega
  have hSol : Sol T S ld E := by
    refine ⟨fun t ht => ?_, fun t u ht hu => ?_, fun t u v ht hu hv => ?_, fun c d hcd => ?_, fun i j hi hj hij => ?_⟩
    · have e1 := (hE t t).2 0
      rw [rst, if_pos rfl] at e1
      omega
    · have e1 := (hE t u).2 0
      show E t u ≤ 1000000000
      omega
    · obtain ⟨g1, e1⟩ := (hE t v).1
      obtain ⟨g2, e2⟩ := (hE v u).1
      have e3 := (hE t u).2 (g1 + g2)
      have e4 := (rst_cat (n := tN T) (W := wt T S ld D) (b := v) (c := u) (h2 := g2) g1 t ht).1
      rw [pl_def]
      omega
    · obtain ⟨hc, hd⟩ := hS c d hcd
      have w1 := wt_le1 (T := T) (ld := ld) (E := D) (t := c) (u := d) (Or.inl hcd)
      have w2 := wt_le1 (T := T) (ld := ld) (E := D) (t := d) (u := c) (Or.inr hcd)
      have e1 := h1s c d hc hd (by omega)
      have e2 := h1s d c hd hc (by omega)
      omega
    · have w1 := wt_leP (S := S) (E := D) hij
      have w2 : psm T D i j ≤ 1000000000 := psum_le T D i j _
      have e1 := h1s i j hi hj (by omega)
      have e2 := psm_und hT hDE hi hj hij.2.1
      omega
  obtain ⟨h, e⟩ := (hE a b).1
  have l1 := hD.2 E hSol a b ha hb
  have l2 := hDE a b ha hb
  exact ⟨h, by omega⟩
/-- what is one is on a way -/
theorem rst_one2 {T : Trm} {S : Prs} {ld : Nat → Nat} {D : Mx} (hT : TOK T) (hL : LDC T S ld) (hS : PRok (tN T) S) {a b : Nat} (ha : a < tN T) (hb : b < tN T) (hab : ld a = ld b) : ∃ h, rst (tN T) (wt T S ld D) b h a ≠ 1000000001 := by
  have hw : ∀ a v, a < tN T → v < tN T → wt T S ld D a v ≠ 1000000001 → ld a = ld v := by
    intro a v ha hv h
    rcases wt_in h with (h | h) | h
    · exact hL.2.1 _ _ h
    · exact (hL.2.1 _ _ h).symm
    · exact hL.1.2.2.2 a v ha hv ⟨h.2.1, eqParts_iff.mp h.2.2⟩
  have hld : ∀ b, b < tN T → ∀ h a, a < tN T → rst (tN T) (wt T S ld D) b h a ≠ 1000000001 → ld a = ld b := by
    intro b hb h
    induction h with
    | zero =>
      intro a ha h
      rw [rst] at h
      by_cases e : a = b
      · rw [e]
      · rw [if_neg e] at h; exact absurd rfl h
    | succ h ih =>
      intro a ha hn
      rcases rst_ex (tN T) (wt T S ld D) b h a with e | ⟨v, hv, e⟩
      · rw [e] at hn; exact ih a ha hn
      · rw [e] at hn
        obtain ⟨y1, y2⟩ := onw_now hn
        exact (hw a v ha hv y1).trans (ih v hv y2)
  have hst : ∀ a b, b < tN T → wt T S ld D a b ≠ 1000000001 → ∃ h, rst (tN T) (wt T S ld D) b h a ≠ 1000000001 := fun a b hb h => ⟨1, by have := rst_one (n := tN T) (W := wt T S ld D) hb h; omega⟩
  have hR : Congr T (fun a b => (∃ h, rst (tN T) (wt T S ld D) b h a ≠ 1000000001) ∧ ∃ h, rst (tN T) (wt T S ld D) a h b ≠ 1000000001) := by
    refine ⟨fun i hi => ⟨⟨0, by rw [rst, if_pos rfl]; omega⟩, ⟨0, by rw [rst, if_pos rfl]; omega⟩⟩, fun i j _ _ h => ⟨h.2, h.1⟩, fun i j k hi hj hk h g => ?_, fun i j hi hj h => ?_⟩
    · obtain ⟨⟨h1, e1⟩, ⟨h2, e2⟩⟩ := h
      obtain ⟨⟨g1, d1⟩, ⟨g2, d2⟩⟩ := g
      exact ⟨⟨h1 + g1, (rst_cat h1 i hi).2 e1 d1⟩, ⟨g2 + h2, (rst_cat g2 k hk).2 d2 e2⟩⟩
    · by_cases e : i = j
      · subst e
        exact ⟨⟨0, by rw [rst, if_pos rfl]; omega⟩, ⟨0, by rw [rst, if_pos rfl]; omega⟩⟩
      · have ha : alk T ld i j := ⟨e, h.1, eqParts_iff.mpr (fun k hk => by
          obtain ⟨⟨q, hq⟩, _⟩ := h.2 k hk
          have d := parts_lt hT hi hj h.1 hk
          exact hld _ d.2 q _ d.1 hq)⟩
        have w1 := wt_leP (S := S) (E := D) ha
        have w2 := wt_leP (S := S) (E := D) (alk_sym ha)
        have w3 : psm T D i j ≤ 1000000000 := psum_le T D i j _
        have w4 : psm T D j i ≤ 1000000000 := psum_le T D j i _
        exact ⟨hst i j hj (by omega), hst j i hi (by omega)⟩
  refine (hL.2.2 a b ha hb hab _ hR (fun c d hcd => ?_)).1
  have w1 := wt_le1 (T := T) (ld := ld) (E := D) (t := c) (u := d) (Or.inl hcd)
  have w2 := wt_le1 (T := T) (ld := ld) (E := D) (t := d) (u := c) (Or.inr hcd)
  exact ⟨hst c d (hS c d hcd).2 (by omega), hst d c (hS c d hcd).1 (by omega)⟩
