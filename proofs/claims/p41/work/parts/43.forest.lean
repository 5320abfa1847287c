/-! the forest: who hangs on whom, by which join; no machine here -/
abbrev Fst : Type := Nat → Option (Nat × Nat)
abbrev Jn : Type := Nat × Nat × Option Nat × Nat
def fset (F : Fst) (t : Nat) (v : Option (Nat × Nat)) : Fst := fun x => if x = t then v else F x
theorem fset_eq (F : Fst) (t : Nat) (v : Option (Nat × Nat)) : fset F t v t = v := if_pos rfl
theorem fset_ne (F : Fst) {t x : Nat} (v : Option (Nat × Nat)) (h : x ≠ t) : fset F t v x = F x := if_neg h
/-- the way from t to the one that hangs on none turned round, t then on on -/
def hgW : Nat → Fst → Nat → Nat → Nat → Fst
  | 0, F, _, _, _ => F
  | m + 1, F, t, on, by_ => match F t with
    | none => fset F t (some (on, by_))
    | some (u, c) => hgW m (fset F t (some (on, by_))) u t c
def par (F : Fst) (t : Nat) : Nat := match F t with
  | some (u, _) => u
  | none => t
def anc (F : Fst) : Nat → Nat → Nat
  | 0, t => t
  | k + 1, t => anc F k (par F t)
theorem anc_succ (F : Fst) : ∀ (k t : Nat), anc F (k + 1) t = par F (anc F k t)
  | 0, _ => rfl
  | k + 1, t => anc_succ F k (par F t)
theorem anc_add (F : Fst) : ∀ (i j t : Nat), anc F (i + j) t = anc F i (anc F j t)
  | i, 0, t => rfl
  | i, j + 1, t => by
    show anc F (i + j) (par F t) = anc F i (anc F j (par F t))
    exact anc_add F i j (par F t)
theorem par_none {F : Fst} {t : Nat} (h : F t = none) : par F t = t := by unfold par; rw [h]
theorem par_some {F : Fst} {t u c : Nat} (h : F t = some (u, c)) : par F t = u := by unfold par; rw [h]
theorem anc_none {F : Fst} {t : Nat} (h : F t = none) : ∀ k, anc F k t = t
  | 0 => rfl
  | k + 1 => by
    show anc F k (par F t) = t
    rw [par_none h]; exact anc_none h k
/-- edges go down in a rank, stay among n terms and in a group; one root a group -/
def FW (F : Fst) (n : Nat) (ld : Nat → Nat) (nJ : Nat) : Prop :=
  (∃ r : Nat → Nat, ∀ t u c, F t = some (u, c) → t < n ∧ u < n ∧ c < nJ ∧ r u < r t ∧ ld u = ld t) ∧ ∀ t u, t < n → u < n → ld t = ld u → F t = none → F u = none → t = u
theorem FW.lt {F : Fst} {n nJ : Nat} {ld : Nat → Nat} (h : FW F n ld nJ) {t : Nat} (ht : t < n) : ∀ k, anc F k t < n
  | 0 => ht
  | k + 1 => by
    show anc F k (par F t) < n
    obtain ⟨⟨r, hr⟩, -⟩ := id h
    refine FW.lt h ?_ k
    cases hF : F t with
    | none => rw [par_none hF]; exact ht
    | some p => rw [par_some (u := p.1) (c := p.2) hF]; exact (hr t p.1 p.2 hF).2.1
theorem FW.ld_anc {F : Fst} {n nJ : Nat} {ld : Nat → Nat} (h : FW F n ld nJ) (t : Nat) : ∀ k, ld (anc F k t) = ld t
  | 0 => rfl
  | k + 1 => by
    show ld (anc F k (par F t)) = ld t
    rw [FW.ld_anc h (par F t) k]
    obtain ⟨⟨r, hr⟩, -⟩ := h
    cases hF : F t with
    | none => rw [par_none hF]
    | some p => rw [par_some (u := p.1) (c := p.2) hF]; exact (hr t p.1 p.2 hF).2.2.2.2
theorem FW.rank {F : Fst} {n nJ : Nat} {ld : Nat → Nat} (h : FW F n ld nJ) : ∃ r : Nat → Nat, ∀ t i j, i < j → (∀ k, k < j → F (anc F k t) ≠ none) → r (anc F j t) < r (anc F i t) := by
  obtain ⟨⟨r, hr⟩, -⟩ := h
  refine ⟨r, fun t i j hij hk => ?_⟩
  induction j with
  | zero => omega
  | succ j ih =>
    have h1 : r (anc F (j + 1) t) < r (anc F j t) := by
      rw [anc_succ]
      cases hF : F (anc F j t) with
      | none => exact absurd hF (hk j (by omega))
      | some p => rw [par_some (u := p.1) (c := p.2) hF]; exact (hr _ p.1 p.2 hF).2.2.2.1
    by_cases e : i = j
    · subst e; exact h1
    · exact Nat.lt_trans h1 (ih (by omega) (fun k hk' => hk k (by omega)))
theorem FW.root {F : Fst} {n nJ : Nat} {ld : Nat → Nat} (h : FW F n ld nJ) {t : Nat} (ht : t < n) : ∃ k, k < n ∧ F (anc F k t) = none := by
  apply Classical.byContradiction
  intro hc
  have hk : ∀ k, k < n → F (anc F k t) ≠ none := fun k hk z => hc ⟨k, hk, z⟩
  obtain ⟨r, hr⟩ := h.rank
  have := fb_holes n (n + 1) (fun i => anc F i t) (fun i _ => h.lt ht i) (fun i j hij hj z => by
    have h1 := hr t i j hij (fun k hkj => hk k (by omega))
    have z2 : anc F i t = anc F j t := z
    rw [z2] at h1
    omega)
  omega
/-- how many steps to the one that hangs on none -/
def dp (F : Fst) (t : Nat) : Nat := lsF (fun k => (F (anc F k t)).isNone) 24 0
theorem FW.dpS {F : Fst} {n nJ : Nat} {ld : Nat → Nat} (h : FW F n ld nJ) (hn : n ≤ 24) {t : Nat} (ht : t < n) : F (anc F (dp F t) t) = none ∧ dp F t < n ∧ ∀ k, k < dp F t → F (anc F k t) ≠ none := by
  obtain ⟨k, h1, h2⟩ := h.root ht
  have hs := lsF_spec (fun k => (F (anc F k t)).isNone) 24 0 ⟨k, by omega, by omega, by rw [h2]; rfl⟩
  obtain ⟨a, b, c, d⟩ := hs
  refine ⟨Option.isNone_iff_eq_none.mp a, ?_, fun x hx z => ?_⟩
  · apply Nat.lt_of_le_of_lt _ h1
    apply Nat.le_of_not_lt
    intro z
    have := d k (by omega) z
    simp only [h2] at this
    cases this
  · have := d x (by omega) hx
    simp only [z] at this
    cases this
theorem FW.dp_uniq {F : Fst} {n nJ : Nat} {ld : Nat → Nat} (h : FW F n ld nJ) (hn : n ≤ 24) {t d : Nat} (ht : t < n) (h1 : F (anc F d t) = none) (h2 : ∀ k, k < d → F (anc F k t) ≠ none) : dp F t = d := by
  obtain ⟨a, b, c⟩ := h.dpS hn ht
  rcases Nat.lt_trichotomy (dp F t) d with z | z | z
  · exact absurd a (h2 _ z)
  · exact z
  · exact absurd h1 (c _ z)
theorem FW.dp_none {F : Fst} {n nJ : Nat} {ld : Nat → Nat} (h : FW F n ld nJ) (hn : n ≤ 24) {t : Nat} (ht : t < n) (hF : F t = none) : dp F t = 0 :=
  h.dp_uniq hn ht hF (fun k hk => absurd hk (Nat.not_lt_zero k))
theorem FW.dp_some {F : Fst} {n nJ : Nat} {ld : Nat → Nat} (h : FW F n ld nJ) (hn : n ≤ 24) {t u c : Nat} (ht : t < n) (hF : F t = some (u, c)) : dp F t = dp F u + 1 := by
  have hu : u < n := by
    have := h.lt ht 1
    rwa [show anc F 1 t = par F t from rfl, par_some hF] at this
  obtain ⟨a, b, d⟩ := h.dpS hn hu
  refine h.dp_uniq hn ht ?_ (fun k hk => ?_)
  · show F (anc F (dp F u) (par F t)) = none
    rw [par_some hF]; exact a
  · cases k with
    | zero => show F t ≠ none; rw [hF]; exact fun z => by cases z
    | succ k =>
      show F (anc F k (par F t)) ≠ none
      rw [par_some hF]; exact d k (by omega)
theorem FW.dp_anc {F : Fst} {n nJ : Nat} {ld : Nat → Nat} (h : FW F n ld nJ) (hn : n ≤ 24) {t : Nat} (ht : t < n) : ∀ k, k ≤ dp F t → dp F (anc F k t) + k = dp F t
  | 0, _ => rfl
  | k + 1, hk => by
    have ih := FW.dp_anc h hn ht k (by omega)
    obtain ⟨a, b, c⟩ := h.dpS hn ht
    cases hF : F (anc F k t) with
    | none => exact absurd hF (c k (by omega))
    | some p =>
      have h1 := h.dp_some hn (h.lt ht k) (u := p.1) (c := p.2) hF
      rw [anc_succ, par_some (u := p.1) (c := p.2) hF]
      omega
/-- an edge of the way -/
theorem FW.edge {F : Fst} {n nJ : Nat} {ld : Nat → Nat} (h : FW F n ld nJ) (hn : n ≤ 24) {t : Nat} (ht : t < n) {k : Nat} (hk : k < dp F t) : ∃ c, F (anc F k t) = some (anc F (k + 1) t, c) ∧ c < nJ := by
  obtain ⟨a, b, c⟩ := h.dpS hn ht
  cases hF : F (anc F k t) with
  | none => exact absurd hF (c k hk)
  | some p =>
    obtain ⟨⟨r, hr⟩, -⟩ := h
    exact ⟨p.2, by rw [anc_succ, par_some (u := p.1) (c := p.2) hF], (hr _ p.1 p.2 hF).2.2.1⟩
theorem anc_fset {F : Fst} {t : Nat} {v : Option (Nat × Nat)} : ∀ (k u : Nat), (∀ i, i < k → anc F i u ≠ t) → anc (fset F t v) k u = anc F k u
  | 0, _, _ => rfl
  | k + 1, u, h => by
    have h0 : u ≠ t := h 0 (by omega)
    have e : par (fset F t v) u = par F u := by unfold par; rw [fset_ne F v h0]
    show anc (fset F t v) k (par (fset F t v) u) = anc F k (par F u)
    rw [e]
    exact anc_fset k (par F u) (fun i hi => h (i + 1) (by omega))
/-- what turning round does: d steps to the root, no term twice on the way -/
theorem hgW_spec : ∀ (m d : Nat) (F : Fst) (t on c0 : Nat), d < m → F (anc F d t) = none → (∀ k, k < d → F (anc F k t) ≠ none) → (∀ i j, i < j → j ≤ d → anc F i t ≠ anc F j t) → (∀ x, (∀ i, i ≤ d → x ≠ anc F i t) → hgW m F t on c0 x = F x) ∧ hgW m F t on c0 t = some (on, c0) ∧ ∀ i, i < d → ∃ c, F (anc F i t) = some (anc F (i + 1) t, c) ∧ hgW m F t on c0 (anc F (i + 1) t) = some (anc F i t, c) := by
  intro m
  induction m with
  | zero => intro d F t on c0 h; omega
  | succ m ih =>
    intro d F t on c0 hd hr hk hne
    cases hF : F t with
    | none =>
      have hd0 : d = 0 := by
        apply Classical.byContradiction
        intro z
        exact hk 0 (by omega) hF
      subst hd0
      have e : hgW (m + 1) F t on c0 = fset F t (some (on, c0)) := by rw [hgW, hF]
      rw [e]
      exact ⟨fun x hx => fset_ne F _ (hx 0 (Nat.le_refl _)), fset_eq F t _, fun i hi => by omega⟩
    | some p =>
      obtain ⟨u, c⟩ := p
      have e : hgW (m + 1) F t on c0 = hgW m (fset F t (some (on, c0))) u t c := by rw [hgW, hF]
      obtain ⟨d', rfl⟩ : ∃ d', d = d' + 1 := by
        cases d with
        | zero => rw [show anc F 0 t = t from rfl, hF] at hr; cases hr
        | succ d' => exact ⟨d', rfl⟩
      have hp : ∀ k, anc F (k + 1) t = anc F k u := fun k => by
        show anc F k (par F t) = anc F k u
        rw [par_some hF]
      have hnt : ∀ i, i ≤ d' → anc F i u ≠ t := fun i hi z => hne 0 (i + 1) (by omega) (by omega) (by rw [hp]; exact z.symm)
      have ha : ∀ k, k ≤ d' → anc (fset F t (some (on, c0))) k u = anc F k u := fun k hk => anc_fset k u (fun i hi => hnt i (by omega))
      obtain ⟨g1, g2, g3⟩ := ih d' (fset F t (some (on, c0))) u t c (by omega) (by rw [ha d' (Nat.le_refl _), fset_ne F _ (hnt d' (Nat.le_refl _)), ← hp]; exact hr) (fun k hk' => by
        rw [ha k (by omega), fset_ne F _ (hnt k (by omega)), ← hp]
        exact hk (k + 1) (by omega)) (fun i j hij hj => by
        rw [ha i (by omega), ha j hj, ← hp, ← hp]
        exact hne (i + 1) (j + 1) (by omega) (by omega))
      rw [e]
      refine ⟨fun x hx => ?_, ?_, fun i hi => ?_⟩
      · rw [g1 x (fun i hi => by rw [ha i hi, ← hp]; exact hx (i + 1) (by omega))]
        exact fset_ne F _ (hx 0 (Nat.zero_le _))
      · rw [g1 t (fun i hi => by rw [ha i hi]; exact Ne.symm (hnt i hi))]
        exact fset_eq F t _
      · cases i with
        | zero =>
          refine ⟨c, ?_, ?_⟩
          · show F t = some (anc F 0 (par F t), c)
            rw [par_some hF]; exact hF
          · show hgW m _ u t c (anc F 0 (par F t)) = some (t, c)
            rw [par_some hF]; exact g2
        | succ i =>
          obtain ⟨c1, q1, q2⟩ := g3 i (by omega)
          rw [ha i (by omega), ha (i + 1) (by omega), fset_ne F _ (hnt i (by omega))] at q1
          rw [ha i (by omega), ha (i + 1) (by omega)] at q2
          refine ⟨c1, ?_, ?_⟩
          · rw [hp, hp]; exact q1
          · rw [hp, hp]; exact q2
theorem FW.apart {F : Fst} {n nJ : Nat} {ld : Nat → Nat} (h : FW F n ld nJ) (hn : n ≤ 24) {t : Nat} (ht : t < n) : ∀ i j, i < j → j ≤ dp F t → anc F i t ≠ anc F j t := fun i j hij hj z => by
  have h1 := h.dp_anc hn ht i (by omega)
  have h2 := h.dp_anc hn ht j hj
  rw [z] at h1
  omega
theorem FW.hang {F : Fst} {n nJ : Nat} {ld : Nat → Nat} (h : FW F n ld nJ) (hn : n ≤ 24) {a b : Nat} (ha : a < n) (hb : b < n) (hab : ld a ≠ ld b) : FW (hgW 24 F b a nJ) n (un ld a b) (nJ + 1) := by
  obtain ⟨d1, d2, d3⟩ := h.dpS hn hb
  obtain ⟨g1, g2, g3⟩ := hgW_spec 24 (dp F b) F b a nJ (by omega) d1 d3 (h.apart hn hb)
  have hdp : ∀ i, i ≤ dp F b → dp F (anc F i b) + i = dp F b := h.dp_anc hn hb
  have hld : ∀ i, ld (anc F i b) = ld b := h.ld_anc b
  have hlt : ∀ i, anc F i b < n := h.lt hb
  have hedge : ∀ i, i < dp F b → ∃ c, F (anc F i b) = some (anc F (i + 1) b, c) ∧ c < nJ := fun i hi => h.edge hn hb hi
  obtain ⟨⟨r, hr⟩, hroot⟩ := h
  have hpath : ∀ x, hgW 24 F b a nJ x = none → (∀ i, i ≤ dp F b → x ≠ anc F i b) ∧ F x = none := by
    intro x hx
    have : ∀ i, i ≤ dp F b → x ≠ anc F i b := by
      intro i hi e
      subst e
      cases i with
      | zero => rw [show anc F 0 b = b from rfl, g2] at hx; cases hx
      | succ i =>
        obtain ⟨c, q1, q2⟩ := g3 i (by omega)
        rw [q2] at hx; cases hx
    exact ⟨this, by rw [← g1 x this]; exact hx⟩
  refine ⟨?_, fun t u ht hu hl h1 h2 => ?_⟩
  · let onp : Nat → Prop := fun x => ∃ i, i ≤ dp F b ∧ x = anc F i b
    let r' : Nat → Nat := fun x => @ite _ (onp x) (Classical.propDecidable _) (r a + 1 + (dp F b - dp F x)) (if ld x = ld b then r a + 1 + dp F b + 1 + r x else r x)
    have r1 : ∀ x, onp x → r' x = r a + 1 + (dp F b - dp F x) := fun x hx => if_pos hx
    have r2 : ∀ x, ¬ onp x → ld x = ld b → r' x = r a + 1 + dp F b + 1 + r x := fun x hx hl => (if_neg hx).trans (if_pos hl)
    have r3 : ∀ x, ¬ onp x → ld x ≠ ld b → r' x = r x := fun x hx hl => (if_neg hx).trans (if_neg hl)
    have honp : ∀ x, onp x → ld x = ld b := fun x ⟨i, _, e⟩ => by rw [e]; exact hld i
    refine ⟨r', fun t u c hF => ?_⟩
    by_cases hp : onp t
    · obtain ⟨i, hi, e⟩ := id hp
      cases i with
      | zero =>
        have e' : t = b := e
        subst e'
        rw [g2] at hF
        obtain ⟨rfl, rfl⟩ := Prod.mk.inj (Option.some.inj hF)
        refine ⟨hb, ha, by omega, ?_, un_a⟩
        rw [r1 t hp, r3 a (fun z => hab (honp a z)) hab]
        omega
      | succ i =>
        obtain ⟨c1, q1, q2⟩ := g3 i (by omega)
        rw [e, q2] at hF
        obtain ⟨rfl, rfl⟩ := Prod.mk.inj (Option.some.inj hF)
        obtain ⟨c2, q3, q4⟩ := hedge i (by omega)
        rw [q1] at q3
        have : c1 = c2 := (Prod.mk.inj (Option.some.inj q3)).2
        refine ⟨by rw [e]; exact hlt _, hlt i, by omega, ?_, ?_⟩
        · rw [r1 t hp, r1 _ ⟨i, by omega, rfl⟩, e]
          have h1 := hdp i (by omega)
          have h2 := hdp (i + 1) (by omega)
          omega
        · rw [e]; exact un_mono (by rw [hld, hld])
    · rw [g1 t (fun i hi e => hp ⟨i, hi, e⟩)] at hF
      obtain ⟨k1, k2, k3, k4, k5⟩ := hr t u c hF
      refine ⟨k1, k2, by omega, ?_, un_mono k5⟩
      by_cases hl : ld t = ld b
      · rw [r2 t hp hl]
        by_cases hq : onp u
        · rw [r1 u hq]; omega
        · rw [r2 u hq (k5.trans hl)]; omega
      · rw [r3 t hp hl, r3 u (fun z => hl (k5.symm.trans (honp u z))) (fun z => hl (k5.symm.trans z))]
        exact k4
  · obtain ⟨p1, p2⟩ := hpath t h1
    obtain ⟨p3, p4⟩ := hpath u h2
    rcases un_iff.mp hl with q | ⟨q1, q2⟩ | ⟨q1, q2⟩
    · exact hroot t u ht hu q p2 p4
    · have : u = anc F (dp F b) b := hroot u _ hu (hlt _) (by rw [hld]; exact q2) p4 d1
      exact absurd this (p3 _ (Nat.le_refl _))
    · have : t = anc F (dp F b) b := hroot t _ ht (hlt _) (by rw [hld]; exact q1) p2 d1
      exact absurd this (p1 _ (Nat.le_refl _))
theorem FW.none_ : FW (fun _ => none) 0 (fun i => i) 0 := ⟨⟨fun i => i, fun t u c h => by cases h⟩, fun t u ht => by omega⟩
theorem FW.more {F : Fst} {n nJ : Nat} {ld : Nat → Nat} (h : FW F n ld nJ) (hC : Can n ld) (hl : ld n = n) : FW F (n + 1) ld nJ := by
  obtain ⟨⟨r, hr⟩, hroot⟩ := h
  refine ⟨⟨r, fun t u c hF => ?_⟩, fun t u ht hu hlt h1 h2 => ?_⟩
  · obtain ⟨a, b, c, d⟩ := hr t u c hF
    exact ⟨by omega, by omega, c, d⟩
  · by_cases e1 : t = n
    · by_cases e2 : u = n
      · rw [e1, e2]
      · have := (hC u (by omega)).1
        rw [e1, hl] at hlt; omega
    · by_cases e2 : u = n
      · have := (hC t (by omega)).1
        rw [e2, hl] at hlt; omega
      · exact hroot t u (by omega) (by omega) hlt h1 h2
/-- bits along k steps up -/
def orU (F : Fst) (B : Nat → Nat) : Nat → Nat → Nat
  | 0, _ => 0
  | k + 1, t => match F t with
    | some (u, c) => B c ||| orU F B k u
    | none => 0
theorem orU_snoc (F : Fst) (B : Nat → Nat) : ∀ (k t u c : Nat), F (anc F k t) = some (u, c) → (∀ i, i < k → F (anc F i t) ≠ none) → orU F B (k + 1) t = orU F B k t ||| B c
  | 0, t, u, c, h, _ => by
    have h' : F t = some (u, c) := h
    simp [orU, h']
  | k + 1, t, u, c, h, hk => by
    cases hF : F t with
    | none => exact absurd hF (hk 0 (by omega))
    | some p =>
      obtain ⟨v, c'⟩ := p
      have hp : ∀ i, anc F (i + 1) t = anc F i v := fun i => by
        show anc F i (par F t) = anc F i v
        rw [par_some hF]
      have ih := orU_snoc F B k v u c (by rw [← hp]; exact h) (fun i hi => by rw [← hp]; exact hk (i + 1) (by omega))
      rw [orU, hF]
      show B c' ||| orU F B (k + 1) v = _
      rw [ih, orU, hF, Nat.or_assoc]
/-- whether x is t or lies above it -/
def isAn (F : Fst) (t x : Nat) : Bool := (List.range 24).any (fun i => decide (i ≤ dp F t) && (anc F i t == x))
theorem isAn_iff {F : Fst} {n nJ : Nat} {ld : Nat → Nat} (h : FW F n ld nJ) (hn : n ≤ 24) {t x : Nat} (ht : t < n) : isAn F t x = true ↔ ∃ i, i ≤ dp F t ∧ anc F i t = x := by
  have hd := (h.dpS hn ht).2.1
  unfold isAn
  rw [List.any_eq_true]
  simp only [List.mem_range, Bool.and_eq_true, decide_eq_true_eq, beq_iff_eq]
  constructor
  · rintro ⟨i, h1, h2, h3⟩; exact ⟨i, h2, h3⟩
  · rintro ⟨i, h2, h3⟩; exact ⟨i, by omega, h2, h3⟩
/-- how many steps from u to the first that t's way has, too -/
def mtU (F : Fst) (t u : Nat) : Nat := lsF (fun k => isAn F t (anc F k u)) 24 0
def mtT (F : Fst) (t u : Nat) : Nat := dp F t - dp F (anc F (mtU F t u) u)
/-- reasons: bits along both ways -/
def rsn (F : Fst) (B : Nat → Nat) (t u : Nat) : Nat := orU F B (mtU F t u) u ||| orU F B (mtT F t u) t
theorem mt_spec {F : Fst} {n nJ : Nat} {ld : Nat → Nat} (h : FW F n ld nJ) (hn : n ≤ 24) {t u : Nat} (ht : t < n) (hu : u < n) (hl : ld t = ld u) : mtU F t u ≤ dp F u ∧ mtT F t u ≤ dp F t ∧ anc F (mtT F t u) t = anc F (mtU F t u) u ∧ (∀ k, k < mtU F t u → isAn F t (anc F k u) = false) ∧ ∀ i, i < mtT F t u → anc F i t ≠ anc F (mtU F t u) u := by
  have hdu := h.dpS hn hu
  have hdt := h.dpS hn ht
  have hroot : anc F (dp F t) t = anc F (dp F u) u := h.2 _ _ (h.lt ht _) (h.lt hu _) (by rw [h.ld_anc, h.ld_anc]; exact hl) hdt.1 hdu.1
  have hs := lsF_spec (fun k => isAn F t (anc F k u)) 24 0 ⟨dp F u, by omega, by omega, (isAn_iff h hn ht).mpr ⟨dp F t, Nat.le_refl _, hroot⟩⟩
  obtain ⟨a, b, c, d⟩ := hs
  have a1 : isAn F t (anc F (mtU F t u) u) = true := a
  have d1 : ∀ x, x < mtU F t u → isAn F t (anc F x u) = false := fun x hx => d x (by omega) hx
  have hle : mtU F t u ≤ dp F u := by
    apply Nat.le_of_not_lt
    intro z
    have := d1 (dp F u) z
    rw [(isAn_iff h hn ht).mpr ⟨dp F t, Nat.le_refl _, hroot⟩] at this
    cases this
  obtain ⟨i, i1, i2⟩ := (isAn_iff h hn ht).mp a1
  have hi := h.dp_anc hn ht i i1
  rw [i2] at hi
  have he : mtT F t u = i := by unfold mtT; omega
  refine ⟨hle, by omega, by rw [he]; exact i2, d1, fun j hj z => ?_⟩
  rw [he] at hj
  exact h.apart hn ht j i hj i1 (z.trans i2.symm)

