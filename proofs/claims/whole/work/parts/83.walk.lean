/-! the class: the walk -/
def isN (n : Nat) (R : Nat → Nat → Prop) (u l s v : Nat) : Prop := v < n ∧ (R s v ∧ Hp n R u l v) ∧ ∀ y, y < v → ¬ (R s y ∧ Hp n R u l y)
def Ch (n : Nat) (R : Nat → Nat → Prop) (u : Nat) : Nat → Nat → Nat → Nat → Prop
  | 0, _, s, e => e = s
  | i + 1, L, s, e => ∃ v, isN n R u (L - 1) s v ∧ Ch n R u i (L - 1) v e
theorem isN_ex {n : Nat} {R : Nat → Nat → Prop} {u l s : Nat} (h : Hp n R u (l + 1) s) (hn : ¬ Hp n R u l s) : ∃ v, isN n R u l s v := by
  obtain ⟨v, hv, h1, h2, _⟩ := Hp_next h hn
  obtain ⟨x, ⟨x1, x2⟩, x3⟩ := least_ex (P := fun x => x < n ∧ (R s x ∧ Hp n R u l x)) ⟨v, hv, h1, h2⟩
  exact ⟨x, x1, x2, fun y hy hq => by have := x3 y ⟨by omega, hq⟩; omega⟩
theorem isN_lev {n : Nat} {R : Nat → Nat → Prop} {u l s v : Nat} (hn : ¬ Hp n R u l s) (h : isN n R u l s v) : ∀ j, j < l → ¬ Hp n R u j v := fun j hj hq => hn (Hp_up (show Hp n R u (j + 1) s from Or.inr ⟨v, h.1, h.2.1.1, hq⟩) (by omega))
theorem onw_g {W : Mx} {g s v x : Nat} (h1 : W s v ≠ 1000000001) (h2 : x ≠ 1000000001) : onw W g s v x = min 1000000000 (g + W s v + x) := by
  unfold onw
  rw [if_neg h1, if_neg h2, pl3]
theorem cnd_iff {T : Trm} {S : Prs} {ld : Nat → Nat} {D : Mx} {t u a g l v : Nat} (hD : GSol T S ld D) (ht : t < tN T) (hu : u < tN T) (ha : a < tN T) (hv : v < tN T) (hg : min 1000000000 (g + D a u) = D t u) (hn : ¬ Hp (tN T) (tg (wt T S ld D) D (D t u = 1000000000) u) u l a) : (onw (wt T S ld D) g a v (rst (tN T) (wt T S ld D) u l v) = D t u ↔ tg (wt T S ld D) D (D t u = 1000000000) u a v ∧ Hp (tN T) (tg (wt T S ld D) D (D t u = 1000000000) u) u l v) ∧ (tg (wt T S ld D) D (D t u = 1000000000) u a v → min 1000000000 (pl g (wt T S ld D a v) + D v u) = D t u) := by
  have hw : ∀ a v, a < tN T → v < tN T → D a v ≤ wt T S ld D a v := fun a v ha hv => sol_wt hD.1 ha hv
  have hle := (sol_tri hD.1).1 t u ht hu
  have h1 := (sol_tri hD.1).2 a u v ha hu hv
  have h2 := hw a v ha hv
  have h3 := rst_ge hD.1 hw hu l v hv
  have hb := rst_bd (tN T) (wt T S ld D) u l v
  by_cases z : D t u = 1000000000
  · have hh := held_hp (n := tN T) (W := wt T S ld D) (D := D) (u := u) z l v
    refine ⟨⟨fun e => ?_, fun ⟨⟨x1, x2, x3⟩, x4⟩ => ?_⟩, fun ⟨x1, x2, x3⟩ => ?_⟩
    · obtain ⟨y1, y2⟩ := onw_now (show onw (wt T S ld D) g a v (rst (tN T) (wt T S ld D) u l v) ≠ 1000000001 by omega)
      have y3 := hh.mp y2
      exact ⟨⟨fun q => by subst q; exact hn y3, y1, Or.inl z⟩, y3⟩
    · rw [onw_g x2 (hh.mpr x4)]; omega
    · rw [pl_def]; omega
  · have hh := fun hl => free_hp z hD hu l v hv hl
    refine ⟨⟨fun e => ?_, fun ⟨⟨x1, x2, x3⟩, x4⟩ => ?_⟩, fun ⟨x1, x2, x3⟩ => ?_⟩
    · obtain ⟨y1, y2⟩ := onw_now (show onw (wt T S ld D) g a v (rst (tN T) (wt T S ld D) u l v) ≠ 1000000001 by omega)
      rw [onw_g y1 y2] at e
      have y3 := (hh (by omega)).mp (by omega)
      exact ⟨⟨fun q => by subst q; exact hn y3, y1, Or.inr (by omega)⟩, y3⟩
    · have x3 := x3.resolve_left z
      have x5 := (hh (by omega)).mpr x4
      rw [onw_g x2 (by omega), x5]; omega
    · have x3 := x3.resolve_left z
      rw [pl_def]; omega
def lv (L : Nat) : Int32 := if L = 0 then n1 else nI (L - 1)
theorem lv_dn {L : Nat} : nI L + n1 = lv L := by
  unfold lv
  by_cases e : L = 0
  · rw [if_pos e, e]; decide
  · rw [if_neg e]
    have : nI L = nI (L - 1) + nI 1 := by rw [q_add, show L - 1 + 1 = L by omega]
    rw [this, Int32.add_assoc, show nI 1 + n1 = (0 : Int32) by decide, Int32.add_zero]
theorem lv_sb {L : Nat} : nI L - nI 1 = lv L := by
  unfold lv
  by_cases e : L = 0
  · rw [if_pos e, e]; decide
  · rw [if_neg e, q_sub (by omega)]
theorem nextOn_ok {N n s g row x v u : Nat} {w : Mem} {W D : Mx} (hN : 60 < N) (hn : n ≤ 24) (hM : CM w n D) (hP : CP w n W) (hW : ∀ a b, a < n → b < n → W a b ≤ 1000000001) (hR : CR w n W u row) (hg : g ≤ 1000000000) (hs : s < n) (hr : row < 24) (hx : x ≤ 1000000000) (hv : v < n) (h1 : onw W g s v (rst n W u row v) = x) (h2 : ∀ y, y < v → onw W g s y (rst n W u row y) ≠ x) : f_X0_nextOnWay N w (nI s) (nI g) (nI row) (nI x) = some (nI v) := by
  have key := lpe (α := Unit) n (fun fu _ q => lp_X0_nextOnWay_3 (f_X0_nextOnWay_35 N w (nI s)) N w (nI s) (nI g) (nI row) (nI x) fu q) (fun o => o = some (nI v)) (fun q _ => q ≤ v) ?_ ?_ 0 N () (by omega) (by omega) (Nat.zero_le _)
  · exact key
  · intro fu _ hq; omega
  · intro fu q _ hq hqv
    have ho := onward_ok (N := N) hn hP (hW s q hs hq) (rst_bd n W u row q) hg hs hq hr (hR row q (Nat.le_refl _) hq)
    have hb := onw_le W g s q (rst n W u row q)
    by_cases e : q = v
    · subst e
      refine Or.inl ?_
      show lp_X0_nextOnWay_3 (f_X0_nextOnWay_35 N w (nI s)) N w (nI s) (nI g) (nI row) (nI x) (fu + 1) (nI q) = some (nI q)
      rw [lp_X0_nextOnWay_3, hM.1, if_neg (of_eq_false (le_tf (by omega) (by omega) hq)), ho, Option.bind_some, if_pos (by rw [h1])]
    · refine Or.inr ⟨(), by omega, ?_⟩
      have hne := h2 q (by omega)
      show lp_X0_nextOnWay_3 (f_X0_nextOnWay_35 N w (nI s)) N w (nI s) (nI g) (nI row) (nI x) (fu + 1) (nI q) = lp_X0_nextOnWay_3 (f_X0_nextOnWay_35 N w (nI s)) N w (nI s) (nI g) (nI row) (nI x) fu (nI (q + 1))
      rw [lp_X0_nextOnWay_3, hM.1, if_neg (of_eq_false (le_tf (by omega) (by omega) hq)), ho, Option.bind_some, if_neg (fun z => hne ((nI_inj_iff (by omega) (by omega)).mp z)), li1, q_add]
theorem walk_ok {N t u m i0 : Nat} {T : Trm} {S : Prs} {ld : Nat → Nat} {D : Mx} {w : Mem} (hN : 60 < N) (hn : tN T ≤ 24) (hD : GSol T S ld D) (ht : t < tN T) (hu : u < tN T) (hM : CM w (tN T) D) (hP : CP w (tN T) (wt T S ld D)) (hR : CR w (tN T) (wt T S ld D) u m) (hm : m + 1 ≤ tN T) (hi0 : i0 ≤ m) : ∀ i fu L a g, i ≤ L → L ≤ m → L + i0 = m + i → i < fu → a < tN T → Hp (tN T) (tg (wt T S ld D) D (D t u = 1000000000) u) u L a → (∀ j, j < L → ¬ Hp (tN T) (tg (wt T S ld D) D (D t u = 1000000000) u) u j a) → g ≤ 1000000000 → min 1000000000 (g + D a u) = D t u → ∃ e, e < tN T ∧ Ch (tN T) (tg (wt T S ld D) D (D t u = 1000000000) u) u i L a e ∧ lp_X0_termOnWay_29 (fun (u5_3 : Int32) => (f_X0_termOnWay_92 N w u5_3)) N w (nI t) (nI u) (nI i0) (nI m) fu (nI a) (nI g) (lv L) = some (w, nI e) := by
  have hW : ∀ a b, a < tN T → b < tN T → wt T S ld D a b ≤ 1000000001 := fun _ _ _ _ => wt_leN
  have hle := (sol_tri hD.1).1 t u ht hu
  have hlst := least_ok (N := N) hM hn ht hu
  intro i
  induction i with
  | zero =>
    intro fu L a g hiL hLm hLi hf ha hp hnp hg hgd
    obtain ⟨f', rfl⟩ : ∃ g, fu = g + 1 := ⟨fu - 1, by omega⟩
    refine ⟨a, ha, rfl, ?_⟩
    have hlt : lv L < nI m - nI i0 := by
      rw [q_sub hi0]
      unfold lv
      by_cases e : L = 0
      · rw [if_pos e]; exact of_eq_true (n1_lt (by omega))
      · rw [if_neg e]; exact of_eq_true (lt_tt (by omega) (by omega) (by omega))
    rw [lp_X0_termOnWay_29, if_pos hlt, f_X0_termOnWay_92]
  | succ i ih =>
    intro fu L a g hiL hLm hLi hf ha hp hnp hg hgd
    obtain ⟨f', rfl⟩ : ∃ g, fu = g + 1 := ⟨fu - 1, by omega⟩
    obtain ⟨l, rfl⟩ : ∃ l, L = l + 1 := ⟨L - 1, by omega⟩
    have hnl := hnp l (by omega)
    obtain ⟨v, hv⟩ := isN_ex hp hnl
    have hlev := isN_lev hnl hv
    have hc := fun y (hy : y < tN T) => cnd_iff hD ht hu ha hy hgd hnl
    have hnx := nextOn_ok (N := N) (x := D t u) (v := v) hN hn hM hP hW (fun j s hj hs => hR j s (by omega) hs : CR w (tN T) (wt T S ld D) u l) hg ha (by omega) hle hv.1 ((hc v hv.1).1.mpr hv.2.1) (fun y hy hq => hv.2.2 y hy ((hc y (by have := hv.1; omega)).1.mp hq))
    have hg2 := (hc v hv.1).2 hv.2.1.1
    have hvn := hv.1
    have hWv := hW a v ha hv.1
    have e11 := hP a v ha hv.1
    have hpl := plus_ok (N := N) (w := w) (a := g) (b := wt T S ld D a v) (by omega)
    obtain ⟨e, e1, e2, e3⟩ := ih f' l v (pl g (wt T S ld D a v)) (by omega) (by omega) (by omega) (by omega) hv.1 hv.2.1.2 hlev (pl_bd _ _) hg2
    refine ⟨e, e1, ⟨v, hv, e2⟩, ?_⟩
    have hl : lv (l + 1) = nI l := by unfold lv; rw [if_neg (by omega), Nat.add_sub_cancel]
    rw [lp_X0_termOnWay_29, hl, if_neg (by rw [q_sub hi0]; exact of_eq_false (lt_tf (by omega) (by omega) (by omega))), if_neg (nI_nn (by omega)), hlst, Option.bind_some, hnx, Option.bind_some, li24, q_mul, q_add, if_pos (inb_t (by omega) (by omega)), cl_t (by omega), e11, hpl, Option.bind_some, lm1, lv_dn]
    exact e3
