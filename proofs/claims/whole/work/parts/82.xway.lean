/-! the class: rows of rest, the walk -/
abbrev FrRo (w v : Mem) : Prop := Fr (fun _ _ _ => False) (fun k i => k = 12 ∧ i = 0) w v
def CR (w : Mem) (n : Nat) (W : Mx) (u h : Nat) : Prop := ∀ j s, j ≤ h → s < n → gA w 12 0 (j * 24 + s) = nI (rst n W u j s)
theorem eqW_t {x : Nat} (h : x = 1000000001) : nI x = (1000000001 : Int32) := by rw [liW, h]
theorem eqW_f {x : Nat} (hb : x ≤ 1000000001) (h : x ≠ 1000000001) : ¬ (nI x = (1000000001 : Int32)) := by
  rw [liW]
  exact fun z => h ((nI_inj_iff (by omega) (by omega)).mp z)
theorem onward_ok {N n g s v row x : Nat} {w : Mem} {W : Mx} (hn : n ≤ 24) (hP : CP w n W) (hW : W s v ≤ 1000000001) (hx : x ≤ 1000000001) (hg : g ≤ 1000000000) (hs : s < n) (hv : v < n) (hr : row < 24) (h12 : gA w 12 0 (row * 24 + v) = nI x) : f_X0_onwardSum N w (nI g) (nI s) (nI v) (nI row) = some (nI (onw W g s v x)) := by
  have e11 := hP s v hs hv
  have hi1 : inb (nI (s * 24 + v)) 576 = true := inb_t (by omega) (by omega)
  have hi2 : inb (nI (row * 24 + v)) 576 = true := inb_t (by omega) (by omega)
  have hc1 : (nI (s * 24 + v)).toNatClampNeg = s * 24 + v := cl_t (by omega)
  have hc2 : (nI (row * 24 + v)).toNatClampNeg = row * 24 + v := cl_t (by omega)
  rw [f_X0_onwardSum]
  simp only [li24, q_mul, q_add, hi1, hi2, hc1, hc2, e11, h12, ↓reduceIte]
  unfold onw
  by_cases z : W s v = 1000000001
  · rw [if_pos (eqW_t z), if_pos z, liW]
  · rw [if_neg (eqW_f hW z), if_neg z]
    by_cases y : x = 1000000001
    · rw [if_pos (eqW_t y), if_pos y, liW]
    · rw [if_neg (eqW_f hx y), if_neg y, plus_ok (by omega), Option.bind_some, plus_ok (by have := pl_bd g (W s v); omega), Option.bind_some]
theorem fillRow_ok {N n u h : Nat} {w : Mem} {W : Mx} (hN : 30 < N) (hn : n ≤ 24) (h3 : gF w 0 3 0 = nI n) (hP : CP w n W) (hW : ∀ a b, a < n → b < n → W a b ≤ 1000000001) (hh : h + 1 < n) (hR : CR w n W u h) : ∃ w', f_X0_fillRow N w (nI h) = some w' ∧ CR w' n W u (h + 1) ∧ FrRo w w' := by
  have key := lpc (α := Mem) n (fun fu a v => lp_X0_fillRow_2 (fun (w_1 : Mem) => (f_X0_fillRow_74 N w_1)) N (nI h) fu a v) (fun a => some a) (fun q a => CR a n W u h ∧ (∀ s, s < q → gA a 12 0 ((h + 1) * 24 + s) = nI (rst n W u (h + 1) s)) ∧ FrRo w a) ?_ ?_ 0 N w (by omega) (by omega) ⟨hR, fun s hs => absurd hs (Nat.not_lt_zero s), Fr.rf⟩
  · obtain ⟨a, ⟨a1, a2, a3⟩, a4⟩ := key
    refine ⟨a, a4, fun j s hj hs => ?_, a3⟩
    by_cases e : j = h + 1
    · subst e; exact a2 s hs
    · exact a1 j s (by omega) hs
  · intro fu a ⟨a1, a2, a3⟩
    have e3 : gF a 0 3 0 = nI n := (a3.1 _ _ _ (fun z => z)).trans h3
    show lp_X0_fillRow_2 (fun (w_1 : Mem) => (f_X0_fillRow_74 N w_1)) N (nI h) (fu + 1) a (nI n) = some a
    rw [lp_X0_fillRow_2, e3, if_pos (of_eq_true (le_tt (by omega) (by omega) (Nat.le_refl _))), f_X0_fillRow_74]
  · intro fu s a hs ⟨a1, a2, a3⟩
    have e3 : gF a 0 3 0 = nI n := (a3.1 _ _ _ (fun z => z)).trans h3
    have hPa : CP a n W := hP.of (a3.2.1 _ _ (fun z => by omega))
    have hhs := a1 h s (Nat.le_refl _) hs
    have hbs := rst_bd n W u h s
    have key2 := lpc (α := Int32) n (fun f2 b v => lp_X0_fillRow_25 (fun (u3_3 : Int32) => (f_X0_fillRow_54_2 (fun (w : Mem) (v2 : Int32) => lp_X0_fillRow_2 (fun (w_1 : Mem) => (f_X0_fillRow_74 N w_1)) N (nI h) fu w v2) (fun (w_1 : Mem) => (f_X0_fillRow_74 N w_1)) N a (nI h) (nI s) u3_3)) N a (nI h) (nI s) f2 b v) (fun b => (f_X0_fillRow_54_2 (fun (w : Mem) (v2 : Int32) => lp_X0_fillRow_2 (fun (w_1 : Mem) => (f_X0_fillRow_74 N w_1)) N (nI h) fu w v2) (fun (w_1 : Mem) => (f_X0_fillRow_74 N w_1)) N a (nI h) (nI s) b)) (fun q b => b = nI (mnv (fun v => onw W 0 s v (rst n W u h v)) (rst n W u h s) q)) ?_ ?_ 0 N (nI (rst n W u h s)) (by omega) (by omega) rfl
    · obtain ⟨b, rfl, b2⟩ := key2
      refine ⟨sA a 12 0 ((h + 1) * 24 + s) (nI (rst n W u (h + 1) s)), ⟨fun j x hj hx => by rw [gA_sA, if_neg (by omega)]; exact a1 j x hj hx, fun x hx => ?_, a3.tr ⟨fun _ _ _ _ => rfl, fun k' i' z => by funext y; rw [gA_sA, if_neg (by omega)], fun _ _ => rfl, fun _ _ _ => rfl⟩⟩, ?_⟩
      · rw [gA_sA]
        by_cases e : x = s
        · subst e; rw [if_pos ⟨rfl, rfl, rfl⟩]
        · rw [if_neg (by omega)]; exact a2 x (by omega)
      · show lp_X0_fillRow_2 (fun (w_1 : Mem) => (f_X0_fillRow_74 N w_1)) N (nI h) (fu + 1) a (nI s) = lp_X0_fillRow_2 (fun (w_1 : Mem) => (f_X0_fillRow_74 N w_1)) N (nI h) fu (sA a 12 0 ((h + 1) * 24 + s) (nI (rst n W u (h + 1) s))) (nI (s + 1))
        have hi1 : inb (nI (h * 24 + s)) 576 = true := inb_t (by omega) (by omega)
        have hc1 : (nI (h * 24 + s)).toNatClampNeg = h * 24 + s := cl_t (by omega)
        have hi2 : inb (nI ((h + 1) * 24 + s)) 576 = true := inb_t (by omega) (by omega)
        have hc2 : (nI ((h + 1) * 24 + s)).toNatClampNeg = (h + 1) * 24 + s := cl_t (by omega)
        rw [lp_X0_fillRow_2, e3, if_neg (of_eq_false (le_tf (by omega) (by omega) hs)), li24, q_mul, q_add, if_pos hi1, hc1, hhs, li0]
        refine b2.trans ?_
        rw [f_X0_fillRow_54_2, li1, q_add, li24, q_mul, q_add, if_pos hi2, hc2, q_add, ← rst]
    · intro f2 b hb
      subst hb
      show lp_X0_fillRow_25 _ N a (nI h) (nI s) (f2 + 1) _ (nI n) = _
      rw [lp_X0_fillRow_25, e3, if_pos (of_eq_true (le_tt (by omega) (by omega) (Nat.le_refl _)))]
    · intro f2 v b hv hb
      subst hb
      refine ⟨_, rfl, ?_⟩
      show lp_X0_fillRow_25 _ N a (nI h) (nI s) (f2 + 1) _ (nI v) = lp_X0_fillRow_25 _ N a (nI h) (nI s) f2 _ (nI (v + 1))
      have hb1 := (mnv_le (fun v => onw W 0 s v (rst n W u h v)) (rst n W u h s) v).1
      have hb2 := onw_le W 0 s v (rst n W u h v)
      rw [lp_X0_fillRow_25, e3, if_neg (of_eq_false (le_tf (by omega) (by omega) hv)), li0, onward_ok hn hPa (hW s v hs hv) (rst_bd n W u h v) (Nat.zero_le _) hs hv (by omega) (a1 h v (Nat.le_refl _) hv), Option.bind_some, n_min (by omega) (by omega), Nat.min_comm, li1, q_add, mnv]
theorem stepsOnWay_ok {N n t u m : Nat} {w : Mem} {W D : Mx} (hN : 60 < N) (hn : n ≤ 24) (hM : CM w n D) (hD : D t u ≤ 1000000000) (hP : CP w n W) (hW : ∀ a b, a < n → b < n → W a b ≤ 1000000001) (ht : t < n) (hu : u < n) (hm : m + 1 ≤ n) (h1 : rst n W u m t = D t u) (h2 : ∀ j, j < m → rst n W u j t ≠ D t u) : ∃ w', f_X0_stepsOnWay N w (nI t) (nI u) = some (w', nI m) ∧ CR w' n W u m ∧ FrRo w w' := by
  have key2 : ∀ r fu h a, h + r = m → r < fu → CR a n W u h → FrRo w a → ∃ w', lp_X0_stepsOnWay_35 (fun (w_2 : Mem) (u3_2 : Int32) => (f_X0_stepsOnWay_76 N w_2 u3_2)) N (nI t) (nI u) fu a (nI h) = some (w', nI m) ∧ CR w' n W u m ∧ FrRo w w' := by
    intro r
    induction r with
    | zero =>
      intro fu h a hh hf hC hF
      obtain ⟨f', rfl⟩ : ∃ g, fu = g + 1 := ⟨fu - 1, by omega⟩
      have e : h = m := by omega
      subst e
      have e3 : gF a 0 3 0 = nI n := (hF.1 _ _ _ (fun z => z)).trans hM.1
      refine ⟨a, ?_, hC, hF⟩
      rw [lp_X0_stepsOnWay_35, e3, li1, q_add]
      by_cases z : n ≤ h + 1
      · rw [if_pos (of_eq_true (le_tt (by omega) (by omega) z)), f_X0_stepsOnWay_76]
      · have hle := least_ok (N := N) (hM.of (hF.1 _ _ _ (fun z => z)) (hF.2.1 _ _ (fun z => by omega)) : CM a n D) hn ht hu
        have hCt := hC h t (Nat.le_refl _) ht
        rw [h1] at hCt
        rw [if_neg (of_eq_false (le_tf (by omega) (by omega) (by omega))), li24, q_mul, q_add, if_pos (inb_t (by omega) (by omega)), hle, Option.bind_some, cl_t (by omega), hCt, if_pos rfl, f_X0_stepsOnWay_76]
    | succ r ih =>
      intro fu h a hh hf hC hF
      obtain ⟨f', rfl⟩ : ∃ g, fu = g + 1 := ⟨fu - 1, by omega⟩
      have e3 : gF a 0 3 0 = nI n := (hF.1 _ _ _ (fun z => z)).trans hM.1
      have hle := least_ok (N := N) (hM.of (hF.1 _ _ _ (fun z => z)) (hF.2.1 _ _ (fun z => by omega)) : CM a n D) hn ht hu
      have hCt := hC h t (Nat.le_refl _) ht
      have hne := h2 h (by omega)
      have hb := rst_bd n W u h t
      obtain ⟨a2, c1, c2, c3⟩ := fillRow_ok (N := N) (u := u) (by omega) hn e3 (hP.of (hF.2.1 _ _ (fun z => by omega)) : CP a n W) hW (show h + 1 < n by omega) hC
      obtain ⟨w', d1, d2⟩ := ih f' (h + 1) a2 (by omega) (by omega) c2 (hF.tr c3)
      refine ⟨w', ?_, d2⟩
      rw [lp_X0_stepsOnWay_35, e3, li1, q_add, if_neg (of_eq_false (le_tf (by omega) (by omega) (by omega))), li24, q_mul, q_add, if_pos (inb_t (by omega) (by omega)), hle, Option.bind_some, cl_t (by omega), hCt, if_neg (fun z => hne ((nI_inj_iff (by omega) (by omega)).mp z)), c1, Option.bind_some]
      exact d1
  have key := lpc (α := Mem) n (fun fu a v => lp_X0_stepsOnWay_2 (fun (w_1 : Mem) => (f_X0_stepsOnWay_33 N w_1 (nI t) (nI u))) N (nI t) (nI u) fu a v) (fun a => f_X0_stepsOnWay_33 N a (nI t) (nI u)) (fun q a => (∀ s, s < q → gA a 12 0 s = nI (rst n W u 0 s)) ∧ FrRo w a) ?_ ?_ 0 N w (by omega) (by omega) ⟨fun s hs => absurd hs (Nat.not_lt_zero s), Fr.rf⟩
  · obtain ⟨a, ⟨a1, a2⟩, a3⟩ := key
    obtain ⟨w', d1, d2⟩ := key2 m N 0 a (by omega) (by omega) (fun j s hj hs => by
      have e : j = 0 := by omega
      subst e
      rw [Nat.zero_mul, Nat.zero_add]; exact a1 s hs) a2
    refine ⟨w', ?_, d2⟩
    rw [f_X0_stepsOnWay, li0, a3, f_X0_stepsOnWay_33, li0]
    exact d1
  · intro fu a ⟨a1, a2⟩
    have e3 : gF a 0 3 0 = nI n := (a2.1 _ _ _ (fun z => z)).trans hM.1
    show lp_X0_stepsOnWay_2 (fun (w_1 : Mem) => (f_X0_stepsOnWay_33 N w_1 (nI t) (nI u))) N (nI t) (nI u) (fu + 1) a (nI n) = f_X0_stepsOnWay_33 N a (nI t) (nI u)
    rw [lp_X0_stepsOnWay_2, e3, if_pos (of_eq_true (le_tt (by omega) (by omega) (Nat.le_refl _)))]
  · intro fu q a hq ⟨a1, a2⟩
    have e3 : gF a 0 3 0 = nI n := (a2.1 _ _ _ (fun z => z)).trans hM.1
    refine ⟨sA a 12 0 q (nI (rst n W u 0 q)), ⟨fun s hs => ?_, a2.tr ⟨fun _ _ _ _ => rfl, fun k' i' z => by funext y; rw [gA_sA, if_neg (by omega)], fun _ _ => rfl, fun _ _ _ => rfl⟩⟩, ?_⟩
    · rw [gA_sA]
      by_cases e : s = q
      · subst e; rw [if_pos ⟨rfl, rfl, rfl⟩]
      · rw [if_neg (by omega)]; exact a1 s (by omega)
    · show lp_X0_stepsOnWay_2 (fun (w_1 : Mem) => (f_X0_stepsOnWay_33 N w_1 (nI t) (nI u))) N (nI t) (nI u) (fu + 1) a (nI q) = lp_X0_stepsOnWay_2 (fun (w_1 : Mem) => (f_X0_stepsOnWay_33 N w_1 (nI t) (nI u))) N (nI t) (nI u) fu (sA a 12 0 q (nI (rst n W u 0 q))) (nI (q + 1))
      rw [lp_X0_stepsOnWay_2, e3, if_neg (of_eq_false (le_tf (by omega) (by omega) hq)), rst]
      by_cases e : q = u
      · rw [if_pos (by rw [e]), if_pos (inb_t (by omega) (by omega)), cl_t (by omega), li0, li1, q_add, if_pos e]
      · rw [if_neg (of_eq_false (eq_tf (by omega) (by omega) e)), if_pos (inb_t (by omega) (by omega)), cl_t (by omega), liW, li1, q_add, if_neg e]
