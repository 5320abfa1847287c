/-! steps, fewest -/
def Hp (n : Nat) (R : Nat → Nat → Prop) (u : Nat) : Nat → Nat → Prop
  | 0, s => s = u
  | h + 1, s => Hp n R u h s ∨ ∃ v, v < n ∧ R s v ∧ Hp n R u h v
theorem Hp_up {n : Nat} {R : Nat → Nat → Prop} {u s h k : Nat} (x : Hp n R u h s) (hk : h ≤ k) : Hp n R u k s := by
  induction k with
  | zero =>
    have e : h = 0 := by omega
    subst e; exact x
  | succ k ih =>
    by_cases e : h = k + 1
    · subst e; exact x
    · exact Or.inl (ih (by omega))
theorem Hp_next {n : Nat} {R : Nat → Nat → Prop} {u s k : Nat} (h : Hp n R u (k + 1) s) (hn : ¬ Hp n R u k s) : ∃ v, v < n ∧ R s v ∧ Hp n R u k v ∧ ∀ j, j < k → ¬ Hp n R u j v := by
  rcases h with h | ⟨v, hv, h1, h2⟩
  · exact absurd h hn
  · exact ⟨v, hv, h1, h2, fun j hj hq => hn (Hp_up (show Hp n R u (j + 1) s from Or.inr ⟨v, hv, h1, hq⟩) (by omega))⟩
theorem Hp_few {n : Nat} {R : Nat → Nat → Prop} {u t : Nat} (hu : u < n) (ht : t < n) (hex : ∃ h, Hp n R u h t) : ∃ m, m + 1 ≤ n ∧ Hp n R u m t ∧ ∀ j, j < m → ¬ Hp n R u j t := by
  obtain ⟨m, m1, m2⟩ := least_ex hex
  have hmin : ∀ j, j < m → ¬ Hp n R u j t := fun j hj hq => by have := m2 j hq; omega
  refine ⟨m, ?_, m1, hmin⟩
  have hlev : ∀ d, d ≤ m → ∃ s, s < n ∧ Hp n R u (m - d) s ∧ ∀ j, j < m - d → ¬ Hp n R u j s := by
    intro d
    induction d with
    | zero => intro _; exact ⟨t, ht, m1, hmin⟩
    | succ d ih =>
      intro hd
      obtain ⟨s, s1, s2, s3⟩ := ih (by omega)
      rw [show m - d = (m - (d + 1)) + 1 by omega] at s2 s3
      obtain ⟨v, v1, v2, v3, v4⟩ := Hp_next s2 (s3 _ (by omega))
      exact ⟨v, v1, v3, v4⟩
  have hcnt : ∀ j, j ≤ m → j + 1 ≤ smN n (fun s => b01 (Hp n R u j s)) := by
    intro j
    induction j with
    | zero =>
      intro _
      have := smN_lt (f := fun _ => 0) (g := fun s => b01 (Hp n R u 0 s)) n (fun k _ => Nat.zero_le _) ⟨u, hu, by show 0 < b01 (Hp n R u 0 u); rw [b01_t (show Hp n R u 0 u from rfl)]; omega⟩
      omega
    | succ j ih =>
      intro hj
      have h1 := ih (by omega)
      obtain ⟨s, s1, s2, s3⟩ := hlev (m - (j + 1)) (by omega)
      rw [show m - (m - (j + 1)) = j + 1 by omega] at s2 s3
      have := smN_lt (f := fun s => b01 (Hp n R u j s)) (g := fun s => b01 (Hp n R u (j + 1) s)) n (fun k _ => by
        show b01 (Hp n R u j k) ≤ b01 (Hp n R u (j + 1) k)
        by_cases z : Hp n R u j k
        · rw [b01_t z, b01_t (show Hp n R u (j + 1) k from Or.inl z)]; omega
        · rw [b01_f z]; omega) ⟨s, s1, by
        show b01 (Hp n R u j s) < b01 (Hp n R u (j + 1) s)
        rw [b01_t s2, b01_f (s3 j (by omega))]; omega⟩
      omega
  have h1 := hcnt m (Nat.le_refl _)
  have h2 := smN_bd (f := fun s => b01 (Hp n R u m s)) (b := 1) n (fun k _ => by have := b01_lt (Hp n R u m k); show b01 (Hp n R u m k) ≤ 1; omega)
  omega
/-- a step that a way may take -/
def tg (W D : Mx) (hd : Prop) (u s v : Nat) : Prop := s ≠ v ∧ W s v ≠ 1000000001 ∧ (hd ∨ W s v + D v u = D s u)
theorem held_hp {n : Nat} {W D : Mx} {hd : Prop} {u : Nat} (hh : hd) : ∀ h s, rst n W u h s ≠ 1000000001 ↔ Hp n (tg W D hd u) u h s := by
  intro h
  induction h with
  | zero =>
    intro s
    rw [rst, Hp]
    by_cases e : s = u
    · rw [if_pos e]; exact ⟨fun _ => e, fun _ => by omega⟩
    · rw [if_neg e]; exact ⟨fun z => absurd rfl z, fun z => absurd z e⟩
  | succ h ih =>
    intro s
    constructor
    · intro x
      rcases rst_ex n W u h s with e | ⟨v, hv, e⟩
      · rw [e] at x; exact Or.inl ((ih s).mp x)
      · rw [e] at x
        obtain ⟨y1, y2⟩ := onw_now x
        by_cases z : s = v
        · subst z; exact Or.inl ((ih s).mp y2)
        · exact Or.inr ⟨v, hv, ⟨z, y1, Or.inl hh⟩, (ih v).mp y2⟩
    · intro x
      rcases x with x | ⟨v, hv, ⟨x1, x2, x3⟩, x4⟩
      · have a := (ih s).mpr x
        have b := rst_down n W u h s
        have c := rst_bd n W u h s
        omega
      · have a := (ih v).mpr x4
        have b := rst_step (n := n) (W := W) (b := u) (h := h) (s := s) hv
        rw [onw_0 x2 a] at b
        omega
theorem free_hp {T : Trm} {S : Prs} {ld : Nat → Nat} {D : Mx} {hd : Prop} {u : Nat} (hh : ¬ hd) (hD : GSol T S ld D) (hu : u < tN T) : ∀ h s, s < tN T → D s u < 1000000000 → (rst (tN T) (wt T S ld D) u h s = D s u ↔ Hp (tN T) (tg (wt T S ld D) D hd u) u h s) := by
  have hw : ∀ a v, a < tN T → v < tN T → D a v ≤ wt T S ld D a v := fun a v ha hv => sol_wt hD.1 ha hv
  have hge := rst_ge hD.1 hw hu
  intro h
  induction h with
  | zero =>
    intro s hs hlt
    rw [rst, Hp]
    by_cases e : s = u
    · rw [if_pos e, e, hD.1.1 u hu]; exact ⟨fun _ => rfl, fun _ => rfl⟩
    · rw [if_neg e]; exact ⟨fun z => by omega, fun z => absurd z e⟩
  | succ h ih =>
    intro s hs hlt
    have g1 := hge (h + 1) s hs
    constructor
    · intro x
      rcases rst_ex (tN T) (wt T S ld D) u h s with e | ⟨v, hv, e⟩
      · rw [e] at x; exact Or.inl ((ih s hs hlt).mp x)
      · rw [x] at e
        have hne : onw (wt T S ld D) 0 s v (rst (tN T) (wt T S ld D) u h v) ≠ 1000000001 := by omega
        obtain ⟨y1, y2⟩ := onw_now hne
        rw [onw_0 y1 y2] at e
        have a1 := hge h v hv
        have a2 := (sol_tri hD.1).2 s u v hs hu hv
        have a3 := hw s v hs hv
        by_cases z : s = v
        · subst z; exact Or.inl ((ih s hs hlt).mp (by omega))
        · exact Or.inr ⟨v, hv, ⟨z, y1, Or.inr (by omega)⟩, (ih v hv (by omega)).mp (by omega)⟩
    · intro x
      rcases x with x | ⟨v, hv, ⟨x1, x2, x3⟩, x4⟩
      · have a := (ih s hs hlt).mpr x
        have b := rst_down (tN T) (wt T S ld D) u h s
        omega
      · have x3 := x3.resolve_left hh
        have a := (ih v hv (by omega)).mpr x4
        have b := rst_step (n := tN T) (W := wt T S ld D) (b := u) (h := h) (s := s) hv
        rw [onw_0 x2 (by omega), a] at b
        omega
/-- the fewest steps from t to u -/
theorem way_few {T : Trm} {S : Prs} {ld : Nat → Nat} {D : Mx} {t u : Nat} (hT : TOK T) (hL : LDC T S ld) (hS : PRok (tN T) S) (hD : GSol T S ld D) (ht : t < tN T) (hu : u < tN T) (htu : ld t = ld u) : (∀ h, rst (tN T) (wt T S ld D) u h t = D t u ↔ Hp (tN T) (tg (wt T S ld D) D (D t u = 1000000000) u) u h t) ∧ ∃ m, m + 1 ≤ tN T ∧ Hp (tN T) (tg (wt T S ld D) D (D t u = 1000000000) u) u m t ∧ ∀ j, j < m → ¬ Hp (tN T) (tg (wt T S ld D) D (D t u = 1000000000) u) u j t := by
  have hw : ∀ a v, a < tN T → v < tN T → D a v ≤ wt T S ld D a v := fun a v ha hv => sol_wt hD.1 ha hv
  have hle := (sol_tri hD.1).1 t u ht hu
  have hiff : ∀ h, rst (tN T) (wt T S ld D) u h t = D t u ↔ Hp (tN T) (tg (wt T S ld D) D (D t u = 1000000000) u) u h t := by
    intro h
    by_cases z : D t u = 1000000000
    · have a := held_hp (n := tN T) (W := wt T S ld D) (D := D) (u := u) z h t
      rw [← a]
      have b := rst_ge hD.1 hw hu h t ht
      have c := rst_bd (tN T) (wt T S ld D) u h t
      omega
    · exact free_hp z hD hu h t ht (by omega)
  refine ⟨hiff, Hp_few hu ht ?_⟩
  by_cases z : D t u = 1000000000
  · obtain ⟨h, hh⟩ := rst_one2 (D := D) hT hL hS ht hu htu
    exact ⟨h, (held_hp z h t).mp hh⟩
  · obtain ⟨h, hh⟩ := rst_eq hT hS hD ht hu
    exact ⟨h, (hiff h).mp (by omega)⟩
