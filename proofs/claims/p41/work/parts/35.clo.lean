/-! Terms: close ends at leads that are closed -/
theorem un_mono {ld : Nat → Nat} {a b i j : Nat} (h : ld i = ld j) : un ld a b i = un ld a b j := un_iff.mpr (Or.inl h)
theorem clb_cons (T : Trm) (ld : Nat → Nat) (p : Nat × Nat) (l : List (Nat × Nat)) (d : Nat → Nat) : clb T ld (p :: l) d = clb T ld l (if eqParts T ld p.1 p.2 = true then un d p.1 p.2 else d) := rfl
theorem clb_mono {T : Trm} {ld : Nat → Nat} {i j : Nat} : ∀ (l : List (Nat × Nat)) (d : Nat → Nat), d i = d j → clb T ld l d i = clb T ld l d j
  | [], _, h => h
  | p :: l, d, h => by
    rw [clb_cons]
    apply clb_mono l
    by_cases z : eqParts T ld p.1 p.2 = true
    · rw [if_pos z]; exact un_mono h
    · rw [if_neg z]; exact h
theorem eqParts_R {T : Trm} {ld : Nat → Nat} {R : Nat → Nat → Prop} (hT : TOK T) (hR : Congr T R) (hJ : Jst (tN T) ld R) {i j : Nat} (hp : (i, j) ∈ prs T) (z : eqParts T ld i j = true) : R i j := by
  obtain ⟨h1, h2, h3⟩ := prs_mem.mp hp
  refine hR.2.2.2 i j (by omega) h2 ⟨h3, fun k hk => ?_⟩
  have p1 := hT i (by omega) k hk
  have p2 := hT j h2 k (by rw [← h3]; exact hk)
  exact hJ _ _ (by omega) (by omega) (eqParts_iff.mp z k hk)
theorem clb_jst {T : Trm} {ld : Nat → Nat} {R : Nat → Nat → Prop} (hT : TOK T) (hR : Congr T R) (hJ : Jst (tN T) ld R) : ∀ (l : List (Nat × Nat)) (d : Nat → Nat), (∀ p, p ∈ l → p ∈ prs T) → Jst (tN T) d R → Jst (tN T) (clb T ld l d) R
  | [], _, _, h => h
  | (i, j) :: l, d, hl, h => by
    rw [clb_cons]
    refine clb_jst hT hR hJ l _ (fun p hp => hl p (List.mem_cons_of_mem _ hp)) ?_
    have hm := hl (i, j) List.mem_cons_self
    obtain ⟨h1, h2, h3⟩ := prs_mem.mp hm
    by_cases z : eqParts T ld i j = true
    · rw [if_pos z]; exact jst_un hR h (by omega) h2 (eqParts_R hT hR hJ hm z)
    · rw [if_neg z]; exact h
theorem clb_can {T : Trm} {ld : Nat → Nat} : ∀ (l : List (Nat × Nat)) (d : Nat → Nat), (∀ p, p ∈ l → p ∈ prs T) → Can (tN T) d → Can (tN T) (clb T ld l d)
  | [], _, _, h => h
  | (i, j) :: l, d, hl, h => by
    rw [clb_cons]
    refine clb_can l _ (fun p hp => hl p (List.mem_cons_of_mem _ hp)) ?_
    obtain ⟨h1, h2, h3⟩ := prs_mem.mp (hl (i, j) List.mem_cons_self)
    by_cases z : eqParts T ld i j = true
    · rw [if_pos z]; exact can_un h (by omega) h2
    · rw [if_neg z]; exact h
theorem clb_cnt {T : Trm} {ld : Nat → Nat} : ∀ (l : List (Nat × Nat)) (d : Nat → Nat), (∀ p, p ∈ l → p ∈ prs T) → Can (tN T) d → cntG (tN T) (clb T ld l d) ≤ cntG (tN T) d ∧ (cntG (tN T) d ≤ cntG (tN T) (clb T ld l d) → ∀ p, p ∈ l → eqParts T ld p.1 p.2 = true → d p.1 = d p.2)
  | [], _, _, _ => ⟨Nat.le_refl _, fun _ p hp => by cases hp⟩
  | (i, j) :: l, d, hl, h => by
    obtain ⟨h1, h2, h3⟩ := prs_mem.mp (hl (i, j) List.mem_cons_self)
    have hl' : ∀ p, p ∈ l → p ∈ prs T := fun p hp => hl p (List.mem_cons_of_mem _ hp)
    rw [clb_cons]
    by_cases z : eqParts T ld i j = true
    · rw [if_pos z]
      by_cases y : d i = d j
      · have e := un_self y
        show cntG (tN T) (clb T ld l (un d i j)) ≤ _ ∧ (_ ≤ cntG (tN T) (clb T ld l (un d i j)) → _)
        rw [e]
        obtain ⟨a, b⟩ := clb_cnt (ld := ld) l d hl' h
        refine ⟨a, fun q p hp hz => ?_⟩
        rcases List.mem_cons.mp hp with rfl | hp
        · exact y
        · exact b q p hp hz
      · have e := cnt_un h (show i < tN T by omega) h2 y
        obtain ⟨a, b⟩ := clb_cnt (ld := ld) l (un d i j) hl' (can_un h (by omega) h2)
        exact ⟨by show cntG (tN T) (clb T ld l (un d i j)) ≤ _; omega, fun q => absurd (show cntG (tN T) d ≤ cntG (tN T) (clb T ld l (un d i j)) from q) (by omega)⟩
    · rw [if_neg z]
      obtain ⟨a, b⟩ := clb_cnt (ld := ld) l d hl' h
      refine ⟨a, fun q p hp hz => ?_⟩
      rcases List.mem_cons.mp hp with rfl | hp
      · exact absurd hz z
      · exact b q p hp hz
theorem clo_of {T : Trm} {ld : Nat → Nat} (h : ∀ p, p ∈ prs T → eqParts T ld p.1 p.2 = true → ld p.1 = ld p.2) : Clo T ld := by
  intro i j hi hj hij
  rcases Nat.lt_trichotomy i j with q | q | q
  · exact h (i, j) (prs_mem.mpr ⟨q, hj, hij.1⟩) (eqParts_iff.mpr hij.2)
  · rw [q]
  · exact (h (j, i) (prs_mem.mpr ⟨q, hi, hij.1.symm⟩) (eqParts_iff.mpr (fun k hk => (hij.2 k (by rw [hij.1]; exact hk)).symm))).symm
/-- ld' is ld, closed -/
def ClO (T : Trm) (ld ld' : Nat → Nat) : Prop := Clo T ld' ∧ (∀ i j, ld i = ld j → ld' i = ld' j) ∧ ∀ R, Congr T R → Jst (tN T) ld R → Jst (tN T) ld' R
theorem clb_fix {T : Trm} {ld : Nat → Nat} : ∀ (l : List (Nat × Nat)) (d : Nat → Nat), (∀ p, p ∈ l → eqParts T ld p.1 p.2 = true → d p.1 = d p.2) → clb T ld l d = d
  | [], _, _ => rfl
  | p :: l, d, h => by
    have e : (if eqParts T ld p.1 p.2 = true then un d p.1 p.2 else d) = d := by
      by_cases z : eqParts T ld p.1 p.2 = true
      · rw [if_pos z]; exact un_self (h p List.mem_cons_self z)
      · rw [if_neg z]
    rw [clb_cons, e]
    exact clb_fix l d (fun q hq => h q (List.mem_cons_of_mem _ hq))
theorem close_end (k : Mem → Option Mem) {N f g : Nat} {T : Trm} (hN : 276 < N) (f' v : Nat) (w : Mem) (ld : Nat → Nat) (hv : cntG (tN T) ld + v ≤ 24) (hT : TS w f T) (hG : GS w g (tN T) ld) (hk : cntG (tN T) ld ≤ cntG (tN T) (clb T ld (prs T) ld)) : ∃ w' ld', lp_X7_close_4 k N f g (f' + 2) w 1 (nI v) = k w' ∧ GS w' g (tN T) ld' ∧ ClO T ld ld' ∧ Fr (gP g) (fun k i => gQ g k i ∨ k = 37 ∧ i = f) w w' := by
  obtain ⟨w1, a1, a2, a3⟩ := climb_ok hN hT hG hG
  obtain ⟨b1, b2⟩ := clb_cnt (ld := ld) (prs T) ld (fun _ h => h) hG.2.1
  have e := clb_fix (prs T) ld (b2 hk)
  rw [e] at a2 
  refine ⟨w1, ld, ?_, a2, ⟨clo_of (b2 hk), fun _ _ h => h, fun _ _ h => h⟩, a3⟩
  rw [lp_X7_close_4, if_neg (by decide), if_neg (fun z => by have := (nI_lt_iff (a := 24) (by omega) (by omega)).mp z; omega), a1, Option.bind_some, hG.2.2.2.1, a2.2.2.2.1, if_pos ((nI_le_iff (by omega) (by omega)).mpr (Nat.le_refl _)), lp_X7_close_4, if_pos rfl]
theorem lp_close (k : Mem → Option Mem) {N f g : Nat} {T : Trm} (hN : 276 < N) : ∀ (c fuel v : Nat) (w : Mem) (ld : Nat → Nat), cntG (tN T) ld ≤ c → cntG (tN T) ld + v ≤ 24 → c + 1 < fuel → TS w f T → GS w g (tN T) ld → ∃ w' ld', lp_X7_close_4 k N f g fuel w 1 (nI v) = k w' ∧ GS w' g (tN T) ld' ∧ ClO T ld ld' ∧ Fr (gP g) (fun k i => gQ g k i ∨ k = 37 ∧ i = f) w w' := by
  intro c
  induction c with
  | zero =>
    intro fuel v w ld hc hv hf hT hG
    obtain ⟨f', rfl⟩ : ∃ f, fuel = f + 2 := ⟨fuel - 2, by omega⟩
    exact close_end k hN f' v w ld hv hT hG (by omega)
  | succ c ih =>
    intro fuel v w ld hc hv hf hT hG
    obtain ⟨f', rfl⟩ : ∃ f, fuel = f + 2 := ⟨fuel - 2, by omega⟩
    by_cases hk : cntG (tN T) ld ≤ cntG (tN T) (clb T ld (prs T) ld)
    · exact close_end k hN f' v w ld hv hT hG hk
    · obtain ⟨w1, a1, a2, a3⟩ := climb_ok hN hT hG hG
      obtain ⟨w2, ld2, b1, b2, b3, b4⟩ := ih (f' + 1) (v + 1) w1 (clb T ld (prs T) ld) (by omega) (by omega) (by omega) (hT.fr a3 (fun _ _ _ h => by omega) (fun _ _ h => by omega)) a2
      refine ⟨w2, ld2, ?_, b2, ⟨b3.1, fun i j h => b3.2.1 i j (clb_mono _ _ h), fun R hR hJ => b3.2.2 R hR (clb_jst hT.2.1 hR hJ _ _ (fun _ h => h) hJ)⟩, a3.tr b4⟩
      rw [lp_X7_close_4, if_neg (by decide), if_neg (fun z => by have := (nI_lt_iff (a := 24) (by omega) (by omega)).mp z; omega), a1, Option.bind_some, hG.2.2.2.1, a2.2.2.2.1, if_neg (fun z => hk ((nI_le_iff (by omega) (by omega)).mp z)), show nI v + (1 : Int32) = nI (v + 1) from n_add v 1]
      exact b1
theorem close_ok {N f g : Nat} {w : Mem} {T : Trm} {ld : Nat → Nat} (hN : 276 < N) (hT : TS w f T) (hG : GS w g (tN T) ld) : ∃ w' ld', f_X7_close N w f g = some w' ∧ GS w' g (tN T) ld' ∧ ClO T ld ld' ∧ Fr (gP g) (fun k i => gQ g k i ∨ k = 37 ∧ i = f) w w' := by
  have l1 := cnt_le (tN T) ld
  have l2 := hT.1
  exact lp_close (fun w_1 => f_X7_close_47 N w_1 f g) hN (cntG (tN T) ld) N 0 w ld (Nat.le_refl _) (by omega) (by omega) hT hG

