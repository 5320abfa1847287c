/-! Groups: what its methods do, over leads -/
/-- what may differ between two memories -/
def Fr (P : Nat → Nat → Nat → Prop) (Q : Nat → Nat → Prop) (w w' : Mem) : Prop := (∀ k j i, ¬ P k j i → gF w' k j i = gF w k j i) ∧ (∀ k i, ¬ Q k i → gA w' k i = gA w k i) ∧ (∀ k i, gL w' k i = gL w k i) ∧ ∀ k j i, gR w' k j i = gR w k j i
theorem Fr.rf {P : Nat → Nat → Nat → Prop} {Q : Nat → Nat → Prop} {w : Mem} : Fr P Q w w := ⟨fun _ _ _ _ => rfl, fun _ _ _ => rfl, fun _ _ => rfl, fun _ _ _ => rfl⟩
theorem Fr.tr {P : Nat → Nat → Nat → Prop} {Q : Nat → Nat → Prop} {w v u : Mem} (h1 : Fr P Q w v) (h2 : Fr P Q v u) : Fr P Q w u :=
  ⟨fun k j i h => (h2.1 k j i h).trans (h1.1 k j i h), fun k i h => (h2.2.1 k i h).trans (h1.2.1 k i h), fun k i => (h2.2.2.1 k i).trans (h1.2.2.1 k i), fun k j i => (h2.2.2.2 k j i).trans (h1.2.2.2 k j i)⟩
theorem Fr.mono {P P' : Nat → Nat → Nat → Prop} {Q Q' : Nat → Nat → Prop} {w v : Mem} (h : Fr P Q w v) (hP : ∀ k j i, P k j i → P' k j i) (hQ : ∀ k i, Q k i → Q' k i) : Fr P' Q' w v :=
  ⟨fun k j i z => h.1 k j i (fun q => z (hP k j i q)), fun k i z => h.2.1 k i (fun q => z (hQ k i q)), h.2.2.1, h.2.2.2⟩
abbrev gP (g : Nat) : Nat → Nat → Nat → Prop := fun k _ i => k = 3 ∧ i = g
abbrev gQ (g : Nat) : Nat → Nat → Prop := fun k i => k = 25 ∧ i = g
/-- the groups g hold n terms with leads ld -/
def GS (w : Mem) (g n : Nat) (ld : Nat → Nat) : Prop := n ≤ 24 ∧ Can n ld ∧ gF w 3 1 g = nI n ∧ gF w 3 2 g = nI (cntG n ld) ∧ ∀ i, i < n → gA w 25 g i = nI (ld i)
theorem GS.of {w v : Mem} {g n : Nat} {ld : Nat → Nat} (h : GS w g n ld) (h1 : gF v 3 1 g = gF w 3 1 g) (h2 : gF v 3 2 g = gF w 3 2 g) (h3 : gA v 25 g = gA w 25 g) : GS v g n ld := by
  obtain ⟨a, b, c, d, e⟩ := h
  exact ⟨a, b, by rw [h1]; exact c, by rw [h2]; exact d, by rw [h3]; exact e⟩
theorem GS.ext {w : Mem} {g n : Nat} {ld ld' : Nat → Nat} (h : GS w g n ld) (he : ∀ i, i < n → ld' i = ld i) : GS w g n ld' := by
  obtain ⟨a, b, c, d, e⟩ := h
  refine ⟨a, fun i hi => ?_, c, by rw [d, cnt_congr he], fun i hi => by rw [e i hi, he i hi]⟩
  have h1 := b i hi
  rw [he i hi, he (ld i) (by omega)]
  exact h1
theorem n_min {a b : Nat} (ha : a < 2 ^ 31) (hb : b < 2 ^ 31) : (if nI b < nI a then nI b else nI a) = nI (min a b) := by
  by_cases h : b < a
  · rw [if_pos ((nI_lt_iff hb ha).mpr h), Nat.min_eq_right (by omega)]
  · rw [if_neg (fun q => h ((nI_lt_iff hb ha).mp q)), Nat.min_eq_left (by omega)]
theorem n_max {a b : Nat} (ha : a < 2 ^ 31) (hb : b < 2 ^ 31) : (if nI a < nI b then nI b else nI a) = nI (max a b) := by
  by_cases h : a < b
  · rw [if_pos ((nI_lt_iff ha hb).mpr h), Nat.max_eq_right (by omega)]
  · rw [if_neg (fun q => h ((nI_lt_iff ha hb).mp q)), Nat.max_eq_left (by omega)]
theorem one_ok {w : Mem} {g n : Nat} {ld : Nat → Nat} (h : GS w g n ld) (N : Nat) {i j : Nat} (hi : i < n) (hj : j < n) : f_X3_one N w g (nI i) (nI j) = some (if ld i = ld j then 1 else 0) := by
  obtain ⟨a, b, c, d, e⟩ := h
  have b1 := b i hi
  have b2 := b j hj
  rw [f_X3_one, if_pos (inb_nI (by omega) (by omega)), if_pos (inb_nI (by omega) (by omega)), nI_clamp (by omega), nI_clamp (by omega), e i hi, e j hj]
  by_cases q : ld i = ld j
  · rw [if_pos (by rw [q]), if_pos q]
  · rw [if_neg (fun z => q ((nI_inj_iff (by omega) (by omega)).mp z)), if_neg q]
theorem unite_ok {w : Mem} {g n : Nat} {ld : Nat → Nat} (h : GS w g n ld) {N i j : Nat} (hN : n < N) (hi : i < n) (hj : j < n) : ∃ w', f_X3_unite N w g (nI i) (nI j) = some w' ∧ GS w' g n (un ld i j) ∧ Fr (gP g) (gQ g) w w' := by
  obtain ⟨a, b, c, d, e⟩ := id h
  have b1 := b i hi
  have b2 := b j hj
  have hc := cnt_le n ld
  rw [f_X3_unite]
  simp only [inb_nI (show i < 24 by omega) (show 24 ≤ 2 ^ 31 by omega), inb_nI (show j < 24 by omega) (show 24 ≤ 2 ^ 31 by omega), if_true, nI_clamp (show i < 2 ^ 31 by omega), nI_clamp (show j < 2 ^ 31 by omega), e i hi, e j hj, n_min (show ld i < 2 ^ 31 by omega) (show ld j < 2 ^ 31 by omega), n_max (show ld i < 2 ^ 31 by omega) (show ld j < 2 ^ 31 by omega)]
  by_cases q : ld i = ld j
  · rw [if_pos (by rw [q]; simp)]
    exact ⟨w, rfl, by rw [un_self q]; exact h, Fr.rf⟩
  · rw [if_neg (fun z => by have := (nI_inj_iff (by omega) (by omega)).mp z; omega)]
    rw [lp_unite _ N g n _ _ a (n - max (ld i) (ld j)) N (max (ld i) (ld j)) w (by omega) (by omega) c]
    refine ⟨_, rfl, ⟨a, can_un b hi hj, ?_, ?_, fun x hx => ?_⟩, fun k j' i' z => ?_, fun k i' z => ?_, fun _ _ => rfl, fun _ _ _ => rfl⟩
    · rw [gF_sF, if_neg (by omega)]; exact c
    · rw [gF_sF, if_pos ⟨rfl, rfl, rfl⟩, gF_sAf, d, ← cnt_un b hi hj q]
      exact n_sub (a := cntG n (un ld i j) + 1) (b := 1) (by omega)
    · rw [gA_sF, gA_sAf_self]
      unfold uniRow un
      rw [e x hx]
      have b3 := b x hx
      by_cases z : ld x = max (ld i) (ld j)
      · rw [if_pos ⟨by omega, hx, by rw [z]⟩, if_pos z]
      · rw [if_neg (fun y => z ((nI_inj_iff (by omega) (by omega)).mp y.2.2)), if_neg z]
    · rw [gF_sF, if_neg (fun y => z ⟨y.1, y.2.2⟩)]; rfl
    · rw [gA_sF, gA_sAf, if_neg z]
/-- one more term, alone -/
theorem addLone_ok {w : Mem} {g n : Nat} {ld : Nat → Nat} (h : GS w g n ld) (N : Nat) (hn : n < 24) : ∃ w', f_X3_addLone N w g = some w' ∧ GS w' g (n + 1) (fun i => if i = n then n else ld i) ∧ Fr (gP g) (gQ g) w w' := by
  obtain ⟨a, b, c, d, e⟩ := id h
  have hc := cnt_le n ld
  rw [f_X3_addLone, c, if_neg (fun z => by have := (nI_le_iff (a := 24) (by omega) (by omega)).mp z; omega), if_pos (inb_nI (by omega) (by omega)), nI_clamp (by omega)]
  refine ⟨_, rfl, ⟨by omega, fun i hi => ?_, ?_, ?_, fun x hx => ?_⟩, fun k j' i' z => ?_, fun k i' z => ?_, fun _ _ => rfl, fun _ _ _ => rfl⟩
  · by_cases q : i = n
    · subst q; simp
    · have b1 := b i (by omega)
      simp only [if_neg q]
      refine ⟨b1.1, ?_⟩
      rw [if_neg (by omega)]
      exact b1.2
  · rw [gF_sF, if_neg (by omega), gF_sF, if_pos ⟨rfl, rfl, rfl⟩, show gF (sA w 25 g n (nI n)) 3 1 g = gF w 3 1 g from rfl, c]
    exact n_add n 1
  · rw [gF_sF, if_pos ⟨rfl, rfl, rfl⟩, gF_sF, if_neg (by omega), show gF (sA w 25 g n (nI n)) 3 2 g = gF w 3 2 g from rfl, d, cntG]
    rw [cnt_congr (f := fun i => if i = n then n else ld i) (g := ld) (fun i hi => if_neg (by omega)), if_pos (if_pos rfl)]
    exact n_add _ 1
  · rw [gA_sF, gA_sF]
    unfold sA
    rw [gA_sAf_self]
    unfold upd
    by_cases q : x = n
    · subst q; simp
    · rw [if_neg q]
      show _ = nI (if x = n then n else ld x)
      rw [if_neg q]; exact e x (by omega)
  · rw [gF_sF, if_neg (fun y => z ⟨y.1, y.2.2⟩), gF_sF, if_neg (fun y => z ⟨y.1, y.2.2⟩)]; rfl
  · rw [gA_sF, gA_sF]; unfold sA; rw [gA_sAf, if_neg z]
theorem lp_partAll (k : Mem → Option Mem) (N g m : Nat) (hm : m ≤ 24) : ∀ (r fuel t : Nat) (w : Mem), t + r = m → r < fuel → GS w g t (fun i => i) → ∃ w', lp_X3_partAll_12 k N g (nI m) fuel w (nI t) = k w' ∧ GS w' g m (fun i => i) ∧ Fr (gP g) (gQ g) w w' := by
  intro r
  induction r with
  | zero =>
    intro fuel t w ht hf hG
    obtain ⟨f, rfl⟩ : ∃ f, fuel = f + 1 := ⟨fuel - 1, by omega⟩
    rw [lp_X3_partAll_12, if_pos ((nI_le_iff (by omega) (by omega)).mpr (by omega))]
    have e : t = m := by omega
    subst e
    exact ⟨w, rfl, hG, Fr.rf⟩
  | succ r ih =>
    intro fuel t w ht hf hG
    obtain ⟨f, rfl⟩ : ∃ f, fuel = f + 1 := ⟨fuel - 1, by omega⟩
    rw [lp_X3_partAll_12, if_neg (fun z => by have := (nI_le_iff (by omega) (by omega)).mp z; omega)]
    obtain ⟨w1, h1, h2, h3⟩ := addLone_ok hG N (by omega)
    rw [h1, Option.bind_some, show nI t + (1 : Int32) = nI (t + 1) from n_add t 1]
    obtain ⟨w2, g1, g2, g3⟩ := ih f (t + 1) w1 (by omega) (by omega) (h2.ext (fun i _ => by by_cases q : i = t <;> simp [q]))
    exact ⟨w2, g1, g2, h3.tr g3⟩
theorem partAll_ok (w : Mem) (g : Nat) {N m : Nat} (hm : m ≤ 24) (hN : m < N) : ∃ w', f_X3_partAll N w g (nI m) = some w' ∧ GS w' g m (fun i => i) ∧ Fr (gP g) (gQ g) w w' := by
  rw [f_X3_partAll]
  have h0 : GS (sF (sF w 3 1 g 0) 3 2 g 0) g 0 (fun i => i) := ⟨by omega, can_id 0, by rw [gF_sF, if_neg (by omega), gF_sF, if_pos ⟨rfl, rfl, rfl⟩]; rfl, by rw [gF_sF, if_pos ⟨rfl, rfl, rfl⟩]; rfl, fun i hi => absurd hi (Nat.not_lt_zero _)⟩
  obtain ⟨w1, h1, h2, h3⟩ := lp_partAll (fun w => f_X3_partAll_27 N w g) N g m hm m N 0 _ (by omega) hN h0
  have h4 : Fr (gP g) (gQ g) w (sF (sF w 3 1 g 0) 3 2 g 0) := ⟨fun k j i z => by rw [gF_sF, if_neg (fun y => z ⟨y.1, y.2.2⟩), gF_sF, if_neg (fun y => z ⟨y.1, y.2.2⟩)], fun _ _ _ => rfl, fun _ _ => rfl, fun _ _ _ => rfl⟩
  exact ⟨w1, h1, h2, h4.tr h3⟩
theorem copyFrom_ok {w : Mem} {g g2 n : Nat} {ld : Nat → Nat} (h : GS w g2 n ld) (N : Nat) (hg : g2 ≠ g) : ∃ w', f_X3_copyFrom N w g g2 = some w' ∧ GS w' g n ld ∧ Fr (gP g) (gQ g) w w' := by
  obtain ⟨a, b, c, d, e⟩ := id h
  rw [f_X3_copyFrom]
  refine ⟨_, rfl, ⟨a, b, ?_, ?_, fun x hx => ?_⟩, fun k j' i' z => ?_, fun k i' z => ?_, fun _ _ => rfl, fun _ _ _ => rfl⟩
  · rw [gF_sF, if_neg (by omega), gF_sF, if_pos ⟨rfl, rfl, rfl⟩, gF_sAf]; exact c
  · rw [gF_sF, if_pos ⟨rfl, rfl, rfl⟩, gF_sF, if_neg (by omega), gF_sAf]; exact d
  · rw [gA_sF, gA_sF, gA_sAf_self]
    unfold va_cpy
    rw [show (0 : Int32).toNatClampNeg = 0 from rfl, show (24 : Int32).toNatClampNeg = 24 from rfl, if_pos ⟨by omega, by omega⟩]
    simp only [Nat.zero_add, Nat.sub_zero]
    exact e x hx
  · rw [gF_sF, if_neg (fun y => z ⟨y.1, y.2.2⟩), gF_sF, if_neg (fun y => z ⟨y.1, y.2.2⟩)]; rfl
  · rw [gA_sF, gA_sF, gA_sAf, if_neg z]

