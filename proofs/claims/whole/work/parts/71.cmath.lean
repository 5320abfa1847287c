/-! costs: what a class's matrix keeps -/
theorem pl3 (a s b : Nat) : pl (pl a s) b = min 1000000000 (a + s + b) := by
  show min 1000000000 (min 1000000000 (a + s) + b) = _
  omega
theorem pl_def (a b : Nat) : pl a b = min 1000000000 (a + b) := rfl
abbrev Mx : Type := Nat → Nat → Nat
/-- a matrix of costs: 0 of itself, no dearer than any way round -/
def MC (n : Nat) (M : Mx) : Prop := (∀ t, t < n → M t t = 0) ∧ (∀ t u, t < n → u < n → M t u ≤ 1000000000) ∧ (∀ t u, t < n → u < n → M t u = M u t) ∧ ∀ t u v, t < n → u < n → v < n → M t u ≤ M t v + M v u
/-- shorter by a step s between i and j -/
def ly (M : Mx) (i j s t u : Nat) : Nat := min (M t u) (min (pl (pl (M t i) s) (M j u)) (pl (pl (M t j) s) (M i u)))
theorem ly_def (M : Mx) (i j s t u : Nat) : ly M i j s t u = min (M t u) (min (min 1000000000 (M t i + s + M j u)) (min 1000000000 (M t j + s + M i u))) := by rw [ly, pl3, pl3]
theorem ly_le (M : Mx) (i j s t u : Nat) : ly M i j s t u ≤ M t u := Nat.min_le_left _ _
theorem ly_row {n : Nat} {M : Mx} (hM : MC n M) {i j s u : Nat} (hi : i < n) (hj : j < n) (hu : u < n) : ly M i j s j u ≤ M j u ∧ (ly M i j s j u = M j u ∨ min 1000000000 (s + M i u) ≤ ly M i j s j u) := by
  refine ⟨ly_le _ _ _ _ _ _, ?_⟩
  rw [ly_def]
  have h1 := hM.1 j hj
  have h2 := hM.2.1 j u hj hu
  omega
theorem ly_row2 {n : Nat} {M : Mx} (hM : MC n M) {i j s u : Nat} (hi : i < n) (hj : j < n) (hu : u < n) : ly M i j s i u ≤ M i u ∧ (ly M i j s i u = M i u ∨ min 1000000000 (s + M j u) ≤ ly M i j s i u) := by
  refine ⟨ly_le _ _ _ _ _ _, ?_⟩
  rw [ly_def]
  have h1 := hM.1 i hi
  have h2 := hM.2.1 i u hi hu
  omega
theorem ly_val {n : Nat} {M : Mx} (hM : MC n M) {i j s t u x y : Nat} (hi : i < n) (hj : j < n) (ht : t < n) (hu : u < n) (hx : x = M j u ∨ x = ly M i j s j u) (hy : y = M i u ∨ y = ly M i j s i u) : min (M t u) (min (pl (pl (M t i) s) x) (pl (pl (M t j) s) y)) = ly M i j s t u := by
  rw [pl3, pl3, ly_def]
  have h1 := hM.2.2.2 t u i ht hu hi
  have h2 := hM.2.2.2 t u j ht hu hj
  have h3 := hM.2.1 t u ht hu
  have h4 := ly_row hM (s := s) hi hj hu
  have h5 := ly_row2 hM (s := s) hi hj hu
  have hx2 : x ≤ M j u ∧ (x = M j u ∨ min 1000000000 (s + M i u) ≤ x) := by
    rcases hx with e | e
    · exact ⟨by omega, Or.inl e⟩
    · rw [e]; exact h4
  have hy2 : y ≤ M i u ∧ (y = M i u ∨ min 1000000000 (s + M j u) ≤ y) := by
    rcases hy with e | e
    · exact ⟨by omega, Or.inl e⟩
    · rw [e]; exact h5
  clear hx hy h4 h5
  generalize M t u = e at *
  generalize M t i = a at *
  generalize M t j = c at *
  generalize M i u = d at *
  generalize M j u = b at *
  omega
theorem ly_cases (M : Mx) (i j s t u : Nat) : ly M i j s t u = M t u ∨ ly M i j s t u = 1000000000 ∨ ly M i j s t u = M t i + s + M j u ∨ ly M i j s t u = M t j + s + M i u := by
  rw [ly_def]; omega
theorem ly_up (M : Mx) (i j s t u : Nat) : ly M i j s t u ≤ M t u ∧ ly M i j s t u ≤ M t i + s + M j u ∧ ly M i j s t u ≤ M t j + s + M i u := by
  rw [ly_def]; omega
theorem ly_mc {n : Nat} {M : Mx} (hM : MC n M) {i j s : Nat} (hi : i < n) (hj : j < n) : MC n (ly M i j s) := by
  obtain ⟨m1, m2, m3, m4⟩ := hM
  refine ⟨fun t ht => ?_, fun t u ht hu => ?_, fun t u ht hu => ?_, fun t u v ht hu hv => ?_⟩
  · have h1 := ly_le M i j s t t
    have h2 := m1 t ht
    omega
  · have h1 := ly_le M i j s t u
    have h2 := m2 t u ht hu
    omega
  · rw [ly_def, ly_def, m3 u t hu ht, m3 u i hu hi, m3 u j hu hj, m3 t i ht hi, m3 t j ht hj]
    omega
  · obtain ⟨a1, a2, a3⟩ := ly_up M i j s t u
    have h0 := m2 t u ht hu
    have h1 := m4 t u v ht hu hv
    have h2 := m4 t i v ht hi hv
    have h3 := m4 t j v ht hj hv
    have h4 := m4 j u v hj hu hv
    have h5 := m4 i u v hi hu hv
    have h6 := m4 t u i ht hu hi
    have h7 := m4 t u j ht hu hj
    generalize ly M i j s t u = g at *
    rcases ly_cases M i j s t v with e | e | e | e <;> rcases ly_cases M i j s v u with e2 | e2 | e2 | e2 <;> rw [e, e2] <;> omega
/-- what any matrix keeps that is nowhere dearer -/
def Und (n : Nat) (E X : Mx) : Prop := ∀ t u, t < n → u < n → E t u ≤ X t u
def Tri (n : Nat) (E : Mx) : Prop := (∀ t u, t < n → u < n → E t u ≤ 1000000000) ∧ ∀ t u v, t < n → u < n → v < n → E t u ≤ E t v + E v u
theorem ly_und {n : Nat} {M E : Mx} {i j s : Nat} (hi : i < n) (hj : j < n) (hE : Tri n E) (h : Und n E M) (h1 : E i j ≤ s) (h2 : E j i ≤ s) : Und n E (ly M i j s) := by
  intro t u ht hu
  rw [ly_def]
  have a1 := hE.1 t u ht hu
  have a2 := hE.2 t u i ht hu hi
  have a3 := hE.2 i u j hi hu hj
  have a4 := hE.2 t u j ht hu hj
  have a5 := hE.2 j u i hj hu hi
  have b1 := h t u ht hu
  have b2 := h t i ht hi
  have b3 := h t j ht hj
  have b4 := h i u hi hu
  have b5 := h j u hj hu
  omega
/-! sums of PARTS -/
theorem psum_le (T : Trm) (D : Mx) (i j : Nat) : ∀ q, psum T D i j q ≤ 1000000000
  | 0 => by rw [psum]; omega
  | q + 1 => by rw [psum, pl_def]; omega
theorem psum_mono (T : Trm) {D E : Mx} (i j : Nat) : ∀ q, (∀ k, k < q → E (tP T i k) (tP T j k) ≤ D (tP T i k) (tP T j k)) → psum T E i j q ≤ psum T D i j q
  | 0, _ => Nat.le_refl _
  | q + 1, h => by
    have h1 := psum_mono T i j q (fun k hk => h k (by omega))
    have h2 := h q (by omega)
    rw [psum, psum, pl_def, pl_def]; omega
theorem psum_ext (T : Trm) {D E : Mx} (i j : Nat) (q : Nat) (h : ∀ k, k < q → E (tP T i k) (tP T j k) = D (tP T i k) (tP T j k)) : psum T E i j q = psum T D i j q :=
  Nat.le_antisymm (psum_mono T i j q (fun k hk => Nat.le_of_eq (h k hk))) (psum_mono T i j q (fun k hk => Nat.le_of_eq (h k hk).symm))
theorem psum_ge (T : Trm) (D : Mx) (i j : Nat) : ∀ q k, k < q → D (tP T i k) (tP T j k) ≤ 1000000000 → D (tP T i k) (tP T j k) ≤ psum T D i j q
  | 0, k, h, _ => absurd h (Nat.not_lt_zero k)
  | q + 1, k, h, h2 => by
    rw [psum, pl_def]
    by_cases e : k = q
    · subst e; omega
    · have := psum_ge T D i j q k (by omega) h2
      omega
theorem psum_sym (T : Trm) (D : Mx) (i j : Nat) : ∀ q, (∀ k, k < q → D (tP T i k) (tP T j k) = D (tP T j k) (tP T i k)) → psum T D i j q = psum T D j i q
  | 0, _ => rfl
  | q + 1, h => by rw [psum, psum, psum_sym T D i j q (fun k hk => h k (by omega)), h q (by omega)]
/-- a sum of numbers -/
def smN : Nat → (Nat → Nat) → Nat
  | 0, _ => 0
  | n + 1, f => smN n f + f n
theorem smN_le {f g : Nat → Nat} : ∀ n, (∀ k, k < n → f k ≤ g k) → smN n f ≤ smN n g
  | 0, _ => Nat.le_refl _
  | n + 1, h => by
    have h1 := smN_le n (fun k hk => h k (by omega))
    have h2 := h n (by omega)
    rw [smN, smN]; omega
theorem smN_lt {f g : Nat → Nat} : ∀ n, (∀ k, k < n → f k ≤ g k) → (∃ k, k < n ∧ f k < g k) → smN n f < smN n g
  | 0, _, h2 => by obtain ⟨k, hk, _⟩ := h2; omega
  | n + 1, h, h2 => by
    obtain ⟨k, hk, hlt⟩ := h2
    have h1 := smN_le n (fun k hk => h k (by omega))
    have h2 := h n (by omega)
    rw [smN, smN]
    by_cases e : k = n
    · subst e; omega
    · have := smN_lt n (fun k hk => h k (by omega)) ⟨k, by omega, hlt⟩
      omega
theorem smN_bd {f : Nat → Nat} {b : Nat} : ∀ n, (∀ k, k < n → f k ≤ b) → smN n f ≤ n * b
  | 0, _ => by rw [smN]; omega
  | n + 1, h => by
    have h1 := smN_bd n (fun k hk => h k (by omega))
    have h2 := h n (by omega)
    rw [smN, Nat.succ_mul]; omega
def sm2 (n : Nat) (F : Mx) : Nat := smN n (fun t => smN n (F t))
theorem sm2_le {n : Nat} {F G : Mx} (h : Und n F G) : sm2 n F ≤ sm2 n G := smN_le n (fun t ht => smN_le n (fun u hu => h t u ht hu))
theorem sm2_lt {n : Nat} {F G : Mx} (h : Und n F G) (h2 : ∃ t u, t < n ∧ u < n ∧ F t u < G t u) : sm2 n F < sm2 n G := by
  obtain ⟨t, u, ht, hu, hl⟩ := h2
  exact smN_lt n (fun t ht => smN_le n (fun u hu => h t u ht hu)) ⟨t, ht, smN_lt n (fun u hu => h t u ht hu) ⟨u, hu, hl⟩⟩
theorem sm2_bd {n b : Nat} {F : Mx} (h : ∀ t u, t < n → u < n → F t u ≤ b) : sm2 n F ≤ n * (n * b) := smN_bd n (fun t ht => smN_bd n (fun u hu => h t u ht hu))
/-- how many entries are above m -/
def phi (n : Nat) (M : Mx) (m : Nat) : Nat := sm2 n (fun t u => if m < M t u then 1 else 0)
theorem phi_bd (n : Nat) (M : Mx) (m : Nat) : phi n M m ≤ n * (n * 1) := sm2_bd (fun t u _ _ => by split <;> omega)
theorem phi_lt {n m m' : Nat} {M X : Mx} (h : Und n X M) (hm : m ≤ m') (h2 : ∃ t u, t < n ∧ u < n ∧ X t u = m' ∧ X t u < M t u) : phi n X m' < phi n M m := by
  obtain ⟨t, u, ht, hu, e, hl⟩ := h2
  refine sm2_lt (fun a b ha hb => ?_) ⟨t, u, ht, hu, ?_⟩
  · have := h a b ha hb
    by_cases z : m' < X a b
    · rw [if_pos z, if_pos (by omega)]; omega
    · rw [if_neg z]; omega
  · show (if m' < X t u then 1 else 0) < (if m < M t u then 1 else 0)
    rw [if_neg (by omega), if_pos (by omega)]; omega
/-- the least of what is there -/
theorem least_ex {P : Nat → Prop} (h : ∃ x, P x) : ∃ x, P x ∧ ∀ y, P y → x ≤ y := by
  obtain ⟨x, hx⟩ := h
  revert hx
  induction x using Nat.strongRecOn with
  | _ x ih =>
    intro hx
    by_cases z : ∃ y, y < x ∧ P y
    · obtain ⟨y, y1, y2⟩ := z
      exact ih y y1 y2
    · exact ⟨x, hx, fun y hy => Nat.le_of_not_lt (fun q => z ⟨y, q, hy⟩)⟩
theorem sol_tri {T : Trm} {S : Prs} {ld : Nat → Nat} {E : Mx} (h : Sol T S ld E) : Tri (tN T) E := ⟨fun t u ht hu => h.2.1 t u ht hu, fun t u v ht hu hv => by have := h.2.2.1 t u v ht hu hv; rw [pl_def] at this; omega⟩
theorem gsol_uniq {T : Trm} {S : Prs} {ld : Nat → Nat} {D E : Mx} (h : GSol T S ld D) (g : GSol T S ld E) : ∀ t u, t < tN T → u < tN T → D t u = E t u := fun t u ht hu => Nat.le_antisymm (g.2 D h.1 t u ht hu) (h.2 E g.1 t u ht hu)
theorem alk_sym {T : Trm} {ld : Nat → Nat} {i j : Nat} (h : alk T ld i j) : alk T ld j i := ⟨fun e => h.1 e.symm, h.2.1.symm, eqParts_iff.mpr (fun k hk => (eqParts_iff.mp h.2.2 k (by rw [h.2.1]; exact hk)).symm)⟩
theorem wt_le1 {T : Trm} {S : Prs} {ld : Nat → Nat} {E : Mx} {t u : Nat} (h : (t, u) ∈ S ∨ (u, t) ∈ S) : wt T S ld E t u ≤ 1 := by
  unfold wt
  rw [if_pos h]; exact Nat.min_le_left _ _
theorem wt_leP {T : Trm} {S : Prs} {ld : Nat → Nat} {E : Mx} {t u : Nat} (h : alk T ld t u) : wt T S ld E t u ≤ psm T E t u := by
  unfold wt
  refine Nat.le_trans (Nat.min_le_right _ _) ?_
  rw [if_pos h]; exact Nat.le_refl _
theorem wt_leN {T : Trm} {S : Prs} {ld : Nat → Nat} {E : Mx} {t u : Nat} : wt T S ld E t u ≤ 1000000001 := by
  unfold wt
  refine Nat.le_trans (Nat.min_le_left _ _) ?_
  split
  · omega
  · exact Nat.le_refl _
theorem le_wt {T : Trm} {S : Prs} {ld : Nat → Nat} {E : Mx} {t u x : Nat} (h1 : (t, u) ∈ S ∨ (u, t) ∈ S → x ≤ 1) (h2 : alk T ld t u → x ≤ psm T E t u) (h3 : x ≤ 1000000001) : x ≤ wt T S ld E t u := by
  unfold wt
  refine Nat.le_min.mpr ⟨?_, ?_⟩
  · split
    · exact h1 (by assumption)
    · exact h3
  · split
    · exact h2 (by assumption)
    · exact h3
theorem wt_congr {T : Trm} {S : Prs} {ld : Nat → Nat} {D E : Mx} {t u : Nat} (hT : TOK T) (ht : t < tN T) (hu : u < tN T) (h : ∀ a b, a < tN T → b < tN T → D a b = E a b) : wt T S ld D t u = wt T S ld E t u := by
  have key : ∀ D E : Mx, (∀ a b, a < tN T → b < tN T → D a b = E a b) → wt T S ld D t u ≤ wt T S ld E t u := fun D E h => le_wt wt_le1 (fun ha => by
    rw [← show psm T D t u = psm T E t u from psum_ext T t u _ (fun k hk => h _ _ (by have := hT t ht k hk; omega) (by have := hT u hu k (by rw [← ha.2.1]; exact hk); omega))]
    exact wt_leP ha) wt_leN
  exact Nat.le_antisymm (key D E h) (key E D (fun a b ha hb => (h a b ha hb).symm))
