/-! least sets -/
noncomputable def bst (P : Nat → Prop) : Nat → Option Nat
  | 0 => none
  | q + 1 => match bst P q with
    | none => @ite _ (P q) (Classical.propDecidable _) (some q) none
    | some b => @ite _ (pop q < pop b ∧ P q) (Classical.propDecidable _) (some q) (some b)
def IsMin (P : Nat → Prop) (K b : Nat) : Prop := b < K ∧ P b ∧ ∀ x, x < K → P x → pop b < pop x ∨ (pop b = pop x ∧ b ≤ x)
theorem IsMin.uniq {P : Nat → Prop} {K a b : Nat} (h1 : IsMin P K a) (h2 : IsMin P K b) : a = b := by
  have := h1.2.2 b h2.1 h2.2.1
  have := h2.2.2 a h1.1 h1.2.1
  omega
theorem bst_spec (P : Nat → Prop) : ∀ q, match bst P q with
    | none => ∀ x, x < q → ¬ P x
    | some b => IsMin P q b
  | 0 => fun x hx => absurd hx (Nat.not_lt_zero x)
  | q + 1 => by
    have ih := bst_spec P q
    cases hb : bst P q with
    | none =>
      rw [hb] at ih
      by_cases z : P q
      · have e : bst P (q + 1) = some q := by rw [bst, hb]; exact if_pos z
        rw [e]
        refine ⟨by omega, z, fun x hx hP => ?_⟩
        by_cases y : x = q
        · subst y; exact Or.inr ⟨rfl, Nat.le_refl _⟩
        · exact absurd hP (ih x (by omega))
      · have e : bst P (q + 1) = none := by rw [bst, hb]; exact if_neg z
        rw [e]
        intro x hx hP
        by_cases y : x = q
        · subst y; exact z hP
        · exact ih x (by omega) hP
    | some b =>
      rw [hb] at ih
      obtain ⟨i1, i2, i3⟩ := ih
      by_cases z : pop q < pop b ∧ P q
      · have e : bst P (q + 1) = some q := by rw [bst, hb]; exact if_pos z
        rw [e]
        refine ⟨by omega, z.2, fun x hx hP => ?_⟩
        by_cases y : x = q
        · subst y; exact Or.inr ⟨rfl, Nat.le_refl _⟩
        · have := i3 x (by omega) hP
          omega
      · have e : bst P (q + 1) = some b := by rw [bst, hb]; exact if_neg z
        rw [e]
        refine ⟨by omega, i2, fun x hx hP => ?_⟩
        by_cases y : x = q
        · subst y
          have : ¬ pop x < pop b := fun w => z ⟨w, hP⟩
          omega
        · exact i3 x (by omega) hP
theorem bst_n {P : Nat → Prop} {q : Nat} (hb : bst P q = none) (h : P q) : bst P (q + 1) = some q := by rw [bst, hb]; exact if_pos h
theorem bst_nn {P : Nat → Prop} {q : Nat} (hb : bst P q = none) (h : ¬ P q) : bst P (q + 1) = none := by rw [bst, hb]; exact if_neg h
theorem bst_s {P : Nat → Prop} {q b : Nat} (hb : bst P q = some b) (h : pop q < pop b ∧ P q) : bst P (q + 1) = some q := by rw [bst, hb]; exact if_pos h
theorem bst_sn {P : Nat → Prop} {q b : Nat} (hb : bst P q = some b) (h : ¬ (pop q < pop b ∧ P q)) : bst P (q + 1) = some b := by rw [bst, hb]; exact if_neg h
theorem bst_lt {P : Nat → Prop} {q b : Nat} (hb : bst P q = some b) : b < q := by
  have := bst_spec P q
  rw [hb] at this
  exact this.1
theorem ct_cut {p : Nat → Bool} {m n : Nat} (h : m ≤ n) (h0 : ∀ k, m ≤ k → k < n → p k = false) : fb_ct p n = fb_ct p m := by
  have := fb_ct_split p m (n - m)
  rw [show m + (n - m) = n by omega] at this
  have h2 : fb_ct (fun k => p (m + k)) (n - m) = 0 := fb_ct_zero.mpr (fun k hk => h0 (m + k) (by omega) (by omega))
  omega
/-- picks: they go up, below b -/
def PkOK (pk : List Nat) (b : Nat) : Prop := ∀ (i j p q : Nat), i < j → pk[i]? = some p → pk[j]? = some q → p < q ∧ q < b
def PkB (pk : List Nat) (b : Nat) : Prop := ∀ k p : Nat, pk[k]? = some p → p < b
theorem ex_lt {pk : List Nat} {s b : Nat} : ∀ q, (∀ k p : Nat, k < q → pk[k]? = some p → p < b) → ex pk s q < 2 ^ b
  | 0, _ => by rw [ex]; exact Nat.two_pow_pos b
  | q + 1, h => by
    have ih := ex_lt (pk := pk) (s := s) q (fun k p hk hp => h k p (by omega) hp)
    rw [ex]
    cases hp : pk[q]? with
    | none => exact ih
    | some p =>
      show (if s.testBit q = true then ex pk s q ||| 2 ^ p else ex pk s q) < 2 ^ b
      split
      · exact Nat.or_lt_two_pow ih (p2lt (h q p (by omega) hp))
      · exact ih
theorem ex_congr {pk : List Nat} {s s' : Nat} : ∀ q, (∀ k, k < q → s.testBit k = s'.testBit k) → ex pk s q = ex pk s' q
  | 0, _ => rfl
  | q + 1, h => by rw [ex, ex, ex_congr q (fun k hk => h k (by omega)), h q (by omega)]
theorem ex_pop {pk : List Nat} {s b : Nat} (hb : b ≤ 24) (hB : PkB pk b) (hO : PkOK pk b) : ∀ q, q ≤ pk.length → pop (ex pk s q) = fb_ct (fun i => s.testBit i) q
  | 0, _ => by rw [ex]; show pop 0 = 0; decide
  | q + 1, h => by
    have ih := ex_pop (s := s) hb hB hO q (by omega)
    obtain ⟨p, hp⟩ := get_at pk (q := q) (by omega)
    have hpb := hB q p hp
    rw [ex, hp]
    show pop (if s.testBit q = true then ex pk s q ||| 2 ^ p else ex pk s q) = _
    by_cases z : s.testBit q = true
    · rw [if_pos z, pop_or (by omega), if_neg (fun y => by
        obtain ⟨k, k1, k2, k3⟩ := (ex_bit q).mp y
        have := (hO k q p p k1 k3 hp).1
        omega), ih, ct_t (p := fun i => s.testBit i) z]
    · rw [if_neg z, ih, ct_f (p := fun i => s.testBit i) z]
theorem exS_pop {pk : List Nat} {s b : Nat} (hb : b ≤ 24) (hB : PkB pk b) (hO : PkOK pk b) (hl : pk.length ≤ 24) (hs : s < 2 ^ pk.length) : pop (exS pk s) = pop s := by
  unfold exS
  rw [ex_pop hb hB hO pk.length (Nat.le_refl _)]
  unfold pop
  exact (ct_cut hl (fun k hk _ => Nat.testBit_lt_two_pow (Nat.lt_of_lt_of_le hs (p2le hk)))).symm
theorem ex_strict {pk : List Nat} {b : Nat} (hO : PkOK pk b) : ∀ q, q ≤ pk.length → ∀ s s', s < s' → s' < 2 ^ q → ex pk s q < ex pk s' q
  | 0, _, s, s', h1, h2 => by rw [Nat.pow_zero] at h2; omega
  | q + 1, h, s, s', h1, h2 => by
    obtain ⟨p, hp⟩ := get_at pk (q := q) (by omega)
    have h2q : 2 ^ (q + 1) = 2 ^ q + 2 ^ q := by rw [Nat.pow_succ]; omega
    have hpq := Nat.two_pow_pos q
    have hlow : ∀ x, ex pk x q < 2 ^ p := fun x => ex_lt q (fun k p' hk hp' => (hO k q p' p hk hp' hp).1)
    have bit : ∀ x, x < 2 ^ (q + 1) → (x.testBit q = true ↔ 2 ^ q ≤ x) := by
      intro x hx
      constructor
      · intro z
        apply Nat.le_of_not_lt
        intro y
        rw [Nat.testBit_lt_two_pow y] at z
        cases z
      · intro z
        have e : x = 2 ^ q + (x - 2 ^ q) := by omega
        rw [e, Nat.testBit_two_pow_add_eq, Nat.testBit_lt_two_pow (by omega)]
        rfl
    have low : ∀ x, 2 ^ q ≤ x → x < 2 ^ (q + 1) → ex pk x q = ex pk (x - 2 ^ q) q := by
      intro x hx1 hx2
      refine ex_congr q (fun k hk => ?_)
      have e : x = 2 ^ q * 1 + (x - 2 ^ q) := by omega
      rw [e, Nat.testBit_two_pow_mul_add 1 (by omega), if_pos hk]
      congr 1
      omega
    have orp : ∀ x, ex pk x q ||| 2 ^ p = 2 ^ p + ex pk x q := by
      intro x
      have := Nat.two_pow_add_eq_or_of_lt (hlow x) 1
      rw [Nat.mul_one] at this
      rw [this, Nat.or_comm]
    rw [ex, ex, hp]
    show (if s.testBit q = true then ex pk s q ||| 2 ^ p else ex pk s q) < (if s'.testBit q = true then ex pk s' q ||| 2 ^ p else ex pk s' q)
    by_cases z' : s'.testBit q = true
    · rw [if_pos z', orp s']
      have y' := (bit s' h2).mp z'
      by_cases z : s.testBit q = true
      · have y := (bit s (by omega)).mp z
        rw [if_pos z, orp s, low s y (by omega), low s' y' h2]
        have := ex_strict hO q (by omega) (s - 2 ^ q) (s' - 2 ^ q) (by omega) (by omega)
        omega
      · rw [if_neg z]
        have := hlow s
        omega
    · rw [if_neg z']
      have y' : ¬ 2 ^ q ≤ s' := fun w => z' ((bit s' h2).mpr w)
      have z : ¬ s.testBit q = true := fun w => by have := (bit s (by omega)).mp w; omega
      rw [if_neg z]
      exact ex_strict hO q (by omega) s s' h1 (by omega)
theorem exS_strict {pk : List Nat} {b s s' : Nat} (hO : PkOK pk b) (h : s < s') (h2 : s' < 2 ^ pk.length) : exS pk s < exS pk s' := ex_strict hO pk.length (Nat.le_refl _) s s' h h2
/-- a set all of whose bits are picked is a set of picked ones -/
theorem exS_onto {pk : List Nat} {B : Nat} (h : ∀ x, B.testBit x = true → ∃ k : Nat, pk[k]? = some x) : ∃ s, s < 2 ^ pk.length ∧ exS pk s = B := by
  have key : ∀ q, q ≤ pk.length → ∃ s, s < 2 ^ q ∧ ∀ k p : Nat, k < q → pk[k]? = some p → (s.testBit k = true ↔ B.testBit p = true) := by
    intro q
    induction q with
    | zero => intro _; exact ⟨0, by rw [Nat.pow_zero]; omega, fun k p hk => absurd hk (Nat.not_lt_zero k)⟩
    | succ q ih =>
      intro hq
      obtain ⟨s, s1, s2⟩ := ih (by omega)
      obtain ⟨p, hp⟩ := get_at pk (q := q) (by omega)
      by_cases z : B.testBit p = true
      · refine ⟨s ||| 2 ^ q, Nat.or_lt_two_pow (Nat.lt_of_lt_of_le s1 (p2le (by omega))) (p2lt (by omega)), fun k p' hk hp' => ?_⟩
        rw [or_bit, Bool.or_eq_true, decide_eq_true_iff]
        by_cases e : k = q
        · subst e
          rw [hp] at hp'
          obtain rfl := Option.some.inj hp'
          exact ⟨fun _ => z, fun _ => Or.inr rfl⟩
        · rw [s2 k p' (by omega) hp']
          exact ⟨fun w => w.elim id (fun w => absurd w e), Or.inl⟩
      · refine ⟨s, Nat.lt_of_lt_of_le s1 (p2le (by omega)), fun k p' hk hp' => ?_⟩
        by_cases e : k = q
        · subst e
          rw [hp] at hp'
          obtain rfl := Option.some.inj hp'
          rw [Nat.testBit_lt_two_pow s1]
          exact ⟨fun w => Bool.noConfusion w, fun w => absurd w z⟩
        · exact s2 k p' (by omega) hp'
  obtain ⟨s, s1, s2⟩ := key pk.length (Nat.le_refl _)
  refine ⟨s, s1, Nat.eq_of_testBit_eq (fun x => ?_)⟩
  have hiff : (exS pk s).testBit x = true ↔ B.testBit x = true := by
    rw [exS_bit]
    constructor
    · rintro ⟨k, k1, k2⟩; exact (s2 k x (List.getElem?_eq_some_iff.mp k2).1 k2).mp k1
    · intro hx
      obtain ⟨k, hk⟩ := h x hx
      exact ⟨k, (s2 k x (List.getElem?_eq_some_iff.mp hk).1 hk).mpr hx, hk⟩
  cases h1 : (exS pk s).testBit x <;> cases h2 : B.testBit x <;> simp_all
theorem exS_clr {pk : List Nat} {b s k p : Nat} (hO : PkOK pk b) (hp : pk[k]? = some p) : exS pk (clr s k) = clr (exS pk s) p := by
  apply Nat.eq_of_testBit_eq
  intro x
  have hinj : ∀ i : Nat, pk[i]? = some p → i = k := by
    intro i hi
    rcases Nat.lt_trichotomy i k with q | q | q
    · have := (hO i k p p q hi hp).1; omega
    · exact q
    · have := (hO k i p p q hp hi).1; omega
  have hiff : (exS pk (clr s k)).testBit x = true ↔ (clr (exS pk s) p).testBit x = true := by
    rw [exS_bit, clr_bit, Bool.and_eq_true, exS_bit]
    constructor
    · rintro ⟨i, i1, i2⟩
      rw [clr_bit, Bool.and_eq_true] at i1
      refine ⟨⟨i, i1.1, i2⟩, ?_⟩
      by_cases e : x = p
      · subst e
        have := hinj i i2
        subst this
        simp at i1
      · rw [decide_eq_false e]; rfl
    · rintro ⟨⟨i, i1, i2⟩, i3⟩
      refine ⟨i, ?_, i2⟩
      rw [clr_bit, i1]
      by_cases e : i = k
      · subst e
        rw [hp] at i2
        obtain rfl := Option.some.inj i2
        simp at i3
      · rw [decide_eq_false e]; rfl
  cases h1 : (exS pk (clr s k)).testBit x <;> cases h2 : (clr (exS pk s) p).testBit x <;> simp_all
/-- counting through a map that goes up -/
theorem ct_map {f : Nat → Nat} {p : Nat → Bool} : ∀ (M K : Nat), (∀ i j, i < j → j < M → f i < f j) → (∀ i, i < M → f i < K) → (∀ x, x < K → p x = true → ∃ i, i < M ∧ f i = x) → fb_ct p K = fb_ct (fun i => p (f i)) M
  | 0, K, _, _, h => fb_ct_zero.mpr (fun k hk => by
      cases hp : p k with
      | false => rfl
      | true => obtain ⟨i, hi, _⟩ := h k hk hp; exact absurd hi (Nat.not_lt_zero i))
  | M + 1, K, h1, h2, h3 => by
    have ih := ct_map M (f M) (fun i j hij hj => h1 i j hij (by omega)) (fun i hi => h1 i M hi (by omega)) (fun x hx hp => by
      obtain ⟨i, hi, e⟩ := h3 x (by have := h2 M (by omega); omega) hp
      refine ⟨i, ?_, e⟩
      by_cases q : i = M
      · subst q; omega
      · omega) (p := p)
    have hK := h2 M (by omega)
    have e1 : fb_ct p K = fb_ct p (f M + 1) := ct_cut (by omega) (fun k hk1 hk2 => by
      cases hp : p k with
      | false => rfl
      | true =>
        obtain ⟨i, hi, e⟩ := h3 k hk2 hp
        by_cases q : i = M
        · subst q; omega
        · have := h1 i M (by omega) (by omega)
          omega)
    rw [e1, fb_ct_succ, ih, fb_ct_succ]
/-- the picks of pkL -/
theorem pkL_mem {S : Prs} {ld : Nat → Nat} {L p i j : Nat} (hp : S[p]? = some (i, j)) (hz : L.testBit (ld i) = true) : ∃ k : Nat, (pkL S ld L S.length)[k]? = some p := by
  have hl := (List.getElem?_eq_some_iff.mp hp).1
  have : p ∈ pkL S ld L S.length := by
    unfold pkL
    rw [List.mem_filter, List.mem_range]
    refine ⟨hl, ?_⟩
    rw [hp]
    exact hz
  exact List.getElem?_of_mem this
theorem pkL_ok {S : Prs} {ld : Nat → Nat} {L : Nat} : ∀ q, q ≤ S.length → PkB (pkL S ld L q) q ∧ PkOK (pkL S ld L q) q
  | 0, _ => ⟨fun k p h => by simp [pkL] at h, fun i j p q _ h => by simp [pkL] at h⟩
  | q + 1, hq => by
    obtain ⟨h1, h2⟩ := pkL_ok (S := S) (ld := ld) (L := L) q (by omega)
    obtain ⟨⟨i, j⟩, hp⟩ := get_at S (q := q) (by omega)
    rw [pkL_succ hp]
    by_cases z : L.testBit (ld i) = true
    · rw [if_pos z]
      refine ⟨fun k p hk => ?_, fun a b p r hab ha hb => ?_⟩
      · rcases get_snoc hk with ⟨g1, g2⟩ | ⟨g1, g2⟩
        · have := h1 k p g2; omega
        · omega
      · rcases get_snoc hb with ⟨g1, g2⟩ | ⟨g1, g2⟩
        · rcases get_snoc ha with ⟨k1, k2⟩ | ⟨k1, k2⟩
          · have := h2 a b p r hab k2 g2; omega
          · omega
        · rcases get_snoc ha with ⟨k1, k2⟩ | ⟨k1, k2⟩
          · have := h1 a p k2; omega
          · omega
    · rw [if_neg z, List.append_nil]
      exact ⟨fun k p hk => by have := h1 k p hk; omega, fun a b p r hab ha hb => by have := h2 a b p r hab ha hb; omega⟩
/-- what stands as a search begins: the picks, the row of them all closed by none -/
def Bg (w : Mem) (T : Trm) (S : Prs) (pk : List Nat) (t u : Nat) : Prop := gF w 4 3 0 = nI pk.length ∧ PKw w pk t u ∧ PkB pk S.length ∧ PkOK pk S.length ∧ pk.length ≤ 12 ∧ GS w (4 + pk.length) (tN T) (ldE T (Pk S (exS pk 0))) ∧ ∀ B, By T S B t u → ∃ s, s < 2 ^ pk.length ∧ By T S (exS pk s) t u ∧ ∀ k, (exS pk s).testBit k = true → B.testBit k = true
theorem begin_ok {N f nf t u : Nat} {tk : Nat → Nat} {R A : List Row} {NL : List (List Nat)} {tp : List Nat} {wx w : Mem} (hN : 5000 < N) (h : RelX wx f nf tk R A NL tp) (hCI : CI tk nf (run tk c0 (R ++ A))) (ht : t < tN (cT tk R A)) (hu : u < tN (cT tk R A)) (hw : KX wx w) : ∃ w' pk, f_X4_begin N w f (nI t) (nI u) = some w' ∧ KX wx w' ∧ (∀ j, gF w' 8 j 0 = gF w 8 j 0) ∧ Bg w' (cT tk R A) (cSs tk R A) pk t u := by
  have hTO : TOK (cT tk R A) := h.2.1.1.1.2.1
  have hs12 : (cSs tk R A).length ≤ 12 := h.2.1.2.1.1
  let w0 : Mem := sF (sF w 4 4 0 (nI t)) 4 5 0 (nI u)
  have hw0 : Fr (fun k j i => k = 4 ∧ (j = 4 ∨ j = 5) ∧ i = 0) (fun _ _ => False) w w0 := ⟨fun k j i z => by show gF (sF (sF _ _ _ _ _) _ _ _ _) _ _ _ = _; rw [gF_sF, if_neg (fun y => z ⟨y.1, Or.inr y.2.1, y.2.2⟩), gF_sF, if_neg (fun y => z ⟨y.1, Or.inl y.2.1, y.2.2⟩)], fun _ _ _ => rfl, fun _ _ => rfl, fun _ _ _ => rfl⟩
  have kx0 : KX w w0 := hw0.kx (fun k j i z => by omega) (fun k i z => z.elim)
  have e44 : gF w0 4 4 0 = nI t := by show gF (sF (sF _ _ _ _ _) _ _ _ _) _ _ _ = _; rw [gF_sF, if_neg (by omega), gF_sF, if_pos ⟨rfl, rfl, rfl⟩]
  have e45 : gF w0 4 5 0 = nI u := by show gF (sF (sF _ _ _ _ _) _ _ _ _) _ _ _ = _; rw [gF_sF, if_pos ⟨rfl, rfl, rfl⟩]
  obtain ⟨w1, L, a1, a2, a3, a4, a5, a6⟩ := pick_ok hN h ht (hw.tr kx0) e44
  have kx1 : KX w0 w1 := a6.kx (fun k j i z => by omega) (fun k i z => by omega)
  generalize hpkdef : pkL (cSs tk R A) (ldJ (cJ (run tk c0 (R ++ A)))) L (cSs tk R A).length = pk at a4 a5
  have hpl0 := pkL_len (cSs tk R A) (ldJ (cJ (run tk c0 (R ++ A)))) L (cSs tk R A).length
  rw [hpkdef] at hpl0
  have hpl : pk.length ≤ 12 := by omega
  have hok := pkL_ok (S := cSs tk R A) (ld := ldJ (cJ (run tk c0 (R ++ A)))) (L := L) (cSs tk R A).length (Nat.le_refl _)
  rw [hpkdef] at hok
  have kxw2 : KX wx w1 := (hw.tr kx0).tr kx1
  have hX2 := h.kx kxw2
  -- nothing picked
  obtain ⟨w3, ld3, d1, d2, d3, d4⟩ := closeBy_ok (g := 4 + pk.length) (b := 0) (N := N) (by omega) (by omega) hX2.2.1.1.1 hX2.2.1.2.1
  have kx3 : KX w1 w3 := d4.kx (fun k j i z => by omega) (fun k i z => by omega)
  have hE0 : Pk (cSs tk R A) 0 = Pk (cSs tk R A) (exS pk 0) := by
    funext x; funext y
    apply propext
    rw [pk_ex]
    constructor
    · rintro ⟨p, h1, h2⟩; rw [Nat.zero_testBit] at h1; cases h1
    · rintro ⟨k, p, h1, h2, h3⟩; rw [Nat.zero_testBit] at h1; cases h1
  rw [hE0] at d3
  have hG3 := d2.toE hTO d3
  have hPK : PKw w3 pk t u := by
    refine ⟨?_, ?_, fun k p hp => ?_⟩
    · rw [d4.1 4 4 0 (fun z => by omega), a6.1 4 4 0 (fun z => by omega)]; exact e44
    · rw [d4.1 4 5 0 (fun z => by omega), a6.1 4 5 0 (fun z => by omega)]; exact e45
    · rw [d4.2.1 27 0 (fun z => by omega)]; exact a5 k p hp
  have e3 : gF w3 4 3 0 = nI pk.length := by rw [d4.1 4 3 0 (fun z => by omega)]; exact a4
  refine ⟨w3, pk, ?_, kxw2.tr kx3, fun j => ?_, e3, hPK, hok.1, hok.2, hpl, hG3, fun B hB => ?_⟩
  · have a1' : f_X4_pickBearing N (sF (sF w 4 4 0 (nI t)) 4 5 0 (nI u)) f = some w1 := a1
    rw [f_X4_begin, a1']
    simp (disch := omega) only [↓lm1, ↓lm2, eq_n1, eq_n2, n1_eq, n2_eq, n1_n2, n2_n1, n1_lt, n2_lt, n1_le, lt_n1, lt_n2, inb_t, cl_t, le_tt, le_tf, lt_tt, lt_tf, eq_tt, eq_tf, q_add, q_mul, li0, li1, li2, li3, li4, li5, li6, li7, li8, li12, li16, li24, li48, li500, gF_sA, gA_sF, gF_sF, gR_sA, gR_sF, gL_sA, gL_sF, gA_sA, shl_t, or_t, and_t, sbit_t, ubit_t, b01_0, b01_1, Option.bind_some, ↓reduceIte, eq_self, ne_eq, not_true_eq_false, Bool.false_eq_true, not_false_eq_true, true_and, and_true, false_and, and_false, if_pos, if_neg, a4, d1]
  · rw [d4.1 8 j 0 (fun z => by omega), a6.1 8 j 0 (fun z => by omega), hw0.1 8 j 0 (fun z => by omega)]
  · obtain ⟨s, s1, s2⟩ := exS_onto (pk := pk) (B := B &&& exS pk (full pk.length)) (fun x hx => by
      rw [Nat.testBit_and, Bool.and_eq_true] at hx
      obtain ⟨k, _, hk⟩ := exS_bit.mp hx.2
      exact ⟨k, hk⟩)
    refine ⟨s, s1, ?_, fun k hk => by rw [s2, Nat.testBit_and, Bool.and_eq_true] at hk; exact hk.1⟩
    rw [s2]
    refine bear hTO hCI.2.2.1.2 hCI.2.1 a2 ht hu a3 (fun k i j hk hS hz => ?_) hB
    rw [Nat.testBit_and, hk, Bool.true_and]
    obtain ⟨q, hq⟩ := pkL_mem (ld := ldJ (cJ (run tk c0 (R ++ A)))) (L := L) hS hz
    rw [hpkdef] at hq
    exact exS_bit.mpr ⟨q, by rw [full_bit]; exact decide_eq_true (List.getElem?_eq_some_iff.mp hq).1, hq⟩
