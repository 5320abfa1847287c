/-! without, would, since -/
theorem oI_c {o : Option Nat} : oI o = match o with | some z => nI z | none => n2 := rfl
theorem fcX {N f n : Nat} {w : Mem} {ld : Nat → Nat} {Q : Prs} {g : Nat} (hQ : DS w f n Q) (hG : GS w g n ld) (hN : 8 < N) : f_X1_firstClash N w f g = some (oI (fcl ld Q)) := firstClash_ok hQ hG hN
/-- the sames, and one of t and u -/
def Ew (S : Prs) (t u : Nat) : Nat → Nat → Prop := fun x y => inS S x y ∨ (x = t ∧ y = u)
theorem pk_with {S : Prs} {t u : Nat} : Pk (S ++ [(t, u)]) (full (S.length + 1)) = Ew S t u := by
  funext i; funext j
  apply propext
  have := pk_full (S := S ++ [(t, u)]) i j
  rw [List.length_append] at this
  refine this.trans ?_
  constructor
  · intro h
    rcases List.mem_append.mp h with q | q
    · exact Or.inl q
    · obtain ⟨rfl, rfl⟩ := Prod.mk.inj (List.mem_singleton.mp q)
      exact Or.inr ⟨rfl, rfl⟩
  · rintro (q | ⟨rfl, rfl⟩)
    · exact List.mem_append_left _ q
    · exact List.mem_append_right _ List.mem_cons_self
theorem full_or (s : Nat) : full s ||| 2 ^ s = full (s + 1) := by
  apply Nat.eq_of_testBit_eq
  intro i
  rw [or_bit, full_bit, full_bit]
  by_cases e : i = s
  · subst e; simp
  · rw [decide_eq_false e, Bool.or_false]
    by_cases h : i < s
    · rw [decide_eq_true h, decide_eq_true (by omega)]
    · rw [decide_eq_false h, decide_eq_false (by omega)]
theorem suppose_ok {N f nf t u : Nat} {tk : Nat → Nat} {R A : List Row} {NL : List (List Nat)} {tp : List Nat} {w : Mem} (hN : 276 < N) (h : RelX w f nf tk R A NL tp) (hCI : CI tk nf (run tk c0 (R ++ A))) (ht : t < (cL (run tk c0 (R ++ A))).length) (hu : u < (cL (run tk c0 (R ++ A))).length) : ∃ w1 w2, f_X3_copyFrom N w 0 (2 + f) = some w1 ∧ f_X1_supposeSame N w1 f (nI t) (nI u) 0 = some w2 ∧ KX w w1 ∧ KX w w2 ∧ GS w1 0 (cL (run tk c0 (R ++ A))).length (ldJ (cJ (run tk c0 (R ++ A)))) ∧ GS w2 0 (cL (run tk c0 (R ++ A))).length (ldE (cT tk R A) (Ew (cSs tk R A) t u)) := by
  obtain ⟨w1, a1, a2, a3⟩ := copyFrom_ok h.2.1.1.2.1 N (g := 0) (by omega)
  have k1 : KX w w1 := a3.kx (fun k j i z => by omega) (fun k i z => by omega)
  have h1 := h.kx k1
  obtain ⟨w2, ld', b1, b2, b3, b4⟩ := supposeSame_ok (E := inS (cSs tk R A)) hN h1.2.1.1.1 a2 hCI.2.1 (fun i j hij => hCI.2.2.1.2 i j hij) ht hu
  exact ⟨w1, w2, a1, b1, k1, k1.tr (b4.kx (fun k j i z => by omega) (fun k i z => by omega)), a2, b2.toE h.2.1.1.1.2.1 b3⟩
theorem pk_first {S : Prs} {k i j : Nat} : Pk S (full k) i j ↔ ∃ p, p < k ∧ S[p]? = some (i, j) := by
  constructor
  · rintro ⟨p, h1, h2⟩
    rw [full_bit] at h1
    exact ⟨p, of_decide_eq_true h1, h2⟩
  · rintro ⟨p, h1, h2⟩
    exact ⟨p, by rw [full_bit]; exact decide_eq_true h1, h2⟩
