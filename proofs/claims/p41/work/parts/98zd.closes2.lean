/-! Told.closes: it comes to its end -/
def CLS (n : Nat) (T : Trm) (E : Nat → Nat → Prop) (d : Nat → Nat) : Prop := (∀ i j, E i j → d i = d j) ∧ ∀ R, Congr T R → (∀ i j, E i j → R i j) → Jst n d R
theorem alikeR_symm {T : Trm} {d : Nat → Nat} {i j : Nat} (h : alikeR T (fun x y => d x = d y) i j) : alikeR T (fun x y => d x = d y) j i := ⟨h.1.symm, fun k hk => (h.2 k (by rw [h.1]; exact hk)).symm⟩
/-- what a pass has seen: nothing new, or fewer groups -/
def PSS (L : Tl) (t q : Nat) (d0 d : Nat → Nat) (m : Int32) : Prop :=
  (m = nI 0 ∧ d = d0 ∧ ∀ t' u', (t' < t ∨ (t' = t ∧ u' < q)) → u' < t' → alikeR (mkT tk5 L) (fun x y => d0 x = d0 y) t' u' → d0 t' = d0 u') ∨ (m = nI 1 ∧ cntG L.length d < cntG L.length d0)
section CLO9
variable {N a : Nat} {w : Mem} {L : Tl} {S : Prs} {E : Nat → Nat → Prop}
theorem pass85 {w0 v0 : Mem} {t : Nat} {d0 d1 : Nat → Nat} {m0 : Int32} (k : Mem → Int32 → Option Mem) (hN : 40 < N) (hL : LO9 L) (h9 : gF w0 9 5 0 = nI L.length) (hT : TDm w0 L S) (ht : t < L.length) (hF0 : Fr45 w0 v0) (hQ0 : QC L.length v0 d1) (hC0 : CLS L.length (mkT tk5 L) E d1) (hP0 : PSS L t 0 d0 d1 m0) :
    ∃ v d m, lp_X10_closes_85 k N (nI t) N v0 m0 (nI 0) = k v m ∧ Fr45 w0 v ∧ QC L.length v d ∧ CLS L.length (mkT tk5 L) E d ∧ PSS L (t + 1) 0 d0 d m := by
  have hl9 := hL.1
  let J : Nat → Mem × Int32 → Prop := fun q s => ∃ d, Fr45 w0 s.1 ∧ QC L.length s.1 d ∧ CLS L.length (mkT tk5 L) E d ∧ PSS L t q d0 d s.2
  obtain ⟨s, ⟨d, j1, j2, j3, j4⟩, e⟩ := lpc t (fun f (s : Mem × Int32) q => lp_X10_closes_85 k N (nI t) f s.1 s.2 q) (fun s => k s.1 s.2) J (fun f s _ => by
    show lp_X10_closes_85 k N (nI t) (f + 1) s.1 s.2 (nI t) = _
    rw [lp_X10_closes_85]
    exact oit (nI_le (Nat.le_refl t) (by omega)) rfl) (fun f q s hq ⟨d, j1, j2, j3, j4⟩ => by
    have hct : (nI t).toNatClampNeg = t := nI_clamp (by omega)
    have hcq : (nI q).toNatClampNeg = q := nI_clamp (by omega)
    have hit : inb (nI t) 12 = true := inb_nI (by omega) (by omega)
    have hiq : inb (nI q) 12 = true := inb_nI (by omega) (by omega)
    have e1 : nI q + (1 : Int32) = nI (q + 1) := nI1 q
    have dt := (j2.1 t ht).1
    have dq := (j2.1 q (by omega)).1
    have more : (alikeR (mkT tk5 L) (fun x y => d x = d y) t q → d t = d q) → PSS L t (q + 1) d0 d s.2 := fun hh => by
      rcases j4 with ⟨m1, m2, m3⟩ | h
      · subst m2
        refine Or.inl ⟨m1, rfl, fun t' u' h1 h2 h3 => ?_⟩
        by_cases z : t' = t ∧ u' = q
        · obtain ⟨rfl, rfl⟩ := z; exact hh h3
        · exact m3 t' u' (by omega) h2 h3
      · exact Or.inr h
    by_cases z : d t = d q
    · refine ⟨s, ⟨d, j1, j2, j3, more (fun _ => z)⟩, ?_⟩
      show lp_X10_closes_85 k N (nI t) (f + 1) s.1 s.2 (nI q) = _
      rw [lp_X10_closes_85]
      refine oie (nI_ge hq (by omega)) (oit hit (oit hiq ?_))
      rw [hct, hcq, j2.2 t ht, j2.2 q (by omega), e1]
      exact oit (by rw [z]) rfl
    · have nz : ¬ nI (d t) = nI (d q) := fun z2 => z ((nI_inj_iff (by omega) (by omega)).mp z2)
      have ea := alike9 (N := N) (w := s.1) (S := S) hL (hT.f45 j1) j2 ht (show q < L.length by omega)
      by_cases al : alikeR (mkT tk5 L) (fun x y => d x = d y) t q
      · rw [b01_t al] at ea
        obtain ⟨v, u1, u2, u3⟩ := unites_ok (N := N) (w := s.1) (by omega) (show L.length ≤ 12 by omega) ((j1.1 9 5 0 (fun z => z)).trans h9) j2 ht (show q < L.length by omega)
        refine ⟨(v, nI 1), ⟨un d t q, j1.tr u3, u2, ⟨fun i j h => un_iff.mpr (Or.inl (j3.1 i j h)), fun R hR hE => jst_un (T := mkT tk5 L) hR (j3.2 R hR hE) ht (show q < L.length by omega) ?_⟩, Or.inr ⟨rfl, ?_⟩⟩, ?_⟩
        · exact hR.2.2.2 t q ht (show q < L.length by omega) ⟨al.1, fun k hk => by
            have b1 := hL.tok t ht k hk
            have b2 := hL.tok q (show q < L.length by omega) k (by rw [← al.1]; exact hk)
            exact j3.2 R hR hE _ _ (Nat.lt_trans b1 ht) (by omega) (al.2 k hk)⟩
        · have c1 := cnt_un j2.1 ht (show q < L.length by omega) z
          rcases j4 with ⟨-, m2, -⟩ | ⟨-, h⟩
          · rw [← m2]; omega
          · omega
        · show lp_X10_closes_85 k N (nI t) (f + 1) s.1 s.2 (nI q) = _
          rw [lp_X10_closes_85]
          refine oie (nI_ge hq (by omega)) (oit hit (oit hiq ?_))
          rw [hct, hcq, j2.2 t ht, j2.2 q (by omega), e1]
          exact oie nz (obind ea (oie h10_ (obind u1 rfl)))
      · rw [b01_f al] at ea
        refine ⟨s, ⟨d, j1, j2, j3, more (fun h => absurd h al)⟩, ?_⟩
        show lp_X10_closes_85 k N (nI t) (f + 1) s.1 s.2 (nI q) = _
        rw [lp_X10_closes_85]
        refine oie (nI_ge hq (by omega)) (oit hit (oit hiq ?_))
        rw [hct, hcq, j2.2 t ht, j2.2 q (by omega), e1]
        exact oie nz (obind ea (oit rfl rfl))) 0 N (v0, m0) (by omega) (by omega) ⟨d1, hF0, hQ0, hC0, hP0⟩
  refine ⟨s.1, d, s.2, e, j1, j2, j3, ?_⟩
  rcases j4 with ⟨m1, m2, m3⟩ | h
  · exact Or.inl ⟨m1, m2, fun t' u' h1 h2 h3 => m3 t' u' (by omega) h2 h3⟩
  · exact Or.inr h
theorem pass74 {w0 v0 : Mem} {d0 : Nat → Nat} (k : Mem → Int32 → Option Mem) (hN : 40 < N) (hL : LO9 L) (h9 : gF w0 9 5 0 = nI L.length) (hT : TDm w0 L S) (hF0 : Fr45 w0 v0) (hQ0 : QC L.length v0 d0) (hC0 : CLS L.length (mkT tk5 L) E d0) :
    ∃ v d m, lp_X10_closes_74 k N N v0 (nI 0) (nI 0) = k v m ∧ Fr45 w0 v ∧ QC L.length v d ∧ CLS L.length (mkT tk5 L) E d ∧ PSS L L.length 0 d0 d m := by
  have hl9 := hL.1
  let J : Nat → Mem × Int32 → Prop := fun q s => ∃ d, Fr45 w0 s.1 ∧ QC L.length s.1 d ∧ CLS L.length (mkT tk5 L) E d ∧ PSS L q 0 d0 d s.2
  obtain ⟨s, ⟨d, j1, j2, j3, j4⟩, e⟩ := lpc L.length (fun f (s : Mem × Int32) q => lp_X10_closes_74 k N f s.1 s.2 q) (fun s => k s.1 s.2) J (fun f s ⟨d, j1, _⟩ => by
    show lp_X10_closes_74 k N (f + 1) s.1 s.2 (nI L.length) = _
    rw [lp_X10_closes_74, (j1.1 9 5 0 (fun z => z)).trans h9]
    exact oit (nI_le (Nat.le_refl _) (by omega)) rfl) (fun f q s hq ⟨d, j1, j2, j3, j4⟩ => by
    obtain ⟨v, d', m, q1, q2, q3, q4, q5⟩ := pass85 (N := N) (t := q) (fun (w_5 : Mem) (u2_5 : Int32) => (f_X10_closes_135_74 (fun (w : Mem) (v2 : Int32) (v3 : Int32) => lp_X10_closes_74 k N f w v2 v3) k N w_5 u2_5 (nI q))) hN hL h9 hT hq j1 j2 j3 j4
    refine ⟨(v, m), ⟨d', q2, q3, q4, q5⟩, ?_⟩
    show lp_X10_closes_74 k N (f + 1) s.1 s.2 (nI q) = _
    rw [lp_X10_closes_74, (j1.1 9 5 0 (fun z => z)).trans h9]
    refine oie (nI_ge hq (by omega)) (q1.trans ?_)
    show f_X10_closes_135_74 _ k N v m (nI q) = lp_X10_closes_74 k N f v m (nI (q + 1))
    rw [f_X10_closes_135_74, nI1]) 0 N (v0, nI 0) (by omega) (by omega) ⟨d0, hF0, hQ0, hC0, Or.inl ⟨rfl, rfl, fun t' u' h1 h2 _ => by omega⟩⟩
  exact ⟨s.1, d, s.2, e, j1, j2, j3, j4⟩
theorem pass66 {w0 : Mem} (k : Mem → Option Mem) (hN : 40 < N) (hL : LO9 L) (h9 : gF w0 9 5 0 = nI L.length) (hT : TDm w0 L S) : ∀ (c f : Nat) (v0 : Mem) (d0 : Nat → Nat), cntG L.length d0 ≤ c → c + 2 < f → Fr45 w0 v0 → QC L.length v0 d0 → CLS L.length (mkT tk5 L) E d0 →
    ∃ v d, lp_X10_closes_66 k N f v0 (nI 1) = k v ∧ Fr45 w0 v ∧ QC L.length v d ∧ CLS L.length (mkT tk5 L) E d ∧ Clo (mkT tk5 L) d := by
  intro c
  induction c with
  | zero =>
    intro f v0 d0 hc hf hF hQ hC
    obtain ⟨f, rfl⟩ : ∃ f', f = f' + 1 + 1 := ⟨f - 2, by omega⟩
    obtain ⟨v, d, m, q1, q2, q3, q4, q5⟩ := pass74 (N := N) (fun (w_4 : Mem) (u2_4 : Int32) => (f_X10_closes_141_66 (fun (w : Mem) (v2 : Int32) => lp_X10_closes_66 k N (f + 1) w v2) k N w_4 u2_4)) hN hL h9 hT hF hQ hC
    rcases q5 with ⟨m1, m2, m3⟩ | ⟨-, h⟩
    · refine ⟨v, d, ?_, q2, q3, q4, ?_⟩
      · rw [lp_X10_closes_66]
        refine oie h10_ (q1.trans ?_)
        show f_X10_closes_141_66 _ k N v m = _
        rw [f_X10_closes_141_66, m1, lp_X10_closes_66]
        exact oit rfl rfl
      · subst m2
        intro i j hi hj ha
        by_cases z : i = j
        · rw [z]
        · by_cases z2 : j < i
          · exact m3 i j (Or.inl hi) z2 ha
          · exact (m3 j i (Or.inl hj) (by omega) (alikeR_symm ha)).symm
    · omega
  | succ c ih =>
    intro f v0 d0 hc hf hF hQ hC
    obtain ⟨f, rfl⟩ : ∃ f', f = f' + 1 + 1 := ⟨f - 2, by omega⟩
    obtain ⟨v, d, m, q1, q2, q3, q4, q5⟩ := pass74 (N := N) (fun (w_4 : Mem) (u2_4 : Int32) => (f_X10_closes_141_66 (fun (w : Mem) (v2 : Int32) => lp_X10_closes_66 k N (f + 1) w v2) k N w_4 u2_4)) hN hL h9 hT hF hQ hC
    rcases q5 with ⟨m1, m2, m3⟩ | ⟨m1, h⟩
    · refine ⟨v, d, ?_, q2, q3, q4, ?_⟩
      · rw [lp_X10_closes_66]
        refine oie h10_ (q1.trans ?_)
        show f_X10_closes_141_66 _ k N v m = _
        rw [f_X10_closes_141_66, m1, lp_X10_closes_66]
        exact oit rfl rfl
      · subst m2
        intro i j hi hj ha
        by_cases z : i = j
        · rw [z]
        · by_cases z2 : j < i
          · exact m3 i j (Or.inl hi) z2 ha
          · exact (m3 j i (Or.inl hj) (by omega) (alikeR_symm ha)).symm
    · obtain ⟨v', d', r1, r2⟩ := ih (f + 1) v d (by omega) (by omega) q2 q3 q4
      refine ⟨v', d', ?_, r2⟩
      rw [lp_X10_closes_66]
      refine oie h10_ (q1.trans ?_)
      show f_X10_closes_141_66 _ k N v m = _
      rw [f_X10_closes_141_66, m1]
      exact r1
end CLO9
theorem closes_ok {N b : Nat} {w : Mem} {L : Tl} {S : Prs} (hN : 40 < N) (hL : LO9 L) (hS : ∀ p i j : Nat, S[p]? = some (i, j) → i < L.length ∧ j < L.length) (hS9 : S.length ≤ 9) (hb : b < 2147483648) (h9 : gF w 9 5 0 = nI L.length) (h6 : gF w 9 6 0 = nI S.length) (hT : TDm w L S) :
    ∃ w', f_X10_closes N w (nI b) = some w' ∧ Fr45 w w' ∧ ∀ i, i < L.length → gA w' 45 0 i = nI (ldE (mkT tk5 L) (Pk S b) i) := by
  have hl9 := hL.1
  let J1 : Nat → Mem → Prop := fun q v => Fr45 w v ∧ ∀ i, i < q → gA v 45 0 i = nI i
  obtain ⟨v1, ⟨f1, r1⟩, e1⟩ := lpc L.length (fun f v q => lp_X10_closes_2 (fun (w_1 : Mem) => (f_X10_closes_23 N w_1 (nI b))) N (nI b) f v q) (fun v => f_X10_closes_23 N v (nI b)) J1 (fun f v ⟨j1, _⟩ => by
    show lp_X10_closes_2 _ N (nI b) (f + 1) v (nI L.length) = _
    rw [lp_X10_closes_2, (j1.1 9 5 0 (fun z => z)).trans h9]
    exact oit (nI_le (Nat.le_refl _) (by omega)) rfl) (fun f q v hq ⟨j1, j2⟩ => by
    refine ⟨sA v 45 0 q (nI q), ⟨j1.tr fr45_A, fun i hi => ?_⟩, ?_⟩
    · rw [gA_sA]
      by_cases z : i = q
      · rw [if_pos ⟨rfl, rfl, z⟩, z]
      · rw [if_neg (fun z2 => z z2.2.2)]; exact j2 i (by omega)
    · show lp_X10_closes_2 _ N (nI b) (f + 1) v (nI q) = _
      rw [lp_X10_closes_2, (j1.1 9 5 0 (fun z => z)).trans h9]
      refine oie (nI_ge hq (by omega)) (oit (inb_nI (by omega) (by omega)) ?_)
      rw [nI_clamp (by omega), nI1]) 0 N w (by omega) (by omega) ⟨Fr.rf, fun i hi => absurd hi (Nat.not_lt_zero i)⟩
  let J2 : Nat → Mem → Prop := fun q v => ∃ d, Fr45 w v ∧ QC L.length v d ∧ (∀ p i j : Nat, p < q → b.testBit p = true → S[p]? = some (i, j) → d i = d j) ∧ ∀ R, Congr (mkT tk5 L) R → (∀ i j, Pk S b i j → R i j) → Jst L.length d R
  obtain ⟨v2, ⟨d2, f2, q2, s2, t2⟩, e2⟩ := lpc S.length (fun f v q => lp_X10_closes_25 (fun (w_2 : Mem) => (f_X10_closes_64 N w_2)) N (nI b) f v q) (fun v => f_X10_closes_64 N v) J2 (fun f v ⟨d, j1, _⟩ => by
    show lp_X10_closes_25 _ N (nI b) (f + 1) v (nI S.length) = _
    rw [lp_X10_closes_25, (j1.1 9 6 0 (fun z => z)).trans h6]
    exact oit (nI_le (Nat.le_refl _) (by omega)) rfl) (fun f q v hq ⟨d, j1, j2, j3, j4⟩ => by
    have hbit : (nI b >>> (nI q &&& 31)) &&& (1 : Int32) = nI (b01 (b.testBit q = true)) := sbit_t hb (by omega)
    obtain ⟨⟨i, j⟩, hij⟩ : ∃ x, S[q]? = some x := ⟨S[q], List.getElem?_eq_getElem hq⟩
    obtain ⟨hi, hj⟩ := hS q i j hij
    by_cases z : b.testBit q = true
    · rw [b01_t z] at hbit
      obtain ⟨v', u1, u2, u3⟩ := unites_ok (N := N) (w := v) (by omega) (show L.length ≤ 12 by omega) ((j1.1 9 5 0 (fun z => z)).trans h9) j2 hi hj
      refine ⟨v', ⟨un d i j, j1.tr u3, u2, fun p i' j' hp hpb hp2 => ?_, fun R hR hE => jst_un (T := mkT tk5 L) hR (j4 R hR hE) hi hj (hE i j ⟨q, z, hij⟩)⟩, ?_⟩
      · by_cases e : p = q
        · subst e; rw [hij] at hp2; cases hp2; exact un_a
        · exact un_iff.mpr (Or.inl (j3 p i' j' (by omega) hpb hp2))
      · show lp_X10_closes_25 _ N (nI b) (f + 1) v (nI q) = _
        rw [lp_X10_closes_25, (j1.1 9 6 0 (fun z => z)).trans h6]
        refine oie (nI_ge hq (by omega)) (oit (hbit.trans rfl) (oit (inb_nI (by omega) (by omega)) ?_))
        obtain ⟨g1, g2⟩ := (hT.f45 j1).2 q i j hij
        rw [nI_clamp (by omega), g1, g2]
        refine obind u1 ?_
        rw [nI1]
    · rw [b01_f z] at hbit
      refine ⟨v, ⟨d, j1, j2, fun p i' j' hp hpb hp2 => ?_, j4⟩, ?_⟩
      · by_cases e : p = q
        · subst e; exact absurd hpb z
        · exact j3 p i' j' (by omega) hpb hp2
      · show lp_X10_closes_25 _ N (nI b) (f + 1) v (nI q) = _
        rw [lp_X10_closes_25, (j1.1 9 6 0 (fun z => z)).trans h6]
        refine oie (nI_ge hq (by omega)) (oie (by rw [hbit]; decide) ?_)
        rw [nI1]) 0 N v1 (by omega) (by omega) ⟨fun i => i, f1, ⟨can_id _, r1⟩, (fun p i j hp => absurd hp (Nat.not_lt_zero p)), fun R hR _ i j hi _ h => by subst h; exact hR.1 i hi⟩
  have hE2 : ∀ i j, Pk S b i j → d2 i = d2 j := fun i j ⟨p, hp, hp2⟩ => s2 p i j (List.getElem?_eq_some_iff.mp hp2).1 hp hp2
  obtain ⟨v3, d3, e3, f3, q3, c3, k3⟩ := pass66 (N := N) (E := Pk S b) (fun (w_3 : Mem) => (f_X10_closes_144 N w_3)) hN hL h9 hT (cntG L.length d2) N v2 d2 (Nat.le_refl _) (by have := cnt_le L.length d2; omega) f2 q2 ⟨hE2, t2⟩
  refine ⟨v3, ?_, f3, fun i hi => ?_⟩
  · rw [f_X10_closes]
    refine Eq.trans e1 ?_
    show f_X10_closes_23 N v1 (nI b) = _
    rw [f_X10_closes_23]
    refine Eq.trans e2 ?_
    show f_X10_closes_64 N v2 = _
    rw [f_X10_closes_64]
    refine Eq.trans e3 ?_
    rfl
  · have hiff := clo_iff k3 c3.1 (c3.2 _ (cg_congr _ hL.tok _) (fun i j h => cg_in h))
    rw [q3.2 i hi, ← ldE_uniq (T := mkT tk5 L) hL.tok q3.1 hiff i hi]
