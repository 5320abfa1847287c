/-! Proofs: the visit, the picks that can bear on the two -/
/-- what a visit does: P: the two are one by it, Q c: what the c-th pick makes one is one already -/
noncomputable def vis (P : Nat → Prop) (Q : Nat → Nat → Prop) (fa : Bool) : Nat → Nat → Vs → Vs
  | 0, set, st => @ite _ (P set) (Classical.propDecidable _) (ntV fa set (2 ^ 0) st) st
  | c + 1, set, st => @ite _ (P set) (Classical.propDecidable _) (ntV fa set (2 ^ (c + 1)) st) (
    if pop set + 1 < st.1 then
      @ite _ (Q c set) (Classical.propDecidable _) (vis P Q fa c set st) (
        @ite _ (P (set ||| full c)) (Classical.propDecidable _)
          (if pop set + 1 < (vis P Q fa c set st).1 then vis P Q fa c (set ||| 2 ^ c) (vis P Q fa c set st) else vis P Q fa c set st)
          (vis P Q fa c (set ||| 2 ^ c) st))
    else st)
theorem vis_p {P : Nat → Prop} {Q : Nat → Nat → Prop} {fa : Bool} {o set : Nat} {st : Vs} (h : P set) : vis P Q fa o set st = ntV fa set (2 ^ o) st := by
  cases o with
  | zero => rw [vis]; exact if_pos h
  | succ c => rw [vis]; exact if_pos h
theorem vis_0 {P : Nat → Prop} {Q : Nat → Nat → Prop} {fa : Bool} {set : Nat} {st : Vs} (h : ¬ P set) : vis P Q fa 0 set st = st := by
  rw [vis]; exact if_neg h
theorem vis_n {P : Nat → Prop} {Q : Nat → Nat → Prop} {fa : Bool} {c set : Nat} {st : Vs} (h : ¬ P set) (h2 : ¬ pop set + 1 < st.1) : vis P Q fa (c + 1) set st = st := by
  rw [vis, if_neg h2]; exact if_neg h
theorem vis_q {P : Nat → Prop} {Q : Nat → Nat → Prop} {fa : Bool} {c set : Nat} {st : Vs} (h : ¬ P set) (h2 : pop set + 1 < st.1) (h3 : Q c set) : vis P Q fa (c + 1) set st = vis P Q fa c set st := by
  rw [vis, if_pos h2]; exact (if_neg h).trans (if_pos h3)
theorem vis_w {P : Nat → Prop} {Q : Nat → Nat → Prop} {fa : Bool} {c set : Nat} {st : Vs} (h : ¬ P set) (h2 : pop set + 1 < st.1) (h3 : ¬ Q c set) (h4 : P (set ||| full c)) : vis P Q fa (c + 1) set st = if pop set + 1 < (vis P Q fa c set st).1 then vis P Q fa c (set ||| 2 ^ c) (vis P Q fa c set st) else vis P Q fa c set st := by
  rw [vis, if_pos h2]; exact (if_neg h).trans ((if_neg h3).trans (if_pos h4))
theorem vis_o {P : Nat → Prop} {Q : Nat → Nat → Prop} {fa : Bool} {c set : Nat} {st : Vs} (h : ¬ P set) (h2 : pop set + 1 < st.1) (h3 : ¬ Q c set) (h4 : ¬ P (set ||| full c)) : vis P Q fa (c + 1) set st = vis P Q fa c (set ||| 2 ^ c) st := by
  rw [vis, if_pos h2]; exact (if_neg h).trans ((if_neg h3).trans (if_neg h4))
theorem pop_le24 (a : Nat) : pop a ≤ 24 := fb_ct_le _ _
theorem ntV_le {fa : Bool} {set m : Nat} {st : Vs} (h : st.1 ≤ 25) : (ntV fa set m st).1 ≤ 25 := by
  cases fa with
  | true => exact Nat.le_trans (pop_le24 set) (by decide)
  | false => exact h
theorem vis_le {P : Nat → Prop} {Q : Nat → Nat → Prop} {fa : Bool} : ∀ (o set : Nat) (st : Vs), st.1 ≤ 25 → (vis P Q fa o set st).1 ≤ 25
  | 0, set, st, h => by
    by_cases z : P set
    · rw [vis_p z]; exact ntV_le h
    · rw [vis_0 z]; exact h
  | c + 1, set, st, h => by
    by_cases z : P set
    · rw [vis_p z]; exact ntV_le h
    · by_cases y : pop set + 1 < st.1
      · have h1 := vis_le (P := P) (Q := Q) (fa := fa) c set st h
        by_cases x : Q c set
        · rw [vis_q z y x]; exact h1
        · by_cases v : P (set ||| full c)
          · rw [vis_w z y x v]
            split
            · exact vis_le c _ _ h1
            · exact h1
          · rw [vis_o z y x v]; exact vis_le c _ _ h
      · rw [vis_n z y]; exact h
/-- what the c-th pick makes one is one by the set already -/
def QB (T : Trm) (S : Prs) (pk : List Nat) (c set : Nat) : Prop := ∀ p i j : Nat, pk[c]? = some p → S[p]? = some (i, j) → By T S (exS pk set) i j
theorem QB_iff {T : Trm} {S : Prs} {pk : List Nat} {c set p i j : Nat} (hp : pk[c]? = some p) (hS : S[p]? = some (i, j)) : QB T S pk c set ↔ By T S (exS pk set) i j := by
  constructor
  · intro h; exact h p i j hp hS
  · intro h p' i' j' hp' hS'
    rw [hp] at hp'
    obtain rfl := Option.some.inj hp'
    rw [hS] at hS'
    obtain ⟨rfl, rfl⟩ := Prod.mk.inj (Option.some.inj hS')
    exact h
theorem visit_ok {N f nf t u : Nat} {tk : Nat → Nat} {R A : List Row} {NL : List (List Nat)} {tp : List Nat} {wx : Mem} {pk : List Nat} {fa : Bool} (hN : 5000 < N) (h : RelX wx f nf tk R A NL tp) (hCI : CI tk nf (run tk c0 (R ++ A))) (hpk : ∀ k p : Nat, pk[k]? = some p → p < (cSs tk R A).length) (hpl : pk.length ≤ 12) (ht : t < tN (cT tk R A)) (hu : u < tN (cT tk R A)) : ∀ (o nn : Nat) (w : Mem) (set : Nat) (st : Vs), o < nn → o ≤ pk.length → KX wx w → GS w (4 + o) (tN (cT tk R A)) (ldE (cT tk R A) (Pk (cSs tk R A) (exS pk set))) → set + 2 ^ o ≤ 4096 → set % 2 ^ o = 0 → PKw w pk t u → gF w 4 6 0 = nI (b01 (fa = true)) → VS fa w st → st.1 ≤ 25 → ∃ w', f_X4_visit N nn w f (nI o) (nI set) = some w' ∧ KW o w w' ∧ VS fa w' (vis (fun s => By (cT tk R A) (cSs tk R A) (exS pk s) t u) (QB (cT tk R A) (cSs tk R A) pk) fa o set st) := by
  have hTO : TOK (cT tk R A) := h.2.1.1.1.2.1
  intro o
  induction o with
  | zero =>
    intro nn w set st hnn hop hw hG hs hm hP h6 hst hle
    obtain ⟨n', rfl⟩ : ∃ n', nn = n' + 1 := ⟨nn - 1, by omega⟩
    have hone := one_ok hG N ht hu
    rw [b01_i, b01_c (ldE_iff hTO t u ht hu)] at hone
    have hone' : f_X3_one N w 4 (nI t) (nI u) = some (nI (b01 (By (cT tk R A) (cSs tk R A) (exS pk set) t u))) := hone
    by_cases z : By (cT tk R A) (cSs tk R A) (exS pk set) t u
    · rw [b01_t z] at hone'
      obtain ⟨w', a1, a2, a3⟩ := note_ok (N := N) (set := set) (m := 1) (w := w) hN h6 hs hst
      refine ⟨w', ?_, a2, ?_⟩
      · rw [f_X4_visit]
        simp (disch := omega) only [↓lm1, ↓lm2, eq_n1, eq_n2, n1_eq, n2_eq, n1_n2, n2_n1, n1_lt, n2_lt, n1_le, lt_n1, lt_n2, inb_t, cl_t, le_tt, le_tf, lt_tt, lt_tf, eq_tt, eq_tf, q_add, q_mul, li0, li1, li2, li3, li4, li5, li6, li7, li8, li12, li16, li24, li48, li500, gF_sA, gA_sF, gF_sF, gR_sA, gR_sF, gL_sA, gL_sF, gA_sA, shl_t, or_t, and_t, sbit_t, ubit_t, b01_0, b01_1, Option.bind_some, ↓reduceIte, eq_self, ne_eq, not_true_eq_false, Bool.false_eq_true, not_false_eq_true, true_and, and_true, false_and, and_false, if_pos, if_neg, hP.1, hP.2.1, Nat.add_zero, hone', Nat.pow_zero, a1]
      · rw [vis_p (P := fun s => By (cT tk R A) (cSs tk R A) (exS pk s) t u) z]; exact a3
    · rw [b01_f z] at hone'
      refine ⟨w, ?_, KV.rf.kw, ?_⟩
      · rw [f_X4_visit]
        simp (disch := omega) only [↓lm1, ↓lm2, eq_n1, eq_n2, n1_eq, n2_eq, n1_n2, n2_n1, n1_lt, n2_lt, n1_le, lt_n1, lt_n2, inb_t, cl_t, le_tt, le_tf, lt_tt, lt_tf, eq_tt, eq_tf, q_add, q_mul, li0, li1, li2, li3, li4, li5, li6, li7, li8, li12, li16, li24, li48, li500, gF_sA, gA_sF, gF_sF, gR_sA, gR_sF, gL_sA, gL_sF, gA_sA, shl_t, or_t, and_t, sbit_t, ubit_t, b01_0, b01_1, Option.bind_some, ↓reduceIte, eq_self, ne_eq, not_true_eq_false, Bool.false_eq_true, not_false_eq_true, true_and, and_true, false_and, and_false, if_pos, if_neg, hP.1, hP.2.1, Nat.add_zero, hone']
      · rw [vis_0 (P := fun s => By (cT tk R A) (cSs tk R A) (exS pk s) t u) z]; exact hst
  | succ c ih =>
    intro nn w set st hnn hop hw hG hs hm hP h6 hst hle
    obtain ⟨n', rfl⟩ : ∃ n', nn = n' + 1 := ⟨nn - 1, by omega⟩
    have hone := one_ok hG N ht hu
    rw [b01_i, b01_c (ldE_iff hTO t u ht hu)] at hone
    have hone' : f_X3_one N w (4 + (c + 1)) (nI t) (nI u) = some (nI (b01 (By (cT tk R A) (cSs tk R A) (exS pk set) t u))) := hone
    have h2c : 2 ^ (c + 1) = 2 ^ c + 2 ^ c := by rw [Nat.pow_succ]; omega
    have hpc := Nat.two_pow_pos c
    have hmc : set % 2 ^ c = 0 := Nat.mod_eq_zero_of_dvd (Nat.dvd_trans ⟨2, by rw [Nat.pow_succ]⟩ (Nat.dvd_of_mod_eq_zero hm))
    have hc13 : c < 12 := by omega
    have i13c : inb (nI (c + 1)) 13 = true := inb_t (by omega) (by omega)
    have k2 : (nI (c + 1)).toNatClampNeg = c + 1 := cl_t (by omega)
    have k1 : (nI c).toNatClampNeg = c := cl_t (by omega)
    have i13 : inb (nI c) 13 = true := inb_t (by omega) (by omega)
    have i12 : inb (nI c) 12 = true := inb_t (by omega) (by omega)
    have z01 : ¬ (nI 1 = (0 : Int32)) := by decide
    have z00 : nI 0 = (0 : Int32) := rfl
    have hc0 : ¬ (nI (c + 1) = (0 : Int32)) := fun q => by
      have : nI (c + 1) = nI 0 := q
      have h2 := congrArg (fun x : Int32 => x.toNatClampNeg) this
      have h3 : (nI (c + 1)).toNatClampNeg = (nI 0).toNatClampNeg := h2
      rw [k2, cl_t (a := 0) (by omega)] at h3
      omega
    by_cases z : By (cT tk R A) (cSs tk R A) (exS pk set) t u
    · rw [b01_t z] at hone'
      obtain ⟨w', a1, a2, a3⟩ := note_ok (N := N) (set := set) (m := 2 ^ (c + 1)) (w := w) hN h6 hs hst
      refine ⟨w', ?_, a2.up (Nat.zero_le _), ?_⟩
      · rw [f_X4_visit, if_pos i13c, k2, hP.1, hP.2.1, hone', Option.bind_some, if_neg z01, one_shl (by omega), a1]
        rfl
      · rw [vis_p (P := fun s => By (cT tk R A) (cSs tk R A) (exS pk s) t u) z]; exact a3
    · rw [b01_f z] at hone'
      have hbc : ∀ v : Mem, f_J6_bitCount_0f7a4 N v (nI set) = some (nI (pop set)) := fun v => bitCount_ok (by omega)
      have hpp := pop_le24 set
      have e7 := hst.1
      have hsub : nI (c + 1) - (1 : Int32) = nI c := by rw [show (1 : Int32) = nI 1 from rfl, q_sub (by omega), Nat.add_sub_cancel]
      by_cases y : pop set + 1 < st.1
      · obtain ⟨p, hp⟩ := get_at pk (q := c) (by omega)
        have hpS := hpk c p hp
        have hs12 : (cSs tk R A).length ≤ 12 := h.2.1.2.1.1
        obtain ⟨⟨i, j⟩, hS⟩ := get_at (cSs tk R A) hpS
        have hXw := h.kx hw
        obtain ⟨ki, kj, y3, y4⟩ := hXw.2.1.2.1.2.2 p i j hS
        have e27 := hP.2.2 c p hp
        have hQ := one_ok hG N ki kj
        rw [b01_i, b01_c (ldE_iff hTO i j ki kj)] at hQ
        have hQ' : f_X3_one N w (4 + (c + 1)) (nI i) (nI j) = some (nI (b01 (By (cT tk R A) (cSs tk R A) (exS pk set) i j))) := hQ
        -- the second half: with the c-th
        have second : ∀ (v : Mem) (s1 : Vs), KW (c + 1) w v → VS fa v s1 → s1.1 ≤ 25 → ∃ v1 v2 w', f_X3_copyFrom N v (4 + c) (4 + (c + 1)) = some v1 ∧ f_X1_supposeSame N v1 f (nI i) (nI j) (4 + c) = some v2 ∧ f_X4_visit N n' v2 f (nI c) (nI (set ||| 2 ^ c)) = some w' ∧ KW (c + 1) w w' ∧ VS fa w' (vis (fun s => By (cT tk R A) (cSs tk R A) (exS pk s) t u) (QB (cT tk R A) (cSs tk R A) pk) fa c (set ||| 2 ^ c) s1) := by
          intro v s1 hv hs1 hl1
          have hGv := hv.gs (Nat.le_refl _) hG
          obtain ⟨v1, b1, b2, b3⟩ := copyFrom_ok hGv N (g := 4 + c) (by omega)
          have k1 : KV (c + 1) v v1 := KV.fr b3 (by omega) (fun k i z => Or.inl z)
          have hv1 := hv.tr (Nat.le_refl _) k1.kw
          have hXv1 := h.kx (hw.tr hv1.1)
          obtain ⟨v2, ld', d1, d2, d3, d4⟩ := supposeSame_ok (E := Pk (cSs tk R A) (exS pk set)) (N := N) (by omega) hXv1.2.1.1.1 b2 (ldE_iff hTO) (fun x y ⟨q, _, hq⟩ => hCI.2.2.1.2 x y (List.mem_of_getElem? hq)) ki kj
          have k2 : KV (c + 1) v1 v2 := KV.fr d4 (by omega) (fun k i z => by omega)
          have hv2 := hv1.tr (Nat.le_refl _) k2.kw
          have hor : set ||| 2 ^ c = set + 2 ^ c := (add_or hm (by omega)).symm
          have hE : (fun x y => Pk (cSs tk R A) (exS pk set) x y ∨ (x = i ∧ y = j)) = Pk (cSs tk R A) (exS pk (set ||| 2 ^ c)) := by
            funext x; funext y
            apply propext
            rw [pk_ex, pk_ex]
            constructor
            · rintro (⟨k, q, q1, q2, q3⟩ | ⟨rfl, rfl⟩)
              · exact ⟨k, q, by rw [or_bit, q1, Bool.true_or], q2, q3⟩
              · exact ⟨c, p, by rw [or_bit, decide_eq_true rfl, Bool.or_true], hp, hS⟩
            · rintro ⟨k, q, q1, q2, q3⟩
              rw [or_bit, Bool.or_eq_true, decide_eq_true_iff] at q1
              rcases q1 with q1 | rfl
              · exact Or.inl ⟨k, q, q1, q2, q3⟩
              · rw [hp] at q2
                obtain rfl := Option.some.inj q2
                rw [hS] at q3
                obtain ⟨rfl, rfl⟩ := Prod.mk.inj (Option.some.inj q3)
                exact Or.inr ⟨rfl, rfl⟩
          rw [hE] at d3
          have hG2 := d2.toE hTO d3
          have hs2 : VS fa v2 s1 := (hs1.kv k1 (fun s => KV.hb (o := 0) b3 s)).kv k2 (fun s => KV.hb (o := 0) d4 s)
          obtain ⟨w', e1, e2, e3⟩ := ih n' v2 (set ||| 2 ^ c) s1 (by omega) (by omega) (hw.tr hv2.1) hG2 (by rw [hor]; omega) (by rw [hor, Nat.add_mod_right]; exact hmc) (hP.kw hv2) ((hv2.2.2.1 _ _ (by omega)).trans h6) hs2 hl1
          exact ⟨v1, v2, w', b1, d1, e1, hv2.tr (by omega) e2, e3⟩
        -- the first half: without it
        have first : ∀ v : Mem, KV (c + 1) w v → (∀ s, hb v s = hb w s) → ∃ v0 w', f_X3_copyFrom N v (4 + c) (4 + (c + 1)) = some v0 ∧ f_X4_visit N n' v0 f (nI c) (nI set) = some w' ∧ KW (c + 1) w w' ∧ VS fa w' (vis (fun s => By (cT tk R A) (cSs tk R A) (exS pk s) t u) (QB (cT tk R A) (cSs tk R A) pk) fa c set st) := by
          intro v hv hh
          have hGv := hv.gs (Nat.le_refl _) hG
          obtain ⟨v0, b1, b2, b3⟩ := copyFrom_ok hGv N (g := 4 + c) (by omega)
          have k0 : KV (c + 1) v v0 := KV.fr b3 (by omega) (fun k i z => Or.inl z)
          have hv0 := hv.tr (Nat.le_refl _) k0
          obtain ⟨w', e1, e2, e3⟩ := ih n' v0 set st (by omega) (by omega) (hw.tr hv0.1) b2 (by omega) hmc (hP.kv hv0) ((hv0.2.2.1 _ _).trans h6) (hst.kv hv0 (fun s => (KV.hb (o := 0) b3 s).trans (hh s))) hle
          exact ⟨v0, w', b1, e1, hv0.kw.tr (by omega) e2, e3⟩
        have hshl : nI set ||| (1 : Int32) <<< (nI c &&& 31) = nI (set ||| 2 ^ c) := by rw [one_shl (by omega), or_t]
        have hlt : nI (pop set) + (1 : Int32) < nI st.1 := by rw [show nI (pop set) + (1 : Int32) = nI (pop set + 1) from n_add _ 1]; exact (nI_lt_iff (by omega) (by omega)).mpr y
        have ip : inb (nI p) 12 = true := inb_t (by omega) (by omega)
        have k3 : (nI p).toNatClampNeg = p := cl_t (by omega)
        by_cases x : By (cT tk R A) (cSs tk R A) (exS pk set) i j
        · rw [b01_t x] at hQ'
          obtain ⟨v0, w', s1, s2, s3, s4⟩ := first w KV.rf (fun _ => rfl)
          refine ⟨w', ?_, s3, ?_⟩
          · rw [f_X4_visit, if_pos i13c, k2, hP.1, hP.2.1, hone', Option.bind_some, if_pos z00, if_neg hc0, hbc, Option.bind_some, e7, if_pos hlt, hsub, if_pos i12, k1, e27, if_pos ip, k3, y3, y4, hQ', Option.bind_some, if_neg z01, if_pos i13, s1, Option.bind_some, s2, Option.bind_some, if_neg z01]
          · rw [vis_q (P := fun s => By (cT tk R A) (cSs tk R A) (exS pk s) t u) z y ((QB_iff hp hS).mpr x)]; exact s4
        · rw [b01_f x] at hQ'
          obtain ⟨w1, a1, a2, a3⟩ := canDo_ok (set := set) hN h hpk hpl ht hu (show c < pk.length by omega) hw hG hP
          by_cases v : By (cT tk R A) (cSs tk R A) (exS pk (set ||| full c)) t u
          · rw [b01_t v] at a1
            obtain ⟨v0, v3, s1, s2, s3, s4⟩ := first w1 a2 a3
            have hl3 := vis_le (P := fun s => By (cT tk R A) (cSs tk R A) (exS pk s) t u) (Q := QB (cT tk R A) (cSs tk R A) pk) (fa := fa) c set st hle
            have e73 := s4.1
            rw [vis_w (P := fun s => By (cT tk R A) (cSs tk R A) (exS pk s) t u) z y (fun q => x ((QB_iff hp hS).mp q)) v]
            generalize vis (fun s => By (cT tk R A) (cSs tk R A) (exS pk s) t u) (QB (cT tk R A) (cSs tk R A) pk) fa c set st = st3 at s4 hl3 e73 ⊢
            by_cases g : pop set + 1 < st3.1
            · rw [if_pos g]
              obtain ⟨v1, v2, w', t1, t2, t3, t4, t5⟩ := second v3 st3 s3 s4 hl3
              refine ⟨w', ?_, t4, t5⟩
              have g' : ¬ (nI st3.1 ≤ nI (pop set) + (1 : Int32)) := by
                rw [show nI (pop set) + (1 : Int32) = nI (pop set + 1) from n_add _ 1]
                simp (disch := omega) only [↓lm1, ↓lm2, eq_n1, eq_n2, n1_eq, n2_eq, n1_n2, n2_n1, n1_lt, n2_lt, n1_le, lt_n1, lt_n2, inb_t, cl_t, le_tt, le_tf, lt_tt, lt_tf, eq_tt, eq_tf, q_add, q_mul, li0, li1, li2, li3, li4, li5, li6, li7, li8, li12, li16, li24, li48, li500, gF_sA, gA_sF, gF_sF, gR_sA, gR_sF, gL_sA, gL_sF, gA_sA, shl_t, or_t, and_t, sbit_t, ubit_t, b01_0, b01_1, Option.bind_some, ↓reduceIte, eq_self, ne_eq, not_true_eq_false, Bool.false_eq_true, not_false_eq_true, true_and, and_true, false_and, and_false, if_pos, if_neg]
              rw [f_X4_visit, if_pos i13c, k2, hP.1, hP.2.1, hone', Option.bind_some, if_pos z00, if_neg hc0, hbc, Option.bind_some, e7, if_pos hlt, hsub, if_pos i12, k1, e27, if_pos ip, k3, y3, y4, hQ', Option.bind_some, if_pos z00, a1, Option.bind_some, if_neg (show ¬ ((w1, nI 1) : Mem × Int32).2 = 0 from z01), if_pos i13]
              show Option.bind (f_X3_copyFrom N w1 (4 + c) (4 + (c + 1))) _ = _
              rw [s1, Option.bind_some, s2, Option.bind_some, if_pos z00, hbc, Option.bind_some, e73, if_neg g', t1, Option.bind_some, t2, Option.bind_some, hshl, t3, Option.bind_some]
            · rw [if_neg g]
              refine ⟨v3, ?_, s3, s4⟩
              have g' : nI st3.1 ≤ nI (pop set) + (1 : Int32) := by
                rw [show nI (pop set) + (1 : Int32) = nI (pop set + 1) from n_add _ 1]
                simp (disch := omega) only [↓lm1, ↓lm2, eq_n1, eq_n2, n1_eq, n2_eq, n1_n2, n2_n1, n1_lt, n2_lt, n1_le, lt_n1, lt_n2, inb_t, cl_t, le_tt, le_tf, lt_tt, lt_tf, eq_tt, eq_tf, q_add, q_mul, li0, li1, li2, li3, li4, li5, li6, li7, li8, li12, li16, li24, li48, li500, gF_sA, gA_sF, gF_sF, gR_sA, gR_sF, gL_sA, gL_sF, gA_sA, shl_t, or_t, and_t, sbit_t, ubit_t, b01_0, b01_1, Option.bind_some, ↓reduceIte, eq_self, ne_eq, not_true_eq_false, Bool.false_eq_true, not_false_eq_true, true_and, and_true, false_and, and_false, if_pos, if_neg]
              rw [f_X4_visit, if_pos i13c, k2, hP.1, hP.2.1, hone', Option.bind_some, if_pos z00, if_neg hc0, hbc, Option.bind_some, e7, if_pos hlt, hsub, if_pos i12, k1, e27, if_pos ip, k3, y3, y4, hQ', Option.bind_some, if_pos z00, a1, Option.bind_some, if_neg (show ¬ ((w1, nI 1) : Mem × Int32).2 = 0 from z01), if_pos i13]
              show Option.bind (f_X3_copyFrom N w1 (4 + c) (4 + (c + 1))) _ = _
              rw [s1, Option.bind_some, s2, Option.bind_some, if_pos z00, hbc, Option.bind_some, e73, if_pos g']
          · rw [b01_f v] at a1
            obtain ⟨v1, v2, w', t1, t2, t3, t4, t5⟩ := second w1 st a2.kw (hst.kv a2 a3) hle
            have e71 : gF w1 4 7 0 = nI st.1 := (a2.2.2.1 _ _).trans e7
            refine ⟨w', ?_, t4, ?_⟩
            · have g' : ¬ (nI st.1 ≤ nI (pop set) + (1 : Int32)) := by
                rw [show nI (pop set) + (1 : Int32) = nI (pop set + 1) from n_add _ 1]
                simp (disch := omega) only [↓lm1, ↓lm2, eq_n1, eq_n2, n1_eq, n2_eq, n1_n2, n2_n1, n1_lt, n2_lt, n1_le, lt_n1, lt_n2, inb_t, cl_t, le_tt, le_tf, lt_tt, lt_tf, eq_tt, eq_tf, q_add, q_mul, li0, li1, li2, li3, li4, li5, li6, li7, li8, li12, li16, li24, li48, li500, gF_sA, gA_sF, gF_sF, gR_sA, gR_sF, gL_sA, gL_sF, gA_sA, shl_t, or_t, and_t, sbit_t, ubit_t, b01_0, b01_1, Option.bind_some, ↓reduceIte, eq_self, ne_eq, not_true_eq_false, Bool.false_eq_true, not_false_eq_true, true_and, and_true, false_and, and_false, if_pos, if_neg]
              rw [f_X4_visit, if_pos i13c, k2, hP.1, hP.2.1, hone', Option.bind_some, if_pos z00, if_neg hc0, hbc, Option.bind_some, e7, if_pos hlt, hsub, if_pos i12, k1, e27, if_pos ip, k3, y3, y4, hQ', Option.bind_some, if_pos z00, a1, Option.bind_some, if_pos (show ((w1, nI 0) : Mem × Int32).2 = 0 from z00), if_pos z00]
              show Option.bind (f_J6_bitCount_0f7a4 N w1 (nI set)) _ = _
              rw [hbc, Option.bind_some]
              show (if gF w1 4 7 0 ≤ nI (pop set) + (1 : Int32) then some w1 else _) = _
              rw [e71, if_neg g', if_pos i13]
              show Option.bind (f_X3_copyFrom N w1 (4 + c) (4 + (c + 1))) _ = _
              rw [t1, Option.bind_some, t2, Option.bind_some, hshl, t3, Option.bind_some]
            · rw [vis_o (P := fun s => By (cT tk R A) (cSs tk R A) (exS pk s) t u) z y (fun q => x ((QB_iff hp hS).mp q)) v]; exact t5
      · refine ⟨w, ?_, KV.rf.kw, ?_⟩
        · have g' : ¬ (nI (pop set) + (1 : Int32) < nI st.1) := by
            rw [show nI (pop set) + (1 : Int32) = nI (pop set + 1) from n_add _ 1, nI_lt_iff (by omega) (by omega)]
            exact y
          rw [f_X4_visit, if_pos i13c, k2, hP.1, hP.2.1, hone', Option.bind_some, if_pos z00, if_neg hc0, hbc, Option.bind_some, e7, if_neg g']
        · rw [vis_n (P := fun s => By (cT tk R A) (cSs tk R A) (exS pk s) t u) z y]; exact hst
/-! which sames can bear -/
/-- one pass over the terms: what those in the groups are made of -/
def psB (T : Trm) (ld : Nat → Nat) (L : Nat) : Nat → Nat
  | 0 => L
  | q + 1 => if (psB T ld L q).testBit (ld q) = true then psB T ld L q ||| plB T ld q (tA T (tF T q)) else psB T ld L q
theorem psB_sub {T : Trm} {ld : Nat → Nat} {L : Nat} : ∀ q x, L.testBit x = true → (psB T ld L q).testBit x = true
  | 0, _, h => h
  | q + 1, x, h => by
    have ih := psB_sub (T := T) (ld := ld) q x h
    rw [psB]
    split
    · rw [Nat.testBit_or, ih, Bool.true_or]
    · exact ih
theorem psB_lt {T : Trm} {ld : Nat → Nat} {L : Nat} (hL : L < 16777216) : ∀ q, (∀ i, i < q → plB T ld i (tA T (tF T i)) < 16777216) → psB T ld L q < 16777216
  | 0, _ => hL
  | q + 1, h => by
    have ih := psB_lt (T := T) (ld := ld) hL q (fun i hi => h i (by omega))
    rw [psB]
    split
    · exact Nat.or_lt_two_pow (n := 24) ih (h q (by omega))
    · exact ih
theorem psB_mono {T : Trm} {ld : Nat → Nat} {L : Nat} {q x : Nat} : ∀ d, (psB T ld L q).testBit x = true → (psB T ld L (q + d)).testBit x = true
  | 0, h => h
  | d + 1, h => by
    have ih := psB_mono (T := T) (ld := ld) d h
    show (psB T ld L (q + d + 1)).testBit x = true
    rw [psB]
    split
    · rw [Nat.testBit_or, ih, Bool.true_or]
    · exact ih
def ClB (T : Trm) (ld : Nat → Nat) (L : Nat) : Prop := ∀ x, x < tN T → L.testBit (ld x) = true → ∀ k, k < tA T (tF T x) → L.testBit (ld (tP T x k)) = true
theorem psB_fix {T : Trm} {ld : Nat → Nat} {L : Nat} (h : psB T ld L (tN T) = L) : ClB T ld L := by
  intro x hx hb k hk
  have h1 := psB_sub (T := T) (ld := ld) x (ld x) hb
  have h2 : (psB T ld L (x + 1)).testBit (ld (tP T x k)) = true := by
    rw [psB, if_pos h1, Nat.testBit_or, plB_bit _ |>.mpr ⟨k, hk, rfl⟩, Bool.or_true]
  have h3 := psB_mono (T := T) (ld := ld) (L := L) (tN T - (x + 1)) h2
  rw [show x + 1 + (tN T - (x + 1)) = tN T by omega, h] at h3
  exact h3
theorem pop_strict {a b : Nat} (ha : a < 16777216) (hb : b < 16777216) (hsub : ∀ x, a.testBit x = true → b.testBit x = true) (hne : b ≠ a) : pop a + 1 ≤ pop b := by
  have hex : ∃ x, b.testBit x = true ∧ a.testBit x = false := by
    apply Classical.byContradiction
    intro hc
    apply hne
    apply Nat.eq_of_testBit_eq
    intro x
    cases h1 : b.testBit x with
    | false =>
      cases h2 : a.testBit x with
      | false => rfl
      | true => rw [hsub x h2] at h1; cases h1
    | true =>
      cases h2 : a.testBit x with
      | false => exact absurd ⟨x, h1, h2⟩ hc
      | true => rfl
  obtain ⟨x, h1, h2⟩ := hex
  have hx : x < 24 := low_bit (o := 24) hb h1
  have h3 := fb_ct_upd (fun i => a.testBit i) true hx
  rw [h2] at h3
  have h4 : fb_ct (fun k => if k = x then true else a.testBit k) 24 ≤ fb_ct (fun i => b.testBit i) 24 := fb_ct_sub (fun k hk hp => by
    by_cases e : k = x
    · subst e; exact h1
    · rw [if_neg e] at hp; exact hsub k hp)
  unfold pop
  simp only [Bool.false_eq_true, if_false, if_true] at h3
  omega
theorem pop_le (a : Nat) : pop a ≤ 24 := fb_ct_le _ _
theorem bear {T : Trm} {S : Prs} {ld : Nat → Nat} {L B B' t u : Nat} (hT : TOK T) (hS : PRok (tN T) S) (hld : ∀ i j, i < tN T → j < tN T → (ld i = ld j ↔ Cg T (inS S) i j)) (hL : ClB T ld L) (ht : t < tN T) (hu : u < tN T) (htL : L.testBit (ld t) = true) (hB : ∀ k i j, B.testBit k = true → S[k]? = some (i, j) → L.testBit (ld i) = true → B'.testBit k = true) (h : By T S B t u) : By T S B' t u := by
  have hc := cg_congr T hT (Pk S B')
  have hcS := cg_congr T hT (inS S)
  have hR : Congr T (fun x y => x < tN T ∧ y < tN T ∧ ld x = ld y ∧ (L.testBit (ld x) = true → Cg T (Pk S B') x y)) := by
    refine ⟨fun i hi => ⟨hi, hi, rfl, fun _ => hc.1 i hi⟩, fun i j hi hj hij => ⟨hj, hi, hij.2.2.1.symm, fun hb => hc.2.1 i j hi hj (hij.2.2.2 (by rw [hij.2.2.1]; exact hb))⟩, fun i j k hi hj hk h1 h2 => ⟨hi, hk, h1.2.2.1.trans h2.2.2.1, fun hb => hc.2.2.1 i j k hi hj hk (h1.2.2.2 hb) (h2.2.2.2 (by rw [← h1.2.2.1]; exact hb))⟩, fun i j hi hj ha => ?_⟩
    obtain ⟨a1, a2⟩ := ha
    have hlij : ld i = ld j := (hld i j hi hj).mpr (hcS.2.2.2 i j hi hj ⟨a1, fun k hk => (hld _ _ (a2 k hk).1 (a2 k hk).2.1).mp (a2 k hk).2.2.1⟩)
    exact ⟨hi, hj, hlij, fun hb => hc.2.2.2 i j hi hj ⟨a1, fun k hk => (a2 k hk).2.2.2 (hL i hi hb k hk)⟩⟩
  have := h _ hR (fun i j ⟨k, h1, h2⟩ => by
    have hin : (i, j) ∈ S := List.mem_of_getElem? h2
    obtain ⟨g1, g2⟩ := hS i j hin
    exact ⟨g1, g2, (hld i j g1 g2).mpr (cg_in hin), fun hb => cg_in ⟨k, hB k i j h1 h2 hb, h2⟩⟩)
  exact this.2.2.2 htL
/-- the picks -/
def pkL (S : Prs) (ld : Nat → Nat) (L q : Nat) : List Nat := (List.range q).filter (fun k => L.testBit (ld ((S[k]?).getD (0, 0)).1))
theorem pkL_succ {S : Prs} {ld : Nat → Nat} {L q i j : Nat} (h : S[q]? = some (i, j)) : pkL S ld L (q + 1) = pkL S ld L q ++ (if L.testBit (ld i) = true then [q] else []) := by
  unfold pkL
  rw [List.range_succ, List.filter_append]
  congr 1
  by_cases z : L.testBit (ld i) = true
  · rw [if_pos z]; simp [h, z]
  · rw [if_neg z]; simp [h, z]
theorem pkL_len (S : Prs) (ld : Nat → Nat) (L q : Nat) : (pkL S ld L q).length ≤ q := by
  unfold pkL
  exact Nat.le_trans (List.length_filter_le _ _) (by rw [List.length_range]; exact Nat.le_refl _)
theorem pick_ok {N f nf t : Nat} {tk : Nat → Nat} {R A : List Row} {NL : List (List Nat)} {tp : List Nat} {wx w : Mem} (hN : 5000 < N) (h : RelX wx f nf tk R A NL tp) (ht : t < tN (cT tk R A)) (hw : KX wx w) (h44 : gF w 4 4 0 = nI t) : ∃ w' L, f_X4_pickBearing N w f = some w' ∧ ClB (cT tk R A) (ldJ (cJ (run tk c0 (R ++ A)))) L ∧ L.testBit (ldJ (cJ (run tk c0 (R ++ A))) t) = true ∧ gF w' 4 3 0 = nI (pkL (cSs tk R A) (ldJ (cJ (run tk c0 (R ++ A)))) L (cSs tk R A).length).length ∧ (∀ k p, (pkL (cSs tk R A) (ldJ (cJ (run tk c0 (R ++ A)))) L (cSs tk R A).length)[k]? = some p → gA w' 27 0 k = nI p) ∧ Fr (fun k j i => k = 4 ∧ j = 3 ∧ i = 0) (fun k i => k = 27 ∧ i = 0) w w' := by
  have hX := h.kx hw
  have xT := hX.2.1.1.1
  have xG := hX.2.1.1.2.1
  have xS := hX.2.1.2.1
  have hn : tN (cT tk R A) ≤ 24 := xT.1
  have hs12 : (cSs tk R A).length ≤ 12 := xS.1
  generalize hldd : ldJ (cJ (run tk c0 (R ++ A))) = ld at xG
  have hl : ∀ k, k < tN (cT tk R A) → ld k < 24 := fun k hk => by have := (xG.2.1 k hk).1; omega
  have hpl : ∀ i, i < tN (cT tk R A) → plB (cT tk R A) ld i (tA (cT tk R A) (tF (cT tk R A) i)) < 16777216 := fun i hi => (partLeads_ok (N := N) xT xG (by omega) hi).2
  have x10 : gF w 7 10 f = nI (tN (cT tk R A)) := xT.2.2.1
  -- the picks
  have keyP : ∀ (L : Nat), L < 16777216 → ∀ r fuel q v, q + r = (cSs tk R A).length → r < fuel → Fr (fun k j i => k = 4 ∧ j = 3 ∧ i = 0) (fun k i => k = 27 ∧ i = 0) w v → gF v 4 3 0 = nI (pkL (cSs tk R A) ld L q).length → (∀ k p, (pkL (cSs tk R A) ld L q)[k]? = some p → gA v 27 0 k = nI p) → ∃ w', lp_X4_pickBearing_102 (fun (w_3 : Mem) => (f_X4_pickBearing_160 N w_3 f)) N f (nI L) fuel v (nI q) = some w' ∧ gF w' 4 3 0 = nI (pkL (cSs tk R A) ld L (cSs tk R A).length).length ∧ (∀ k p, (pkL (cSs tk R A) ld L (cSs tk R A).length)[k]? = some p → gA w' 27 0 k = nI p) ∧ Fr (fun k j i => k = 4 ∧ j = 3 ∧ i = 0) (fun k i => k = 27 ∧ i = 0) w w' := by
    intro L hL r
    induction r with
    | zero =>
      intro fuel q v hq hf hv h3 h27
      obtain ⟨f', rfl⟩ : ∃ f, fuel = f + 1 := ⟨fuel - 1, by omega⟩
      have e9 : gF v 1 9 f = nI (cSs tk R A).length := (hv.1 _ _ _ (fun z => by omega)).trans xS.2.1
      have e : q = (cSs tk R A).length := by omega
      subst e
      refine ⟨v, ?_, h3, h27, hv⟩
      rw [lp_X4_pickBearing_102]
      simp (disch := omega) only [↓lm1, ↓lm2, eq_n1, eq_n2, n1_eq, n2_eq, n1_n2, n2_n1, n1_lt, n2_lt, n1_le, lt_n1, lt_n2, inb_t, cl_t, le_tt, le_tf, lt_tt, lt_tf, eq_tt, eq_tf, q_add, q_mul, li0, li1, li2, li3, li4, li5, li6, li7, li8, li12, li16, li24, li48, li500, gF_sA, gA_sF, gF_sF, gR_sA, gR_sF, gL_sA, gL_sF, gA_sA, shl_t, or_t, and_t, sbit_t, ubit_t, b01_0, b01_1, Option.bind_some, ↓reduceIte, eq_self, ne_eq, not_true_eq_false, Bool.false_eq_true, not_false_eq_true, true_and, and_true, false_and, and_false, if_pos, if_neg, e9]
      rfl
    | succ r ih =>
      intro fuel q v hq hf hv h3 h27
      obtain ⟨f', rfl⟩ : ∃ f, fuel = f + 1 := ⟨fuel - 1, by omega⟩
      have e9 : gF v 1 9 f = nI (cSs tk R A).length := (hv.1 _ _ _ (fun z => by omega)).trans xS.2.1
      obtain ⟨⟨i, j⟩, hp⟩ := get_at (cSs tk R A) (q := q) (by omega)
      obtain ⟨ki, kj, y3, y4⟩ := xS.2.2 q i j hp
      have y3' : gA v 13 f q = nI i := by rw [hv.2.1 13 f (fun z => by omega)]; exact y3
      have e25 : gA v 25 (2 + f) i = nI (ld i) := by rw [hv.2.1 25 (2 + f) (fun z => by omega)]; exact xG.2.2.2.2 i ki
      have ki' : i < tN (cT tk R A) := ki
      have hli := hl i ki
      have hpq := pkL_len (cSs tk R A) ld L q
      by_cases z : L.testBit (ld i) = true
      · have hsn := pkL_succ (ld := ld) (L := L) hp
        rw [if_pos z] at hsn
        have hv1 : Fr (fun k j i => k = 4 ∧ j = 3 ∧ i = 0) (fun k i => k = 27 ∧ i = 0) v (sF (sA v 27 0 (pkL (cSs tk R A) ld L q).length (nI q)) 4 3 0 (nI ((pkL (cSs tk R A) ld L q).length + 1))) :=
          ⟨fun k j i h => by rw [gF_sF, if_neg h]; rfl, fun k i h => by rw [gA_sF, gA_sA_ne h], fun _ _ => rfl, fun _ _ _ => rfl⟩
        obtain ⟨w', e1, e2⟩ := ih f' (q + 1) (sF (sA v 27 0 (pkL (cSs tk R A) ld L q).length (nI q)) 4 3 0 (nI ((pkL (cSs tk R A) ld L q).length + 1))) (by omega) (by omega) (hv.tr hv1) (by rw [gF_sF, if_pos ⟨rfl, rfl, rfl⟩, hsn, List.length_append]; rfl) (fun k p hkp => by
          rw [hsn] at hkp
          rcases get_snoc hkp with ⟨g1, g2⟩ | ⟨g1, g2⟩
          · rw [← h27 k p g2]; simp (disch := omega) only [↓lm1, ↓lm2, eq_n1, eq_n2, n1_eq, n2_eq, n1_n2, n2_n1, n1_lt, n2_lt, n1_le, lt_n1, lt_n2, inb_t, cl_t, le_tt, le_tf, lt_tt, lt_tf, eq_tt, eq_tf, q_add, q_mul, li0, li1, li2, li3, li4, li5, li6, li7, li8, li12, li16, li24, li48, li500, gF_sA, gA_sF, gF_sF, gR_sA, gR_sF, gL_sA, gL_sF, gA_sA, shl_t, or_t, and_t, sbit_t, ubit_t, b01_0, b01_1, Option.bind_some, ↓reduceIte, eq_self, ne_eq, not_true_eq_false, Bool.false_eq_true, not_false_eq_true, true_and, and_true, false_and, and_false, if_pos, if_neg]
          · subst g1 g2; simp (disch := omega) only [↓lm1, ↓lm2, eq_n1, eq_n2, n1_eq, n2_eq, n1_n2, n2_n1, n1_lt, n2_lt, n1_le, lt_n1, lt_n2, inb_t, cl_t, le_tt, le_tf, lt_tt, lt_tf, eq_tt, eq_tf, q_add, q_mul, li0, li1, li2, li3, li4, li5, li6, li7, li8, li12, li16, li24, li48, li500, gF_sA, gA_sF, gF_sF, gR_sA, gR_sF, gL_sA, gL_sF, gA_sA, shl_t, or_t, and_t, sbit_t, ubit_t, b01_0, b01_1, Option.bind_some, ↓reduceIte, eq_self, ne_eq, not_true_eq_false, Bool.false_eq_true, not_false_eq_true, true_and, and_true, false_and, and_false, if_pos, if_neg])
        refine ⟨w', ?_, e2⟩
        rw [lp_X4_pickBearing_102, ← e1]
        simp (disch := omega) only [↓lm1, ↓lm2, eq_n1, eq_n2, n1_eq, n2_eq, n1_n2, n2_n1, n1_lt, n2_lt, n1_le, lt_n1, lt_n2, inb_t, cl_t, le_tt, le_tf, lt_tt, lt_tf, eq_tt, eq_tf, q_add, q_mul, li0, li1, li2, li3, li4, li5, li6, li7, li8, li12, li16, li24, li48, li500, gF_sA, gA_sF, gF_sF, gR_sA, gR_sF, gL_sA, gL_sF, gA_sA, shl_t, or_t, and_t, sbit_t, ubit_t, b01_0, b01_1, Option.bind_some, ↓reduceIte, eq_self, ne_eq, not_true_eq_false, Bool.false_eq_true, not_false_eq_true, true_and, and_true, false_and, and_false, if_pos, if_neg, e9, y3', e25, z, h3]
      · have hsn := pkL_succ (ld := ld) (L := L) hp
        rw [if_neg z, List.append_nil] at hsn
        obtain ⟨w', e1, e2⟩ := ih f' (q + 1) v (by omega) (by omega) hv (by rw [hsn]; exact h3) (by rw [hsn]; exact h27)
        refine ⟨w', ?_, e2⟩
        rw [lp_X4_pickBearing_102, ← e1]
        simp (disch := omega) only [↓lm1, ↓lm2, eq_n1, eq_n2, n1_eq, n2_eq, n1_n2, n2_n1, n1_lt, n2_lt, n1_le, lt_n1, lt_n2, inb_t, cl_t, le_tt, le_tf, lt_tt, lt_tf, eq_tt, eq_tf, q_add, q_mul, li0, li1, li2, li3, li4, li5, li6, li7, li8, li12, li16, li24, li48, li500, gF_sA, gA_sF, gF_sF, gR_sA, gR_sF, gL_sA, gL_sF, gA_sA, shl_t, or_t, and_t, sbit_t, ubit_t, b01_0, b01_1, Option.bind_some, ↓reduceIte, eq_self, ne_eq, not_true_eq_false, Bool.false_eq_true, not_false_eq_true, true_and, and_true, false_and, and_false, if_pos, if_neg, e9, y3', e25, z]
  -- one pass
  have pass : ∀ (kk : Int32 → Option Mem) (L : Nat) (v3 v4 : Int32), L < 16777216 → ∀ r fuel q, q + r = tN (cT tk R A) → r < fuel → lp_X4_pickBearing_37 kk N w f v3 v4 fuel (nI (psB (cT tk R A) ld L q)) (nI q) = kk (nI (psB (cT tk R A) ld L (tN (cT tk R A)))) := by
    intro kk L v3 v4 hL r
    induction r with
    | zero =>
      intro fuel q hq hf
      obtain ⟨f', rfl⟩ : ∃ f, fuel = f + 1 := ⟨fuel - 1, by omega⟩
      have e : q = tN (cT tk R A) := by omega
      subst e
      rw [lp_X4_pickBearing_37]
      simp (disch := omega) only [↓lm1, ↓lm2, eq_n1, eq_n2, n1_eq, n2_eq, n1_n2, n2_n1, n1_lt, n2_lt, n1_le, lt_n1, lt_n2, inb_t, cl_t, le_tt, le_tf, lt_tt, lt_tf, eq_tt, eq_tf, q_add, q_mul, li0, li1, li2, li3, li4, li5, li6, li7, li8, li12, li16, li24, li48, li500, gF_sA, gA_sF, gF_sF, gR_sA, gR_sF, gL_sA, gL_sF, gA_sA, shl_t, or_t, and_t, sbit_t, ubit_t, b01_0, b01_1, Option.bind_some, ↓reduceIte, eq_self, ne_eq, not_true_eq_false, Bool.false_eq_true, not_false_eq_true, true_and, and_true, false_and, and_false, if_pos, if_neg, x10]
    | succ r ih =>
      intro fuel q hq hf
      obtain ⟨f', rfl⟩ : ∃ f, fuel = f + 1 := ⟨fuel - 1, by omega⟩
      have hqn : q < tN (cT tk R A) := by omega
      obtain ⟨p1, p2⟩ := partLeads_ok (N := N) xT xG (by omega) hqn
      have e25 := xG.2.2.2.2 q hqn
      have hlq := hl q hqn
      have hlt := psB_lt (T := cT tk R A) (ld := ld) hL q (fun i hi => hpl i (by omega))
      have hst : psB (cT tk R A) ld L (q + 1) = if (psB (cT tk R A) ld L q).testBit (ld q) = true then psB (cT tk R A) ld L q ||| plB (cT tk R A) ld q (tA (cT tk R A) (tF (cT tk R A) q)) else psB (cT tk R A) ld L q := rfl
      rw [lp_X4_pickBearing_37, ← ih f' (q + 1) (by omega) (by omega), hst]
      by_cases z : (psB (cT tk R A) ld L q).testBit (ld q) = true
      · rw [if_pos z]
        simp (disch := omega) only [↓lm1, ↓lm2, eq_n1, eq_n2, n1_eq, n2_eq, n1_n2, n2_n1, n1_lt, n2_lt, n1_le, lt_n1, lt_n2, inb_t, cl_t, le_tt, le_tf, lt_tt, lt_tf, eq_tt, eq_tf, q_add, q_mul, li0, li1, li2, li3, li4, li5, li6, li7, li8, li12, li16, li24, li48, li500, gF_sA, gA_sF, gF_sF, gR_sA, gR_sF, gL_sA, gL_sF, gA_sA, shl_t, or_t, and_t, sbit_t, ubit_t, b01_0, b01_1, Option.bind_some, ↓reduceIte, eq_self, ne_eq, not_true_eq_false, Bool.false_eq_true, not_false_eq_true, true_and, and_true, false_and, and_false, if_pos, if_neg, x10, e25, z, p1]
      · rw [if_neg z]
        simp (disch := omega) only [↓lm1, ↓lm2, eq_n1, eq_n2, n1_eq, n2_eq, n1_n2, n2_n1, n1_lt, n2_lt, n1_le, lt_n1, lt_n2, inb_t, cl_t, le_tt, le_tf, lt_tt, lt_tf, eq_tt, eq_tf, q_add, q_mul, li0, li1, li2, li3, li4, li5, li6, li7, li8, li12, li16, li24, li48, li500, gF_sA, gA_sF, gF_sF, gR_sA, gR_sF, gL_sA, gL_sF, gA_sA, shl_t, or_t, and_t, sbit_t, ubit_t, b01_0, b01_1, Option.bind_some, ↓reduceIte, eq_self, ne_eq, not_true_eq_false, Bool.false_eq_true, not_false_eq_true, true_and, and_true, false_and, and_false, if_pos, if_neg, x10, e25, z]
  have rounds : ∀ r fuel v4 L Lb, v4 + r = 25 → r + 1 < fuel → L < 16777216 → Lb < 16777216 → L.testBit (ld t) = true → (L = Lb → ClB (cT tk R A) ld L) → (L ≠ Lb → v4 + 1 ≤ pop L) → ∃ L', lp_X4_pickBearing_20 (fun (u2_2 : Int32) => (f_X4_pickBearing_94 N w f u2_2)) N w f fuel (nI L) (nI Lb) (nI v4) = f_X4_pickBearing_94 N w f (nI L') ∧ L' < 16777216 ∧ ClB (cT tk R A) ld L' ∧ L'.testBit (ld t) = true := by
    intro r
    induction r with
    | zero =>
      intro fuel v4 L Lb hv hf hL hLb hbt hcl hpp
      obtain ⟨f', rfl⟩ : ∃ f, fuel = f + 1 := ⟨fuel - 1, by omega⟩
      have hp := pop_le L
      have e : L = Lb := Classical.byContradiction (fun z => by have := hpp z; omega)
      refine ⟨L, ?_, hL, hcl e, hbt⟩
      rw [lp_X4_pickBearing_20]
      simp (disch := omega) only [↓lm1, ↓lm2, eq_n1, eq_n2, n1_eq, n2_eq, n1_n2, n2_n1, n1_lt, n2_lt, n1_le, lt_n1, lt_n2, inb_t, cl_t, le_tt, le_tf, lt_tt, lt_tf, eq_tt, eq_tf, q_add, q_mul, li0, li1, li2, li3, li4, li5, li6, li7, li8, li12, li16, li24, li48, li500, gF_sA, gA_sF, gF_sF, gR_sA, gR_sF, gL_sA, gL_sF, gA_sA, shl_t, or_t, and_t, sbit_t, ubit_t, b01_0, b01_1, Option.bind_some, ↓reduceIte, eq_self, ne_eq, not_true_eq_false, Bool.false_eq_true, not_false_eq_true, true_and, and_true, false_and, and_false, if_pos, if_neg]
    | succ r ih =>
      intro fuel v4 L Lb hv hf hL hLb hbt hcl hpp
      obtain ⟨f', rfl⟩ : ∃ f, fuel = f + 1 := ⟨fuel - 1, by omega⟩
      by_cases e : L = Lb
      · refine ⟨L, ?_, hL, hcl e, hbt⟩
        rw [lp_X4_pickBearing_20]
        simp (disch := omega) only [↓lm1, ↓lm2, eq_n1, eq_n2, n1_eq, n2_eq, n1_n2, n2_n1, n1_lt, n2_lt, n1_le, lt_n1, lt_n2, inb_t, cl_t, le_tt, le_tf, lt_tt, lt_tf, eq_tt, eq_tf, q_add, q_mul, li0, li1, li2, li3, li4, li5, li6, li7, li8, li12, li16, li24, li48, li500, gF_sA, gA_sF, gF_sF, gR_sA, gR_sF, gL_sA, gL_sF, gA_sA, shl_t, or_t, and_t, sbit_t, ubit_t, b01_0, b01_1, Option.bind_some, ↓reduceIte, eq_self, ne_eq, not_true_eq_false, Bool.false_eq_true, not_false_eq_true, true_and, and_true, false_and, and_false, if_pos, if_neg]
      · have hL' := psB_lt (T := cT tk R A) (ld := ld) hL (tN (cT tk R A)) hpl
        have hsub := psB_sub (T := cT tk R A) (ld := ld) (L := L) (tN (cT tk R A))
        obtain ⟨L', a1, a2⟩ := ih f' (v4 + 1) (psB (cT tk R A) ld L (tN (cT tk R A))) L (by omega) (by omega) hL' hL (hsub _ hbt) (fun q => by
          have := psB_fix q
          rw [q]; exact this) (fun q => by
          have h1 := pop_strict hL hL' hsub q
          have h2 := hpp e
          omega)
        refine ⟨L', ?_, a2⟩
        rw [lp_X4_pickBearing_20, ← a1]
        simp (disch := omega) only [↓lm1, ↓lm2, eq_n1, eq_n2, n1_eq, n2_eq, n1_n2, n2_n1, n1_lt, n2_lt, n1_le, lt_n1, lt_n2, inb_t, cl_t, le_tt, le_tf, lt_tt, lt_tf, eq_tt, eq_tf, q_add, q_mul, li0, li1, li2, li3, li4, li5, li6, li7, li8, li12, li16, li24, li48, li500, gF_sA, gA_sF, gF_sF, gR_sA, gR_sF, gL_sA, gL_sF, gA_sA, shl_t, or_t, and_t, sbit_t, ubit_t, b01_0, b01_1, Option.bind_some, ↓reduceIte, eq_self, ne_eq, not_true_eq_false, Bool.false_eq_true, not_false_eq_true, true_and, and_true, false_and, and_false, if_pos, if_neg]
        refine (pass _ L (nI L) (nI v4) hL (tN (cT tk R A)) N 0 (by omega) (by omega)).trans ?_
        simp (disch := omega) only [↓lm1, ↓lm2, eq_n1, eq_n2, n1_eq, n2_eq, n1_n2, n2_n1, n1_lt, n2_lt, n1_le, lt_n1, lt_n2, inb_t, cl_t, le_tt, le_tf, lt_tt, lt_tf, eq_tt, eq_tf, q_add, q_mul, li0, li1, li2, li3, li4, li5, li6, li7, li8, li12, li16, li24, li48, li500, gF_sA, gA_sF, gF_sF, gR_sA, gR_sF, gL_sA, gL_sF, gA_sA, shl_t, or_t, and_t, sbit_t, ubit_t, b01_0, b01_1, Option.bind_some, ↓reduceIte, eq_self, ne_eq, not_true_eq_false, Bool.false_eq_true, not_false_eq_true, true_and, and_true, false_and, and_false, if_pos, if_neg, f_X4_pickBearing_88_20]
  have hlt := hl t ht
  have e25 := xG.2.2.2.2 t ht
  have htn : t < tN (cT tk R A) := ht
  obtain ⟨L, a1, a2, a3, a4⟩ := rounds 25 N 0 (2 ^ ld t) 0 (by omega) (by omega) (p2lt (b := 24) hlt) (by omega) (by rw [Nat.testBit_two_pow]; exact decide_eq_true rfl) (fun q => by have := Nat.two_pow_pos (ld t); omega) (fun _ => by
    have := pop_or (b := 0) (x := ld t) hlt
    rw [Nat.zero_or, Nat.zero_testBit, if_neg (by decide)] at this
    omega)
  have hw1 : Fr (fun k j i => k = 4 ∧ j = 3 ∧ i = 0) (fun k i => k = 27 ∧ i = 0) w (sF w 4 3 0 (nI 0)) := ⟨fun k j i z => by rw [gF_sF, if_neg z], fun _ _ _ => rfl, fun _ _ => rfl, fun _ _ _ => rfl⟩
  obtain ⟨w', b1, b2, b3, b4⟩ := keyP L a2 (cSs tk R A).length N 0 (sF w 4 3 0 (nI 0)) (by omega) (by omega) hw1 (by rw [gF_sF, if_pos ⟨rfl, rfl, rfl⟩]; rfl) (fun k p hkp => by simp [pkL] at hkp)
  refine ⟨w', L, ?_, a3, a4, b2, b3, b4⟩
  rw [f_X4_pickBearing, h44]
  simp (disch := omega) only [↓lm1, ↓lm2, eq_n1, eq_n2, n1_eq, n2_eq, n1_n2, n2_n1, n1_lt, n2_lt, n1_le, lt_n1, lt_n2, inb_t, cl_t, le_tt, le_tf, lt_tt, lt_tf, eq_tt, eq_tf, q_add, q_mul, li0, li1, li2, li3, li4, li5, li6, li7, li8, li12, li16, li24, li48, li500, gF_sA, gA_sF, gF_sF, gR_sA, gR_sF, gL_sA, gL_sF, gA_sA, shl_t, or_t, and_t, sbit_t, ubit_t, b01_0, b01_1, Option.bind_some, ↓reduceIte, eq_self, ne_eq, not_true_eq_false, Bool.false_eq_true, not_false_eq_true, true_and, and_true, false_and, and_false, if_pos, if_neg, e25]
  refine a1.trans ?_
  rw [f_X4_pickBearing_94]
  exact b1
