/-! Told.closes: the least leads -/
def QC (n : Nat) (w : Mem) (d : Nat → Nat) : Prop := Can n d ∧ ∀ i, i < n → gA w 45 0 i = nI (d i)
abbrev Fr45 (w v : Mem) : Prop := Fr (fun _ _ _ => False) (fun k _ => k = 45) w v
theorem fr45_A {w : Mem} {x : Nat} {y : Int32} : Fr45 w (sA w 45 0 x y) := ⟨fun _ _ _ _ => rfl, fun k i z => by rw [gA_sA_ne (fun z2 => z z2.1)], fun _ _ => rfl, fun _ _ _ => rfl⟩
theorem TDm.f45 {w v : Mem} {L : Tl} {S : Prs} (h : TDm w L S) (hf : Fr45 w v) : TDm v L S := h.to (fun k x k1 k2 _ => by rw [hf.2.1 _ _ (by omega)]) (fun k x k1 k2 _ => by rw [hf.2.1 _ _ (by omega)])
theorem unites_ok {N n t u : Nat} {w : Mem} {d : Nat → Nat} (hN : 20 < N) (hn : n ≤ 12) (h9 : gF w 9 5 0 = nI n) (hQ : QC n w d) (ht : t < n) (hu : u < n) : ∃ w', f_X10_unites N w (nI t) (nI u) = some w' ∧ QC n w' (un d t u) ∧ Fr45 w w' := by
  obtain ⟨hC, hR⟩ := hQ
  have dl : ∀ i, i < n → d i < n := fun i hi => by have := (hC i hi).1; omega
  have dt := dl t ht
  have du := dl u hu
  let J : Nat → Mem → Prop := fun q v => Fr45 w v ∧ ∀ i, i < n → gA v 45 0 i = nI (if i < q then un d t u i else d i)
  obtain ⟨w', hJ, e⟩ := lpc n (fun f v q => lp_X10_unites_26 (fun (w_3 : Mem) => (f_X10_unites_73 N w_3)) N (nI (d t)) (nI (d u)) (nI (min (d t) (d u))) f v q) (fun v => f_X10_unites_73 N v) J (fun f v hJ => by
    show lp_X10_unites_26 _ N _ _ _ (f + 1) v (nI n) = _
    rw [lp_X10_unites_26, (hJ.1.1 9 5 0 (fun z => z)).trans h9]
    exact oit (nI_le (Nat.le_refl n) (by omega)) rfl) (fun f q v hq ⟨hF, hv⟩ => by
    have e9 := (hF.1 9 5 0 (fun z => z)).trans h9
    have eq0 : gA v 45 0 q = nI (d q) := by rw [hv q hq, if_neg (by omega)]
    have dq := dl q hq
    have hcl : (nI q).toNatClampNeg = q := nI_clamp (by omega)
    have hin : inb (nI q) 12 = true := inb_nI (by omega) (by omega)
    have e1 : nI q + (1 : Int32) = nI (q + 1) := nI1 q
    have fin : ∀ y, nI y = nI (un d t u q) → J (q + 1) (sA v 45 0 q (nI y)) := fun y hy => ⟨hF.tr fr45_A, fun i hi => by
      rw [gA_sA]
      by_cases z : i = q
      · subst z; rw [if_pos ⟨rfl, rfl, rfl⟩, if_pos (by omega)]; exact hy
      · rw [if_neg (fun z2 => z z2.2.2), hv i hi]
        by_cases z2 : i < q
        · rw [if_pos z2, if_pos (by omega)]
        · rw [if_neg z2, if_neg (by omega)]⟩
    by_cases z1 : d q = d t
    · refine ⟨_, fin (min (d t) (d u)) ?_, ?_⟩
      · congr 1
        unfold un
        by_cases m : d t ≤ d u
        · rw [Nat.min_eq_left m, Nat.max_eq_right m]; split <;> omega
        · rw [Nat.min_eq_right (by omega), Nat.max_eq_left (by omega), if_pos z1]
      · show lp_X10_unites_26 _ N _ _ _ (f + 1) v (nI q) = _
        rw [lp_X10_unites_26, e9]
        refine oie (nI_ge hq (by omega)) (oit hin ?_)
        rw [hcl, eq0, e1]
        exact oit (by rw [z1]) rfl
    · have n1 : ¬ nI (d q) = nI (d t) := fun z => z1 ((nI_inj_iff (by omega) (by omega)).mp z)
      by_cases z2 : d q = d u
      · refine ⟨_, fin (min (d t) (d u)) ?_, ?_⟩
        · congr 1
          unfold un
          by_cases m : d t ≤ d u
          · rw [Nat.min_eq_left m, Nat.max_eq_right m, if_pos z2]
          · rw [Nat.min_eq_right (by omega), Nat.max_eq_left (by omega)]; split <;> omega
        · show lp_X10_unites_26 _ N _ _ _ (f + 1) v (nI q) = _
          rw [lp_X10_unites_26, e9]
          refine oie (nI_ge hq (by omega)) (oit hin ?_)
          rw [hcl, eq0, e1]
          exact oie n1 (oit (by rw [z2]) rfl)
      · have n2 : ¬ nI (d q) = nI (d u) := fun z => z2 ((nI_inj_iff (by omega) (by omega)).mp z)
        have eun : un d t u q = d q := by
          unfold un
          by_cases m : d t ≤ d u
          · rw [Nat.max_eq_right m, if_neg z2]
          · rw [Nat.max_eq_left (by omega), if_neg z1]
        refine ⟨v, ⟨hF, fun i hi => ?_⟩, ?_⟩
        · rw [hv i hi]
          by_cases z3 : i < q
          · rw [if_pos z3, if_pos (by omega)]
          · by_cases z4 : i = q
            · subst z4; rw [if_neg z3, if_pos (by omega), eun]
            · rw [if_neg z3, if_neg (by omega)]
        · show lp_X10_unites_26 _ N _ _ _ (f + 1) v (nI q) = _
          rw [lp_X10_unites_26, e9]
          refine oie (nI_ge hq (by omega)) (oit hin ?_)
          rw [hcl, eq0, e1]
          exact oie n1 (oie n2 rfl)) 0 N w (by omega) (by omega) ⟨Fr.rf, fun i hi => by rw [if_neg (by omega)]; exact hR i hi⟩
  refine ⟨w', ?_, ⟨can_un hC ht hu, fun i hi => by rw [hJ.2 i hi, if_pos hi]⟩, hJ.1⟩
  rw [f_X10_unites]
  refine oit (inb_nI (by omega) (by omega)) (oit (inb_nI (by omega) (by omega)) ?_)
  rw [nI_clamp (by omega), nI_clamp (by omega), hR t ht, hR u hu, n_min (by omega) (by omega)]
  exact e
theorem tk5_v : tk5 0 = 0 ∧ tk5 1 = 0 ∧ tk5 2 = 0 ∧ tk5 3 = 1 ∧ tk5 4 = 2 := ⟨rfl, rfl, rfl, rfl, rfl⟩
/-- what is asked of the terms -/
def LO9 (L : Tl) : Prop := L.length ≤ 9 ∧ ∀ i, i < L.length → tlF L i < 5 ∧ (tlP L i).length = tk5 (tlF L i) ∧ ∀ k, k < tk5 (tlF L i) → (tlP L i).getD k 0 < i
theorem LO9.tok {L : Tl} (h : LO9 L) : TOK (mkT tk5 L) := fun i hi k hk => (h.2 i hi).2.2 k hk
theorem alike9 {N t u : Nat} {w : Mem} {L : Tl} {S : Prs} {d : Nat → Nat} (hL : LO9 L) (hT : TDm w L S) (hQ : QC L.length w d) (ht : t < L.length) (hu : u < L.length) : f_X10_isAlike N w (nI t) (nI u) = some (nI (b01 (alikeR (mkT tk5 L) (fun x y => d x = d y) t u))) := by
  obtain ⟨h9, hL⟩ := hL
  obtain ⟨ft, pt, bt⟩ := hL t ht
  obtain ⟨fu, pu, bu⟩ := hL u hu
  obtain ⟨a1, a2, a3⟩ := hT.1 t ht
  obtain ⟨c1, c2, c3⟩ := hT.1 u hu
  obtain ⟨v0, v1, v2, v3, v4⟩ := tk5_v
  have hct : (nI t).toNatClampNeg = t := nI_clamp (by omega)
  have hcu : (nI u).toNatClampNeg = u := nI_clamp (by omega)
  have hit : inb (nI t) 12 = true := inb_nI (by omega) (by omega)
  have hiu : inb (nI u) 12 = true := inb_nI (by omega) (by omega)
  have dl : ∀ i, i < L.length → d i < 9 := fun i hi => by have := (hQ.1 i hi).1; omega
  have hd : ∀ a b, a < L.length → b < L.length → (nI (d a) = nI (d b) ↔ d a = d b) := fun a b ha hb => nI_inj_iff (by have := dl a ha; omega) (by have := dl b hb; omega)
  rw [f_X10_isAlike]
  refine oit hit (oit hiu ?_)
  rw [hct, hcu, a1, c1]
  by_cases ef : tlF L t = tlF L u
  · refine oit (by rw [ef]) ?_
    by_cases f3 : tlF L t < 3
    · have e0 : tk5 (tlF L t) = 0 := by
        have : tlF L t = 0 ∨ tlF L t = 1 ∨ tlF L t = 2 := by omega
        rcases this with e | e | e <;> rw [e] <;> first | exact v0 | exact v1 | exact v2
      refine oit (show nI (tlF L t) < (3 : Int32) from nI_lt (b := 3) f3 (by omega)) ?_
      rw [f_X10_isAlike_50, hct, a1]
      refine oit hit (oit (show nI (tlF L t) < (4 : Int32) from nI_lt (b := 4) (by omega) (by omega)) ?_)
      rw [b01_t ⟨ef, fun k hk => absurd (show k < tk5 (tlF L t) from hk) (by omega)⟩]; rfl
    · have e1 : 1 ≤ tk5 (tlF L t) := by
        have : tlF L t = 3 ∨ tlF L t = 4 := by omega
        rcases this with e | e <;> rw [e] <;> omega
      have eu : tk5 (tlF L u) = tk5 (tlF L t) := by rw [ef]
      have bt0 := bt 0 (by omega)
      have bu0 := bu 0 (by omega)
      have a41 : gA w 41 0 t = nI ((tlP L t).getD 0 0) := a3 0 (by omega)
      have c41 : gA w 41 0 u = nI ((tlP L u).getD 0 0) := c3 0 (by omega)
      refine oie (show ¬ nI (tlF L t) < (3 : Int32) from nI_nlt (b := 3) (by omega) (by omega)) ?_
      rw [a41, c41]
      refine oit (inb_nI (by omega) (by omega)) (oit (inb_nI (by omega) (by omega)) ?_)
      rw [nI_clamp (by omega), nI_clamp (by omega), hQ.2 _ (by omega), hQ.2 _ (by omega)]
      by_cases e2 : d ((tlP L t).getD 0 0) = d ((tlP L u).getD 0 0)
      · refine oit (by rw [e2]) ?_
        rw [f_X10_isAlike_50, hct, hcu, a1]
        refine oit hit ?_
        by_cases f4 : tlF L t = 3
        · refine oit (show nI (tlF L t) < (4 : Int32) from nI_lt (b := 4) (by omega) (by omega)) ?_
          rw [b01_t ⟨ef, fun k hk => by
            have : k < tk5 (tlF L t) := hk
            rw [f4, v3] at this
            have : k = 0 := by omega
            subst this
            exact e2⟩]; rfl
        · have f4 : tlF L t = 4 := by omega
          have e22 : tk5 (tlF L t) = 2 := by rw [f4]; exact v4
          have bt1 := bt 1 (by omega)
          have bu1 := bu 1 (by omega)
          have a42 : gA w 42 0 t = nI ((tlP L t).getD 1 0) := a3 1 (by omega)
          have c42 : gA w 42 0 u = nI ((tlP L u).getD 1 0) := c3 1 (by omega)
          refine oie (show ¬ nI (tlF L t) < (4 : Int32) from nI_nlt (b := 4) (by omega) (by omega)) ?_
          rw [a42, c42]
          refine oit (inb_nI (by omega) (by omega)) (oit hiu (oit (inb_nI (by omega) (by omega)) ?_))
          rw [nI_clamp (by omega), nI_clamp (by omega), hQ.2 _ (by omega), hQ.2 _ (by omega)]
          by_cases e3 : d ((tlP L t).getD 1 0) = d ((tlP L u).getD 1 0)
          · refine oit (by rw [e3]) ?_
            rw [b01_t ⟨ef, fun k hk => by
              have : k < tk5 (tlF L t) := hk
              have : k = 0 ∨ k = 1 := by omega
              rcases this with rfl | rfl
              · exact e2
              · exact e3⟩]; rfl
          · refine oie (fun z => e3 ((hd _ _ (by omega) (by omega)).mp z)) ?_
            rw [b01_f (fun z => e3 (z.2 1 (show 1 < tk5 (tlF L t) by omega)))]; rfl
      · refine oie (fun z => e2 ((hd _ _ (by omega) (by omega)).mp z)) ?_
        rw [b01_f (fun z => e2 (z.2 0 (show 0 < tk5 (tlF L t) by omega)))]; rfl
  · refine oie (fun z => ef ((nI_inj_iff (by omega) (by omega)).mp z)) ?_
    rw [b01_f (fun z => ef z.1)]; rfl
