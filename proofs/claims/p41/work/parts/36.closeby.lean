/-! Facts: closeBy gives the closed leads of the sames chosen -/
/-- the sames of facts f -/
def SS (w : Mem) (f n : Nat) (S : List (Nat × Nat)) : Prop := S.length ≤ 12 ∧ gF w 1 9 f = nI S.length ∧ ∀ (p i j : Nat), S[p]? = some (i, j) → i < n ∧ j < n ∧ gA w 13 f p = nI i ∧ gA w 14 f p = nI j
theorem bit_ok {b k : Nat} (hb : b < 2 ^ 31) (hk : k < 32) : (ushr (nI b) (nI k)) &&& (1 : Int32) = if b.testBit k = true then 1 else 0 := by
  have hk2 : (BitVec.ofNat 32 k).toNat = k := by rw [BitVec.toNat_ofNat]; exact Nat.mod_eq_of_lt (by omega)
  have e : ((ushr (nI b) (nI k)) &&& (1 : Int32)).toBitVec = (BitVec.ofNat 32 b >>> k) &&& 1#32 := by
    unfold ushr nI
    simp
    rw [Nat.mod_eq_of_lt (show k < 4294967296 by omega), show (31 : Nat) = 2 ^ 5 - 1 from rfl, Nat.and_two_pow_sub_one_eq_mod, Nat.mod_eq_of_lt (show k < 2 ^ 5 by omega), Nat.mod_eq_of_lt hk]
    rfl
  apply Int32.toBitVec_inj.mp
  rw [e]
  apply BitVec.eq_of_toNat_eq
  rw [BitVec.toNat_and, BitVec.toNat_ushiftRight, BitVec.toNat_ofNat, Nat.mod_eq_of_lt (by omega), show (1#32).toNat = 1 from rfl, Nat.and_one_is_mod, Nat.shiftRight_eq_div_pow]
  by_cases h : b.testBit k = true
  · rw [if_pos h]
    have := Nat.testBit_eq_decide_div_mod_eq (x := b) (i := k)
    rw [h] at this
    have := of_decide_eq_true this.symm
    rw [this]; rfl
  · rw [if_neg h]
    have := Nat.testBit_eq_decide_div_mod_eq (x := b) (i := k)
    have h2 : ¬ (b / 2 ^ k % 2 = 1) := fun z => h (by rw [this]; exact decide_eq_true z)
    have : b / 2 ^ k % 2 = 0 := by omega
    rw [this]; rfl
/-- the pairs chosen -/
def Pk (S : List (Nat × Nat)) (b i j : Nat) : Prop := ∃ p, b.testBit p = true ∧ S[p]? = some (i, j)
theorem SS.fr {w v : Mem} {f n : Nat} {S : List (Nat × Nat)} {P : Nat → Nat → Nat → Prop} {Q : Nat → Nat → Prop} (h : SS w f n S) (hf : Fr P Q w v) (hP : ∀ k j i, P k j i → k ≠ 1) (hQ : ∀ k i, Q k i → k ≠ 13 ∧ k ≠ 14) : SS v f n S := by
  obtain ⟨s1, s2, s3⟩ := h
  have a1 : gF v 1 9 f = gF w 1 9 f := hf.1 _ _ _ (fun z => hP _ _ _ z rfl)
  have b1 : gA v 13 f = gA w 13 f := hf.2.1 _ _ (fun z => (hQ _ _ z).1 rfl)
  have b2 : gA v 14 f = gA w 14 f := hf.2.1 _ _ (fun z => (hQ _ _ z).2 rfl)
  refine ⟨s1, a1.trans s2, fun p i j hp => ?_⟩
  rw [b1, b2]; exact s3 p i j hp
theorem lp_closeBy (k : Mem → Option Mem) {N f g b : Nat} {T : Trm} {S : List (Nat × Nat)} (hN : 24 < N) (hb : b < 2 ^ 31) : ∀ (r fuel q : Nat) (w : Mem) (d : Nat → Nat), q + r = S.length → r < fuel → SS w f (tN T) S → GS w g (tN T) d → (∀ p i j, p < q → b.testBit p = true → S[p]? = some (i, j) → d i = d j) → (∀ R, Congr T R → (∀ i j, Pk S b i j → R i j) → Jst (tN T) d R) → ∃ w' d', lp_X1_closeBy_13 k N f g (nI b) fuel w (nI q) = k w' ∧ GS w' g (tN T) d' ∧ (∀ i j, Pk S b i j → d' i = d' j) ∧ (∀ R, Congr T R → (∀ i j, Pk S b i j → R i j) → Jst (tN T) d' R) ∧ Fr (gP g) (gQ g) w w' := by
  intro r
  induction r with
  | zero =>
    intro fuel q w d hq hf hS hG hd hJ
    obtain ⟨f', rfl⟩ : ∃ f, fuel = f + 1 := ⟨fuel - 1, by omega⟩
    have s1 := hS.1
    refine ⟨w, d, ?_, hG, fun i j h => ?_, hJ, Fr.rf⟩
    · rw [lp_X1_closeBy_13, hS.2.1, if_pos ((nI_le_iff (by omega) (by omega)).mpr (by omega))]
    · obtain ⟨p, h1, h2⟩ := h
      have := (List.getElem?_eq_some_iff.mp h2).1
      exact hd p i j (by omega) h1 h2
  | succ r ih =>
    intro fuel q w d hq hf hS hG hd hJ
    obtain ⟨f', rfl⟩ : ∃ f, fuel = f + 1 := ⟨fuel - 1, by omega⟩
    have s1 := hS.1
    obtain ⟨⟨i, j⟩, hp⟩ : ∃ p, S[q]? = some p := ⟨_, List.getElem?_eq_getElem (by omega)⟩
    obtain ⟨h1, h2, q1, q2⟩ := hS.2.2 q i j hp
    by_cases z : b.testBit q = true
    · obtain ⟨w1, e1, e2, e3⟩ := unite_ok hG (N := N) (i := i) (j := j) (by have := hG.1; omega) h1 h2
      obtain ⟨w', d', a1, a2, a3, a4, a5⟩ := ih f' (q + 1) w1 (un d i j) (by omega) (by omega) (hS.fr e3 (fun _ _ _ h => by omega) (fun _ _ h => by omega)) e2 (fun p x y hpq hbt hxy => by
        by_cases e : p = q
        · subst e
          rw [hp] at hxy
          obtain ⟨rfl, rfl⟩ := Prod.mk.inj (Option.some.inj hxy)
          exact un_a
        · exact un_mono (hd p x y (by omega) hbt hxy)) (fun R hR hE => jst_un hR (hJ R hR hE) h1 h2 (hE i j ⟨q, z, hp⟩))
      refine ⟨w', d', ?_, a2, a3, a4, e3.tr a5⟩
      rw [lp_X1_closeBy_13, hS.2.1, if_neg (fun y => by have := (nI_le_iff (by omega) (by omega)).mp y; omega), bit_ok hb (by omega), if_pos z, if_neg (by decide), if_pos (inb_nI (by omega) (by omega)), nI_clamp (by omega), q1, q2, e1, Option.bind_some, show nI q + (1 : Int32) = nI (q + 1) from n_add q 1]
      exact a1
    · obtain ⟨w', d', a1, a2, a3, a4, a5⟩ := ih f' (q + 1) w d (by omega) (by omega) hS hG (fun p x y hpq hbt hxy => by
        by_cases e : p = q
        · subst e; exact absurd hbt z
        · exact hd p x y (by omega) hbt hxy) hJ
      refine ⟨w', d', ?_, a2, a3, a4, a5⟩
      rw [lp_X1_closeBy_13, hS.2.1, if_neg (fun y => by have := (nI_le_iff (by omega) (by omega)).mp y; omega), bit_ok hb (by omega), if_neg z, if_pos rfl, show nI q + (1 : Int32) = nI (q + 1) from n_add q 1]
      exact a1
theorem closeBy_ok {N f g b : Nat} {w : Mem} {T : Trm} {S : List (Nat × Nat)} (hN : 276 < N) (hb : b < 2 ^ 31) (hT : TS w f T) (hS : SS w f (tN T) S) : ∃ w' ld', f_X1_closeBy N w f (nI b) g = some w' ∧ GS w' g (tN T) ld' ∧ (∀ i j, i < tN T → j < tN T → (ld' i = ld' j ↔ Cg T (Pk S b) i j)) ∧ Fr (gP g) (fun k i => gQ g k i ∨ k = 37 ∧ i = f) w w' := by
  have t1 := hT.1
  have s1 := hS.1
  obtain ⟨w1, a1, a2, a3⟩ := partAll_ok w g (m := tN T) t1 (N := N) (by omega)
  have hT1 := hT.fr a3 (fun _ _ _ h => by omega) (fun _ _ h => by omega)
  obtain ⟨w2, d, b1, b2, b3, b4, b5⟩ := lp_closeBy (fun w_3 => f_X1_closeBy_51 N w_3 f g) (N := N) (f := f) (g := g) (b := b) (T := T) (S := S) (by omega) hb S.length N 0 w1 (fun i => i) (by omega) (by omega) (hS.fr a3 (fun _ _ _ h => by omega) (fun _ _ h => by omega)) a2 (fun p i j h => absurd h (Nat.not_lt_zero p)) (fun R hR hE i j hi hj h => by rw [show i = j from h]; exact hR.1 j hj)
  have hT2 := hT1.fr b5 (fun _ _ _ h => by omega) (fun _ _ h => by omega)
  obtain ⟨w3, ld, c1, c2, c3, c4⟩ := close_ok hN hT2 b2
  refine ⟨w3, ld, ?_, c2, clo_iff c3.1 (fun i j h => c3.2.1 i j (b3 i j h)) (c3.2.2 _ (cg_congr T hT.2.1 _) (b4 _ (cg_congr T hT.2.1 _) (fun i j h => cg_in h))), (Fr.tr (a3.mono (fun _ _ _ h => h) (fun _ _ h => Or.inl h)) (b5.mono (fun _ _ _ h => h) (fun _ _ h => Or.inl h))).tr c4⟩
  rw [f_X1_closeBy, hT.2.2.1, a1, Option.bind_some]
  refine b1.trans ?_
  rw [f_X1_closeBy_51, c1]
  rfl

