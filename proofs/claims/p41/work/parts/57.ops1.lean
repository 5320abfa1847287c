/-! calls that look: about, function, term, partOf, diffOf, joinOf, height, hung, equal, apart, fault, where, size, trouble -/
theorem isT_cases (n : Nat) (x : Int32) (hn : n < 2147483648) : (∃ t, t < n ∧ x = nI t) ∨ (x < 0 ∧ ¬ isT n x) ∨ ∃ k, n ≤ k ∧ k < 2147483648 ∧ x = nI k ∧ ¬ isT n x := by
  rcases i_cases x with h | ⟨k, hk, rfl⟩
  · exact Or.inr (Or.inl ⟨h, fun ⟨t, ht, e⟩ => by rw [e] at h; exact nI_nn (by omega) h⟩)
  · by_cases z : k < n
    · exact Or.inl ⟨k, z, rfl⟩
    · exact Or.inr (Or.inr ⟨k, by omega, hk, rfl, fun ⟨t, ht, e⟩ => z (by have := (nI_inj_iff (by omega) (by omega)).mp e; omega)⟩)
theorem notT {n : Nat} {x : Int32} (h : ¬ isT n x) : ∀ q, q < n → (x = nI q) = False := fun q hq => eq_false (fun e => h ⟨q, hq, e⟩)
theorem bit_0 (N : Nat) (w : Mem) : f_X8_bit N w (nI 0) = some (nI 0) := rfl
theorem bit_1 (N : Nat) (w : Mem) : f_X8_bit N w (nI 1) = some (nI 1) := rfl
theorem bit_p (N : Nat) (w : Mem) (P : Prop) : f_X8_bit N w (nI (b01 P)) = some (nI (b01 P)) := by
  by_cases h : P
  · rw [b01_t h]; rfl
  · rw [b01_f h]; rfl
theorem dpt_stab {L : Tl} : ∀ d m i, m + d = L.length → i < m → dpt L i = dpt (L.take m) i := by
  intro d
  induction d with
  | zero => intro m i hm hi; rw [List.take_of_length_le (by omega)]
  | succ d ih =>
    intro m i hm hi
    obtain ⟨x, hx⟩ := get_at L (q := m) (by omega)
    rw [ih (m + 1) i (by omega) (by omega), take_snoc hx, dpt_snoc, List.length_take, if_neg (by omega)]
theorem dpt_rec {L : Tl} (hL : ∀ i, i < L.length → ∀ k, k < (tlP L i).length → (tlP L i).getD k 0 < i) {i : Nat} (hi : i < L.length) : dpt L i = dmx (fun k => dpt L ((tlP L i).getD k 0)) (tlP L i).length := by
  obtain ⟨x, hx⟩ := get_at L hi
  have hp : tlP L i = x.2 := by unfold tlP; rw [hx]; rfl
  rw [dpt_stab (L.length - (i + 1)) (i + 1) i (by omega) (by omega), take_snoc hx, dpt_snoc, List.length_take, if_pos (by omega), hp]
  refine dmx_cong _ (fun k hk => ?_)
  have := hL i hi k (by rw [hp]; exact hk)
  rw [hp] at this
  exact (dpt_stab (L.length - i) i _ (by omega) this).symm
theorem CI.drec {tk : Nat → Nat} {nf : Nat} {c : Core} (h : CI tk nf c) : ∀ i, i < (cL c).length → dpt (cL c) i = dmx (fun k => dpt (cL c) ((tlP (cL c) i).getD k 0)) (tlP (cL c) i).length := fun i hi => by
  refine dpt_rec (fun j hj k hk => ?_) hi
  have h5 := (h.2.2.2.2.1 j hj).2
  exact h.1.1 j hj k (by rw [tA_mk, tF_mk, ← h5]; exact hk)
theorem thrown_km (s : Nat) (w : Mem) : KM s w (sF w 9 0 0 (nI 0)) := ⟨fun k j i z => by rw [gF_sF, if_neg (by omega)], fun _ _ _ => rfl, fun _ _ => ⟨rfl, rfl⟩⟩
