/-! numbers of the machine and natural ones; the memory's rows -/
theorem nI_le_iff {a b : Nat} (ha : a < 2 ^ 31) (hb : b < 2 ^ 31) : nI a ≤ nI b ↔ a ≤ b := ⟨fun h => Nat.le_of_not_lt (fun q => nI_ge q ha h), fun h => nI_le h hb⟩
theorem nI_lt_iff {a b : Nat} (ha : a < 2 ^ 31) (hb : b < 2 ^ 31) : nI a < nI b ↔ a < b := ⟨fun h => Nat.lt_of_not_le (fun q => nI_nlt q ha h), fun h => nI_lt h hb⟩
theorem nI_inj_iff {a b : Nat} (ha : a < 2 ^ 31) (hb : b < 2 ^ 31) : nI a = nI b ↔ a = b := ⟨fun h => by
  have h1 := congrArg Int32.toNatClampNeg h
  rwa [nI_clamp ha, nI_clamp hb] at h1, fun h => by rw [h]⟩
theorem inb_nI {k n : Nat} (h : k < n) (hn : n ≤ 2 ^ 31) : inb (nI k) n = true := by
  unfold inb
  refine decide_eq_true ?_
  rw [nI_clamp (by omega)]
  exact fun q => q.elim (fun q => nI_pos (by omega) q) (fun q => by omega)
theorem n_add (a b : Nat) : nI a + nI b = nI (a + b) := by
  apply Int32.toBitVec_inj.mp
  show BitVec.ofNat 32 a + BitVec.ofNat 32 b = BitVec.ofNat 32 (a + b)
  rw [BitVec.ofNat_add]
theorem n_mul (a b : Nat) : nI a * nI b = nI (a * b) := by
  apply Int32.toBitVec_inj.mp
  show BitVec.ofNat 32 a * BitVec.ofNat 32 b = BitVec.ofNat 32 (a * b)
  rw [BitVec.ofNat_mul]
theorem n_sub {a b : Nat} (h : b ≤ a) : nI a - nI b = nI (a - b) := by
  have e : a = (a - b) + b := by omega
  have h1 := n_add (a - b) b
  rw [← e] at h1
  rw [← h1]
  apply Int32.toBitVec_inj.mp
  simp
theorem sAf_sAf (w : Mem) (k i : Nat) (f f' : Nat → Int32) : sAf (sAf w k i f) k i f' = sAf w k i f' := by
  unfold sAf
  refine Prod.ext rfl (Prod.ext ?_ rfl)
  funext k' i'
  by_cases h : k' = k ∧ i' = i
  · simp [h]
  · simp [h]
theorem sAf_self (w : Mem) (k i : Nat) : sAf w k i (gA w k i) = w := by
  unfold sAf gA
  refine Prod.ext rfl (Prod.ext ?_ rfl)
  funext k' i'
  by_cases h : k' = k ∧ i' = i
  · obtain ⟨rfl, rfl⟩ := h; simp
  · simp [h]
theorem gA_sAf_self (w : Mem) (k i : Nat) (f : Nat → Int32) : gA (sAf w k i f) k i = f := by rw [gA_sAf, if_pos ⟨rfl, rfl⟩]
/-- the row behind unite's loop -/
def uniRow (a : Nat → Int32) (t n : Nat) (kept gone : Int32) : Nat → Int32 := fun x => if t ≤ x ∧ x < n ∧ a x = gone then kept else a x
theorem lp_unite (k : Mem → Option Mem) (N g n : Nat) (kept gone : Int32) (hn : n ≤ 24) : ∀ (m fuel t : Nat) (w : Mem), t + m = n → m < fuel → gF w 3 1 g = nI n → lp_X3_unite_44 k N g kept gone fuel w (nI t) = k (sAf w 25 g (uniRow (gA w 25 g) t n kept gone)) := by
  intro m
  induction m with
  | zero =>
    intro fuel t w ht hf hF
    obtain ⟨f, rfl⟩ : ∃ f, fuel = f + 1 := ⟨fuel - 1, by omega⟩
    rw [lp_X3_unite_44, hF, if_pos ((nI_le_iff (by omega) (by omega)).mpr (by omega))]
    have e : uniRow (gA w 25 g) t n kept gone = gA w 25 g := by
      funext x
      unfold uniRow
      rw [if_neg (by omega)]
    rw [e, sAf_self]
  | succ m ih =>
    intro fuel t w ht hf hF
    obtain ⟨f, rfl⟩ : ∃ f, fuel = f + 1 := ⟨fuel - 1, by omega⟩
    rw [lp_X3_unite_44, hF, if_neg (fun h => by have := (nI_le_iff (by omega) (by omega)).mp h; omega), if_pos (inb_nI (by omega) (by omega)), nI_clamp (by omega), show nI t + (1 : Int32) = nI (t + 1) from n_add t 1]
    by_cases hg : gA w 25 g t = gone
    · rw [if_pos hg, ih f (t + 1) (sA w 25 g t kept) (by omega) (by omega) hF]
      congr 1
      unfold sA
      rw [sAf_sAf, gA_sAf_self]
      congr 1
      funext x
      unfold uniRow upd
      by_cases hx : x = t
      · subst hx
        rw [if_neg (by omega), if_pos rfl, if_pos ⟨by omega, by omega, hg⟩]
      · by_cases h1 : t + 1 ≤ x ∧ x < n ∧ gA w 25 g x = gone
        · rw [if_pos (by rw [if_neg hx]; exact h1), if_pos ⟨by omega, h1.2⟩]
        · rw [if_neg (by rw [if_neg hx]; exact h1), if_neg hx, if_neg (fun q => h1 ⟨by omega, q.2⟩)]
    · rw [if_neg hg, ih f (t + 1) w (by omega) (by omega) hF]
      congr 2
      funext x
      unfold uniRow
      by_cases hx : x = t
      · subst hx
        rw [if_neg (by omega), if_neg (fun q => hg q.2.2)]
      · by_cases h1 : t + 1 ≤ x ∧ x < n ∧ gA w 25 g x = gone
        · rw [if_pos h1, if_pos ⟨by omega, h1.2⟩]
        · rw [if_neg h1, if_neg (fun q => h1 ⟨by omega, q.2⟩)]

