/-! how many bits a number has: the machine's count -/
theorem ushr_t {a k : Nat} (ha : a < 2147483648) (hk : k < 32) : ushr (nI a) (nI k) = nI (a / 2 ^ k) := by
  have hk2 : (BitVec.ofNat 32 k).toNat = k := by rw [BitVec.toNat_ofNat]; exact Nat.mod_eq_of_lt (by omega)
  apply Int32.toBitVec_inj.mp
  have e : (ushr (nI a) (nI k)).toBitVec = (BitVec.ofNat 32 a >>> k) := by
    unfold ushr nI
    simp
    rw [Nat.mod_eq_of_lt (show k < 4294967296 by omega), show (31 : Nat) = 2 ^ 5 - 1 from rfl, Nat.and_two_pow_sub_one_eq_mod, Nat.mod_eq_of_lt (show k < 2 ^ 5 by omega), Nat.mod_eq_of_lt hk]
    rfl
  rw [e]
  apply BitVec.eq_of_toNat_eq
  rw [BitVec.toNat_ushiftRight, BitVec.toNat_ofNat, Nat.mod_eq_of_lt (by omega), Nat.shiftRight_eq_div_pow, show (nI (a / 2 ^ k)).toBitVec = BitVec.ofNat 32 (a / 2 ^ k) from rfl, BitVec.toNat_ofNat, Nat.mod_eq_of_lt]
  have := Nat.div_le_self a (2 ^ k)
  omega
theorem tb_split {a y i : Nat} (ha : a < 256) : (a + 256 * y).testBit i = if i < 8 then a.testBit i else y.testBit (i - 8) := by
  rw [Nat.add_comm, show 256 = 2 ^ 8 from rfl, Nat.testBit_two_pow_mul_add y (show a < 2 ^ 8 from ha)]
theorem and_split {a b x y : Nat} (ha : a < 256) (hb : b < 256) : (a + 256 * x) &&& (b + 256 * y) = (a &&& b) + 256 * (x &&& y) := by
  have hab : a &&& b < 256 := Nat.lt_of_le_of_lt Nat.and_le_left ha
  apply Nat.eq_of_testBit_eq
  intro i
  rw [Nat.testBit_and, tb_split ha, tb_split hb, tb_split hab]
  by_cases h : i < 8
  · rw [if_pos h, if_pos h, if_pos h, Nat.testBit_and]
  · rw [if_neg h, if_neg h, if_neg h, Nat.testBit_and]
def s1b (x m : Nat) : Nat := x - (x / 2 &&& m)
def s2b (x m : Nat) : Nat := (x &&& m) + (x / 4 &&& m)
def s3b (x m : Nat) : Nat := (x + x / 16) &&& m
theorem byte1 : ∀ b, b < 256 → (b / 2 &&& 85) = ((b / 2 + 128) &&& 85) := by decide +kernel
theorem byte2 : ∀ b, b < 256 → (b / 4 &&& 51) = ((b / 4 + 64) &&& 51) ∧ (b / 4 &&& 51) = ((b / 4 + 128) &&& 51) ∧ (b / 4 &&& 51) = ((b / 4 + 192) &&& 51) := by decide +kernel
theorem byte3 : ∀ b, b < 256 → s3b (s2b (s1b b 85) 51) 15 = fb_ct (fun i => b.testBit i) 8 ∧ s2b (s1b b 85) 51 ≤ 68 ∧ s2b (s1b b 85) 51 % 16 ≤ 4 ∧ s1b b 85 < 256 ∧ (b / 2 &&& 85) ≤ b := by decide +kernel
theorem byte4 : ∀ b, b ≤ 68 → ∀ e, e ≤ 4 → ((b + b / 16) &&& 15) = ((b + b / 16 + 16 * e) &&& 15) ∧ b + b / 16 + 16 * e < 256 := by decide +kernel
theorem s1_split {b y m : Nat} (hb : b < 256) (hy : (y / 2 &&& m) ≤ y) : s1b (b + 256 * y) (85 + 256 * m) = s1b b 85 + 256 * s1b y m ∧ ((b + 256 * y) / 2 &&& (85 + 256 * m)) ≤ b + 256 * y := by
  have h1 : (b + 256 * y) / 2 = (b / 2 + 128 * (y % 2)) + 256 * (y / 2) := by omega
  have h5 := (byte3 b hb).2.2.2.2
  have h2 : (b / 2 + 128 * (y % 2)) &&& 85 = b / 2 &&& 85 := by
    rcases Nat.mod_two_eq_zero_or_one y with e | e
    · rw [e]; rfl
    · rw [e]; exact (byte1 b hb).symm
  unfold s1b
  rw [h1, and_split (by omega) (by omega), h2]
  omega
theorem s2_split {b y m : Nat} (hb : b < 256) : s2b (b + 256 * y) (51 + 256 * m) = s2b b 51 + 256 * s2b y m := by
  have h1 : (b + 256 * y) / 4 = (b / 4 + 64 * (y % 4)) + 256 * (y / 4) := by omega
  have h2 : (b / 4 + 64 * (y % 4)) &&& 51 = b / 4 &&& 51 := by
    obtain ⟨a1, a2, a3⟩ := byte2 b hb
    have : y % 4 = 0 ∨ y % 4 = 1 ∨ y % 4 = 2 ∨ y % 4 = 3 := by omega
    rcases this with e | e | e | e
    · rw [e]; rfl
    · rw [e]; exact a1.symm
    · rw [e]; exact a2.symm
    · rw [e]; exact a3.symm
  unfold s2b
  rw [h1, and_split hb (by omega), and_split (by omega) (by omega), h2]
  omega
theorem s3_split {b y m : Nat} (hb : b ≤ 68) (hy : y % 16 ≤ 4) : s3b (b + 256 * y) (15 + 256 * m) = s3b b 15 + 256 * s3b y m := by
  obtain ⟨a1, a2⟩ := byte4 b hb (y % 16) hy
  have h1 : b + 256 * y + (b + 256 * y) / 16 = (b + b / 16 + 16 * (y % 16)) + 256 * (y + y / 16) := by omega
  unfold s3b
  rw [h1, and_split a2 (by omega), ← a1]
theorem s0 (m : Nat) : s1b 0 m = 0 ∧ s2b 0 m = 0 ∧ s3b 0 m = 0 := by
  unfold s1b s2b s3b
  simp
theorem pop_nat {b0 b1 b2 : Nat} (h0 : b0 < 256) (h1 : b1 < 256) (h2 : b2 < 256) : s3b (s2b (s1b (b0 + 256 * (b1 + 256 * (b2 + 256 * 0))) 1431655765) 858993459) 252645135 = fb_ct (fun i => b0.testBit i) 8 + 256 * (fb_ct (fun i => b1.testBit i) 8 + 256 * (fb_ct (fun i => b2.testBit i) 8 + 256 * 0)) := by
  obtain ⟨p0, q0, r0, t0, u0⟩ := byte3 b0 h0
  obtain ⟨p1, q1, r1, t1, u1⟩ := byte3 b1 h1
  obtain ⟨p2, q2, r2, t2, u2⟩ := byte3 b2 h2
  have z1 : (0 / 2 &&& 85) ≤ 0 := by decide
  obtain ⟨e2, v2⟩ := s1_split (b := b2) (y := 0) (m := 85) h2 z1
  obtain ⟨e1, v1⟩ := s1_split (b := b1) (y := b2 + 256 * 0) (m := 85 + 256 * 85) h1 v2
  obtain ⟨e0, v0⟩ := s1_split (b := b0) (y := b1 + 256 * (b2 + 256 * 0)) (m := 85 + 256 * (85 + 256 * 85)) h0 v1
  have d2 : s2b (s1b b2 85 + 256 * 0) (51 + 256 * 51) = s2b (s1b b2 85) 51 + 256 * s2b 0 51 := s2_split t2
  rw [(s0 51).2.1] at d2
  have d1 := s2_split (b := s1b b1 85) (y := s1b b2 85 + 256 * 0) (m := 51 + 256 * 51) t1
  have d0 := s2_split (b := s1b b0 85) (y := s1b b1 85 + 256 * (s1b b2 85 + 256 * 0)) (m := 51 + 256 * (51 + 256 * 51)) t0
  rw [(s0 85).1] at e2
  rw [show 1431655765 = 85 + 256 * (85 + 256 * (85 + 256 * 85)) from rfl, e0, e1, e2, show 858993459 = 51 + 256 * (51 + 256 * (51 + 256 * 51)) from rfl, d0, d1, d2]
  have c2 := s3_split (b := s2b (s1b b2 85) 51) (y := 0) (m := 15) q2 (by decide)
  have c1 := s3_split (b := s2b (s1b b1 85) 51) (y := s2b (s1b b2 85) 51 + 256 * 0) (m := 15 + 256 * 15) q1 (by omega)
  have c0' := s3_split (b := s2b (s1b b0 85) 51) (y := s2b (s1b b1 85) 51 + 256 * (s2b (s1b b2 85) 51 + 256 * 0)) (m := 15 + 256 * (15 + 256 * 15)) q0 (by omega)
  rw [(s0 15).2.2] at c2
  rw [show 252645135 = 15 + 256 * (15 + 256 * (15 + 256 * 15)) from rfl, c0', c1, c2, p0, p1, p2]
def pop (b : Nat) : Nat := fb_ct (fun i => b.testBit i) 24
theorem s1b_le (x m : Nat) : s1b x m ≤ x := Nat.sub_le _ _
theorem pop_or {b x : Nat} (hx : x < 24) : pop (b ||| 2 ^ x) = pop b + if b.testBit x = true then 0 else 1 := by
  have h := fb_ct_upd (fun i => b.testBit i) true hx
  have e : pop (b ||| 2 ^ x) = fb_ct (fun k => if k = x then true else b.testBit k) 24 := by
    refine fb_ct_cong (fun k hk => ?_)
    show (b ||| 2 ^ x).testBit k = _
    rw [fb_bit_set]
    by_cases e : k = x
    · rw [if_pos e, decide_eq_true e, Bool.or_true]
    · rw [if_neg e, decide_eq_false e, Bool.or_false]
  rw [e]
  unfold pop
  by_cases z : b.testBit x = true
  · rw [if_pos z, if_pos rfl] at h
    rw [if_pos z]; omega
  · rw [if_neg z, if_pos rfl] at h
    rw [if_neg z]; omega

