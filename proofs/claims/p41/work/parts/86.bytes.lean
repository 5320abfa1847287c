/-! bytes of a word -/
def bq (x : Int32) (sh : Nat) : Nat := (x.toBitVec.toNat >>> sh) % 256
theorem bq_lt (x : Int32) (sh : Nat) : bq x sh < 256 := Nat.mod_lt _ (by omega)
theorem sb_int {b : Nat} (h : b < 256) : (sb b).toInt = if b < 128 then (b : Int) else (b : Int) - 256 := by
  unfold sb
  have key : ∀ b : Fin 256, (if b.val < 128 then nI b.val else nI b.val - 256).toInt = if b.val < 128 then (b.val : Int) else (b.val : Int) - 256 := by decide +kernel
  exact key ⟨b, h⟩
theorem nar_sb (y : Int32) : vp_nar .byte (y.toInt8.toInt32) = sb (y.toBitVec.toNat % 256) := by
  rw [vp_nar_byte]
  apply Int32.toInt_inj.mp
  rw [sb_int (Nat.mod_lt _ (by omega)), Int8.toInt_toInt32, Int32.toInt_toInt8, Int8.toInt_toInt32, Int32.toInt_toInt8]
  have h1 : y.toInt = Int.bmod (y.toBitVec.toNat : Int) (2 ^ 32) := by
    show y.toBitVec.toInt = _
    rw [BitVec.toInt_eq_toNat_bmod]
  rw [h1]
  generalize y.toBitVec.toNat = m
  have h2 : (Int.bmod (m : Int) (2 ^ 32)) % 256 = (m : Int) % 256 := by
    rw [Int.bmod_def]
    split <;> omega
  have h3 : ∀ z : Int, Int.bmod z (2 ^ 8) = if z % 256 < 128 then z % 256 else z % 256 - 256 := by
    intro z
    rw [Int.bmod_def]
    rfl
  rw [h3, h3]
  split <;> split <;> omega
theorem ushr_nat (x : Int32) {k : Nat} (hk : k < 32) : (ushr x (nI k)).toBitVec.toNat = x.toBitVec.toNat >>> k := by
  have hk2 : (BitVec.ofNat 32 k).toNat = k := by rw [BitVec.toNat_ofNat]; exact Nat.mod_eq_of_lt (by omega)
  unfold ushr nI
  simp
  rw [Nat.mod_eq_of_lt (show k < 4294967296 by omega), show (31 : Nat) = 2 ^ 5 - 1 from rfl, Nat.and_two_pow_sub_one_eq_mod, Nat.mod_eq_of_lt (show k < 2 ^ 5 by omega), Nat.mod_eq_of_lt hk]
theorem byteX (x : Int32) {k : Nat} (hk : k < 32) : vp_nar .byte ((ushr x (nI k)).toInt8.toInt32) = sb (bq x k) := by
  rw [nar_sb, ushr_nat x hk]; rfl
theorem byteX0 (x : Int32) : vp_nar .byte (x.toInt8.toInt32) = sb (bq x 0) := by
  rw [nar_sb]; rfl

