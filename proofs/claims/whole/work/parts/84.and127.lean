/-! the last mask of Long.bitCount -/
theorem and127 (d : Nat) : andI (w32 (d : Int)) 127 = ((d % 128 : Nat) : Int) := by
  have e : (w32 (d : Int) % 4294967296).toNat = d % 4294967296 := by unfold w32; omega
  unfold andI
  show (Int32.ofInt (w32 (d : Int)) &&& Int32.ofInt 127).toBitVec.toInt = _
  have h1 : (Int32.ofInt (w32 (d : Int)) &&& Int32.ofInt 127).toBitVec.toNat = d % 128 := by
    rw [Int32.toBitVec_and, Int32.toBitVec_ofInt, BitVec.toNat_and, BitVec.toNat_ofInt]
    show (w32 (d : Int) % 4294967296).toNat &&& (2 ^ 7 - 1) = d % 128
    rw [e, Nat.and_two_pow_sub_one_eq_mod]
    omega
  rw [BitVec.toInt_eq_toNat_of_lt (by rw [h1]; omega), h1]
