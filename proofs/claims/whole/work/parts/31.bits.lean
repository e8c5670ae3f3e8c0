/-! bits of naturals -/
theorem tbv (a : Nat) : (Int32.ofInt (a : Int)).toBitVec = BitVec.ofNat 32 a := by
  apply BitVec.eq_of_toNat_eq
  simp [Int32.toBitVec_ofInt]
theorem tiN (x : Int32) (n : Nat) (h : x.toBitVec.toNat = n) (hn : n < 2147483648) : x.toInt = (n : Int) := by
  have : x.toInt = x.toBitVec.toInt := rfl
  rw [this, BitVec.toInt_eq_toNat_of_lt (by omega), h]
theorem or32_n {a b : Nat} (ha : a < 2147483648) (hb : b < 2147483648) : or32 a b = ((a ||| b : Nat) : Int) := by
  unfold or32
  have h : a ||| b < 2 ^ 31 := Nat.or_lt_two_pow (by omega) (by omega)
  refine tiN _ _ ?_ (by omega)
  simp only [Int32.toBitVec_or, i32, tbv, BitVec.toNat_or, BitVec.toNat_ofNat]
  rw [Nat.mod_eq_of_lt (by omega), Nat.mod_eq_of_lt (by omega)]
theorem and32_n {a b : Nat} (ha : a < 2147483648) (hb : b < 2147483648) : and32 a b = ((a &&& b : Nat) : Int) := by
  unfold and32
  have h : a &&& b < 2 ^ 31 := Nat.lt_of_le_of_lt Nat.and_le_left (by omega)
  refine tiN _ _ ?_ (by omega)
  simp only [Int32.toBitVec_and, i32, tbv, BitVec.toNat_and, BitVec.toNat_ofNat]
  rw [Nat.mod_eq_of_lt (by omega), Nat.mod_eq_of_lt (by omega)]
theorem shr32_n {a k : Nat} (ha : a < 2147483648) (hk : k < 32) : shr32 a k = ((a >>> k : Nat) : Int) := by
  unfold shr32
  have h : a >>> k ≤ a := by rw [Nat.shiftRight_eq_div_pow]; exact Nat.div_le_self _ _
  refine tiN _ _ ?_ (by omega)
  have e : ∀ k : Nat, k < 32 → ((i32 k &&& 31).toBitVec.smod 32) = BitVec.ofNat 32 k := by decide +kernel
  have m : (BitVec.ofNat 32 a).msb = false := by
    rw [BitVec.msb_eq_false_iff_two_mul_lt]
    simp only [BitVec.toNat_ofNat]
    rw [Nat.mod_eq_of_lt (by omega)]
    omega
  rw [Int32.toBitVec_shiftRight, e k hk]
  simp only [i32, tbv]
  rw [BitVec.sshiftRight_eq', BitVec.sshiftRight_eq_of_msb_false m]
  simp only [BitVec.toNat_ushiftRight, BitVec.toNat_ofNat]
  rw [Nat.mod_eq_of_lt (by omega), Nat.mod_eq_of_lt (by omega)]
theorem shl32_n {k : Nat} (hk : k < 31) : shl32 1 k = ((2 ^ k : Nat) : Int) := by
  revert hk
  revert k
  decide
theorem bit_n {a k : Nat} (ha : a < 2147483648) (hk : k < 32) : bit (a : Int) (k : Int) ↔ a.testBit k = true := by
  unfold bit
  rw [shr32_n ha hk, show (1 : Int) = ((1 : Nat) : Int) from rfl, and32_n (by
    have h : a >>> k ≤ a := by rw [Nat.shiftRight_eq_div_pow]; exact Nat.div_le_self _ _
    omega) (by omega)]
  rw [Nat.testBit]
  have : (a >>> k) &&& 1 = 1 &&& (a >>> k) := Nat.and_comm _ _
  rw [this]
  simp only [bne_iff_ne, ne_eq]
  have h2 : 1 &&& (a >>> k) ≤ 1 := Nat.and_le_left
  omega
