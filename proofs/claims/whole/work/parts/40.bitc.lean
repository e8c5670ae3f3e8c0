/-! counts of bits; people who come and go; marks of the valley; the PAD; sights -/
theorem ush32_n {a k : Nat} (ha : a < 2147483648) (hk : k < 32) : ush32 a k = ((a >>> k : Nat) : Int) := by
  unfold ush32
  have h : a >>> k ≤ a := by rw [Nat.shiftRight_eq_div_pow]; exact Nat.div_le_self _ _
  refine tiN _ _ ?_ (by omega)
  have e : ∀ k : Nat, k < 32 → (((i32 k).toUInt32 &&& Int32.toUInt32 31).toBitVec % 32) = BitVec.ofNat 32 k := by decide +kernel
  show ((i32 a).toUInt32 >>> ((i32 k).toUInt32 &&& Int32.toUInt32 31)).toBitVec.toNat = _
  rw [UInt32.toBitVec_shiftRight, e k hk]
  show ((i32 a).toBitVec >>> BitVec.ofNat 32 k).toNat = _
  simp only [i32, tbv]
  rw [BitVec.ushiftRight_eq']
  simp only [BitVec.toNat_ushiftRight, BitVec.toNat_ofNat]
  rw [Nat.mod_eq_of_lt (by omega), Nat.mod_eq_of_lt (by omega)]
theorem shr_le (a k : Nat) : a >>> k ≤ a := by rw [Nat.shiftRight_eq_div_pow]; exact Nat.div_le_self _ _
theorem um {a k m : Nat} (ha : a < 2147483648) (hk : k < 32) (hm : m < 2147483648) : and32 (ush32 (a : Int) (k : Int)) (m : Int) = ((a >>> k &&& m : Nat) : Int) := by
  have := shr_le a k
  rw [ush32_n ha hk, and32_n (by omega) hm]
def bcN (a : Nat) : Nat :=
  let x1 := a - (a >>> 1 &&& 1431655765)
  let x2 := (x1 &&& 858993459) + (x1 >>> 2 &&& 858993459)
  let x3 := (x2 + x2 >>> 4) &&& 252645135
  let x4 := x3 + x3 >>> 8
  let x5 := x4 + x4 >>> 16
  x5 &&& 63
set_option maxRecDepth 100000 in
theorem bc_ok : ∀ h : Nat, h < 256 → ∀ l : Nat, l < 128 → bcN (128 * h + l) = pc (128 * h + l) := by decide +kernel
theorem bc_f {a : Nat} (ha : a < 32768) : (and32 (w32 ((w32 ((and32 (w32 ((w32 ((and32 (w32 ((a : Int) - (and32 (ush32 (a : Int) 1) 1431655765))) 858993459) + (and32 (ush32 (w32 ((a : Int) - (and32 (ush32 (a : Int) 1) 1431655765))) 2) 858993459))) + (ush32 (w32 ((and32 (w32 ((a : Int) - (and32 (ush32 (a : Int) 1) 1431655765))) 858993459) + (and32 (ush32 (w32 ((a : Int) - (and32 (ush32 (a : Int) 1) 1431655765))) 2) 858993459))) 4))) 252645135) + (ush32 (and32 (w32 ((w32 ((and32 (w32 ((a : Int) - (and32 (ush32 (a : Int) 1) 1431655765))) 858993459) + (and32 (ush32 (w32 ((a : Int) - (and32 (ush32 (a : Int) 1) 1431655765))) 2) 858993459))) + (ush32 (w32 ((and32 (w32 ((a : Int) - (and32 (ush32 (a : Int) 1) 1431655765))) 858993459) + (and32 (ush32 (w32 ((a : Int) - (and32 (ush32 (a : Int) 1) 1431655765))) 2) 858993459))) 4))) 252645135) 8))) + (ush32 (w32 ((and32 (w32 ((w32 ((and32 (w32 ((a : Int) - (and32 (ush32 (a : Int) 1) 1431655765))) 858993459) + (and32 (ush32 (w32 ((a : Int) - (and32 (ush32 (a : Int) 1) 1431655765))) 2) 858993459))) + (ush32 (w32 ((and32 (w32 ((a : Int) - (and32 (ush32 (a : Int) 1) 1431655765))) 858993459) + (and32 (ush32 (w32 ((a : Int) - (and32 (ush32 (a : Int) 1) 1431655765))) 2) 858993459))) 4))) 252645135) + (ush32 (and32 (w32 ((w32 ((and32 (w32 ((a : Int) - (and32 (ush32 (a : Int) 1) 1431655765))) 858993459) + (and32 (ush32 (w32 ((a : Int) - (and32 (ush32 (a : Int) 1) 1431655765))) 2) 858993459))) + (ush32 (w32 ((and32 (w32 ((a : Int) - (and32 (ush32 (a : Int) 1) 1431655765))) 858993459) + (and32 (ush32 (w32 ((a : Int) - (and32 (ush32 (a : Int) 1) 1431655765))) 2) 858993459))) 4))) 252645135) 8))) 16))) 63) = ((pc a : Nat) : Int) := by
  have hb := bc_ok (a / 128) (by omega) (a % 128) (by omega)
  rw [show 128 * (a / 128) + a % 128 = a by omega] at hb
  rw [← hb]
  have s1 : and32 (ush32 (a : Int) 1) 1431655765 = ((a >>> 1 &&& 1431655765 : Nat) : Int) := um (k := 1) (m := 1431655765) (by omega) (by omega) (by omega)
  have l1 : a >>> 1 &&& 1431655765 ≤ a := Nat.le_trans Nat.and_le_left (shr_le a 1)
  have t1 : w32 ((a : Int) - ((a >>> 1 &&& 1431655765 : Nat) : Int)) = ((a - (a >>> 1 &&& 1431655765) : Nat) : Int) := by rw [w32_id (by omega) (by omega)]; omega
  simp only [s1, t1, bcN]
  generalize hx1 : a - (a >>> 1 &&& 1431655765) = x1
  have b1 : x1 < 32768 := by omega
  have s2 : and32 (ush32 (x1 : Int) 2) 858993459 = ((x1 >>> 2 &&& 858993459 : Nat) : Int) := um (k := 2) (m := 858993459) (by omega) (by omega) (by omega)
  have s2' : and32 (x1 : Int) 858993459 = ((x1 &&& 858993459 : Nat) : Int) := and32_n (b := 858993459) (by omega) (by omega)
  have l2 : x1 >>> 2 &&& 858993459 ≤ x1 := Nat.le_trans Nat.and_le_left (shr_le x1 2)
  have l2' : x1 &&& 858993459 ≤ x1 := Nat.and_le_left
  have t2 : w32 (((x1 &&& 858993459 : Nat) : Int) + ((x1 >>> 2 &&& 858993459 : Nat) : Int)) = (((x1 &&& 858993459) + (x1 >>> 2 &&& 858993459) : Nat) : Int) := by rw [w32_id (by omega) (by omega)]; omega
  simp only [s2, s2', t2]
  generalize hx2 : (x1 &&& 858993459) + (x1 >>> 2 &&& 858993459) = x2
  have b2 : x2 < 65536 := by omega
  have s3 : ush32 (x2 : Int) 4 = ((x2 >>> 4 : Nat) : Int) := ush32_n (k := 4) (by omega) (by omega)
  have l3 := shr_le x2 4
  have t3 : w32 ((x2 : Int) + ((x2 >>> 4 : Nat) : Int)) = ((x2 + x2 >>> 4 : Nat) : Int) := by rw [w32_id (by omega) (by omega)]; omega
  have u3 : and32 ((x2 + x2 >>> 4 : Nat) : Int) 252645135 = (((x2 + x2 >>> 4) &&& 252645135 : Nat) : Int) := and32_n (b := 252645135) (by omega) (by omega)
  have m3 : (x2 + x2 >>> 4) &&& 252645135 ≤ x2 + x2 >>> 4 := Nat.and_le_left
  simp only [s3, t3, u3]
  generalize hx3 : (x2 + x2 >>> 4) &&& 252645135 = x3 at m3
  have b3 : x3 < 131072 := by omega
  have s4 : ush32 (x3 : Int) 8 = ((x3 >>> 8 : Nat) : Int) := ush32_n (k := 8) (by omega) (by omega)
  have l4 := shr_le x3 8
  have t4 : w32 ((x3 : Int) + ((x3 >>> 8 : Nat) : Int)) = ((x3 + x3 >>> 8 : Nat) : Int) := by rw [w32_id (by omega) (by omega)]; omega
  simp only [s4, t4]
  generalize hx4 : x3 + x3 >>> 8 = x4
  have b4 : x4 < 262144 := by omega
  have s5 : ush32 (x4 : Int) 16 = ((x4 >>> 16 : Nat) : Int) := ush32_n (k := 16) (by omega) (by omega)
  have l5 := shr_le x4 16
  have t5 : w32 ((x4 : Int) + ((x4 >>> 16 : Nat) : Int)) = ((x4 + x4 >>> 16 : Nat) : Int) := by rw [w32_id (by omega) (by omega)]; omega
  simp only [s5, t5]
  exact and32_n (b := 63) (by omega) (by omega)
theorem x_bitCount (L : Nat) {a : Nat} (ha : a < 32768) (σ : Mem) (Q : PQ) : X L 209 0 [some (xI (a : Int))] [] σ Q = Q (some (xI (pc a : Int))) σ := by
  rw [e_209_0, bc_f ha]
