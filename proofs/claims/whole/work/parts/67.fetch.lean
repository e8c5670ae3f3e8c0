/-! TOGETHER -/
section Fetch
variable {B : Int} {S σ τ : Mem} {L v : Nat} {T : Ful}
theorem sub_i (m : Int) (k : Nat) : and32 m (xor32 (k : Int) (-1)) = 0 ↔ ∀ i, i < 32 → (BitVec.ofInt 32 m).getLsbD i = true → k.testBit i = true := by
  unfold and32 xor32 i32
  rw [Int32.ofInt_toInt]
  have e1 : (Int32.ofInt m).toBitVec = BitVec.ofInt 32 m := rfl
  have z : ∀ x : Int32, x.toInt = 0 ↔ x.toBitVec = 0#32 := by
    intro x
    constructor
    · intro h
      have : x = 0 := Int32.toInt_inj.mp h
      rw [this]; rfl
    · intro h
      have : x = 0 := Int32.toBitVec_inj.mp h
      rw [this]; rfl
  have e3 : (Int32.ofInt (-1)).toBitVec = BitVec.allOnes 32 := rfl
  rw [z, Int32.toBitVec_and, Int32.toBitVec_xor, tbv, e1, e3]
  constructor
  · intro h i hi hb
    have := congrArg (fun b => b.getLsbD i) h
    simp only [BitVec.getLsbD_and, BitVec.getLsbD_xor, BitVec.getLsbD_allOnes, BitVec.getLsbD_ofNat, hb, hi] at this
    simpa using this
  · intro h
    apply BitVec.eq_of_getLsbD_eq
    intro i hi
    have := h i hi
    simp only [BitVec.getLsbD_and, BitVec.getLsbD_xor, BitVec.getLsbD_allOnes, BitVec.getLsbD_ofNat, hi]
    cases hb : (BitVec.ofInt 32 m).getLsbD i
    · simp
    · simp [this hb]
theorem sub_n {a k : Nat} (ha : a < 2147483648) : and32 (a : Int) (xor32 (k : Int) (-1)) = 0 ↔ ∀ i, a.testBit i = true → k.testBit i = true := by
  have e : ∀ i, i < 32 → (BitVec.ofInt 32 (a : Int)).getLsbD i = a.testBit i := by
    intro i hi
    rw [BitVec.ofInt_natCast, BitVec.getLsbD_ofNat]
    simp [hi]
  rw [sub_i]
  constructor
  · intro h i hb
    by_cases hi : i < 32
    · exact h i hi (by rw [e i hi]; exact hb)
    · have : a < 2 ^ i := Nat.lt_of_lt_of_le (show a < 2 ^ 32 by omega) (Nat.pow_le_pow_right (by omega) (by omega))
      rw [Nat.testBit_lt_two_pow this] at hb
      cases hb
  · intro h i hi hb
    exact h i (by rw [← e i hi]; exact hb)
theorem sub_sm {m : Int} {k : Nat} (hm : -2147483648 ≤ m ∧ m < 2147483648) (hk : k < 16) (h : and32 m (xor32 (k : Int) (-1)) = 0) : ∃ a : Nat, m = (a : Int) ∧ a < 16 ∧ ∀ i, a.testBit i = true → k.testBit i = true := by
  have h0 := (sub_i m k).mp h
  have hb : ∀ i, (BitVec.ofInt 32 m).toNat.testBit i = true → k.testBit i = true := by
    intro i hi
    by_cases h32 : i < 32
    · exact h0 i h32 hi
    · have : (BitVec.ofInt 32 m).toNat < 2 ^ i := Nat.lt_of_lt_of_le (BitVec.isLt _) (Nat.pow_le_pow_right (by omega) (by omega))
      rw [Nat.testBit_lt_two_pow this] at hi
      cases hi
  have hlt : (BitVec.ofInt 32 m).toNat < 2 ^ 4 := by
    apply Nat.lt_pow_two_of_testBit
    intro i hi
    cases hc : (BitVec.ofInt 32 m).toNat.testBit i
    · rfl
    · have := hb i hc
      have h2 : k < 2 ^ i := Nat.lt_of_lt_of_le (show k < 2 ^ 4 by omega) (Nat.pow_le_pow_right (by omega) hi)
      rw [Nat.testBit_lt_two_pow h2] at this
      cases this
  refine ⟨(BitVec.ofInt 32 m).toNat, ?_, hlt, hb⟩
  rw [BitVec.toNat_ofInt] at hlt ⊢
  have e32 : ((2 ^ 32 : Nat) : Int) = 4294967296 := by decide
  rw [e32] at hlt ⊢
  omega
theorem thb_n (hS : VS B S) : ∃ k : Nat, thb S = (k : Int) ∧ k < 16 ∧ ∀ p, p < 4 → (k.testBit p = true ↔ S (8 + p) 0 = 1) := by
  have h0 := (hS.p (p := 0) (by omega)).1
  have h1 := (hS.p (p := 1) (by omega)).1
  have h2 := (hS.p (p := 2) (by omega)).1
  have h3 := (hS.p (p := 3) (by omega)).1
  simp only [Nat.add_zero, Nat.reduceAdd] at h0 h1 h2 h3
  have hk : thb S = ((thb S).toNat : Int) ∧ (thb S).toNat < 16 := by unfold thb; omega
  refine ⟨(thb S).toNat, hk.1, hk.2, fun p hp => ?_⟩
  rw [← bit_n (by omega) (by omega), ← hk.1]
  exact bit_thb hS hp
/-! the pure fold -/
abbrev fhm (S : Mem) (a : Nat) : Nat := (S (8 + a) 1).toNat
def ff (S : Mem) (x y a b : Nat) : Int := if a = b then dd S 0 (fhm S a) x + dd S 0 x y + dd S 0 y (fhm S a) else 2 * dd S 0 (fhm S a) x + 2 * dd S 0 (fhm S b) y
abbrev foC (d : Int) (e : Er) : Prop := d < 1000000 ∧ (e 0 = -6 ∨ d < e 0)
def fof (d a b : Int) (e : Er) : Er := if foC d e then (fun j => if j = 0 then d else if j = 1 then a else b) else e
abbrev fin (m a b : Nat) : Prop := m.testBit a = true ∧ m.testBit b = true
def inn (S : Mem) (m x y a : Nat) (e : Er) : Nat → Er
  | 0 => e
  | b + 1 => if fin m a b then fof (ff S x y a b) (a : Int) (b : Int) (inn S m x y a e b) else inn S m x y a e b
def fou (S : Mem) (m x y : Nat) : Nat → Er
  | 0 => fun _ => -6
  | a + 1 => inn S m x y a (fou S m x y a) 4
theorem ff_b (hS : VS B S) (x y a b : Nat) : 0 ≤ ff S x y a b ∧ ff S x y a b ≤ 4000000 := by
  have h1 := dd_b hS 0 (fhm S a) x
  have h2 := dd_b hS 0 x y
  have h3 := dd_b hS 0 y (fhm S a)
  have h4 := dd_b hS 0 (fhm S b) y
  unfold ff; split <;> omega
def a_tog (T : Ful) (m x y w : Int) : Int := if isT T x ∧ isT T y then (if (0 ≤ w ∧ w ≤ 2) ∧ ¬ m = 0 ∧ and32 m (xor32 (thb (T 0)) (-1)) = 0 then fou (T 0) m.toNat x.toNat y.toNat 4 w.toNat else -2) else -1
def H3 (σ : Mem) (e : Er) : Prop := ∀ j, j < 3 → σ 42 j = e j
def Fr3 (σ τ : Mem) : Prop := ∀ o, o ≠ 42 → τ o = σ o
theorem Fr3.tr {a b c : Mem} (h1 : Fr3 a b) (h2 : Fr3 b c) : Fr3 a c := fun o h => (h2 o h).trans (h1 o h)
theorem LdC_3 (hL : LdC S σ) (hF : Fr3 σ τ) : LdC S τ := fun l a b h1 h2 h3 => by rw [hF 37 (by omega)]; exact hL l a b h1 h2 h3
theorem RC_3 (hR : RC 1 S σ) (hF : Fr3 σ τ) : RC 1 S τ := RC_eq (fun o ho => hF o (by omega)) hR
theorem x_fof (a b d : Int) {e : Er} (he : H3 σ e) : ∃ τ, (∀ Q : PQ, X L 19 0 [some (xR 42), some (xI a), some (xI b), some (xI d)] [] σ Q = Q none τ) ∧ Fr3 σ τ ∧ H3 τ (fof d a b e) := by
  have e0 := he 0 (by omega)
  by_cases c : foC d e
  · obtain ⟨c1, c3⟩ := id c
    have hof : fof d a b e = (fun j => if j = 0 then d else if j = 1 then a else b) := if_pos c
    obtain ⟨τ, hτ⟩ : ∃ τ, up (up (up σ 42 0 d) 42 1 a) 42 2 b = τ := ⟨_, rfl⟩
    refine ⟨τ, fun Q => ?_, fun o ho => ?_, ?_⟩
    · rw [e_19_0]
      simp only [brI, not_true_eq_false, true_implies, false_implies, implies_true, and_true, cTag, cTgt, cLen, true_and, Int.toNat_natCast, retI_I, retR_R, retV_N, retL_L, ne_eq, Int.reduceEq, not_false_eq_true, e0, e_19_23, hτ, e_19_38]
      rw [if_neg (by omega)]
      by_cases c4 : e 0 = -6
      · rw [if_pos c4]
      · rw [if_neg c4, if_neg (by have := c3.resolve_left c4; omega)]
    · funext j; rw [← hτ]; simp only [up_rd]; rw [if_neg (by omega), if_neg (by omega), if_neg (by omega)]
    · intro j hj
      rw [hof, ← hτ]
      rcases (show j = 0 ∨ j = 1 ∨ j = 2 by omega) with rfl | rfl | rfl <;> simp [up_rd]
  · have hof : fof d a b e = e := if_neg c
    rw [hof]
    refine ⟨σ, fun Q => ?_, fun _ _ => rfl, he⟩
    rw [e_19_0]
    simp only [brI, not_true_eq_false, true_implies, false_implies, implies_true, and_true, cTag, cTgt, cLen, true_and, Int.toNat_natCast, retI_I, retR_R, retV_N, retL_L, ne_eq, Int.reduceEq, not_false_eq_true, e0, e_19_38]
    by_cases c1 : 1000000 ≤ d
    · rw [if_pos c1]
    · have c3 : ¬ (e 0 = -6 ∨ d < e 0) := fun q => c ⟨by omega, q⟩
      rw [if_neg c1, if_neg (fun q => c3 (Or.inl q)), if_pos (by omega)]
end Fetch
