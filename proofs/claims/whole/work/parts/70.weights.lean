/-! SHUT, its pieces -/
section Shut
variable {B : Int} {S σ τ : Mem} {L v : Nat} {T : Ful}
theorem w64_i {x : Int} (h1 : 0 ≤ x) (h2 : x < 1000000000000) : w64 x = x := by
  unfold w64
  exact Int64.toInt_ofInt_of_le (by have : (2 : Int) ^ 63 = 9223372036854775808 := by decide
                                    omega) (by have : (2 : Int) ^ 63 = 9223372036854775808 := by decide
                                               omega)
theorem cmp0 (a : Nat) : cmpL (a : Int) 0 = 0 ↔ a = 0 := by
  unfold cmpL
  split
  · constructor <;> intro h <;> omega
  · split
    · constructor <;> intro h <;> omega
    · constructor <;> intro h <;> omega
theorem cmp1 (a : Nat) : cmpL (a : Int) 1 ≤ 0 ↔ a ≤ 1 := by
  unfold cmpL
  split
  · constructor <;> intro h <;> omega
  · split
    · constructor <;> intro h <;> omega
    · constructor <;> intro h <;> omega
theorem half {b r : Nat} (h0 : 0 < r) (h1 : r < b) : 2 * (b % r) < b := by
  have e := Nat.div_add_mod b r
  have h2 := Nat.mod_lt b h0
  have h3 : 1 ≤ b / r := (Nat.one_le_div_iff h0).mpr (by omega)
  have h4 : r * 1 ≤ r * (b / r) := Nat.mul_le_mul_left r h3
  omega
theorem gcd_st (a b : Nat) : Nat.gcd a b = Nat.gcd b (a % b) := by
  rw [Nat.gcd_comm a b, Nat.gcd_rec b a, Nat.gcd_comm]
theorem x_gd (u l : Nat) : ∀ (f a b c : Nat) (d9 d10 : Option PV) (Q : PQ), b < 2 ^ f → c + 2 * f + 1 ≤ 100 → X L 140 9 [some (xL (u : Int)), none, some (xL (l : Int)), none, some (xL (a : Int)), none, some (xL (b : Int)), none, some (xI (c : Int)), d9, d10] [] σ Q = Q (some (xL (Nat.gcd a b : Int))) σ := by
  have z : ∀ (a c : Nat) (d9 d10 : Option PV) (Q : PQ), X L 140 9 [some (xL (u : Int)), none, some (xL (l : Int)), none, some (xL (a : Int)), none, some (xL ((0 : Nat) : Int)), none, some (xI (c : Int)), d9, d10] [] σ Q = Q (some (xL (Nat.gcd a 0 : Int))) σ := by
    intro a c d9 d10 Q
    rw [e_140_9]
    simp only [brI, not_true_eq_false, true_implies, false_implies, implies_true, and_true, cTag, cTgt, cLen, true_and, Int.toNat_natCast, retI_I, retR_R, retV_N, retL_L, ne_eq, Int.reduceEq, not_false_eq_true, cmp0, if_true, e_140_44, Nat.gcd_zero_right, ite_self]
  have st : ∀ (a b c : Nat) (d9 d10 : Option PV) (Q : PQ), 0 < b → c < 100 → X L 140 9 [some (xL (u : Int)), none, some (xL (l : Int)), none, some (xL (a : Int)), none, some (xL (b : Int)), none, some (xI (c : Int)), d9, d10] [] σ Q = X L 140 9 [some (xL (u : Int)), none, some (xL (l : Int)), none, some (xL (b : Int)), none, some (xL ((a % b : Nat) : Int)), none, some (xI ((c + 1 : Nat) : Int)), some (xL ((a % b : Nat) : Int)), none] [] σ Q := by
    intro a b c d9 d10 Q hb hc
    rw [e_140_9]
    simp only [brI, not_true_eq_false, true_implies, false_implies, implies_true, and_true, cTag, cTgt, cLen, true_and, Int.toNat_natCast, retI_I, retR_R, retV_N, retL_L, ne_eq, Int.reduceEq, not_false_eq_true, cmp0, ← Int.ofNat_tmod, w32_id (x := (c : Int) + 1) (by omega) (by omega)]
    rw [if_neg (by omega), if_neg (by omega)]
    simp only [show ¬ ((b : Int) = 0) by omega, not_false_eq_true, true_and]
    rfl
  intro f
  induction f with
  | zero =>
    intro a b c d9 d10 Q hb hc
    have : b = 0 := by simp at hb; exact hb
    subst this
    exact z a c d9 d10 Q
  | succ f ih =>
    intro a b c d9 d10 Q hb hc
    by_cases h0 : b = 0
    · subst h0; exact z a c d9 d10 Q
    · rw [st a b c d9 d10 Q (by omega) (by omega), gcd_st a b]
      by_cases h1 : a % b = 0
      · rw [h1]; exact z b (c + 1) _ _ Q
      · have hlt := Nat.mod_lt a (show b > 0 by omega)
        have hh := half (b := b) (r := a % b) (by omega) hlt
        rw [Nat.pow_succ] at hb
        rw [st b (a % b) (c + 1) _ _ Q (by omega) (by omega), gcd_st b (a % b)]
        exact ih (a % b) (b % (a % b)) (c + 1 + 1) _ _ Q (by omega) (by omega)
theorem x_gcd {u l : Nat} (hl : l ≤ 1000000) (Q : PQ) : X L 140 0 [some (xL (u : Int)), none, some (xL (l : Int)), none, none, none, none, none, none, none, none] [] σ Q = Q (some (xL (Nat.gcd u l : Int))) σ := by
  rw [e_140_0]
  exact x_gd u l 20 u l 0 none none Q (by show l < 1048576; omega) (by omega)
/-- the Model's loop -/
theorem x_gdM (a1 a2 a3 a4 a5 a6 a8 : Int) : ∀ (b a : Nat) (d14 d15 : Option PV), ∃ c14 c15, ∀ Q : PQ, X L 204 187 [some (xR 75), some (xI a1), some (xI a2), some (xI a3), some (xI a4), some (xI a5), some (xL a6), none, some (xL a8), none, some (xL (a : Int)), none, some (xL (b : Int)), none, d14, d15] [] σ Q = X L 204 212 [some (xR 75), some (xI a1), some (xI a2), some (xI a3), some (xI a4), some (xI a5), some (xL a6), none, some (xL a8), none, some (xL (Nat.gcd a b : Int)), none, some (xL ((0 : Nat) : Int)), none, c14, c15] [] σ Q := by
  intro b
  induction b using Nat.strongRecOn with
  | ind b ih =>
    intro a d14 d15
    by_cases h0 : b = 0
    · subst h0
      refine ⟨d14, d15, fun Q => ?_⟩
      rw [e_204_187]
      simp only [brI, not_true_eq_false, true_implies, false_implies, implies_true, and_true, cTag, cTgt, cLen, true_and, Int.toNat_natCast, retI_I, retR_R, retV_N, retL_L, ne_eq, Int.reduceEq, not_false_eq_true, cmp0, if_true, Nat.gcd_zero_right]
    · obtain ⟨c14, c15, e⟩ := ih (a % b) (Nat.mod_lt a (by omega)) b (some (xL ((a % b : Nat) : Int))) none
      refine ⟨c14, c15, fun Q => ?_⟩
      rw [gcd_st a b, ← e, e_204_187]
      simp only [brI, not_true_eq_false, true_implies, false_implies, implies_true, and_true, cTag, cTgt, cLen, true_and, Int.toNat_natCast, retI_I, retR_R, retV_N, retL_L, ne_eq, Int.reduceEq, not_false_eq_true, cmp0, ← Int.ofNat_tmod]
      rw [if_neg h0]
      simp only [show ¬ ((b : Int) = 0) by omega, not_false_eq_true, true_and]
/-! weights -/
def wp (k o w : Nat) : Nat → Nat
  | 0 => 1
  | i + 1 => if k.testBit i = true then wp k o w i * (if o.testBit i = true then 10 - w else w) else wp k o w i
theorem wp_b (k o : Nat) {w : Nat} (hw : w ≤ 10) : ∀ i, wp k o w i ≤ 10 ^ i := by
  intro i
  induction i with
  | zero => exact Nat.le_refl _
  | succ i ih =>
    simp only [wp]
    have h1 : 10 ^ i ≤ 10 ^ (i + 1) := Nat.pow_le_pow_right (by omega) (by omega)
    split
    · rw [Nat.pow_succ]
      exact Nat.mul_le_mul ih (by split <;> omega)
    · omega
theorem bt1 (a i : Nat) : (a >>> i &&& 1) = if a.testBit i = true then 1 else 0 := by
  have h : a.testBit i = (1 &&& (a >>> i) != 0) := rfl
  have h1 : a >>> i &&& 1 ≤ 1 := Nat.and_le_right
  rw [h, Nat.and_comm 1]
  by_cases c : a >>> i &&& 1 = 0
  · rw [c]; rfl
  · have : a >>> i &&& 1 = 1 := by omega
    rw [this]; rfl
theorem wp_e {k o w : Nat} (h : ∀ i, o.testBit i = true → k.testBit i = true) : ∀ i, pcn o i ≤ pcn k i ∧ wp k o w i = (10 - w) ^ pcn o i * w ^ (pcn k i - pcn o i) := by
  intro i
  induction i with
  | zero => exact ⟨Nat.le_refl _, rfl⟩
  | succ i ih =>
    obtain ⟨i1, i2⟩ := ih
    simp only [wp, pcn, bt1]
    by_cases c : k.testBit i = true
    · rw [if_pos c, if_pos c, i2]
      by_cases c2 : o.testBit i = true
      · rw [if_pos c2, if_pos c2]
        refine ⟨by omega, ?_⟩
        rw [Nat.pow_succ, show pcn k i + 1 - (pcn o i + 1) = pcn k i - pcn o i by omega, Nat.mul_right_comm]
      · rw [if_neg c2, if_neg c2]
        refine ⟨by omega, ?_⟩
        rw [Nat.add_zero, show pcn k i + 1 - pcn o i = pcn k i - pcn o i + 1 by omega, Nat.pow_succ, Nat.mul_assoc]
    · have c2 : ¬ o.testBit i = true := fun q => c (h i q)
      rw [if_neg c, if_neg c, if_neg c2]
      exact ⟨i1, i2⟩
theorem pc6 : ∀ k : Nat, k < 64 → pcn k 6 = pc k ∧ pc k ≤ 6 := by decide
theorem x_wgt {k o w : Nat} (hk : k < 64) (ho : o < 64) (hw : w ≤ 10) (Q : PQ) : X L 15 0 [some (xI (k : Int)), some (xI (o : Int)), some (xI (w : Int)), none, none, none] [] σ Q = Q (some (xL (wp k o w 6 : Int))) σ := by
  have h := lpF (n := 6) (fun i (x : Nat) Q => X L 15 5 [some (xI (k : Int)), some (xI (o : Int)), some (xI (w : Int)), some (xL (x : Int)), none, some (xI (i : Int))] [] σ Q) (fun i => wp k o w i) (by
    intro i hi Q
    have hbk := bit_n (a := k) (k := i) (by omega) (by omega)
    have hbo := bit_n (a := o) (k := i) (by omega) (by omega)
    have hb := wp_b k o hw i
    have hb2 := wp_b k o hw (i + 1)
    have h10 : 10 ^ i ≤ 10 ^ 6 := Nat.pow_le_pow_right (by omega) (by omega)
    have h102 : 10 ^ (i + 1) ≤ 10 ^ 6 := Nat.pow_le_pow_right (by omega) (by omega)
    have h10 : 10 ^ i ≤ 1000000 := h10
    have h102 : 10 ^ (i + 1) ≤ 1000000 := h102
    show X L 15 5 [some (xI (k : Int)), some (xI (o : Int)), some (xI (w : Int)), some (xL (wp k o w i : Int)), none, some (xI (i : Int))] [] σ Q = X L 15 5 [some (xI (k : Int)), some (xI (o : Int)), some (xI (w : Int)), some (xL (wp k o w (i + 1) : Int)), none, some (xI ((i + 1 : Nat) : Int))] [] σ Q
    have nx : ∀ a : Int, X L 15 43 [some (xI (k : Int)), some (xI (o : Int)), some (xI (w : Int)), some (xL a), none, some (xI (i : Int))] [] σ Q = X L 15 5 [some (xI (k : Int)), some (xI (o : Int)), some (xI (w : Int)), some (xL a), none, some (xI ((i + 1 : Nat) : Int))] [] σ Q := by
      intro a; rw [e_15_43, w32_id (by omega) (by omega)]; rfl
    rw [e_15_5]
    simp only [brI, not_true_eq_false, true_implies, false_implies, implies_true, and_true, cTag, cTgt, cLen, true_and, Int.toNat_natCast, retI_I, retR_R, retV_N, retL_L, ne_eq, Int.reduceEq, not_false_eq_true, x_isIn, bI_0, nx, e_15_39, e_15_41, w32_id (x := 10 - (w : Int)) (by omega) (by omega)]
    rw [if_neg (by omega)]
    by_cases c : k.testBit i = true
    · have u : wp k o w (i + 1) = wp k o w i * (if o.testBit i = true then 10 - w else w) := if_pos c
      rw [if_neg (fun q => q (hbk.mpr c))]
      by_cases c2 : o.testBit i = true
      · rw [if_pos c2] at u
        rw [if_neg (fun q => q (hbo.mpr c2)), show (10 : Int) - (w : Int) = ((10 - w : Nat) : Int) by omega, ← Int.natCast_mul, ← u, w64_i (by omega) (by omega)]
      · rw [if_neg c2] at u
        rw [if_pos (fun q => c2 (hbo.mp q)), ← Int.natCast_mul, ← u, w64_i (by omega) (by omega)]
    · have u : wp k o w (i + 1) = wp k o w i := if_neg c
      rw [if_pos (fun q => c (hbk.mp q)), u])
  rw [e_15_0]
  refine Eq.trans (h Q) ?_
  show X L 15 5 [some (xI (k : Int)), some (xI (o : Int)), some (xI (w : Int)), some (xL (wp k o w 6 : Int)), none, some (xI 6)] [] σ Q = _
  rw [e_15_5]
  simp only [brI, not_true_eq_false, true_implies, false_implies, implies_true, and_true, cTag, cTgt, cLen, true_and, Int.toNat_natCast, retI_I, retR_R, retV_N, retL_L, ne_eq, Int.reduceEq, not_false_eq_true, Int.le_refl, if_true]
  rw [e_15_49]
theorem x_power {a n : Nat} (ha : a ≤ 10) (hn : n ≤ 6) (Q : PQ) : X L 203 0 [some (xL (a : Int)), none, some (xI (n : Int)), none, none, none] [] σ Q = Q (some (xL ((a ^ n : Nat) : Int))) σ := by
  have h := lpF (n := n) (fun i (x : Nat) Q => X L 203 5 [some (xL (a : Int)), none, some (xI (n : Int)), some (xL (x : Int)), none, some (xI (i : Int))] [] σ Q) (fun i => a ^ i) (by
    intro i hi Q
    have hb : a ^ (i + 1) ≤ 10 ^ (i + 1) := Nat.pow_le_pow_left ha _
    have h10 : 10 ^ (i + 1) ≤ 10 ^ 6 := Nat.pow_le_pow_right (by omega) (by omega)
    have h10 : 10 ^ (i + 1) ≤ 1000000 := h10
    show X L 203 5 [some (xL (a : Int)), none, some (xI (n : Int)), some (xL ((a ^ i : Nat) : Int)), none, some (xI (i : Int))] [] σ Q = X L 203 5 [some (xL (a : Int)), none, some (xI (n : Int)), some (xL ((a ^ (i + 1) : Nat) : Int)), none, some (xI ((i + 1 : Nat) : Int))] [] σ Q
    rw [e_203_5]
    simp only [brI, not_true_eq_false, true_implies, false_implies, implies_true, and_true, cTag, cTgt, cLen, true_and, Int.toNat_natCast, retI_I, retR_R, retV_N, retL_L, ne_eq, Int.reduceEq, not_false_eq_true]
    rw [if_neg (by omega), w32_id (by omega) (by omega), ← Int.natCast_mul, show a ^ i * a = a ^ (i + 1) from rfl, w64_i (by omega) (by omega)]
    rfl)
  rw [e_203_0]
  refine Eq.trans (h Q) ?_
  show X L 203 5 [some (xL (a : Int)), none, some (xI (n : Int)), some (xL ((a ^ n : Nat) : Int)), none, some (xI (n : Int))] [] σ Q = _
  rw [e_203_5]
  simp only [brI, not_true_eq_false, true_implies, false_implies, implies_true, and_true, cTag, cTgt, cLen, true_and, Int.toNat_natCast, retI_I, retR_R, retV_N, retL_L, ne_eq, Int.reduceEq, not_false_eq_true, Int.le_refl, if_true]
  rw [e_203_21]
end Shut
