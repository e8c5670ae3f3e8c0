/-! reasoning on X: words and small rows -/
theorem retI_I (x : Int) (k : Int → Prop) : retI (some (xI x)) k = k x := rfl
theorem retL_L (x : Int) (k : Int → Prop) : retL (some (xL x)) k = k x := rfl
theorem retR_R (x : Nat) (k : Nat → Prop) : retR (some (xR x)) k = k x := rfl
theorem retV_N (k : Prop) : retV none k = k := rfl
theorem brI {c : Prop} [Decidable c] {A B : Prop} : ((c → A) ∧ (¬ c → B)) = if c then A else B := by
  by_cases h : c
  · rw [if_pos h]; exact propext ⟨fun q => q.1 h, fun q => ⟨fun _ => q, fun n => absurd h n⟩⟩
  · rw [if_neg h]; exact propext ⟨fun q => q.2 h, fun q => ⟨fun n => absurd n h, fun _ => q⟩⟩
theorem w32_id {x : Int} (h1 : -2147483648 ≤ x) (h2 : x < 2147483648) : w32 x = x := i32_toInt ⟨h1, h2⟩
theorem w64_id {x : Int} (h1 : -9223372036854775808 ≤ x) (h2 : x < 9223372036854775808) : w64 x = x := i64_toInt ⟨h1, h2⟩
def bI (p : Prop) [Decidable p] : Int := if p then 1 else 0
theorem bI_t {p : Prop} [Decidable p] (h : p) : bI p = 1 := if_pos h
theorem bI_f {p : Prop} [Decidable p] (h : ¬ p) : bI p = 0 := if_neg h
theorem bI_0 {p : Prop} [Decidable p] : (bI p = 0) = ¬ p := by
  unfold bI; split <;> simp [*]
theorem bI_1 {p : Prop} [Decidable p] : (bI p = 1) = p := by
  unfold bI; split <;> simp [*]
theorem bI_01 {p : Prop} [Decidable p] : (bI p = 0 ∨ bI p = 1) = True := by
  unfold bI; split <;> simp
theorem x_isWithin (L : Nat) (v a b : Int) (σ : Mem) (Q : PQ) : X L 130 0 [some (xI v), some (xI a), some (xI b)] [] σ Q = Q (some (xI (bI (a ≤ v ∧ v ≤ b)))) σ := by
  simp only [e_130_0, e_130_14, e_130_15, brI, bI]
  (repeat' split) <;> first | rfl | (exfalso; omega) | (simp; done)
theorem x_isSize (L : Nat) (v : Int) (σ : Mem) (Q : PQ) : X L 131 0 [some (xI v)] [] σ Q = Q (some (xI (bI (0 ≤ v ∧ v < 5)))) σ := by
  simp only [e_131_0, e_131_13, e_131_14, brI, bI]
  (repeat' split) <;> first | rfl | (exfalso; omega) | (simp; done)
theorem x_isWalk (L : Nat) (v : Int) (σ : Mem) (Q : PQ) : X L 133 0 [some (xI v)] [] σ Q = Q (some (xI (bI (v < 6)))) σ := by
  simp only [e_133_0, e_133_10, e_133_11, brI, bI]
  (repeat' split) <;> first | rfl | (exfalso; omega) | (simp; done)
def vA (L : Nat) (σ : Mem) (a : Nat) (i : Int) : Int := if 0 ≤ i ∧ i < (lenL L a : Int) then σ a i.toNat else 0
theorem x_valueAt (L a : Nat) (i : Int) (σ : Mem) (Q : PQ) (h : tag a = 0) : X L 134 0 [some (xR a), some (xI i)] [] σ Q = Q (some (xI (vA L σ a i))) σ := by
  simp only [e_134_0, e_134_16, e_134_17, brI, vA, h, true_and]
  (repeat' split) <;> first | rfl | (exfalso; omega) | (simp [*]; done) | (simp [*]; omega)
def pA (L : Nat) (σ : Mem) (a : Nat) (i x : Int) : Mem := if 0 ≤ i ∧ i < (lenL L a : Int) then up σ a i.toNat x else σ
theorem x_put (L a : Nat) (i x : Int) (σ : Mem) (Q : PQ) (h : tag a = 0) : X L 135 0 [some (xR a), some (xI i), some (xI x)] [] σ Q = Q none (pA L σ a i x) := by
  simp only [e_135_0, e_135_14, brI, pA, h, true_and]
  (repeat' split) <;> first | rfl | (exfalso; omega) | (simp [*]; done) | (simp [*]; omega)
