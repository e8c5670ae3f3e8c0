/-! PARTED: roads in their order -/
section Cut
variable {B : Int} {S σ τ : Mem} {L v : Nat} {T : Ful}
abbrev isr (S : Mem) (a b : Nat) : Prop := 0 < mil S a b
def rc (S : Mem) (a : Nat) : Nat → Nat
  | 0 => 0
  | k + 1 => rc S a k + (if isr S a (a + 1 + k) then 1 else 0)
def rb (S : Mem) : Nat → Nat
  | 0 => 0
  | a + 1 => rb S a + rc S a (5 - a)
theorem rc_le (S : Mem) (a : Nat) : ∀ k, rc S a k ≤ k := by
  intro k
  induction k with
  | zero => exact Nat.le_refl _
  | succ k ih => simp only [rc]; split <;> omega
theorem rb_le (S : Mem) : ∀ a, a ≤ 6 → 2 * rb S a ≤ a * (11 - a) := by
  have h0 := rc_le S 0 (5 - 0)
  have h1 := rc_le S 1 (5 - 1)
  have h2 := rc_le S 2 (5 - 2)
  have h3 := rc_le S 3 (5 - 3)
  have h4 := rc_le S 4 (5 - 4)
  have h5 := rc_le S 5 (5 - 5)
  intro a ha
  rcases (show a = 0 ∨ a = 1 ∨ a = 2 ∨ a = 3 ∨ a = 4 ∨ a = 5 ∨ a = 6 by omega) with rfl | rfl | rfl | rfl | rfl | rfl | rfl <;> simp only [rb] <;> omega
/-- the number of a road -/
def rix (S : Mem) (a k : Nat) : Nat := rb S a + rc S a k
theorem rix_lt (S : Mem) {a k : Nat} (h : a + 1 + k < 6) : rix S a k < 15 := by
  have h1 := rb_le S a (by omega)
  have h2 := rc_le S a k
  unfold rix
  rcases (show a = 0 ∨ a = 1 ∨ a = 2 ∨ a = 3 ∨ a = 4 by omega) with rfl | rfl | rfl | rfl | rfl <;> omega
abbrev crs (A a b : Nat) : Prop := ¬ A.testBit a = A.testBit b
def mi (S : Mem) (A a m : Nat) : Nat → Nat
  | 0 => m
  | k + 1 => if isr S a (a + 1 + k) ∧ crs A a (a + 1 + k) then mi S A a m k ||| 2 ^ rix S a k else mi S A a m k
def mo (S : Mem) (A : Nat) : Nat → Nat
  | 0 => 0
  | a + 1 => mi S A a (mo S A a) (5 - a)
theorem mi_lt (S : Mem) {A a m : Nat} (hm : m < 2 ^ 15) : ∀ k, a + k < 6 → mi S A a m k < 2 ^ 15 := by
  intro k
  induction k with
  | zero => intro _; exact hm
  | succ k ih =>
    intro hk
    have h := rix_lt S (a := a) (k := k) (by omega)
    have h2 : 2 ^ rix S a k < 2 ^ 15 := Nat.pow_lt_pow_right (by omega) h
    simp only [mi]
    split
    · exact Nat.or_lt_two_pow (ih (by omega)) h2
    · exact ih (by omega)
theorem mo_lt (S : Mem) (A : Nat) : ∀ a, a ≤ 6 → mo S A a < 2 ^ 15 := by
  intro a
  induction a with
  | zero => intro _; exact Nat.two_pow_pos 15
  | succ a ih => intro ha; exact mi_lt S (ih (by omega)) (5 - a) (by omega)
/-- no road beyond the towns -/
theorem isr_tn (hS : VS B S) {a b : Nat} (h : isr S a b) : a < 6 ∧ b < 6 ∧ (a : Int) < S 0 0 ∧ (b : Int) < S 0 0 ∧ ¬ a = b := by
  unfold isr mil at h
  by_cases c : (0 ≤ (a : Int) ∧ (a : Int) < 6) ∧ (0 ≤ (b : Int) ∧ (b : Int) < 6)
  · rw [if_pos c] at h
    have ha : a < 6 := by omega
    have hb : b < 6 := by omega
    have h0 := (hS.2.2.2.2.1 a b ha hb).2.2
    simp only [Int.toNat_natCast] at h
    refine ⟨ha, hb, ?_, ?_, ?_⟩
    · exact Classical.byContradiction (fun q => by have := h0 (Or.inr (Or.inl (by omega))); omega)
    · exact Classical.byContradiction (fun q => by have := h0 (Or.inr (Or.inr (by omega))); omega)
    · intro q; have := h0 (Or.inl q); omega
  · rw [if_neg c] at h; omega
theorem rc_n (hS : VS B S) {n a : Nat} (hn : (n : Int) = S 0 0) : ∀ j, rc S a (n - 1 - a + j) = rc S a (n - 1 - a) := by
  intro j
  induction j with
  | zero => rfl
  | succ j ih =>
    show rc S a (n - 1 - a + j) + (if isr S a (a + 1 + (n - 1 - a + j)) then 1 else 0) = _
    rw [if_neg (fun q => by have := isr_tn hS q; omega), ih]; rfl
theorem mi_n (hS : VS B S) {n A a m : Nat} (hn : (n : Int) = S 0 0) : ∀ j, mi S A a m (n - 1 - a + j) = mi S A a m (n - 1 - a) := by
  intro j
  induction j with
  | zero => rfl
  | succ j ih =>
    show (if isr S a (a + 1 + (n - 1 - a + j)) ∧ crs A a (a + 1 + (n - 1 - a + j)) then mi S A a m (n - 1 - a + j) ||| 2 ^ rix S a (n - 1 - a + j) else mi S A a m (n - 1 - a + j)) = _
    rw [if_neg (fun q => by have := isr_tn hS q.1; omega), ih]
theorem rb_s (hS : VS B S) {n a : Nat} (hn : (n : Int) = S 0 0) (hn6 : n ≤ 6) (ha : a < n) : rb S (a + 1) = rix S a (n - 1 - a) := by
  have := rc_n hS hn (a := a) (6 - n)
  rw [show n - 1 - a + (6 - n) = 5 - a by omega] at this
  unfold rix; rw [← this]; rfl
theorem mo_s (hS : VS B S) {n a A : Nat} (hn : (n : Int) = S 0 0) (hn6 : n ≤ 6) (ha : a < n) : mo S A (a + 1) = mi S A a (mo S A a) (n - 1 - a) := by
  have := mi_n hS hn (A := A) (a := a) (m := mo S A a) (6 - n)
  rw [show n - 1 - a + (6 - n) = 5 - a by omega] at this
  rw [← this]; rfl
theorem mi_id (hS : VS B S) {n a A m : Nat} (hn : (n : Int) = S 0 0) (ha : n ≤ a) : ∀ k, mi S A a m k = m := by
  intro k
  induction k with
  | zero => rfl
  | succ k ih =>
    simp only [mi]
    rw [if_neg (fun q => by have := isr_tn hS q.1; omega), ih]
theorem mo_n (hS : VS B S) {n A : Nat} (hn : (n : Int) = S 0 0) : ∀ j, mo S A (n + j) = mo S A n := by
  intro j
  induction j with
  | zero => rfl
  | succ j ih =>
    show mi S A (n + j) (mo S A (n + j)) (5 - (n + j)) = _
    rw [mi_id hS hn (by omega), ih]
theorem x_roadsOut (hR : RC 1 S σ) (hS : VS B S) {n A : Nat} (hn : (n : Int) = S 0 0) (hA : A < 64) (Q : PQ) : X L 2 0 [some (xR 1), some (xI (A : Int)), none, none, none, none] [] σ Q = Q (some (xI (mo S A 6 : Int))) σ := by
  have hn6 := hS.1
  have e0 := hR.1 0 (by omega)
  obtain ⟨d, e1, -⟩ := lpE (n := n) (fun a (d : Option PV) Q => X L 2 7 [some (xR 1), some (xI (A : Int)), some (xI (mo S A a : Int)), some (xI (rb S a : Int)), some (xI (a : Int)), d] [] σ Q) (fun _ _ => True) (by
    intro a d ha _
    refine ⟨some (xI (n : Int)), fun Q => ?_, trivial⟩
    have hmo := mo_lt S A a (by omega)
    have h := lpF (n := n - 1 - a) (fun k (z : Nat × Nat) Q => X L 2 22 [some (xR 1), some (xI (A : Int)), some (xI (z.1 : Int)), some (xI (z.2 : Int)), some (xI (a : Int)), some (xI ((a + 1 + k : Nat) : Int))] [] σ Q) (fun k => (mi S A a (mo S A a) k, rix S a k)) (by
      intro k hk Q
      have hlt := mi_lt S (A := A) (a := a) hmo k (by omega)
      have hx := rix_lt S (a := a) (k := k) (by omega)
      have h2 : 2 ^ rix S a k < 2 ^ 15 := Nat.pow_lt_pow_right (by omega) hx
      have hba := bit_n (a := A) (k := a) (by omega) (by omega)
      have hbb := bit_n (a := A) (k := a + 1 + k) (by omega) (by omega)
      have hm := rc_mil (L := L) iV1 hR hS (a : Int) ((a + 1 + k : Nat) : Int)
      have hbi : bI (bit (A : Int) (a : Int)) = bI (bit (A : Int) ((a + 1 + k : Nat) : Int)) ↔ ¬ crs A a (a + 1 + k) := by
        unfold crs
        cases ca : A.testBit a <;> cases cb : A.testBit (a + 1 + k)
        · rw [bI_f (fun q => by rw [hba.mp q] at ca; cases ca), bI_f (fun q => by rw [hbb.mp q] at cb; cases cb)]; simp
        · rw [bI_f (fun q => by rw [hba.mp q] at ca; cases ca), bI_t (hbb.mpr cb)]; simp
        · rw [bI_t (hba.mpr ca), bI_f (fun q => by rw [hbb.mp q] at cb; cases cb)]; simp
        · rw [bI_t (hba.mpr ca), bI_t (hbb.mpr cb)]; simp
      show X L 2 22 [some (xR 1), some (xI (A : Int)), some (xI (mi S A a (mo S A a) k : Int)), some (xI (rix S a k : Int)), some (xI (a : Int)), some (xI ((a + 1 + k : Nat) : Int))] [] σ Q = X L 2 22 [some (xR 1), some (xI (A : Int)), some (xI (mi S A a (mo S A a) (k + 1) : Int)), some (xI (rix S a (k + 1) : Int)), some (xI (a : Int)), some (xI ((a + 1 + (k + 1) : Nat) : Int))] [] σ Q
      have nx : ∀ (m i : Int), X L 2 73 [some (xR 1), some (xI (A : Int)), some (xI m), some (xI i), some (xI (a : Int)), some (xI ((a + 1 + k : Nat) : Int))] [] σ Q = X L 2 22 [some (xR 1), some (xI (A : Int)), some (xI m), some (xI i), some (xI (a : Int)), some (xI ((a + 1 + (k + 1) : Nat) : Int))] [] σ Q := by
        intro m i; rw [e_2_73, w32_id (by omega) (by omega)]; rfl
      have hix : rix S a (k + 1) = rix S a k + (if isr S a (a + 1 + k) then 1 else 0) := by
        unfold rix; simp only [rc]; omega
      have hmi : mi S A a (mo S A a) (k + 1) = if isr S a (a + 1 + k) ∧ crs A a (a + 1 + k) then mi S A a (mo S A a) k ||| 2 ^ rix S a k else mi S A a (mo S A a) k := rfl
      rw [e_2_22]
      simp only [brI, not_true_eq_false, true_implies, false_implies, implies_true, and_true, cTag, cTgt, cLen, true_and, Int.toNat_natCast, retI_I, retR_R, retV_N, retL_L, ne_eq, Int.reduceEq, not_false_eq_true, e0, x_roadNumber, x_milesOf iV1, hm, x_isIn, e_2_67, e_2_68, shl32_n (show rix S a k < 31 by omega), w32_id (x := (rix S a k : Int) + 1) (by omega) (by omega), nx]
      rw [if_neg (by omega)]
      by_cases c : isr S a (a + 1 + k)
      · rw [if_neg (by unfold isr at c; omega)]
        rw [if_pos c] at hix
        by_cases c2 : crs A a (a + 1 + k)
        · rw [if_neg (fun q => hbi.mp q c2), or32_n (by omega) (by omega), hix, hmi, if_pos ⟨c, c2⟩]; rfl
        · rw [if_pos (hbi.mpr c2), show (0 : Int) = ((0 : Nat) : Int) from rfl, or32_n (by omega) (by omega), hix, hmi, if_neg (fun q => c2 q.2), Nat.or_zero]; rfl
      · rw [if_pos (by unfold isr at c; omega)]
        rw [if_neg c] at hix
        rw [hix, hmi, if_neg (fun q => c q.1)]; rfl)
    rw [e_2_7]
    simp only [brI, not_true_eq_false, true_implies, false_implies, implies_true, and_true, cTag, cTgt, cLen, true_and, Int.toNat_natCast, retI_I, retR_R, retV_N, retL_L, ne_eq, Int.reduceEq, not_false_eq_true, e0]
    rw [if_neg (by omega), w32_id (by omega) (by omega)]
    refine Eq.trans (h Q) ?_
    show X L 2 22 [some (xR 1), some (xI (A : Int)), some (xI (mi S A a (mo S A a) (n - 1 - a) : Int)), some (xI (rix S a (n - 1 - a) : Int)), some (xI (a : Int)), some (xI ((a + 1 + (n - 1 - a) : Nat) : Int))] [] σ Q = X L 2 7 [some (xR 1), some (xI (A : Int)), some (xI (mo S A (a + 1) : Int)), some (xI (rb S (a + 1) : Int)), some (xI ((a + 1 : Nat) : Int)), some (xI (n : Int))] [] σ Q
    rw [show a + 1 + (n - 1 - a) = n by omega, mo_s hS hn (by omega) ha, rb_s hS hn (by omega) ha, e_2_22]
    simp only [brI, not_true_eq_false, true_implies, false_implies, implies_true, and_true, cTag, cTgt, cLen, true_and, Int.toNat_natCast, retI_I, retR_R, retV_N, retL_L, ne_eq, Int.reduceEq, not_false_eq_true, e0]
    rw [if_pos (by omega), e_2_79, w32_id (by omega) (by omega)]
    rfl) (a := none) trivial
  rw [e_2_0]
  refine Eq.trans (e1 Q) ?_
  rw [e_2_7]
  simp only [brI, not_true_eq_false, true_implies, false_implies, implies_true, and_true, cTag, cTgt, cLen, true_and, Int.toNat_natCast, retI_I, retR_R, retV_N, retL_L, ne_eq, Int.reduceEq, not_false_eq_true, e0]
  have h6 := mo_n hS hn (A := A) (6 - n)
  rw [show n + (6 - n) = 6 by omega] at h6
  rw [if_pos (by omega), e_2_85, h6]
end Cut
