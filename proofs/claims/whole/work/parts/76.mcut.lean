/-! PARTED, the Model -/
section MCut
variable {B : Int} {S σ τ : Mem} {L v : Nat} {T : Ful}
theorem x_comeI (hm : ∀ j, j < 36 → σ 76 j = S 1 j) (hS : VS B S) {c t r a : Nat} (j : Int) (hc : c < 32768) (hr : r < 64) (ha : a < 6) (d8 d9 : Option PV) : ∃ c8 c9, ∀ Q : PQ, X L 190 33 [some (xR 75), some (xI (t : Int)), some (xI (c : Int)), some (xI (r : Int)), some (xI j), some (xI (rb S a : Int)), some (xI (a : Int)), some (xI ((a + 1 : Nat) : Int)), d8, d9] [] σ Q = X L 190 144 [some (xR 75), some (xI (t : Int)), some (xI (c : Int)), some (xI (ci S c a r (5 - a) : Int)), some (xI j), some (xI (rb S (a + 1) : Int)), some (xI (a : Int)), some (xI 6), c8, c9] [] σ Q := by
  obtain ⟨⟨c8, c9⟩, e1, -⟩ := lpE (n := 5 - a) (fun k (z : Option PV × Option PV) Q => X L 190 33 [some (xR 75), some (xI (t : Int)), some (xI (c : Int)), some (xI (ci S c a r k : Int)), some (xI j), some (xI (rix S a k : Int)), some (xI (a : Int)), some (xI ((a + 1 + k : Nat) : Int)), z.1, z.2] [] σ Q) (fun _ _ => True) (by
    intro k ⟨d8, d9⟩ hk _
    have hlt := ci_lt (S := S) (c := c) (a := a) hr k (by omega)
    have hx := rix_lt S (a := a) (k := k) (by omega)
    have v3 : σ 76 (6 * a + (a + 1 + k)) = mil S a (a + 1 + k : Nat) := by rw [mil_at (by omega) (by omega)]; exact hm _ (by omega)
    have i2 : w32 (w32 (6 * (a : Int)) + ((a + 1 + k : Nat) : Int)) = ((6 * a + (a + 1 + k) : Nat) : Int) := by
      simp (disch := omega) only [w32_id]; omega
    have r2 : (0 ≤ ((6 * a + (a + 1 + k) : Nat) : Int) ∧ ((6 * a + (a + 1 + k) : Nat) : Int) < 36) := by omega
    have hix : rix S a (k + 1) = rix S a k + (if isr S a (a + 1 + k) then 1 else 0) := by
      unfold rix; simp only [rc]; omega
    have hci : ci S c a r (k + 1) = if cmC S c (ci S c a r k) a k then ci S c a r k ||| (2 ^ a ||| 2 ^ (a + 1 + k)) else ci S c a r k := rfl
    have hbc := bit_n (a := c) (k := rix S a k) (by omega) (by omega)
    have hba := bit_n (a := ci S c a r k) (k := a) (by omega) (by omega)
    have hbb := bit_n (a := ci S c a r k) (k := a + 1 + k) (by omega) (by omega)
    generalize hR : ci S c a r k = R at *
    have p1 : 2 ^ a < 2 ^ 6 := Nat.pow_lt_pow_right (by omega) (by omega)
    have p2 : 2 ^ (a + 1 + k) < 2 ^ 6 := Nat.pow_lt_pow_right (by omega) (by omega)
    have p3 : 2 ^ a ||| 2 ^ (a + 1 + k) < 2 ^ 6 := Nat.or_lt_two_pow p1 p2
    -- what a road does
    have s121 : ∀ (z8 z9 : Int) (x y : Nat), x < 64 → (z8 = (y : Int)) → (y = 0 ∨ y = 1) → ∀ Q : PQ, X L 190 121 [some (xR 75), some (xI (t : Int)), some (xI (c : Int)), some (xI (R : Int)), some (xI j), some (xI (rix S a k : Int)), some (xI (a : Int)), some (xI ((a + 1 + k : Nat) : Int)), some (xI z8), some (xI z9)] [xI (x : Int), xI (R : Int)] σ Q = X L 190 33 [some (xR 75), some (xI (t : Int)), some (xI (c : Int)), some (xI ((R ||| x : Nat) : Int)), some (xI j), some (xI ((rix S a k + y : Nat) : Int)), some (xI (a : Int)), some (xI ((a + 1 + (k + 1) : Nat) : Int)), some (xI z8), some (xI z9)] [] σ Q := by
      intro z8 z9 x y hx6 hz hy Q
      rw [e_190_121]
      simp only [brI, not_true_eq_false, true_implies, false_implies, implies_true, and_true, cTag, cTgt, cLen, true_and, Int.toNat_natCast, retI_I, retR_R, retV_N, retL_L, ne_eq, Int.reduceEq, not_false_eq_true, e_190_134, e_190_135, or32_n (show R < 2147483648 by omega) (show x < 2147483648 by omega), w32_id (x := ((a + 1 + k : Nat) : Int) + 1) (by omega) (by omega)]
      rcases hy with rfl | rfl
      · rw [if_pos (by omega), w32_id (by omega) (by omega)]; rfl
      · rw [if_neg (by omega), w32_id (by omega) (by omega)]; rfl
    have s0 : ∀ (z8 : Int) (y : Nat), (z8 = (y : Int)) → (y = 0 ∨ y = 1) → ∀ Q : PQ, X L 190 99 [some (xR 75), some (xI (t : Int)), some (xI (c : Int)), some (xI (R : Int)), some (xI j), some (xI (rix S a k : Int)), some (xI (a : Int)), some (xI ((a + 1 + k : Nat) : Int)), some (xI z8), d9] [] σ Q = X L 190 33 [some (xR 75), some (xI (t : Int)), some (xI (c : Int)), some (xI (R : Int)), some (xI j), some (xI ((rix S a k + y : Nat) : Int)), some (xI (a : Int)), some (xI ((a + 1 + (k + 1) : Nat) : Int)), some (xI z8), some (xI 0)] [] σ Q := by
      intro z8 y hz hy Q
      have h := s121 z8 0 0 y (by omega) hz hy Q
      rw [Nat.or_zero] at h
      rw [e_190_99, e_190_100]
      simp only [brI, if_true, e_190_120]
      exact h
    have s1 : ∀ Q : PQ, X L 190 95 [some (xR 75), some (xI (t : Int)), some (xI (c : Int)), some (xI (R : Int)), some (xI j), some (xI (rix S a k : Int)), some (xI (a : Int)), some (xI ((a + 1 + k : Nat) : Int)), some (xI 1), d9] [] σ Q = X L 190 33 [some (xR 75), some (xI (t : Int)), some (xI (c : Int)), some (xI ((R ||| (2 ^ a ||| 2 ^ (a + 1 + k)) : Nat) : Int)), some (xI j), some (xI ((rix S a k + 1 : Nat) : Int)), some (xI (a : Int)), some (xI ((a + 1 + (k + 1) : Nat) : Int)), some (xI 1), some (xI 1)] [] σ Q := by
      intro Q
      have h := s121 1 1 (2 ^ a ||| 2 ^ (a + 1 + k)) 1 p3 rfl (Or.inr rfl) Q
      rw [e_190_95, e_190_100]
      simp only [brI, not_true_eq_false, true_implies, false_implies, implies_true, and_true, cTag, cTgt, cLen, true_and, Int.toNat_natCast, retI_I, retR_R, retV_N, retL_L, ne_eq, Int.reduceEq, not_false_eq_true, if_false, shl32_n (show a < 31 by omega), shl32_n (show a + 1 + k < 31 by omega), or32_n (show 2 ^ a < 2147483648 by omega) (show 2 ^ (a + 1 + k) < 2147483648 by omega)]
      exact h
    by_cases c1 : isr S a (a + 1 + k)
    · rw [if_pos c1] at hix
      have e33 : ∀ Q : PQ, X L 190 33 [some (xR 75), some (xI (t : Int)), some (xI (c : Int)), some (xI (R : Int)), some (xI j), some (xI (rix S a k : Int)), some (xI (a : Int)), some (xI ((a + 1 + k : Nat) : Int)), d8, d9] [] σ Q = X L 190 61 [some (xR 75), some (xI (t : Int)), some (xI (c : Int)), some (xI (R : Int)), some (xI j), some (xI (rix S a k : Int)), some (xI (a : Int)), some (xI ((a + 1 + k : Nat) : Int)), d8, d9] [xI 1] σ Q := by
        intro Q
        rw [e_190_33]
        simp only [brI, not_true_eq_false, true_implies, false_implies, implies_true, and_true, cTag, cTgt, cLen, true_and, Int.toNat_natCast, retI_I, retR_R, retV_N, retL_L, ne_eq, Int.reduceEq, not_false_eq_true, i2, r2, v3]
        rw [if_neg (by omega), if_neg (by unfold isr at c1; omega)]
      by_cases q : cmC S c R a k
      · rw [if_pos q] at hci
        refine ⟨(some (xI 1), some (xI 1)), fun Q => ?_, trivial⟩
        show X L 190 33 [some (xR 75), some (xI (t : Int)), some (xI (c : Int)), some (xI (R : Int)), some (xI j), some (xI (rix S a k : Int)), some (xI (a : Int)), some (xI ((a + 1 + k : Nat) : Int)), d8, d9] [] σ Q = X L 190 33 [some (xR 75), some (xI (t : Int)), some (xI (c : Int)), some (xI (ci S c a r (k + 1) : Int)), some (xI j), some (xI (rix S a (k + 1) : Int)), some (xI (a : Int)), some (xI ((a + 1 + (k + 1) : Nat) : Int)), some (xI 1), some (xI 1)] [] σ Q
        rw [hci, hix, e33, e_190_61]
        simp only [brI, not_true_eq_false, true_implies, false_implies, implies_true, and_true, cTag, cTgt, cLen, true_and, Int.toNat_natCast, retI_I, retR_R, retV_N, retL_L, ne_eq, Int.reduceEq, not_false_eq_true, x_has, bI_0, s1, if_false]
        rw [if_neg (fun p => p (fun p => q.2.1 (hbc.mp p)))]
        by_cases qa : R.testBit a = true
        · rw [if_pos (fun p => p (hba.mpr qa))]
        · rw [if_neg (fun p => p (fun p => qa (hba.mp p))), if_neg (fun p => p (hbb.mpr (q.2.2.resolve_left qa)))]
      · rw [if_neg q] at hci
        refine ⟨(some (xI 1), some (xI 0)), fun Q => ?_, trivial⟩
        show X L 190 33 [some (xR 75), some (xI (t : Int)), some (xI (c : Int)), some (xI (R : Int)), some (xI j), some (xI (rix S a k : Int)), some (xI (a : Int)), some (xI ((a + 1 + k : Nat) : Int)), d8, d9] [] σ Q = X L 190 33 [some (xR 75), some (xI (t : Int)), some (xI (c : Int)), some (xI (ci S c a r (k + 1) : Int)), some (xI j), some (xI (rix S a (k + 1) : Int)), some (xI (a : Int)), some (xI ((a + 1 + (k + 1) : Nat) : Int)), some (xI 1), some (xI 0)] [] σ Q
        rw [hci, hix, e33, e_190_61]
        simp only [brI, not_true_eq_false, true_implies, false_implies, implies_true, and_true, cTag, cTgt, cLen, true_and, Int.toNat_natCast, retI_I, retR_R, retV_N, retL_L, ne_eq, Int.reduceEq, not_false_eq_true, x_has, bI_0, s0 1 1 rfl (Or.inr rfl), if_false]
        by_cases qc : c.testBit (rix S a k) = true
        · rw [if_pos (fun p => p (hbc.mpr qc))]
        · have qa : ¬ R.testBit a = true := fun p => q ⟨c1, qc, Or.inl p⟩
          have qb : ¬ R.testBit (a + 1 + k) = true := fun p => q ⟨c1, qc, Or.inr p⟩
          rw [if_neg (fun p => p (fun p => qc (hbc.mp p))), if_neg (fun p => p (fun p => qa (hba.mp p))), if_pos (fun p => qb (hbb.mp p))]
    · rw [if_neg c1] at hix
      rw [if_neg (fun q => c1 q.1)] at hci
      refine ⟨(some (xI 0), some (xI 0)), fun Q => ?_, trivial⟩
      show X L 190 33 [some (xR 75), some (xI (t : Int)), some (xI (c : Int)), some (xI (R : Int)), some (xI j), some (xI (rix S a k : Int)), some (xI (a : Int)), some (xI ((a + 1 + k : Nat) : Int)), d8, d9] [] σ Q = X L 190 33 [some (xR 75), some (xI (t : Int)), some (xI (c : Int)), some (xI (ci S c a r (k + 1) : Int)), some (xI j), some (xI (rix S a (k + 1) : Int)), some (xI (a : Int)), some (xI ((a + 1 + (k + 1) : Nat) : Int)), some (xI 0), some (xI 0)] [] σ Q
      rw [hci, hix, e_190_33]
      simp only [brI, not_true_eq_false, true_implies, false_implies, implies_true, and_true, cTag, cTgt, cLen, true_and, Int.toNat_natCast, retI_I, retR_R, retV_N, retL_L, ne_eq, Int.reduceEq, not_false_eq_true, i2, r2, v3, e_190_60, e_190_61, if_true, s0 0 0 rfl (Or.inl rfl)]
      rw [if_neg (by omega), if_pos (by unfold isr at c1; omega)]) (a := (d8, d9)) trivial
  refine ⟨c8, c9, fun Q => ?_⟩
  refine Eq.trans (e1 Q) ?_
  have e : rix S a (5 - a) = rb S (a + 1) := rfl
  show X L 190 33 [some (xR 75), some (xI (t : Int)), some (xI (c : Int)), some (xI (ci S c a r (5 - a) : Int)), some (xI j), some (xI (rix S a (5 - a) : Int)), some (xI (a : Int)), some (xI ((a + 1 + (5 - a) : Nat) : Int)), c8, c9] [] σ Q = _
  rw [e, show a + 1 + (5 - a) = 6 by omega, e_190_33]
  simp only [brI, not_true_eq_false, true_implies, false_implies, implies_true, and_true, cTag, cTgt, cLen, true_and, Int.toNat_natCast, retI_I, retR_R, retV_N, retL_L, ne_eq, Int.reduceEq, not_false_eq_true]
  rw [if_pos (by omega)]
  rfl
theorem x_comeP (hm : ∀ j, j < 36 → σ 76 j = S 1 j) (hS : VS B S) {c t r : Nat} (j : Int) (hc : c < 32768) (hr : r < 64) (d7 d8 d9 : Option PV) : ∃ c7 c8 c9, ∀ Q : PQ, X L 190 20 [some (xR 75), some (xI (t : Int)), some (xI (c : Int)), some (xI (r : Int)), some (xI j), some (xI 0), some (xI 0), d7, d8, d9] [] σ Q = X L 190 150 [some (xR 75), some (xI (t : Int)), some (xI (c : Int)), some (xI (co S c r 6 : Int)), some (xI j), some (xI (rb S 6 : Int)), some (xI 6), c7, c8, c9] [] σ Q := by
  obtain ⟨⟨c7, c8, c9⟩, e1, -⟩ := lpE (n := 6) (fun a (z : Option PV × Option PV × Option PV) Q => X L 190 20 [some (xR 75), some (xI (t : Int)), some (xI (c : Int)), some (xI (co S c r a : Int)), some (xI j), some (xI (rb S a : Int)), some (xI (a : Int)), z.1, z.2.1, z.2.2] [] σ Q) (fun _ _ => True) (by
    intro a ⟨d7, d8, d9⟩ ha _
    obtain ⟨c8, c9, e⟩ := x_comeI (L := L) (t := t) hm hS (a := a) j hc (co_lt (S := S) (c := c) hr a (by omega)) ha d8 d9
    refine ⟨(some (xI 6), c8, c9), fun Q => ?_, trivial⟩
    show X L 190 20 [some (xR 75), some (xI (t : Int)), some (xI (c : Int)), some (xI (co S c r a : Int)), some (xI j), some (xI (rb S a : Int)), some (xI (a : Int)), d7, d8, d9] [] σ Q = X L 190 20 [some (xR 75), some (xI (t : Int)), some (xI (c : Int)), some (xI (co S c r (a + 1) : Int)), some (xI j), some (xI (rb S (a + 1) : Int)), some (xI ((a + 1 : Nat) : Int)), some (xI 6), c8, c9] [] σ Q
    rw [e_190_20]
    simp only [brI]
    rw [if_neg (by omega), w32_id (by omega) (by omega)]
    refine Eq.trans (e Q) ?_
    rw [e_190_144, w32_id (by omega) (by omega)]
    rfl) (a := (d7, d8, d9)) trivial
  refine ⟨c7, c8, c9, fun Q => ?_⟩
  refine Eq.trans (e1 Q) ?_
  show X L 190 20 [some (xR 75), some (xI (t : Int)), some (xI (c : Int)), some (xI (co S c r 6 : Int)), some (xI j), some (xI (rb S 6 : Int)), some (xI 6), c7, c8, c9] [] σ Q = _
  rw [e_190_20]
  simp only [brI, Int.le_refl, if_true]
theorem x_come (hm : ∀ j, j < 36 → σ 76 j = S 1 j) (hS : VS B S) {c t : Nat} (hc : c < 32768) (ht : t < 6) (Q : PQ) : X L 190 0 [some (xR 75), some (xI (t : Int)), some (xI (c : Int)), none, none, none, none, none, none, none] [] σ Q = Q (some (xI (cm S c t 6 : Int))) σ := by
  obtain ⟨⟨c5, c6, c7, c8, c9⟩, e1, -⟩ := lpE (n := 6) (fun j (z : Option PV × Option PV × Option PV × Option PV × Option PV) Q => X L 190 7 [some (xR 75), some (xI (t : Int)), some (xI (c : Int)), some (xI (cm S c t j : Int)), some (xI (j : Int)), z.1, z.2.1, z.2.2.1, z.2.2.2.1, z.2.2.2.2] [] σ Q) (fun _ _ => True) (by
    intro j ⟨d5, d6, d7, d8, d9⟩ hj _
    obtain ⟨c7, c8, c9, e⟩ := x_comeP (L := L) (t := t) hm hS (j : Int) hc (cm_lt (S := S) (c := c) ht j) d7 d8 d9
    refine ⟨(some (xI (rb S 6 : Int)), some (xI 6), c7, c8, c9), fun Q => ?_, trivial⟩
    show X L 190 7 [some (xR 75), some (xI (t : Int)), some (xI (c : Int)), some (xI (cm S c t j : Int)), some (xI (j : Int)), d5, d6, d7, d8, d9] [] σ Q = X L 190 7 [some (xR 75), some (xI (t : Int)), some (xI (c : Int)), some (xI (cm S c t (j + 1) : Int)), some (xI ((j + 1 : Nat) : Int)), some (xI (rb S 6 : Int)), some (xI 6), c7, c8, c9] [] σ Q
    rw [e_190_7]
    simp only [brI]
    rw [if_neg (by omega)]
    refine Eq.trans (e Q) ?_
    rw [e_190_150, w32_id (by omega) (by omega)]
    rfl) (a := (none, none, none, none, none)) trivial
  rw [e_190_0, shl32_n (by omega)]
  refine Eq.trans (e1 Q) ?_
  show X L 190 7 [some (xR 75), some (xI (t : Int)), some (xI (c : Int)), some (xI (cm S c t 6 : Int)), some (xI 6), c5, c6, c7, c8, c9] [] σ Q = _
  rw [e_190_7]
  simp only [brI, Int.le_refl, if_true]
  rw [e_190_156]
end MCut
