/-! rows copied by the Model: now, done, images -/
section Copy2
variable {L : Nat}
theorem cl_159_2  (ρ : Mem) : ∃ τ, (∀ Q : PQ, X L 159 2 [some (xR 75), some (xI 0)] [] ρ Q = X L 159 2 [some (xR 75), some (xI 4)] [] τ Q) ∧ (∀ j, j < 4 → τ 91 (j) = ρ 84 (j)) ∧ (∀ j, j < 4 → τ 92 (j) = ρ 85 (j)) ∧ (∀ j, j < 4 → τ 93 (j) = ρ 86 (j)) ∧ (∀ j, j < 4 → τ 95 (j) = ρ 88 (j)) ∧ (∀ j, j < 2 * 4 → τ 94 j = ρ 87 j) ∧ (∀ o, o ≠ 91 → o ≠ 92 → o ≠ 93 → o ≠ 94 → o ≠ 95 → τ o = ρ o) := by
  refine lpE (n := 4) (fun i (τ : Mem) Q => X L 159 2 [some (xR 75), some (xI (i : Int))] [] τ Q) (fun i τ => (∀ j, j < i → τ 91 (j) = ρ 84 (j)) ∧ (∀ j, j < i → τ 92 (j) = ρ 85 (j)) ∧ (∀ j, j < i → τ 93 (j) = ρ 86 (j)) ∧ (∀ j, j < i → τ 95 (j) = ρ 88 (j)) ∧ (∀ j, j < 2 * (i) → τ 94 j = ρ 87 j) ∧ (∀ o, o ≠ 91 → o ≠ 92 → o ≠ 93 → o ≠ 94 → o ≠ 95 → τ o = ρ o)) ?_ ?_
  · intro i τ hi ⟨h0, h1, h2, h3, h4, hf⟩
    refine ⟨(up (up (up (up (up (up τ 91 (i) (τ 84 (i))) 92 (i) (τ 85 (i))) 93 (i) (τ 86 (i))) 95 (i) (τ 88 (i))) 94 (2 * i) (τ 87 (2 * i))) 94 (2 * i + 1) (τ 87 (2 * i + 1))), fun Q => ?_, ?_, ?_, ?_, ?_, ?_, ?_⟩
    · show X L 159 2 [some (xR 75), some (xI (i : Int))] [] τ Q = X L 159 2 [some (xR 75), some (xI ((i + 1 : Nat) : Int))] [] (up (up (up (up (up (up τ 91 (i) (τ 84 (i))) 92 (i) (τ 85 (i))) 93 (i) (τ 86 (i))) 95 (i) (τ 88 (i))) 94 (2 * i) (τ 87 (2 * i))) 94 (2 * i + 1) (τ 87 (2 * i + 1))) Q
      rw [e_159_2]
      simp only [brI, not_true_eq_false, true_implies, false_implies, implies_true, and_true, cTag, cTgt, cLen, true_and, Int.toNat_natCast, retI_I, retR_R, retV_N, retL_L, ne_eq, Int.reduceEq, not_false_eq_true, up_rd, Nat.reduceEqDiff, false_and, if_false]
      simp (disch := omega) only [le_t, le_f, lt_t, lt_f, eq_t, eq_f, w32_id, inb, if_true, if_false, not_true_eq_false, not_false_eq_true, and_true, true_and, and_false, false_and, or_true, true_or, or_false, false_or, Int.add_zero, Int.zero_add, and_self, or_self, Int.toNat_add, Int.toNat_mul, Int.toNat_natCast, Int.reduceToNat]
      rfl
    · intro j hj
      have z := h0 j
      have e := hf 84 (by decide) (by decide) (by decide) (by decide) (by decide)
      rw [hf 84 (by decide) (by decide) (by decide) (by decide) (by decide), hf 85 (by decide) (by decide) (by decide) (by decide) (by decide), hf 86 (by decide) (by decide) (by decide) (by decide) (by decide), hf 88 (by decide) (by decide) (by decide) (by decide) (by decide), hf 87 (by decide) (by decide) (by decide) (by decide) (by decide)]
      simp only [up_rd, Nat.reduceEqDiff, false_and, if_false, true_and]
      by_cases c : j = i
      · subst c
        simp (disch := omega) only [nq_f, true_and, false_and, and_false, and_true, if_true, if_false, and_self, not_true_eq_false, not_false_eq_true]
      · have z := z (by omega)
        simp (disch := omega) only [nq_f, true_and, false_and, and_false, and_true, if_true, if_false, and_self, not_true_eq_false, not_false_eq_true]
        exact z
    · intro j hj
      have z := h1 j
      have e := hf 85 (by decide) (by decide) (by decide) (by decide) (by decide)
      rw [hf 84 (by decide) (by decide) (by decide) (by decide) (by decide), hf 85 (by decide) (by decide) (by decide) (by decide) (by decide), hf 86 (by decide) (by decide) (by decide) (by decide) (by decide), hf 88 (by decide) (by decide) (by decide) (by decide) (by decide), hf 87 (by decide) (by decide) (by decide) (by decide) (by decide)]
      simp only [up_rd, Nat.reduceEqDiff, false_and, if_false, true_and]
      by_cases c : j = i
      · subst c
        simp (disch := omega) only [nq_f, true_and, false_and, and_false, and_true, if_true, if_false, and_self, not_true_eq_false, not_false_eq_true]
      · have z := z (by omega)
        simp (disch := omega) only [nq_f, true_and, false_and, and_false, and_true, if_true, if_false, and_self, not_true_eq_false, not_false_eq_true]
        exact z
    · intro j hj
      have z := h2 j
      have e := hf 86 (by decide) (by decide) (by decide) (by decide) (by decide)
      rw [hf 84 (by decide) (by decide) (by decide) (by decide) (by decide), hf 85 (by decide) (by decide) (by decide) (by decide) (by decide), hf 86 (by decide) (by decide) (by decide) (by decide) (by decide), hf 88 (by decide) (by decide) (by decide) (by decide) (by decide), hf 87 (by decide) (by decide) (by decide) (by decide) (by decide)]
      simp only [up_rd, Nat.reduceEqDiff, false_and, if_false, true_and]
      by_cases c : j = i
      · subst c
        simp (disch := omega) only [nq_f, true_and, false_and, and_false, and_true, if_true, if_false, and_self, not_true_eq_false, not_false_eq_true]
      · have z := z (by omega)
        simp (disch := omega) only [nq_f, true_and, false_and, and_false, and_true, if_true, if_false, and_self, not_true_eq_false, not_false_eq_true]
        exact z
    · intro j hj
      have z := h3 j
      have e := hf 88 (by decide) (by decide) (by decide) (by decide) (by decide)
      rw [hf 84 (by decide) (by decide) (by decide) (by decide) (by decide), hf 85 (by decide) (by decide) (by decide) (by decide) (by decide), hf 86 (by decide) (by decide) (by decide) (by decide) (by decide), hf 88 (by decide) (by decide) (by decide) (by decide) (by decide), hf 87 (by decide) (by decide) (by decide) (by decide) (by decide)]
      simp only [up_rd, Nat.reduceEqDiff, false_and, if_false, true_and]
      by_cases c : j = i
      · subst c
        simp (disch := omega) only [nq_f, true_and, false_and, and_false, and_true, if_true, if_false, and_self, not_true_eq_false, not_false_eq_true]
      · have z := z (by omega)
        simp (disch := omega) only [nq_f, true_and, false_and, and_false, and_true, if_true, if_false, and_self, not_true_eq_false, not_false_eq_true]
        exact z
    · intro j hj
      have z := h4 j
      rw [hf 84 (by decide) (by decide) (by decide) (by decide) (by decide), hf 85 (by decide) (by decide) (by decide) (by decide) (by decide), hf 86 (by decide) (by decide) (by decide) (by decide) (by decide), hf 88 (by decide) (by decide) (by decide) (by decide) (by decide), hf 87 (by decide) (by decide) (by decide) (by decide) (by decide)]
      simp only [up_rd, Nat.reduceEqDiff, false_and, if_false, true_and]
      by_cases c : j = 2 * i
      · subst c
        simp (disch := omega) only [nq_f, true_and, false_and, and_false, and_true, if_true, if_false, and_self, not_true_eq_false, not_false_eq_true]
      · by_cases c2 : j = 2 * i + 1
        · subst c2
          simp (disch := omega) only [nq_f, true_and, false_and, and_false, and_true, if_true, if_false, and_self, not_true_eq_false, not_false_eq_true]
        · have z := z (by omega)
          simp (disch := omega) only [nq_f, true_and, false_and, and_false, and_true, if_true, if_false, and_self, not_true_eq_false, not_false_eq_true]
          exact z
    · intro o g0 g1 g2 g3 g4
      funext j
      simp only [up_rd]
      rw [if_neg (by omega), if_neg (by omega), if_neg (by omega), if_neg (by omega), if_neg (by omega), if_neg (by omega), hf o g0 g1 g2 g3 g4]
  · exact ⟨fun j hj => by omega, fun j hj => by omega, fun j hj => by omega, fun j hj => by omega, fun j hj => by omega, fun o _ _ _ _ _ => rfl⟩
theorem cl_159_99  (ρ : Mem) : ∃ τ, (∀ Q : PQ, X L 159 99 [some (xR 75), some (xI 0)] [] ρ Q = X L 159 99 [some (xR 75), some (xI 30)] [] τ Q) ∧ (∀ j, j < 30 → τ 96 (j) = ρ 81 (j)) ∧ (∀ o, o ≠ 96 → τ o = ρ o) := by
  refine lpE (n := 30) (fun i (τ : Mem) Q => X L 159 99 [some (xR 75), some (xI (i : Int))] [] τ Q) (fun i τ => (∀ j, j < i → τ 96 (j) = ρ 81 (j)) ∧ (∀ o, o ≠ 96 → τ o = ρ o)) ?_ ?_
  · intro i τ hi ⟨h0, hf⟩
    refine ⟨(up τ 96 (i) (τ 81 (i))), fun Q => ?_, ?_, ?_⟩
    · show X L 159 99 [some (xR 75), some (xI (i : Int))] [] τ Q = X L 159 99 [some (xR 75), some (xI ((i + 1 : Nat) : Int))] [] (up τ 96 (i) (τ 81 (i))) Q
      rw [e_159_99]
      simp only [brI, not_true_eq_false, true_implies, false_implies, implies_true, and_true, cTag, cTgt, cLen, true_and, Int.toNat_natCast, retI_I, retR_R, retV_N, retL_L, ne_eq, Int.reduceEq, not_false_eq_true, up_rd, Nat.reduceEqDiff, false_and, if_false]
      simp (disch := omega) only [le_t, le_f, lt_t, lt_f, eq_t, eq_f, w32_id, inb, if_true, if_false, not_true_eq_false, not_false_eq_true, and_true, true_and, and_false, false_and, or_true, true_or, or_false, false_or, Int.add_zero, Int.zero_add, and_self, or_self, Int.toNat_add, Int.toNat_mul, Int.toNat_natCast, Int.reduceToNat]
      rfl
    · intro j hj
      have z := h0 j
      have e := hf 81 (by decide)
      rw [hf 81 (by decide)]
      simp only [up_rd, Nat.reduceEqDiff, false_and, if_false, true_and]
      by_cases c : j = i
      · subst c
        simp (disch := omega) only [nq_f, true_and, false_and, and_false, and_true, if_true, if_false, and_self, not_true_eq_false, not_false_eq_true]
      · have z := z (by omega)
        simp (disch := omega) only [nq_f, true_and, false_and, and_false, and_true, if_true, if_false, and_self, not_true_eq_false, not_false_eq_true]
        exact z
    · intro o g0
      funext j
      simp only [up_rd]
      rw [if_neg (by omega), hf o g0]
  · exact ⟨fun j hj => by omega, fun o _ => rfl⟩
theorem cl_159_125  (ρ : Mem) : ∃ τ, (∀ Q : PQ, X L 159 125 [some (xR 75), some (xI 0)] [] ρ Q = X L 159 125 [some (xR 75), some (xI 108)] [] τ Q) ∧ (∀ j, j < 108 → τ 97 (j) = ρ 78 (j)) ∧ (∀ o, o ≠ 97 → τ o = ρ o) := by
  refine lpE (n := 108) (fun i (τ : Mem) Q => X L 159 125 [some (xR 75), some (xI (i : Int))] [] τ Q) (fun i τ => (∀ j, j < i → τ 97 (j) = ρ 78 (j)) ∧ (∀ o, o ≠ 97 → τ o = ρ o)) ?_ ?_
  · intro i τ hi ⟨h0, hf⟩
    refine ⟨(up τ 97 (i) (τ 78 (i))), fun Q => ?_, ?_, ?_⟩
    · show X L 159 125 [some (xR 75), some (xI (i : Int))] [] τ Q = X L 159 125 [some (xR 75), some (xI ((i + 1 : Nat) : Int))] [] (up τ 97 (i) (τ 78 (i))) Q
      rw [e_159_125]
      simp only [brI, not_true_eq_false, true_implies, false_implies, implies_true, and_true, cTag, cTgt, cLen, true_and, Int.toNat_natCast, retI_I, retR_R, retV_N, retL_L, ne_eq, Int.reduceEq, not_false_eq_true, up_rd, Nat.reduceEqDiff, false_and, if_false]
      simp (disch := omega) only [le_t, le_f, lt_t, lt_f, eq_t, eq_f, w32_id, inb, if_true, if_false, not_true_eq_false, not_false_eq_true, and_true, true_and, and_false, false_and, or_true, true_or, or_false, false_or, Int.add_zero, Int.zero_add, and_self, or_self, Int.toNat_add, Int.toNat_mul, Int.toNat_natCast, Int.reduceToNat]
      rfl
    · intro j hj
      have z := h0 j
      have e := hf 78 (by decide)
      rw [hf 78 (by decide)]
      simp only [up_rd, Nat.reduceEqDiff, false_and, if_false, true_and]
      by_cases c : j = i
      · subst c
        simp (disch := omega) only [nq_f, true_and, false_and, and_false, and_true, if_true, if_false, and_self, not_true_eq_false, not_false_eq_true]
      · have z := z (by omega)
        simp (disch := omega) only [nq_f, true_and, false_and, and_false, and_true, if_true, if_false, and_self, not_true_eq_false, not_false_eq_true]
        exact z
    · intro o g0
      funext j
      simp only [up_rd]
      rw [if_neg (by omega), hf o g0]
  · exact ⟨fun j hj => by omega, fun o _ => rfl⟩
theorem cl_206_20 {m : Nat} (hm : m < 2) (ρ : Mem) : ∃ τ, (∀ Q : PQ, X L 206 20 [some (xR 75), some (xI (m : Int)), some (xI ((320 * m : Nat) : Int)), some (xI 0)] [] ρ Q = X L 206 20 [some (xR 75), some (xI (m : Int)), some (xI ((320 * m : Nat) : Int)), some (xI 36)] [] τ Q) ∧ (∀ j, j < 36 → τ 102 (320 * m + j) = ρ 76 (j)) ∧ (∀ j, j < 36 → τ 102 (320 * m + 36 + j) = ρ 77 (j)) ∧ (∀ o, o ≠ 102 → τ o = ρ o) ∧ (∀ j, j < 320 * m ∨ 320 * m + 72 ≤ j → τ 102 j = ρ 102 j) := by
  refine lpE (n := 36) (fun i (τ : Mem) Q => X L 206 20 [some (xR 75), some (xI (m : Int)), some (xI ((320 * m : Nat) : Int)), some (xI (i : Int))] [] τ Q) (fun i τ => (∀ j, j < i → τ 102 (320 * m + j) = ρ 76 (j)) ∧ (∀ j, j < i → τ 102 (320 * m + 36 + j) = ρ 77 (j)) ∧ (∀ o, o ≠ 102 → τ o = ρ o) ∧ (∀ j, j < 320 * m ∨ 320 * m + 72 ≤ j → τ 102 j = ρ 102 j)) ?_ ?_
  · intro i τ hi ⟨h0, h1, hf, b0⟩
    refine ⟨(up (up τ 102 (320 * m + i) (τ 76 (i))) 102 (320 * m + 36 + i) (τ 77 (i))), fun Q => ?_, ?_, ?_, ?_, ?_⟩
    · show X L 206 20 [some (xR 75), some (xI (m : Int)), some (xI ((320 * m : Nat) : Int)), some (xI (i : Int))] [] τ Q = X L 206 20 [some (xR 75), some (xI (m : Int)), some (xI ((320 * m : Nat) : Int)), some (xI ((i + 1 : Nat) : Int))] [] (up (up τ 102 (320 * m + i) (τ 76 (i))) 102 (320 * m + 36 + i) (τ 77 (i))) Q
      rw [e_206_20]
      simp only [brI, not_true_eq_false, true_implies, false_implies, implies_true, and_true, cTag, cTgt, cLen, true_and, Int.toNat_natCast, retI_I, retR_R, retV_N, retL_L, ne_eq, Int.reduceEq, not_false_eq_true, up_rd, Nat.reduceEqDiff, false_and, if_false]
      simp (disch := omega) only [le_t, le_f, lt_t, lt_f, eq_t, eq_f, w32_id, inb, if_true, if_false, not_true_eq_false, not_false_eq_true, and_true, true_and, and_false, false_and, or_true, true_or, or_false, false_or, Int.add_zero, Int.zero_add, and_self, or_self, Int.toNat_add, Int.toNat_mul, Int.toNat_natCast, Int.reduceToNat]
      rfl
    · intro j hj
      have z := h0 j
      have e := hf 76 (by decide)
      rw [hf 76 (by decide), hf 77 (by decide)]
      simp only [up_rd, Nat.reduceEqDiff, false_and, if_false, true_and]
      by_cases c : j = i
      · subst c
        simp (disch := omega) only [nq_f, true_and, false_and, and_false, and_true, if_true, if_false, and_self, not_true_eq_false, not_false_eq_true]
      · have z := z (by omega)
        simp (disch := omega) only [nq_f, true_and, false_and, and_false, and_true, if_true, if_false, and_self, not_true_eq_false, not_false_eq_true]
        exact z
    · intro j hj
      have z := h1 j
      have e := hf 77 (by decide)
      rw [hf 76 (by decide), hf 77 (by decide)]
      simp only [up_rd, Nat.reduceEqDiff, false_and, if_false, true_and]
      by_cases c : j = i
      · subst c
        simp (disch := omega) only [nq_f, true_and, false_and, and_false, and_true, if_true, if_false, and_self, not_true_eq_false, not_false_eq_true]
      · have z := z (by omega)
        simp (disch := omega) only [nq_f, true_and, false_and, and_false, and_true, if_true, if_false, and_self, not_true_eq_false, not_false_eq_true]
        exact z
    · intro o g0
      funext j
      simp only [up_rd]
      rw [if_neg (by omega), if_neg (by omega), hf o g0]
    · intro j hj
      simp only [up_rd]
      rw [if_neg (by omega), if_neg (by omega)]
      exact b0 j hj
  · exact ⟨fun j hj => by omega, fun j hj => by omega, fun o _ => rfl, fun j _ => rfl⟩
theorem cl_206_65 {m : Nat} (hm : m < 2) (ρ : Mem) : ∃ τ, (∀ Q : PQ, X L 206 65 [some (xR 75), some (xI (m : Int)), some (xI ((320 * m : Nat) : Int)), some (xI 0)] [] ρ Q = X L 206 65 [some (xR 75), some (xI (m : Int)), some (xI ((320 * m : Nat) : Int)), some (xI 108)] [] τ Q) ∧ (∀ j, j < 108 → τ 102 (320 * m + 72 + j) = ρ 78 (j)) ∧ (∀ o, o ≠ 102 → τ o = ρ o) ∧ (∀ j, j < 320 * m + 72 ∨ 320 * m + 180 ≤ j → τ 102 j = ρ 102 j) := by
  refine lpE (n := 108) (fun i (τ : Mem) Q => X L 206 65 [some (xR 75), some (xI (m : Int)), some (xI ((320 * m : Nat) : Int)), some (xI (i : Int))] [] τ Q) (fun i τ => (∀ j, j < i → τ 102 (320 * m + 72 + j) = ρ 78 (j)) ∧ (∀ o, o ≠ 102 → τ o = ρ o) ∧ (∀ j, j < 320 * m + 72 ∨ 320 * m + 180 ≤ j → τ 102 j = ρ 102 j)) ?_ ?_
  · intro i τ hi ⟨h0, hf, b0⟩
    refine ⟨(up τ 102 (320 * m + 72 + i) (τ 78 (i))), fun Q => ?_, ?_, ?_, ?_⟩
    · show X L 206 65 [some (xR 75), some (xI (m : Int)), some (xI ((320 * m : Nat) : Int)), some (xI (i : Int))] [] τ Q = X L 206 65 [some (xR 75), some (xI (m : Int)), some (xI ((320 * m : Nat) : Int)), some (xI ((i + 1 : Nat) : Int))] [] (up τ 102 (320 * m + 72 + i) (τ 78 (i))) Q
      rw [e_206_65]
      simp only [brI, not_true_eq_false, true_implies, false_implies, implies_true, and_true, cTag, cTgt, cLen, true_and, Int.toNat_natCast, retI_I, retR_R, retV_N, retL_L, ne_eq, Int.reduceEq, not_false_eq_true, up_rd, Nat.reduceEqDiff, false_and, if_false]
      simp (disch := omega) only [le_t, le_f, lt_t, lt_f, eq_t, eq_f, w32_id, inb, if_true, if_false, not_true_eq_false, not_false_eq_true, and_true, true_and, and_false, false_and, or_true, true_or, or_false, false_or, Int.add_zero, Int.zero_add, and_self, or_self, Int.toNat_add, Int.toNat_mul, Int.toNat_natCast, Int.reduceToNat]
      rfl
    · intro j hj
      have z := h0 j
      have e := hf 78 (by decide)
      rw [hf 78 (by decide)]
      simp only [up_rd, Nat.reduceEqDiff, false_and, if_false, true_and]
      by_cases c : j = i
      · subst c
        simp (disch := omega) only [nq_f, true_and, false_and, and_false, and_true, if_true, if_false, and_self, not_true_eq_false, not_false_eq_true]
      · have z := z (by omega)
        simp (disch := omega) only [nq_f, true_and, false_and, and_false, and_true, if_true, if_false, and_self, not_true_eq_false, not_false_eq_true]
        exact z
    · intro o g0
      funext j
      simp only [up_rd]
      rw [if_neg (by omega), hf o g0]
    · intro j hj
      simp only [up_rd]
      rw [if_neg (by omega)]
      exact b0 j hj
  · exact ⟨fun j hj => by omega, fun o _ => rfl, fun j _ => rfl⟩
theorem cl_206_96 {m : Nat} (hm : m < 2) (ρ : Mem) : ∃ τ, (∀ Q : PQ, X L 206 96 [some (xR 75), some (xI (m : Int)), some (xI ((320 * m : Nat) : Int)), some (xI 0)] [] ρ Q = X L 206 96 [some (xR 75), some (xI (m : Int)), some (xI ((320 * m : Nat) : Int)), some (xI 30)] [] τ Q) ∧ (∀ j, j < 30 → τ 102 (320 * m + 180 + j) = ρ 81 (j)) ∧ (∀ o, o ≠ 102 → τ o = ρ o) ∧ (∀ j, j < 320 * m + 180 ∨ 320 * m + 210 ≤ j → τ 102 j = ρ 102 j) := by
  refine lpE (n := 30) (fun i (τ : Mem) Q => X L 206 96 [some (xR 75), some (xI (m : Int)), some (xI ((320 * m : Nat) : Int)), some (xI (i : Int))] [] τ Q) (fun i τ => (∀ j, j < i → τ 102 (320 * m + 180 + j) = ρ 81 (j)) ∧ (∀ o, o ≠ 102 → τ o = ρ o) ∧ (∀ j, j < 320 * m + 180 ∨ 320 * m + 210 ≤ j → τ 102 j = ρ 102 j)) ?_ ?_
  · intro i τ hi ⟨h0, hf, b0⟩
    refine ⟨(up τ 102 (320 * m + 180 + i) (τ 81 (i))), fun Q => ?_, ?_, ?_, ?_⟩
    · show X L 206 96 [some (xR 75), some (xI (m : Int)), some (xI ((320 * m : Nat) : Int)), some (xI (i : Int))] [] τ Q = X L 206 96 [some (xR 75), some (xI (m : Int)), some (xI ((320 * m : Nat) : Int)), some (xI ((i + 1 : Nat) : Int))] [] (up τ 102 (320 * m + 180 + i) (τ 81 (i))) Q
      rw [e_206_96]
      simp only [brI, not_true_eq_false, true_implies, false_implies, implies_true, and_true, cTag, cTgt, cLen, true_and, Int.toNat_natCast, retI_I, retR_R, retV_N, retL_L, ne_eq, Int.reduceEq, not_false_eq_true, up_rd, Nat.reduceEqDiff, false_and, if_false]
      simp (disch := omega) only [le_t, le_f, lt_t, lt_f, eq_t, eq_f, w32_id, inb, if_true, if_false, not_true_eq_false, not_false_eq_true, and_true, true_and, and_false, false_and, or_true, true_or, or_false, false_or, Int.add_zero, Int.zero_add, and_self, or_self, Int.toNat_add, Int.toNat_mul, Int.toNat_natCast, Int.reduceToNat]
      rfl
    · intro j hj
      have z := h0 j
      have e := hf 81 (by decide)
      rw [hf 81 (by decide)]
      simp only [up_rd, Nat.reduceEqDiff, false_and, if_false, true_and]
      by_cases c : j = i
      · subst c
        simp (disch := omega) only [nq_f, true_and, false_and, and_false, and_true, if_true, if_false, and_self, not_true_eq_false, not_false_eq_true]
      · have z := z (by omega)
        simp (disch := omega) only [nq_f, true_and, false_and, and_false, and_true, if_true, if_false, and_self, not_true_eq_false, not_false_eq_true]
        exact z
    · intro o g0
      funext j
      simp only [up_rd]
      rw [if_neg (by omega), hf o g0]
    · intro j hj
      simp only [up_rd]
      rw [if_neg (by omega)]
      exact b0 j hj
  · exact ⟨fun j hj => by omega, fun o _ => rfl, fun j _ => rfl⟩
theorem cl_206_128 {m : Nat} (hm : m < 2) (ρ : Mem) : ∃ τ, (∀ Q : PQ, X L 206 128 [some (xR 75), some (xI (m : Int)), some (xI ((320 * m : Nat) : Int)), some (xI 0)] [] ρ Q = X L 206 128 [some (xR 75), some (xI (m : Int)), some (xI ((320 * m : Nat) : Int)), some (xI 6)] [] τ Q) ∧ (∀ j, j < 6 → τ 102 (320 * m + 210 + j) = ρ 79 (j)) ∧ (∀ j, j < 6 → τ 102 (320 * m + 216 + j) = ρ 80 (j)) ∧ (∀ o, o ≠ 102 → τ o = ρ o) ∧ (∀ j, j < 320 * m + 210 ∨ 320 * m + 222 ≤ j → τ 102 j = ρ 102 j) := by
  refine lpE (n := 6) (fun i (τ : Mem) Q => X L 206 128 [some (xR 75), some (xI (m : Int)), some (xI ((320 * m : Nat) : Int)), some (xI (i : Int))] [] τ Q) (fun i τ => (∀ j, j < i → τ 102 (320 * m + 210 + j) = ρ 79 (j)) ∧ (∀ j, j < i → τ 102 (320 * m + 216 + j) = ρ 80 (j)) ∧ (∀ o, o ≠ 102 → τ o = ρ o) ∧ (∀ j, j < 320 * m + 210 ∨ 320 * m + 222 ≤ j → τ 102 j = ρ 102 j)) ?_ ?_
  · intro i τ hi ⟨h0, h1, hf, b0⟩
    refine ⟨(up (up τ 102 (320 * m + 210 + i) (τ 79 (i))) 102 (320 * m + 216 + i) (τ 80 (i))), fun Q => ?_, ?_, ?_, ?_, ?_⟩
    · show X L 206 128 [some (xR 75), some (xI (m : Int)), some (xI ((320 * m : Nat) : Int)), some (xI (i : Int))] [] τ Q = X L 206 128 [some (xR 75), some (xI (m : Int)), some (xI ((320 * m : Nat) : Int)), some (xI ((i + 1 : Nat) : Int))] [] (up (up τ 102 (320 * m + 210 + i) (τ 79 (i))) 102 (320 * m + 216 + i) (τ 80 (i))) Q
      rw [e_206_128]
      simp only [brI, not_true_eq_false, true_implies, false_implies, implies_true, and_true, cTag, cTgt, cLen, true_and, Int.toNat_natCast, retI_I, retR_R, retV_N, retL_L, ne_eq, Int.reduceEq, not_false_eq_true, up_rd, Nat.reduceEqDiff, false_and, if_false]
      simp (disch := omega) only [le_t, le_f, lt_t, lt_f, eq_t, eq_f, w32_id, inb, if_true, if_false, not_true_eq_false, not_false_eq_true, and_true, true_and, and_false, false_and, or_true, true_or, or_false, false_or, Int.add_zero, Int.zero_add, and_self, or_self, Int.toNat_add, Int.toNat_mul, Int.toNat_natCast, Int.reduceToNat]
      rfl
    · intro j hj
      have z := h0 j
      have e := hf 79 (by decide)
      rw [hf 79 (by decide), hf 80 (by decide)]
      simp only [up_rd, Nat.reduceEqDiff, false_and, if_false, true_and]
      by_cases c : j = i
      · subst c
        simp (disch := omega) only [nq_f, true_and, false_and, and_false, and_true, if_true, if_false, and_self, not_true_eq_false, not_false_eq_true]
      · have z := z (by omega)
        simp (disch := omega) only [nq_f, true_and, false_and, and_false, and_true, if_true, if_false, and_self, not_true_eq_false, not_false_eq_true]
        exact z
    · intro j hj
      have z := h1 j
      have e := hf 80 (by decide)
      rw [hf 79 (by decide), hf 80 (by decide)]
      simp only [up_rd, Nat.reduceEqDiff, false_and, if_false, true_and]
      by_cases c : j = i
      · subst c
        simp (disch := omega) only [nq_f, true_and, false_and, and_false, and_true, if_true, if_false, and_self, not_true_eq_false, not_false_eq_true]
      · have z := z (by omega)
        simp (disch := omega) only [nq_f, true_and, false_and, and_false, and_true, if_true, if_false, and_self, not_true_eq_false, not_false_eq_true]
        exact z
    · intro o g0
      funext j
      simp only [up_rd]
      rw [if_neg (by omega), if_neg (by omega), hf o g0]
    · intro j hj
      simp only [up_rd]
      rw [if_neg (by omega), if_neg (by omega)]
      exact b0 j hj
  · exact ⟨fun j hj => by omega, fun j hj => by omega, fun o _ => rfl, fun j _ => rfl⟩
theorem cl_206_178 {m : Nat} (hm : m < 2) (ρ : Mem) : ∃ τ, (∀ Q : PQ, X L 206 178 [some (xR 75), some (xI (m : Int)), some (xI ((320 * m : Nat) : Int)), some (xI 0)] [] ρ Q = X L 206 178 [some (xR 75), some (xI (m : Int)), some (xI ((320 * m : Nat) : Int)), some (xI 8)] [] τ Q) ∧ (∀ j, j < 8 → τ 102 (320 * m + 222 + j) = ρ 83 (j)) ∧ (∀ j, j < 8 → τ 102 (320 * m + 230 + j) = ρ 87 (j)) ∧ (∀ o, o ≠ 102 → τ o = ρ o) ∧ (∀ j, j < 320 * m + 222 ∨ 320 * m + 238 ≤ j → τ 102 j = ρ 102 j) := by
  refine lpE (n := 8) (fun i (τ : Mem) Q => X L 206 178 [some (xR 75), some (xI (m : Int)), some (xI ((320 * m : Nat) : Int)), some (xI (i : Int))] [] τ Q) (fun i τ => (∀ j, j < i → τ 102 (320 * m + 222 + j) = ρ 83 (j)) ∧ (∀ j, j < i → τ 102 (320 * m + 230 + j) = ρ 87 (j)) ∧ (∀ o, o ≠ 102 → τ o = ρ o) ∧ (∀ j, j < 320 * m + 222 ∨ 320 * m + 238 ≤ j → τ 102 j = ρ 102 j)) ?_ ?_
  · intro i τ hi ⟨h0, h1, hf, b0⟩
    refine ⟨(up (up τ 102 (320 * m + 222 + i) (τ 83 (i))) 102 (320 * m + 230 + i) (τ 87 (i))), fun Q => ?_, ?_, ?_, ?_, ?_⟩
    · show X L 206 178 [some (xR 75), some (xI (m : Int)), some (xI ((320 * m : Nat) : Int)), some (xI (i : Int))] [] τ Q = X L 206 178 [some (xR 75), some (xI (m : Int)), some (xI ((320 * m : Nat) : Int)), some (xI ((i + 1 : Nat) : Int))] [] (up (up τ 102 (320 * m + 222 + i) (τ 83 (i))) 102 (320 * m + 230 + i) (τ 87 (i))) Q
      rw [e_206_178]
      simp only [brI, not_true_eq_false, true_implies, false_implies, implies_true, and_true, cTag, cTgt, cLen, true_and, Int.toNat_natCast, retI_I, retR_R, retV_N, retL_L, ne_eq, Int.reduceEq, not_false_eq_true, up_rd, Nat.reduceEqDiff, false_and, if_false]
      simp (disch := omega) only [le_t, le_f, lt_t, lt_f, eq_t, eq_f, w32_id, inb, if_true, if_false, not_true_eq_false, not_false_eq_true, and_true, true_and, and_false, false_and, or_true, true_or, or_false, false_or, Int.add_zero, Int.zero_add, and_self, or_self, Int.toNat_add, Int.toNat_mul, Int.toNat_natCast, Int.reduceToNat]
      rfl
    · intro j hj
      have z := h0 j
      have e := hf 83 (by decide)
      rw [hf 83 (by decide), hf 87 (by decide)]
      simp only [up_rd, Nat.reduceEqDiff, false_and, if_false, true_and]
      by_cases c : j = i
      · subst c
        simp (disch := omega) only [nq_f, true_and, false_and, and_false, and_true, if_true, if_false, and_self, not_true_eq_false, not_false_eq_true]
      · have z := z (by omega)
        simp (disch := omega) only [nq_f, true_and, false_and, and_false, and_true, if_true, if_false, and_self, not_true_eq_false, not_false_eq_true]
        exact z
    · intro j hj
      have z := h1 j
      have e := hf 87 (by decide)
      rw [hf 83 (by decide), hf 87 (by decide)]
      simp only [up_rd, Nat.reduceEqDiff, false_and, if_false, true_and]
      by_cases c : j = i
      · subst c
        simp (disch := omega) only [nq_f, true_and, false_and, and_false, and_true, if_true, if_false, and_self, not_true_eq_false, not_false_eq_true]
      · have z := z (by omega)
        simp (disch := omega) only [nq_f, true_and, false_and, and_false, and_true, if_true, if_false, and_self, not_true_eq_false, not_false_eq_true]
        exact z
    · intro o g0
      funext j
      simp only [up_rd]
      rw [if_neg (by omega), if_neg (by omega), hf o g0]
    · intro j hj
      simp only [up_rd]
      rw [if_neg (by omega), if_neg (by omega)]
      exact b0 j hj
  · exact ⟨fun j hj => by omega, fun j hj => by omega, fun o _ => rfl, fun j _ => rfl⟩
theorem cl_206_228 {m : Nat} (hm : m < 2) (ρ : Mem) : ∃ τ, (∀ Q : PQ, X L 206 228 [some (xR 75), some (xI (m : Int)), some (xI ((320 * m : Nat) : Int)), some (xI 0)] [] ρ Q = X L 206 228 [some (xR 75), some (xI (m : Int)), some (xI ((320 * m : Nat) : Int)), some (xI 4)] [] τ Q) ∧ (∀ j, j < 4 → τ 102 (320 * m + 238 + j) = ρ 82 (j)) ∧ (∀ j, j < 4 → τ 102 (320 * m + 242 + j) = ρ 84 (j)) ∧ (∀ j, j < 4 → τ 102 (320 * m + 246 + j) = ρ 85 (j)) ∧ (∀ j, j < 4 → τ 102 (320 * m + 250 + j) = ρ 86 (j)) ∧ (∀ j, j < 4 → τ 102 (320 * m + 254 + j) = ρ 88 (j)) ∧ (∀ o, o ≠ 102 → τ o = ρ o) ∧ (∀ j, j < 320 * m + 238 ∨ 320 * m + 258 ≤ j → τ 102 j = ρ 102 j) := by
  refine lpE (n := 4) (fun i (τ : Mem) Q => X L 206 228 [some (xR 75), some (xI (m : Int)), some (xI ((320 * m : Nat) : Int)), some (xI (i : Int))] [] τ Q) (fun i τ => (∀ j, j < i → τ 102 (320 * m + 238 + j) = ρ 82 (j)) ∧ (∀ j, j < i → τ 102 (320 * m + 242 + j) = ρ 84 (j)) ∧ (∀ j, j < i → τ 102 (320 * m + 246 + j) = ρ 85 (j)) ∧ (∀ j, j < i → τ 102 (320 * m + 250 + j) = ρ 86 (j)) ∧ (∀ j, j < i → τ 102 (320 * m + 254 + j) = ρ 88 (j)) ∧ (∀ o, o ≠ 102 → τ o = ρ o) ∧ (∀ j, j < 320 * m + 238 ∨ 320 * m + 258 ≤ j → τ 102 j = ρ 102 j)) ?_ ?_
  · intro i τ hi ⟨h0, h1, h2, h3, h4, hf, b0⟩
    refine ⟨(up (up (up (up (up τ 102 (320 * m + 238 + i) (τ 82 (i))) 102 (320 * m + 242 + i) (τ 84 (i))) 102 (320 * m + 246 + i) (τ 85 (i))) 102 (320 * m + 250 + i) (τ 86 (i))) 102 (320 * m + 254 + i) (τ 88 (i))), fun Q => ?_, ?_, ?_, ?_, ?_, ?_, ?_, ?_⟩
    · show X L 206 228 [some (xR 75), some (xI (m : Int)), some (xI ((320 * m : Nat) : Int)), some (xI (i : Int))] [] τ Q = X L 206 228 [some (xR 75), some (xI (m : Int)), some (xI ((320 * m : Nat) : Int)), some (xI ((i + 1 : Nat) : Int))] [] (up (up (up (up (up τ 102 (320 * m + 238 + i) (τ 82 (i))) 102 (320 * m + 242 + i) (τ 84 (i))) 102 (320 * m + 246 + i) (τ 85 (i))) 102 (320 * m + 250 + i) (τ 86 (i))) 102 (320 * m + 254 + i) (τ 88 (i))) Q
      rw [e_206_228]
      simp only [brI, not_true_eq_false, true_implies, false_implies, implies_true, and_true, cTag, cTgt, cLen, true_and, Int.toNat_natCast, retI_I, retR_R, retV_N, retL_L, ne_eq, Int.reduceEq, not_false_eq_true, up_rd, Nat.reduceEqDiff, false_and, if_false]
      simp (disch := omega) only [le_t, le_f, lt_t, lt_f, eq_t, eq_f, w32_id, inb, if_true, if_false, not_true_eq_false, not_false_eq_true, and_true, true_and, and_false, false_and, or_true, true_or, or_false, false_or, Int.add_zero, Int.zero_add, and_self, or_self, Int.toNat_add, Int.toNat_mul, Int.toNat_natCast, Int.reduceToNat]
      rfl
    · intro j hj
      have z := h0 j
      have e := hf 82 (by decide)
      rw [hf 82 (by decide), hf 84 (by decide), hf 85 (by decide), hf 86 (by decide), hf 88 (by decide)]
      simp only [up_rd, Nat.reduceEqDiff, false_and, if_false, true_and]
      by_cases c : j = i
      · subst c
        simp (disch := omega) only [nq_f, true_and, false_and, and_false, and_true, if_true, if_false, and_self, not_true_eq_false, not_false_eq_true]
      · have z := z (by omega)
        simp (disch := omega) only [nq_f, true_and, false_and, and_false, and_true, if_true, if_false, and_self, not_true_eq_false, not_false_eq_true]
        exact z
    · intro j hj
      have z := h1 j
      have e := hf 84 (by decide)
      rw [hf 82 (by decide), hf 84 (by decide), hf 85 (by decide), hf 86 (by decide), hf 88 (by decide)]
      simp only [up_rd, Nat.reduceEqDiff, false_and, if_false, true_and]
      by_cases c : j = i
      · subst c
        simp (disch := omega) only [nq_f, true_and, false_and, and_false, and_true, if_true, if_false, and_self, not_true_eq_false, not_false_eq_true]
      · have z := z (by omega)
        simp (disch := omega) only [nq_f, true_and, false_and, and_false, and_true, if_true, if_false, and_self, not_true_eq_false, not_false_eq_true]
        exact z
    · intro j hj
      have z := h2 j
      have e := hf 85 (by decide)
      rw [hf 82 (by decide), hf 84 (by decide), hf 85 (by decide), hf 86 (by decide), hf 88 (by decide)]
      simp only [up_rd, Nat.reduceEqDiff, false_and, if_false, true_and]
      by_cases c : j = i
      · subst c
        simp (disch := omega) only [nq_f, true_and, false_and, and_false, and_true, if_true, if_false, and_self, not_true_eq_false, not_false_eq_true]
      · have z := z (by omega)
        simp (disch := omega) only [nq_f, true_and, false_and, and_false, and_true, if_true, if_false, and_self, not_true_eq_false, not_false_eq_true]
        exact z
    · intro j hj
      have z := h3 j
      have e := hf 86 (by decide)
      rw [hf 82 (by decide), hf 84 (by decide), hf 85 (by decide), hf 86 (by decide), hf 88 (by decide)]
      simp only [up_rd, Nat.reduceEqDiff, false_and, if_false, true_and]
      by_cases c : j = i
      · subst c
        simp (disch := omega) only [nq_f, true_and, false_and, and_false, and_true, if_true, if_false, and_self, not_true_eq_false, not_false_eq_true]
      · have z := z (by omega)
        simp (disch := omega) only [nq_f, true_and, false_and, and_false, and_true, if_true, if_false, and_self, not_true_eq_false, not_false_eq_true]
        exact z
    · intro j hj
      have z := h4 j
      have e := hf 88 (by decide)
      rw [hf 82 (by decide), hf 84 (by decide), hf 85 (by decide), hf 86 (by decide), hf 88 (by decide)]
      simp only [up_rd, Nat.reduceEqDiff, false_and, if_false, true_and]
      by_cases c : j = i
      · subst c
        simp (disch := omega) only [nq_f, true_and, false_and, and_false, and_true, if_true, if_false, and_self, not_true_eq_false, not_false_eq_true]
      · have z := z (by omega)
        simp (disch := omega) only [nq_f, true_and, false_and, and_false, and_true, if_true, if_false, and_self, not_true_eq_false, not_false_eq_true]
        exact z
    · intro o g0
      funext j
      simp only [up_rd]
      rw [if_neg (by omega), if_neg (by omega), if_neg (by omega), if_neg (by omega), if_neg (by omega), hf o g0]
    · intro j hj
      simp only [up_rd]
      rw [if_neg (by omega), if_neg (by omega), if_neg (by omega), if_neg (by omega), if_neg (by omega)]
      exact b0 j hj
  · exact ⟨fun j hj => by omega, fun j hj => by omega, fun j hj => by omega, fun j hj => by omega, fun j hj => by omega, fun o _ => rfl, fun j _ => rfl⟩
theorem cl_206_331 {m : Nat} (hm : m < 2) (ρ : Mem) : ∃ τ, (∀ Q : PQ, X L 206 331 [some (xR 75), some (xI (m : Int)), some (xI ((320 * m : Nat) : Int)), some (xI 0)] [] ρ Q = X L 206 331 [some (xR 75), some (xI (m : Int)), some (xI ((320 * m : Nat) : Int)), some (xI 12)] [] τ Q) ∧ (∀ j, j < 12 → τ 102 (320 * m + 258 + j) = ρ 89 (j)) ∧ (∀ o, o ≠ 102 → τ o = ρ o) ∧ (∀ j, j < 320 * m + 258 ∨ 320 * m + 270 ≤ j → τ 102 j = ρ 102 j) := by
  refine lpE (n := 12) (fun i (τ : Mem) Q => X L 206 331 [some (xR 75), some (xI (m : Int)), some (xI ((320 * m : Nat) : Int)), some (xI (i : Int))] [] τ Q) (fun i τ => (∀ j, j < i → τ 102 (320 * m + 258 + j) = ρ 89 (j)) ∧ (∀ o, o ≠ 102 → τ o = ρ o) ∧ (∀ j, j < 320 * m + 258 ∨ 320 * m + 270 ≤ j → τ 102 j = ρ 102 j)) ?_ ?_
  · intro i τ hi ⟨h0, hf, b0⟩
    refine ⟨(up τ 102 (320 * m + 258 + i) (τ 89 (i))), fun Q => ?_, ?_, ?_, ?_⟩
    · show X L 206 331 [some (xR 75), some (xI (m : Int)), some (xI ((320 * m : Nat) : Int)), some (xI (i : Int))] [] τ Q = X L 206 331 [some (xR 75), some (xI (m : Int)), some (xI ((320 * m : Nat) : Int)), some (xI ((i + 1 : Nat) : Int))] [] (up τ 102 (320 * m + 258 + i) (τ 89 (i))) Q
      rw [e_206_331]
      simp only [brI, not_true_eq_false, true_implies, false_implies, implies_true, and_true, cTag, cTgt, cLen, true_and, Int.toNat_natCast, retI_I, retR_R, retV_N, retL_L, ne_eq, Int.reduceEq, not_false_eq_true, up_rd, Nat.reduceEqDiff, false_and, if_false]
      simp (disch := omega) only [le_t, le_f, lt_t, lt_f, eq_t, eq_f, w32_id, inb, if_true, if_false, not_true_eq_false, not_false_eq_true, and_true, true_and, and_false, false_and, or_true, true_or, or_false, false_or, Int.add_zero, Int.zero_add, and_self, or_self, Int.toNat_add, Int.toNat_mul, Int.toNat_natCast, Int.reduceToNat]
      rfl
    · intro j hj
      have z := h0 j
      have e := hf 89 (by decide)
      rw [hf 89 (by decide)]
      simp only [up_rd, Nat.reduceEqDiff, false_and, if_false, true_and]
      by_cases c : j = i
      · subst c
        simp (disch := omega) only [nq_f, true_and, false_and, and_false, and_true, if_true, if_false, and_self, not_true_eq_false, not_false_eq_true]
      · have z := z (by omega)
        simp (disch := omega) only [nq_f, true_and, false_and, and_false, and_true, if_true, if_false, and_self, not_true_eq_false, not_false_eq_true]
        exact z
    · intro o g0
      funext j
      simp only [up_rd]
      rw [if_neg (by omega), hf o g0]
    · intro j hj
      simp only [up_rd]
      rw [if_neg (by omega)]
      exact b0 j hj
  · exact ⟨fun j hj => by omega, fun o _ => rfl, fun j _ => rfl⟩
theorem cl_207_32 {m : Nat} (hm : m < 2) (ρ : Mem) : ∃ τ, (∀ Q : PQ, X L 207 32 [some (xR 75), some (xI (m : Int)), some (xI ((320 * m : Nat) : Int)), some (xI 0)] [] ρ Q = X L 207 32 [some (xR 75), some (xI (m : Int)), some (xI ((320 * m : Nat) : Int)), some (xI 36)] [] τ Q) ∧ (∀ j, j < 36 → τ 76 (j) = ρ 102 (320 * m + j)) ∧ (∀ j, j < 36 → τ 77 (j) = ρ 102 (320 * m + 36 + j)) ∧ (∀ o, o ≠ 76 → o ≠ 77 → τ o = ρ o) := by
  refine lpE (n := 36) (fun i (τ : Mem) Q => X L 207 32 [some (xR 75), some (xI (m : Int)), some (xI ((320 * m : Nat) : Int)), some (xI (i : Int))] [] τ Q) (fun i τ => (∀ j, j < i → τ 76 (j) = ρ 102 (320 * m + j)) ∧ (∀ j, j < i → τ 77 (j) = ρ 102 (320 * m + 36 + j)) ∧ (∀ o, o ≠ 76 → o ≠ 77 → τ o = ρ o)) ?_ ?_
  · intro i τ hi ⟨h0, h1, hf⟩
    refine ⟨(up (up τ 76 (i) (τ 102 (320 * m + i))) 77 (i) (τ 102 (320 * m + 36 + i))), fun Q => ?_, ?_, ?_, ?_⟩
    · show X L 207 32 [some (xR 75), some (xI (m : Int)), some (xI ((320 * m : Nat) : Int)), some (xI (i : Int))] [] τ Q = X L 207 32 [some (xR 75), some (xI (m : Int)), some (xI ((320 * m : Nat) : Int)), some (xI ((i + 1 : Nat) : Int))] [] (up (up τ 76 (i) (τ 102 (320 * m + i))) 77 (i) (τ 102 (320 * m + 36 + i))) Q
      rw [e_207_32]
      simp only [brI, not_true_eq_false, true_implies, false_implies, implies_true, and_true, cTag, cTgt, cLen, true_and, Int.toNat_natCast, retI_I, retR_R, retV_N, retL_L, ne_eq, Int.reduceEq, not_false_eq_true, up_rd, Nat.reduceEqDiff, false_and, if_false]
      simp (disch := omega) only [le_t, le_f, lt_t, lt_f, eq_t, eq_f, w32_id, inb, if_true, if_false, not_true_eq_false, not_false_eq_true, and_true, true_and, and_false, false_and, or_true, true_or, or_false, false_or, Int.add_zero, Int.zero_add, and_self, or_self, Int.toNat_add, Int.toNat_mul, Int.toNat_natCast, Int.reduceToNat]
      rfl
    · intro j hj
      have z := h0 j
      have e := hf 102 (by decide) (by decide)
      rw [hf 102 (by decide) (by decide)]
      simp only [up_rd, Nat.reduceEqDiff, false_and, if_false, true_and]
      by_cases c : j = i
      · subst c
        simp (disch := omega) only [nq_f, true_and, false_and, and_false, and_true, if_true, if_false, and_self, not_true_eq_false, not_false_eq_true]
      · have z := z (by omega)
        simp (disch := omega) only [nq_f, true_and, false_and, and_false, and_true, if_true, if_false, and_self, not_true_eq_false, not_false_eq_true]
        exact z
    · intro j hj
      have z := h1 j
      have e := hf 102 (by decide) (by decide)
      rw [hf 102 (by decide) (by decide)]
      simp only [up_rd, Nat.reduceEqDiff, false_and, if_false, true_and]
      by_cases c : j = i
      · subst c
        simp (disch := omega) only [nq_f, true_and, false_and, and_false, and_true, if_true, if_false, and_self, not_true_eq_false, not_false_eq_true]
      · have z := z (by omega)
        simp (disch := omega) only [nq_f, true_and, false_and, and_false, and_true, if_true, if_false, and_self, not_true_eq_false, not_false_eq_true]
        exact z
    · intro o g0 g1
      funext j
      simp only [up_rd]
      rw [if_neg (by omega), if_neg (by omega), hf o g0 g1]
  · exact ⟨fun j hj => by omega, fun j hj => by omega, fun o _ _ => rfl⟩
theorem cl_207_77 {m : Nat} (hm : m < 2) (ρ : Mem) : ∃ τ, (∀ Q : PQ, X L 207 77 [some (xR 75), some (xI (m : Int)), some (xI ((320 * m : Nat) : Int)), some (xI 0)] [] ρ Q = X L 207 77 [some (xR 75), some (xI (m : Int)), some (xI ((320 * m : Nat) : Int)), some (xI 108)] [] τ Q) ∧ (∀ j, j < 108 → τ 78 (j) = ρ 102 (320 * m + 72 + j)) ∧ (∀ o, o ≠ 78 → τ o = ρ o) := by
  refine lpE (n := 108) (fun i (τ : Mem) Q => X L 207 77 [some (xR 75), some (xI (m : Int)), some (xI ((320 * m : Nat) : Int)), some (xI (i : Int))] [] τ Q) (fun i τ => (∀ j, j < i → τ 78 (j) = ρ 102 (320 * m + 72 + j)) ∧ (∀ o, o ≠ 78 → τ o = ρ o)) ?_ ?_
  · intro i τ hi ⟨h0, hf⟩
    refine ⟨(up τ 78 (i) (τ 102 (320 * m + 72 + i))), fun Q => ?_, ?_, ?_⟩
    · show X L 207 77 [some (xR 75), some (xI (m : Int)), some (xI ((320 * m : Nat) : Int)), some (xI (i : Int))] [] τ Q = X L 207 77 [some (xR 75), some (xI (m : Int)), some (xI ((320 * m : Nat) : Int)), some (xI ((i + 1 : Nat) : Int))] [] (up τ 78 (i) (τ 102 (320 * m + 72 + i))) Q
      rw [e_207_77]
      simp only [brI, not_true_eq_false, true_implies, false_implies, implies_true, and_true, cTag, cTgt, cLen, true_and, Int.toNat_natCast, retI_I, retR_R, retV_N, retL_L, ne_eq, Int.reduceEq, not_false_eq_true, up_rd, Nat.reduceEqDiff, false_and, if_false]
      simp (disch := omega) only [le_t, le_f, lt_t, lt_f, eq_t, eq_f, w32_id, inb, if_true, if_false, not_true_eq_false, not_false_eq_true, and_true, true_and, and_false, false_and, or_true, true_or, or_false, false_or, Int.add_zero, Int.zero_add, and_self, or_self, Int.toNat_add, Int.toNat_mul, Int.toNat_natCast, Int.reduceToNat]
      rfl
    · intro j hj
      have z := h0 j
      have e := hf 102 (by decide)
      rw [hf 102 (by decide)]
      simp only [up_rd, Nat.reduceEqDiff, false_and, if_false, true_and]
      by_cases c : j = i
      · subst c
        simp (disch := omega) only [nq_f, true_and, false_and, and_false, and_true, if_true, if_false, and_self, not_true_eq_false, not_false_eq_true]
      · have z := z (by omega)
        simp (disch := omega) only [nq_f, true_and, false_and, and_false, and_true, if_true, if_false, and_self, not_true_eq_false, not_false_eq_true]
        exact z
    · intro o g0
      funext j
      simp only [up_rd]
      rw [if_neg (by omega), hf o g0]
  · exact ⟨fun j hj => by omega, fun o _ => rfl⟩
theorem cl_207_108 {m : Nat} (hm : m < 2) (ρ : Mem) : ∃ τ, (∀ Q : PQ, X L 207 108 [some (xR 75), some (xI (m : Int)), some (xI ((320 * m : Nat) : Int)), some (xI 0)] [] ρ Q = X L 207 108 [some (xR 75), some (xI (m : Int)), some (xI ((320 * m : Nat) : Int)), some (xI 30)] [] τ Q) ∧ (∀ j, j < 30 → τ 81 (j) = ρ 102 (320 * m + 180 + j)) ∧ (∀ o, o ≠ 81 → τ o = ρ o) := by
  refine lpE (n := 30) (fun i (τ : Mem) Q => X L 207 108 [some (xR 75), some (xI (m : Int)), some (xI ((320 * m : Nat) : Int)), some (xI (i : Int))] [] τ Q) (fun i τ => (∀ j, j < i → τ 81 (j) = ρ 102 (320 * m + 180 + j)) ∧ (∀ o, o ≠ 81 → τ o = ρ o)) ?_ ?_
  · intro i τ hi ⟨h0, hf⟩
    refine ⟨(up τ 81 (i) (τ 102 (320 * m + 180 + i))), fun Q => ?_, ?_, ?_⟩
    · show X L 207 108 [some (xR 75), some (xI (m : Int)), some (xI ((320 * m : Nat) : Int)), some (xI (i : Int))] [] τ Q = X L 207 108 [some (xR 75), some (xI (m : Int)), some (xI ((320 * m : Nat) : Int)), some (xI ((i + 1 : Nat) : Int))] [] (up τ 81 (i) (τ 102 (320 * m + 180 + i))) Q
      rw [e_207_108]
      simp only [brI, not_true_eq_false, true_implies, false_implies, implies_true, and_true, cTag, cTgt, cLen, true_and, Int.toNat_natCast, retI_I, retR_R, retV_N, retL_L, ne_eq, Int.reduceEq, not_false_eq_true, up_rd, Nat.reduceEqDiff, false_and, if_false]
      simp (disch := omega) only [le_t, le_f, lt_t, lt_f, eq_t, eq_f, w32_id, inb, if_true, if_false, not_true_eq_false, not_false_eq_true, and_true, true_and, and_false, false_and, or_true, true_or, or_false, false_or, Int.add_zero, Int.zero_add, and_self, or_self, Int.toNat_add, Int.toNat_mul, Int.toNat_natCast, Int.reduceToNat]
      rfl
    · intro j hj
      have z := h0 j
      have e := hf 102 (by decide)
      rw [hf 102 (by decide)]
      simp only [up_rd, Nat.reduceEqDiff, false_and, if_false, true_and]
      by_cases c : j = i
      · subst c
        simp (disch := omega) only [nq_f, true_and, false_and, and_false, and_true, if_true, if_false, and_self, not_true_eq_false, not_false_eq_true]
      · have z := z (by omega)
        simp (disch := omega) only [nq_f, true_and, false_and, and_false, and_true, if_true, if_false, and_self, not_true_eq_false, not_false_eq_true]
        exact z
    · intro o g0
      funext j
      simp only [up_rd]
      rw [if_neg (by omega), hf o g0]
  · exact ⟨fun j hj => by omega, fun o _ => rfl⟩
theorem cl_207_140 {m : Nat} (hm : m < 2) (ρ : Mem) : ∃ τ, (∀ Q : PQ, X L 207 140 [some (xR 75), some (xI (m : Int)), some (xI ((320 * m : Nat) : Int)), some (xI 0)] [] ρ Q = X L 207 140 [some (xR 75), some (xI (m : Int)), some (xI ((320 * m : Nat) : Int)), some (xI 6)] [] τ Q) ∧ (∀ j, j < 6 → τ 79 (j) = ρ 102 (320 * m + 210 + j)) ∧ (∀ j, j < 6 → τ 80 (j) = ρ 102 (320 * m + 216 + j)) ∧ (∀ o, o ≠ 79 → o ≠ 80 → τ o = ρ o) := by
  refine lpE (n := 6) (fun i (τ : Mem) Q => X L 207 140 [some (xR 75), some (xI (m : Int)), some (xI ((320 * m : Nat) : Int)), some (xI (i : Int))] [] τ Q) (fun i τ => (∀ j, j < i → τ 79 (j) = ρ 102 (320 * m + 210 + j)) ∧ (∀ j, j < i → τ 80 (j) = ρ 102 (320 * m + 216 + j)) ∧ (∀ o, o ≠ 79 → o ≠ 80 → τ o = ρ o)) ?_ ?_
  · intro i τ hi ⟨h0, h1, hf⟩
    refine ⟨(up (up τ 79 (i) (τ 102 (320 * m + 210 + i))) 80 (i) (τ 102 (320 * m + 216 + i))), fun Q => ?_, ?_, ?_, ?_⟩
    · show X L 207 140 [some (xR 75), some (xI (m : Int)), some (xI ((320 * m : Nat) : Int)), some (xI (i : Int))] [] τ Q = X L 207 140 [some (xR 75), some (xI (m : Int)), some (xI ((320 * m : Nat) : Int)), some (xI ((i + 1 : Nat) : Int))] [] (up (up τ 79 (i) (τ 102 (320 * m + 210 + i))) 80 (i) (τ 102 (320 * m + 216 + i))) Q
      rw [e_207_140]
      simp only [brI, not_true_eq_false, true_implies, false_implies, implies_true, and_true, cTag, cTgt, cLen, true_and, Int.toNat_natCast, retI_I, retR_R, retV_N, retL_L, ne_eq, Int.reduceEq, not_false_eq_true, up_rd, Nat.reduceEqDiff, false_and, if_false]
      simp (disch := omega) only [le_t, le_f, lt_t, lt_f, eq_t, eq_f, w32_id, inb, if_true, if_false, not_true_eq_false, not_false_eq_true, and_true, true_and, and_false, false_and, or_true, true_or, or_false, false_or, Int.add_zero, Int.zero_add, and_self, or_self, Int.toNat_add, Int.toNat_mul, Int.toNat_natCast, Int.reduceToNat]
      rfl
    · intro j hj
      have z := h0 j
      have e := hf 102 (by decide) (by decide)
      rw [hf 102 (by decide) (by decide)]
      simp only [up_rd, Nat.reduceEqDiff, false_and, if_false, true_and]
      by_cases c : j = i
      · subst c
        simp (disch := omega) only [nq_f, true_and, false_and, and_false, and_true, if_true, if_false, and_self, not_true_eq_false, not_false_eq_true]
      · have z := z (by omega)
        simp (disch := omega) only [nq_f, true_and, false_and, and_false, and_true, if_true, if_false, and_self, not_true_eq_false, not_false_eq_true]
        exact z
    · intro j hj
      have z := h1 j
      have e := hf 102 (by decide) (by decide)
      rw [hf 102 (by decide) (by decide)]
      simp only [up_rd, Nat.reduceEqDiff, false_and, if_false, true_and]
      by_cases c : j = i
      · subst c
        simp (disch := omega) only [nq_f, true_and, false_and, and_false, and_true, if_true, if_false, and_self, not_true_eq_false, not_false_eq_true]
      · have z := z (by omega)
        simp (disch := omega) only [nq_f, true_and, false_and, and_false, and_true, if_true, if_false, and_self, not_true_eq_false, not_false_eq_true]
        exact z
    · intro o g0 g1
      funext j
      simp only [up_rd]
      rw [if_neg (by omega), if_neg (by omega), hf o g0 g1]
  · exact ⟨fun j hj => by omega, fun j hj => by omega, fun o _ _ => rfl⟩
theorem cl_207_190 {m : Nat} (hm : m < 2) (ρ : Mem) : ∃ τ, (∀ Q : PQ, X L 207 190 [some (xR 75), some (xI (m : Int)), some (xI ((320 * m : Nat) : Int)), some (xI 0)] [] ρ Q = X L 207 190 [some (xR 75), some (xI (m : Int)), some (xI ((320 * m : Nat) : Int)), some (xI 8)] [] τ Q) ∧ (∀ j, j < 8 → τ 83 (j) = ρ 102 (320 * m + 222 + j)) ∧ (∀ j, j < 8 → τ 87 (j) = ρ 102 (320 * m + 230 + j)) ∧ (∀ o, o ≠ 83 → o ≠ 87 → τ o = ρ o) := by
  refine lpE (n := 8) (fun i (τ : Mem) Q => X L 207 190 [some (xR 75), some (xI (m : Int)), some (xI ((320 * m : Nat) : Int)), some (xI (i : Int))] [] τ Q) (fun i τ => (∀ j, j < i → τ 83 (j) = ρ 102 (320 * m + 222 + j)) ∧ (∀ j, j < i → τ 87 (j) = ρ 102 (320 * m + 230 + j)) ∧ (∀ o, o ≠ 83 → o ≠ 87 → τ o = ρ o)) ?_ ?_
  · intro i τ hi ⟨h0, h1, hf⟩
    refine ⟨(up (up τ 83 (i) (τ 102 (320 * m + 222 + i))) 87 (i) (τ 102 (320 * m + 230 + i))), fun Q => ?_, ?_, ?_, ?_⟩
    · show X L 207 190 [some (xR 75), some (xI (m : Int)), some (xI ((320 * m : Nat) : Int)), some (xI (i : Int))] [] τ Q = X L 207 190 [some (xR 75), some (xI (m : Int)), some (xI ((320 * m : Nat) : Int)), some (xI ((i + 1 : Nat) : Int))] [] (up (up τ 83 (i) (τ 102 (320 * m + 222 + i))) 87 (i) (τ 102 (320 * m + 230 + i))) Q
      rw [e_207_190]
      simp only [brI, not_true_eq_false, true_implies, false_implies, implies_true, and_true, cTag, cTgt, cLen, true_and, Int.toNat_natCast, retI_I, retR_R, retV_N, retL_L, ne_eq, Int.reduceEq, not_false_eq_true, up_rd, Nat.reduceEqDiff, false_and, if_false]
      simp (disch := omega) only [le_t, le_f, lt_t, lt_f, eq_t, eq_f, w32_id, inb, if_true, if_false, not_true_eq_false, not_false_eq_true, and_true, true_and, and_false, false_and, or_true, true_or, or_false, false_or, Int.add_zero, Int.zero_add, and_self, or_self, Int.toNat_add, Int.toNat_mul, Int.toNat_natCast, Int.reduceToNat]
      rfl
    · intro j hj
      have z := h0 j
      have e := hf 102 (by decide) (by decide)
      rw [hf 102 (by decide) (by decide)]
      simp only [up_rd, Nat.reduceEqDiff, false_and, if_false, true_and]
      by_cases c : j = i
      · subst c
        simp (disch := omega) only [nq_f, true_and, false_and, and_false, and_true, if_true, if_false, and_self, not_true_eq_false, not_false_eq_true]
      · have z := z (by omega)
        simp (disch := omega) only [nq_f, true_and, false_and, and_false, and_true, if_true, if_false, and_self, not_true_eq_false, not_false_eq_true]
        exact z
    · intro j hj
      have z := h1 j
      have e := hf 102 (by decide) (by decide)
      rw [hf 102 (by decide) (by decide)]
      simp only [up_rd, Nat.reduceEqDiff, false_and, if_false, true_and]
      by_cases c : j = i
      · subst c
        simp (disch := omega) only [nq_f, true_and, false_and, and_false, and_true, if_true, if_false, and_self, not_true_eq_false, not_false_eq_true]
      · have z := z (by omega)
        simp (disch := omega) only [nq_f, true_and, false_and, and_false, and_true, if_true, if_false, and_self, not_true_eq_false, not_false_eq_true]
        exact z
    · intro o g0 g1
      funext j
      simp only [up_rd]
      rw [if_neg (by omega), if_neg (by omega), hf o g0 g1]
  · exact ⟨fun j hj => by omega, fun j hj => by omega, fun o _ _ => rfl⟩
theorem cl_207_240 {m : Nat} (hm : m < 2) (ρ : Mem) : ∃ τ, (∀ Q : PQ, X L 207 240 [some (xR 75), some (xI (m : Int)), some (xI ((320 * m : Nat) : Int)), some (xI 0)] [] ρ Q = X L 207 240 [some (xR 75), some (xI (m : Int)), some (xI ((320 * m : Nat) : Int)), some (xI 4)] [] τ Q) ∧ (∀ j, j < 4 → τ 82 (j) = ρ 102 (320 * m + 238 + j)) ∧ (∀ j, j < 4 → τ 84 (j) = ρ 102 (320 * m + 242 + j)) ∧ (∀ j, j < 4 → τ 85 (j) = ρ 102 (320 * m + 246 + j)) ∧ (∀ j, j < 4 → τ 86 (j) = ρ 102 (320 * m + 250 + j)) ∧ (∀ j, j < 4 → τ 88 (j) = ρ 102 (320 * m + 254 + j)) ∧ (∀ o, o ≠ 82 → o ≠ 84 → o ≠ 85 → o ≠ 86 → o ≠ 88 → τ o = ρ o) := by
  refine lpE (n := 4) (fun i (τ : Mem) Q => X L 207 240 [some (xR 75), some (xI (m : Int)), some (xI ((320 * m : Nat) : Int)), some (xI (i : Int))] [] τ Q) (fun i τ => (∀ j, j < i → τ 82 (j) = ρ 102 (320 * m + 238 + j)) ∧ (∀ j, j < i → τ 84 (j) = ρ 102 (320 * m + 242 + j)) ∧ (∀ j, j < i → τ 85 (j) = ρ 102 (320 * m + 246 + j)) ∧ (∀ j, j < i → τ 86 (j) = ρ 102 (320 * m + 250 + j)) ∧ (∀ j, j < i → τ 88 (j) = ρ 102 (320 * m + 254 + j)) ∧ (∀ o, o ≠ 82 → o ≠ 84 → o ≠ 85 → o ≠ 86 → o ≠ 88 → τ o = ρ o)) ?_ ?_
  · intro i τ hi ⟨h0, h1, h2, h3, h4, hf⟩
    refine ⟨(up (up (up (up (up τ 82 (i) (τ 102 (320 * m + 238 + i))) 84 (i) (τ 102 (320 * m + 242 + i))) 85 (i) (τ 102 (320 * m + 246 + i))) 86 (i) (τ 102 (320 * m + 250 + i))) 88 (i) (τ 102 (320 * m + 254 + i))), fun Q => ?_, ?_, ?_, ?_, ?_, ?_, ?_⟩
    · show X L 207 240 [some (xR 75), some (xI (m : Int)), some (xI ((320 * m : Nat) : Int)), some (xI (i : Int))] [] τ Q = X L 207 240 [some (xR 75), some (xI (m : Int)), some (xI ((320 * m : Nat) : Int)), some (xI ((i + 1 : Nat) : Int))] [] (up (up (up (up (up τ 82 (i) (τ 102 (320 * m + 238 + i))) 84 (i) (τ 102 (320 * m + 242 + i))) 85 (i) (τ 102 (320 * m + 246 + i))) 86 (i) (τ 102 (320 * m + 250 + i))) 88 (i) (τ 102 (320 * m + 254 + i))) Q
      rw [e_207_240]
      simp only [brI, not_true_eq_false, true_implies, false_implies, implies_true, and_true, cTag, cTgt, cLen, true_and, Int.toNat_natCast, retI_I, retR_R, retV_N, retL_L, ne_eq, Int.reduceEq, not_false_eq_true, up_rd, Nat.reduceEqDiff, false_and, if_false]
      simp (disch := omega) only [le_t, le_f, lt_t, lt_f, eq_t, eq_f, w32_id, inb, if_true, if_false, not_true_eq_false, not_false_eq_true, and_true, true_and, and_false, false_and, or_true, true_or, or_false, false_or, Int.add_zero, Int.zero_add, and_self, or_self, Int.toNat_add, Int.toNat_mul, Int.toNat_natCast, Int.reduceToNat]
      rfl
    · intro j hj
      have z := h0 j
      have e := hf 102 (by decide) (by decide) (by decide) (by decide) (by decide)
      rw [hf 102 (by decide) (by decide) (by decide) (by decide) (by decide)]
      simp only [up_rd, Nat.reduceEqDiff, false_and, if_false, true_and]
      by_cases c : j = i
      · subst c
        simp (disch := omega) only [nq_f, true_and, false_and, and_false, and_true, if_true, if_false, and_self, not_true_eq_false, not_false_eq_true]
      · have z := z (by omega)
        simp (disch := omega) only [nq_f, true_and, false_and, and_false, and_true, if_true, if_false, and_self, not_true_eq_false, not_false_eq_true]
        exact z
    · intro j hj
      have z := h1 j
      have e := hf 102 (by decide) (by decide) (by decide) (by decide) (by decide)
      rw [hf 102 (by decide) (by decide) (by decide) (by decide) (by decide)]
      simp only [up_rd, Nat.reduceEqDiff, false_and, if_false, true_and]
      by_cases c : j = i
      · subst c
        simp (disch := omega) only [nq_f, true_and, false_and, and_false, and_true, if_true, if_false, and_self, not_true_eq_false, not_false_eq_true]
      · have z := z (by omega)
        simp (disch := omega) only [nq_f, true_and, false_and, and_false, and_true, if_true, if_false, and_self, not_true_eq_false, not_false_eq_true]
        exact z
    · intro j hj
      have z := h2 j
      have e := hf 102 (by decide) (by decide) (by decide) (by decide) (by decide)
      rw [hf 102 (by decide) (by decide) (by decide) (by decide) (by decide)]
      simp only [up_rd, Nat.reduceEqDiff, false_and, if_false, true_and]
      by_cases c : j = i
      · subst c
        simp (disch := omega) only [nq_f, true_and, false_and, and_false, and_true, if_true, if_false, and_self, not_true_eq_false, not_false_eq_true]
      · have z := z (by omega)
        simp (disch := omega) only [nq_f, true_and, false_and, and_false, and_true, if_true, if_false, and_self, not_true_eq_false, not_false_eq_true]
        exact z
    · intro j hj
      have z := h3 j
      have e := hf 102 (by decide) (by decide) (by decide) (by decide) (by decide)
      rw [hf 102 (by decide) (by decide) (by decide) (by decide) (by decide)]
      simp only [up_rd, Nat.reduceEqDiff, false_and, if_false, true_and]
      by_cases c : j = i
      · subst c
        simp (disch := omega) only [nq_f, true_and, false_and, and_false, and_true, if_true, if_false, and_self, not_true_eq_false, not_false_eq_true]
      · have z := z (by omega)
        simp (disch := omega) only [nq_f, true_and, false_and, and_false, and_true, if_true, if_false, and_self, not_true_eq_false, not_false_eq_true]
        exact z
    · intro j hj
      have z := h4 j
      have e := hf 102 (by decide) (by decide) (by decide) (by decide) (by decide)
      rw [hf 102 (by decide) (by decide) (by decide) (by decide) (by decide)]
      simp only [up_rd, Nat.reduceEqDiff, false_and, if_false, true_and]
      by_cases c : j = i
      · subst c
        simp (disch := omega) only [nq_f, true_and, false_and, and_false, and_true, if_true, if_false, and_self, not_true_eq_false, not_false_eq_true]
      · have z := z (by omega)
        simp (disch := omega) only [nq_f, true_and, false_and, and_false, and_true, if_true, if_false, and_self, not_true_eq_false, not_false_eq_true]
        exact z
    · intro o g0 g1 g2 g3 g4
      funext j
      simp only [up_rd]
      rw [if_neg (by omega), if_neg (by omega), if_neg (by omega), if_neg (by omega), if_neg (by omega), hf o g0 g1 g2 g3 g4]
  · exact ⟨fun j hj => by omega, fun j hj => by omega, fun j hj => by omega, fun j hj => by omega, fun j hj => by omega, fun o _ _ _ _ _ => rfl⟩
theorem cl_207_343 {m : Nat} (hm : m < 2) (ρ : Mem) : ∃ τ, (∀ Q : PQ, X L 207 343 [some (xR 75), some (xI (m : Int)), some (xI ((320 * m : Nat) : Int)), some (xI 0)] [] ρ Q = X L 207 343 [some (xR 75), some (xI (m : Int)), some (xI ((320 * m : Nat) : Int)), some (xI 12)] [] τ Q) ∧ (∀ j, j < 12 → τ 89 (j) = ρ 102 (320 * m + 258 + j)) ∧ (∀ o, o ≠ 89 → τ o = ρ o) := by
  refine lpE (n := 12) (fun i (τ : Mem) Q => X L 207 343 [some (xR 75), some (xI (m : Int)), some (xI ((320 * m : Nat) : Int)), some (xI (i : Int))] [] τ Q) (fun i τ => (∀ j, j < i → τ 89 (j) = ρ 102 (320 * m + 258 + j)) ∧ (∀ o, o ≠ 89 → τ o = ρ o)) ?_ ?_
  · intro i τ hi ⟨h0, hf⟩
    refine ⟨(up τ 89 (i) (τ 102 (320 * m + 258 + i))), fun Q => ?_, ?_, ?_⟩
    · show X L 207 343 [some (xR 75), some (xI (m : Int)), some (xI ((320 * m : Nat) : Int)), some (xI (i : Int))] [] τ Q = X L 207 343 [some (xR 75), some (xI (m : Int)), some (xI ((320 * m : Nat) : Int)), some (xI ((i + 1 : Nat) : Int))] [] (up τ 89 (i) (τ 102 (320 * m + 258 + i))) Q
      rw [e_207_343]
      simp only [brI, not_true_eq_false, true_implies, false_implies, implies_true, and_true, cTag, cTgt, cLen, true_and, Int.toNat_natCast, retI_I, retR_R, retV_N, retL_L, ne_eq, Int.reduceEq, not_false_eq_true, up_rd, Nat.reduceEqDiff, false_and, if_false]
      simp (disch := omega) only [le_t, le_f, lt_t, lt_f, eq_t, eq_f, w32_id, inb, if_true, if_false, not_true_eq_false, not_false_eq_true, and_true, true_and, and_false, false_and, or_true, true_or, or_false, false_or, Int.add_zero, Int.zero_add, and_self, or_self, Int.toNat_add, Int.toNat_mul, Int.toNat_natCast, Int.reduceToNat]
      rfl
    · intro j hj
      have z := h0 j
      have e := hf 102 (by decide)
      rw [hf 102 (by decide)]
      simp only [up_rd, Nat.reduceEqDiff, false_and, if_false, true_and]
      by_cases c : j = i
      · subst c
        simp (disch := omega) only [nq_f, true_and, false_and, and_false, and_true, if_true, if_false, and_self, not_true_eq_false, not_false_eq_true]
      · have z := z (by omega)
        simp (disch := omega) only [nq_f, true_and, false_and, and_false, and_true, if_true, if_false, and_self, not_true_eq_false, not_false_eq_true]
        exact z
    · intro o g0
      funext j
      simp only [up_rd]
      rw [if_neg (by omega), hf o g0]
  · exact ⟨fun j hj => by omega, fun o _ => rfl⟩
end Copy2
