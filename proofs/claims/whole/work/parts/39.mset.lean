/-! the calls that set the valley: the Model -/
section MSet
variable {T : Ful} {σ τ : Mem} {B : Int} {L : Nat} {S : Mem}
theorem IM.tw (hI : IM T σ) : σ 75 0 = T 0 0 0 := hI.1.1
theorem IM.th (hI : IM T σ) : σ 75 9 = thb (T 0) := hI.1.th
def z2 (σ : Mem) (a b i n : Nat) : Mem := fun o j => if (o = a ∨ o = b) ∧ i ≤ j ∧ j < n then 0 else σ o j
theorem m_towns (hI : IM T σ) (hV : IV B T) (n : Int) : MO σ (X L 146 0 [some (xR 75), some (xI n), none, none] [] σ) (a_towns T n) (n_towns T n) := by
  unfold a_towns n_towns
  by_cases c : 2 ≤ n ∧ n ≤ 6
  · rw [if_pos c, if_pos c]
    have l1 : ∀ (w : Int) (ρ : Mem) (Q : PQ), X L 146 25 [some (xR 75), some (xI n), some (xI w), some (xI 0)] [] ρ Q = X L 146 25 [some (xR 75), some (xI n), some (xI w), some (xI 36)] [] (z2 ρ 76 77 0 36) Q := by
      intro w ρ Q
      have h := lpF (n := 36) (fun i (x : Mem) Q => X L 146 25 [some (xR 75), some (xI n), some (xI w), some (xI (i : Int))] [] x Q) (fun i => z2 ρ 76 77 0 i) (by
        intro i hi Q
        show X L 146 25 [some (xR 75), some (xI n), some (xI w), some (xI (i : Int))] [] (z2 ρ 76 77 0 i) Q = X L 146 25 [some (xR 75), some (xI n), some (xI w), some (xI ((i + 1 : Nat) : Int))] [] (z2 ρ 76 77 0 (i + 1)) Q
        rw [e_146_25]
        simp only [brI, not_true_eq_false, true_implies, false_implies, implies_true, and_true, cTag, cTgt, cLen, true_and, Int.toNat_natCast, retI_I, retR_R, retV_N, retL_L, ne_eq, Int.reduceEq, not_false_eq_true]
        simp (disch := omega) only [le_t, le_f, lt_t, lt_f, eq_t, eq_f, w32_id, inb, if_true, if_false, not_true_eq_false, not_false_eq_true, and_true, true_and, and_false, false_and, or_true, true_or, or_false, false_or, Int.add_zero, Int.zero_add, and_self, or_self]
        rw [show ((i : Int) + 1) = ((i + 1 : Nat) : Int) by omega]
        congr 1
        funext o j
        simp only [up_rd, z2]
        (repeat' split) <;> first | rfl | (exfalso; omega)) Q
      refine Eq.trans ?_ h
      show _ = X L 146 25 [some (xR 75), some (xI n), some (xI w), some (xI ((0 : Nat) : Int))] [] (z2 ρ 76 77 0 0) Q
      congr 1
      funext o j
      simp only [z2]
      rw [if_neg (by omega)]
    have l2 : ∀ (w : Int) (ρ : Mem) (Q : PQ), X L 146 53 [some (xR 75), some (xI n), some (xI w), some (xI 0)] [] ρ Q = X L 146 53 [some (xR 75), some (xI n), some (xI w), some (xI 108)] [] (z2 ρ 78 78 0 108) Q := by
      intro w ρ Q
      have h := lpF (n := 108) (fun i (x : Mem) Q => X L 146 53 [some (xR 75), some (xI n), some (xI w), some (xI (i : Int))] [] x Q) (fun i => z2 ρ 78 78 0 i) (by
        intro i hi Q
        show X L 146 53 [some (xR 75), some (xI n), some (xI w), some (xI (i : Int))] [] (z2 ρ 78 78 0 i) Q = X L 146 53 [some (xR 75), some (xI n), some (xI w), some (xI ((i + 1 : Nat) : Int))] [] (z2 ρ 78 78 0 (i + 1)) Q
        rw [e_146_53]
        simp only [brI, not_true_eq_false, true_implies, false_implies, implies_true, and_true, cTag, cTgt, cLen, true_and, Int.toNat_natCast, retI_I, retR_R, retV_N, retL_L, ne_eq, Int.reduceEq, not_false_eq_true]
        simp (disch := omega) only [le_t, le_f, lt_t, lt_f, eq_t, eq_f, w32_id, inb, if_true, if_false, not_true_eq_false, not_false_eq_true, and_true, true_and, and_false, false_and, or_true, true_or, or_false, false_or, Int.add_zero, Int.zero_add, and_self, or_self]
        rw [show ((i : Int) + 1) = ((i + 1 : Nat) : Int) by omega]
        congr 1
        funext o j
        simp only [up_rd, z2]
        (repeat' split) <;> first | rfl | (exfalso; omega)) Q
      refine Eq.trans ?_ h
      show _ = X L 146 53 [some (xR 75), some (xI n), some (xI w), some (xI ((0 : Nat) : Int))] [] (z2 ρ 78 78 0 0) Q
      congr 1
      funext o j
      simp only [z2]
      rw [if_neg (by omega)]
    have l3 : ∀ (w : Int) (ρ : Mem) (Q : PQ), X L 146 74 [some (xR 75), some (xI n), some (xI w), some (xI 0)] [] ρ Q = X L 146 74 [some (xR 75), some (xI n), some (xI w), some (xI 6)] [] (z2 ρ 79 80 0 6) Q := by
      intro w ρ Q
      have h := lpF (n := 6) (fun i (x : Mem) Q => X L 146 74 [some (xR 75), some (xI n), some (xI w), some (xI (i : Int))] [] x Q) (fun i => z2 ρ 79 80 0 i) (by
        intro i hi Q
        show X L 146 74 [some (xR 75), some (xI n), some (xI w), some (xI (i : Int))] [] (z2 ρ 79 80 0 i) Q = X L 146 74 [some (xR 75), some (xI n), some (xI w), some (xI ((i + 1 : Nat) : Int))] [] (z2 ρ 79 80 0 (i + 1)) Q
        rw [e_146_74]
        simp only [brI, not_true_eq_false, true_implies, false_implies, implies_true, and_true, cTag, cTgt, cLen, true_and, Int.toNat_natCast, retI_I, retR_R, retV_N, retL_L, ne_eq, Int.reduceEq, not_false_eq_true]
        simp (disch := omega) only [le_t, le_f, lt_t, lt_f, eq_t, eq_f, w32_id, inb, if_true, if_false, not_true_eq_false, not_false_eq_true, and_true, true_and, and_false, false_and, or_true, true_or, or_false, false_or, Int.add_zero, Int.zero_add, and_self, or_self]
        rw [show ((i : Int) + 1) = ((i + 1 : Nat) : Int) by omega]
        congr 1
        funext o j
        simp only [up_rd, z2]
        (repeat' split) <;> first | rfl | (exfalso; omega)) Q
      refine Eq.trans ?_ h
      show _ = X L 146 74 [some (xR 75), some (xI n), some (xI w), some (xI ((0 : Nat) : Int))] [] (z2 ρ 79 80 0 0) Q
      congr 1
      funext o j
      simp only [z2]
      rw [if_neg (by omega)]
    have l4 : ∀ (w : Int) (ρ : Mem) (Q : PQ), X L 146 102 [some (xR 75), some (xI n), some (xI w), some (xI 0)] [] ρ Q = X L 146 102 [some (xR 75), some (xI n), some (xI w), some (xI 30)] [] (z2 ρ 81 81 0 30) Q := by
      intro w ρ Q
      have h := lpF (n := 30) (fun i (x : Mem) Q => X L 146 102 [some (xR 75), some (xI n), some (xI w), some (xI (i : Int))] [] x Q) (fun i => z2 ρ 81 81 0 i) (by
        intro i hi Q
        show X L 146 102 [some (xR 75), some (xI n), some (xI w), some (xI (i : Int))] [] (z2 ρ 81 81 0 i) Q = X L 146 102 [some (xR 75), some (xI n), some (xI w), some (xI ((i + 1 : Nat) : Int))] [] (z2 ρ 81 81 0 (i + 1)) Q
        rw [e_146_102]
        simp only [brI, not_true_eq_false, true_implies, false_implies, implies_true, and_true, cTag, cTgt, cLen, true_and, Int.toNat_natCast, retI_I, retR_R, retV_N, retL_L, ne_eq, Int.reduceEq, not_false_eq_true]
        simp (disch := omega) only [le_t, le_f, lt_t, lt_f, eq_t, eq_f, w32_id, inb, if_true, if_false, not_true_eq_false, not_false_eq_true, and_true, true_and, and_false, false_and, or_true, true_or, or_false, false_or, Int.add_zero, Int.zero_add, and_self, or_self]
        rw [show ((i : Int) + 1) = ((i + 1 : Nat) : Int) by omega]
        congr 1
        funext o j
        simp only [up_rd, z2]
        (repeat' split) <;> first | rfl | (exfalso; omega)) Q
      refine Eq.trans ?_ h
      show _ = X L 146 102 [some (xR 75), some (xI n), some (xI w), some (xI ((0 : Nat) : Int))] [] (z2 ρ 81 81 0 0) Q
      congr 1
      funext o j
      simp only [z2]
      rw [if_neg (by omega)]
    refine ⟨up (up (z2 (z2 (z2 (z2 (up σ 75 0 n) 76 77 0 36) 78 78 0 108) 79 80 0 6) 81 81 0 30) 75 9 0) 75 17 0, fun Q => ?_, IM_V hI ?_ ?_ ?_, ?_⟩
    · simp only [e_146_0, e_146_13, brI, not_true_eq_false, true_implies, false_implies, implies_true, and_true, cTag, cTgt, cLen, true_and, Int.toNat_natCast, retI_I, retR_R, retV_N, retL_L, ne_eq, Int.reduceEq, not_false_eq_true, x_in, bI_0, c, not_true_eq_false, if_true, and_self, l1]
      rw [e_146_25]
      simp only [e_146_51, brI, not_true_eq_false, true_implies, false_implies, implies_true, and_true, cTag, cTgt, cLen, true_and, Int.toNat_natCast, retI_I, retR_R, retV_N, retL_L, ne_eq, Int.reduceEq, not_false_eq_true, Int.le_refl, if_true, l2]
      rw [e_146_53]
      simp only [e_146_72, brI, not_true_eq_false, true_implies, false_implies, implies_true, and_true, cTag, cTgt, cLen, true_and, Int.toNat_natCast, retI_I, retR_R, retV_N, retL_L, ne_eq, Int.reduceEq, not_false_eq_true, Int.le_refl, if_true, l3]
      rw [e_146_74]
      simp only [e_146_100, brI, not_true_eq_false, true_implies, false_implies, implies_true, and_true, cTag, cTgt, cLen, true_and, Int.toNat_natCast, retI_I, retR_R, retV_N, retL_L, ne_eq, Int.reduceEq, not_false_eq_true, Int.le_refl, if_true, l4]
      rw [e_146_102]
      simp only [e_146_121, brI, not_true_eq_false, true_implies, false_implies, implies_true, and_true, cTag, cTgt, cLen, true_and, Int.toNat_natCast, retI_I, retR_R, retV_N, retL_L, ne_eq, Int.reduceEq, not_false_eq_true, Int.le_refl, if_true, hI.tw]
    · obtain ⟨g1, g2, g3, g4, g5, g6, g7, g8, g9, g10, g11, g12, g13⟩ := hI.1
      refine ⟨?_, ?_, ?_, ?_, ?_, ?_, ?_, ?_, ?_, ?_, ?_, ?_, ?_⟩
      · simp [vP, up_rd, z2, newS]
      · simpa [vP, up_rd, z2, newS] using g2
      · simpa [vP, up_rd, z2, newS] using g3
      · simp [vP, up_rd, z2, newS]
      · simp [vP, up_rd, z2, newS, thb]
      · intro j hj; simp [vP, up_rd, z2, newS, hj]
      · intro j hj; simp [vP, up_rd, z2, newS, hj]
      · intro j hj; simp [vP, up_rd, z2, newS, hj]
      · intro j hj; simp [vP, up_rd, z2, newS, hj]
      · intro j hj; simp [vP, up_rd, z2, newS, hj]
      · intro j hj; simp [vP, up_rd, z2, newS, hj]
      · intro j hj; simpa [vP, up_rd, z2, newS] using g12 j hj
      · intro p hp h
        simp (disch := omega) [newS, nq_f] at h
    · intro o ho; funext j; simp (disch := omega) only [up_rd, z2, nq_f, le_t, le_f, lt_t, lt_f, eq_t, eq_f, w32_id, inb, if_true, if_false, not_true_eq_false, not_false_eq_true, and_true, true_and, and_false, false_and, or_true, true_or, or_false, false_or, Int.add_zero, Int.zero_add, and_self, or_self]
    · simp [up_rd, z2]
    · intro o ho; funext j; simp (disch := omega) only [up_rd, z2, nq_f, le_t, le_f, lt_t, lt_f, eq_t, eq_f, w32_id, inb, if_true, if_false, not_true_eq_false, not_false_eq_true, and_true, true_and, and_false, false_and, or_true, true_or, or_false, false_or, Int.add_zero, Int.zero_add, and_self, or_self]
  · rw [if_neg c, if_neg c]
    refine MO_n hI (fun Q => ?_)
    simp only [e_146_0, brI, not_true_eq_false, true_implies, false_implies, implies_true, and_true, cTag, cTgt, cLen, true_and, Int.toNat_natCast, retI_I, retR_R, retV_N, retL_L, ne_eq, Int.reduceEq, not_false_eq_true, x_in, bI_0, c, not_true_eq_false, if_false]
theorem m_road (hI : IM T σ) (hV : IV B T) (t u m r : Int) : MO σ (X L 147 0 [some (xR 75), some (xI t), some (xI u), some (xI m), some (xI r), none, none] [] σ) (a_road T t u m r) (n_road T t u m r) := by
  have hn := hV.1.1
  have hw : 2 ≤ σ 75 0 ∧ σ 75 0 ≤ 6 := by rw [hI.tw]; exact hn
  unfold a_road n_road
  by_cases c : two T t u
  · obtain ⟨d1, d2, d3⟩ := id c
    by_cases c2 : (0 ≤ m ∧ m ≤ 9) ∧ (0 ≤ r ∧ r ≤ 2)
    · rw [if_pos ⟨c, c2⟩, if_pos ⟨c, c2⟩]
      obtain ⟨a, rfl⟩ : ∃ a : Nat, t = (a : Int) := ⟨t.toNat, by omega⟩
      obtain ⟨b, rfl⟩ : ∃ b : Nat, u = (b : Int) := ⟨u.toNat, by omega⟩
      have hab : a ≠ b := by omega
      have hm : σ 76 (6 * a + b) = mil (T 0) a b := by rw [mil_at (by omega) (by omega)]; exact hI.1.mi _ (by omega)
      refine ⟨up (up (up (up (up (up (up (up (up (up σ 76 (6 * a + b) m) 76 (6 * b + a) m) 77 (6 * a + b) r) 77 (6 * b + a) r) 78 (3 * (6 * a + b)) 0) 78 (3 * (6 * b + a)) 0) 78 (3 * (6 * a + b) + 1) 0) 78 (3 * (6 * b + a) + 1) 0) 78 (3 * (6 * a + b) + 2) 0) 78 (3 * (6 * b + a) + 2) 0, fun Q => ?_, IM_V hI ?_ ?_ ?_, ?_⟩
      · have st : ∀ (w : Int) (i : Nat) (ρ : Mem), i < 3 → X L 147 112 [some (xR 75), some (xI (a : Int)), some (xI (b : Int)), some (xI m), some (xI r), some (xI w), some (xI (i : Int))] [] ρ Q = X L 147 112 [some (xR 75), some (xI (a : Int)), some (xI (b : Int)), some (xI m), some (xI r), some (xI w), some (xI ((i + 1 : Nat) : Int))] [] (up (up ρ 78 (3 * (6 * a + b) + i) 0) 78 (3 * (6 * b + a) + i) 0) Q := by
          intro w i ρ hi
          rw [e_147_112]
          simp only [brI, not_true_eq_false, true_implies, false_implies, implies_true, and_true, cTag, cTgt, cLen, true_and, Int.toNat_natCast, retI_I, retR_R, retV_N, retL_L, ne_eq, Int.reduceEq, not_false_eq_true]
          simp (disch := omega) only [le_t, le_f, lt_t, lt_f, eq_t, eq_f, w32_id, inb, if_true, if_false, not_true_eq_false, not_false_eq_true, and_true, true_and, and_false, false_and, or_true, true_or, or_false, false_or, Int.add_zero, Int.zero_add, and_self, or_self, Int.toNat_add, Int.toNat_mul, Int.toNat_natCast, Int.reduceToNat]
          rfl
        simp only [e_147_0, e_147_23, e_147_46, brI, not_true_eq_false, true_implies, false_implies, implies_true, and_true, cTag, cTgt, cLen, true_and, Int.toNat_natCast, retI_I, retR_R, retV_N, retL_L, ne_eq, Int.reduceEq, not_false_eq_true, x_in, x_isTownM L _ _ _ hw, bI_0, hI.tw, d1, d2, d3, c2, not_true_eq_false, if_true, if_false, and_self]
        simp (disch := omega) only [le_t, le_f, lt_t, lt_f, eq_t, eq_f, w32_id, inb, if_true, if_false, not_true_eq_false, not_false_eq_true, and_true, true_and, and_false, false_and, or_true, true_or, or_false, false_or, Int.add_zero, Int.zero_add, and_self, or_self, Int.toNat_add, Int.toNat_mul, Int.toNat_natCast, Int.reduceToNat, hm]
        refine Eq.trans (st _ 0 _ (by omega)) (Eq.trans (st _ 1 _ (by omega)) (Eq.trans (st _ 2 _ (by omega)) ?_))
        rw [e_147_112, e_147_158]
        simp [brI]
      · obtain ⟨g1, g2, g3, g4, g5, g6, g7, g8, g9, g10, g11, g12, g13⟩ := hI.1
        simp only [Int.toNat_natCast]
        refine ⟨?_, ?_, ?_, ?_, ?_, ?_, ?_, ?_, ?_, ?_, ?_, ?_, ?_⟩
        · simpa [vP, up_rd, layR] using g1
        · simpa [vP, up_rd, layR] using g2
        · simpa [vP, up_rd, layR] using g3
        · simpa [vP, up_rd, layR] using g4
        · simpa [vP, up_rd, layR, thb] using g5
        · intro j hj; have g := g6 j hj; simp only [vP] at g; simp (disch := omega) only [vP, up_rd, layR, nq_f, true_and, false_and, if_false]; omega
        · intro j hj; have g := g7 j hj; simp only [vP] at g; simp (disch := omega) only [vP, up_rd, layR, nq_f, true_and, false_and, if_false]; omega
        · intro j hj; have g := g8 j hj; simp only [vP] at g; simp (disch := omega) only [vP, up_rd, layR, nq_f, true_and, false_and, if_false]; omega
        · intro j hj; simpa [vP, up_rd, layR] using g9 j hj
        · intro j hj; simpa [vP, up_rd, layR] using g10 j hj
        · intro j hj; simpa [vP, up_rd, layR] using g11 j hj
        · intro j hj; simpa [vP, up_rd, layR] using g12 j hj
        · intro p hp h
          have e : ∀ k, layR (T 0) a b m r (8 + p) k = T 0 (8 + p) k := fun k => by simp (disch := omega) only [layR, nq_f, le_t, le_f, lt_t, lt_f, eq_t, eq_f, w32_id, inb, if_true, if_false, not_true_eq_false, not_false_eq_true, and_true, true_and, and_false, false_and, or_true, true_or, or_false, false_or, Int.add_zero, Int.zero_add, and_self, or_self]
          rw [e] at h
          have q := g13 p hp h
          unfold RP at q ⊢
          simp only [e]
          simpa [vP, up_rd] using q
      · intro o ho; funext j; simp (disch := omega) only [up_rd, nq_f, le_t, le_f, lt_t, lt_f, eq_t, eq_f, w32_id, inb, if_true, if_false, not_true_eq_false, not_false_eq_true, and_true, true_and, and_false, false_and, or_true, true_or, or_false, false_or, Int.add_zero, Int.zero_add, and_self, or_self]
      · simp [up_rd]
      · intro o ho; funext j; simp (disch := omega) only [up_rd, nq_f, le_t, le_f, lt_t, lt_f, eq_t, eq_f, w32_id, inb, if_true, if_false, not_true_eq_false, not_false_eq_true, and_true, true_and, and_false, false_and, or_true, true_or, or_false, false_or, Int.add_zero, Int.zero_add, and_self, or_self]
    · rw [if_neg (fun q => c2 q.2), if_pos c, if_neg (fun q => c2 q.2)]
      refine MO_n hI (fun Q => ?_)
      simp only [e_147_0, e_147_23, e_147_43, brI, not_true_eq_false, true_implies, false_implies, implies_true, and_true, cTag, cTgt, cLen, true_and, Int.toNat_natCast, retI_I, retR_R, retV_N, retL_L, ne_eq, Int.reduceEq, not_false_eq_true, x_in, x_isTownM L _ _ _ hw, bI_0, hI.tw, d1, d2, d3, not_true_eq_false, if_true, if_false, and_self]
      by_cases c3 : 0 ≤ m ∧ m ≤ 9
      · have c4 : ¬ (0 ≤ r ∧ r ≤ 2) := fun q => c2 ⟨c3, q⟩
        simp only [c3, c4, not_true_eq_false, not_false_eq_true, if_false, if_true, and_self]
      · simp only [c3, not_false_eq_true, if_true]
  · rw [if_neg (fun q => c q.1), if_neg c, if_neg (fun q => c q.1)]
    refine MO_n hI (fun Q => ?_)
    simp only [e_147_0, e_147_21, brI, not_true_eq_false, true_implies, false_implies, implies_true, and_true, cTag, cTgt, cLen, true_and, Int.toNat_natCast, retI_I, retR_R, retV_N, retL_L, ne_eq, Int.reduceEq, not_false_eq_true, x_isTownM L _ _ _ hw, bI_0, hI.tw]
    by_cases d1 : 0 ≤ t ∧ t < T 0 0 0
    · by_cases d2 : 0 ≤ u ∧ u < T 0 0 0
      · have d3 : t = u := Classical.byContradiction (fun q => c ⟨d1, d2, q⟩)
        simp only [d1, d2, d3, not_true_eq_false, not_false_eq_true, if_false, if_true, and_self]
      · simp only [d1, d2, not_true_eq_false, not_false_eq_true, if_false, if_true, and_self]
    · simp only [d1, not_false_eq_true, if_true]
theorem m_shop (hI : IM T σ) (hV : IV B T) (t s p : Int) : MO σ (X L 148 0 [some (xR 75), some (xI t), some (xI s), some (xI p), none] [] σ) (a_shop T t s p) (n_shop T t s p) := by
  have hn := hV.1.1
  have hw : 2 ≤ σ 75 0 ∧ σ 75 0 ≤ 6 := by rw [hI.tw]; exact hn
  unfold a_shop n_shop
  by_cases c : isT T t
  · by_cases c2 : (0 ≤ s ∧ s ≤ 2) ∧ (0 ≤ p ∧ p ≤ 20)
    · rw [if_pos ⟨c, c2⟩, if_pos ⟨c, c2⟩]
      obtain ⟨a, rfl⟩ : ∃ a : Nat, t = (a : Int) := ⟨t.toNat, by omega⟩
      have hm : σ 79 a = g1 (T 0) 4 6 a := by rw [g1_at (by omega)]; exact hI.1.sd _ (by omega)
      refine ⟨up (up σ 79 a s) 80 a p, fun Q => ?_, IM_V hI ?_ ?_ ?_, ?_⟩
      · simp only [e_148_0, e_148_10, e_148_32, brI, not_true_eq_false, true_implies, false_implies, implies_true, and_true, cTag, cTgt, cLen, true_and, Int.toNat_natCast, retI_I, retR_R, retV_N, retL_L, ne_eq, Int.reduceEq, not_false_eq_true, x_in, x_isTownM L _ _ _ hw, bI_0, hI.tw, c, c2, not_true_eq_false, if_true, if_false, and_self, hm]
        simp (disch := omega) only [le_t, le_f, lt_t, lt_f, eq_t, eq_f, w32_id, inb, if_true, if_false, not_true_eq_false, not_false_eq_true, and_true, true_and, and_false, false_and, or_true, true_or, or_false, false_or, Int.add_zero, Int.zero_add, and_self, or_self]
      · obtain ⟨g1, g2, g3, g4, g5, g6, g7, g8, g9, g10, g11, g12, g13⟩ := hI.1
        simp only [Int.toNat_natCast]
        refine ⟨?_, ?_, ?_, ?_, ?_, ?_, ?_, ?_, ?_, ?_, ?_, ?_, ?_⟩
        · simpa [vP, up_rd] using g1
        · simpa [vP, up_rd] using g2
        · simpa [vP, up_rd] using g3
        · simpa [vP, up_rd] using g4
        · simpa [vP, up_rd, thb] using g5
        · intro j hj; simpa [vP, up_rd] using g6 j hj
        · intro j hj; simpa [vP, up_rd] using g7 j hj
        · intro j hj; simpa [vP, up_rd] using g8 j hj
        · intro j hj; have g := g9 j hj; simp only [vP] at g; simp (disch := omega) only [vP, up_rd, nq_f, true_and, false_and, if_false]; omega
        · intro j hj; have g := g10 j hj; simp only [vP] at g; simp (disch := omega) only [vP, up_rd, nq_f, true_and, false_and, if_false]; omega
        · intro j hj; simpa [vP, up_rd] using g11 j hj
        · intro j hj; simpa [vP, up_rd] using g12 j hj
        · intro q hq h
          have e : ∀ k, up (up (T 0) 4 a s) 5 a p (8 + q) k = T 0 (8 + q) k := fun k => by simp (disch := omega) only [up_rd, nq_f, le_t, le_f, lt_t, lt_f, eq_t, eq_f, w32_id, inb, if_true, if_false, not_true_eq_false, not_false_eq_true, and_true, true_and, and_false, false_and, or_true, true_or, or_false, false_or, Int.add_zero, Int.zero_add, and_self, or_self]
          rw [e] at h
          have z := g13 q hq h
          unfold RP at z ⊢
          simp only [e]
          simpa [vP, up_rd] using z
      · intro o ho; funext j; simp (disch := omega) only [up_rd, nq_f, le_t, le_f, lt_t, lt_f, eq_t, eq_f, w32_id, inb, if_true, if_false, not_true_eq_false, not_false_eq_true, and_true, true_and, and_false, false_and, or_true, true_or, or_false, false_or, Int.add_zero, Int.zero_add, and_self, or_self]
      · simp [up_rd]
      · intro o ho; funext j; simp (disch := omega) only [up_rd, nq_f, le_t, le_f, lt_t, lt_f, eq_t, eq_f, w32_id, inb, if_true, if_false, not_true_eq_false, not_false_eq_true, and_true, true_and, and_false, false_and, or_true, true_or, or_false, false_or, Int.add_zero, Int.zero_add, and_self, or_self]
    · rw [if_neg (fun q => c2 q.2), if_pos c, if_neg (fun q => c2 q.2)]
      refine MO_n hI (fun Q => ?_)
      simp only [e_148_0, e_148_10, e_148_29, brI, not_true_eq_false, true_implies, false_implies, implies_true, and_true, cTag, cTgt, cLen, true_and, Int.toNat_natCast, retI_I, retR_R, retV_N, retL_L, ne_eq, Int.reduceEq, not_false_eq_true, x_in, x_isTownM L _ _ _ hw, bI_0, hI.tw, c, not_true_eq_false, if_true, if_false, and_self]
      by_cases c3 : 0 ≤ s ∧ s ≤ 2
      · have c4 : ¬ (0 ≤ p ∧ p ≤ 20) := fun q => c2 ⟨c3, q⟩
        simp only [c3, c4, not_true_eq_false, not_false_eq_true, if_false, if_true, and_self]
      · simp only [c3, not_false_eq_true, if_true]
  · rw [if_neg (fun q => c q.1), if_neg c, if_neg (fun q => c q.1)]
    refine MO_n hI (fun Q => ?_)
    simp only [e_148_0, brI, not_true_eq_false, true_implies, false_implies, implies_true, and_true, cTag, cTgt, cLen, true_and, Int.toNat_natCast, retI_I, retR_R, retV_N, retL_L, ne_eq, Int.reduceEq, not_false_eq_true, x_isTownM L _ _ _ hw, bI_0, hI.tw, c, not_true_eq_false, if_false]
theorem m_stock (hI : IM T σ) (hV : IV B T) (t z x : Int) : MO σ (X L 149 0 [some (xR 75), some (xI t), some (xI z), some (xI x), none] [] σ) (a_stock T t z x) (n_stock T t z x) := by
  have hn := hV.1.1
  have hw : 2 ≤ σ 75 0 ∧ σ 75 0 ≤ 6 := by rw [hI.tw]; exact hn
  have ez : (0 ≤ z ∧ z ≤ 4) = (0 ≤ z ∧ z < 5) := propext (by omega)
  unfold a_stock n_stock
  by_cases c : isT T t ∧ (0 ≤ z ∧ z < 5)
  · obtain ⟨c1, c2⟩ := id c
    by_cases c3 : 0 ≤ x ∧ x ≤ 9
    · rw [if_pos ⟨c, c3⟩, if_pos ⟨c, c3⟩]
      obtain ⟨a, rfl⟩ : ∃ a : Nat, t = (a : Int) := ⟨t.toNat, by omega⟩
      obtain ⟨b, rfl⟩ : ∃ b : Nat, z = (b : Int) := ⟨z.toNat, by omega⟩
      have hm : σ 81 (5 * a + b) = stk (T 0) a b := by rw [stk_at (by omega) (by omega)]; exact hI.1.st _ (by omega)
      refine ⟨up σ 81 (5 * a + b) x, fun Q => ?_, IM_V hI ?_ ?_ ?_, ?_⟩
      · simp only [e_149_0, e_149_19, e_149_32, brI, not_true_eq_false, true_implies, false_implies, implies_true, and_true, cTag, cTgt, cLen, true_and, Int.toNat_natCast, retI_I, retR_R, retV_N, retL_L, ne_eq, Int.reduceEq, not_false_eq_true, x_in, x_isTownM L _ _ _ hw, bI_0, hI.tw, c1, c2, c3, ez, not_true_eq_false, if_true, if_false, and_self]
        simp (disch := omega) only [le_t, le_f, lt_t, lt_f, eq_t, eq_f, w32_id, inb, if_true, if_false, not_true_eq_false, not_false_eq_true, and_true, true_and, and_false, false_and, or_true, true_or, or_false, false_or, Int.add_zero, Int.zero_add, and_self, or_self, Int.toNat_add, Int.toNat_mul, Int.toNat_natCast, Int.reduceToNat, hm]
      · simp only [Int.toNat_natCast]
        refine RM_k (f := vP σ) hI.1 ?_ ?_ ?_ ?_
        · intro k j h3 h6; simp only [up_rd, h6, false_and, if_false]
        · intro k j h3 h6
          unfold vP
          split <;> simp_all [up_rd]
        · intro j hj; have g := hI.1.tr j hj; simpa [vP, up_rd] using g
        · intro j hj; have g := hI.1.st j hj; simp only [vP] at g; simp only [vP, up_rd, true_and]; rw [g]
      · intro o ho; funext j; simp (disch := omega) only [up_rd, nq_f, le_t, le_f, lt_t, lt_f, eq_t, eq_f, w32_id, inb, if_true, if_false, not_true_eq_false, not_false_eq_true, and_true, true_and, and_false, false_and, or_true, true_or, or_false, false_or, Int.add_zero, Int.zero_add, and_self, or_self]
      · simp [up_rd]
      · intro o ho; funext j; simp (disch := omega) only [up_rd, nq_f, le_t, le_f, lt_t, lt_f, eq_t, eq_f, w32_id, inb, if_true, if_false, not_true_eq_false, not_false_eq_true, and_true, true_and, and_false, false_and, or_true, true_or, or_false, false_or, Int.add_zero, Int.zero_add, and_self, or_self]
    · rw [if_neg (fun q => c3 q.2), if_pos c, if_neg (fun q => c3 q.2)]
      refine MO_n hI (fun Q => ?_)
      simp only [e_149_0, e_149_19, brI, not_true_eq_false, true_implies, false_implies, implies_true, and_true, cTag, cTgt, cLen, true_and, Int.toNat_natCast, retI_I, retR_R, retV_N, retL_L, ne_eq, Int.reduceEq, not_false_eq_true, x_in, x_isTownM L _ _ _ hw, bI_0, hI.tw, c1, c2, c3, ez, not_true_eq_false, if_true, if_false, and_self]
      simp (disch := omega) only [le_t, le_f, lt_t, lt_f, eq_t, eq_f, w32_id, inb, if_true, if_false, not_true_eq_false, not_false_eq_true, and_true, true_and, and_false, false_and, or_true, true_or, or_false, false_or, Int.add_zero, Int.zero_add, and_self, or_self]
  · rw [if_neg (fun q => c q.1), if_neg c, if_neg (fun q => c q.1)]
    refine MO_n hI (fun Q => ?_)
    simp only [e_149_0, e_149_17, brI, not_true_eq_false, true_implies, false_implies, implies_true, and_true, cTag, cTgt, cLen, true_and, Int.toNat_natCast, retI_I, retR_R, retV_N, retL_L, ne_eq, Int.reduceEq, not_false_eq_true, x_in, x_isTownM L _ _ _ hw, bI_0, hI.tw, ez]
    by_cases c1 : isT T t
    · have c4 : ¬ (0 ≤ z ∧ z < 5) := fun q => c ⟨c1, q⟩
      simp only [c1, c4, not_true_eq_false, not_false_eq_true, if_false, if_true, and_self]
    · simp only [c1, not_false_eq_true, if_true]
end MSet
