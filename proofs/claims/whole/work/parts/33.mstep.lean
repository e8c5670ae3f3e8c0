/-! the Model's purchases -/
section MS
variable {B : Int} {S σ : Mem} {L : Nat}
theorem g1_at {k n t : Nat} (ht : t < n) : g1 S k n (t : Int) = S k t := by
  unfold g1; rw [if_pos (by omega)]; simp
theorem stk_at {t z : Nat} (ht : t < 6) (hz : z < 5) : stk S t z = S 6 (5 * t + z) := by
  unfold stk; rw [if_pos (by omega)]; simp
theorem and_sh {x y s : Int} (hx : x = 0 ∨ x = 1) (hy : y = 0 ∨ y = 1) (hs : s = 1 ∨ s = 2) : and32 (x + 2 * y) s = 0 ↔ (if s = 1 then x else y) = 0 := by
  rcases hx with rfl | rfl <;> rcases hy with rfl | rfl <;> rcases hs with rfl | rfl <;> decide
theorem x_whyNotBuy (hS : VS B S) (hM : RM (vN σ) S) {p : Nat} (hp : p < 4) (ht : S (8 + p) 0 = 1) (d2 d3 : Option PV) (Q : PQ) : X L 164 0 [some (xR 75), some (xI (p : Int)), d2, d3] [] σ Q = Q (some (xI (whyB S p))) σ := by
  obtain ⟨a1, a2, a3, a4, a5, a6, a7, a8, a9, a10, a11, a12⟩ := hS.p hp
  have hP := hM.pp p hp ht
  have ha := VP_at hS hp
  obtain ⟨a, hae⟩ : ∃ a : Nat, S (8 + p) 2 = (a : Int) := ⟨(S (8 + p) 2).toNat, by omega⟩
  have ha6 : a < 6 := by omega
  have s1 : σ 92 p = (a : Int) := hP.pl.trans hae
  have hsd : σ 79 a = S 4 a := hM.sd a ha6
  have hpr : σ 80 a = S 5 a := hM.pr a ha6
  have hpu : σ 91 p = S (8 + p) 5 := hP.pu
  have hsh : σ 93 p = S (8 + p) 6 + 2 * S (8 + p) 7 := hP.sh
  have hs := hS.2.2.2.2.2.2.2.1 a ha6
  unfold whyB
  rw [hae, g1_at ha6, g1_at ha6]
  simp only [e_164_0, brI, cTag, cTgt, cLen, true_and, Int.toNat_natCast, s1, hsd, show (0 ≤ (p : Int) ∧ (p : Int) < 4) by omega, show (0 ≤ (a : Int) ∧ (a : Int) < 6) by omega]
  by_cases c0 : S 4 a = 0
  · simp [c0, e_164_42]
  · have hs12 : S 4 a = 1 ∨ S 4 a = 2 := by omega
    have hz : σ 83 (2 * p + (S 4 a).toNat - 1) = szo (S (8 + p)) (S 4 a) := by
      have z1 : σ 83 (2 * p) = S (8 + p) 3 := hP.fl
      have z2 : σ 83 (2 * p + 1) = S (8 + p) 4 := hP.fr
      unfold szo
      rcases hs12 with e | e <;> rw [e] <;> simp [z1, z2]
    have hzb : 0 ≤ szo (S (8 + p)) (S 4 a) ∧ szo (S (8 + p)) (S 4 a) ≤ 4 := by unfold szo; split <;> omega
    obtain ⟨z, hze⟩ : ∃ z : Nat, szo (S (8 + p)) (S 4 a) = (z : Int) := ⟨(szo (S (8 + p)) (S 4 a)).toNat, by omega⟩
    have hst : σ 96 (5 * a + z) = S 6 (5 * a + z) := hM.st _ (by omega)
    have hnn := hS.2.2.2.2.2.2.2.2.2.1 (5 * a + z) (by omega)
    rw [if_neg c0]
    simp only [w32_id (x := 2 * (p : Int)) (by omega) (by omega), w32_id (x := 2 * (p : Int) + S 4 a) (by omega) (by omega), w32_id (x := 2 * (p : Int) + S 4 a - 1) (by omega) (by omega), show (2 * (p : Int) + S 4 a - 1).toNat = 2 * p + (S 4 a).toNat - 1 by omega, hz, hze, w32_id (x := 5 * (a : Int)) (by omega) (by omega), w32_id (x := 5 * (a : Int) + (z : Int)) (by omega) (by omega), show (5 * (a : Int) + (z : Int)).toNat = 5 * a + z by omega, hst, show (0 ≤ 2 * (p : Int) + S 4 a - 1 ∧ 2 * (p : Int) + S 4 a - 1 < 8) by omega, show (0 ≤ 5 * (a : Int) + (z : Int) ∧ 5 * (a : Int) + (z : Int) < 30) by omega, true_and, stk_at (S := S) ha6 (show z < 5 by omega)]
    simp only [e_164_42, e_164_44, e_164_57, e_164_77, e_164_78, brI, cTag, cTgt, cLen, true_and, Int.toNat_natCast, show (0 ≤ (p : Int) ∧ (p : Int) < 4) by omega, show (0 ≤ (a : Int) ∧ (a : Int) < 6) by omega, hsh, and_sh a7 a8 hs12, hpr, hpu, wrs]
    by_cases c1 : S 6 (5 * a + z) = 0
    · simp [c1]
    · have c1' : ¬ S 6 (5 * a + z) ≤ 0 := by omega
      by_cases c2 : (if S 4 a = 1 then S (8 + p) 6 else S (8 + p) 7) = 0
      · by_cases c3 : S (8 + p) 5 < S 5 a
        · simp only [c0, c1, c1', c2, c3, or_self, not_true_eq_false, not_false_eq_true, if_true, if_false, show ¬ S 5 a ≤ S (8 + p) 5 by omega]
        · simp only [c0, c1, c1', c2, c3, or_self, not_true_eq_false, not_false_eq_true, if_true, if_false, show S 5 a ≤ S (8 + p) 5 by omega]
      · simp only [c0, c1, c1', c2, or_self, not_true_eq_false, not_false_eq_true, if_true, if_false]
end MS
