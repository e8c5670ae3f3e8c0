/-! the Model's purchases -/
section MS
variable {B : Int} {S σ : Mem} {L : Nat}
theorem g1_at {k n t : Nat} (ht : t < n) : g1 S k n (t : Int) = S k t := by
  unfold g1; rw [if_pos (by omega)]; simp
theorem stk_at {t z : Nat} (ht : t < 6) (hz : z < 5) : stk S t z = S 6 (5 * t + z) := by
  unfold stk; rw [if_pos (by omega)]; simp
theorem and_sh {x y s : Int} (hx : x = 0 ∨ x = 1) (hy : y = 0 ∨ y = 1) (hs : s = 1 ∨ s = 2) : and32 (x + 2 * y) s = 0 ↔ (if s = 1 then x else y) = 0 := by
  rcases hx with rfl | rfl <;> rcases hy with rfl | rfl <;> rcases hs with rfl | rfl <;> decide
theorem x_whyNotBuy (hS : VS B S) (hM : RM (vN σ) S) {p : Nat} (hp : p < 4) (ht : S (8 + p) 0 = 1) (d2 d3 : Option PV) (Q : PQ) : X L 164 0 [some (xR 75), some (xI (p : Int)), d2, d3] [] σ Q = Q (some (xI (whyB S p))) σ := by
  obtain ⟨a1, a2, a3, a4, a5, a6, a7, a8, a9, a10, a11, a12⟩ := hS.p hp
  have hP := hM.pp p hp ht
  have ha := VP_at hS hp
  obtain ⟨a, hae⟩ : ∃ a : Nat, S (8 + p) 2 = (a : Int) := ⟨(S (8 + p) 2).toNat, by omega⟩
  have ha6 : a < 6 := by omega
  have s1 : σ 92 p = (a : Int) := hP.pl.trans hae
  have hsd : σ 79 a = S 4 a := hM.sd a ha6
  have hpr : σ 80 a = S 5 a := hM.pr a ha6
  have hpu : σ 91 p = S (8 + p) 5 := hP.pu
  have hsh : σ 93 p = S (8 + p) 6 + 2 * S (8 + p) 7 := hP.sh
  have hs := hS.2.2.2.2.2.2.2.1 a ha6
  unfold whyB
  rw [hae, g1_at ha6, g1_at ha6]
  simp only [e_164_0, brI, cTag, cTgt, cLen, true_and, Int.toNat_natCast, s1, hsd, show (0 ≤ (p : Int) ∧ (p : Int) < 4) by omega, show (0 ≤ (a : Int) ∧ (a : Int) < 6) by omega]
  by_cases c0 : S 4 a = 0
  · simp [c0, e_164_42]
  · have hs12 : S 4 a = 1 ∨ S 4 a = 2 := by omega
    have hz : σ 83 (2 * p + (S 4 a).toNat - 1) = szo (S (8 + p)) (S 4 a) := by
      have z1 : σ 83 (2 * p) = S (8 + p) 3 := hP.fl
      have z2 : σ 83 (2 * p + 1) = S (8 + p) 4 := hP.fr
      unfold szo
      rcases hs12 with e | e <;> rw [e] <;> simp [z1, z2]
    have hzb : 0 ≤ szo (S (8 + p)) (S 4 a) ∧ szo (S (8 + p)) (S 4 a) ≤ 4 := by unfold szo; split <;> omega
    obtain ⟨z, hze⟩ : ∃ z : Nat, szo (S (8 + p)) (S 4 a) = (z : Int) := ⟨(szo (S (8 + p)) (S 4 a)).toNat, by omega⟩
    have hst : σ 96 (5 * a + z) = S 6 (5 * a + z) := hM.st _ (by omega)
    have hnn := hS.2.2.2.2.2.2.2.2.2.1 (5 * a + z) (by omega)
    rw [if_neg c0]
    simp only [w32_id (x := 2 * (p : Int)) (by omega) (by omega), w32_id (x := 2 * (p : Int) + S 4 a) (by omega) (by omega), w32_id (x := 2 * (p : Int) + S 4 a - 1) (by omega) (by omega), show (2 * (p : Int) + S 4 a - 1).toNat = 2 * p + (S 4 a).toNat - 1 by omega, hz, hze, w32_id (x := 5 * (a : Int)) (by omega) (by omega), w32_id (x := 5 * (a : Int) + (z : Int)) (by omega) (by omega), show (5 * (a : Int) + (z : Int)).toNat = 5 * a + z by omega, hst, show (0 ≤ 2 * (p : Int) + S 4 a - 1 ∧ 2 * (p : Int) + S 4 a - 1 < 8) by omega, show (0 ≤ 5 * (a : Int) + (z : Int) ∧ 5 * (a : Int) + (z : Int) < 30) by omega, true_and, stk_at (S := S) ha6 (show z < 5 by omega)]
    simp only [e_164_42, e_164_44, e_164_57, e_164_77, e_164_78, brI, cTag, cTgt, cLen, true_and, Int.toNat_natCast, show (0 ≤ (p : Int) ∧ (p : Int) < 4) by omega, show (0 ≤ (a : Int) ∧ (a : Int) < 6) by omega, hsh, and_sh a7 a8 hs12, hpr, hpu, wrs]
    by_cases c1 : S 6 (5 * a + z) = 0
    · simp [c1]
    · have c1' : ¬ S 6 (5 * a + z) ≤ 0 := by omega
      by_cases c2 : (if S 4 a = 1 then S (8 + p) 6 else S (8 + p) 7) = 0
      · by_cases c3 : S (8 + p) 5 < S 5 a
        · simp only [c0, c1, c1', c2, c3, or_self, not_true_eq_false, not_false_eq_true, if_true, if_false, show ¬ S 5 a ≤ S (8 + p) 5 by omega]
        · simp only [c0, c1, c1', c2, c3, or_self, not_true_eq_false, not_false_eq_true, if_true, if_false, show S 5 a ≤ S (8 + p) 5 by omega]
      · simp only [c0, c1, c1', c2, or_self, not_true_eq_false, not_false_eq_true, if_true, if_false]
end MS
section MU
variable {B : Int} {S σ : Mem} {L : Nat} {f g : Nat → Nat → Int}
/-- one PERSON's fields change -/
theorem RM_pw (hM : RM f S) {p : Nat} (hp : p < 4) {h : Nat → Int} (h0 : h 0 = S (8 + p) 0) (hk : ∀ k j, k < 8 → g k j = f k j) (hq : ∀ q, q < 4 → q ≠ p → ∀ k, 8 ≤ k → k ≤ 14 → g k q = f k q ∨ k = 9 ∨ k = 13) (hq2 : ∀ q, q < 4 → q ≠ p → ∀ k, k = 9 ∨ k = 13 → g k (2 * q) = f k (2 * q) ∧ g k (2 * q + 1) = f k (2 * q + 1)) (hP : S (8 + p) 0 = 1 → RP g (pw S (8 + p) h) p) : RM g (pw S (8 + p) h) := by
  have z : ∀ k j, k < 8 → pw S (8 + p) h k j = S k j := by
    intro k j hk; simp only [pw]; rw [if_neg (by omega)]
  have z0 : ∀ q, q < 4 → pw S (8 + p) h (8 + q) 0 = S (8 + q) 0 := by
    intro q hq; simp only [pw]
    by_cases c : q = p
    · subst c; rw [if_pos rfl, h0]
    · rw [if_neg (by omega)]
  have zt : thb (pw S (8 + p) h) = thb S := by
    have e0 := z0 0 (by omega)
    have e1 := z0 1 (by omega)
    have e2 := z0 2 (by omega)
    have e3 := z0 3 (by omega)
    simp only [Nat.add_zero, Nat.reduceAdd] at e0 e1 e2 e3
    unfold thb; rw [e0, e1, e2, e3]
  refine ⟨?_, ?_, ?_, ?_, ?_, ?_, ?_, ?_, ?_, ?_, ?_, ?_, ?_⟩
  · rw [hk _ _ (by omega), z _ _ (by omega)]; exact hM.tw
  · rw [hk _ _ (by omega), z _ _ (by omega)]; exact hM.tl
  · rw [hk _ _ (by omega), z _ _ (by omega)]; exact hM.kk
  · rw [hk _ _ (by omega), z _ _ (by omega)]; exact hM.sg
  · rw [hk _ _ (by omega), zt]; exact hM.th
  · intro j hj; rw [hk _ _ (by omega), z _ _ (by omega)]; exact hM.mi j hj
  · intro j hj; rw [hk _ _ (by omega), z _ _ (by omega)]; exact hM.ru j hj
  · intro j hj; rw [hk _ _ (by omega), z _ _ (by omega)]; exact hM.tr j hj
  · intro j hj; rw [hk _ _ (by omega), z _ _ (by omega)]; exact hM.sd j hj
  · intro j hj; rw [hk _ _ (by omega), z _ _ (by omega)]; exact hM.pr j hj
  · intro j hj; rw [hk _ _ (by omega), z _ _ (by omega)]; exact hM.st j hj
  · intro j hj; rw [hk _ _ (by omega), z _ _ (by omega)]; exact hM.si j hj
  · intro q hq4 ht
    by_cases c : q = p
    · subst c; exact hP (by rw [z0 q hq4] at ht; exact ht)
    · rw [z0 q hq4] at ht
      have hR := hM.pp q hq4 ht
      have zq : ∀ j, pw S (8 + p) h (8 + q) j = S (8 + q) j := by
        intro j; simp only [pw]; rw [if_neg (by omega)]
      have y9 := hq2 q hq4 c 9 (by omega)
      have y13 := hq2 q hq4 c 13 (by omega)
      have y : ∀ k, 8 ≤ k → k ≤ 14 → k ≠ 9 → k ≠ 13 → g k q = f k q := by
        intro k h1 h2 h3 h4
        rcases hq q hq4 c k h1 h2 with e | e | e
        · exact e
        · omega
        · omega
      refine ⟨?_, ?_, ?_, ?_, ?_, ?_, ?_, ?_, ?_⟩
      · rw [zq, y 8 (by omega) (by omega) (by omega) (by omega)]; exact hR.ho
      · rw [zq, y9.1]; exact hR.fl
      · rw [zq, y9.2]; exact hR.fr
      · rw [zq, y 10 (by omega) (by omega) (by omega) (by omega)]; exact hR.pu
      · rw [zq, y 11 (by omega) (by omega) (by omega) (by omega)]; exact hR.pl
      · rw [zq, zq, y 12 (by omega) (by omega) (by omega) (by omega)]; exact hR.sh
      · rw [zq, y13.1]; exact hR.wl
      · rw [zq, y13.2]; exact hR.wr
      · rw [zq, y 14 (by omega) (by omega) (by omega) (by omega)]; exact hR.wk
/-- the trodden miles or the stocks change -/
theorem RM_k {S' : Mem} (hM : RM f S) (hs : ∀ k j, k ≠ 3 → k ≠ 6 → S' k j = S k j) (hg : ∀ k j, k ≠ 3 → k ≠ 6 → g k j = f k j) (h3 : ∀ j, j < 108 → g 3 j = S' 3 j) (h6 : ∀ j, j < 30 → g 6 j = S' 6 j) : RM g S' := by
  have zt : thb S' = thb S := by unfold thb; rw [hs 8 0 (by omega) (by omega), hs 9 0 (by omega) (by omega), hs 10 0 (by omega) (by omega), hs 11 0 (by omega) (by omega)]
  refine ⟨?_, ?_, ?_, ?_, ?_, ?_, ?_, h3, ?_, ?_, h6, ?_, ?_⟩
  · rw [hg _ _ (by omega) (by omega), hs _ _ (by omega) (by omega)]; exact hM.tw
  · rw [hg _ _ (by omega) (by omega), hs _ _ (by omega) (by omega)]; exact hM.tl
  · rw [hg _ _ (by omega) (by omega), hs _ _ (by omega) (by omega)]; exact hM.kk
  · rw [hg _ _ (by omega) (by omega), hs _ _ (by omega) (by omega)]; exact hM.sg
  · rw [hg _ _ (by omega) (by omega), zt]; exact hM.th
  · intro j hj; rw [hg _ _ (by omega) (by omega), hs _ _ (by omega) (by omega)]; exact hM.mi j hj
  · intro j hj; rw [hg _ _ (by omega) (by omega), hs _ _ (by omega) (by omega)]; exact hM.ru j hj
  · intro j hj; rw [hg _ _ (by omega) (by omega), hs _ _ (by omega) (by omega)]; exact hM.sd j hj
  · intro j hj; rw [hg _ _ (by omega) (by omega), hs _ _ (by omega) (by omega)]; exact hM.pr j hj
  · intro j hj; rw [hg _ _ (by omega) (by omega), hs _ _ (by omega) (by omega)]; exact hM.si j hj
  · intro p hp ht
    have zp : ∀ j, S' (8 + p) j = S (8 + p) j := fun j => hs _ _ (by omega) (by omega)
    rw [zp] at ht
    have hR := hM.pp p hp ht
    refine ⟨?_, ?_, ?_, ?_, ?_, ?_, ?_, ?_, ?_⟩
    · rw [zp, hg _ _ (by omega) (by omega)]; exact hR.ho
    · rw [zp, hg _ _ (by omega) (by omega)]; exact hR.fl
    · rw [zp, hg _ _ (by omega) (by omega)]; exact hR.fr
    · rw [zp, hg _ _ (by omega) (by omega)]; exact hR.pu
    · rw [zp, hg _ _ (by omega) (by omega)]; exact hR.pl
    · rw [zp, zp, hg _ _ (by omega) (by omega)]; exact hR.sh
    · rw [zp, hg _ _ (by omega) (by omega)]; exact hR.wl
    · rw [zp, hg _ _ (by omega) (by omega)]; exact hR.wr
    · rw [zp, hg _ _ (by omega) (by omega)]; exact hR.wk
end MU
