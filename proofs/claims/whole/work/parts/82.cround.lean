/-! ROUND, asked of the class -/
section DRound
variable {B : Int} {S σ τ : Mem} {L v : Nat} {T : Ful}
def rnd (S : Mem) (l : Int) (h n m s : Nat) (i : Int) : Int := if fF S l h n 7 m s < 1000000 then (if i = -1 then fF S l h n 7 m s else if 0 ≤ i ∧ i < (pc m : Int) then ((go S l h n s m (i.toNat + 1)).1 : Int) else -6) else -6
def a_round (T : Ful) (p m i : Int) : Int := if ¬ thr (T 0) p = 0 then (if 0 ≤ m ∧ m ≤ ((2 ^ (T 0 0 0).toNat - 1 : Nat) : Int) then rnd (T 0) (bI (lmp (T 0 (8 + p.toNat)) (T 0 0 2))) (aH (T 0) p.toNat) (T 0 0 0).toNat m.toNat (aT (T 0) p.toNat) i else -2) else -1
theorem c_round (hI : IC T σ) (hV : IV B T) (hB : B ≤ 1000000) (p m i : Int) : CO σ (X L 107 0 [some (xR 0), some (xI p), some (xI m), some (xI i)] [] σ) (a_round T p m i) T := by
  unfold a_round
  by_cases c : thr (T 0) p = 0
  · rw [if_neg (fun q => q c)]
    refine CO_n hI (fun Q => ?_)
    simp only [e_107_0, brI, not_true_eq_false, true_implies, false_implies, implies_true, and_true, cTag, cTgt, cLen, true_and, Int.toNat_natCast, retI_I, retR_R, retV_N, retL_L, ne_eq, Int.reduceEq, not_false_eq_true, x_isThere iV1 hI.1 hV.1, c, if_true, if_false]
  · rw [if_pos c]
    obtain ⟨q, hq, rfl, -⟩ := thr_in (B := B) c
    obtain ⟨n, hn, hn2, hn6⟩ := tn hV
    have hnn : (T 0 0 0).toNat = n := by omega
    rw [hnn]
    have h2 : 2 ^ n ≤ 2 ^ 6 := Nat.pow_le_pow_right (by omega) (by omega)
    have h2 : 2 ^ n ≤ 64 := h2
    have h1 : 1 ≤ 2 ^ n := Nat.one_le_two_pow
    by_cases cm : 0 ≤ m ∧ m ≤ ((2 ^ n - 1 : Nat) : Int)
    · rw [if_pos cm]
      obtain ⟨m, rfl⟩ : ∃ a : Nat, m = (a : Int) := ⟨m.toNat, by omega⟩
      simp only [Int.toNat_natCast]
      have hm2 : m < 2 ^ n := by omega
      have hmn : ∀ b, m.testBit b = true → b < n := by
        intro b hb
        refine Classical.byContradiction (fun q => ?_)
        have p : 2 ^ n ≤ 2 ^ b := Nat.pow_le_pow_right (by omega) (by omega)
        rw [Nat.testBit_lt_two_pow (Nat.lt_of_lt_of_le hm2 p)] at hb
        cases hb
      obtain ⟨l, hle, hl2⟩ := bI_n (lmp (T 0 (8 + q)) (T 0 0 2))
      obtain ⟨τ, e, hF, hQ, hI1, hL⟩ := c_surv (L := L) hI hV
      have hp := psv hV.1 hq hn
      obtain ⟨ρ, e1, hE, hT1, hT2⟩ := x_tour (L := L) hI1.1 hV.1 hB hL hp (show m < 64 by omega) hmn hl2 hle
      rw [hle]
      have h31 : ρ 31 0 = 0 := by rw [hE 31 (by omega) (by omega) (by omega)]; exact hQ.2
      refine CO_q hI ⟨ρ, fun Q => ?_, hQ.tr ⟨fun o ho => hE o (by omega) (by omega) (by omega), h31⟩⟩
      have hpc := (pc6 m (by omega)).2
      unfold rnd
      simp only [e_107_0, e_107_13, e_107_31, brI, not_true_eq_false, true_implies, false_implies, implies_true, and_true, cTag, cTgt, cLen, true_and, Int.toNat_natCast, retI_I, retR_R, retV_N, retL_L, ne_eq, Int.reduceEq, not_false_eq_true, x_isThere iV1 hI.1 hV.1, x_allTowns hI.1 hV.1 hn, x_isWithin, bI_0, c, cm, e, x_personAt iV1 hq, e1, if_true, if_false, and_self, e_107_81, e_107_89, e_47_0, e_47_23, e_47_25, x_valueAt L 41 _ _ _ rfl, vA]
      by_cases cF : fF (T 0) l (aH (T 0) q) n 7 m (aT (T 0) q) < 1000000
      · obtain ⟨t3, t2, t1⟩ := hT1 cF
        rw [if_pos cF, t3, t2]
        by_cases ci : i = -1
        · rw [if_neg (fun q => q ci), if_pos ci]
        · rw [if_pos ci, if_neg ci]
          by_cases c0 : i < 0
          · rw [if_pos c0, if_neg (by omega)]
          · rw [if_neg c0]
            by_cases c1 : (pc m : Int) ≤ i
            · rw [if_pos c1, if_neg (by omega)]
            · rw [if_neg c1, if_pos ⟨by omega, by omega⟩, if_pos ⟨by omega, by omega⟩, t1 i.toNat (by omega)]
      · obtain ⟨t3, t2⟩ := hT2 cF
        rw [if_neg cF, t3, t2]
        by_cases ci : i = -1
        · rw [if_neg (fun q => q ci)]
        · rw [if_pos ci]
          by_cases c0 : i < 0
          · rw [if_pos c0]
          · rw [if_neg c0, if_pos (by omega)]
    · rw [if_neg cm]
      refine CO_n hI (fun Q => ?_)
      simp only [e_107_0, e_107_13, brI, not_true_eq_false, true_implies, false_implies, implies_true, and_true, cTag, cTgt, cLen, true_and, Int.toNat_natCast, retI_I, retR_R, retV_N, retL_L, ne_eq, Int.reduceEq, not_false_eq_true, x_isThere iV1 hI.1 hV.1, x_allTowns hI.1 hV.1 hn, x_isWithin, bI_0, c, cm, if_true, if_false]
end DRound
