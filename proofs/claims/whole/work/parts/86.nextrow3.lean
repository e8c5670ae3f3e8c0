/-! ROUND: nextRow -/
section NextRow3
variable {B : Int} {S σ τ : Mem} {L v : Nat} {T : Ful}
def nx1 (l : List Nat) (q : Nat) : List Nat := rv 6 (sw l (q - 1) (scn l (q - 1) (l.length - 1))) q (l.length - 1)
theorem scn_le (l : List Nat) (p : Nat) : ∀ j, scn l p j ≤ j := by
  intro j
  induction j with
  | zero => exact Nat.le_refl _
  | succ j ih => simp only [scn]; split <;> omega
theorem pvt_le (l : List Nat) : ∀ j, pvt l j ≤ j := by
  intro j
  induction j with
  | zero => exact Nat.le_refl _
  | succ j ih => simp only [pvt]; split <;> omega
theorem x_nextRow {l : List Nat} (hl : l.length ≤ 6) (hR : Rw l σ) : (pvt l (l.length - 1) = 0 → ∀ Q : PQ, X L 186 0 [some (xR 75), some (xI (l.length : Int)), none, none, none, none] [] σ Q = Q (some (xI 0)) σ) ∧ (¬ pvt l (l.length - 1) = 0 → ∃ τ, (∀ Q : PQ, X L 186 0 [some (xR 75), some (xI (l.length : Int)), none, none, none, none] [] σ Q = Q (some (xI 1)) τ) ∧ Fr100 σ τ ∧ Rw (nx1 l (pvt l (l.length - 1))) τ) := by
  have hple := pvt_le l (l.length - 1)
  have st : ∀ Q : PQ, ¬ l.length = 0 → X L 186 0 [some (xR 75), some (xI (l.length : Int)), none, none, none, none] [] σ Q = X L 186 31 [some (xR 75), some (xI (l.length : Int)), some (xI ((pvt l (l.length - 1) : Int) - 1)), none, none, none] [] σ Q := by
    intro Q h0
    rw [e_186_0, w32_id (by omega) (by omega), show (l.length : Int) - 2 = ((l.length - 1 : Nat) : Int) - 1 by omega]
    exact x_piv hl hR _ Q (l.length - 1) (by omega)
  constructor
  · intro hq Q
    by_cases h0 : l.length = 0
    · rw [e_186_0, h0, w32_id (by omega) (by omega), e_186_4]
      simp only [brI]
      rw [if_pos (by omega), e_186_31]
      simp only [brI]
      rw [if_neg (by omega)]
      simp
    · rw [st Q h0, hq, e_186_31]
      simp only [brI]
      rw [if_neg (by omega)]
      simp
  · intro hq
    generalize hqe : pvt l (l.length - 1) = q at *
    have hs := scn_le l (q - 1) (l.length - 1)
    obtain ⟨ρ, e1, hF1, hR1⟩ := x_change (L := L) hl hR (i := q - 1) (j := scn l (q - 1) (l.length - 1)) (by omega) (by omega) none
    obtain ⟨τ, e2, hF2, hR2⟩ := x_rev (L := L) (l.length : Int) ((q - 1 : Nat) : Int) (scn l (q - 1) (l.length - 1) : Int) 6 (sw l (q - 1) (scn l (q - 1) (l.length - 1))) q (l.length - 1) ρ (by rw [sw_len]; exact hl) hR1 (by rw [sw_len]; omega) (by omega)
    refine ⟨τ, fun Q => ?_, hF1.tr hF2, hR2⟩
    rw [st Q (by omega), show (q : Int) - 1 = ((q - 1 : Nat) : Int) by omega, e_186_31]
    simp only [brI]
    rw [if_pos (by omega), e_186_37, w32_id (by omega) (by omega), show (l.length : Int) - 1 = ((l.length - 1 : Nat) : Int) by omega, x_scan hl hR _ (q - 1) Q (l.length - 1) (by omega) (by omega), e_186_62]
    simp only [brI, not_true_eq_false, true_implies, false_implies, implies_true, and_true, cTag, cTgt, cLen, true_and, Int.toNat_natCast, retI_I, retR_R, retV_N, retL_L, ne_eq, Int.reduceEq, not_false_eq_true, e1, w32_id (x := ((q - 1 : Nat) : Int) + 1) (by omega) (by omega), w32_id (x := (l.length : Int) - 1) (by omega) (by omega)]
    rw [show ((q - 1 : Nat) : Int) + 1 = (q : Int) by omega, show (l.length : Int) - 1 = ((l.length - 1 : Nat) : Int) by omega]
    exact e2 Q
end NextRow3
