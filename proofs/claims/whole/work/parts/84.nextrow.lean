/-! ROUND: the next row -/
section NextRow
variable {B : Int} {S σ τ : Mem} {L v : Nat} {T : Ful}
def rv : Nat → List Nat → Nat → Nat → List Nat
  | 0, l, _, _ => l
  | f + 1, l, i, j => if j ≤ i then l else rv f (sw l i j) (i + 1) (j - 1)
theorem x_rev (K a2 a3 : Int) : ∀ (f : Nat) (l : List Nat) (i j : Nat) (σ : Mem), l.length ≤ 6 → Rw l σ → j < l.length → j ≤ i + 2 * f → ∃ τ, (∀ Q : PQ, X L 186 78 [some (xR 75), some (xI K), some (xI a2), some (xI a3), some (xI (i : Int)), some (xI (j : Int))] [] σ Q = Q (some (xI 1)) τ) ∧ Fr100 σ τ ∧ Rw (rv f l i j) τ := by
  intro f
  induction f with
  | zero =>
    intro l i j σ hl hR hj hf
    refine ⟨σ, fun Q => ?_, fun _ _ => rfl, hR⟩
    rw [e_186_78]
    simp only [brI]
    rw [if_pos (by omega), e_186_102]
    simp
  | succ f ih =>
    intro l i j σ hl hR hj hf
    by_cases c : j ≤ i
    · refine ⟨σ, fun Q => ?_, fun _ _ => rfl, ?_⟩
      · rw [e_186_78]
        simp only [brI]
        rw [if_pos (by omega), e_186_102]
        simp
      · show Rw (if j ≤ i then l else rv f (sw l i j) (i + 1) (j - 1)) σ
        rw [if_pos c]; exact hR
    · obtain ⟨ρ, e1, hF1, hR1⟩ := x_change (L := L) hl hR (i := i) (j := j) (by omega) hj none
      obtain ⟨τ, e2, hF2, hR2⟩ := ih (sw l i j) (i + 1) (j - 1) ρ (by rw [sw_len]; exact hl) hR1 (by rw [sw_len]; omega) (by omega)
      refine ⟨τ, fun Q => ?_, hF1.tr hF2, ?_⟩
      · rw [e_186_78]
        simp only [brI, not_true_eq_false, true_implies, false_implies, implies_true, and_true, cTag, cTgt, cLen, true_and, Int.toNat_natCast, retI_I, retR_R, retV_N, retL_L, ne_eq, Int.reduceEq, not_false_eq_true, e1]
        rw [if_neg (by omega), w32_id (x := (i : Int) + 1) (by omega) (by omega), w32_id (x := (j : Int) + -1) (by omega) (by omega), show (i : Int) + 1 = ((i + 1 : Nat) : Int) by omega, show (j : Int) + -1 = ((j - 1 : Nat) : Int) by omega]
        exact e2 Q
      · show Rw (if j ≤ i then l else rv f (sw l i j) (i + 1) (j - 1)) τ
        rw [if_neg c]; exact hR2
end NextRow
