/-! ROUND: the next row, whole -/
section NextRow2
variable {B : Int} {S σ τ : Mem} {L v : Nat} {T : Ful}
def scn (l : List Nat) (p : Nat) : Nat → Nat
  | 0 => 0
  | j + 1 => if l.getD p 0 ≤ l.getD (j + 1) 0 then j + 1 else scn l p j
def pvt (l : List Nat) : Nat → Nat
  | 0 => 0
  | i + 1 => if l.getD i 0 ≤ l.getD (i + 1) 0 then i + 1 else pvt l i
theorem x_scan {l : List Nat} (hl : l.length ≤ 6) (hR : Rw l σ) (K : Int) (p : Nat) (Q : PQ) : ∀ j, p ≤ j → j < l.length → X L 186 41 [some (xR 75), some (xI K), some (xI (p : Int)), some (xI (j : Int)), none, none] [] σ Q = X L 186 62 [some (xR 75), some (xI K), some (xI (p : Int)), some (xI (scn l p j : Int)), none, none] [] σ Q := by
  intro j
  induction j with
  | zero =>
    intro h1 h2
    have : p = 0 := by omega
    subst this
    rw [e_186_41]
    simp only [brI, not_true_eq_false, true_implies, false_implies, implies_true, and_true, cTag, cTgt, cLen, true_and, Int.toNat_natCast, retI_I, retR_R, retV_N, retL_L, ne_eq, Int.reduceEq, not_false_eq_true, show (0 ≤ ((0 : Nat) : Int) ∧ ((0 : Nat) : Int) < 6) by omega, Int.le_refl, if_true]
    rfl
  | succ j ih =>
    intro h1 h2
    have u : scn l p (j + 1) = if l.getD p 0 ≤ l.getD (j + 1) 0 then j + 1 else scn l p j := rfl
    rw [e_186_41]
    simp only [brI, not_true_eq_false, true_implies, false_implies, implies_true, and_true, cTag, cTgt, cLen, true_and, Int.toNat_natCast, retI_I, retR_R, retV_N, retL_L, ne_eq, Int.reduceEq, not_false_eq_true, show (0 ≤ (p : Int) ∧ (p : Int) < 6) by omega, show (0 ≤ ((j + 1 : Nat) : Int) ∧ ((j + 1 : Nat) : Int) < 6) by omega, hR p (by omega), hR (j + 1) h2]
    by_cases c : l.getD p 0 ≤ l.getD (j + 1) 0
    · rw [if_pos (by omega), u, if_pos c]
    · have hp : p ≤ j := by
        refine Classical.byContradiction (fun q => c ?_)
        rw [show p = j + 1 by omega]; exact Nat.le_refl _
      rw [if_neg (by omega), u, if_neg c, w32_id (by omega) (by omega), show ((j + 1 : Nat) : Int) + -1 = (j : Int) by omega]
      exact ih hp (by omega)
theorem x_piv {l : List Nat} (hl : l.length ≤ 6) (hR : Rw l σ) (K : Int) (Q : PQ) : ∀ i, i < l.length → X L 186 4 [some (xR 75), some (xI K), some (xI ((i : Int) - 1)), none, none, none] [] σ Q = X L 186 31 [some (xR 75), some (xI K), some (xI ((pvt l i : Int) - 1)), none, none, none] [] σ Q := by
  intro i
  induction i with
  | zero =>
    intro h
    rw [e_186_4]
    simp only [brI]
    rw [if_pos (by omega)]
    rfl
  | succ i ih =>
    intro h
    have u : pvt l (i + 1) = if l.getD i 0 ≤ l.getD (i + 1) 0 then i + 1 else pvt l i := rfl
    rw [show ((i + 1 : Nat) : Int) - 1 = (i : Int) by omega, e_186_4]
    simp only [brI, not_true_eq_false, true_implies, false_implies, implies_true, and_true, cTag, cTgt, cLen, true_and, Int.toNat_natCast, retI_I, retR_R, retV_N, retL_L, ne_eq, Int.reduceEq, not_false_eq_true, w32_id (x := (i : Int) + 1) (by omega) (by omega)]
    rw [show (i : Int) + 1 = ((i + 1 : Nat) : Int) by omega]
    simp only [brI, not_true_eq_false, true_implies, false_implies, implies_true, and_true, cTag, cTgt, cLen, true_and, Int.toNat_natCast, retI_I, retR_R, retV_N, retL_L, ne_eq, Int.reduceEq, not_false_eq_true, show (0 ≤ (i : Int) ∧ (i : Int) < 6) by omega, show (0 ≤ ((i + 1 : Nat) : Int) ∧ ((i + 1 : Nat) : Int) < 6) by omega, hR i (by omega), hR (i + 1) h]
    rw [if_neg (by omega)]
    by_cases c : l.getD i 0 ≤ l.getD (i + 1) 0
    · rw [if_pos (by omega), u, if_pos c, show ((i + 1 : Nat) : Int) - 1 = (i : Int) by omega]
    · rw [if_neg (by omega), u, if_neg c, w32_id (by omega) (by omega), show (i : Int) + -1 = (i : Int) - 1 by omega]
      exact ih (by omega)
end NextRow2
