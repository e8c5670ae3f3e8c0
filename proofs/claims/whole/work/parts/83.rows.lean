/-! ROUND: rows -/
section Rows
variable {B : Int} {S σ τ : Mem} {L v : Nat} {T : Ful}
def sw (l : List Nat) (i j : Nat) : List Nat := (l.set i (l.getD j 0)).set j (l.getD i 0)
/-- the row in cell 100 -/
def Rw (l : List Nat) (σ : Mem) : Prop := ∀ j, j < l.length → σ 100 j = (l.getD j 0 : Int)
def Fr100 (σ τ : Mem) : Prop := ∀ o, o ≠ 100 → τ o = σ o
theorem Fr100.tr {a b c : Mem} (h1 : Fr100 a b) (h2 : Fr100 b c) : Fr100 a c := fun o h => (h2 o h).trans (h1 o h)
theorem sw_len (l : List Nat) (i j : Nat) : (sw l i j).length = l.length := by unfold sw; simp
theorem getD_set (l : List Nat) (i j x : Nat) (hj : j < l.length) : (l.set i x).getD j 0 = if i = j then x else l.getD j 0 := by
  rw [List.getD_eq_getElem?_getD, List.getD_eq_getElem?_getD, List.getElem?_set]
  by_cases c : i = j
  · rw [if_pos c, if_pos c, if_pos (by omega)]; rfl
  · rw [if_neg c, if_neg c]
theorem x_change {l : List Nat} (hl : l.length ≤ 6) (hR : Rw l σ) {i j : Nat} (hi : i < l.length) (hj : j < l.length) (d : Option PV) : ∃ τ, (∀ Q : PQ, X L 187 0 [some (xR 75), some (xI (i : Int)), some (xI (j : Int)), d] [] σ Q = Q none τ) ∧ Fr100 σ τ ∧ Rw (sw l i j) τ := by
  refine ⟨up (up σ 100 i (σ 100 j)) 100 j (σ 100 i), fun Q => ?_, fun o ho => ?_, fun k hk => ?_⟩
  · rw [e_187_0]
    simp only [brI, not_true_eq_false, true_implies, false_implies, implies_true, and_true, cTag, cTgt, cLen, true_and, Int.toNat_natCast, retI_I, retR_R, retV_N, retL_L, ne_eq, Int.reduceEq, not_false_eq_true, show (0 ≤ (i : Int) ∧ (i : Int) < 6) by omega, show (0 ≤ (j : Int) ∧ (j : Int) < 6) by omega]
  · funext k; rw [up_rd, if_neg (by omega), up_rd, if_neg (by omega)]
  · rw [sw_len] at hk
    unfold sw
    rw [getD_set _ _ _ _ (by simp; exact hk), getD_set _ _ _ _ hk, up_rd, up_rd, hR i hi, hR j hj]
    by_cases c1 : j = k
    · rw [if_pos ⟨rfl, by omega⟩, if_pos c1]
    · rw [if_neg (by omega), if_neg c1]
      by_cases c2 : i = k
      · rw [if_pos ⟨rfl, by omega⟩, if_pos c2]
      · rw [if_neg (by omega), if_neg c2]; exact hR k hk
end Rows
