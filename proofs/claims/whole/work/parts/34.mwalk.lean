/-! the Model walks, buys, throws: on the cells of now -/
def FrN (σ τ : Mem) : Prop := ∀ o, o < 91 ∨ 97 < o → τ o = σ o
theorem FrN.tr {a b c : Mem} (h1 : FrN a b) (h2 : FrN b c) : FrN a c := fun o h => (h2 o h).trans (h1 o h)
def mst (σ : Mem) (p s : Nat) (e m : Int) (i1 i2 : Nat) : Mem := fun o j => if o = 94 ∧ j = 2 * p + s then σ 94 (2 * p + s) + e else if o = 97 ∧ (j = i1 ∨ j = i2) then σ 97 j + m else σ o j
section MW
variable {B : Int} {S σ : Mem} {L : Nat}
theorem bit_sh {x y : Int} (hx : x = 0 ∨ x = 1) (hy : y = 0 ∨ y = 1) : (bit (x + 2 * y) 0 ↔ ¬ x = 0) ∧ (bit (x + 2 * y) 1 ↔ ¬ y = 0) := by
  rcases hx with rfl | rfl <;> rcases hy with rfl | rfl <;> decide
theorem x_walkS {p s r1 r2 : Nat} {t m : Int} (hp : p < 4) (hs : s < 2) (hr1 : r1 < 36) (hr2 : r2 < 36) (hne : r1 ≠ r2) (c : Prop) [Decidable c] (hb : bit (σ 93 p) (s : Int) ↔ c) (hm : 0 ≤ m ∧ m ≤ 9) (h94 : 0 ≤ σ 94 (2 * p + s) ∧ σ 94 (2 * p + s) ≤ 1000000) (h97 : ∀ j, j < 108 → 0 ≤ σ 97 j ∧ σ 97 j ≤ 1000000) (d7 d8 : Option PV) (Q : PQ) : ∃ q how : Int, X L 165 36 [some (xR 75), some (xI (p : Int)), some (xI t), some (xI (r1 : Int)), some (xI (r2 : Int)), some (xI m), some (xI (s : Int)), d7, d8] [] σ Q = X L 165 36 [some (xR 75), some (xI (p : Int)), some (xI t), some (xI (r1 : Int)), some (xI (r2 : Int)), some (xI m), some (xI ((s + 1 : Nat) : Int)), some (xI q), some (xI how)] [] (mst σ p s (if c then m else 0) m (3 * r1 + (if c then s else 2)) (3 * r2 + (if c then s else 2))) Q := by
  obtain ⟨w, hw⟩ : ∃ w : Nat, (if c then s else 2) = w := ⟨_, rfl⟩
  have hw3 : w < 3 := by rw [← hw]; split <;> omega
  have hwI : (if c then (s : Int) else 2) = (w : Int) := by rw [← hw]; split <;> rfl
  obtain ⟨e, he⟩ : ∃ e : Int, (if c then m else 0) = e := ⟨_, rfl⟩
  have he9 : 0 ≤ e ∧ e ≤ 9 := by rw [← he]; split <;> omega
  have b1 := h97 (3 * r1 + w) (by omega)
  have b2 := h97 (3 * r2 + w) (by omega)
  refine ⟨bI c, (w : Int), ?_⟩
  rw [hw, he]
  have key : ∀ (q : Int), X L 165 91 [some (xR 75), some (xI (p : Int)), some (xI t), some (xI (r1 : Int)), some (xI (r2 : Int)), some (xI m), some (xI (s : Int)), some (xI q), some (xI (w : Int))] [xI e, xI (σ 94 (2 * p + s)), xI ((2 * p + s : Nat) : Int), xR 94] σ Q = X L 165 36 [some (xR 75), some (xI (p : Int)), some (xI t), some (xI (r1 : Int)), some (xI (r2 : Int)), some (xI m), some (xI ((s + 1 : Nat) : Int)), some (xI q), some (xI (w : Int))] [] (mst σ p s e m (3 * r1 + w) (3 * r2 + w)) Q := by
    intro q
    rw [e_165_91]
    have n1 : ∀ x, up σ 94 (2 * p + s) x 97 (3 * r1 + w) = σ 97 (3 * r1 + w) := by intro x; simp [up_rd]
    have n2 : ∀ x y, up (up σ 94 (2 * p + s) x) 97 (3 * r1 + w) y 97 (3 * r2 + w) = σ 97 (3 * r2 + w) := by
      intro x y; simp only [up_rd]; rw [if_neg (by omega), if_neg (by omega)]
    simp only [cTag, cTgt, cLen, true_and, w32_id (x := 3 * (r1 : Int)) (by omega) (by omega), w32_id (x := 3 * (r2 : Int)) (by omega) (by omega), w32_id (x := 3 * (r1 : Int) + (w : Int)) (by omega) (by omega), w32_id (x := 3 * (r2 : Int) + (w : Int)) (by omega) (by omega), show (3 * (r1 : Int) + (w : Int)).toNat = 3 * r1 + w by omega, show (3 * (r2 : Int) + (w : Int)).toNat = 3 * r2 + w by omega, Int.toNat_natCast, n1, n2, w32_id (x := σ 94 (2 * p + s) + e) (by omega) (by omega), w32_id (x := σ 97 (3 * r1 + w) + m) (by omega) (by omega), w32_id (x := σ 97 (3 * r2 + w) + m) (by omega) (by omega), w32_id (x := ((s + 1 : Nat) : Int)) (by omega) (by omega), show (0 ≤ 3 * (r1 : Int) + (w : Int) ∧ 3 * (r1 : Int) + (w : Int) < 108) by omega, show (0 ≤ 3 * (r2 : Int) + (w : Int) ∧ 3 * (r2 : Int) + (w : Int) < 108) by omega, show (0 ≤ ((2 * p + s : Nat) : Int) ∧ ((2 * p + s : Nat) : Int) < 8) by omega, show (s : Int) + 1 = ((s + 1 : Nat) : Int) by omega]
    congr 1
    funext o j
    simp only [up_rd, mst]
    by_cases o97 : o = 97
    · subst o97
      by_cases j2 : j = 3 * r2 + w
      · subst j2; simp
      · by_cases j1 : j = 3 * r1 + w
        · subst j1; simp [show ¬ 3 * r1 = 3 * r2 by omega]
        · simp [j1, j2]
    · simp [o97]
  rw [e_165_36]
  simp only [e_165_65, e_165_66, e_165_90, brI, cTag, cTgt, cLen, true_and, Int.toNat_natCast, show (0 ≤ (p : Int) ∧ (p : Int) < 4) by omega, x_has, retI_I, bI_0, hb, w32_id (x := 2 * (p : Int)) (by omega) (by omega), w32_id (x := ((2 * p + s : Nat) : Int)) (by omega) (by omega), show 2 * (p : Int) + (s : Int) = ((2 * p + s : Nat) : Int) by omega, show (0 ≤ ((2 * p + s : Nat) : Int) ∧ ((2 * p + s : Nat) : Int) < 8) by omega]
  rw [if_neg (by omega)]
  have k := key (bI c)
  by_cases cc : c
  · rw [if_pos cc] at hwI he
    rw [if_neg (by simpa using cc), if_neg (by simpa using cc)]
    rw [← he, ← hwI] at k ⊢
    exact k
  · rw [if_neg cc] at hwI he
    rw [if_pos cc, if_pos cc]
    rw [← he, ← hwI] at k ⊢
    exact k
end MW
