/-! a Person's cell -/
theorem up_rd (σ : Mem) (a i : Nat) (x : Int) (b j : Nat) : up σ a i x b j = if b = a ∧ j = i then x else σ b j := rfl
abbrev lmp (f : Nat → Int) (k : Int) : Prop := ¬ f 6 = f 7 ∨ (¬ f 6 = 0 ∧ (k ≤ f 8 - f 9 ∨ k ≤ f 9 - f 8))
section Pers
variable {pa : Nat} {σ : Mem} {L : Nat}
theorem x_limps (hp : tag pa = 16) (k : Int) (hk : 1 ≤ k) (h8 : 0 ≤ σ pa 8 ∧ σ pa 8 ≤ 1000000) (h9 : 0 ≤ σ pa 9 ∧ σ pa 9 ≤ 1000000) (Q : PQ) : X L 33 0 [some (xR pa), some (xI k)] [] σ Q = Q (some (xI (bI (lmp (σ pa) k)))) σ := by
  have hw : w32 (σ pa 8 - σ pa 9) = σ pa 8 - σ pa 9 := w32_id (by omega) (by omega)
  have hw2 : w32 (0 - (σ pa 8 - σ pa 9)) = 0 - (σ pa 8 - σ pa 9) := w32_id (by omega) (by omega)
  simp only [e_33_0, e_33_13, e_33_40, e_33_41, brI, bI, hp, true_and, fAbs, hw, hw2]
  (repeat' split) <;> first | rfl | (exfalso; omega) | (simp; done)
def wrs (f : Nat → Int) (s : Int) : Int := if s = 1 then f 6 else f 7
theorem x_wears (hp : tag pa = 16) (s : Int) (h6 : σ pa 6 = 0 ∨ σ pa 6 = 1) (h7 : σ pa 7 = 0 ∨ σ pa 7 = 1) (Q : PQ) : X L 34 0 [some (xR pa), some (xI s)] [] σ Q = Q (some (xI (wrs (σ pa) s))) σ := by
  simp only [e_34_0, e_34_12, e_34_16, brI, hp, true_and, h6, h7, wrs]
  by_cases h : s = 1 <;> simp [h]
def szo (f : Nat → Int) (s : Int) : Int := if s = 1 then f 3 else f 4
theorem x_sizeOn (hp : tag pa = 16) (s : Int) (Q : PQ) : X L 35 0 [some (xR pa), some (xI s)] [] σ Q = Q (some (xI (szo (σ pa) s))) σ := by
  simp only [e_35_0, e_35_12, e_35_16, brI, hp, true_and, szo]
  by_cases h : s = 1 <;> simp [h]
abbrev lvp (f : Nat → Int) (s q : Int) : Prop := q = 6 ∨ (q = 5 ∧ wrs f s = 0) ∨ (¬ q = 5 ∧ ¬ wrs f s = 0 ∧ szo f s = q)
theorem x_leaves (hp : tag pa = 16) (s q : Int) (h6 : σ pa 6 = 0 ∨ σ pa 6 = 1) (h7 : σ pa 7 = 0 ∨ σ pa 7 = 1) (Q : PQ) : X L 36 0 [some (xR pa), some (xI s), some (xI q)] [] σ Q = Q (some (xI (bI (lvp (σ pa) s q)))) σ := by
  simp only [e_36_0, e_36_8, e_36_25, e_36_29, e_36_50, e_36_51, brI, hp, true_and, x_wears hp _ h6 h7, x_sizeOn hp, retI_I]
  by_cases h1 : q = 6
  · simp [h1, bI, lvp]
  · by_cases h2 : q = 5
    · by_cases h3 : wrs (σ pa) s = 0 <;> simp [h2, h3, bI, lvp]
    · by_cases h3 : wrs (σ pa) s = 0 <;> by_cases h4 : szo (σ pa) s = q <;> simp [h1, h2, h3, h4, bI, lvp]
theorem x_putOn (hp : tag pa = 16) (s : Int) (Q : PQ) : X L 37 0 [some (xR pa), some (xI s)] [] σ Q = Q none (if s = 1 then up σ pa 6 1 else up σ pa 7 1) := by
  simp only [e_37_0, e_37_13, e_37_18, brI, hp, true_and]
  by_cases h : s = 1 <;> simp [h]
theorem x_throw (hp : tag pa = 16) (Q : PQ) : X L 38 0 [some (xR pa)] [] σ Q = Q none (up (up (up (up σ pa 6 0) pa 7 0) pa 8 0) pa 9 0) := by
  simp only [e_38_0, hp, true_and, true_or]
def stl (σ : Mem) (pa : Nat) (h l r m : Int) : Mem := fun o j => if o = pa then (if j = 0 then 1 else if j = 1 then h else if j = 2 then h else if j = 3 then l else if j = 4 then r else if j = 5 then m else if j < 11 then 0 else σ o j) else σ o j
theorem x_settle (hp : tag pa = 16) (h l r m : Int) (Q : PQ) : X L 30 0 [some (xR pa), some (xI h), some (xI l), some (xI r), some (xI m)] [] σ Q = Q none (stl σ pa h l r m) := by
  simp only [e_30_0, x_throw hp, hp, true_and, or_true, retV_N]
  congr 1
  funext o j
  simp only [up_rd, stl]
  by_cases ho : o = pa
  · simp only [ho, true_and, if_true]
    rcases Nat.lt_or_ge j 11 with hj | hj
    · rcases (show j = 0 ∨ j = 1 ∨ j = 2 ∨ j = 3 ∨ j = 4 ∨ j = 5 ∨ j = 6 ∨ j = 7 ∨ j = 8 ∨ j = 9 ∨ j = 10 by omega) with e | e | e | e | e | e | e | e | e | e | e <;> simp [e]
    · simp [show ¬ j = 0 by omega, show ¬ j = 1 by omega, show ¬ j = 2 by omega, show ¬ j = 3 by omega, show ¬ j = 4 by omega, show ¬ j = 5 by omega, show ¬ j = 6 by omega, show ¬ j = 7 by omega, show ¬ j = 8 by omega, show ¬ j = 9 by omega, show ¬ j = 10 by omega, show ¬ j < 11 by omega]
  · simp [ho]
def vns (σ : Mem) (pa : Nat) : Mem := fun o j => if o = pa ∧ j < 11 then 0 else σ o j
theorem x_vanish (hp : tag pa = 16) (Q : PQ) : X L 31 0 [some (xR pa)] [] σ Q = Q none (vns σ pa) := by
  simp only [e_31_0, x_settle hp, hp, true_and, true_or, retV_N]
  congr 1
  funext o j
  simp only [up_rd, stl, vns]
  by_cases ho : o = pa
  · simp only [ho, true_and, if_true]
    rcases Nat.lt_or_ge j 11 with hj | hj
    · rcases (show j = 0 ∨ j = 1 ∨ j = 2 ∨ j = 3 ∨ j = 4 ∨ j = 5 ∨ j = 6 ∨ j = 7 ∨ j = 8 ∨ j = 9 ∨ j = 10 by omega) with e | e | e | e | e | e | e | e | e | e | e <;> simp [e]
    · simp [show ¬ j = 0 by omega, show ¬ j = 1 by omega, show ¬ j = 2 by omega, show ¬ j = 3 by omega, show ¬ j = 4 by omega, show ¬ j = 5 by omega, show ¬ j < 11 by omega]
  · simp [ho]
def cpP (σ : Mem) (a b : Nat) : Mem := fun o j => if o = a ∧ j < 11 then σ b j else σ o j
theorem x_cpP {a b : Nat} (ha : tag a = 16) (hb : tag b = 16) (hab : b ≠ a) (h0 : σ b 0 = 0 ∨ σ b 0 = 1) (h6 : σ b 6 = 0 ∨ σ b 6 = 1) (h7 : σ b 7 = 0 ∨ σ b 7 = 1) (Q : PQ) : X L 32 0 [some (xR a), some (xR b)] [] σ Q = Q none (cpP σ a b) := by
  simp only [e_32_0, up_rd, ha, hb, hab, false_and, if_false, h0, h6, h7, true_and]
  congr 1
  funext o j
  simp only [up_rd, cpP]
  by_cases ho : o = a
  · simp only [ho, true_and]
    rcases Nat.lt_or_ge j 11 with hj | hj
    · rcases (show j = 0 ∨ j = 1 ∨ j = 2 ∨ j = 3 ∨ j = 4 ∨ j = 5 ∨ j = 6 ∨ j = 7 ∨ j = 8 ∨ j = 9 ∨ j = 10 by omega) with e | e | e | e | e | e | e | e | e | e | e <;> simp [e]
    · simp [show ¬ j = 0 by omega, show ¬ j = 1 by omega, show ¬ j = 2 by omega, show ¬ j = 3 by omega, show ¬ j = 4 by omega, show ¬ j = 5 by omega, show ¬ j = 6 by omega, show ¬ j = 7 by omega, show ¬ j = 8 by omega, show ¬ j = 9 by omega, show ¬ j = 10 by omega, show ¬ j < 11 by omega]
  · simp [ho]
def wlk (σ : Mem) (pa : Nat) (m t : Int) : Mem := up (up (up (up σ pa 8 (if σ pa 6 = 0 then σ pa 8 else σ pa 8 + m)) pa 9 (if σ pa 7 = 0 then σ pa 9 else σ pa 9 + m)) pa 10 (σ pa 10 + m)) pa 2 t
theorem x_walkP (hp : tag pa = 16) (m t : Int) (hm : 0 ≤ m ∧ m ≤ 9) (h8 : 0 ≤ σ pa 8 ∧ σ pa 8 ≤ 1000000) (h9 : 0 ≤ σ pa 9 ∧ σ pa 9 ≤ 1000000) (h10 : 0 ≤ σ pa 10 ∧ σ pa 10 ≤ 1000000) (Q : PQ) : X L 39 0 [some (xR pa), some (xI m), some (xI t)] [] σ Q = Q none (wlk σ pa m t) := by
  simp only [e_39_0, e_39_16, e_39_17, e_39_37, e_39_38, brI, hp, true_and, up_rd, wlk]
  have a1 : w32 (σ pa 8 + m) = σ pa 8 + m := w32_id (by omega) (by omega)
  have a2 : w32 (σ pa 8) = σ pa 8 := w32_id (by omega) (by omega)
  have a3 : w32 (σ pa 9 + m) = σ pa 9 + m := w32_id (by omega) (by omega)
  have a4 : w32 (σ pa 9) = σ pa 9 := w32_id (by omega) (by omega)
  have a5 : w32 (σ pa 10 + m) = σ pa 10 + m := w32_id (by omega) (by omega)
  by_cases h6 : σ pa 6 = 0 <;> by_cases h7 : σ pa 7 = 0 <;> simp [h6, h7, a1, a2, a3, a4, a5]
def anw (f : Nat → Int) (w k : Int) : Int := if w = 0 then f 2 else if w = 1 then f 5 else if w = 2 then f 6 + 2 * f 7 else if w = 3 then f 8 else if w = 4 then f 9 else if w = 5 then bI (lmp f k) else f 10
theorem x_answer (hp : tag pa = 16) (w k : Int) (hk : 1 ≤ k) (h6 : σ pa 6 = 0 ∨ σ pa 6 = 1) (h7 : σ pa 7 = 0 ∨ σ pa 7 = 1) (h8 : 0 ≤ σ pa 8 ∧ σ pa 8 ≤ 1000000) (h9 : 0 ≤ σ pa 9 ∧ σ pa 9 ≤ 1000000) (Q : PQ) : X L 40 0 [some (xR pa), some (xI w), some (xI k)] [] σ Q = Q (some (xI (anw (σ pa) w k))) σ := by
  simp only [e_40_0, e_40_40, e_40_45, e_40_50, e_40_61, e_40_62, e_40_73, e_40_74, e_40_76, e_40_81, e_40_86, e_40_98, e_40_99, e_40_100, brI, hp, true_and, x_limps hp k hk h8 h9, retI_I, bI_0]
  by_cases w0 : w = 0
  · simp [w0, anw]
  by_cases w1 : w = 1
  · simp [w1, anw]
  by_cases w2 : w = 2
  · rcases h6 with h6 | h6 <;> rcases h7 with h7 | h7 <;> simp [w2, anw, h6, h7] <;> rfl
  by_cases w3 : w = 3
  · simp [w3, anw]
  by_cases w4 : w = 4
  · simp [w4, anw]
  by_cases w5 : w = 5
  · by_cases hl : lmp (σ pa) k
    · simp only [w5, anw, bI, if_pos hl]; simp [hl]
    · simp only [w5, anw, bI, if_neg hl]; simp [hl]
  · simp [w0, w1, w2, w3, w4, w5, anw]
end Pers
