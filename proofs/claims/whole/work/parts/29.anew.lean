/-! a Valley begins anew -/
def newS (S : Mem) (n : Int) : Mem := fun k j => if k = 0 then (if j = 0 then n else if j = 3 then 0 else S 0 j) else if k = 7 then S 7 j else 0
section Anew
variable {v w : Nat} {B : Int} {S σ : Mem} {L : Nat}
theorem VS_new (hS : VS B S) (hB : 0 ≤ B) {n : Int} (hn : 2 ≤ n ∧ n ≤ 6) : VS B (newS S n) := by
  obtain ⟨h1, h2, h3, h4, h5, h6, h7, h8, h9, h10, h11, h12, h13⟩ := hS
  refine ⟨by simpa [newS] using hn, by simpa [newS] using h2, by simpa [newS] using h3, by simp [newS], ?_, ?_, ?_, ?_, ?_, ?_, by simpa [newS] using h11, by simpa [newS] using h12, ?_⟩
  · intro a b ha hb; simp [newS]
  · intro a b ha hb; simp [newS]
  · intro a b f ha hb hf; simp [newS]; omega
  · intro j hj; simp [newS]
  · intro j hj; simp [newS]
  · intro j hj; simp [newS]
  · intro p hp
    have e : ∀ j, newS S n (8 + p) j = 0 := by
      intro j; simp only [newS]; rw [if_neg (by omega), if_neg (by omega)]
    have e0 : newS S n 0 0 = n := rfl
    unfold VP
    simp only [e]
    rw [e0]
    simp
    omega
def K0 (v m : Nat) (σ τ : Mem) : Prop := Fr v σ τ ∧ (∀ c, 1 ≤ c → c < m → c ≤ 6 ∨ 11 ≤ c → ∀ j, j < lnv c → τ (v + c) j = 0) ∧ (∀ c, m ≤ c ∨ c = 0 ∨ (7 ≤ c ∧ c ≤ 10) → τ (v + c) = σ (v + c))
theorem K0_st {m n : Nat} {τ τ' : Mem} (h : K0 v m σ τ) (hm : m < 15) (h1 : 1 ≤ m) (h6 : m ≤ 6 ∨ 11 ≤ m) (hn : n = lnv m) (he : ∀ o j, τ' o j = if o = v + m ∧ j < n then 0 else τ o j) : K0 v (m + 1) σ τ' := by
  obtain ⟨a1, a2, a3⟩ := h
  refine ⟨?_, ?_, ?_⟩
  · intro o ho
    funext j
    rw [he, if_neg (by omega), a1 o ho]
  · intro c hc1 hc hc6 j hj
    rw [he]
    by_cases e : c = m
    · subst e
      rw [if_pos (by omega)]
    · rw [if_neg (by omega), a2 c hc1 (by omega) hc6 j hj]
  · intro c hc
    funext j
    rw [he, if_neg (by omega), a3 c (by omega)]
theorem K0_cl {m n : Nat} {τ : Mem} (h : K0 v m σ τ) (hm : m < 15) (h1 : 1 ≤ m) (h6 : m ≤ 6 ∨ 11 ≤ m) (hn : n = lnv m) : K0 v (m + 1) σ (clr τ (v + m) 0 n) := by
  refine K0_st h hm h1 h6 hn ?_
  intro o j
  simp only [clr, Nat.zero_le, true_and]
theorem K0_P {p : Nat} {τ : Mem} (h : K0 v (11 + p) σ τ) (hp : p < 4) : K0 v (11 + (p + 1)) σ (vns τ (v + 11 + p)) := by
  refine K0_st (m := 11 + p) (n := 11) h (by omega) (by omega) (by omega) ?_ ?_
  · rcases (show p = 0 ∨ p = 1 ∨ p = 2 ∨ p = 3 by omega) with rfl | rfl | rfl | rfl <;> rfl
  · intro o j
    simp only [vns, Nat.add_assoc]
theorem K0_7 {τ : Mem} (h : K0 v 7 σ τ) : K0 v 11 σ τ := by
  obtain ⟨a1, a2, a3⟩ := h
  exact ⟨a1, fun c hc1 hc hc6 => a2 c hc1 (by omega) hc6, fun c hc => a3 c (by omega)⟩
theorem x_beginAnew (hv : IsV v) (hR : RC v S σ) (n : Int) (d : Option PV) : ∃ τ, (∀ Q : PQ, X L 48 0 [some (xR v), some (xI n), d] [] σ Q = Q none τ) ∧ RC v (newS S n) τ ∧ Fr v σ τ := by
  obtain ⟨σ0, hσ0⟩ : ∃ σ0, up (up σ v 0 n) v 3 0 = σ0 := ⟨_, rfl⟩
  have k1 : K0 v 1 σ0 σ0 := ⟨Fr.rfl', fun c h1 h2 => by omega, fun c _ => rfl⟩
  have k2 := K0_cl (n := 15) k1 (by omega) (by omega) (by omega) rfl
  have k3 := K0_cl (n := 15) k2 (by omega) (by omega) (by omega) rfl
  have k4 := K0_cl (n := 45) k3 (by omega) (by omega) (by omega) rfl
  have k5 := K0_cl (n := 6) k4 (by omega) (by omega) (by omega) rfl
  have k6 := K0_cl (n := 6) k5 (by omega) (by omega) (by omega) rfl
  have k7 := K0_7 (K0_cl (n := 30) k6 (by omega) (by omega) (by omega) rfl)
  have hP : ∀ m p : Nat, p + m = 4 → ∀ τ, K0 v (11 + p) σ0 τ → ∃ τ', (∀ Q : PQ, X L 48 54 [some (xR v), some (xI n), some (xI (p : Int))] [] τ Q = Q none τ') ∧ K0 v 15 σ0 τ' := by
    intro m
    induction m with
    | zero =>
      intro p hp τ hK
      have : p = 4 := by omega
      subst this
      refine ⟨τ, ?_, hK⟩
      intro Q
      rw [e_48_54]
      simp only [e_48_73, brI]
      rw [if_pos (by omega)]
    | succ m ih =>
      intro p hp τ hK
      obtain ⟨τ', e, hK'⟩ := ih (p + 1) (by omega) _ (K0_P hK (by omega))
      refine ⟨τ', ?_, hK'⟩
      intro Q
      rw [e_48_54]
      simp only [brI, gv_t hv, true_and, x_personAt hv (p := p) (by omega), retR_R, gt_p hv (p := p) (by omega), x_vanish (gt_p hv (p := p) (by omega)), retV_N]
      rw [if_neg (by omega), w32_id (by omega) (by omega), ← e Q]
      rfl
  obtain ⟨τ, e, hK⟩ := hP 4 0 (by omega) _ k7
  have z : ∀ c d, 1 ≤ c → c ≤ 8 → ∀ (ρ : Mem) (Q : PQ), X L 137 0 [some (xR (v + c)), d] [] ρ Q = Q none (clr ρ (v + c) 0 (lnv c)) := by
    intro c d h1 h2 ρ Q
    refine x_clearRow (gt_n hv h1 h2) (gl_n hv h1 h2 L) ?_ ρ d Q
    rcases (show c = 1 ∨ c = 2 ∨ c = 3 ∨ c = 4 ∨ c = 5 ∨ c = 6 ∨ c = 7 ∨ c = 8 by omega) with rfl | rfl | rfl | rfl | rfl | rfl | rfl | rfl <;> decide
  refine ⟨τ, ?_, ?_, ?_⟩
  · intro Q
    rw [e_48_0]
    simp only [gv_t hv, true_and, gv_4 hv, gv_5 hv, gv_6 hv, gv_7 hv, gv_8 hv, gv_9 hv, retV_N, hσ0, z 1 none (by omega) (by omega), z 2 none (by omega) (by omega), z 3 none (by omega) (by omega), z 4 none (by omega) (by omega), z 5 none (by omega) (by omega), z 6 none (by omega) (by omega)]
    exact e Q
  · obtain ⟨a1, a2, a3⟩ := hK
    obtain ⟨h1, h2, h3, h4, h5, h6, h7, h8, h9, h10, h11⟩ := hR
    have b : ∀ c, 1 ≤ c → σ0 (v + c) = σ (v + c) := by
      intro c hc; funext j; rw [← hσ0]; simp only [up_rd]; rw [if_neg (by omega), if_neg (by omega)]
    refine ⟨?_, ?_, ?_, ?_, ?_, ?_, ?_, ?_, ?_, ?_, ?_⟩
    · intro j hj
      have := a3 0 (by omega)
      simp only [Nat.add_zero] at this
      rw [this, ← hσ0]
      simp only [up_rd, newS, true_and, if_true]
      by_cases c0 : j = 0
      · simp [c0]
      · by_cases c3 : j = 3
        · simp [c3]
        · rw [if_neg c3, if_neg c0, if_neg c0, if_neg c3]; exact h1 j hj
    · intro a b q q'; exact a2 1 (by omega) (by omega) (by omega) _ (rn_lt b q' a q)
    · intro a b q q'; exact a2 2 (by omega) (by omega) (by omega) _ (rn_lt b q' a q)
    · intro a b f q q' hf
      have := rn_lt b q' a q
      exact a2 3 (by omega) (by omega) (by omega) _ (show 3 * rn a b + f < 45 by omega)
    · intro j hj; exact a2 4 (by omega) (by omega) (by omega) j hj
    · intro j hj; exact a2 5 (by omega) (by omega) (by omega) j hj
    · intro j hj; exact a2 6 (by omega) (by omega) (by omega) j hj
    · intro j hj; rw [a3 7 (by omega), b 7 (by omega)]; exact h8 j hj
    · intro j hj; rw [a3 8 (by omega), b 8 (by omega)]; exact h9 j hj
    · intro p f hp hf
      have hl : f < lnv (11 + p) := by
        rcases (show p = 0 ∨ p = 1 ∨ p = 2 ∨ p = 3 by omega) with rfl | rfl | rfl | rfl <;> exact hf
      have := a2 (11 + p) (by omega) (by omega) (by omega) f hl
      rw [Nat.add_assoc, this]
      simp only [newS]; rw [if_neg (by omega), if_neg (by omega)]
    · rw [a3 10 (by omega), b 10 (by omega)]; exact h11
  · refine Fr.tr ?_ hK.1
    rw [← hσ0]
    exact Fr.tr (Fr_up (by omega)) (Fr_up (by omega))
end Anew
