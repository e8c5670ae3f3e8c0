/-! what a step changes -/
def trd (S : Mem) (a b f : Nat) (m : Int) : Mem := fun k j => if k = 3 ∧ (j = 3 * (6 * a + b) + f ∨ j = 3 * (6 * b + a) + f) then S k j + m else S k j
def rnn (a b : Nat) : Nat := rn (min a b) (max a b)
theorem rnn_lt {a b : Nat} (ha : a < 6) (hb : b < 6) (h : a ≠ b) : rnn a b < 15 := rn_lt _ (by omega) _ (by omega)
theorem rnI_n {a b : Nat} (ha : a < 6) (hb : b < 6) (h : a ≠ b) : rnI (a : Int) (b : Int) = (rnn a b : Int) := by
  unfold rnI rnn
  rw [if_pos (by omega)]
  simp
theorem rn_e {a b c d : Nat} (ha : a < 6) (hb : b < 6) (h : a ≠ b) (h3 : c < d) (h4 : d < 6) : rn c d = rnn a b ↔ (c = a ∧ d = b) ∨ (c = b ∧ d = a) := by
  unfold rnn
  constructor
  · intro e
    have := rn_inj h3 h4 (by omega) (by omega) e
    omega
  · rintro (⟨rfl, rfl⟩ | ⟨rfl, rfl⟩)
    · rw [Nat.min_eq_left (by omega), Nat.max_eq_right (by omega)]
    · rw [Nat.min_eq_right (by omega), Nat.max_eq_left (by omega)]
section Takes
variable {v : Nat} {B : Int} {S σ : Mem} {L : Nat}
theorem RC_trd (hR : RC v S σ) {a b f : Nat} (ha : a < 6) (hb : b < 6) (h : a ≠ b) (hf : f < 3) (m : Int) : RC v (trd S a b f m) (up σ (v + 3) (3 * rnn a b + f) (σ (v + 3) (3 * rnn a b + f) + m)) := by
  obtain ⟨h1, h2, h3, h4, h5, h6, h7, h8, h9, h10, h11⟩ := hR
  refine ⟨?_, ?_, ?_, ?_, ?_, ?_, ?_, ?_, ?_, ?_, ?_⟩
  · intro j hj; simpa [up_rd, trd] using h1 j hj
  · intro a b h h'; simpa [up_rd, trd] using h2 a b h h'
  · intro a b h h'; simpa [up_rd, trd] using h3 a b h h'
  · intro c d g h5 h6 h7
    have e := rn_e ha hb h h5 h6
    have e4 := h4 c d g h5 h6 h7
    simp only [up_rd, trd, true_and]
    by_cases q : (c = a ∧ d = b ∨ c = b ∧ d = a) ∧ g = f
    · have e2 := e.mpr q.1
      have e3 := q.2
      rw [if_pos (by omega), if_pos (by omega), ← e2, ← e3, e4]
    · have : ¬ (3 * rn c d + g = 3 * rnn a b + f) := by
        intro e5
        have e6 : rn c d = rnn a b := by omega
        exact q ⟨e.mp e6, by omega⟩
      rw [if_neg this, if_neg (by omega), e4]
  · intro j hj; simpa [up_rd, trd] using h5 j hj
  · intro j hj; simpa [up_rd, trd] using h6 j hj
  · intro j hj; simpa [up_rd, trd] using h7 j hj
  · intro j hj; simpa [up_rd, trd] using h8 j hj
  · intro j hj; simpa [up_rd, trd] using h9 j hj
  · intro p f hp hf
    have := h10 p f hp hf
    simp only [up_rd, trd]
    rw [if_neg (by omega), if_neg (by omega), this]
  · simpa [up_rd] using h11
theorem x_tread (hv : IsV v) {a b f : Nat} (ha : a < 6) (hb : b < 6) (h : a ≠ b) (hf : f < 3) (hR : RC v S σ) (hS : VS B S) (hB : B ≤ 1000000) (d : Option PV) (Q : PQ) : X L 77 0 [some (xR v), some (xI (rnn a b : Int)), some (xI (f : Int)), d] [] σ Q = Q none (up σ (v + 3) (3 * rnn a b + f) (σ (v + 3) (3 * rnn a b + f) + mil S a b)) := by
  have hr := rnn_lt ha hb h
  have e1 : vA L σ (v + 1) (rnn a b : Int) = mil S a b := by rw [← rnI_n ha hb h]; exact rc_mil hv hR hS _ _
  have hm := mil_b hS (a : Int) (b : Int)
  have e2 : vA L σ (v + 3) (3 * (rnn a b : Int) + (f : Int)) = σ (v + 3) (3 * rnn a b + f) := by
    unfold vA
    rw [gl_3 hv, if_pos (by omega), show (3 * (rnn a b : Int) + (f : Int)).toNat = 3 * rnn a b + f by omega]
  have e3 : 0 ≤ σ (v + 3) (3 * rnn a b + f) ∧ σ (v + 3) (3 * rnn a b + f) ≤ B := by
    unfold rnn
    rw [hR.2.2.2.1 _ _ f (by omega) (by omega) hf]
    exact (hS.tr (by omega) (by omega) hf).1
  simp only [e_77_0, gv_t hv, gv_4 hv, gv_6 hv, true_and, x_valueAt L (v + 1) _ _ _ (gt_1 hv), x_valueAt L (v + 3) _ _ _ (gt_3 hv), x_put L (v + 3) _ _ _ _ (gt_3 hv), retI_I, retV_N, w32_id (x := 3 * (rnn a b : Int)) (by omega) (by omega), w32_id (x := 3 * (rnn a b : Int) + (f : Int)) (by omega) (by omega), e1, e2, w32_id (x := σ (v + 3) (3 * rnn a b + f) + mil S a b) (by omega) (by omega)]
  unfold pA
  rw [gl_3 hv, if_pos (by omega), show (3 * (rnn a b : Int) + (f : Int)).toNat = 3 * rnn a b + f by omega]
theorem VS_trd (hS : VS B S) {a b f : Nat} (m : Int) (hm : 0 ≤ m ∧ m ≤ 9) : VS (B + 9) (trd S a b f m) := by
  obtain ⟨h1, h2, h3, h4, h5, h6, h7, h8, h9, h10, h11, h12, h13⟩ := hS.mono (show B ≤ B + 9 by omega)
  refine ⟨by simpa [trd] using h1, by simpa [trd] using h2, by simpa [trd] using h3, by simpa [trd] using h4, by simpa [trd] using h5, by simpa [trd] using h6, ?_, by simpa [trd] using h8, by simpa [trd] using h9, by simpa [trd] using h10, by simpa [trd] using h11, by simpa [trd] using h12, ?_⟩
  · intro c d g hc hd hg
    have q := hS.tr hc hd hg
    simp only [trd, true_and]
    refine ⟨?_, ?_⟩
    · split <;> omega
    · by_cases e : 3 * (6 * c + d) + g = 3 * (6 * a + b) + f ∨ 3 * (6 * c + d) + g = 3 * (6 * b + a) + f
      · rw [if_pos e]
        by_cases e2 : 3 * (6 * d + c) + g = 3 * (6 * a + b) + f ∨ 3 * (6 * d + c) + g = 3 * (6 * b + a) + f
        · rw [if_pos e2, q.2]
        · sorry
      · sorry
  · intro p hp
    have := h13 p hp
    have e : ∀ k, trd S a b f m (8 + p) k = S (8 + p) k := fun k => by simp [trd]; omega
    have e0 : trd S a b f m 0 0 = S 0 0 := by simp [trd]
    unfold VP at this ⊢
    rw [e0]
    simp only [e]
    exact this
end Takes
