/-! the calls that set the valley: the class -/
section Simple
variable {T : Ful} {σ τ : Mem} {B : Int} {L v : Nat} {S : Mem}
theorem IC_V (hI : IC T σ) (hR : RC 1 S τ) (hF : Fr 1 σ τ) : IC (setV T S) τ := by
  obtain ⟨h1, h2, h3, h4, h5, h6⟩ := hI
  refine ⟨hR, by rw [hF 31 (by omega)]; exact h2, ?_, ?_, ?_, ?_⟩
  · rw [hF 55 (by omega), hF 70 (by omega)]; exact h3
  · intro n hn
    rw [hF 17 (by omega)]
    refine ⟨(h4 n hn).1, fun k => ?_⟩
    have e : setV T S (1 + n) = T (1 + n) := if_neg (by omega)
    rw [e]
    exact RC_eq (fun o ho => hF o (by omega)) ((h4 n hn).2 k)
  · rw [hF 18 (by omega)]; exact h5
  · intro j hj; rw [hF 19 (by omega)]; exact h6 j hj
theorem IV_V (hV : IV B T) (hS : VS B S) : IV B (setV T S) := by
  obtain ⟨h1, h2, h3, h4⟩ := hV
  refine ⟨hS, ?_, h3, h4⟩
  intro n hn
  have e : setV T S (1 + n) = T (1 + n) := if_neg (by omega)
  rw [e]
  exact h2 n hn
theorem IM_V (hI : IM T σ) (hM : RM (vP τ) S) (h : ∀ o, 90 ≤ o → τ o = σ o) (h19 : τ 75 19 = σ 75 19) : IM (setV T S) τ := by
  obtain ⟨h1, h2, h3, h4⟩ := hI
  refine ⟨hM, ?_, by rw [h19]; exact h3, ?_⟩
  · intro n hn
    rw [h 103 (by omega)]
    refine ⟨(h2 n hn).1, fun k => ?_⟩
    have e : setV T S (1 + n) = T (1 + n) := if_neg (by omega)
    rw [e]
    exact RM_cg (vI_eq (h 102 (by omega))) ((h2 n hn).2 k)
  · intro j hj; rw [h 90 (by omega)]; exact h4 j hj
/-- a call of the class, of the Model, comes to an answer and a state -/
def CO (σ : Mem) (G : PQ → Prop) (r : Int) (T : Ful) : Prop := ∃ τ, (∀ Q, G Q = Q (some (xI r)) τ) ∧ IC T τ ∧ (∀ o, 75 ≤ o → τ o = σ o)
def MO (σ : Mem) (G : PQ → Prop) (r : Int) (T : Ful) : Prop := ∃ τ, (∀ Q, G Q = Q (some (xI r)) τ) ∧ IM T τ ∧ (∀ o, o < 75 ∨ 104 ≤ o → τ o = σ o)
theorem CO_n {G : PQ → Prop} {r : Int} (hI : IC T σ) (h : ∀ Q, G Q = Q (some (xI r)) σ) : CO σ G r T := ⟨σ, h, hI, fun _ _ => rfl⟩
theorem MO_n {G : PQ → Prop} {r : Int} (hI : IM T σ) (h : ∀ Q, G Q = Q (some (xI r)) σ) : MO σ G r T := ⟨σ, h, hI, fun _ _ => rfl⟩

theorem RC_up4 (hR : RC v S σ) (i : Nat) (x : Int) : RC v (up S 4 i x) (up σ (v + 4) i x) := by
  obtain ⟨h1, h2, h3, h4, h5, h6, h7, h8, h9, h10, h11⟩ := hR
  refine ⟨?_, ?_, ?_, ?_, ?_, ?_, ?_, ?_, ?_, ?_, ?_⟩
  · intro j hj; simpa [up_rd] using h1 j hj
  · intro a b h h'; simpa [up_rd] using h2 a b h h'
  · intro a b h h'; simpa [up_rd] using h3 a b h h'
  · intro a b f h h' h2; simpa [up_rd] using h4 a b f h h' h2
  · intro j hj; simp only [up_rd, true_and]; rw [h5 j hj]
  · intro j hj; simpa [up_rd] using h6 j hj
  · intro j hj; simpa [up_rd] using h7 j hj
  · intro j hj; simpa [up_rd] using h8 j hj
  · intro j hj; simpa [up_rd] using h9 j hj
  · intro p f hp hf
    have := h10 p f hp hf
    simp only [up_rd]
    rw [if_neg (by omega), if_neg (by omega), this]
  · simpa [up_rd] using h11
theorem RC_up5 (hR : RC v S σ) (i : Nat) (x : Int) : RC v (up S 5 i x) (up σ (v + 5) i x) := by
  obtain ⟨h1, h2, h3, h4, h5, h6, h7, h8, h9, h10, h11⟩ := hR
  refine ⟨?_, ?_, ?_, ?_, ?_, ?_, ?_, ?_, ?_, ?_, ?_⟩
  · intro j hj; simpa [up_rd] using h1 j hj
  · intro a b h h'; simpa [up_rd] using h2 a b h h'
  · intro a b h h'; simpa [up_rd] using h3 a b h h'
  · intro a b f h h' h2; simpa [up_rd] using h4 a b f h h' h2
  · intro j hj; simpa [up_rd] using h5 j hj
  · intro j hj; simp only [up_rd, true_and]; rw [h6 j hj]
  · intro j hj; simpa [up_rd] using h7 j hj
  · intro j hj; simpa [up_rd] using h8 j hj
  · intro j hj; simpa [up_rd] using h9 j hj
  · intro p f hp hf
    have := h10 p f hp hf
    simp only [up_rd]
    rw [if_neg (by omega), if_neg (by omega), this]
  · simpa [up_rd] using h11
theorem VS_up4 (hS : VS B S) (i : Nat) (x : Int) (hx : 0 ≤ x ∧ x ≤ 2) : VS B (up S 4 i x) := by
  obtain ⟨h1, h2, h3, h4, h5, h6, h7, h8, h9, h10, h11, h12, h13⟩ := hS
  refine ⟨by simpa [up_rd] using h1, by simpa [up_rd] using h2, by simpa [up_rd] using h3, by simpa [up_rd] using h4, by simpa [up_rd] using h5, by simpa [up_rd] using h6, by simpa [up_rd] using h7, ?_, by simpa [up_rd] using h9, by simpa [up_rd] using h10, by simpa [up_rd] using h11, by simpa [up_rd] using h12, ?_⟩
  · intro j hj; have := h8 j hj; simp only [up_rd, true_and]; split <;> omega
  · intro p hp
    have := h13 p hp
    have e : ∀ k, up S 4 i x (8 + p) k = S (8 + p) k := fun k => by simp only [up_rd]; rw [if_neg (by omega)]
    have e0 : up S 4 i x 0 0 = S 0 0 := by simp [up_rd]
    unfold VP at this ⊢
    rw [e0]
    simp only [e]
    exact this
theorem VS_up5 (hS : VS B S) (i : Nat) (x : Int) (hx : 0 ≤ x ∧ x ≤ 20) : VS B (up S 5 i x) := by
  obtain ⟨h1, h2, h3, h4, h5, h6, h7, h8, h9, h10, h11, h12, h13⟩ := hS
  refine ⟨by simpa [up_rd] using h1, by simpa [up_rd] using h2, by simpa [up_rd] using h3, by simpa [up_rd] using h4, by simpa [up_rd] using h5, by simpa [up_rd] using h6, by simpa [up_rd] using h7, by simpa [up_rd] using h8, ?_, by simpa [up_rd] using h10, by simpa [up_rd] using h11, by simpa [up_rd] using h12, ?_⟩
  · intro j hj; have := h9 j hj; simp only [up_rd, true_and]; split <;> omega
  · intro p hp
    have := h13 p hp
    have e : ∀ k, up S 5 i x (8 + p) k = S (8 + p) k := fun k => by simp only [up_rd]; rw [if_neg (by omega)]
    have e0 : up S 5 i x 0 0 = S 0 0 := by simp [up_rd]
    unfold VP at this ⊢
    rw [e0]
    simp only [e]
    exact this
theorem RC_up0 (hR : RC v S σ) (i : Nat) (x : Int) : RC v (up S 0 i x) (up σ v i x) := by
  obtain ⟨h1, h2, h3, h4, h5, h6, h7, h8, h9, h10, h11⟩ := hR
  refine ⟨?_, ?_, ?_, ?_, ?_, ?_, ?_, ?_, ?_, ?_, ?_⟩
  · intro j hj; simp only [up_rd, true_and]; rw [h1 j hj]
  · intro a b h h'; simpa [up_rd] using h2 a b h h'
  · intro a b h h'; simpa [up_rd] using h3 a b h h'
  · intro a b f h h' h2; simpa [up_rd] using h4 a b f h h' h2
  · intro j hj; simpa [up_rd] using h5 j hj
  · intro j hj; simpa [up_rd] using h6 j hj
  · intro j hj; simpa [up_rd] using h7 j hj
  · intro j hj; simpa [up_rd] using h8 j hj
  · intro j hj; simpa [up_rd] using h9 j hj
  · intro p f hp hf
    have := h10 p f hp hf
    simp only [up_rd]
    rw [if_neg (by omega), if_neg (by omega), this]
  · simpa [up_rd] using h11
theorem VS_up0 (hS : VS B S) (i : Nat) (x : Int) (hx : (i = 1 ∧ 0 ≤ x ∧ x ≤ 9) ∨ (i = 2 ∧ 1 ≤ x ∧ x ≤ 9) ∨ (i = 3 ∧ 0 ≤ x ∧ x ≤ 6)) : VS B (up S 0 i x) := by
  obtain ⟨h1, h2, h3, h4, h5, h6, h7, h8, h9, h10, h11, h12, h13⟩ := hS
  have e0 : up S 0 i x 0 0 = S 0 0 := by simp only [up_rd]; rw [if_neg (by omega)]
  refine ⟨by rw [e0]; exact h1, ?_, ?_, ?_, ?_, by simpa [up_rd] using h6, by simpa [up_rd] using h7, by simpa [up_rd] using h8, by simpa [up_rd] using h9, by simpa [up_rd] using h10, by simpa [up_rd] using h11, by simpa [up_rd] using h12, ?_⟩
  · simp only [up_rd, true_and]; split <;> omega
  · simp only [up_rd, true_and]; split <;> omega
  · simp only [up_rd, true_and]; split <;> omega
  · rw [e0]; simpa [up_rd] using h5
  · intro p hp
    have := h13 p hp
    have e : ∀ k, up S 0 i x (8 + p) k = S (8 + p) k := fun k => by simp only [up_rd]; rw [if_neg (by omega)]
    unfold VP at this ⊢
    rw [e0]
    simp only [e]
    exact this
/-! towns -/
def a_towns (T : Ful) (n : Int) : Int := if 2 ≤ n ∧ n ≤ 6 then T 0 0 0 else -2
def n_towns (T : Ful) (n : Int) : Ful := if 2 ≤ n ∧ n ≤ 6 then setV T (newS (T 0) n) else T
theorem c_towns (hI : IC T σ) (n : Int) : CO σ (X L 88 0 [some (xR 0), some (xI n), none] [] σ) (a_towns T n) (n_towns T n) := by
  unfold a_towns n_towns
  by_cases c : 2 ≤ n ∧ n ≤ 6
  · rw [if_pos c, if_pos c]
    obtain ⟨τ, e, h1, h2⟩ := x_beginAnew (L := L) iV1 hI.1 n none
    refine ⟨τ, fun Q => ?_, IC_V hI h1 h2, fun o ho => h2 o (by omega)⟩
    simp only [e_88_0, e_88_13, brI, not_true_eq_false, true_implies, false_implies, implies_true, and_true, cTag, cTgt, cLen, true_and, Int.toNat_natCast, retI_I, retR_R, retV_N, retL_L, ne_eq, Int.reduceEq, not_false_eq_true, x_isWithin, bI_0, c, e, hI.1.1 0 (by omega), not_true_eq_false, if_true, and_self]
  · rw [if_neg c, if_neg c]
    refine CO_n hI (fun Q => ?_)
    simp only [e_88_0, brI, not_true_eq_false, true_implies, false_implies, implies_true, and_true, cTag, cTgt, cLen, true_and, Int.toNat_natCast, retI_I, retR_R, retV_N, retL_L, ne_eq, Int.reduceEq, not_false_eq_true, x_isWithin, bI_0, c, not_true_eq_false, if_false]
theorem v_towns (hV : IV B T) (hB : 0 ≤ B) (n : Int) : IV B (n_towns T n) := by
  unfold n_towns
  split
  · next c => exact IV_V hV (VS_new hV.1 hB c)
  · exact hV
/-! roads -/
abbrev two (T : Ful) (t u : Int) : Prop := (0 ≤ t ∧ t < T 0 0 0) ∧ (0 ≤ u ∧ u < T 0 0 0) ∧ t ≠ u
def layR (S : Mem) (a b : Nat) (m r : Int) : Mem := fun k j => if k = 1 ∧ (j = 6 * a + b ∨ j = 6 * b + a) then m else if k = 2 ∧ (j = 6 * a + b ∨ j = 6 * b + a) then r else if k = 3 ∧ (j / 3 = 6 * a + b ∨ j / 3 = 6 * b + a) then 0 else S k j
def layC (σ : Mem) (v q : Nat) (m r : Int) : Mem := fun o j => if o = v + 1 ∧ j = q then m else if o = v + 2 ∧ j = q then r else if o = v + 3 ∧ j / 3 = q then 0 else σ o j
theorem x_layRoad (hv : IsV v) {q : Nat} (hq : q < 15) (m r : Int) (d : Option PV) (Q : PQ) : X L 62 0 [some (xR v), some (xI (q : Int)), some (xI m), some (xI r), d] [] σ Q = Q none (layC σ v q m r) := by
  have lp3 : ∀ (ρ : Mem) (Q : PQ), X L 62 21 [some (xR v), some (xI (q : Int)), some (xI m), some (xI r), some (xI 0)] [] ρ Q = Q none (up (up (up ρ (v + 3) (3 * q) 0) (v + 3) (3 * q + 1) 0) (v + 3) (3 * q + 2) 0) := by
    intro ρ Q
    have st : ∀ (i : Nat) (ρ : Mem), i < 3 → X L 62 21 [some (xR v), some (xI (q : Int)), some (xI m), some (xI r), some (xI (i : Int))] [] ρ Q = X L 62 21 [some (xR v), some (xI (q : Int)), some (xI m), some (xI r), some (xI ((i + 1 : Nat) : Int))] [] (up ρ (v + 3) (3 * q + i) 0) Q := by
      intro i ρ hi
      rw [e_62_21]
      simp only [brI, not_true_eq_false, true_implies, false_implies, implies_true, and_true, cTag, cTgt, cLen, true_and, Int.toNat_natCast, retI_I, retR_R, retV_N, retL_L, ne_eq, Int.reduceEq, not_false_eq_true, gv_t hv, gv_6 hv, x_put L (v + 3) _ _ _ _ (gt_3 hv), pA, gl_3 hv]
      simp (disch := omega) only [le_t, le_f, lt_t, lt_f, eq_t, eq_f, w32_id, inb, if_true, if_false, not_true_eq_false, not_false_eq_true, and_true, true_and, and_false, false_and, or_true, true_or, or_false, false_or, Int.add_zero, Int.zero_add, and_self, or_self, Int.toNat_add, Int.toNat_mul, Int.toNat_natCast, Int.reduceToNat]
      rfl
    have s0 := st 0 ρ (by omega)
    have s1 := st 1 (up ρ (v + 3) (3 * q + 0) 0) (by omega)
    have s2 := st 2 (up (up ρ (v + 3) (3 * q + 0) 0) (v + 3) (3 * q + 1) 0) (by omega)
    refine Eq.trans s0 (Eq.trans s1 (Eq.trans s2 ?_))
    rw [e_62_21, e_62_47]
    simp [brI]
  rw [e_62_0]
  simp only [brI, not_true_eq_false, true_implies, false_implies, implies_true, and_true, cTag, cTgt, cLen, true_and, Int.toNat_natCast, retI_I, retR_R, retV_N, retL_L, ne_eq, Int.reduceEq, not_false_eq_true, gv_t hv, gv_4 hv, gv_5 hv, x_put L (v + 1) _ _ _ _ (gt_1 hv), x_put L (v + 2) _ _ _ _ (gt_2 hv), lp3, pA, gl_1 hv, gl_2 hv]
  simp (disch := omega) only [le_t, le_f, lt_t, lt_f, eq_t, eq_f, w32_id, inb, if_true, if_false, not_true_eq_false, not_false_eq_true, and_true, true_and, and_false, false_and, or_true, true_or, or_false, false_or, Int.add_zero, Int.zero_add, and_self, or_self]
  congr 1
  funext o j
  simp only [up_rd, layC]
  by_cases o3 : o = v + 3
  · subst o3
    simp (disch := omega) only [le_t, le_f, lt_t, lt_f, eq_t, eq_f, w32_id, inb, if_true, if_false, not_true_eq_false, not_false_eq_true, and_true, true_and, and_false, false_and, or_true, true_or, or_false, false_or, Int.add_zero, Int.zero_add, and_self, or_self, nq_f]
  · simp (disch := omega) only [le_t, le_f, lt_t, lt_f, eq_t, eq_f, w32_id, inb, if_true, if_false, not_true_eq_false, not_false_eq_true, and_true, true_and, and_false, false_and, or_true, true_or, or_false, false_or, Int.add_zero, Int.zero_add, and_self, or_self, nq_f]
theorem RC_lay (hR : RC v S σ) {a b : Nat} (ha : a < 6) (hb : b < 6) (h : a ≠ b) (m r : Int) : RC v (layR S a b m r) (layC σ v (rnn a b) m r) := by
  obtain ⟨h1, h2, h3, h4, h5, h6, h7, h8, h9, h10, h11⟩ := hR
  have key : ∀ c d, c < d → d < 6 → (rn c d = rnn a b ↔ (6 * c + d = 6 * a + b ∨ 6 * c + d = 6 * b + a)) := by
    intro c d hc hd
    rw [rn_e ha hb h hc hd]
    omega
  refine ⟨?_, ?_, ?_, ?_, ?_, ?_, ?_, ?_, ?_, ?_, ?_⟩
  · intro j hj; simp (disch := omega) only [layC, layR, nq_f, le_t, le_f, lt_t, lt_f, eq_t, eq_f, w32_id, inb, if_true, if_false, not_true_eq_false, not_false_eq_true, and_true, true_and, and_false, false_and, or_true, true_or, or_false, false_or, Int.add_zero, Int.zero_add, and_self, or_self]; exact h1 j hj
  · intro c d hc hd
    simp (disch := omega) only [layC, layR, nq_f, le_t, le_f, lt_t, lt_f, eq_t, eq_f, w32_id, inb, if_true, if_false, not_true_eq_false, not_false_eq_true, and_true, true_and, and_false, false_and, or_true, true_or, or_false, false_or, Int.add_zero, Int.zero_add, and_self, or_self, key c d hc hd]
    rw [h2 c d hc hd]
  · intro c d hc hd
    simp (disch := omega) only [layC, layR, nq_f, le_t, le_f, lt_t, lt_f, eq_t, eq_f, w32_id, inb, if_true, if_false, not_true_eq_false, not_false_eq_true, and_true, true_and, and_false, false_and, or_true, true_or, or_false, false_or, Int.add_zero, Int.zero_add, and_self, or_self, key c d hc hd]
    rw [h3 c d hc hd]
  · intro c d f hc hd hf
    simp (disch := omega) only [layC, layR, nq_f, le_t, le_f, lt_t, lt_f, eq_t, eq_f, w32_id, inb, if_true, if_false, not_true_eq_false, not_false_eq_true, and_true, true_and, and_false, false_and, or_true, true_or, or_false, false_or, Int.add_zero, Int.zero_add, and_self, or_self]
    rw [h4 c d f hc hd hf, show (3 * rn c d + f) / 3 = rn c d by omega, show (3 * (6 * c + d) + f) / 3 = 6 * c + d by omega]
    simp only [key c d hc hd]
  · intro j hj; simp (disch := omega) only [layC, layR, nq_f, le_t, le_f, lt_t, lt_f, eq_t, eq_f, w32_id, inb, if_true, if_false, not_true_eq_false, not_false_eq_true, and_true, true_and, and_false, false_and, or_true, true_or, or_false, false_or, Int.add_zero, Int.zero_add, and_self, or_self]; exact h5 j hj
  · intro j hj; simp (disch := omega) only [layC, layR, nq_f, le_t, le_f, lt_t, lt_f, eq_t, eq_f, w32_id, inb, if_true, if_false, not_true_eq_false, not_false_eq_true, and_true, true_and, and_false, false_and, or_true, true_or, or_false, false_or, Int.add_zero, Int.zero_add, and_self, or_self]; exact h6 j hj
  · intro j hj; simp (disch := omega) only [layC, layR, nq_f, le_t, le_f, lt_t, lt_f, eq_t, eq_f, w32_id, inb, if_true, if_false, not_true_eq_false, not_false_eq_true, and_true, true_and, and_false, false_and, or_true, true_or, or_false, false_or, Int.add_zero, Int.zero_add, and_self, or_self]; exact h7 j hj
  · intro j hj; simp (disch := omega) only [layC, layR, nq_f, le_t, le_f, lt_t, lt_f, eq_t, eq_f, w32_id, inb, if_true, if_false, not_true_eq_false, not_false_eq_true, and_true, true_and, and_false, false_and, or_true, true_or, or_false, false_or, Int.add_zero, Int.zero_add, and_self, or_self]; exact h8 j hj
  · intro j hj; simp (disch := omega) only [layC, layR, nq_f, le_t, le_f, lt_t, lt_f, eq_t, eq_f, w32_id, inb, if_true, if_false, not_true_eq_false, not_false_eq_true, and_true, true_and, and_false, false_and, or_true, true_or, or_false, false_or, Int.add_zero, Int.zero_add, and_self, or_self]; exact h9 j hj
  · intro p f hp hf; simp (disch := omega) only [layC, layR, nq_f, le_t, le_f, lt_t, lt_f, eq_t, eq_f, w32_id, inb, if_true, if_false, not_true_eq_false, not_false_eq_true, and_true, true_and, and_false, false_and, or_true, true_or, or_false, false_or, Int.add_zero, Int.zero_add, and_self, or_self]; exact h10 p f hp hf
  · simp (disch := omega) only [layC, nq_f, le_t, le_f, lt_t, lt_f, eq_t, eq_f, w32_id, inb, if_true, if_false, not_true_eq_false, not_false_eq_true, and_true, true_and, and_false, false_and, or_true, true_or, or_false, false_or, Int.add_zero, Int.zero_add, and_self, or_self]
theorem VS_lay (hS : VS B S) (hB : 0 ≤ B) {a b : Nat} (ha : (a : Int) < S 0 0) (hb : (b : Int) < S 0 0) (h : a ≠ b) {m r : Int} (hm : 0 ≤ m ∧ m ≤ 9) (hr : 0 ≤ r ∧ r ≤ 2) : VS B (layR S a b m r) := by
  obtain ⟨h1, h2, h3, h4, h5, h6, h7, h8, h9, h10, h11, h12, h13⟩ := hS
  have e0 : ∀ j, layR S a b m r 0 j = S 0 j := fun j => by simp [layR]
  refine ⟨by rw [e0]; exact h1, by rw [e0]; exact h2, by rw [e0]; exact h3, by rw [e0]; exact h4, ?_, ?_, ?_, ?_, ?_, ?_, ?_, ?_, ?_⟩
  · intro c d hc hd
    have q := h5 c d hc hd
    rw [e0]
    simp (disch := omega) only [layR, nq_f, true_and, false_and, if_false]
    omega
  · intro c d hc hd
    have q := h6 c d hc hd
    simp (disch := omega) only [layR, nq_f, true_and, false_and, if_false]
    omega
  · intro c d f hc hd hf
    have q := h7 c d f hc hd hf
    simp (disch := omega) only [layR, nq_f, true_and, false_and, if_false]
    omega
  · simpa [layR] using h8
  · simpa [layR] using h9
  · simpa [layR] using h10
  · simpa [layR] using h11
  · simpa [layR] using h12
  · intro p hp
    have := h13 p hp
    have e : ∀ k, layR S a b m r (8 + p) k = S (8 + p) k := fun k => by simp (disch := omega) only [layR, nq_f, le_t, le_f, lt_t, lt_f, eq_t, eq_f, w32_id, inb, if_true, if_false, not_true_eq_false, not_false_eq_true, and_true, true_and, and_false, false_and, or_true, true_or, or_false, false_or, Int.add_zero, Int.zero_add, and_self, or_self]
    unfold VP at this ⊢
    rw [e0]
    simp only [e]
    exact this
abbrev gRoad (T : Ful) (t u m r : Int) : Prop := two T t u ∧ (0 ≤ m ∧ m ≤ 9) ∧ (0 ≤ r ∧ r ≤ 2)
def a_road (T : Ful) (t u m r : Int) : Int := if gRoad T t u m r then mil (T 0) t u else if two T t u then -2 else -1
def n_road (T : Ful) (t u m r : Int) : Ful := if gRoad T t u m r then setV T (layR (T 0) t.toNat u.toNat m r) else T
theorem c_road (hI : IC T σ) (hV : IV B T) (t u m r : Int) : CO σ (X L 89 0 [some (xR 0), some (xI t), some (xI u), some (xI m), some (xI r), none] [] σ) (a_road T t u m r) (n_road T t u m r) := by
  have e00 := hI.1.1 0 (by omega)
  have hn := hV.1.1
  unfold a_road n_road
  by_cases c : two T t u
  · by_cases c2 : (0 ≤ m ∧ m ≤ 9) ∧ (0 ≤ r ∧ r ≤ 2)
    · rw [if_pos ⟨c, c2⟩, if_pos ⟨c, c2⟩]
      obtain ⟨a, rfl⟩ : ∃ a : Nat, t = (a : Int) := ⟨t.toNat, by omega⟩
      obtain ⟨b, rfl⟩ : ∃ b : Nat, u = (b : Int) := ⟨u.toNat, by omega⟩
      have hab : a ≠ b := by have := c.2.2; omega
      have hr := rnI_n (show a < 6 by omega) (show b < 6 by omega) hab
      have hl := rnn_lt (show a < 6 by omega) (show b < 6 by omega) hab
      have hmi := rc_mil (L := L) iV1 hI.1 hV.1 a b
      rw [hr] at hmi
      refine ⟨layC σ 1 (rnn a b) m r, fun Q => ?_, IC_V hI (RC_lay hI.1 (by omega) (by omega) hab m r) ?_, ?_⟩
      · simp only [e_89_0, e_89_14, e_89_37, brI, not_true_eq_false, true_implies, false_implies, implies_true, and_true, cTag, cTgt, cLen, true_and, Int.toNat_natCast, retI_I, retR_R, retV_N, retL_L, ne_eq, Int.reduceEq, not_false_eq_true, x_two iV1, x_isWithin, bI_0, e00, c, c2, x_roadNumber, hr, x_milesOf iV1, hmi, x_layRoad iV1 hl, not_true_eq_false, if_true, if_false, and_self]
      · intro o ho; funext j; simp (disch := omega) only [layC, nq_f, le_t, le_f, lt_t, lt_f, eq_t, eq_f, w32_id, inb, if_true, if_false, not_true_eq_false, not_false_eq_true, and_true, true_and, and_false, false_and, or_true, true_or, or_false, false_or, Int.add_zero, Int.zero_add, and_self, or_self]
      · intro o ho; funext j; simp (disch := omega) only [layC, nq_f, le_t, le_f, lt_t, lt_f, eq_t, eq_f, w32_id, inb, if_true, if_false, not_true_eq_false, not_false_eq_true, and_true, true_and, and_false, false_and, or_true, true_or, or_false, false_or, Int.add_zero, Int.zero_add, and_self, or_self]
    · rw [if_neg (fun q => c2 q.2), if_pos c, if_neg (fun q => c2 q.2)]
      refine CO_n hI (fun Q => ?_)
      simp only [e_89_0, e_89_14, e_89_34, brI, not_true_eq_false, true_implies, false_implies, implies_true, and_true, cTag, cTgt, cLen, true_and, Int.toNat_natCast, retI_I, retR_R, retV_N, retL_L, ne_eq, Int.reduceEq, not_false_eq_true, x_two iV1, x_isWithin, bI_0, e00, c, not_true_eq_false, if_true]
      by_cases c3 : 0 ≤ m ∧ m ≤ 9
      · have c4 : ¬ (0 ≤ r ∧ r ≤ 2) := fun q => c2 ⟨c3, q⟩
        simp only [c3, c4, not_true_eq_false, not_false_eq_true, if_false, if_true, and_self]
      · simp only [c3, not_false_eq_true, if_true]
  · rw [if_neg (fun q => c q.1), if_neg c, if_neg (fun q => c q.1)]
    refine CO_n hI (fun Q => ?_)
    simp only [e_89_0, brI, not_true_eq_false, true_implies, false_implies, implies_true, and_true, cTag, cTgt, cLen, true_and, Int.toNat_natCast, retI_I, retR_R, retV_N, retL_L, ne_eq, Int.reduceEq, not_false_eq_true, x_two iV1, bI_0, e00, c, not_true_eq_false, if_false]
theorem v_road (hV : IV B T) (hB : 0 ≤ B) (t u m r : Int) : IV B (n_road T t u m r) := by
  unfold n_road
  split
  · next c => exact IV_V hV (VS_lay hV.1 hB (by omega) (by omega) (by have := c.1.2.2; omega) c.2.1 c.2.2)
  · exact hV
/-! shops -/
abbrev isT (T : Ful) (t : Int) : Prop := 0 ≤ t ∧ t < T 0 0 0
abbrev gShop (T : Ful) (t s p : Int) : Prop := isT T t ∧ (0 ≤ s ∧ s ≤ 2) ∧ (0 ≤ p ∧ p ≤ 20)
def a_shop (T : Ful) (t s p : Int) : Int := if gShop T t s p then g1 (T 0) 4 6 t else if isT T t then -2 else -1
def n_shop (T : Ful) (t s p : Int) : Ful := if gShop T t s p then setV T (up (up (T 0) 4 t.toNat s) 5 t.toNat p) else T
theorem c_shop (hI : IC T σ) (hV : IV B T) (t s p : Int) : CO σ (X L 90 0 [some (xR 0), some (xI t), some (xI s), some (xI p), none] [] σ) (a_shop T t s p) (n_shop T t s p) := by
  have e00 := hI.1.1 0 (by omega)
  have hn := hV.1.1
  unfold a_shop n_shop
  by_cases c : isT T t
  · by_cases c2 : (0 ≤ s ∧ s ≤ 2) ∧ (0 ≤ p ∧ p ≤ 20)
    · rw [if_pos ⟨c, c2⟩, if_pos ⟨c, c2⟩]
      refine ⟨up (up σ 5 t.toNat s) 6 t.toNat p, fun Q => ?_, IC_V hI (RC_up5 (RC_up4 hI.1 _ _) _ _) (Fr.tr (Fr_up (by omega)) (Fr_up (by omega))), ?_⟩
      · simp only [e_90_0, e_90_13, e_90_35, brI, not_true_eq_false, true_implies, false_implies, implies_true, and_true, cTag, cTgt, cLen, true_and, Int.toNat_natCast, retI_I, retR_R, retV_N, retL_L, ne_eq, Int.reduceEq, not_false_eq_true, x_isTown iV1, x_isWithin, bI_0, e00, c, c2, x_sideAt iV1 hI.1, gv_7 iV1, gv_8 iV1, x_put L 5 _ _ _ _ (gt_4 iV1), x_put L 6 _ _ _ _ (gt_5 iV1), pA, gl_4 iV1, gl_5 iV1, not_true_eq_false, if_true, if_false, and_self]
        simp (disch := omega) only [le_t, le_f, lt_t, lt_f, eq_t, eq_f, w32_id, inb, if_true, if_false, not_true_eq_false, not_false_eq_true, and_true, true_and, and_false, false_and, or_true, true_or, or_false, false_or, Int.add_zero, Int.zero_add, and_self, or_self]
      · intro o ho; funext j; simp (disch := omega) only [up_rd, nq_f, le_t, le_f, lt_t, lt_f, eq_t, eq_f, w32_id, inb, if_true, if_false, not_true_eq_false, not_false_eq_true, and_true, true_and, and_false, false_and, or_true, true_or, or_false, false_or, Int.add_zero, Int.zero_add, and_self, or_self]
    · rw [if_neg (fun q => c2 q.2), if_pos c, if_neg (fun q => c2 q.2)]
      refine CO_n hI (fun Q => ?_)
      simp only [e_90_0, e_90_13, e_90_32, brI, not_true_eq_false, true_implies, false_implies, implies_true, and_true, cTag, cTgt, cLen, true_and, Int.toNat_natCast, retI_I, retR_R, retV_N, retL_L, ne_eq, Int.reduceEq, not_false_eq_true, x_isTown iV1, x_isWithin, bI_0, e00, c, not_true_eq_false, if_true, and_self]
      by_cases c3 : 0 ≤ s ∧ s ≤ 2
      · have c4 : ¬ (0 ≤ p ∧ p ≤ 20) := fun q => c2 ⟨c3, q⟩
        simp only [c3, c4, not_true_eq_false, not_false_eq_true, if_false, if_true, and_self]
      · simp only [c3, not_false_eq_true, if_true]
  · rw [if_neg (fun q => c q.1), if_neg c, if_neg (fun q => c q.1)]
    refine CO_n hI (fun Q => ?_)
    simp only [e_90_0, brI, not_true_eq_false, true_implies, false_implies, implies_true, and_true, cTag, cTgt, cLen, true_and, Int.toNat_natCast, retI_I, retR_R, retV_N, retL_L, ne_eq, Int.reduceEq, not_false_eq_true, x_isTown iV1, bI_0, e00, c, not_true_eq_false, if_false]
theorem v_shop (hV : IV B T) (t s p : Int) : IV B (n_shop T t s p) := by
  unfold n_shop
  split
  · next c => exact IV_V hV (VS_up5 (VS_up4 hV.1 _ _ c.2.1) _ _ c.2.2)
  · exact hV
abbrev gStk (T : Ful) (t z x : Int) : Prop := (isT T t ∧ (0 ≤ z ∧ z < 5)) ∧ (0 ≤ x ∧ x ≤ 9)
def a_stock (T : Ful) (t z x : Int) : Int := if gStk T t z x then stk (T 0) t z else if isT T t ∧ (0 ≤ z ∧ z < 5) then -2 else -1
def n_stock (T : Ful) (t z x : Int) : Ful := if gStk T t z x then setV T (up (T 0) 6 (5 * t.toNat + z.toNat) x) else T
theorem c_stock (hI : IC T σ) (hV : IV B T) (t z x : Int) : CO σ (X L 91 0 [some (xR 0), some (xI t), some (xI z), some (xI x), none] [] σ) (a_stock T t z x) (n_stock T t z x) := by
  have e00 := hI.1.1 0 (by omega)
  have hn := hV.1.1
  unfold a_stock n_stock
  by_cases c : isT T t ∧ (0 ≤ z ∧ z < 5)
  · have ht : 0 ≤ t ∧ t < 6 := by omega
    have c1 := c.1
    have c2 := c.2
    by_cases c3 : 0 ≤ x ∧ x ≤ 9
    · rw [if_pos ⟨c, c3⟩, if_pos ⟨c, c3⟩]
      refine ⟨up σ 7 (5 * t.toNat + z.toNat) x, fun Q => ?_, IC_V hI (RC_up6 hI.1 _ _) (Fr_up (by omega)), ?_⟩
      · simp only [e_91_0, e_91_20, e_91_33, brI, not_true_eq_false, true_implies, false_implies, implies_true, and_true, cTag, cTgt, cLen, true_and, Int.toNat_natCast, retI_I, retR_R, retV_N, retL_L, ne_eq, Int.reduceEq, not_false_eq_true, x_isTown iV1, x_isSize, x_isWithin, bI_0, e00, c1, c2, c3, x_stockAt iV1 hI.1 t z ht, x_putStock iV1 t z x ht c2, not_true_eq_false, if_true, if_false, and_self]
      · intro o ho; funext j; simp (disch := omega) only [up_rd, nq_f, le_t, le_f, lt_t, lt_f, eq_t, eq_f, w32_id, inb, if_true, if_false, not_true_eq_false, not_false_eq_true, and_true, true_and, and_false, false_and, or_true, true_or, or_false, false_or, Int.add_zero, Int.zero_add, and_self, or_self]
    · rw [if_neg (fun q => c3 q.2), if_pos c, if_neg (fun q => c3 q.2)]
      refine CO_n hI (fun Q => ?_)
      simp only [e_91_0, e_91_20, brI, not_true_eq_false, true_implies, false_implies, implies_true, and_true, cTag, cTgt, cLen, true_and, Int.toNat_natCast, retI_I, retR_R, retV_N, retL_L, ne_eq, Int.reduceEq, not_false_eq_true, x_isTown iV1, x_isSize, x_isWithin, bI_0, e00, c1, c2, c3, not_true_eq_false, if_true, if_false, and_self]
  · rw [if_neg (fun q => c q.1), if_neg c, if_neg (fun q => c q.1)]
    refine CO_n hI (fun Q => ?_)
    simp only [e_91_0, e_91_18, brI, not_true_eq_false, true_implies, false_implies, implies_true, and_true, cTag, cTgt, cLen, true_and, Int.toNat_natCast, retI_I, retR_R, retV_N, retL_L, ne_eq, Int.reduceEq, not_false_eq_true, x_isTown iV1, x_isSize, bI_0, e00]
    by_cases c1 : isT T t
    · have c4 : ¬ (0 ≤ z ∧ z < 5) := fun q => c ⟨c1, q⟩
      simp only [c1, c4, not_true_eq_false, not_false_eq_true, if_false, if_true, and_self]
    · simp only [c1, not_false_eq_true, if_true]
theorem v_stock (hV : IV B T) (t z x : Int) : IV B (n_stock T t z x) := by
  unfold n_stock
  split
  · next c => exact IV_V hV (VS_up6 hV.1 _ _ c.2)
  · exact hV
end Simple
