/-! judge, done, behind, givesOut: the Model -/
section MJudge
variable {B : Int} {S σ τ : Mem} {L : Nat} {T : Ful}
theorem cl_170_15 (b : Int) (ρ : Mem) : ∃ τ, (∀ Q : PQ, X L 170 15 [some (xR 75), some (xI b), some (xI 0)] [] ρ Q = X L 170 15 [some (xR 75), some (xI b), some (xI 4)] [] τ Q) ∧ (∀ j, j < 4 → τ 84 (j) = ρ 91 (j)) ∧ (∀ j, j < 4 → τ 85 (j) = ρ 92 (j)) ∧ (∀ j, j < 4 → τ 86 (j) = ρ 93 (j)) ∧ (∀ j, j < 4 → τ 88 (j) = ρ 95 (j)) ∧ (∀ j, j < 2 * 4 → τ 87 j = ρ 94 j) ∧ (∀ o, o ≠ 84 → o ≠ 85 → o ≠ 86 → o ≠ 87 → o ≠ 88 → τ o = ρ o) := by
  refine lpE (n := 4) (fun i (τ : Mem) Q => X L 170 15 [some (xR 75), some (xI b), some (xI (i : Int))] [] τ Q) (fun i τ => (∀ j, j < i → τ 84 (j) = ρ 91 (j)) ∧ (∀ j, j < i → τ 85 (j) = ρ 92 (j)) ∧ (∀ j, j < i → τ 86 (j) = ρ 93 (j)) ∧ (∀ j, j < i → τ 88 (j) = ρ 95 (j)) ∧ (∀ j, j < 2 * (i) → τ 87 j = ρ 94 j) ∧ (∀ o, o ≠ 84 → o ≠ 85 → o ≠ 86 → o ≠ 87 → o ≠ 88 → τ o = ρ o)) ?_ ?_
  · intro i τ hi ⟨h0, h1, h2, h3, h4, hf⟩
    refine ⟨(up (up (up (up (up (up τ 84 (i) (τ 91 (i))) 85 (i) (τ 92 (i))) 86 (i) (τ 93 (i))) 88 (i) (τ 95 (i))) 87 (2 * i) (τ 94 (2 * i))) 87 (2 * i + 1) (τ 94 (2 * i + 1))), fun Q => ?_, ?_, ?_, ?_, ?_, ?_, ?_⟩
    · show X L 170 15 [some (xR 75), some (xI b), some (xI (i : Int))] [] τ Q = X L 170 15 [some (xR 75), some (xI b), some (xI ((i + 1 : Nat) : Int))] [] (up (up (up (up (up (up τ 84 (i) (τ 91 (i))) 85 (i) (τ 92 (i))) 86 (i) (τ 93 (i))) 88 (i) (τ 95 (i))) 87 (2 * i) (τ 94 (2 * i))) 87 (2 * i + 1) (τ 94 (2 * i + 1))) Q
      rw [e_170_15]
      simp only [brI, not_true_eq_false, true_implies, false_implies, implies_true, and_true, cTag, cTgt, cLen, true_and, Int.toNat_natCast, retI_I, retR_R, retV_N, retL_L, ne_eq, Int.reduceEq, not_false_eq_true, up_rd, Nat.reduceEqDiff, false_and, if_false]
      simp (disch := omega) only [le_t, le_f, lt_t, lt_f, eq_t, eq_f, w32_id, inb, if_true, if_false, not_true_eq_false, not_false_eq_true, and_true, true_and, and_false, false_and, or_true, true_or, or_false, false_or, Int.add_zero, Int.zero_add, and_self, or_self, Int.toNat_add, Int.toNat_mul, Int.toNat_natCast, Int.reduceToNat]
      rfl
    · intro j hj
      have z := h0 j
      have e := hf 91 (by decide) (by decide) (by decide) (by decide) (by decide)
      rw [hf 91 (by decide) (by decide) (by decide) (by decide) (by decide), hf 92 (by decide) (by decide) (by decide) (by decide) (by decide), hf 93 (by decide) (by decide) (by decide) (by decide) (by decide), hf 95 (by decide) (by decide) (by decide) (by decide) (by decide), hf 94 (by decide) (by decide) (by decide) (by decide) (by decide)]
      simp only [up_rd, Nat.reduceEqDiff, false_and, if_false, true_and]
      by_cases c : j = i
      · subst c
        simp (disch := omega) only [nq_f, true_and, false_and, and_false, and_true, if_true, if_false, and_self, not_true_eq_false, not_false_eq_true]
      · have z := z (by omega)
        simp (disch := omega) only [nq_f, true_and, false_and, and_false, and_true, if_true, if_false, and_self, not_true_eq_false, not_false_eq_true]
        exact z
    · intro j hj
      have z := h1 j
      have e := hf 92 (by decide) (by decide) (by decide) (by decide) (by decide)
      rw [hf 91 (by decide) (by decide) (by decide) (by decide) (by decide), hf 92 (by decide) (by decide) (by decide) (by decide) (by decide), hf 93 (by decide) (by decide) (by decide) (by decide) (by decide), hf 95 (by decide) (by decide) (by decide) (by decide) (by decide), hf 94 (by decide) (by decide) (by decide) (by decide) (by decide)]
      simp only [up_rd, Nat.reduceEqDiff, false_and, if_false, true_and]
      by_cases c : j = i
      · subst c
        simp (disch := omega) only [nq_f, true_and, false_and, and_false, and_true, if_true, if_false, and_self, not_true_eq_false, not_false_eq_true]
      · have z := z (by omega)
        simp (disch := omega) only [nq_f, true_and, false_and, and_false, and_true, if_true, if_false, and_self, not_true_eq_false, not_false_eq_true]
        exact z
    · intro j hj
      have z := h2 j
      have e := hf 93 (by decide) (by decide) (by decide) (by decide) (by decide)
      rw [hf 91 (by decide) (by decide) (by decide) (by decide) (by decide), hf 92 (by decide) (by decide) (by decide) (by decide) (by decide), hf 93 (by decide) (by decide) (by decide) (by decide) (by decide), hf 95 (by decide) (by decide) (by decide) (by decide) (by decide), hf 94 (by decide) (by decide) (by decide) (by decide) (by decide)]
      simp only [up_rd, Nat.reduceEqDiff, false_and, if_false, true_and]
      by_cases c : j = i
      · subst c
        simp (disch := omega) only [nq_f, true_and, false_and, and_false, and_true, if_true, if_false, and_self, not_true_eq_false, not_false_eq_true]
      · have z := z (by omega)
        simp (disch := omega) only [nq_f, true_and, false_and, and_false, and_true, if_true, if_false, and_self, not_true_eq_false, not_false_eq_true]
        exact z
    · intro j hj
      have z := h3 j
      have e := hf 95 (by decide) (by decide) (by decide) (by decide) (by decide)
      rw [hf 91 (by decide) (by decide) (by decide) (by decide) (by decide), hf 92 (by decide) (by decide) (by decide) (by decide) (by decide), hf 93 (by decide) (by decide) (by decide) (by decide) (by decide), hf 95 (by decide) (by decide) (by decide) (by decide) (by decide), hf 94 (by decide) (by decide) (by decide) (by decide) (by decide)]
      simp only [up_rd, Nat.reduceEqDiff, false_and, if_false, true_and]
      by_cases c : j = i
      · subst c
        simp (disch := omega) only [nq_f, true_and, false_and, and_false, and_true, if_true, if_false, and_self, not_true_eq_false, not_false_eq_true]
      · have z := z (by omega)
        simp (disch := omega) only [nq_f, true_and, false_and, and_false, and_true, if_true, if_false, and_self, not_true_eq_false, not_false_eq_true]
        exact z
    · intro j hj
      have z := h4 j
      rw [hf 91 (by decide) (by decide) (by decide) (by decide) (by decide), hf 92 (by decide) (by decide) (by decide) (by decide) (by decide), hf 93 (by decide) (by decide) (by decide) (by decide) (by decide), hf 95 (by decide) (by decide) (by decide) (by decide) (by decide), hf 94 (by decide) (by decide) (by decide) (by decide) (by decide)]
      simp only [up_rd, Nat.reduceEqDiff, false_and, if_false, true_and]
      by_cases c : j = 2 * i
      · subst c
        simp (disch := omega) only [nq_f, true_and, false_and, and_false, and_true, if_true, if_false, and_self, not_true_eq_false, not_false_eq_true]
      · by_cases c2 : j = 2 * i + 1
        · subst c2
          simp (disch := omega) only [nq_f, true_and, false_and, and_false, and_true, if_true, if_false, and_self, not_true_eq_false, not_false_eq_true]
        · have z := z (by omega)
          simp (disch := omega) only [nq_f, true_and, false_and, and_false, and_true, if_true, if_false, and_self, not_true_eq_false, not_false_eq_true]
          exact z
    · intro o g0 g1 g2 g3 g4
      funext j
      simp only [up_rd]
      rw [if_neg (by omega), if_neg (by omega), if_neg (by omega), if_neg (by omega), if_neg (by omega), if_neg (by omega), hf o g0 g1 g2 g3 g4]
  · exact ⟨fun j hj => by omega, fun j hj => by omega, fun j hj => by omega, fun j hj => by omega, fun j hj => by omega, fun o _ _ _ _ _ => rfl⟩
theorem cl_170_112 (b : Int) (ρ : Mem) : ∃ τ, (∀ Q : PQ, X L 170 112 [some (xR 75), some (xI b), some (xI 0)] [] ρ Q = X L 170 112 [some (xR 75), some (xI b), some (xI 30)] [] τ Q) ∧ (∀ j, j < 30 → τ 81 (j) = ρ 96 (j)) ∧ (∀ o, o ≠ 81 → τ o = ρ o) := by
  refine lpE (n := 30) (fun i (τ : Mem) Q => X L 170 112 [some (xR 75), some (xI b), some (xI (i : Int))] [] τ Q) (fun i τ => (∀ j, j < i → τ 81 (j) = ρ 96 (j)) ∧ (∀ o, o ≠ 81 → τ o = ρ o)) ?_ ?_
  · intro i τ hi ⟨h0, hf⟩
    refine ⟨(up τ 81 (i) (τ 96 (i))), fun Q => ?_, ?_, ?_⟩
    · show X L 170 112 [some (xR 75), some (xI b), some (xI (i : Int))] [] τ Q = X L 170 112 [some (xR 75), some (xI b), some (xI ((i + 1 : Nat) : Int))] [] (up τ 81 (i) (τ 96 (i))) Q
      rw [e_170_112]
      simp only [brI, not_true_eq_false, true_implies, false_implies, implies_true, and_true, cTag, cTgt, cLen, true_and, Int.toNat_natCast, retI_I, retR_R, retV_N, retL_L, ne_eq, Int.reduceEq, not_false_eq_true, up_rd, Nat.reduceEqDiff, false_and, if_false]
      simp (disch := omega) only [le_t, le_f, lt_t, lt_f, eq_t, eq_f, w32_id, inb, if_true, if_false, not_true_eq_false, not_false_eq_true, and_true, true_and, and_false, false_and, or_true, true_or, or_false, false_or, Int.add_zero, Int.zero_add, and_self, or_self, Int.toNat_add, Int.toNat_mul, Int.toNat_natCast, Int.reduceToNat]
      rfl
    · intro j hj
      have z := h0 j
      have e := hf 96 (by decide)
      rw [hf 96 (by decide)]
      simp only [up_rd, Nat.reduceEqDiff, false_and, if_false, true_and]
      by_cases c : j = i
      · subst c
        simp (disch := omega) only [nq_f, true_and, false_and, and_false, and_true, if_true, if_false, and_self, not_true_eq_false, not_false_eq_true]
      · have z := z (by omega)
        simp (disch := omega) only [nq_f, true_and, false_and, and_false, and_true, if_true, if_false, and_self, not_true_eq_false, not_false_eq_true]
        exact z
    · intro o g0
      funext j
      simp only [up_rd]
      rw [if_neg (by omega), hf o g0]
  · exact ⟨fun j hj => by omega, fun o _ => rfl⟩
theorem cl_170_138 (b : Int) (ρ : Mem) : ∃ τ, (∀ Q : PQ, X L 170 138 [some (xR 75), some (xI b), some (xI 0)] [] ρ Q = X L 170 138 [some (xR 75), some (xI b), some (xI 108)] [] τ Q) ∧ (∀ j, j < 108 → τ 78 (j) = ρ 97 (j)) ∧ (∀ o, o ≠ 78 → τ o = ρ o) := by
  refine lpE (n := 108) (fun i (τ : Mem) Q => X L 170 138 [some (xR 75), some (xI b), some (xI (i : Int))] [] τ Q) (fun i τ => (∀ j, j < i → τ 78 (j) = ρ 97 (j)) ∧ (∀ o, o ≠ 78 → τ o = ρ o)) ?_ ?_
  · intro i τ hi ⟨h0, hf⟩
    refine ⟨(up τ 78 (i) (τ 97 (i))), fun Q => ?_, ?_, ?_⟩
    · show X L 170 138 [some (xR 75), some (xI b), some (xI (i : Int))] [] τ Q = X L 170 138 [some (xR 75), some (xI b), some (xI ((i + 1 : Nat) : Int))] [] (up τ 78 (i) (τ 97 (i))) Q
      rw [e_170_138]
      simp only [brI, not_true_eq_false, true_implies, false_implies, implies_true, and_true, cTag, cTgt, cLen, true_and, Int.toNat_natCast, retI_I, retR_R, retV_N, retL_L, ne_eq, Int.reduceEq, not_false_eq_true, up_rd, Nat.reduceEqDiff, false_and, if_false]
      simp (disch := omega) only [le_t, le_f, lt_t, lt_f, eq_t, eq_f, w32_id, inb, if_true, if_false, not_true_eq_false, not_false_eq_true, and_true, true_and, and_false, false_and, or_true, true_or, or_false, false_or, Int.add_zero, Int.zero_add, and_self, or_self, Int.toNat_add, Int.toNat_mul, Int.toNat_natCast, Int.reduceToNat]
      rfl
    · intro j hj
      have z := h0 j
      have e := hf 97 (by decide)
      rw [hf 97 (by decide)]
      simp only [up_rd, Nat.reduceEqDiff, false_and, if_false, true_and]
      by_cases c : j = i
      · subst c
        simp (disch := omega) only [nq_f, true_and, false_and, and_false, and_true, if_true, if_false, and_self, not_true_eq_false, not_false_eq_true]
      · have z := z (by omega)
        simp (disch := omega) only [nq_f, true_and, false_and, and_false, and_true, if_true, if_false, and_self, not_true_eq_false, not_false_eq_true]
        exact z
    · intro o g0
      funext j
      simp only [up_rd]
      rw [if_neg (by omega), hf o g0]
  · exact ⟨fun j hj => by omega, fun o _ => rfl⟩
theorem m_op (hI : IM T σ) (hV : IV B T) (hf : a_fault T = -6) (Q : PQ) : X L 158 0 [some (xR 75), none, none] [] σ Q = Q (some (xI (cq (sg T) (2 * dH T)))) σ := by
  obtain ⟨hP, hp⟩ := pad_ok hV hf
  exact x_opens hP.2.1 (by rw [hI.2.2.1]; exact hp) hI.2.2.2 (fun j hj ho => by
    have := (hP.dk (i := j / 2) (by omega)).1
    rw [show 2 * (j / 2) + 1 = j by omega] at this
    exact this) none none Q
/-- the Model goes through the PAD's DAY -/
theorem m_play (hI : IM T σ) (hV : IV B T) (hB0 : 0 ≤ B) (hB : B ≤ 800000) (hf : a_fault T = -6) {g : Nat} (hg : g < 64) (l : Int) :
    ∃ τ, (∀ Q : PQ, X L 167 0 [some (xR 75), some (xI (g : Int)), some (xI l), none, none, none, none, none, none, none, none] [] σ Q = Q (some (xI (bad T g))) τ) ∧ FrG σ τ ∧
      (bad T g = -6 → RM (vN τ) (dS T g) ∧ τ 75 29 = (ou (dW T g) (dD T) (T 0) l (dH T)).1 ∧ τ 75 30 = (ou (dW T g) (dD T) (T 0) l (dH T)).2.1 ∧ τ 75 31 = (ou (dW T g) (dD T) (T 0) l (dH T)).2.2) ∧
      (¬ bad T g = -6 → τ 75 28 = fwy (dW T g) (dD T) (T 0) (dH T) 0) := by
  obtain ⟨hP, hp⟩ := pad_ok hV hf
  have := dH_30 hV
  exact x_goDay hP hg l hI.1 hV.1 hB0 (by omega) (by rw [hI.2.2.1]; exact hp) hI.2.2.2
theorem flt_s (T : Ful) : a_fault T = -6 ∨ 0 ≤ a_fault T := fl_or _ _
theorem bad_s (T : Ful) (g : Nat) : bad T g = -6 ∨ 0 ≤ bad T g := fbd_or _ _ _ _ _
theorem m_judge (hI : IM T σ) (hV : IV B T) (hB0 : 0 ≤ B) (hB : B ≤ 800000) (w : Int) : MO σ (X L 168 0 [some (xR 75), some (xI w), none] [] σ) (a_judge T w) T := by
  unfold a_judge
  by_cases cw : 0 ≤ w ∧ w ≤ 1
  · rw [if_pos cw]
    have hfs := flt_s T
    unfold a_txt
    by_cases c : a_fault T = -6
    · rw [if_pos c]
      by_cases c2 : cq (sg T) (2 * dH T) ≤ 0
      · rw [if_pos c2, if_pos rfl]
        obtain ⟨τ, e, hF, ha, hb⟩ := m_play (L := L) hI hV hB0 hB c (g := 0) (by omega) 1000000
        have hbs := bad_s T 0
        refine MO_q hI ⟨τ, fun Q => ?_, FrM_G hF⟩
        have e : ∀ Q : PQ, X L 167 0 [some (xR 75), some (xI 0), some (xI 1000000), none, none, none, none, none, none, none, none] [] σ Q = Q (some (xI (bad T 0))) τ := e
        simp only [e_168_0, e_168_12, e_168_22, e_168_32, brI, not_true_eq_false, true_implies, false_implies, implies_true, and_true, cTag, cTgt, cLen, true_and, Int.toNat_natCast, retI_I, retR_R, retV_N, retL_L, ne_eq, Int.reduceEq, not_false_eq_true, x_in, bI_0, cw, m_ff hI hV, m_op hI hV c, e, if_true, if_false, and_self]
        rw [if_pos (by omega), if_pos c2]
        simp only [e_168_48, e_168_52, e_168_56, brI, not_true_eq_false, true_implies, false_implies, implies_true, and_true, cTag, cTgt, cLen, true_and, Int.toNat_natCast, retI_I, retR_R, retV_N, retL_L, ne_eq, Int.reduceEq, not_false_eq_true]
        by_cases c3 : bad T 0 = -6
        · rw [if_pos (by omega), if_pos c3, c3]
        · rw [if_neg (by omega), if_neg c3, hb c3]
          by_cases w0 : w = 0
          · rw [if_neg (fun q => q w0), if_pos w0]
          · rw [if_pos w0, if_neg w0]; rfl
      · rw [if_neg c2, if_neg (by omega)]
        refine MO_n hI (fun Q => ?_)
        simp only [e_168_0, e_168_12, e_168_22, brI, not_true_eq_false, true_implies, false_implies, implies_true, and_true, cTag, cTgt, cLen, true_and, Int.toNat_natCast, retI_I, retR_R, retV_N, retL_L, ne_eq, Int.reduceEq, not_false_eq_true, x_in, bI_0, cw, m_ff hI hV, m_op hI hV c, if_true, if_false, and_self]
        rw [if_pos (by omega), if_neg c2]
    · rw [if_neg c, if_neg (by omega)]
      refine MO_n hI (fun Q => ?_)
      simp only [e_168_0, e_168_12, brI, not_true_eq_false, true_implies, false_implies, implies_true, and_true, cTag, cTgt, cLen, true_and, Int.toNat_natCast, retI_I, retR_R, retV_N, retL_L, ne_eq, Int.reduceEq, not_false_eq_true, x_in, bI_0, cw, m_ff hI hV, if_true, if_false, and_self]
      rw [if_neg (by omega)]
  · rw [if_neg cw]
    refine MO_n hI (fun Q => ?_)
    simp only [e_168_0, brI, not_true_eq_false, true_implies, false_implies, implies_true, and_true, cTag, cTgt, cLen, true_and, Int.toNat_natCast, retI_I, retR_R, retV_N, retL_L, ne_eq, Int.reduceEq, not_false_eq_true, x_in, bI_0, cw, if_true, if_false, and_self]
theorem m_bar (hI : IM T σ) (hV : IV B T) (hB0 : 0 ≤ B) (hB : B ≤ 800000) (l : Int) :
    ∃ τ, (∀ Q : PQ, X L 169 0 [some (xR 75), some (xI l)] [] σ Q = Q (some (xI (a_bar T))) τ) ∧ FrG σ τ ∧
      (a_bar T = 0 → RM (vN τ) (dS T 0) ∧ τ 75 29 = (ou (dW T 0) (dD T) (T 0) l (dH T)).1 ∧ τ 75 30 = (ou (dW T 0) (dD T) (T 0) l (dH T)).2.1 ∧ τ 75 31 = (ou (dW T 0) (dD T) (T 0) l (dH T)).2.2) := by
  have hfs := flt_s T
  unfold a_bar a_txt
  by_cases c : a_fault T = -6
  · rw [if_pos c]
    by_cases c2 : cq (sg T) (2 * dH T) ≤ 0
    · rw [if_pos c2, if_pos rfl]
      obtain ⟨τ, e, hF, ha, hb⟩ := m_play (L := L) hI hV hB0 hB c (g := 0) (by omega) l
      have hbs := bad_s T 0
      refine ⟨τ, fun Q => ?_, hF, fun q => ha ?_⟩
      · have e : ∀ Q : PQ, X L 167 0 [some (xR 75), some (xI 0), some (xI l), none, none, none, none, none, none, none, none] [] σ Q = Q (some (xI (bad T 0))) τ := e
        simp only [e_169_0, e_169_12, e_169_24, brI, not_true_eq_false, true_implies, false_implies, implies_true, and_true, cTag, cTgt, cLen, true_and, Int.toNat_natCast, retI_I, retR_R, retV_N, retL_L, ne_eq, Int.reduceEq, not_false_eq_true, m_ff hI hV, m_op hI hV c, e]
        rw [if_pos (by omega), if_pos c2]
        simp only [e_169_38, e_169_39]
        by_cases c3 : bad T 0 = -6
        · rw [if_pos (by omega), if_pos c3]
        · rw [if_neg (by omega), if_neg c3]
      · by_cases c3 : bad T 0 = -6
        · exact c3
        · rw [if_neg c3] at q; omega
    · rw [if_neg c2, if_neg (by omega)]
      refine ⟨σ, fun Q => ?_, FrG.rf, fun q => by omega⟩
      simp only [e_169_0, e_169_12, brI, not_true_eq_false, true_implies, false_implies, implies_true, and_true, cTag, cTgt, cLen, true_and, Int.toNat_natCast, retI_I, retR_R, retV_N, retL_L, ne_eq, Int.reduceEq, not_false_eq_true, m_ff hI hV, m_op hI hV c]
      rw [if_pos (by omega), if_neg c2, e_169_39]
  · rw [if_neg c, if_neg (by omega)]
    refine ⟨σ, fun Q => ?_, FrG.rf, fun q => by omega⟩
    simp only [e_169_0, brI, not_true_eq_false, true_implies, false_implies, implies_true, and_true, cTag, cTgt, cLen, true_and, Int.toNat_natCast, retI_I, retR_R, retV_N, retL_L, ne_eq, Int.reduceEq, not_false_eq_true, m_ff hI hV]
    rw [if_neg (by omega), e_169_39]
theorem bar_s (T : Ful) : a_bar T = 0 ∨ a_bar T < 0 := by
  unfold a_bar a_txt
  (repeat' split) <;> omega
theorem m_done (hI : IM T σ) (hV : IV B T) (hB0 : 0 ≤ B) (hB : B ≤ 800000) : MO σ (X L 170 0 [some (xR 75), none, none] [] σ) (a_done T) (n_done T) := by
  obtain ⟨τ, e, hF, ha⟩ := m_bar (L := L) hI hV hB0 hB 1000000
  have hbs := bar_s T
  unfold a_done n_done
  by_cases c : a_bar T = 0
  · rw [if_pos c, if_pos c]
    obtain ⟨hR, -⟩ := ha c
    obtain ⟨hf, hb⟩ := bar_0 c
    obtain ⟨hP, hp⟩ := pad_ok hV hf
    have hI1 := IM_Q hI (FrM_G hF)
    have h30 := dH_30 hV
    obtain ⟨t1, e1, a1, a2, a3, a4, a5, a6⟩ := cl_170_15 (L := L) 0 τ
    obtain ⟨t2, e2, b1, b2⟩ := cl_170_112 (L := L) 0 t1
    obtain ⟨t3, e3, c1, c2⟩ := cl_170_138 (L := L) 0 t2
    have d : ∀ o, o ≠ 78 → o ≠ 81 → o < 84 ∨ 88 < o → t3 o = τ o := by
      intro o h1 h2 h3; rw [c2 o (by omega), b2 o (by omega), a6 o (by omega) (by omega) (by omega) (by omega) (by omega)]
    have d1 : ∀ o, 84 ≤ o ∧ o ≤ 88 → t3 o = t1 o := by
      intro o ho; rw [c2 o (by omega), b2 o (by omega)]
    have hRM : RM (vP t3) (dS T 0) := by
      refine RM_cg2 ?_ hR
      intro k j h
      have hk := bd_k h
      unfold bd at h
      rcases hk with rfl | rfl | rfl | rfl | rfl | rfl | rfl | rfl | rfl | rfl | rfl | rfl | rfl | rfl | rfl
      · rcases (show j = 0 ∨ j = 1 ∨ j = 2 ∨ j = 3 ∨ j = 4 by omega) with rfl | rfl | rfl | rfl | rfl <;> simp [vP, vN, d]
      · simp [vP, vN, d]
      · simp [vP, vN, d]
      · simp only [vP, vN]; rw [c1 j (by omega), b2 97 (by omega), a6 97 (by omega) (by omega) (by omega) (by omega) (by omega)]
      · simp [vP, vN, d]
      · simp [vP, vN, d]
      · simp only [vP, vN]; rw [c2 81 (by omega), b1 j (by omega), a6 96 (by omega) (by omega) (by omega) (by omega) (by omega)]
      · simp [vP, vN, d]
      · simp [vP, vN, d]
      · simp [vP, vN, d]
      · simp only [vP, vN]; rw [d1 84 (by omega), a1 j (by omega)]
      · simp only [vP, vN]; rw [d1 85 (by omega), a2 j (by omega)]
      · simp only [vP, vN]; rw [d1 86 (by omega), a3 j (by omega)]
      · simp only [vP, vN]; rw [d1 87 (by omega), a5 j (by omega)]
      · simp only [vP, vN]; rw [d1 88 (by omega), a4 j (by omega)]
    have hI2 := IM_V hI1 hRM (fun o ho => d o (by omega) (by omega) (by omega)) (by rw [d 75 (by omega) (by omega) (by omega)])
    have hp3 : t3 75 19 = ((2 * dH T : Nat) : Int) := by rw [d 75 (by omega) (by omega) (by omega), hI1.2.2.1]; exact hp
    have td : Int.tdiv ((2 * dH T : Nat) : Int) 2 = (dH T : Int) := by rw [Int.tdiv_eq_ediv_of_nonneg (by omega)]; omega
    refine ⟨up t3 75 19 0, fun Q => ?_, IM_P hI2 ?_ ?_ ?_ ?_, ?_⟩
    · rw [e_170_0]
      simp only [brI, not_true_eq_false, true_implies, false_implies, implies_true, and_true, cTag, cTgt, cLen, true_and, Int.toNat_natCast, retI_I, retR_R, retV_N, retL_L, ne_eq, Int.reduceEq, not_false_eq_true, e, c, Int.le_refl, if_true, e_170_13, e1]
      rw [e_170_15]
      simp only [brI, not_true_eq_false, true_implies, false_implies, implies_true, and_true, cTag, cTgt, cLen, true_and, Int.toNat_natCast, retI_I, retR_R, retV_N, retL_L, ne_eq, Int.reduceEq, not_false_eq_true, Int.le_refl, if_true, e_170_110, e2]
      rw [e_170_112]
      simp only [brI, not_true_eq_false, true_implies, false_implies, implies_true, and_true, cTag, cTgt, cLen, true_and, Int.toNat_natCast, retI_I, retR_R, retV_N, retL_L, ne_eq, Int.reduceEq, not_false_eq_true, Int.le_refl, if_true, e_170_136, e3]
      rw [e_170_138]
      simp only [brI, not_true_eq_false, true_implies, false_implies, implies_true, and_true, cTag, cTgt, cLen, true_and, Int.toNat_natCast, retI_I, retR_R, retV_N, retL_L, ne_eq, Int.reduceEq, not_false_eq_true, Int.le_refl, if_true, e_170_162, hp3, td]
      rw [w32_id (by omega) (by omega)]
    · intro o h1 h2; funext j; simp only [up_rd]; rw [if_neg (by omega)]
    · intro j h1 h2; simp only [up_rd]; rw [if_neg (by omega)]
    · simp [up_rd]
    · intro j hj
      have := hI2.2.2.2 j hj
      have e3 : sg (setV T (dS T 0)) j = sg T j := rfl
      rw [e3] at this
      simp [up_rd, this]
    · intro o ho; funext j; simp only [up_rd]; rw [if_neg (by omega), d o (by omega) (by omega) (by omega), hF.1 o (by omega) (by omega)]
  · rw [if_neg c, if_neg c]
    refine MO_q hI ⟨τ, fun Q => ?_, FrM_G hF⟩
    rw [e_170_0]
    simp only [brI, not_true_eq_false, true_implies, false_implies, implies_true, and_true, cTag, cTgt, cLen, true_and, Int.toNat_natCast, retI_I, retR_R, retV_N, retL_L, ne_eq, Int.reduceEq, not_false_eq_true, e]
    rw [if_neg (by omega)]
theorem stp_fl (S : Mem) (p q : Nat) (d : Int) (hq : q < 4) : stp S p d (8 + q) 0 = S (8 + q) 0 := by
  by_cases c : q = p
  · subst c; exact stp_0
  · unfold stp
    split
    · simp only [stW, pw]; rw [if_neg (by omega), trd_lo (by omega), trd_lo (by omega)]
    · split
      · simp only [stB, pw, up_rd]; rw [if_neg (by omega), if_neg (by omega)]
      · simp only [pw]; rw [if_neg (by omega)]
theorem dst_fl (wh : Nat → Nat) (dd : Nat → Int) (S : Mem) (q : Nat) (hq : q < 4) : ∀ i, dst wh dd S i (8 + q) 0 = S (8 + q) 0 := by
  intro i
  induction i with
  | zero => rfl
  | succ i ih => simp only [dst]; rw [stp_fl _ _ _ _ hq, ih]
theorem m_behind (hI : IM T σ) (hV : IV B T) (hB0 : 0 ≤ B) (hB : B ≤ 800000) (p w : Int) : MO σ (X L 173 0 [some (xR 75), some (xI p), some (xI w), none] [] σ) (a_behind T p w) T := by
  have hbs := bar_s T
  unfold a_behind
  by_cases cp : thr (T 0) p = 0
  · rw [if_pos cp]
    refine MO_n hI (fun Q => ?_)
    simp only [e_173_0, brI, not_true_eq_false, true_implies, false_implies, implies_true, and_true, cTag, cTgt, cLen, true_and, Int.toNat_natCast, retI_I, retR_R, retV_N, retL_L, ne_eq, Int.reduceEq, not_false_eq_true, x_isThereM hV.1 hI.th, cp, if_true, if_false]
  · rw [if_neg cp]
    obtain ⟨q, hq, rfl, h1⟩ := thr_in (B := B) cp
    by_cases cw : 0 ≤ w ∧ w ≤ 6
    · rw [if_pos cw, Int.toNat_natCast]
      obtain ⟨τ, e, hF, ha⟩ := m_bar (L := L) hI hV hB0 hB 1000000
      refine MO_q hI ⟨τ, fun Q => ?_, FrM_G hF⟩
      simp only [e_173_0, e_173_10, e_173_23, brI, not_true_eq_false, true_implies, false_implies, implies_true, and_true, cTag, cTgt, cLen, true_and, Int.toNat_natCast, retI_I, retR_R, retV_N, retL_L, ne_eq, Int.reduceEq, not_false_eq_true, x_isThereM hV.1 hI.th, cp, x_in, bI_0, cw, e, if_true, if_false, and_self]
      by_cases c : a_bar T = 0
      · rw [if_pos (by omega), if_pos c]
        obtain ⟨hR, -⟩ := ha c
        obtain ⟨hf, hb⟩ := bar_0 c
        have hV2 := dS_VS hV hB0 hf hb
        have hq1 : dS T 0 (8 + q) 0 = 1 := by unfold dS; rw [dst_fl _ _ _ _ hq]; exact h1 hV.1
        have hx := x_stateNow (L := L) hV2 (by omega) hR hq hq1 cw
        simp only [e_173_38, e_173_44, brI, not_true_eq_false, true_implies, false_implies, implies_true, and_true, cTag, cTgt, cLen, true_and, Int.toNat_natCast, retI_I, retR_R, retV_N, retL_L, ne_eq, Int.reduceEq, not_false_eq_true, hx]
      · rw [if_neg (by omega), if_neg c, e_173_44]
    · rw [if_neg cw]
      refine MO_n hI (fun Q => ?_)
      simp only [e_173_0, e_173_10, brI, not_true_eq_false, true_implies, false_implies, implies_true, and_true, cTag, cTgt, cLen, true_and, Int.toNat_natCast, retI_I, retR_R, retV_N, retL_L, ne_eq, Int.reduceEq, not_false_eq_true, x_isThereM hV.1 hI.th, cp, x_in, bI_0, cw, if_true, if_false]
theorem m_givesOut (hI : IM T σ) (hV : IV B T) (hB0 : 0 ≤ B) (hB : B ≤ 800000) (l w : Int) : MO σ (X L 175 0 [some (xR 75), some (xI l), some (xI w), none] [] σ) (a_out T l w) T := by
  have hbs := bar_s T
  unfold a_out
  by_cases cg : gOut l w
  · obtain ⟨c1, c2⟩ := id cg
    rw [if_pos cg]
    obtain ⟨τ, e, hF, ha⟩ := m_bar (L := L) hI hV hB0 hB l
    refine MO_q hI ⟨τ, fun Q => ?_, FrM_G hF⟩
    simp only [e_175_0, e_175_22, brI, not_true_eq_false, true_implies, false_implies, implies_true, and_true, cTag, cTgt, cLen, true_and, Int.toNat_natCast, retI_I, retR_R, retV_N, retL_L, ne_eq, Int.reduceEq, not_false_eq_true, x_in, bI_0, c1, c2, e, if_true, if_false, and_self]
    by_cases c : a_bar T = 0
    · obtain ⟨-, h3, h4, h5⟩ := ha c
      rw [if_pos (by omega), if_pos c]
      simp only [e_175_36, e_175_47, e_175_59, e_175_63, brI, not_true_eq_false, true_implies, false_implies, implies_true, and_true, cTag, cTgt, cLen, true_and, Int.toNat_natCast, retI_I, retR_R, retV_N, retL_L, ne_eq, Int.reduceEq, not_false_eq_true, h3, h4, h5]
      by_cases w0 : w = 0
      · rw [if_neg (fun q => q w0), if_pos w0]
      · rw [if_pos w0, if_neg w0]
        by_cases w1 : w = 1
        · rw [if_neg (fun q => q w1), if_pos w1]
        · rw [if_pos w1, if_neg w1]
    · rw [if_neg (by omega), if_neg c, e_175_63]
  · rw [if_neg cg]
    refine MO_n hI (fun Q => ?_)
    simp only [e_175_0, e_175_19, brI, not_true_eq_false, true_implies, false_implies, implies_true, and_true, cTag, cTgt, cLen, true_and, Int.toNat_natCast, retI_I, retR_R, retV_N, retL_L, ne_eq, Int.reduceEq, not_false_eq_true, x_in, bI_0]
    by_cases c1 : 1 ≤ l ∧ l ≤ 99
    · have c2 : ¬ (0 ≤ w ∧ w ≤ 2) := fun q => cg ⟨c1, q⟩
      simp only [c1, c2, brI, not_true_eq_false, true_implies, false_implies, implies_true, and_true, cTag, cTgt, cLen, true_and, Int.toNat_natCast, retI_I, retR_R, retV_N, retL_L, ne_eq, Int.reduceEq, not_false_eq_true, if_true, if_false, and_self]
    · simp only [c1, brI, not_true_eq_false, true_implies, false_implies, implies_true, and_true, cTag, cTgt, cLen, true_and, Int.toNat_natCast, retI_I, retR_R, retV_N, retL_L, ne_eq, Int.reduceEq, not_false_eq_true, if_true, if_false]
end MJudge

