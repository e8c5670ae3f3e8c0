/-! what is told; trodden; a PERSON's state -/
section Told
variable {T : Ful} {σ τ : Mem} {B : Int} {L v : Nat} {S : Mem}
def a_toldA (T : Ful) (w : Int) : Int := if w = 0 then pn T else if w = 1 then T 0 0 0 else if w = 2 then thb (T 0) else if w = 3 then T 0 0 1 else if w = 4 then T 0 0 2 else if w = 5 then T 0 0 3 else if isT T (w - 10) then g1 (T 0) 4 6 (w - 10) else if isT T (w - 20) then g1 (T 0) 5 6 (w - 20) else -2
def a_toldT (T : Ful) (t r : Int) : Int := if isT T t then (if 0 ≤ r ∧ r < 5 then stk (T 0) t r else if two T t (r - 10) then mil (T 0) t (r - 10) else if two T t (r - 20) then rul (T 0) t (r - 20) else -2) else -2
def a_told (T : Ful) (w : Int) : Int := if w < 0 then -2 else if w < 100 then a_toldA T w else a_toldT T (w / 100 - 1) (w % 100)
theorem x_toldOfTown (hI : IC T σ) (hV : IV B T) (t r : Int) (hr : 0 ≤ r ∧ r < 100) (Q : PQ) : X L 127 0 [some (xR 0), some (xI t), some (xI r)] [] σ Q = Q (some (xI (a_toldT T t r))) σ := by
  have e00 := hI.1.1 0 (by omega)
  have hn := hV.1.1
  simp only [e_127_0, e_127_14, e_127_31, e_127_62, e_127_93, brI, not_true_eq_false, true_implies, false_implies, implies_true, and_true, cTag, cTgt, cLen, true_and, Int.toNat_natCast, retI_I, retR_R, retV_N, retL_L, ne_eq, Int.reduceEq, not_false_eq_true, x_isTown iV1, x_isSize, x_two iV1, bI_0, e00, x_roadNumber, x_milesOf iV1, x_ruleOf iV1, w32_id (x := r - 10) (by omega) (by omega), w32_id (x := r - 20) (by omega) (by omega), rc_mil iV1 hI.1 hV.1, a_toldT, ite_not, isT, two]
  by_cases c : 0 ≤ t ∧ t < T 0 0 0
  · have ht : 0 ≤ t ∧ t < 6 := by omega
    rw [if_pos c, if_pos c]
    by_cases c1 : 0 ≤ r ∧ r < 5
    · rw [if_pos c1, if_pos c1, x_stockAt iV1 hI.1 t r ht]; rfl
    · rw [if_neg c1, if_neg c1]
      by_cases c2 : (0 ≤ t ∧ t < T 0 0 0) ∧ (0 ≤ r - 10 ∧ r - 10 < T 0 0 0) ∧ ¬ t = r - 10
      · rw [if_pos c2, if_pos c2]
      · rw [if_neg c2, if_neg c2]
        by_cases c3 : (0 ≤ t ∧ t < T 0 0 0) ∧ (0 ≤ r - 20 ∧ r - 20 < T 0 0 0) ∧ ¬ t = r - 20
        · rw [if_pos c3, if_pos c3, rc_rul iV1 hI.1 hV.1 t (r - 20) c3.2.2]
        · rw [if_neg c3, if_neg c3]
  · rw [if_neg c, if_neg c]
theorem x_toldOfAll (hI : IC T σ) (hV : IV B T) (w : Int) (hw : 0 ≤ w ∧ w < 100) (Q : PQ) : X L 126 0 [some (xR 0), some (xI w)] [] σ Q = Q (some (xI (a_toldA T w))) σ := by
  have e0 := hI.1.1 0 (by omega)
  have e1 := hI.1.1 1 (by omega)
  have e2 := hI.1.1 2 (by omega)
  have e3 := hI.1.1 3 (by omega)
  have ep : σ 18 1 = pn T := hI.2.2.2.2.1
  simp only [e_126_0, e_126_40, e_126_48, e_126_56, e_126_64, e_126_72, e_126_80, e_126_88, e_126_114, e_126_142, e_126_144, brI, not_true_eq_false, true_implies, false_implies, implies_true, and_true, cTag, cTgt, cLen, true_and, Int.toNat_natCast, retI_I, retR_R, retV_N, retL_L, ne_eq, Int.reduceEq, not_false_eq_true, x_peopleBits iV1 hI.1 hV.1, x_isTown iV1, x_sideAt iV1 hI.1, x_priceAt iV1 hI.1, bI_0, e0, e1, e2, e3, ep, w32_id (x := w - 10) (by omega) (by omega), w32_id (x := w - 20) (by omega) (by omega), a_toldA]
  by_cases w0 : w = 0
  · simp [w0]
  by_cases w1 : w = 1
  · simp [w1]
  by_cases w2 : w = 2
  · simp [w2]
  by_cases w3 : w = 3
  · simp [w3]
  by_cases w4 : w = 4
  · simp [w4]
  by_cases w5 : w = 5
  · simp [w5]
  simp only [w0, w1, w2, w3, w4, w5, if_false, ite_not, isT]
  by_cases c : 0 ≤ w - 10 ∧ w - 10 < T 0 0 0
  · rw [if_pos c, if_pos c]
  · rw [if_neg c, if_neg c]
    by_cases c2 : 0 ≤ w - 20 ∧ w - 20 < T 0 0 0
    · rw [if_pos c2, if_pos c2]
    · rw [if_neg c2, if_neg c2]
theorem c_told (hI : IC T σ) (hV : IV B T) (w : Int) (hw : w < 2147483648) : CO σ (X L 122 0 [some (xR 0), some (xI w)] [] σ) (a_told T w) T := by
  refine CO_n hI (fun Q => ?_)
  unfold a_told
  by_cases c : w < 0
  · rw [if_pos c]
    simp (disch := omega) only [e_122_0, brI, not_true_eq_false, true_implies, false_implies, implies_true, and_true, cTag, cTgt, cLen, true_and, Int.toNat_natCast, retI_I, retR_R, retV_N, retL_L, ne_eq, Int.reduceEq, not_false_eq_true, le_t, le_f, lt_t, lt_f, eq_t, eq_f, w32_id, inb, if_true, if_false, not_true_eq_false, not_false_eq_true, and_true, true_and, and_false, false_and, or_true, true_or, or_false, false_or, Int.add_zero, Int.zero_add, and_self, or_self]
  · rw [if_neg c]
    by_cases c2 : w < 100
    · rw [if_pos c2]
      simp (disch := omega) only [e_122_0, e_122_7, e_122_35, brI, not_true_eq_false, true_implies, false_implies, implies_true, and_true, cTag, cTgt, cLen, true_and, Int.toNat_natCast, retI_I, retR_R, retV_N, retL_L, ne_eq, Int.reduceEq, not_false_eq_true, le_t, le_f, lt_t, lt_f, eq_t, eq_f, w32_id, inb, if_true, if_false, not_true_eq_false, not_false_eq_true, and_true, true_and, and_false, false_and, or_true, true_or, or_false, false_or, Int.add_zero, Int.zero_add, and_self, or_self, x_toldOfAll hI hV w (by omega)]
    · rw [if_neg c2]
      have d1 : Int.tdiv w 100 = w / 100 := Int.tdiv_eq_ediv_of_nonneg (by omega)
      have d2 : Int.tmod w 100 = w % 100 := Int.tmod_eq_emod_of_nonneg (by omega)
      simp (disch := omega) only [e_122_0, e_122_7, e_122_21, e_122_35, brI, not_true_eq_false, true_implies, false_implies, implies_true, and_true, cTag, cTgt, cLen, true_and, Int.toNat_natCast, retI_I, retR_R, retV_N, retL_L, ne_eq, Int.reduceEq, not_false_eq_true, le_t, le_f, lt_t, lt_f, eq_t, eq_f, w32_id, inb, if_true, if_false, not_true_eq_false, not_false_eq_true, and_true, true_and, and_false, false_and, or_true, true_or, or_false, false_or, Int.add_zero, Int.zero_add, and_self, or_self, d1, d2, x_toldOfTown hI hV (w / 100 - 1) (w % 100) (by omega)]
theorem m_told (hI : IM T σ) (hV : IV B T) (w : Int) (hw : -2147483648 ≤ w ∧ w < 2147483648) : MO σ (X L 208 0 [some (xR 75), some (xI w), none, none, none, none] [] σ) (a_told T w) T := by
  refine MO_n hI (fun Q => ?_)
  have hn := hV.1.1
  have hw6 : 2 ≤ σ 75 0 ∧ σ 75 0 ≤ 6 := by rw [hI.tw]; exact hn
  have e9 := hI.th
  have e7 : σ 75 7 = T 0 0 1 := hI.1.tl
  have e8 : σ 75 8 = T 0 0 2 := hI.1.kk
  have e17 : σ 75 17 = T 0 0 3 := hI.1.sg
  have e19 : σ 75 19 = pn T := hI.2.2.1
  have e0 := hI.tw
  unfold a_told
  by_cases c : w < 0
  · rw [if_pos c]
    simp (disch := omega) only [e_208_0, e_208_134, e_208_180, e_208_241, e_208_253, e_208_255, brI, not_true_eq_false, true_implies, false_implies, implies_true, and_true, cTag, cTgt, cLen, true_and, Int.toNat_natCast, retI_I, retR_R, retV_N, retL_L, ne_eq, Int.reduceEq, not_false_eq_true, x_in, bI_0, le_t, le_f, lt_t, lt_f, eq_t, eq_f, w32_id, inb, if_true, if_false, not_true_eq_false, not_false_eq_true, and_true, true_and, and_false, false_and, or_true, true_or, or_false, false_or, Int.add_zero, Int.zero_add, and_self, or_self]
  · rw [if_neg c]
    by_cases c2 : w < 100
    · rw [if_pos c2]
      obtain ⟨k, hk⟩ : ∃ k : Nat, Int.tmod w 10 = (k : Int) := ⟨(w % 10).toNat, by rw [Int.tmod_eq_emod_of_nonneg (by omega)]; omega⟩
      have hk' : w % 10 = (k : Int) := by rw [← hk, Int.tmod_eq_emod_of_nonneg (by omega)]
      unfold a_toldA
      by_cases c3 : 10 ≤ w ∧ w ≤ 29
      · simp (disch := omega) only [e_208_0, e_208_134, brI, not_true_eq_false, true_implies, false_implies, implies_true, and_true, cTag, cTgt, cLen, true_and, Int.toNat_natCast, retI_I, retR_R, retV_N, retL_L, ne_eq, Int.reduceEq, not_false_eq_true, x_in, x_isTownM L _ _ _ hw6, bI_0, le_t, le_f, lt_t, lt_f, eq_t, eq_f, w32_id, inb, if_true, if_false, not_true_eq_false, not_false_eq_true, and_true, true_and, and_false, false_and, or_true, true_or, or_false, false_or, Int.add_zero, Int.zero_add, and_self, or_self, hk, e0, Int.toNat_natCast]
        by_cases c4 : w < 20
        · have ek : w - 10 = (k : Int) := by omega
          rw [ek]
          by_cases c5 : isT T (k : Int)
          · have z : σ 79 k = g1 (T 0) 4 6 (k : Int) := by rw [g1_at (by omega)]; exact hI.1.sd _ (by omega)
            simp (disch := omega) only [e_208_158, e_208_179, brI, not_true_eq_false, true_implies, false_implies, implies_true, and_true, cTag, cTgt, cLen, true_and, Int.toNat_natCast, retI_I, retR_R, retV_N, retL_L, ne_eq, Int.reduceEq, not_false_eq_true, c5, z, le_t, le_f, lt_t, lt_f, eq_t, eq_f, w32_id, inb, if_true, if_false, not_true_eq_false, not_false_eq_true, and_true, true_and, and_false, false_and, or_true, true_or, or_false, false_or, Int.add_zero, Int.zero_add, and_self, or_self]
          · have c6 : ¬ isT T (w - 20) := by omega
            simp (disch := omega) only [e_208_179, brI, not_true_eq_false, true_implies, false_implies, implies_true, and_true, cTag, cTgt, cLen, true_and, Int.toNat_natCast, retI_I, retR_R, retV_N, retL_L, ne_eq, Int.reduceEq, not_false_eq_true, c5, c6, le_t, le_f, lt_t, lt_f, eq_t, eq_f, w32_id, inb, if_true, if_false, not_true_eq_false, not_false_eq_true, and_true, true_and, and_false, false_and, or_true, true_or, or_false, false_or, Int.add_zero, Int.zero_add, and_self, or_self]
        · have ek : w - 20 = (k : Int) := by omega
          have c6 : ¬ isT T (w - 10) := by omega
          rw [ek]
          by_cases c5 : isT T (k : Int)
          · have z : σ 80 k = g1 (T 0) 5 6 (k : Int) := by rw [g1_at (by omega)]; exact hI.1.pr _ (by omega)
            simp (disch := omega) only [e_208_158, e_208_173, e_208_179, brI, not_true_eq_false, true_implies, false_implies, implies_true, and_true, cTag, cTgt, cLen, true_and, Int.toNat_natCast, retI_I, retR_R, retV_N, retL_L, ne_eq, Int.reduceEq, not_false_eq_true, c5, c6, z, le_t, le_f, lt_t, lt_f, eq_t, eq_f, w32_id, inb, if_true, if_false, not_true_eq_false, not_false_eq_true, and_true, true_and, and_false, false_and, or_true, true_or, or_false, false_or, Int.add_zero, Int.zero_add, and_self, or_self]
          · simp (disch := omega) only [e_208_179, brI, not_true_eq_false, true_implies, false_implies, implies_true, and_true, cTag, cTgt, cLen, true_and, Int.toNat_natCast, retI_I, retR_R, retV_N, retL_L, ne_eq, Int.reduceEq, not_false_eq_true, c5, c6, le_t, le_f, lt_t, lt_f, eq_t, eq_f, w32_id, inb, if_true, if_false, not_true_eq_false, not_false_eq_true, and_true, true_and, and_false, false_and, or_true, true_or, or_false, false_or, Int.add_zero, Int.zero_add, and_self, or_self]
      · have c4 : ¬ isT T (w - 10) := by omega
        have c5 : ¬ isT T (w - 20) := by omega
        simp only [e_208_0, e_208_134, brI, not_true_eq_false, true_implies, false_implies, implies_true, and_true, cTag, cTgt, cLen, true_and, Int.toNat_natCast, retI_I, retR_R, retV_N, retL_L, ne_eq, Int.reduceEq, not_false_eq_true, x_in, bI_0, c3, c4, c5, if_true, if_false]
        simp (disch := omega) only [le_t, le_f, lt_t, lt_f, eq_t, eq_f, w32_id, inb, if_true, if_false, not_true_eq_false, not_false_eq_true, and_true, true_and, and_false, false_and, or_true, true_or, or_false, false_or, Int.add_zero, Int.zero_add, and_self, or_self]
        simp only [e_208_180, e_208_216, e_208_221, e_208_226, e_208_231, e_208_236, e_208_241, e_208_253, e_208_255, brI, not_true_eq_false, true_implies, false_implies, implies_true, and_true, cTag, cTgt, cLen, true_and, Int.toNat_natCast, retI_I, retR_R, retV_N, retL_L, ne_eq, Int.reduceEq, not_false_eq_true, e9, e7, e8, e17, e19, e0]
        by_cases w0 : w = 0
        · simp [w0]
        by_cases w1 : w = 1
        · simp [w1]
        by_cases w2 : w = 2
        · simp [w2]
        by_cases w3 : w = 3
        · simp [w3]
        by_cases w4 : w = 4
        · simp [w4]
        by_cases w5 : w = 5
        · simp [w5]
        simp [w0, w1, w2, w3, w4, w5]
    · rw [if_neg c2]
      obtain ⟨k, hk⟩ : ∃ k : Nat, Int.tmod w 10 = (k : Int) := ⟨(w % 10).toNat, by rw [Int.tmod_eq_emod_of_nonneg (by omega)]; omega⟩
      have hk' : w % 10 = (k : Int) := by rw [← hk, Int.tmod_eq_emod_of_nonneg (by omega)]
      obtain ⟨t, ht⟩ : ∃ t : Nat, w / 100 - 1 = (t : Int) := ⟨(w / 100 - 1).toNat, by omega⟩
      have d1 : Int.tdiv w 100 = w / 100 := Int.tdiv_eq_ediv_of_nonneg (by omega)
      have d2 : Int.tmod w 100 = w % 100 := Int.tmod_eq_emod_of_nonneg (by omega)
      have d3 : Int.tdiv (w % 100) 10 = w % 100 / 10 := Int.tdiv_eq_ediv_of_nonneg (by omega)
      obtain ⟨r, hr⟩ : ∃ r : Nat, w % 100 / 10 = (r : Int) := ⟨(w % 100 / 10).toNat, by omega⟩
      have hr' : w % 100 = 10 * (r : Int) + (k : Int) := by omega
      have hk10 : k < 10 := by omega
      have hr10 : r < 10 := by omega
      have htw : (t : Int) < 2147483648 := by omega
      rw [ht, hr']
      simp only [e_208_0, brI, not_true_eq_false, true_implies, false_implies, implies_true, and_true, cTag, cTgt, cLen, true_and, Int.toNat_natCast, retI_I, retR_R, retV_N, retL_L, ne_eq, Int.reduceEq, not_false_eq_true, x_isTownM L _ _ _ hw6, bI_0, hk, d1, d2, d3, hr, e0, e_208_44]
      rw [if_neg c2, w32_id (x := w / 100) (by omega) (by omega), ht, w32_id (x := (t : Int)) (by omega) (by omega), w32_id (x := (r : Int)) (by omega) (by omega)]
      clear d1 d2 d3 hk hk' ht hr hr' c2 c hw
      unfold a_toldT
      have go : ∀ b : Int, (b = 0 ↔ ¬ (isT T (k : Int) ∧ ¬ (k : Int) = (t : Int))) → X L 208 45 [some (xR 75), some (xI w), some (xI (k : Int)), some (xI (t : Int)), some (xI (r : Int)), none] [xI b] σ Q = Q (some (xI (if isT T (t : Int) then (if 0 ≤ 10 * (r : Int) + (k : Int) ∧ 10 * (r : Int) + (k : Int) < 5 then stk (T 0) t (10 * (r : Int) + (k : Int)) else if two T t (10 * (r : Int) + (k : Int) - 10) then mil (T 0) t (10 * (r : Int) + (k : Int) - 10) else if two T t (10 * (r : Int) + (k : Int) - 20) then rul (T 0) t (10 * (r : Int) + (k : Int) - 20) else -2) else -2))) σ := by
        intro b hb
        by_cases ct : isT T (t : Int)
        · rw [if_pos ct]
          by_cases r0 : r = 0
          · subst r0
            by_cases k4 : k < 5
            · have z : σ 81 (5 * t + k) = stk (T 0) t k := by rw [stk_at (by omega) (by omega)]; exact hI.1.st _ (by omega)
              rw [if_pos (by omega), show 10 * ((0 : Nat) : Int) + (k : Int) = (k : Int) by omega, ← z]
              simp (disch := omega) only [e_208_45, e_208_71, e_208_84, e_208_133, brI, not_true_eq_false, true_implies, false_implies, implies_true, and_true, cTag, cTgt, cLen, true_and, Int.toNat_natCast, retI_I, retR_R, retV_N, retL_L, ne_eq, Int.reduceEq, not_false_eq_true, x_isTownM L _ _ _ hw6, bI_0, e0, ct, le_t, le_f, lt_t, lt_f, eq_t, eq_f, w32_id, inb, if_true, if_false, not_true_eq_false, not_false_eq_true, and_true, true_and, and_false, false_and, or_true, true_or, or_false, false_or, Int.add_zero, Int.zero_add, and_self, or_self, Int.toNat_add, Int.toNat_mul, Int.toNat_natCast, Int.reduceToNat]
            · have n1 : ¬ two T t (10 * ((0 : Nat) : Int) + (k : Int) - 10) := by omega
              have n2 : ¬ two T t (10 * ((0 : Nat) : Int) + (k : Int) - 20) := by omega
              rw [if_neg (by omega), if_neg n1, if_neg n2]
              simp (disch := omega) only [e_208_45, e_208_81, brI, not_true_eq_false, true_implies, false_implies, implies_true, and_true, cTag, cTgt, cLen, true_and, Int.toNat_natCast, retI_I, retR_R, retV_N, retL_L, ne_eq, Int.reduceEq, not_false_eq_true, x_isTownM L _ _ _ hw6, bI_0, e0, ct, le_t, le_f, lt_t, lt_f, eq_t, eq_f, w32_id, inb, if_true, if_false, not_true_eq_false, not_false_eq_true, and_true, true_and, and_false, false_and, or_true, true_or, or_false, false_or, Int.add_zero, Int.zero_add, and_self, or_self]
          · rw [if_neg (by omega)]
            by_cases r1 : r = 1
            · subst r1
              have n2 : ¬ two T t (10 * ((1 : Nat) : Int) + (k : Int) - 20) := by omega
              rw [if_neg n2, show 10 * ((1 : Nat) : Int) + (k : Int) - 10 = (k : Int) by omega]
              by_cases ck : two T t (k : Int)
              · have hb1 : ¬ b = 0 := fun z => (hb.mp z) ⟨ck.2.1, fun q => ck.2.2 q.symm⟩
                have z : σ 76 (6 * t + k) = mil (T 0) t k := by rw [mil_at (by omega) (by omega)]; exact hI.1.mi _ (by omega)
                rw [if_pos ck, ← z]
                simp (disch := omega) only [e_208_45, e_208_71, e_208_84, e_208_102, e_208_133, brI, not_true_eq_false, true_implies, false_implies, implies_true, and_true, cTag, cTgt, cLen, true_and, Int.toNat_natCast, retI_I, retR_R, retV_N, retL_L, ne_eq, Int.reduceEq, not_false_eq_true, x_isTownM L _ _ _ hw6, bI_0, e0, ct, le_t, le_f, lt_t, lt_f, eq_t, eq_f, w32_id, inb, if_true, if_false, not_true_eq_false, not_false_eq_true, and_true, true_and, and_false, false_and, or_true, true_or, or_false, false_or, Int.add_zero, Int.zero_add, and_self, or_self, Int.toNat_add, Int.toNat_mul, Int.toNat_natCast, Int.reduceToNat]
              · have hb1 : b = 0 := by rw [hb]; exact fun q => ck ⟨ct, q.1, fun z => q.2 z.symm⟩
                rw [if_neg ck]
                simp (disch := omega) only [e_208_45, e_208_71, e_208_81, brI, not_true_eq_false, true_implies, false_implies, implies_true, and_true, cTag, cTgt, cLen, true_and, Int.toNat_natCast, retI_I, retR_R, retV_N, retL_L, ne_eq, Int.reduceEq, not_false_eq_true, x_isTownM L _ _ _ hw6, bI_0, e0, ct, le_t, le_f, lt_t, lt_f, eq_t, eq_f, w32_id, inb, if_true, if_false, not_true_eq_false, not_false_eq_true, and_true, true_and, and_false, false_and, or_true, true_or, or_false, false_or, Int.add_zero, Int.zero_add, and_self, or_self]
            · by_cases r2 : r = 2
              · subst r2
                have n2 : ¬ two T t (10 * ((2 : Nat) : Int) + (k : Int) - 10) := by omega
                rw [if_neg n2, show 10 * ((2 : Nat) : Int) + (k : Int) - 20 = (k : Int) by omega]
                by_cases ck : two T t (k : Int)
                · have hb1 : ¬ b = 0 := fun z => (hb.mp z) ⟨ck.2.1, fun q => ck.2.2 q.symm⟩
                  have z : σ 77 (6 * t + k) = rul (T 0) t k := by rw [rul_at (by omega) (by omega)]; exact hI.1.ru _ (by omega)
                  rw [if_pos ck, ← z]
                  simp (disch := omega) only [e_208_45, e_208_71, e_208_84, e_208_102, e_208_122, e_208_133, brI, not_true_eq_false, true_implies, false_implies, implies_true, and_true, cTag, cTgt, cLen, true_and, Int.toNat_natCast, retI_I, retR_R, retV_N, retL_L, ne_eq, Int.reduceEq, not_false_eq_true, x_isTownM L _ _ _ hw6, bI_0, e0, ct, le_t, le_f, lt_t, lt_f, eq_t, eq_f, w32_id, inb, if_true, if_false, not_true_eq_false, not_false_eq_true, and_true, true_and, and_false, false_and, or_true, true_or, or_false, false_or, Int.add_zero, Int.zero_add, and_self, or_self, Int.toNat_add, Int.toNat_mul, Int.toNat_natCast, Int.reduceToNat]
                · have hb1 : b = 0 := by rw [hb]; exact fun q => ck ⟨ct, q.1, fun z => q.2 z.symm⟩
                  rw [if_neg ck]
                  simp (disch := omega) only [e_208_45, e_208_71, e_208_81, brI, not_true_eq_false, true_implies, false_implies, implies_true, and_true, cTag, cTgt, cLen, true_and, Int.toNat_natCast, retI_I, retR_R, retV_N, retL_L, ne_eq, Int.reduceEq, not_false_eq_true, x_isTownM L _ _ _ hw6, bI_0, e0, ct, le_t, le_f, lt_t, lt_f, eq_t, eq_f, w32_id, inb, if_true, if_false, not_true_eq_false, not_false_eq_true, and_true, true_and, and_false, false_and, or_true, true_or, or_false, false_or, Int.add_zero, Int.zero_add, and_self, or_self]
              · have n1 : ¬ two T t (10 * (r : Int) + (k : Int) - 10) := by omega
                have n2 : ¬ two T t (10 * (r : Int) + (k : Int) - 20) := by omega
                rw [if_neg n1, if_neg n2]
                simp (disch := omega) only [e_208_45, e_208_81, brI, not_true_eq_false, true_implies, false_implies, implies_true, and_true, cTag, cTgt, cLen, true_and, Int.toNat_natCast, retI_I, retR_R, retV_N, retL_L, ne_eq, Int.reduceEq, not_false_eq_true, x_isTownM L _ _ _ hw6, bI_0, e0, ct, le_t, le_f, lt_t, lt_f, eq_t, eq_f, w32_id, inb, if_true, if_false, not_true_eq_false, not_false_eq_true, and_true, true_and, and_false, false_and, or_true, true_or, or_false, false_or, Int.add_zero, Int.zero_add, and_self, or_self]
        · rw [if_neg ct]
          simp only [e_208_45, e_208_81, brI, not_true_eq_false, true_implies, false_implies, implies_true, and_true, cTag, cTgt, cLen, true_and, Int.toNat_natCast, retI_I, retR_R, retV_N, retL_L, ne_eq, Int.reduceEq, not_false_eq_true, x_isTownM L _ _ _ hw6, bI_0, e0, ct, if_true]
      by_cases ck : 0 ≤ (k : Int) ∧ (k : Int) < T 0 0 0
      · rw [if_neg (fun q => q ck)]
        by_cases ckt : (k : Int) = (t : Int)
        · rw [if_pos ckt]; exact go 0 ⟨fun _ q => q.2 ckt, fun _ => rfl⟩
        · rw [if_neg ckt]; exact go 1 ⟨fun z => absurd z (by decide), fun z => absurd ⟨ck, ckt⟩ z⟩
      · rw [if_pos ck]; exact go 0 ⟨fun _ q => ck q.1, fun _ => rfl⟩
/-! trodden -/
def a_trod (T : Ful) (t u w : Int) : Int := if two T t u then (if 0 ≤ w ∧ w ≤ 2 then (if mil (T 0) t u = 0 then -3 else tr3 (T 0) t u w) else -2) else -1
theorem c_trodden (hI : IC T σ) (hV : IV B T) (t u w : Int) : CO σ (X L 102 0 [some (xR 0), some (xI t), some (xI u), some (xI w), none] [] σ) (a_trod T t u w) T := by
  refine CO_n hI (fun Q => ?_)
  have e00 := hI.1.1 0 (by omega)
  have hn := hV.1.1
  unfold a_trod
  by_cases c : two T t u
  · rw [if_pos c]
    by_cases c2 : 0 ≤ w ∧ w ≤ 2
    · rw [if_pos c2]
      obtain ⟨a, rfl⟩ : ∃ a : Nat, t = (a : Int) := ⟨t.toNat, by omega⟩
      obtain ⟨b, rfl⟩ : ∃ b : Nat, u = (b : Int) := ⟨u.toNat, by omega⟩
      obtain ⟨f, rfl⟩ : ∃ f : Nat, w = (f : Int) := ⟨w.toNat, by omega⟩
      have hab : a ≠ b := by have := c.2.2; omega
      have hr := rnI_n (show a < 6 by omega) (show b < 6 by omega) hab
      have hl := rnn_lt (show a < 6 by omega) (show b < 6 by omega) hab
      have hmi := rc_mil (L := L) iV1 hI.1 hV.1 a b
      rw [hr] at hmi
      have hw : vA L σ 4 (3 * (rnn a b : Int) + (f : Int)) = tr3 (T 0) a b f := by
        have hlen : ((lenL L 4 : Nat) : Int) = 45 := gl_3 iV1 L
        unfold vA tr3
        rw [hlen, if_pos (by omega), if_pos (by omega)]
        simp only [Int.toNat_natCast]
        rw [show (3 * (rnn a b : Int) + (f : Int)).toNat = 3 * rnn a b + f by omega]
        unfold rnn
        by_cases q : a < b
        · rw [Nat.min_eq_left (by omega), Nat.max_eq_right (by omega)]
          exact hI.1.2.2.2.1 a b f q (by omega) (by omega)
        · rw [Nat.min_eq_right (by omega), Nat.max_eq_left (by omega), (hV.1.tr (a := a) (b := b) (f := f) (by omega) (by omega) (by omega)).2]
          exact hI.1.2.2.2.1 b a f (by omega) (by omega) (by omega)
      simp only [e_102_0, e_102_14, e_102_26, e_102_50, e_102_60, brI, not_true_eq_false, true_implies, false_implies, implies_true, and_true, cTag, cTgt, cLen, true_and, Int.toNat_natCast, retI_I, retR_R, retV_N, retL_L, ne_eq, Int.reduceEq, not_false_eq_true, x_two iV1, x_isWithin, bI_0, e00, c, c2, x_roadNumber, hr, x_milesOf iV1, hmi, x_wornBy iV1 (rnn a b : Int) (f : Int) (by omega) (by omega), hw, if_true, if_false, and_self]
      by_cases c3 : mil (T 0) a b = 0 <;> simp [c3]
    · rw [if_neg c2]
      simp only [e_102_0, e_102_14, brI, not_true_eq_false, true_implies, false_implies, implies_true, and_true, cTag, cTgt, cLen, true_and, Int.toNat_natCast, retI_I, retR_R, retV_N, retL_L, ne_eq, Int.reduceEq, not_false_eq_true, x_two iV1, x_isWithin, bI_0, e00, c, c2, if_true, if_false, and_self]
  · rw [if_neg c]
    simp only [e_102_0, brI, not_true_eq_false, true_implies, false_implies, implies_true, and_true, cTag, cTgt, cLen, true_and, Int.toNat_natCast, retI_I, retR_R, retV_N, retL_L, ne_eq, Int.reduceEq, not_false_eq_true, x_two iV1, bI_0, e00, c, if_true, if_false, and_self]
theorem m_trodden (hI : IM T σ) (hV : IV B T) (t u w : Int) : MO σ (X L 174 0 [some (xR 75), some (xI t), some (xI u), some (xI w)] [] σ) (a_trod T t u w) T := by
  refine MO_n hI (fun Q => ?_)
  have hn := hV.1.1
  have hw6 : 2 ≤ σ 75 0 ∧ σ 75 0 ≤ 6 := by rw [hI.tw]; exact hn
  unfold a_trod
  by_cases c : two T t u
  · rw [if_pos c]
    obtain ⟨d1, d2, d3⟩ := id c
    by_cases c2 : 0 ≤ w ∧ w ≤ 2
    · rw [if_pos c2]
      obtain ⟨a, rfl⟩ : ∃ a : Nat, t = (a : Int) := ⟨t.toNat, by omega⟩
      obtain ⟨b, rfl⟩ : ∃ b : Nat, u = (b : Int) := ⟨u.toNat, by omega⟩
      obtain ⟨f, rfl⟩ : ∃ f : Nat, w = (f : Int) := ⟨w.toNat, by omega⟩
      have hm : σ 76 (6 * a + b) = mil (T 0) a b := by rw [mil_at (by omega) (by omega)]; exact hI.1.mi _ (by omega)
      have hw : σ 78 (3 * (6 * a + b) + f) = tr3 (T 0) a b f := by
        unfold tr3; rw [if_pos (by omega)]; simp only [Int.toNat_natCast]; exact hI.1.tr _ (by omega)
      simp only [e_174_0, e_174_23, e_174_35, e_174_54, e_174_69, brI, not_true_eq_false, true_implies, false_implies, implies_true, and_true, cTag, cTgt, cLen, true_and, Int.toNat_natCast, retI_I, retR_R, retV_N, retL_L, ne_eq, Int.reduceEq, not_false_eq_true, x_in, x_isTownM L _ _ _ hw6, bI_0, hI.tw, d1, d2, d3, c2, if_true, if_false, and_self]
      simp (disch := omega) only [le_t, le_f, lt_t, lt_f, eq_t, eq_f, w32_id, inb, if_true, if_false, not_true_eq_false, not_false_eq_true, and_true, true_and, and_false, false_and, or_true, true_or, or_false, false_or, Int.add_zero, Int.zero_add, and_self, or_self, Int.toNat_add, Int.toNat_mul, Int.toNat_natCast, Int.reduceToNat, hm, hw, brI, not_true_eq_false, true_implies, false_implies, implies_true, and_true, cTag, cTgt, cLen, true_and, Int.toNat_natCast, retI_I, retR_R, retV_N, retL_L, ne_eq, Int.reduceEq, not_false_eq_true]
      by_cases c3 : mil (T 0) a b = 0 <;> simp [c3]
    · rw [if_neg c2]
      simp only [e_174_0, e_174_23, brI, not_true_eq_false, true_implies, false_implies, implies_true, and_true, cTag, cTgt, cLen, true_and, Int.toNat_natCast, retI_I, retR_R, retV_N, retL_L, ne_eq, Int.reduceEq, not_false_eq_true, x_in, x_isTownM L _ _ _ hw6, bI_0, hI.tw, d1, d2, d3, c2, if_true, if_false, and_self]
  · rw [if_neg c]
    simp only [e_174_0, e_174_21, brI, not_true_eq_false, true_implies, false_implies, implies_true, and_true, cTag, cTgt, cLen, true_and, Int.toNat_natCast, retI_I, retR_R, retV_N, retL_L, ne_eq, Int.reduceEq, not_false_eq_true, x_isTownM L _ _ _ hw6, bI_0, hI.tw]
    by_cases d1 : 0 ≤ t ∧ t < T 0 0 0
    · by_cases d2 : 0 ≤ u ∧ u < T 0 0 0
      · have d3 : t = u := Classical.byContradiction (fun q => c ⟨d1, d2, q⟩)
        simp only [d1, d2, d3, brI, not_true_eq_false, true_implies, false_implies, implies_true, and_true, cTag, cTgt, cLen, true_and, Int.toNat_natCast, retI_I, retR_R, retV_N, retL_L, ne_eq, Int.reduceEq, not_false_eq_true, if_false, if_true, and_self]
      · simp only [d1, d2, brI, not_true_eq_false, true_implies, false_implies, implies_true, and_true, cTag, cTgt, cLen, true_and, Int.toNat_natCast, retI_I, retR_R, retV_N, retL_L, ne_eq, Int.reduceEq, not_false_eq_true, if_false, if_true, and_self]
    · simp only [d1, brI, not_true_eq_false, true_implies, false_implies, implies_true, and_true, cTag, cTgt, cLen, true_and, Int.toNat_natCast, retI_I, retR_R, retV_N, retL_L, ne_eq, Int.reduceEq, not_false_eq_true, if_false, if_true]
/-! a PERSON's state -/
def a_state (T : Ful) (p w : Int) : Int := if thr (T 0) p = 0 then -1 else if 0 ≤ w ∧ w ≤ 6 then anw (T 0 (8 + p.toNat)) w (T 0 0 2) else -2
theorem x_answerV {p : Nat} (hv : IsV v) (hR : RC v S σ) (hS : VS B S) (hB : B ≤ 1000000) (hp : p < 4) (w : Int) (Q : PQ) : X L 40 0 [some (xR (v + 11 + p)), some (xI w), some (xI (S 0 2))] [] σ Q = Q (some (xI (anw (S (8 + p)) w (S 0 2)))) σ := by
  obtain ⟨a1, a2, a3, a4, a5, a6, a7, a8, a9, a10, a11, a12⟩ := hS.p hp
  rw [x_answer (gt_p hv hp) w _ hS.2.2.1.1 (by rw [hR.p hp (by omega)]; exact a7) (by rw [hR.p hp (by omega)]; exact a8) (by rw [hR.p hp (by omega)]; omega) (by rw [hR.p hp (by omega)]; omega)]
  have e : anw (σ (v + 11 + p)) w (S 0 2) = anw (S (8 + p)) w (S 0 2) := by
    unfold anw
    rw [bI_c (RC_lmp hR hp (S 0 2)), hR.p hp (by omega), hR.p hp (by omega), hR.p hp (by omega), hR.p hp (by omega), hR.p hp (by omega), hR.p hp (by omega), hR.p hp (by omega)]
  rw [e]
theorem c_state (hI : IC T σ) (hV : IV B T) (hB : B ≤ 1000000) (p w : Int) : CO σ (X L 100 0 [some (xR 0), some (xI p), some (xI w)] [] σ) (a_state T p w) T := by
  refine CO_n hI (fun Q => ?_)
  unfold a_state
  by_cases c : thr (T 0) p = 0
  · rw [if_pos c]
    simp only [e_100_0, brI, not_true_eq_false, true_implies, false_implies, implies_true, and_true, cTag, cTgt, cLen, true_and, Int.toNat_natCast, retI_I, retR_R, retV_N, retL_L, ne_eq, Int.reduceEq, not_false_eq_true, x_isThere iV1 hI.1 hV.1, c, if_true, if_false]
  · rw [if_neg c]
    obtain ⟨q, hq, rfl, -⟩ := thr_in (B := B) c
    by_cases c2 : 0 ≤ w ∧ w ≤ 6
    · rw [if_pos c2, Int.toNat_natCast]
      have e2 := hI.1.1 2 (by omega)
      have ha := x_answerV (L := L) iV1 hI.1 hV.1 hB hq w
      simp only [e_100_0, e_100_13, e_100_26, brI, not_true_eq_false, true_implies, false_implies, implies_true, and_true, cTag, cTgt, cLen, true_and, Int.toNat_natCast, retI_I, retR_R, retV_N, retL_L, ne_eq, Int.reduceEq, not_false_eq_true, x_isThere iV1 hI.1 hV.1, c, x_isWithin, bI_0, c2, x_personAt iV1 hq, gt_p iV1 hq, e2, ha, if_true, if_false, and_self]
    · rw [if_neg c2]
      simp only [e_100_0, e_100_13, brI, not_true_eq_false, true_implies, false_implies, implies_true, and_true, cTag, cTgt, cLen, true_and, Int.toNat_natCast, retI_I, retR_R, retV_N, retL_L, ne_eq, Int.reduceEq, not_false_eq_true, x_isThere iV1 hI.1 hV.1, c, x_isWithin, bI_0, c2, if_true, if_false]
theorem x_stateNow (hS : VS B S) (hB : B ≤ 1000000) (hM : RM (vN σ) S) {p : Nat} (hp : p < 4) (ht : S (8 + p) 0 = 1) {w : Int} (hw : 0 ≤ w ∧ w ≤ 6) (Q : PQ) : X L 171 0 [some (xR 75), some (xI (p : Int)), some (xI w)] [] σ Q = Q (some (xI (anw (S (8 + p)) w (S 0 2)))) σ := by
  have hP := hM.pp p hp ht
  have s1 : σ 91 p = S (8 + p) 5 := hP.pu
  have s2 : σ 92 p = S (8 + p) 2 := hP.pl
  have s3 : σ 93 p = S (8 + p) 6 + 2 * S (8 + p) 7 := hP.sh
  have s4 : σ 94 (2 * p) = S (8 + p) 8 := hP.wl
  have s5 : σ 94 (2 * p + 1) = S (8 + p) 9 := hP.wr
  have s6 : σ 95 p = S (8 + p) 10 := hP.wk
  simp only [e_171_0, e_171_40, e_171_47, e_171_54, e_171_61, e_171_70, e_171_81, e_171_93, e_171_94, e_171_95, brI, not_true_eq_false, true_implies, false_implies, implies_true, and_true, cTag, cTgt, cLen, true_and, Int.toNat_natCast, retI_I, retR_R, retV_N, retL_L, ne_eq, Int.reduceEq, not_false_eq_true, x_limpsNow hS hB hM hp ht, bI_0]
  simp (disch := omega) only [w32_id, inb, true_and, Int.toNat_add, Int.toNat_mul, Int.toNat_natCast, Int.reduceToNat, s1, s2, s3, s4, s5, s6]
  unfold anw
  by_cases w0 : w = 0
  · simp [w0]
  by_cases w1 : w = 1
  · simp [w1]
  by_cases w2 : w = 2
  · simp [w2]
  by_cases w3 : w = 3
  · simp [w3]
  by_cases w4 : w = 4
  · simp [w4]
  by_cases w5 : w = 5
  · by_cases hl : lmp (S (8 + p)) (S 0 2)
    · simp only [w5, bI, if_pos hl]; simp [hl]
    · simp only [w5, bI, if_neg hl]; simp [hl]
  · simp [w0, w1, w2, w3, w4, w5]
theorem FrM_N (h : FrN σ τ) : FrM σ τ := ⟨fun o ho => h o (by omega), fun j _ => by rw [h 75 (by omega)]⟩
theorem m_state (hI : IM T σ) (hV : IV B T) (hB : B ≤ 1000000) (p w : Int) : MO σ (X L 172 0 [some (xR 75), some (xI p), some (xI w)] [] σ) (a_state T p w) T := by
  unfold a_state
  by_cases c : thr (T 0) p = 0
  · rw [if_pos c]
    refine MO_n hI (fun Q => ?_)
    simp only [e_172_0, brI, not_true_eq_false, true_implies, false_implies, implies_true, and_true, cTag, cTgt, cLen, true_and, Int.toNat_natCast, retI_I, retR_R, retV_N, retL_L, ne_eq, Int.reduceEq, not_false_eq_true, x_isThereM hV.1 hI.th, c, if_true, if_false]
  · rw [if_neg c]
    obtain ⟨q, hq, rfl, h1⟩ := thr_in (B := B) c
    by_cases c2 : 0 ≤ w ∧ w ≤ 6
    · rw [if_pos c2, Int.toNat_natCast]
      obtain ⟨τ, e, hM, hF⟩ := x_asNow (L := L) hI.1
      have hs := x_stateNow (L := L) hV.1 hB hM hq (h1 hV.1) c2
      refine ⟨τ, fun Q => ?_, IM_Q hI (FrM_N hF), fun o ho => hF o (by omega)⟩
      simp only [e_172_0, e_172_10, e_172_23, brI, not_true_eq_false, true_implies, false_implies, implies_true, and_true, cTag, cTgt, cLen, true_and, Int.toNat_natCast, retI_I, retR_R, retV_N, retL_L, ne_eq, Int.reduceEq, not_false_eq_true, x_isThereM hV.1 hI.th, c, x_in, bI_0, c2, e, hs, if_true, if_false, and_self]
    · rw [if_neg c2]
      refine MO_n hI (fun Q => ?_)
      simp only [e_172_0, e_172_10, brI, not_true_eq_false, true_implies, false_implies, implies_true, and_true, cTag, cTgt, cLen, true_and, Int.toNat_natCast, retI_I, retR_R, retV_N, retL_L, ne_eq, Int.reduceEq, not_false_eq_true, x_isThereM hV.1 hI.th, c, x_in, bI_0, c2, if_true, if_false]
end Told
