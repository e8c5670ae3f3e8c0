/-! the law: what holds between two calls -/
section LawA
variable {B : Int} {S σ τ : Mem} {L : Nat} {T : Ful} {xs : Nat → Int32}
def Inv (xs : Nat → Int32) (B : Int) (T : Ful) (σ : Mem) : Prop := IC T σ ∧ IM T σ ∧ IV B T ∧ ∀ j, σ 104 j = (xs j).toInt
def Nxt (L : Nat) (xs : Nat → Int32) (B : Int) (i pc : Nat) (σ : Mem) : Prop := ∃ τ T', (∀ Q : PQ, X L 213 pc [some (xR 104), some (xR 0), some (xR 75), some (xI (i : Int))] [] σ Q = X L 213 1344 [some (xR 104), some (xR 0), some (xR 75), some (xI (i : Int))] [] τ Q) ∧ Inv xs (B + 540) T' τ
theorem Nxt_mk {T' : Ful} {B' : Int} {τ1 τ2 : Mem} (hV' : IV B' T') (hB' : B' ≤ B + 540) (hC1 : IC T' τ1) (hM2 : IM T' τ2) (hF1 : ∀ o, 75 ≤ o → τ1 o = σ o) (hF2 : ∀ o, o < 75 ∨ 104 ≤ o → τ2 o = τ1 o) (h4 : ∀ j, σ 104 j = (xs j).toInt) : Inv xs (B + 540) T' τ2 :=
  ⟨IC_M hC1 (fun o ho => hF2 o (Or.inl ho)), hM2, hV'.mono hB', fun j => by rw [hF2 104 (by omega), hF1 104 (by omega)]; exact h4 j⟩
theorem t104 : tag 104 = 9 := rfl
theorem l104 : ((lenL L 104 : Nat) : Int) = (L : Int) := by simp [lenL]
theorem cmpL_s (x : Int) : cmpL x x = 0 := by simp [cmpL]
theorem wI {i : Nat} (hi : i + 6 ≤ L) (hL : L ≤ 384) : w32 ((i : Int) + 1) = ((i + 1 : Nat) : Int) ∧ w32 ((i : Int) + 2) = ((i + 2 : Nat) : Int) ∧ w32 ((i : Int) + 3) = ((i + 3 : Nat) : Int) ∧ w32 ((i : Int) + 4) = ((i + 4 : Nat) : Int) ∧ w32 ((i : Int) + 5) = ((i + 5 : Nat) : Int) := by
  refine ⟨?_, ?_, ?_, ?_, ?_⟩ <;> (rw [w32_id (by omega) (by omega)]; omega)
theorem bI5 {i : Nat} (hi : i + 6 ≤ L) : (0 ≤ ((i + 1 : Nat) : Int) ∧ ((i + 1 : Nat) : Int) < (L : Int)) ∧ (0 ≤ ((i + 2 : Nat) : Int) ∧ ((i + 2 : Nat) : Int) < (L : Int)) ∧ (0 ≤ ((i + 3 : Nat) : Int) ∧ ((i + 3 : Nat) : Int) < (L : Int)) ∧ (0 ≤ ((i + 4 : Nat) : Int) ∧ ((i + 4 : Nat) : Int) < (L : Int)) ∧ (0 ≤ ((i + 5 : Nat) : Int) ∧ ((i + 5 : Nat) : Int) < (L : Int)) := by omega
theorem op_0 (H : Inv xs B T σ) {i : Nat} (hi : i + 6 ≤ L) (hL : L ≤ 384) (hB0 : 0 ≤ B) (hb6 : B ≤ 600000) : Nxt L xs B i 188 σ := by
  obtain ⟨hC, hM, hV, h4⟩ := H
  have hb8 : B ≤ 800000 := by omega
  have hb10 : B ≤ 1000000 := by omega
  obtain ⟨w1, w2, w3, w4, w5⟩ := wI hi hL
  obtain ⟨b1, b2, b3, b4, b5⟩ := bI5 hi
  obtain ⟨τ1, e1, hC1, hF1⟩ := c_towns (L := L) hC (σ 104 (i + 1))
  have hM1 := IM_C hM hF1
  obtain ⟨τ2, e2, hM2, hF2⟩ := m_towns (L := L) hM1 hV (σ 104 (i + 1))
  have h14 : τ1 104 = σ 104 := hF1 104 (by omega)
  refine ⟨τ2, _, fun Q => ?_, Nxt_mk (v_towns hV hB0 (σ 104 (i + 1))) (by omega) hC1 hM2 hF1 hF2 h4⟩
  rw [e_213_188]
  simp only [brI, not_true_eq_false, true_implies, false_implies, implies_true, and_true, cTag, cTgt, cLen, true_and, Int.toNat_natCast, retI_I, retR_R, retV_N, retL_L, ne_eq, Int.reduceEq, not_false_eq_true, t104, l104, w1, w2, w3, w4, w5, b1, b2, b3, b4, b5, h14, e1, e2, cmpL_s, eq_self, if_true]
theorem op_1 (H : Inv xs B T σ) {i : Nat} (hi : i + 6 ≤ L) (hL : L ≤ 384) (hB0 : 0 ≤ B) (hb6 : B ≤ 600000) : Nxt L xs B i 211 σ := by
  obtain ⟨hC, hM, hV, h4⟩ := H
  have hb8 : B ≤ 800000 := by omega
  have hb10 : B ≤ 1000000 := by omega
  obtain ⟨w1, w2, w3, w4, w5⟩ := wI hi hL
  obtain ⟨b1, b2, b3, b4, b5⟩ := bI5 hi
  obtain ⟨τ1, e1, hC1, hF1⟩ := c_road (L := L) hC hV (σ 104 (i + 1)) (σ 104 (i + 2)) (σ 104 (i + 3)) (σ 104 (i + 4))
  have hM1 := IM_C hM hF1
  obtain ⟨τ2, e2, hM2, hF2⟩ := m_road (L := L) hM1 hV (σ 104 (i + 1)) (σ 104 (i + 2)) (σ 104 (i + 3)) (σ 104 (i + 4))
  have h14 : τ1 104 = σ 104 := hF1 104 (by omega)
  refine ⟨τ2, _, fun Q => ?_, Nxt_mk (v_road hV hB0 (σ 104 (i + 1)) (σ 104 (i + 2)) (σ 104 (i + 3)) (σ 104 (i + 4))) (by omega) hC1 hM2 hF1 hF2 h4⟩
  rw [e_213_211]
  simp only [brI, not_true_eq_false, true_implies, false_implies, implies_true, and_true, cTag, cTgt, cLen, true_and, Int.toNat_natCast, retI_I, retR_R, retV_N, retL_L, ne_eq, Int.reduceEq, not_false_eq_true, t104, l104, w1, w2, w3, w4, w5, b1, b2, b3, b4, b5, h14, e1, e2, cmpL_s, eq_self, if_true]
theorem op_2 (H : Inv xs B T σ) {i : Nat} (hi : i + 6 ≤ L) (hL : L ≤ 384) (hB0 : 0 ≤ B) (hb6 : B ≤ 600000) : Nxt L xs B i 264 σ := by
  obtain ⟨hC, hM, hV, h4⟩ := H
  have hb8 : B ≤ 800000 := by omega
  have hb10 : B ≤ 1000000 := by omega
  obtain ⟨w1, w2, w3, w4, w5⟩ := wI hi hL
  obtain ⟨b1, b2, b3, b4, b5⟩ := bI5 hi
  obtain ⟨τ1, e1, hC1, hF1⟩ := c_shop (L := L) hC hV (σ 104 (i + 1)) (σ 104 (i + 2)) (σ 104 (i + 3))
  have hM1 := IM_C hM hF1
  obtain ⟨τ2, e2, hM2, hF2⟩ := m_shop (L := L) hM1 hV (σ 104 (i + 1)) (σ 104 (i + 2)) (σ 104 (i + 3))
  have h14 : τ1 104 = σ 104 := hF1 104 (by omega)
  refine ⟨τ2, _, fun Q => ?_, Nxt_mk (v_shop hV (σ 104 (i + 1)) (σ 104 (i + 2)) (σ 104 (i + 3))) (by omega) hC1 hM2 hF1 hF2 h4⟩
  rw [e_213_264]
  simp only [brI, not_true_eq_false, true_implies, false_implies, implies_true, and_true, cTag, cTgt, cLen, true_and, Int.toNat_natCast, retI_I, retR_R, retV_N, retL_L, ne_eq, Int.reduceEq, not_false_eq_true, t104, l104, w1, w2, w3, w4, w5, b1, b2, b3, b4, b5, h14, e1, e2, cmpL_s, eq_self, if_true]
theorem op_3 (H : Inv xs B T σ) {i : Nat} (hi : i + 6 ≤ L) (hL : L ≤ 384) (hB0 : 0 ≤ B) (hb6 : B ≤ 600000) : Nxt L xs B i 307 σ := by
  obtain ⟨hC, hM, hV, h4⟩ := H
  have hb8 : B ≤ 800000 := by omega
  have hb10 : B ≤ 1000000 := by omega
  obtain ⟨w1, w2, w3, w4, w5⟩ := wI hi hL
  obtain ⟨b1, b2, b3, b4, b5⟩ := bI5 hi
  obtain ⟨τ1, e1, hC1, hF1⟩ := c_stock (L := L) hC hV (σ 104 (i + 1)) (σ 104 (i + 2)) (σ 104 (i + 3))
  have hM1 := IM_C hM hF1
  obtain ⟨τ2, e2, hM2, hF2⟩ := m_stock (L := L) hM1 hV (σ 104 (i + 1)) (σ 104 (i + 2)) (σ 104 (i + 3))
  have h14 : τ1 104 = σ 104 := hF1 104 (by omega)
  refine ⟨τ2, _, fun Q => ?_, Nxt_mk (v_stock hV (σ 104 (i + 1)) (σ 104 (i + 2)) (σ 104 (i + 3))) (by omega) hC1 hM2 hF1 hF2 h4⟩
  rw [e_213_307]
  simp only [brI, not_true_eq_false, true_implies, false_implies, implies_true, and_true, cTag, cTgt, cLen, true_and, Int.toNat_natCast, retI_I, retR_R, retV_N, retL_L, ne_eq, Int.reduceEq, not_false_eq_true, t104, l104, w1, w2, w3, w4, w5, b1, b2, b3, b4, b5, h14, e1, e2, cmpL_s, eq_self, if_true]
theorem op_4 (H : Inv xs B T σ) {i : Nat} (hi : i + 6 ≤ L) (hL : L ≤ 384) (hB0 : 0 ≤ B) (hb6 : B ≤ 600000) : Nxt L xs B i 350 σ := by
  obtain ⟨hC, hM, hV, h4⟩ := H
  have hb8 : B ≤ 800000 := by omega
  have hb10 : B ≤ 1000000 := by omega
  obtain ⟨w1, w2, w3, w4, w5⟩ := wI hi hL
  obtain ⟨b1, b2, b3, b4, b5⟩ := bI5 hi
  obtain ⟨τ1, e1, hC1, hF1⟩ := c_person (L := L) hC hV hB0 (σ 104 (i + 1)) (σ 104 (i + 2)) (σ 104 (i + 3)) (σ 104 (i + 4)) (σ 104 (i + 5))
  have hM1 := IM_C hM hF1
  obtain ⟨τ2, e2, hM2, hF2⟩ := m_person (L := L) hM1 hV hB0 (σ 104 (i + 1)) (σ 104 (i + 2)) (σ 104 (i + 3)) (σ 104 (i + 4)) (σ 104 (i + 5))
  have h14 : τ1 104 = σ 104 := hF1 104 (by omega)
  refine ⟨τ2, _, fun Q => ?_, Nxt_mk (v_person hV hB0 (σ 104 (i + 1)) (σ 104 (i + 2)) (σ 104 (i + 3)) (σ 104 (i + 4)) (σ 104 (i + 5))) (by omega) hC1 hM2 hF1 hF2 h4⟩
  rw [e_213_350]
  simp only [brI, not_true_eq_false, true_implies, false_implies, implies_true, and_true, cTag, cTgt, cLen, true_and, Int.toNat_natCast, retI_I, retR_R, retV_N, retL_L, ne_eq, Int.reduceEq, not_false_eq_true, t104, l104, w1, w2, w3, w4, w5, b1, b2, b3, b4, b5, h14, e1, e2, cmpL_s, eq_self, if_true]
theorem op_5 (H : Inv xs B T σ) {i : Nat} (hi : i + 6 ≤ L) (hL : L ≤ 384) (hB0 : 0 ≤ B) (hb6 : B ≤ 600000) : Nxt L xs B i 413 σ := by
  obtain ⟨hC, hM, hV, h4⟩ := H
  have hb8 : B ≤ 800000 := by omega
  have hb10 : B ≤ 1000000 := by omega
  obtain ⟨w1, w2, w3, w4, w5⟩ := wI hi hL
  obtain ⟨b1, b2, b3, b4, b5⟩ := bI5 hi
  obtain ⟨τ1, e1, hC1, hF1⟩ := c_leave (L := L) hC hV hB0 (σ 104 (i + 1))
  have hM1 := IM_C hM hF1
  obtain ⟨τ2, e2, hM2, hF2⟩ := m_leave (L := L) hM1 hV hB0 (σ 104 (i + 1))
  have h14 : τ1 104 = σ 104 := hF1 104 (by omega)
  refine ⟨τ2, _, fun Q => ?_, Nxt_mk (v_leave hV hB0 (σ 104 (i + 1))) (by omega) hC1 hM2 hF1 hF2 h4⟩
  rw [e_213_413]
  simp only [brI, not_true_eq_false, true_implies, false_implies, implies_true, and_true, cTag, cTgt, cLen, true_and, Int.toNat_natCast, retI_I, retR_R, retV_N, retL_L, ne_eq, Int.reduceEq, not_false_eq_true, t104, l104, w1, w2, w3, w4, w5, b1, b2, b3, b4, b5, h14, e1, e2, cmpL_s, eq_self, if_true]
theorem op_6 (H : Inv xs B T σ) {i : Nat} (hi : i + 6 ≤ L) (hL : L ≤ 384) (hB0 : 0 ≤ B) (hb6 : B ≤ 600000) : Nxt L xs B i 436 σ := by
  obtain ⟨hC, hM, hV, h4⟩ := H
  have hb8 : B ≤ 800000 := by omega
  have hb10 : B ≤ 1000000 := by omega
  obtain ⟨w1, w2, w3, w4, w5⟩ := wI hi hL
  obtain ⟨b1, b2, b3, b4, b5⟩ := bI5 hi
  obtain ⟨τ1, e1, hC1, hF1⟩ := c_set (L := L) hC (σ 104 (i + 1)) (σ 104 (i + 2))
  have hM1 := IM_C hM hF1
  obtain ⟨τ2, e2, hM2, hF2⟩ := m_set (L := L) hM1 (σ 104 (i + 1)) (σ 104 (i + 2))
  have h14 : τ1 104 = σ 104 := hF1 104 (by omega)
  refine ⟨τ2, _, fun Q => ?_, Nxt_mk (v_set hV (σ 104 (i + 1)) (σ 104 (i + 2))) (by omega) hC1 hM2 hF1 hF2 h4⟩
  rw [e_213_436]
  simp only [brI, not_true_eq_false, true_implies, false_implies, implies_true, and_true, cTag, cTgt, cLen, true_and, Int.toNat_natCast, retI_I, retR_R, retV_N, retL_L, ne_eq, Int.reduceEq, not_false_eq_true, t104, l104, w1, w2, w3, w4, w5, b1, b2, b3, b4, b5, h14, e1, e2, cmpL_s, eq_self, if_true]
theorem op_7 (H : Inv xs B T σ) {i : Nat} (hi : i + 6 ≤ L) (hL : L ≤ 384) (hB0 : 0 ≤ B) (hb6 : B ≤ 600000) : Nxt L xs B i 469 σ := by
  obtain ⟨hC, hM, hV, h4⟩ := H
  have hb8 : B ≤ 800000 := by omega
  have hb10 : B ≤ 1000000 := by omega
  obtain ⟨w1, w2, w3, w4, w5⟩ := wI hi hL
  obtain ⟨b1, b2, b3, b4, b5⟩ := bI5 hi
  obtain ⟨τ1, e1, hC1, hF1⟩ := c_say (L := L) hC hV (σ 104 (i + 1))
  have hM1 := IM_C hM hF1
  obtain ⟨τ2, e2, hM2, hF2⟩ := m_say (L := L) hM1 hV (σ 104 (i + 1))
  have h14 : τ1 104 = σ 104 := hF1 104 (by omega)
  refine ⟨τ2, _, fun Q => ?_, Nxt_mk (v_say hV (σ 104 (i + 1))) (by omega) hC1 hM2 hF1 hF2 h4⟩
  rw [e_213_469]
  simp only [brI, not_true_eq_false, true_implies, false_implies, implies_true, and_true, cTag, cTgt, cLen, true_and, Int.toNat_natCast, retI_I, retR_R, retV_N, retL_L, ne_eq, Int.reduceEq, not_false_eq_true, t104, l104, w1, w2, w3, w4, w5, b1, b2, b3, b4, b5, h14, e1, e2, cmpL_s, eq_self, if_true]
theorem op_8 (H : Inv xs B T σ) {i : Nat} (hi : i + 6 ≤ L) (hL : L ≤ 384) (hB0 : 0 ≤ B) (hb6 : B ≤ 600000) : Nxt L xs B i 492 σ := by
  obtain ⟨hC, hM, hV, h4⟩ := H
  have hb8 : B ≤ 800000 := by omega
  have hb10 : B ≤ 1000000 := by omega
  obtain ⟨w1, w2, w3, w4, w5⟩ := wI hi hL
  obtain ⟨b1, b2, b3, b4, b5⟩ := bI5 hi
  obtain ⟨τ1, e1, hC1, hF1⟩ := c_wipe (L := L) hC 
  have hM1 := IM_C hM hF1
  obtain ⟨τ2, e2, hM2, hF2⟩ := m_wipe (L := L) hM1 
  have h14 : τ1 104 = σ 104 := hF1 104 (by omega)
  refine ⟨τ2, _, fun Q => ?_, Nxt_mk (v_wipe hV ) (by omega) hC1 hM2 hF1 hF2 h4⟩
  rw [e_213_492]
  simp only [brI, not_true_eq_false, true_implies, false_implies, implies_true, and_true, cTag, cTgt, cLen, true_and, Int.toNat_natCast, retI_I, retR_R, retV_N, retL_L, ne_eq, Int.reduceEq, not_false_eq_true, t104, l104, w1, w2, w3, w4, w5, b1, b2, b3, b4, b5, h14, e1, e2, cmpL_s, eq_self, if_true]
theorem op_9 (H : Inv xs B T σ) {i : Nat} (hi : i + 6 ≤ L) (hL : L ≤ 384) (hB0 : 0 ≤ B) (hb6 : B ≤ 600000) : Nxt L xs B i 505 σ := by
  obtain ⟨hC, hM, hV, h4⟩ := H
  have hb8 : B ≤ 800000 := by omega
  have hb10 : B ≤ 1000000 := by omega
  obtain ⟨w1, w2, w3, w4, w5⟩ := wI hi hL
  obtain ⟨b1, b2, b3, b4, b5⟩ := bI5 hi
  obtain ⟨τ1, e1, hC1, hF1⟩ := c_fault (L := L) hC hV 
  have hM1 := IM_C hM hF1
  obtain ⟨τ2, e2, hM2, hF2⟩ := m_fault (L := L) hM1 hV 
  have h14 : τ1 104 = σ 104 := hF1 104 (by omega)
  refine ⟨τ2, _, fun Q => ?_, Nxt_mk hV (by omega) hC1 hM2 hF1 hF2 h4⟩
  rw [e_213_505]
  simp only [brI, not_true_eq_false, true_implies, false_implies, implies_true, and_true, cTag, cTgt, cLen, true_and, Int.toNat_natCast, retI_I, retR_R, retV_N, retL_L, ne_eq, Int.reduceEq, not_false_eq_true, t104, l104, w1, w2, w3, w4, w5, b1, b2, b3, b4, b5, h14, e1, e2, cmpL_s, eq_self, if_true]
theorem op_10 (H : Inv xs B T σ) {i : Nat} (hi : i + 6 ≤ L) (hL : L ≤ 384) (hB0 : 0 ≤ B) (hb6 : B ≤ 600000) : Nxt L xs B i 518 σ := by
  obtain ⟨hC, hM, hV, h4⟩ := H
  have hb8 : B ≤ 800000 := by omega
  have hb10 : B ≤ 1000000 := by omega
  obtain ⟨w1, w2, w3, w4, w5⟩ := wI hi hL
  obtain ⟨b1, b2, b3, b4, b5⟩ := bI5 hi
  obtain ⟨τ1, e1, hC1, hF1⟩ := c_judge (L := L) hC hV hB0 hb8 (σ 104 (i + 1))
  have hM1 := IM_C hM hF1
  obtain ⟨τ2, e2, hM2, hF2⟩ := m_judge (L := L) hM1 hV hB0 hb8 (σ 104 (i + 1))
  have h14 : τ1 104 = σ 104 := hF1 104 (by omega)
  refine ⟨τ2, _, fun Q => ?_, Nxt_mk hV (by omega) hC1 hM2 hF1 hF2 h4⟩
  rw [e_213_518]
  simp only [brI, not_true_eq_false, true_implies, false_implies, implies_true, and_true, cTag, cTgt, cLen, true_and, Int.toNat_natCast, retI_I, retR_R, retV_N, retL_L, ne_eq, Int.reduceEq, not_false_eq_true, t104, l104, w1, w2, w3, w4, w5, b1, b2, b3, b4, b5, h14, e1, e2, cmpL_s, eq_self, if_true]
theorem op_11 (H : Inv xs B T σ) {i : Nat} (hi : i + 6 ≤ L) (hL : L ≤ 384) (hB0 : 0 ≤ B) (hb6 : B ≤ 600000) : Nxt L xs B i 541 σ := by
  obtain ⟨hC, hM, hV, h4⟩ := H
  have hb8 : B ≤ 800000 := by omega
  have hb10 : B ≤ 1000000 := by omega
  obtain ⟨w1, w2, w3, w4, w5⟩ := wI hi hL
  obtain ⟨b1, b2, b3, b4, b5⟩ := bI5 hi
  obtain ⟨τ1, e1, hC1, hF1⟩ := c_done (L := L) hC hV hB0 hb8 
  have hM1 := IM_C hM hF1
  obtain ⟨τ2, e2, hM2, hF2⟩ := m_done (L := L) hM1 hV hB0 hb8 
  have h14 : τ1 104 = σ 104 := hF1 104 (by omega)
  refine ⟨τ2, _, fun Q => ?_, Nxt_mk (v_done hV hB0 ) (by omega) hC1 hM2 hF1 hF2 h4⟩
  rw [e_213_541]
  simp only [brI, not_true_eq_false, true_implies, false_implies, implies_true, and_true, cTag, cTgt, cLen, true_and, Int.toNat_natCast, retI_I, retR_R, retV_N, retL_L, ne_eq, Int.reduceEq, not_false_eq_true, t104, l104, w1, w2, w3, w4, w5, b1, b2, b3, b4, b5, h14, e1, e2, cmpL_s, eq_self, if_true]
theorem op_12 (H : Inv xs B T σ) {i : Nat} (hi : i + 6 ≤ L) (hL : L ≤ 384) (hB0 : 0 ≤ B) (hb6 : B ≤ 600000) : Nxt L xs B i 554 σ := by
  obtain ⟨hC, hM, hV, h4⟩ := H
  have hb8 : B ≤ 800000 := by omega
  have hb10 : B ≤ 1000000 := by omega
  obtain ⟨w1, w2, w3, w4, w5⟩ := wI hi hL
  obtain ⟨b1, b2, b3, b4, b5⟩ := bI5 hi
  obtain ⟨τ1, e1, hC1, hF1⟩ := c_state (L := L) hC hV hb10 (σ 104 (i + 1)) (σ 104 (i + 2))
  have hM1 := IM_C hM hF1
  obtain ⟨τ2, e2, hM2, hF2⟩ := m_state (L := L) hM1 hV hb10 (σ 104 (i + 1)) (σ 104 (i + 2))
  have h14 : τ1 104 = σ 104 := hF1 104 (by omega)
  refine ⟨τ2, _, fun Q => ?_, Nxt_mk hV (by omega) hC1 hM2 hF1 hF2 h4⟩
  rw [e_213_554]
  simp only [brI, not_true_eq_false, true_implies, false_implies, implies_true, and_true, cTag, cTgt, cLen, true_and, Int.toNat_natCast, retI_I, retR_R, retV_N, retL_L, ne_eq, Int.reduceEq, not_false_eq_true, t104, l104, w1, w2, w3, w4, w5, b1, b2, b3, b4, b5, h14, e1, e2, cmpL_s, eq_self, if_true]
theorem op_13 (H : Inv xs B T σ) {i : Nat} (hi : i + 6 ≤ L) (hL : L ≤ 384) (hB0 : 0 ≤ B) (hb6 : B ≤ 600000) : Nxt L xs B i 587 σ := by
  obtain ⟨hC, hM, hV, h4⟩ := H
  have hb8 : B ≤ 800000 := by omega
  have hb10 : B ≤ 1000000 := by omega
  obtain ⟨w1, w2, w3, w4, w5⟩ := wI hi hL
  obtain ⟨b1, b2, b3, b4, b5⟩ := bI5 hi
  obtain ⟨τ1, e1, hC1, hF1⟩ := c_behind (L := L) hC hV hB0 hb8 (σ 104 (i + 1)) (σ 104 (i + 2))
  have hM1 := IM_C hM hF1
  obtain ⟨τ2, e2, hM2, hF2⟩ := m_behind (L := L) hM1 hV hB0 hb8 (σ 104 (i + 1)) (σ 104 (i + 2))
  have h14 : τ1 104 = σ 104 := hF1 104 (by omega)
  refine ⟨τ2, _, fun Q => ?_, Nxt_mk hV (by omega) hC1 hM2 hF1 hF2 h4⟩
  rw [e_213_587]
  simp only [brI, not_true_eq_false, true_implies, false_implies, implies_true, and_true, cTag, cTgt, cLen, true_and, Int.toNat_natCast, retI_I, retR_R, retV_N, retL_L, ne_eq, Int.reduceEq, not_false_eq_true, t104, l104, w1, w2, w3, w4, w5, b1, b2, b3, b4, b5, h14, e1, e2, cmpL_s, eq_self, if_true]
theorem op_14 (H : Inv xs B T σ) {i : Nat} (hi : i + 6 ≤ L) (hL : L ≤ 384) (hB0 : 0 ≤ B) (hb6 : B ≤ 600000) : Nxt L xs B i 620 σ := by
  obtain ⟨hC, hM, hV, h4⟩ := H
  have hb8 : B ≤ 800000 := by omega
  have hb10 : B ≤ 1000000 := by omega
  obtain ⟨w1, w2, w3, w4, w5⟩ := wI hi hL
  obtain ⟨b1, b2, b3, b4, b5⟩ := bI5 hi
  obtain ⟨τ1, e1, hC1, hF1⟩ := c_trodden (L := L) hC hV (σ 104 (i + 1)) (σ 104 (i + 2)) (σ 104 (i + 3))
  have hM1 := IM_C hM hF1
  obtain ⟨τ2, e2, hM2, hF2⟩ := m_trodden (L := L) hM1 hV (σ 104 (i + 1)) (σ 104 (i + 2)) (σ 104 (i + 3))
  have h14 : τ1 104 = σ 104 := hF1 104 (by omega)
  refine ⟨τ2, _, fun Q => ?_, Nxt_mk hV (by omega) hC1 hM2 hF1 hF2 h4⟩
  rw [e_213_620]
  simp only [brI, not_true_eq_false, true_implies, false_implies, implies_true, and_true, cTag, cTgt, cLen, true_and, Int.toNat_natCast, retI_I, retR_R, retV_N, retL_L, ne_eq, Int.reduceEq, not_false_eq_true, t104, l104, w1, w2, w3, w4, w5, b1, b2, b3, b4, b5, h14, e1, e2, cmpL_s, eq_self, if_true]
theorem op_15 (H : Inv xs B T σ) {i : Nat} (hi : i + 6 ≤ L) (hL : L ≤ 384) (hB0 : 0 ≤ B) (hb6 : B ≤ 600000) : Nxt L xs B i 663 σ := by
  obtain ⟨hC, hM, hV, h4⟩ := H
  have hb8 : B ≤ 800000 := by omega
  have hb10 : B ≤ 1000000 := by omega
  obtain ⟨w1, w2, w3, w4, w5⟩ := wI hi hL
  obtain ⟨b1, b2, b3, b4, b5⟩ := bI5 hi
  obtain ⟨τ1, e1, hC1, hF1⟩ := c_givesOut (L := L) hC hV hB0 hb8 (σ 104 (i + 1)) (σ 104 (i + 2))
  have hM1 := IM_C hM hF1
  obtain ⟨τ2, e2, hM2, hF2⟩ := m_givesOut (L := L) hM1 hV hB0 hb8 (σ 104 (i + 1)) (σ 104 (i + 2))
  have h14 : τ1 104 = σ 104 := hF1 104 (by omega)
  refine ⟨τ2, _, fun Q => ?_, Nxt_mk hV (by omega) hC1 hM2 hF1 hF2 h4⟩
  rw [e_213_663]
  simp only [brI, not_true_eq_false, true_implies, false_implies, implies_true, and_true, cTag, cTgt, cLen, true_and, Int.toNat_natCast, retI_I, retR_R, retV_N, retL_L, ne_eq, Int.reduceEq, not_false_eq_true, t104, l104, w1, w2, w3, w4, w5, b1, b2, b3, b4, b5, h14, e1, e2, cmpL_s, eq_self, if_true]
theorem op_16 (H : Inv xs B T σ) {i : Nat} (hi : i + 6 ≤ L) (hL : L ≤ 384) (hB0 : 0 ≤ B) (hb6 : B ≤ 600000) : Nxt L xs B i 696 σ := by
  obtain ⟨hC, hM, hV, h4⟩ := H
  have hb8 : B ≤ 800000 := by omega
  have hb10 : B ≤ 1000000 := by omega
  obtain ⟨w1, w2, w3, w4, w5⟩ := wI hi hL
  obtain ⟨b1, b2, b3, b4, b5⟩ := bI5 hi
  obtain ⟨τ1, e1, hC1, hF1⟩ := c_far (L := L) hC hV (σ 104 (i + 1)) (σ 104 (i + 2)) (σ 104 (i + 3))
  have hM1 := IM_C hM hF1
  obtain ⟨τ2, e2, hM2, hF2⟩ := m_far (L := L) hM1 hV (σ 104 (i + 1)) (σ 104 (i + 2)) (σ 104 (i + 3))
  have h14 : τ1 104 = σ 104 := hF1 104 (by omega)
  refine ⟨τ2, _, fun Q => ?_, Nxt_mk hV (by omega) hC1 hM2 hF1 hF2 h4⟩
  rw [e_213_696]
  simp only [brI, not_true_eq_false, true_implies, false_implies, implies_true, and_true, cTag, cTgt, cLen, true_and, Int.toNat_natCast, retI_I, retR_R, retV_N, retL_L, ne_eq, Int.reduceEq, not_false_eq_true, t104, l104, w1, w2, w3, w4, w5, b1, b2, b3, b4, b5, h14, e1, e2, cmpL_s, eq_self, if_true]
theorem op_17 (H : Inv xs B T σ) {i : Nat} (hi : i + 6 ≤ L) (hL : L ≤ 384) (hB0 : 0 ≤ B) (hb6 : B ≤ 600000) : Nxt L xs B i 739 σ := by
  obtain ⟨hC, hM, hV, h4⟩ := H
  have hb8 : B ≤ 800000 := by omega
  have hb10 : B ≤ 1000000 := by omega
  obtain ⟨w1, w2, w3, w4, w5⟩ := wI hi hL
  obtain ⟨b1, b2, b3, b4, b5⟩ := bI5 hi
  obtain ⟨τ1, e1, hC1, hF1⟩ := c_way (L := L) hC hV hb10 (σ 104 (i + 1)) (σ 104 (i + 2)) (σ 104 (i + 3))
  have hM1 := IM_C hM hF1
  obtain ⟨τ2, e2, hM2, hF2⟩ := m_way (L := L) hM1 hV hb10 (σ 104 (i + 1)) (σ 104 (i + 2)) (σ 104 (i + 3))
  have h14 : τ1 104 = σ 104 := hF1 104 (by omega)
  refine ⟨τ2, _, fun Q => ?_, Nxt_mk hV (by omega) hC1 hM2 hF1 hF2 h4⟩
  rw [e_213_739]
  simp only [brI, not_true_eq_false, true_implies, false_implies, implies_true, and_true, cTag, cTgt, cLen, true_and, Int.toNat_natCast, retI_I, retR_R, retV_N, retL_L, ne_eq, Int.reduceEq, not_false_eq_true, t104, l104, w1, w2, w3, w4, w5, b1, b2, b3, b4, b5, h14, e1, e2, cmpL_s, eq_self, if_true]
end LawA
