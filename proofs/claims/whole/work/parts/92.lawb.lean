/-! the law: the other calls -/
section LawB
variable {B : Int} {S σ τ : Mem} {L : Nat} {T : Ful} {xs : Nat → Int32}
theorem op_18 (H : Inv xs B T σ) {i : Nat} (hi : i + 6 ≤ L) (hL : L ≤ 384) (hB0 : 0 ≤ B) (hb6 : B ≤ 600000) : Nxt L xs B i 782 σ := by
  obtain ⟨hC, hM, hV, h4⟩ := H
  have hb8 : B ≤ 800000 := by omega
  have hb10 : B ≤ 1000000 := by omega
  obtain ⟨w1, w2, w3, w4, w5⟩ := wI hi hL
  obtain ⟨b1, b2, b3, b4, b5⟩ := bI5 hi
  obtain ⟨τ1, e1, hC1, hF1⟩ := c_shod (L := L) hC hV hb10 (σ 104 (i + 1)) (σ 104 (i + 2))
  have hM1 := IM_C hM hF1
  obtain ⟨τ2, e2, hM2, hF2⟩ := m_shod (L := L) hM1 hV hb10 (σ 104 (i + 1)) (σ 104 (i + 2))
  have h14 : τ1 104 = σ 104 := hF1 104 (by omega)
  refine ⟨τ2, _, fun Q => ?_, Nxt_mk hV (by omega) hC1 hM2 hF1 hF2 h4⟩
  rw [e_213_782]
  simp only [brI, not_true_eq_false, true_implies, false_implies, implies_true, and_true, cTag, cTgt, cLen, true_and, Int.toNat_natCast, retI_I, retR_R, retV_N, retL_L, ne_eq, Int.reduceEq, not_false_eq_true, t104, l104, w1, w2, w3, w4, w5, b1, b2, b3, b4, b5, h14, e1, e2, cmpL_s, eq_self, if_true]
theorem op_19 (H : Inv xs B T σ) {i : Nat} (hi : i + 6 ≤ L) (hL : L ≤ 384) (hB0 : 0 ≤ B) (hb6 : B ≤ 600000) : Nxt L xs B i 815 σ := by
  obtain ⟨hC, hM, hV, h4⟩ := H
  have hb8 : B ≤ 800000 := by omega
  have hb10 : B ≤ 1000000 := by omega
  obtain ⟨w1, w2, w3, w4, w5⟩ := wI hi hL
  obtain ⟨b1, b2, b3, b4, b5⟩ := bI5 hi
  obtain ⟨τ1, e1, hC1, hF1⟩ := c_round (L := L) hC hV hb10 (σ 104 (i + 1)) (σ 104 (i + 2)) (σ 104 (i + 3))
  have hM1 := IM_C hM hF1
  obtain ⟨τ2, e2, hM2, hF2⟩ := m_round (L := L) hM1 hV hb10 (σ 104 (i + 1)) (σ 104 (i + 2)) (σ 104 (i + 3))
  have h14 : τ1 104 = σ 104 := hF1 104 (by omega)
  refine ⟨τ2, _, fun Q => ?_, Nxt_mk hV (by omega) hC1 hM2 hF1 hF2 h4⟩
  rw [e_213_815]
  simp only [brI, not_true_eq_false, true_implies, false_implies, implies_true, and_true, cTag, cTgt, cLen, true_and, Int.toNat_natCast, retI_I, retR_R, retV_N, retL_L, ne_eq, Int.reduceEq, not_false_eq_true, t104, l104, w1, w2, w3, w4, w5, b1, b2, b3, b4, b5, h14, e1, e2, cmpL_s, eq_self, if_true]
theorem op_20 (H : Inv xs B T σ) {i : Nat} (hi : i + 6 ≤ L) (hL : L ≤ 384) (hB0 : 0 ≤ B) (hb6 : B ≤ 600000) : Nxt L xs B i 858 σ := by
  obtain ⟨hC, hM, hV, h4⟩ := H
  have hb8 : B ≤ 800000 := by omega
  have hb10 : B ≤ 1000000 := by omega
  have h32 := in32_toInt (xs (i + 1))
  rw [← h4 (i + 1)] at h32
  obtain ⟨w1, w2, w3, w4, w5⟩ := wI hi hL
  obtain ⟨b1, b2, b3, b4, b5⟩ := bI5 hi
  obtain ⟨τ1, e1, hC1, hF1⟩ := c_tog (L := L) (m := σ 104 (i + 1)) (x := σ 104 (i + 2)) (y := σ 104 (i + 3)) (w := σ 104 (i + 4)) hC hV h32
  have hM1 := IM_C hM hF1
  obtain ⟨τ2, e2, hM2, hF2⟩ := m_tog (L := L) (m := σ 104 (i + 1)) (x := σ 104 (i + 2)) (y := σ 104 (i + 3)) (w := σ 104 (i + 4)) hM1 hV h32
  have h14 : τ1 104 = σ 104 := hF1 104 (by omega)
  refine ⟨τ2, _, fun Q => ?_, Nxt_mk hV (by omega) hC1 hM2 hF1 hF2 h4⟩
  rw [e_213_858]
  simp only [brI, not_true_eq_false, true_implies, false_implies, implies_true, and_true, cTag, cTgt, cLen, true_and, Int.toNat_natCast, retI_I, retR_R, retV_N, retL_L, ne_eq, Int.reduceEq, not_false_eq_true, t104, l104, w1, w2, w3, w4, w5, b1, b2, b3, b4, b5, h14, e1, e2, cmpL_s, eq_self, if_true]
theorem op_21 (H : Inv xs B T σ) {i : Nat} (hi : i + 6 ≤ L) (hL : L ≤ 384) (hB0 : 0 ≤ B) (hb6 : B ≤ 600000) : Nxt L xs B i 911 σ := by
  obtain ⟨hC, hM, hV, h4⟩ := H
  have hb8 : B ≤ 800000 := by omega
  have hb10 : B ≤ 1000000 := by omega
  obtain ⟨w1, w2, w3, w4, w5⟩ := wI hi hL
  obtain ⟨b1, b2, b3, b4, b5⟩ := bI5 hi
  obtain ⟨τ1, e1, hC1, hF1⟩ := c_part (L := L) hC hV (σ 104 (i + 1)) (σ 104 (i + 2)) (σ 104 (i + 3))
  have hM1 := IM_C hM hF1
  obtain ⟨τ2, e2, hM2, hF2⟩ := m_part (L := L) hM1 hV (σ 104 (i + 1)) (σ 104 (i + 2)) (σ 104 (i + 3))
  have h14 : τ1 104 = σ 104 := hF1 104 (by omega)
  refine ⟨τ2, _, fun Q => ?_, Nxt_mk hV (by omega) hC1 hM2 hF1 hF2 h4⟩
  rw [e_213_911]
  simp only [brI, not_true_eq_false, true_implies, false_implies, implies_true, and_true, cTag, cTgt, cLen, true_and, Int.toNat_natCast, retI_I, retR_R, retV_N, retL_L, ne_eq, Int.reduceEq, not_false_eq_true, t104, l104, w1, w2, w3, w4, w5, b1, b2, b3, b4, b5, h14, e1, e2, cmpL_s, eq_self, if_true]
theorem op_22 (H : Inv xs B T σ) {i : Nat} (hi : i + 6 ≤ L) (hL : L ≤ 384) (hB0 : 0 ≤ B) (hb6 : B ≤ 600000) : Nxt L xs B i 954 σ := by
  obtain ⟨hC, hM, hV, h4⟩ := H
  have hb8 : B ≤ 800000 := by omega
  have hb10 : B ≤ 1000000 := by omega
  obtain ⟨w1, w2, w3, w4, w5⟩ := wI hi hL
  obtain ⟨b1, b2, b3, b4, b5⟩ := bI5 hi
  obtain ⟨τ1, e1, hC1, hF1⟩ := c_pairs (L := L) hC hV (σ 104 (i + 1)) (σ 104 (i + 2)) (σ 104 (i + 3)) (σ 104 (i + 4))
  have hM1 := IM_C hM hF1
  obtain ⟨τ2, e2, hM2, hF2⟩ := m_pairs (L := L) hM1 hV (σ 104 (i + 1)) (σ 104 (i + 2)) (σ 104 (i + 3)) (σ 104 (i + 4))
  have h14 : τ1 104 = σ 104 := hF1 104 (by omega)
  refine ⟨τ2, _, fun Q => ?_, Nxt_mk hV (by omega) hC1 hM2 hF1 hF2 h4⟩
  rw [e_213_954]
  simp only [brI, not_true_eq_false, true_implies, false_implies, implies_true, and_true, cTag, cTgt, cLen, true_and, Int.toNat_natCast, retI_I, retR_R, retV_N, retL_L, ne_eq, Int.reduceEq, not_false_eq_true, t104, l104, w1, w2, w3, w4, w5, b1, b2, b3, b4, b5, h14, e1, e2, cmpL_s, eq_self, if_true]
theorem op_23 (H : Inv xs B T σ) {i : Nat} (hi : i + 6 ≤ L) (hL : L ≤ 384) (hB0 : 0 ≤ B) (hb6 : B ≤ 600000) : Nxt L xs B i 1007 σ := by
  obtain ⟨hC, hM, hV, h4⟩ := H
  have hb8 : B ≤ 800000 := by omega
  have hb10 : B ≤ 1000000 := by omega
  obtain ⟨w1, w2, w3, w4, w5⟩ := wI hi hL
  obtain ⟨b1, b2, b3, b4, b5⟩ := bI5 hi
  obtain ⟨τ1, e1, hC1, hF1⟩ := c_rests (L := L) hC hV (σ 104 (i + 1))
  have hM1 := IM_C hM hF1
  obtain ⟨τ2, e2, hM2, hF2⟩ := m_rests (L := L) hM1 hV (σ 104 (i + 1))
  have h14 : τ1 104 = σ 104 := hF1 104 (by omega)
  refine ⟨τ2, _, fun Q => ?_, Nxt_mk hV (by omega) hC1 hM2 hF1 hF2 h4⟩
  rw [e_213_1007]
  simp only [brI, not_true_eq_false, true_implies, false_implies, implies_true, and_true, cTag, cTgt, cLen, true_and, Int.toNat_natCast, retI_I, retR_R, retV_N, retL_L, ne_eq, Int.reduceEq, not_false_eq_true, t104, l104, w1, w2, w3, w4, w5, b1, b2, b3, b4, b5, h14, e1, e2, cmpL_s, eq_self, if_true]
theorem op_24 (H : Inv xs B T σ) {i : Nat} (hi : i + 6 ≤ L) (hL : L ≤ 384) (hB0 : 0 ≤ B) (hb6 : B ≤ 600000) : Nxt L xs B i 1030 σ := by
  obtain ⟨hC, hM, hV, h4⟩ := H
  have hb8 : B ≤ 800000 := by omega
  have hb10 : B ≤ 1000000 := by omega
  obtain ⟨w1, w2, w3, w4, w5⟩ := wI hi hL
  obtain ⟨b1, b2, b3, b4, b5⟩ := bI5 hi
  obtain ⟨τ1, e1, hC1, hF1⟩ := c_owner (L := L) hC hV (σ 104 (i + 1))
  have hM1 := IM_C hM hF1
  obtain ⟨τ2, e2, hM2, hF2⟩ := m_owner (L := L) hM1 hV (σ 104 (i + 1))
  have h14 : τ1 104 = σ 104 := hF1 104 (by omega)
  refine ⟨τ2, _, fun Q => ?_, Nxt_mk hV (by omega) hC1 hM2 hF1 hF2 h4⟩
  rw [e_213_1030]
  simp only [brI, not_true_eq_false, true_implies, false_implies, implies_true, and_true, cTag, cTgt, cLen, true_and, Int.toNat_natCast, retI_I, retR_R, retV_N, retL_L, ne_eq, Int.reduceEq, not_false_eq_true, t104, l104, w1, w2, w3, w4, w5, b1, b2, b3, b4, b5, h14, e1, e2, cmpL_s, eq_self, if_true]
theorem op_25 (H : Inv xs B T σ) {i : Nat} (hi : i + 6 ≤ L) (hL : L ≤ 384) (hB0 : 0 ≤ B) (hb6 : B ≤ 600000) : Nxt L xs B i 1053 σ := by
  obtain ⟨hC, hM, hV, h4⟩ := H
  have hb8 : B ≤ 800000 := by omega
  have hb10 : B ≤ 1000000 := by omega
  obtain ⟨w1, w2, w3, w4, w5⟩ := wI hi hL
  obtain ⟨b1, b2, b3, b4, b5⟩ := bI5 hi
  obtain ⟨τ1, e1, hC1, hF1⟩ := c_track (L := L) hC hV hb10 (σ 104 (i + 1)) (σ 104 (i + 2)) (σ 104 (i + 3))
  have hM1 := IM_C hM hF1
  obtain ⟨τ2, e2, hM2, hF2⟩ := m_track (L := L) hM1 hV hb10 (σ 104 (i + 1)) (σ 104 (i + 2)) (σ 104 (i + 3))
  have h14 : τ1 104 = σ 104 := hF1 104 (by omega)
  refine ⟨τ2, _, fun Q => ?_, Nxt_mk hV (by omega) hC1 hM2 hF1 hF2 h4⟩
  rw [e_213_1053]
  simp only [brI, not_true_eq_false, true_implies, false_implies, implies_true, and_true, cTag, cTgt, cLen, true_and, Int.toNat_natCast, retI_I, retR_R, retV_N, retL_L, ne_eq, Int.reduceEq, not_false_eq_true, t104, l104, w1, w2, w3, w4, w5, b1, b2, b3, b4, b5, h14, e1, e2, cmpL_s, eq_self, if_true]
theorem op_26 (H : Inv xs B T σ) {i : Nat} (hi : i + 6 ≤ L) (hL : L ≤ 384) (hB0 : 0 ≤ B) (hb6 : B ≤ 600000) : Nxt L xs B i 1096 σ := by
  obtain ⟨hC, hM, hV, h4⟩ := H
  have hb8 : B ≤ 800000 := by omega
  have hb10 : B ≤ 1000000 := by omega
  obtain ⟨w1, w2, w3, w4, w5⟩ := wI hi hL
  obtain ⟨b1, b2, b3, b4, b5⟩ := bI5 hi
  obtain ⟨τ1, e1, hC1, hF1⟩ := c_seen (L := L) hC hV (σ 104 (i + 1)) (σ 104 (i + 2))
  have hM1 := IM_C hM hF1
  obtain ⟨τ2, e2, hM2, hF2⟩ := m_seen (L := L) hM1 hV (σ 104 (i + 1)) (σ 104 (i + 2))
  have h14 : τ1 104 = σ 104 := hF1 104 (by omega)
  refine ⟨τ2, _, fun Q => ?_, Nxt_mk (v_seen hV (σ 104 (i + 1)) (σ 104 (i + 2))) (by omega) hC1 hM2 hF1 hF2 h4⟩
  rw [e_213_1096]
  simp only [brI, not_true_eq_false, true_implies, false_implies, implies_true, and_true, cTag, cTgt, cLen, true_and, Int.toNat_natCast, retI_I, retR_R, retV_N, retL_L, ne_eq, Int.reduceEq, not_false_eq_true, t104, l104, w1, w2, w3, w4, w5, b1, b2, b3, b4, b5, h14, e1, e2, cmpL_s, eq_self, if_true]
theorem op_27 (H : Inv xs B T σ) {i : Nat} (hi : i + 6 ≤ L) (hL : L ≤ 384) (hB0 : 0 ≤ B) (hb6 : B ≤ 600000) : Nxt L xs B i 1129 σ := by
  obtain ⟨hC, hM, hV, h4⟩ := H
  have hb8 : B ≤ 800000 := by omega
  have hb10 : B ≤ 1000000 := by omega
  obtain ⟨w1, w2, w3, w4, w5⟩ := wI hi hL
  obtain ⟨b1, b2, b3, b4, b5⟩ := bI5 hi
  obtain ⟨τ1, e1, hC1, hF1⟩ := c_forget (L := L) hC 
  have hM1 := IM_C hM hF1
  obtain ⟨τ2, e2, hM2, hF2⟩ := m_forget (L := L) hM1 
  have h14 : τ1 104 = σ 104 := hF1 104 (by omega)
  refine ⟨τ2, _, fun Q => ?_, Nxt_mk (v_forget hV ) (by omega) hC1 hM2 hF1 hF2 h4⟩
  rw [e_213_1129]
  simp only [brI, not_true_eq_false, true_implies, false_implies, implies_true, and_true, cTag, cTgt, cLen, true_and, Int.toNat_natCast, retI_I, retR_R, retV_N, retL_L, ne_eq, Int.reduceEq, not_false_eq_true, t104, l104, w1, w2, w3, w4, w5, b1, b2, b3, b4, b5, h14, e1, e2, cmpL_s, eq_self, if_true]
theorem op_28 (H : Inv xs B T σ) {i : Nat} (hi : i + 6 ≤ L) (hL : L ≤ 384) (hB0 : 0 ≤ B) (hb6 : B ≤ 600000) : Nxt L xs B i 1142 σ := by
  obtain ⟨hC, hM, hV, h4⟩ := H
  have hb8 : B ≤ 800000 := by omega
  have hb10 : B ≤ 1000000 := by omega
  obtain ⟨w1, w2, w3, w4, w5⟩ := wI hi hL
  obtain ⟨b1, b2, b3, b4, b5⟩ := bI5 hi
  obtain ⟨τ1, e1, hC1, hF1⟩ := c_filled (L := L) hC hV hB0 hb8 (σ 104 (i + 1))
  have hM1 := IM_C hM hF1
  obtain ⟨τ2, e2, hM2, hF2⟩ := m_filled (L := L) hM1 hV hB0 hb8 (σ 104 (i + 1))
  have h14 : τ1 104 = σ 104 := hF1 104 (by omega)
  refine ⟨τ2, _, fun Q => ?_, Nxt_mk hV (by omega) hC1 hM2 hF1 hF2 h4⟩
  rw [e_213_1142]
  simp only [brI, not_true_eq_false, true_implies, false_implies, implies_true, and_true, cTag, cTgt, cLen, true_and, Int.toNat_natCast, retI_I, retR_R, retV_N, retL_L, ne_eq, Int.reduceEq, not_false_eq_true, t104, l104, w1, w2, w3, w4, w5, b1, b2, b3, b4, b5, h14, e1, e2, cmpL_s, eq_self, if_true]
theorem op_29 (H : Inv xs B T σ) {i : Nat} (hi : i + 6 ≤ L) (hL : L ≤ 384) (hB0 : 0 ≤ B) (hb6 : B ≤ 600000) : Nxt L xs B i 1165 σ := by
  obtain ⟨hC, hM, hV, h4⟩ := H
  have hb8 : B ≤ 800000 := by omega
  have hb10 : B ≤ 1000000 := by omega
  obtain ⟨w1, w2, w3, w4, w5⟩ := wI hi hL
  obtain ⟨b1, b2, b3, b4, b5⟩ := bI5 hi
  obtain ⟨τ1, e1, hC1, hF1⟩ := c_spy (L := L) hC hV (σ 104 (i + 1))
  have hM1 := IM_C hM hF1
  obtain ⟨τ2, e2, hM2, hF2⟩ := m_spy (L := L) hM1 hV (σ 104 (i + 1))
  have h14 : τ1 104 = σ 104 := hF1 104 (by omega)
  refine ⟨τ2, _, fun Q => ?_, Nxt_mk hV (by omega) hC1 hM2 hF1 hF2 h4⟩
  rw [e_213_1165]
  simp only [brI, not_true_eq_false, true_implies, false_implies, implies_true, and_true, cTag, cTgt, cLen, true_and, Int.toNat_natCast, retI_I, retR_R, retV_N, retL_L, ne_eq, Int.reduceEq, not_false_eq_true, t104, l104, w1, w2, w3, w4, w5, b1, b2, b3, b4, b5, h14, e1, e2, cmpL_s, eq_self, if_true]
theorem op_30 (H : Inv xs B T σ) {i : Nat} (hi : i + 6 ≤ L) (hL : L ≤ 384) (hB0 : 0 ≤ B) (hb6 : B ≤ 600000) : Nxt L xs B i 1188 σ := by
  obtain ⟨hC, hM, hV, h4⟩ := H
  have hb8 : B ≤ 800000 := by omega
  have hb10 : B ≤ 1000000 := by omega
  obtain ⟨w1, w2, w3, w4, w5⟩ := wI hi hL
  obtain ⟨b1, b2, b3, b4, b5⟩ := bI5 hi
  obtain ⟨τ1, e1, hC1, hF1⟩ := c_shut (L := L) hC hV hb10 (σ 104 (i + 1)) (σ 104 (i + 2)) (σ 104 (i + 3))
  have hM1 := IM_C hM hF1
  obtain ⟨τ2, e2, hM2, hF2⟩ := m_shut (L := L) hM1 hV hb10 (σ 104 (i + 1)) (σ 104 (i + 2)) (σ 104 (i + 3))
  have h14 : τ1 104 = σ 104 := hF1 104 (by omega)
  refine ⟨τ2, _, fun Q => ?_, Nxt_mk hV (by omega) hC1 hM2 hF1 hF2 h4⟩
  rw [e_213_1188]
  simp only [brI, not_true_eq_false, true_implies, false_implies, implies_true, and_true, cTag, cTgt, cLen, true_and, Int.toNat_natCast, retI_I, retR_R, retV_N, retL_L, ne_eq, Int.reduceEq, not_false_eq_true, t104, l104, w1, w2, w3, w4, w5, b1, b2, b3, b4, b5, h14, e1, e2, cmpL_s, eq_self, if_true]
theorem op_31 (H : Inv xs B T σ) {i : Nat} (hi : i + 6 ≤ L) (hL : L ≤ 384) (hB0 : 0 ≤ B) (hb6 : B ≤ 600000) : Nxt L xs B i 1232 σ := by
  obtain ⟨hC, hM, hV, h4⟩ := H
  have hb8 : B ≤ 800000 := by omega
  have hb10 : B ≤ 1000000 := by omega
  obtain ⟨w1, w2, w3, w4, w5⟩ := wI hi hL
  obtain ⟨b1, b2, b3, b4, b5⟩ := bI5 hi
  obtain ⟨τ1, e1, hC1, hF1⟩ := c_year (L := L) hC hV hB0 hb6 (σ 104 (i + 1)) (σ 104 (i + 2)) (σ 104 (i + 3))
  have hM1 := IM_C hM hF1
  obtain ⟨τ2, e2, hM2, hF2⟩ := m_year (L := L) hM1 hV hB0 hb6 (σ 104 (i + 1)) (σ 104 (i + 2)) (σ 104 (i + 3))
  have h14 : τ1 104 = σ 104 := hF1 104 (by omega)
  refine ⟨τ2, _, fun Q => ?_, Nxt_mk hV (by omega) hC1 hM2 hF1 hF2 h4⟩
  rw [e_213_1232]
  simp only [brI, not_true_eq_false, true_implies, false_implies, implies_true, and_true, cTag, cTgt, cLen, true_and, Int.toNat_natCast, retI_I, retR_R, retV_N, retL_L, ne_eq, Int.reduceEq, not_false_eq_true, t104, l104, w1, w2, w3, w4, w5, b1, b2, b3, b4, b5, h14, e1, e2, cmpL_s, eq_self, if_true]
theorem op_32 (H : Inv xs B T σ) {i : Nat} (hi : i + 6 ≤ L) (hL : L ≤ 384) (hB0 : 0 ≤ B) (hb6 : B ≤ 600000) : Nxt L xs B i 1275 σ := by
  obtain ⟨hC, hM, hV, h4⟩ := H
  have hb8 : B ≤ 800000 := by omega
  have hb10 : B ≤ 1000000 := by omega
  obtain ⟨w1, w2, w3, w4, w5⟩ := wI hi hL
  obtain ⟨b1, b2, b3, b4, b5⟩ := bI5 hi
  obtain ⟨τ1, e1, hC1, hF1⟩ := c_image (L := L) hC hV (σ 104 (i + 1))
  have hM1 := IM_C hM hF1
  obtain ⟨τ2, e2, hM2, hF2⟩ := m_image (L := L) hM1 (σ 104 (i + 1))
  have h14 : τ1 104 = σ 104 := hF1 104 (by omega)
  refine ⟨τ2, _, fun Q => ?_, Nxt_mk (v_image hV (σ 104 (i + 1))) (by omega) hC1 hM2 hF1 hF2 h4⟩
  rw [e_213_1275]
  simp only [brI, not_true_eq_false, true_implies, false_implies, implies_true, and_true, cTag, cTgt, cLen, true_and, Int.toNat_natCast, retI_I, retR_R, retV_N, retL_L, ne_eq, Int.reduceEq, not_false_eq_true, t104, l104, w1, w2, w3, w4, w5, b1, b2, b3, b4, b5, h14, e1, e2, cmpL_s, eq_self, if_true]
theorem op_33 (H : Inv xs B T σ) {i : Nat} (hi : i + 6 ≤ L) (hL : L ≤ 384) (hB0 : 0 ≤ B) (hb6 : B ≤ 600000) : Nxt L xs B i 1298 σ := by
  obtain ⟨hC, hM, hV, h4⟩ := H
  have hb8 : B ≤ 800000 := by omega
  have hb10 : B ≤ 1000000 := by omega
  obtain ⟨w1, w2, w3, w4, w5⟩ := wI hi hL
  obtain ⟨b1, b2, b3, b4, b5⟩ := bI5 hi
  obtain ⟨τ1, e1, hC1, hF1⟩ := c_restore (L := L) hC hV (σ 104 (i + 1))
  have hM1 := IM_C hM hF1
  obtain ⟨τ2, e2, hM2, hF2⟩ := m_restore (L := L) hM1 hV (σ 104 (i + 1))
  have h14 : τ1 104 = σ 104 := hF1 104 (by omega)
  refine ⟨τ2, _, fun Q => ?_, Nxt_mk (v_restore hV (σ 104 (i + 1))) (by omega) hC1 hM2 hF1 hF2 h4⟩
  rw [e_213_1298]
  simp only [brI, not_true_eq_false, true_implies, false_implies, implies_true, and_true, cTag, cTgt, cLen, true_and, Int.toNat_natCast, retI_I, retR_R, retV_N, retL_L, ne_eq, Int.reduceEq, not_false_eq_true, t104, l104, w1, w2, w3, w4, w5, b1, b2, b3, b4, b5, h14, e1, e2, cmpL_s, eq_self, if_true]
theorem op_34 (H : Inv xs B T σ) {i : Nat} (hi : i + 6 ≤ L) (hL : L ≤ 384) (hB0 : 0 ≤ B) (hb6 : B ≤ 600000) : Nxt L xs B i 1321 σ := by
  obtain ⟨hC, hM, hV, h4⟩ := H
  have hb8 : B ≤ 800000 := by omega
  have hb10 : B ≤ 1000000 := by omega
  have h32 := in32_toInt (xs (i + 1))
  rw [← h4 (i + 1)] at h32
  obtain ⟨w1, w2, w3, w4, w5⟩ := wI hi hL
  obtain ⟨b1, b2, b3, b4, b5⟩ := bI5 hi
  obtain ⟨τ1, e1, hC1, hF1⟩ := c_told (L := L) hC hV (σ 104 (i + 1)) h32.2
  have hM1 := IM_C hM hF1
  obtain ⟨τ2, e2, hM2, hF2⟩ := m_told (L := L) hM1 hV (σ 104 (i + 1)) h32
  have h14 : τ1 104 = σ 104 := hF1 104 (by omega)
  refine ⟨τ2, _, fun Q => ?_, Nxt_mk hV (by omega) hC1 hM2 hF1 hF2 h4⟩
  rw [e_213_1321]
  simp only [brI, not_true_eq_false, true_implies, false_implies, implies_true, and_true, cTag, cTgt, cLen, true_and, Int.toNat_natCast, retI_I, retR_R, retV_N, retL_L, ne_eq, Int.reduceEq, not_false_eq_true, t104, l104, w1, w2, w3, w4, w5, b1, b2, b3, b4, b5, h14, e1, e2, cmpL_s, eq_self, if_true]
end LawB
