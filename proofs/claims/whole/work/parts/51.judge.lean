/-! judge, done, behind, givesOut -/
section Judge
variable {B : Int} {S σ τ : Mem} {L : Nat} {T : Ful}
/-- the steps of the PAD, who does them, what -/
def dH (T : Ful) : Nat := (pn T).toNat / 2
def dW (T : Ful) (g : Nat) : Nat → Nat := whg (sg T) g (cq (sg T) (2 * dH T))
def dD (T : Ful) : Nat → Int := ded (sg T)
def bad (T : Ful) (g : Nat) : Int := fbd (dW T g) (dD T) (T 0) (dH T) 0
def bwy (T : Ful) : Int := fwy (dW T 0) (dD T) (T 0) (dH T) 0
def dS (T : Ful) (g : Nat) : Mem := dst (dW T g) (dD T) (T 0) (dH T)
def a_txt (T : Ful) : Int := if a_fault T = -6 then (if cq (sg T) (2 * dH T) ≤ 0 then 0 else -3) else -5
def a_bar (T : Ful) : Int := if a_txt T = 0 then (if bad T 0 = -6 then 0 else -5) else a_txt T
theorem pad_ok (hV : IV B T) (h : a_fault T = -6) : PadOk (T 0 0 0) (sg T) (dH T) ∧ pn T = ((2 * dH T : Nat) : Int) := by
  obtain ⟨h1, h2⟩ := flt_non h
  have hp := hV.2.2.1
  unfold dH
  refine ⟨⟨hV.1.1, by omega, hV.2.2.2, fun j hj => h2 j (by omega)⟩, by omega⟩
theorem dH_30 (hV : IV B T) : dH T ≤ 30 := by
  have hp := hV.2.2.1
  unfold dH; omega
theorem txt_0 (h : a_txt T = 0) : a_fault T = -6 := by
  unfold a_txt at h
  split at h
  · assumption
  · omega
theorem c_txt (hI : IC T σ) (hV : IV B T) (Q : PQ) : X L 123 0 [some (xR 0)] [] σ Q = Q (some (xI (a_txt T))) σ := by
  have e0 := hI.1.1 0 (by omega)
  unfold a_txt
  simp only [e_123_0, brI, not_true_eq_false, true_implies, false_implies, implies_true, and_true, cTag, cTgt, cLen, true_and, Int.toNat_natCast, retI_I, retR_R, retV_N, retL_L, ne_eq, Int.reduceEq, not_false_eq_true, e0, c_ff hI hV]
  by_cases c : a_fault T = -6
  · obtain ⟨hP, hp⟩ := pad_ok hV c
    rw [if_pos c, if_pos c]
    simp only [e_123_22, e_123_37, e_123_38, brI, not_true_eq_false, true_implies, false_implies, implies_true, and_true, cTag, cTgt, cLen, true_and, Int.toNat_natCast, retI_I, retR_R, retV_N, retL_L, ne_eq, Int.reduceEq, not_false_eq_true, x_untold hP.2.1 (by rw [hI.2.2.2.2.1]; exact hp) hI.2.2.2.2.2]
    by_cases c2 : cq (sg T) (2 * dH T) ≤ 0
    · rw [if_pos c2, if_pos c2]
    · rw [if_neg c2, if_neg c2]
  · rw [if_neg c, if_neg c]
theorem FrQ_D (h : FrD σ τ) (h31 : τ 31 0 = 0) : FrQ σ τ := ⟨fun o ho => h.1 o (by omega), h31⟩
/-- the class plays the PAD's DAY -/
theorem c_play (hI : IC T σ) (hV : IV B T) (hB0 : 0 ≤ B) (hB : B ≤ 800000) (hf : a_fault T = -6) {g : Nat} (hg : g < 64) (l : Int) :
    ∃ τ, (∀ Q : PQ, X L 3 0 [some (xR 20), some (xR 1), some (xR 18), some (xI (g : Int)), some (xI l), none, none, none, none, none] [] σ Q = Q (some (xI (bI (bad T g = -6)))) τ) ∧ FrD σ τ ∧ τ 31 0 = 0 ∧
      (bad T g = -6 → RC 21 (dS T g) τ ∧ τ 20 3 = (ou (dW T g) (dD T) (T 0) l (dH T)).1 ∧ τ 20 4 = (ou (dW T g) (dD T) (T 0) l (dH T)).2.1 ∧ τ 20 5 = (ou (dW T g) (dD T) (T 0) l (dH T)).2.2) ∧
      (¬ bad T g = -6 → τ 20 1 = bad T g ∧ τ 20 2 = fwy (dW T g) (dD T) (T 0) (dH T) 0) := by
  obtain ⟨hP, hp⟩ := pad_ok hV hf
  have := dH_30 hV
  exact x_play hP hg l hI.1 hV.1 hB0 (by omega) (by rw [hI.2.2.2.2.1]; exact hp) hI.2.2.2.2.2 hI.2.1
theorem dS_VS (hV : IV B T) (hB0 : 0 ≤ B) (hf : a_fault T = -6) {g : Nat} (hb : bad T g = -6) : VS (B + 540) (dS T g) := by
  obtain ⟨hP, hp⟩ := pad_ok hV hf
  have h30 := dH_30 hV
  have := dst_VS2 (wh := dW T g) (dd := dD T) hV.1 hB0 (whg_4 _ _ _) (fun i hi => (hP.dk hi).2.1) (dH T) (Nat.le_refl _) (fun j hj => fbd_all (dH T) 0 hb j (by omega) (by omega))
  exact this.mono (by omega)
theorem c_bar (hI : IC T σ) (hV : IV B T) (hB0 : 0 ≤ B) (hB : B ≤ 800000) (l : Int) :
    ∃ τ, (∀ Q : PQ, X L 124 0 [some (xR 0), some (xI l), none] [] σ Q = Q (some (xI (a_bar T))) τ) ∧ FrQ σ τ ∧
      (a_bar T = 0 → RC 21 (dS T 0) τ ∧ τ 20 3 = (ou (dW T 0) (dD T) (T 0) l (dH T)).1 ∧ τ 20 4 = (ou (dW T 0) (dD T) (T 0) l (dH T)).2.1 ∧ τ 20 5 = (ou (dW T 0) (dD T) (T 0) l (dH T)).2.2) := by
  unfold a_bar
  by_cases c : a_txt T = 0
  · obtain ⟨τ, e, hF, h31, ha, hb⟩ := c_play (L := L) hI hV hB0 hB (txt_0 c) (g := 0) (by omega) l
    rw [if_pos c]
    refine ⟨τ, fun Q => ?_, FrQ_D hF h31, fun q => ha ?_⟩
    · rw [e_124_0]
      simp only [brI, not_true_eq_false, true_implies, false_implies, implies_true, and_true, cTag, cTgt, cLen, true_and, Int.toNat_natCast, retI_I, retR_R, retV_N, retL_L, ne_eq, Int.reduceEq, not_false_eq_true, c_txt hI hV, c, if_true]
      rw [e_124_11]
      have e : ∀ Q : PQ, X L 3 0 [some (xR 20), some (xR 1), some (xR 18), some (xI 0), some (xI l), none, none, none, none, none] [] σ Q = Q (some (xI (bI (bad T 0 = -6)))) τ := e
      simp only [e, brI, not_true_eq_false, true_implies, false_implies, implies_true, and_true, cTag, cTgt, cLen, true_and, Int.toNat_natCast, retI_I, retR_R, retV_N, retL_L, ne_eq, Int.reduceEq, not_false_eq_true, e_124_35, e_124_37, bI_0]
      by_cases c2 : bad T 0 = -6
      · rw [if_neg (fun q => q c2), if_pos c2]
      · rw [if_pos c2, if_neg c2]
    · by_cases c2 : bad T 0 = -6
      · exact c2
      · rw [if_neg c2] at q; omega
  · rw [if_neg c]
    refine ⟨σ, fun Q => ?_, ⟨fun _ _ => rfl, hI.2.1⟩, fun q => absurd q c⟩
    rw [e_124_0]
    simp only [brI, not_true_eq_false, true_implies, false_implies, implies_true, and_true, cTag, cTgt, cLen, true_and, Int.toNat_natCast, retI_I, retR_R, retV_N, retL_L, ne_eq, Int.reduceEq, not_false_eq_true, c_txt hI hV, c, if_false]
theorem CO_q {G : PQ → Prop} {r : Int} (hI : IC T σ) (h : ∃ τ, (∀ Q, G Q = Q (some (xI r)) τ) ∧ FrQ σ τ) : CO σ G r T := by
  obtain ⟨τ, e, hF⟩ := h
  exact ⟨τ, e, IC_Q hI hF, fun o ho => hF.1 o (by omega)⟩
theorem MO_q {G : PQ → Prop} {r : Int} (hI : IM T σ) (h : ∃ τ, (∀ Q, G Q = Q (some (xI r)) τ) ∧ FrM σ τ) : MO σ G r T := by
  obtain ⟨τ, e, hF⟩ := h
  exact ⟨τ, e, IM_Q hI hF, fun o ho => hF.1 o (by omega)⟩
def a_judge (T : Ful) (w : Int) : Int := if 0 ≤ w ∧ w ≤ 1 then (if a_txt T = 0 then (if bad T 0 = -6 then -6 else if w = 0 then bad T 0 else bwy T) else a_txt T) else -2
theorem c_judge (hI : IC T σ) (hV : IV B T) (hB0 : 0 ≤ B) (hB : B ≤ 800000) (w : Int) : CO σ (X L 98 0 [some (xR 0), some (xI w), none] [] σ) (a_judge T w) T := by
  unfold a_judge
  by_cases cw : 0 ≤ w ∧ w ≤ 1
  · rw [if_pos cw]
    by_cases c : a_txt T = 0
    · rw [if_pos c]
      obtain ⟨τ, e, hF, h31, ha, hb⟩ := c_play (L := L) hI hV hB0 hB (txt_0 c) (g := 0) (by omega) 1000000
      refine CO_q hI ⟨τ, fun Q => ?_, FrQ_D hF h31⟩
      simp only [e_98_0, e_98_12, brI, not_true_eq_false, true_implies, false_implies, implies_true, and_true, cTag, cTgt, cLen, true_and, Int.toNat_natCast, retI_I, retR_R, retV_N, retL_L, ne_eq, Int.reduceEq, not_false_eq_true, x_isWithin, bI_0, cw, c_txt hI hV, c, if_true, if_false, and_self]
      rw [e_98_23]
      have e : ∀ Q : PQ, X L 3 0 [some (xR 20), some (xR 1), some (xR 18), some (xI 0), some (xI 1000000), none, none, none, none, none] [] σ Q = Q (some (xI (bI (bad T 0 = -6)))) τ := e
      simp only [e, brI, not_true_eq_false, true_implies, false_implies, implies_true, and_true, cTag, cTgt, cLen, true_and, Int.toNat_natCast, retI_I, retR_R, retV_N, retL_L, ne_eq, Int.reduceEq, not_false_eq_true, e_98_47, e_98_61, e_98_68, bI_0]
      by_cases c2 : bad T 0 = -6
      · rw [if_neg (fun q => q c2), if_pos c2]
      · rw [if_pos c2, if_neg c2, (hb c2).1, (hb c2).2]
        by_cases w0 : w = 0
        · rw [if_neg (fun q => q w0), if_pos w0]
        · rw [if_pos w0, if_neg w0]; rfl
    · rw [if_neg c]
      refine CO_n hI (fun Q => ?_)
      simp only [e_98_0, e_98_12, brI, not_true_eq_false, true_implies, false_implies, implies_true, and_true, cTag, cTgt, cLen, true_and, Int.toNat_natCast, retI_I, retR_R, retV_N, retL_L, ne_eq, Int.reduceEq, not_false_eq_true, x_isWithin, bI_0, cw, c_txt hI hV, c, if_true, if_false, and_self]
  · rw [if_neg cw]
    refine CO_n hI (fun Q => ?_)
    simp only [e_98_0, brI, not_true_eq_false, true_implies, false_implies, implies_true, and_true, cTag, cTgt, cLen, true_and, Int.toNat_natCast, retI_I, retR_R, retV_N, retL_L, ne_eq, Int.reduceEq, not_false_eq_true, x_isWithin, bI_0, cw, if_true, if_false, and_self]
/-! done -/
def a_done (T : Ful) : Int := if a_bar T = 0 then (dH T : Int) else a_bar T
def n_done (T : Ful) : Ful := if a_bar T = 0 then padS (setV T (dS T 0)) 0 (sg T) else T
theorem bar_0 (h : a_bar T = 0) : a_fault T = -6 ∧ bad T 0 = -6 := by
  unfold a_bar at h
  split at h
  · next c =>
    refine ⟨txt_0 c, ?_⟩
    split at h
    · assumption
    · omega
  · next c => exact absurd h c
theorem c_done (hI : IC T σ) (hV : IV B T) (hB0 : 0 ≤ B) (hB : B ≤ 800000) : CO σ (X L 99 0 [some (xR 0), none, none] [] σ) (a_done T) (n_done T) := by
  obtain ⟨τ, e, hF, ha⟩ := c_bar (L := L) hI hV hB0 hB 1000000
  unfold a_done n_done
  by_cases c : a_bar T = 0
  · rw [if_pos c, if_pos c]
    obtain ⟨hR, -⟩ := ha c
    obtain ⟨hf, hb⟩ := bar_0 c
    obtain ⟨hP, hp⟩ := pad_ok hV hf
    have hI1 := IC_Q hI hF
    have hp1 : τ 18 1 = ((2 * dH T : Nat) : Int) := by rw [hI1.2.2.2.2.1]; exact hp
    obtain ⟨τ2, e2, hR2, hF2⟩ := x_becomeLike (L := L) iV1 iV21 (by omega) hR (dS_VS hV hB0 hf hb) hI1.1.2.2.2.2.2.2.2.2.2.2 none
    have hI2 := IC_V hI1 hR2 hF2
    refine ⟨up τ2 18 1 0, fun Q => ?_, IC_P hI2 ?_ ?_ ?_, ?_⟩
    · rw [e_99_0]
      simp only [brI, not_true_eq_false, true_implies, false_implies, implies_true, and_true, cTag, cTgt, cLen, true_and, Int.toNat_natCast, retI_I, retR_R, retV_N, retL_L, ne_eq, Int.reduceEq, not_false_eq_true, e, c, if_true, e_99_13, x_stepCount hP.2.1 hp1, e2, e_22_0]
    · intro o h1 h2; funext j; simp only [up_rd]; rw [if_neg (by omega)]
    · simp [up_rd]
    · intro j hj
      have := hI2.2.2.2.2.2 j hj
      have e3 : sg (setV T (dS T 0)) j = sg T j := rfl
      rw [e3] at this
      simp [up_rd, this]
    · intro o ho
      funext j; simp only [up_rd]; rw [if_neg (by omega), hF2 o (by omega), hF.1 o (by omega)]
  · rw [if_neg c, if_neg c]
    refine CO_q hI ⟨τ, fun Q => ?_, hF⟩
    rw [e_99_0]
    simp only [brI, not_true_eq_false, true_implies, false_implies, implies_true, and_true, cTag, cTgt, cLen, true_and, Int.toNat_natCast, retI_I, retR_R, retV_N, retL_L, ne_eq, Int.reduceEq, not_false_eq_true, e, c, if_false]
theorem v_done (hV : IV B T) (hB0 : 0 ≤ B) : IV (B + 540) (n_done T) := by
  unfold n_done
  split
  · next c =>
    obtain ⟨hf, hb⟩ := bar_0 c
    have h1 := IV_V (hV.mono (show B ≤ B + 540 by omega)) (dS_VS hV hB0 hf hb)
    exact IV_P h1 (by omega) hV.2.2.2
  · exact hV.mono (by omega)
/-! behind, givesOut -/
def a_behind (T : Ful) (p w : Int) : Int := if thr (T 0) p = 0 then -1 else if 0 ≤ w ∧ w ≤ 6 then (if a_bar T = 0 then anw (dS T 0 (8 + p.toNat)) w (dS T 0 0 2) else a_bar T) else -2
theorem c_behind (hI : IC T σ) (hV : IV B T) (hB0 : 0 ≤ B) (hB : B ≤ 800000) (p w : Int) : CO σ (X L 101 0 [some (xR 0), some (xI p), some (xI w), none] [] σ) (a_behind T p w) T := by
  unfold a_behind
  by_cases cp : thr (T 0) p = 0
  · rw [if_pos cp]
    refine CO_n hI (fun Q => ?_)
    simp only [e_101_0, brI, not_true_eq_false, true_implies, false_implies, implies_true, and_true, cTag, cTgt, cLen, true_and, Int.toNat_natCast, retI_I, retR_R, retV_N, retL_L, ne_eq, Int.reduceEq, not_false_eq_true, x_isThere iV1 hI.1 hV.1, cp, if_true, if_false]
  · rw [if_neg cp]
    obtain ⟨q, hq, rfl, -⟩ := thr_in (B := B) cp
    by_cases cw : 0 ≤ w ∧ w ≤ 6
    · rw [if_pos cw, Int.toNat_natCast]
      obtain ⟨τ, e, hF, ha⟩ := c_bar (L := L) hI hV hB0 hB 1000000
      refine CO_q hI ⟨τ, fun Q => ?_, hF⟩
      simp only [e_101_0, e_101_13, e_101_26, brI, not_true_eq_false, true_implies, false_implies, implies_true, and_true, cTag, cTgt, cLen, true_and, Int.toNat_natCast, retI_I, retR_R, retV_N, retL_L, ne_eq, Int.reduceEq, not_false_eq_true, x_isThere iV1 hI.1 hV.1, cp, x_isWithin, bI_0, cw, e, if_true, if_false, and_self]
      by_cases c : a_bar T = 0
      · rw [if_pos c, if_pos c]
        obtain ⟨hR, -⟩ := ha c
        obtain ⟨hf, hb⟩ := bar_0 c
        have hV2 := dS_VS hV hB0 hf hb
        have e2 := hR.1 2 (by omega)
        have hx := x_answerV (L := L) iV21 hR hV2 (by omega) hq w
        rw [e_101_39]
        simp only [brI, not_true_eq_false, true_implies, false_implies, implies_true, and_true, cTag, cTgt, cLen, true_and, Int.toNat_natCast, retI_I, retR_R, retV_N, retL_L, ne_eq, Int.reduceEq, not_false_eq_true, x_personAt iV21 hq, gt_p iV21 hq, e2, hx]
      · rw [if_neg c, if_neg c]
    · rw [if_neg cw]
      refine CO_n hI (fun Q => ?_)
      simp only [e_101_0, e_101_13, brI, not_true_eq_false, true_implies, false_implies, implies_true, and_true, cTag, cTgt, cLen, true_and, Int.toNat_natCast, retI_I, retR_R, retV_N, retL_L, ne_eq, Int.reduceEq, not_false_eq_true, x_isThere iV1 hI.1 hV.1, cp, x_isWithin, bI_0, cw, if_true, if_false]
abbrev gOut (l w : Int) : Prop := (1 ≤ l ∧ l ≤ 99) ∧ (0 ≤ w ∧ w ≤ 2)
def a_out (T : Ful) (l w : Int) : Int := if gOut l w then (if a_bar T = 0 then (if w = 0 then (ou (dW T 0) (dD T) (T 0) l (dH T)).1 else if w = 1 then (ou (dW T 0) (dD T) (T 0) l (dH T)).2.1 else (ou (dW T 0) (dD T) (T 0) l (dH T)).2.2) else a_bar T) else -2
theorem c_givesOut (hI : IC T σ) (hV : IV B T) (hB0 : 0 ≤ B) (hB : B ≤ 800000) (l w : Int) : CO σ (X L 103 0 [some (xR 0), some (xI l), some (xI w), none] [] σ) (a_out T l w) T := by
  unfold a_out
  by_cases cg : gOut l w
  · obtain ⟨c1, c2⟩ := id cg
    rw [if_pos cg]
    obtain ⟨τ, e, hF, ha⟩ := c_bar (L := L) hI hV hB0 hB l
    refine CO_q hI ⟨τ, fun Q => ?_, hF⟩
    simp only [e_103_0, e_103_22, brI, not_true_eq_false, true_implies, false_implies, implies_true, and_true, cTag, cTgt, cLen, true_and, Int.toNat_natCast, retI_I, retR_R, retV_N, retL_L, ne_eq, Int.reduceEq, not_false_eq_true, x_isWithin, bI_0, c1, c2, e, if_true, if_false, and_self]
    by_cases c : a_bar T = 0
    · obtain ⟨-, h3, h4, h5⟩ := ha c
      rw [if_pos c, if_pos c]
      simp only [e_103_34, e_103_46, e_103_61, e_103_68, brI, not_true_eq_false, true_implies, false_implies, implies_true, and_true, cTag, cTgt, cLen, true_and, Int.toNat_natCast, retI_I, retR_R, retV_N, retL_L, ne_eq, Int.reduceEq, not_false_eq_true, h3, h4, h5]
      by_cases w0 : w = 0
      · rw [if_neg (fun q => q w0), if_pos w0]
      · rw [if_pos w0, if_neg w0]
        by_cases w1 : w = 1
        · rw [if_neg (fun q => q w1), if_pos w1]
        · rw [if_pos w1, if_neg w1]
    · rw [if_neg c, if_neg c]
  · rw [if_neg cg]
    refine CO_n hI (fun Q => ?_)
    simp only [e_103_0, e_103_19, brI, not_true_eq_false, true_implies, false_implies, implies_true, and_true, cTag, cTgt, cLen, true_and, Int.toNat_natCast, retI_I, retR_R, retV_N, retL_L, ne_eq, Int.reduceEq, not_false_eq_true, x_isWithin, bI_0]
    by_cases c1 : 1 ≤ l ∧ l ≤ 99
    · have c2 : ¬ (0 ≤ w ∧ w ≤ 2) := fun q => cg ⟨c1, q⟩
      simp only [c1, c2, brI, not_true_eq_false, true_implies, false_implies, implies_true, and_true, cTag, cTgt, cLen, true_and, Int.toNat_natCast, retI_I, retR_R, retV_N, retL_L, ne_eq, Int.reduceEq, not_false_eq_true, if_true, if_false, and_self]
    · simp only [c1, brI, not_true_eq_false, true_implies, false_implies, implies_true, and_true, cTag, cTgt, cLen, true_and, Int.toNat_natCast, retI_I, retR_R, retV_N, retL_L, ne_eq, Int.reduceEq, not_false_eq_true, if_true, if_false]
end Judge
