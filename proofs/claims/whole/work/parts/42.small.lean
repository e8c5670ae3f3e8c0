/-! toll and K, the PAD's signs, sights, what is told -/
section Small
variable {T : Ful} {σ τ : Mem} {B : Int} {L v : Nat} {S : Mem}
abbrev gSet (w v : Int) : Prop := (w = 0 ∧ 0 ≤ v ∧ v ≤ 9) ∨ (w = 1 ∧ 1 ≤ v ∧ v ≤ 9)
def a_set (T : Ful) (w v : Int) : Int := if gSet w v then (if w = 0 then T 0 0 1 else T 0 0 2) else -2
def n_set (T : Ful) (w v : Int) : Ful := if gSet w v then setV T (if w = 0 then up (T 0) 0 1 v else up (T 0) 0 2 v) else T
theorem c_set (hI : IC T σ) (w v : Int) : CO σ (X L 94 0 [some (xR 0), some (xI w), some (xI v), none] [] σ) (a_set T w v) (n_set T w v) := by
  have e1 := hI.1.1 1 (by omega)
  have e2 := hI.1.1 2 (by omega)
  unfold a_set n_set
  by_cases c : gSet w v
  · rw [if_pos c, if_pos c]
    by_cases w0 : w = 0
    · have c2 : 0 ≤ v ∧ v ≤ 9 := by omega
      rw [if_pos w0, if_pos w0]
      refine ⟨up σ 1 1 v, fun Q => ?_, IC_V hI (RC_up0 hI.1 _ _) (Fr_up (by omega)), ?_⟩
      · simp only [e_94_0, brI, not_true_eq_false, true_implies, false_implies, implies_true, and_true, cTag, cTgt, cLen, true_and, Int.toNat_natCast, retI_I, retR_R, retV_N, retL_L, ne_eq, Int.reduceEq, not_false_eq_true, x_isWithin, bI_0, w0, c2, e1, if_true, if_false, and_self]
      · intro o ho; funext j; simp only [up_rd]; rw [if_neg (by omega)]
    · have w1 : w = 1 := by omega
      have c2 : 1 ≤ v ∧ v ≤ 9 := by omega
      rw [if_neg w0, if_neg w0]
      refine ⟨up σ 1 2 v, fun Q => ?_, IC_V hI (RC_up0 hI.1 _ _) (Fr_up (by omega)), ?_⟩
      · simp only [e_94_0, e_94_32, brI, not_true_eq_false, true_implies, false_implies, implies_true, and_true, cTag, cTgt, cLen, true_and, Int.toNat_natCast, retI_I, retR_R, retV_N, retL_L, ne_eq, Int.reduceEq, not_false_eq_true, x_isWithin, bI_0, w1, c2, e2, if_true, if_false, and_self]
      · intro o ho; funext j; simp only [up_rd]; rw [if_neg (by omega)]
  · rw [if_neg c, if_neg c]
    refine CO_n hI (fun Q => ?_)
    simp only [e_94_0, e_94_32, e_94_65, brI, not_true_eq_false, true_implies, false_implies, implies_true, and_true, cTag, cTgt, cLen, true_and, Int.toNat_natCast, retI_I, retR_R, retV_N, retL_L, ne_eq, Int.reduceEq, not_false_eq_true, x_isWithin, bI_0]
    by_cases w0 : w = 0
    · have c2 : ¬ (0 ≤ v ∧ v ≤ 9) := by omega
      simp [w0, c2]
    · by_cases w1 : w = 1
      · have c2 : ¬ (1 ≤ v ∧ v ≤ 9) := by omega
        simp [w1, c2]
      · simp [w0, w1]
theorem v_set (hV : IV B T) (w v : Int) : IV B (n_set T w v) := by
  unfold n_set
  split
  · split
    · exact IV_V hV (VS_up0 hV.1 _ _ (by omega))
    · exact IV_V hV (VS_up0 hV.1 _ _ (by omega))
  · exact hV
/-- one of the valley's numbers changes -/
theorem RM_up0 {f g : Nat → Nat → Int} (hM : RM f S) {i : Nat} {x : Int} (hi : i < 4) (h1 : g 0 i = x) (h2 : ∀ k j, k ≠ 0 ∨ j ≠ i → g k j = f k j) : RM g (up S 0 i x) := by
  obtain ⟨g1, g2, g3, g4, g5, g6, g7, g8, g9, g10, g11, g12, g13⟩ := hM
  have z : ∀ k j, k ≠ 0 → up S 0 i x k j = S k j := by intro k j h; simp only [up_rd]; rw [if_neg (by omega)]
  have y : ∀ j, j < 4 → f 0 j = S 0 j → g 0 j = up S 0 i x 0 j := by
    intro j hj h
    simp only [up_rd, true_and]
    by_cases c : j = i
    · rw [if_pos c, c, h1]
    · rw [if_neg c, h2 0 j (by omega), h]
  refine ⟨y 0 (by omega) g1, y 1 (by omega) g2, y 2 (by omega) g3, y 3 (by omega) g4, ?_, ?_, ?_, ?_, ?_, ?_, ?_, ?_, ?_⟩
  · rw [h2 0 4 (by omega), g5]; unfold thb; rw [z _ _ (by omega), z _ _ (by omega), z _ _ (by omega), z _ _ (by omega)]
  · intro j hj; rw [h2 _ _ (by omega), z _ _ (by omega)]; exact g6 j hj
  · intro j hj; rw [h2 _ _ (by omega), z _ _ (by omega)]; exact g7 j hj
  · intro j hj; rw [h2 _ _ (by omega), z _ _ (by omega)]; exact g8 j hj
  · intro j hj; rw [h2 _ _ (by omega), z _ _ (by omega)]; exact g9 j hj
  · intro j hj; rw [h2 _ _ (by omega), z _ _ (by omega)]; exact g10 j hj
  · intro j hj; rw [h2 _ _ (by omega), z _ _ (by omega)]; exact g11 j hj
  · intro j hj; rw [h2 _ _ (by omega), z _ _ (by omega)]; exact g12 j hj
  · intro p hp ht
    rw [z _ _ (by omega)] at ht
    have q := g13 p hp ht
    unfold RP at q ⊢
    simp only [z (8 + p) _ (by omega)]
    rw [h2 8 _ (by omega), h2 9 _ (by omega), h2 9 _ (by omega), h2 10 _ (by omega), h2 11 _ (by omega), h2 12 _ (by omega), h2 13 _ (by omega), h2 13 _ (by omega), h2 14 _ (by omega)]
    exact q
theorem vP_u7 (x : Int) : ∀ k j, k ≠ 0 ∨ j ≠ 1 → vP (up σ 75 7 x) k j = vP σ k j := by
  intro k j h
  unfold vP
  split
  · split <;> first | (simp [up_rd]; done) | (exfalso; omega)
  all_goals simp [up_rd]
theorem vP_u8 (x : Int) : ∀ k j, k ≠ 0 ∨ j ≠ 2 → vP (up σ 75 8 x) k j = vP σ k j := by
  intro k j h
  unfold vP
  split
  · split <;> first | (simp [up_rd]; done) | (exfalso; omega)
  all_goals simp [up_rd]
theorem vP_u17 (x : Int) : ∀ k j, k ≠ 0 ∨ j ≠ 3 → vP (up σ 75 17 x) k j = vP σ k j := by
  intro k j h
  unfold vP
  split
  · split <;> first | (simp [up_rd]; done) | (exfalso; omega)
  all_goals simp [up_rd]
theorem up_id (σ : Mem) (a i : Nat) : up σ a i (σ a i) = σ := by
  funext o j
  simp only [up_rd]
  split
  · next h => rw [h.1, h.2]
  · rfl
theorem m_set (hI : IM T σ) (w v : Int) : MO σ (X L 153 0 [some (xR 75), some (xI w), some (xI v), none, none] [] σ) (a_set T w v) (n_set T w v) := by
  have e1 : σ 75 7 = T 0 0 1 := hI.1.tl
  have e2 : σ 75 8 = T 0 0 2 := hI.1.kk
  have u8 : ∀ x, up σ 75 7 x 75 8 = σ 75 8 := fun x => by simp [up_rd]
  unfold a_set n_set
  by_cases c : gSet w v
  · rw [if_pos c, if_pos c]
    by_cases w0 : w = 0
    · have c2 : 0 ≤ v ∧ v ≤ 9 := by omega
      rw [if_pos w0, if_pos w0]
      refine ⟨up σ 75 7 v, fun Q => ?_, IM_V hI (RM_up0 hI.1 (by omega) ?_ (vP_u7 v)) ?_ ?_, ?_⟩
      · simp only [e_153_0, e_153_34, e_153_42, e_153_57, e_153_72, e_153_85, e_153_89, brI, not_true_eq_false, true_implies, false_implies, implies_true, and_true, cTag, cTgt, cLen, true_and, Int.toNat_natCast, retI_I, retR_R, retV_N, retL_L, ne_eq, Int.reduceEq, not_false_eq_true, x_in, bI_0, w0, c2, if_true, if_false, and_self, e1]
        have := up_id (up σ 75 7 v) 75 8
        simp [this]
      · simp [vP, up_rd]
      · intro o ho; funext j; simp only [up_rd]; rw [if_neg (by omega)]
      · simp [up_rd]
      · intro o ho; funext j; simp only [up_rd]; rw [if_neg (by omega)]
    · have w1 : w = 1 := by omega
      have c2 : 1 ≤ v ∧ v ≤ 9 := by omega
      rw [if_neg w0, if_neg w0]
      refine ⟨up σ 75 8 v, fun Q => ?_, IM_V hI (RM_up0 hI.1 (by omega) ?_ (vP_u8 v)) ?_ ?_, ?_⟩
      · have := up_id σ 75 7
        rw [e1] at this
        simp only [e_153_0, e_153_14, e_153_34, e_153_42, e_153_53, e_153_57, e_153_68, e_153_72, e_153_89, brI, not_true_eq_false, true_implies, false_implies, implies_true, and_true, cTag, cTgt, cLen, true_and, Int.toNat_natCast, retI_I, retR_R, retV_N, retL_L, ne_eq, Int.reduceEq, not_false_eq_true, x_in, bI_0, w1, c2, if_true, if_false, and_self, e1, e2]
        simp [this]
      · simp [vP, up_rd]
      · intro o ho; funext j; simp only [up_rd]; rw [if_neg (by omega)]
      · simp [up_rd]
      · intro o ho; funext j; simp only [up_rd]; rw [if_neg (by omega)]
  · rw [if_neg c, if_neg c]
    refine MO_n hI (fun Q => ?_)
    simp only [e_153_0, e_153_14, e_153_33, e_153_34, brI, not_true_eq_false, true_implies, false_implies, implies_true, and_true, cTag, cTgt, cLen, true_and, Int.toNat_natCast, retI_I, retR_R, retV_N, retL_L, ne_eq, Int.reduceEq, not_false_eq_true, x_in, bI_0]
    by_cases w0 : w = 0
    · have c2 : ¬ (0 ≤ v ∧ v ≤ 9) := by omega
      simp [w0, c2]
    · by_cases w1 : w = 1
      · have c2 : ¬ (1 ≤ v ∧ v ≤ 9) := by omega
        simp [w1, c2]
      · simp [w0, w1]
/-! the PAD -/
def padS (T : Ful) (n : Int) (s : Nat → Int) : Ful := fun k => if k = 3 then (fun a j => if a = 1 then n else if a = 2 then s j else T 3 a j) else T k
theorem IC_P (hI : IC T σ) {n : Int} {s : Nat → Int} (h : ∀ o, o ≠ 18 → o ≠ 19 → τ o = σ o) (h1 : τ 18 1 = n) (h2 : ∀ j, j < 60 → τ 19 j = s j) : IC (padS T n s) τ := by
  obtain ⟨a1, a2, a3, a4, a5, a6⟩ := hI
  refine ⟨RC_eq (fun o ho => h o (by omega) (by omega)) a1, by rw [h 31 (by omega) (by omega)]; exact a2, ?_, ?_, h1, h2⟩
  · rw [h 55 (by omega) (by omega), h 70 (by omega) (by omega)]; exact a3
  · intro m hm
    rw [h 17 (by omega) (by omega)]
    refine ⟨(a4 m hm).1, fun k => ?_⟩
    have e : padS T n s (1 + m) = T (1 + m) := if_neg (by omega)
    rw [e]
    exact RC_eq (fun o ho => h o (by omega) (by omega)) ((a4 m hm).2 k)
theorem IM_P (hI : IM T σ) {n : Int} {s : Nat → Int} (h : ∀ o, o ≠ 75 → o ≠ 90 → τ o = σ o) (h3 : ∀ j, j < 28 → j ≠ 19 → τ 75 j = σ 75 j) (h1 : τ 75 19 = n) (h2 : ∀ j, j < 60 → τ 90 j = s j) : IM (padS T n s) τ := by
  obtain ⟨a1, a2, a3, a4⟩ := hI
  refine ⟨RM_cg (?_ : vP τ = vP σ) a1, ?_, h1, h2⟩
  · funext k j
    unfold vP
    split
    · split
      · exact h3 0 (by omega) (by omega)
      · exact h3 7 (by omega) (by omega)
      · exact h3 8 (by omega) (by omega)
      · exact h3 17 (by omega) (by omega)
      · exact h3 9 (by omega) (by omega)
    all_goals (first | rw [h 76 (by omega) (by omega)] | rw [h 77 (by omega) (by omega)] | rw [h 78 (by omega) (by omega)] | rw [h 79 (by omega) (by omega)] | rw [h 80 (by omega) (by omega)] | rw [h 81 (by omega) (by omega)] | rw [h 89 (by omega) (by omega)] | rw [h 82 (by omega) (by omega)] | rw [h 83 (by omega) (by omega)] | rw [h 84 (by omega) (by omega)] | rw [h 85 (by omega) (by omega)] | rw [h 86 (by omega) (by omega)] | rw [h 87 (by omega) (by omega)] | rw [h 88 (by omega) (by omega)])
  · intro m hm
    rw [h 103 (by omega) (by omega)]
    refine ⟨(a2 m hm).1, fun k => ?_⟩
    have e : padS T n s (1 + m) = T (1 + m) := if_neg (by omega)
    rw [e]
    exact RM_cg (vI_eq (h 102 (by omega) (by omega))) ((a2 m hm).2 k)
theorem IV_P (hV : IV B T) {n : Int} {s : Nat → Int} (h1 : 0 ≤ n ∧ n ≤ 60) (h2 : ∀ j, j < 60 → 0 ≤ s j ∧ s j ≤ 126) : IV B (padS T n s) := by
  obtain ⟨a1, a2, a3, a4⟩ := hV
  refine ⟨a1, ?_, h1, h2⟩
  intro m hm
  have e : padS T n s (1 + m) = T (1 + m) := if_neg (by omega)
  rw [e]
  exact a2 m hm
abbrev sayS (T : Ful) (s : Int) (j : Nat) : Int := if j = (pn T).toNat then s else sg T j
def a_say (T : Ful) (s : Int) : Int := if 33 ≤ s ∧ s ≤ 126 then (if pn T < 60 then pn T + 1 else -4) else -2
def n_say (T : Ful) (s : Int) : Ful := if (33 ≤ s ∧ s ≤ 126) ∧ pn T < 60 then padS T (pn T + 1) (sayS T s) else T
theorem c_say (hI : IC T σ) (hV : IV B T) (s : Int) : CO σ (X L 95 0 [some (xR 0), some (xI s)] [] σ) (a_say T s) (n_say T s) := by
  have e1 : σ 18 1 = pn T := hI.2.2.2.2.1
  have hp := hV.2.2.1
  unfold a_say n_say
  by_cases c : 33 ≤ s ∧ s ≤ 126
  · rw [if_pos c]
    by_cases c2 : pn T < 60
    · rw [if_pos c2, if_pos ⟨c, c2⟩]
      have hpa : pA L σ 19 (pn T) s = up σ 19 (pn T).toNat s := by
        unfold pA; rw [(cLen L).2.2.1, if_pos (by omega)]
      have hu : up σ 19 (pn T).toNat s 18 1 = pn T := by simp [up_rd, e1]
      refine ⟨up (up σ 19 (pn T).toNat s) 18 1 (pn T + 1), fun Q => ?_, IC_P hI ?_ ?_ ?_, ?_⟩
      · simp only [e_95_0, e_95_14, e_95_29, e_95_37, e_20_0, e_20_13, e_20_14, e_21_0, brI, not_true_eq_false, true_implies, false_implies, implies_true, and_true, cTag, cTgt, cLen, true_and, Int.toNat_natCast, retI_I, retR_R, retV_N, retL_L, ne_eq, Int.reduceEq, not_false_eq_true, x_isWithin, bI_0, c, c2, e1, x_put L 19 _ _ _ _ cTag.2.2.2.2.2.1, hpa, hu, if_true, if_false, and_self, w32_id (x := pn T + 1) (by omega) (by omega)]
        simp [up_rd]
      · intro o h1 h2; funext j; simp only [up_rd]; rw [if_neg (by omega), if_neg (by omega)]
      · simp [up_rd]
      · intro j hj
        have := hI.2.2.2.2.2 j hj
        simp [up_rd, this, sayS]
      · intro o ho; funext j; simp only [up_rd]; rw [if_neg (by omega), if_neg (by omega)]
    · rw [if_neg c2, if_neg (fun q => c2 q.2)]
      refine CO_n hI (fun Q => ?_)
      simp only [e_95_0, e_95_14, e_95_37, e_20_0, e_20_13, e_20_14, brI, not_true_eq_false, true_implies, false_implies, implies_true, and_true, cTag, cTgt, cLen, true_and, Int.toNat_natCast, retI_I, retR_R, retV_N, retL_L, ne_eq, Int.reduceEq, not_false_eq_true, x_isWithin, bI_0, c, c2, e1, if_true, if_false, and_self]
      simp
  · rw [if_neg c, if_neg (fun q => c q.1)]
    refine CO_n hI (fun Q => ?_)
    simp only [e_95_0, brI, not_true_eq_false, true_implies, false_implies, implies_true, and_true, cTag, cTgt, cLen, true_and, Int.toNat_natCast, retI_I, retR_R, retV_N, retL_L, ne_eq, Int.reduceEq, not_false_eq_true, x_isWithin, bI_0, c, if_true, if_false]
theorem m_say (hI : IM T σ) (hV : IV B T) (s : Int) : MO σ (X L 154 0 [some (xR 75), some (xI s)] [] σ) (a_say T s) (n_say T s) := by
  have e1 : σ 75 19 = pn T := hI.2.2.1
  have hp := hV.2.2.1
  unfold a_say n_say
  by_cases c : 33 ≤ s ∧ s ≤ 126
  · rw [if_pos c]
    by_cases c2 : pn T < 60
    · rw [if_pos c2, if_pos ⟨c, c2⟩]
      have hu : up σ 90 (pn T).toNat s 75 19 = pn T := by simp [up_rd, e1]
      have hne : ¬ pn T = 60 := by omega
      refine ⟨up (up σ 90 (pn T).toNat s) 75 19 (pn T + 1), fun Q => ?_, IM_P hI ?_ ?_ ?_ ?_, ?_⟩
      · simp only [e_154_0, e_154_14, e_154_26, brI, not_true_eq_false, true_implies, false_implies, implies_true, and_true, cTag, cTgt, cLen, true_and, Int.toNat_natCast, retI_I, retR_R, retV_N, retL_L, ne_eq, Int.reduceEq, not_false_eq_true, x_in, bI_0, c, hne, e1, hu, if_true, if_false, and_self, w32_id (x := pn T + 1) (by omega) (by omega), show (0 ≤ pn T ∧ pn T < 60) by omega]
        simp [up_rd]
      · intro o h1 h2; funext j; simp only [up_rd]; rw [if_neg (by omega), if_neg (by omega)]
      · intro j h1 h2; simp only [up_rd]; rw [if_neg (by omega), if_neg (by omega)]
      · simp [up_rd]
      · intro j hj
        have := hI.2.2.2 j hj
        simp [up_rd, this, sayS]
      · intro o ho; funext j; simp only [up_rd]; rw [if_neg (by omega), if_neg (by omega)]
    · rw [if_neg c2, if_neg (fun q => c2 q.2)]
      have hne : pn T = 60 := by omega
      refine MO_n hI (fun Q => ?_)
      simp only [e_154_0, e_154_14, brI, not_true_eq_false, true_implies, false_implies, implies_true, and_true, cTag, cTgt, cLen, true_and, Int.toNat_natCast, retI_I, retR_R, retV_N, retL_L, ne_eq, Int.reduceEq, not_false_eq_true, x_in, bI_0, c, hne, e1, if_true, if_false, and_self]
  · rw [if_neg c, if_neg (fun q => c q.1)]
    refine MO_n hI (fun Q => ?_)
    simp only [e_154_0, brI, not_true_eq_false, true_implies, false_implies, implies_true, and_true, cTag, cTgt, cLen, true_and, Int.toNat_natCast, retI_I, retR_R, retV_N, retL_L, ne_eq, Int.reduceEq, not_false_eq_true, x_in, bI_0, c, if_true, if_false]
theorem v_say (hV : IV B T) (s : Int) : IV B (n_say T s) := by
  unfold n_say
  split
  · next c =>
    have hp := hV.2.2.1
    refine IV_P hV (by omega) ?_
    intro j hj
    have := hV.2.2.2 j hj
    unfold sayS
    split <;> omega
  · exact hV
def n_wipe (T : Ful) : Ful := padS T 0 (sg T)
theorem c_wipe (hI : IC T σ) : CO σ (X L 96 0 [some (xR 0)] [] σ) (pn T) (n_wipe T) := by
  have e1 : σ 18 1 = pn T := hI.2.2.2.2.1
  refine ⟨up σ 18 1 0, fun Q => ?_, IC_P hI ?_ ?_ ?_, ?_⟩
  · simp only [e_96_0, e_22_0, brI, not_true_eq_false, true_implies, false_implies, implies_true, and_true, cTag, cTgt, cLen, true_and, Int.toNat_natCast, retI_I, retR_R, retV_N, retL_L, ne_eq, Int.reduceEq, not_false_eq_true, e1]
  · intro o h1 h2; funext j; simp only [up_rd]; rw [if_neg (by omega)]
  · simp [up_rd]
  · intro j hj
    have := hI.2.2.2.2.2 j hj
    simp [up_rd, this]
  · intro o ho; funext j; simp only [up_rd]; rw [if_neg (by omega)]
theorem m_wipe (hI : IM T σ) : MO σ (X L 155 0 [some (xR 75), none] [] σ) (pn T) (n_wipe T) := by
  have e1 : σ 75 19 = pn T := hI.2.2.1
  refine ⟨up σ 75 19 0, fun Q => ?_, IM_P hI ?_ ?_ ?_ ?_, ?_⟩
  · simp only [e_155_0, brI, not_true_eq_false, true_implies, false_implies, implies_true, and_true, cTag, cTgt, cLen, true_and, Int.toNat_natCast, retI_I, retR_R, retV_N, retL_L, ne_eq, Int.reduceEq, not_false_eq_true, e1]
  · intro o h1 h2; funext j; simp only [up_rd]; rw [if_neg (by omega)]
  · intro j h1 h2; simp only [up_rd]; rw [if_neg (by omega)]
  · simp [up_rd]
  · intro j hj
    have := hI.2.2.2 j hj
    simp [up_rd, this]
  · intro o ho; funext j; simp only [up_rd]; rw [if_neg (by omega)]
theorem v_wipe (hV : IV B T) : IV B (n_wipe T) := IV_P hV (by omega) hV.2.2.2
/-- the FAULT -/
def a_fault (T : Ful) : Int := flt (T 0 0 0) (sg T) (pn T).toNat
theorem c_ff (hI : IC T σ) (hV : IV B T) (Q : PQ) : X L 23 0 [some (xR 18), some (xI (T 0 0 0)), none, none, none, none] [] σ Q = Q (some (xI (a_fault T))) σ := by
  have hp := hV.2.2.1
  exact x_firstFault (by omega) (by rw [hI.2.2.2.2.1]; omega) hI.2.2.2.2.2 _ hV.1.1 _ _ _ _ Q
theorem m_ff (hI : IM T σ) (hV : IV B T) (Q : PQ) : X L 156 0 [some (xR 75), none, none, none, none] [] σ Q = Q (some (xI (a_fault T))) σ := by
  have hp := hV.2.2.1
  exact x_faultOf (by omega) (by rw [hI.2.2.1]; omega) hI.2.2.2 _ hI.tw hV.1.1 _ _ _ _ Q
theorem c_fault (hI : IC T σ) (hV : IV B T) : CO σ (X L 97 0 [some (xR 0)] [] σ) (a_fault T) T := by
  refine CO_n hI (fun Q => ?_)
  simp only [e_97_0, brI, not_true_eq_false, true_implies, false_implies, implies_true, and_true, cTag, cTgt, cLen, true_and, Int.toNat_natCast, retI_I, retR_R, retV_N, retL_L, ne_eq, Int.reduceEq, not_false_eq_true, hI.1.1 0 (by omega), c_ff hI hV]
theorem m_fault (hI : IM T σ) (hV : IV B T) : MO σ (X L 157 0 [some (xR 75)] [] σ) (a_fault T) T := by
  refine MO_n hI (fun Q => ?_)
  simp only [e_157_0, brI, not_true_eq_false, true_implies, false_implies, implies_true, and_true, cTag, cTgt, cLen, true_and, Int.toNat_natCast, retI_I, retR_R, retV_N, retL_L, ne_eq, Int.reduceEq, not_false_eq_true, m_ff hI hV]
/-! sights -/
abbrev gSeen (T : Ful) (p t : Int) : Prop := (0 ≤ p ∧ p ≤ 3) ∧ isT T t
def s_seen (S : Mem) (p t : Int) : Mem := up (up (up S 7 (2 * (S 0 3).toNat) p) 7 (2 * (S 0 3).toNat + 1) t) 0 3 (S 0 3 + 1)
def a_seen (T : Ful) (p t : Int) : Int := if gSeen T p t then (if T 0 0 3 < 6 then T 0 0 3 + 1 else -4) else -1
def n_seen (T : Ful) (p t : Int) : Ful := if gSeen T p t ∧ T 0 0 3 < 6 then setV T (s_seen (T 0) p t) else T
theorem RC_seen (hR : RC v S σ) (h3 : 0 ≤ S 0 3 ∧ S 0 3 < 6) (p t : Int) : RC v (s_seen S p t) (up (up (up σ (v + 7) (S 0 3).toNat p) (v + 8) (S 0 3).toNat t) v 3 (S 0 3 + 1)) := by
  refine RC_up0 ?_ _ _
  obtain ⟨h1, h2, h3, h4, h5, h6, h7, h8, h9, h10, h11⟩ := hR
  refine ⟨?_, ?_, ?_, ?_, ?_, ?_, ?_, ?_, ?_, ?_, ?_⟩
  · intro j hj; simpa [up_rd] using h1 j hj
  · intro a b h h'; simpa [up_rd] using h2 a b h h'
  · intro a b h h'; simpa [up_rd] using h3 a b h h'
  · intro a b f h h' h2; simpa [up_rd] using h4 a b f h h' h2
  · intro j hj; simpa [up_rd] using h5 j hj
  · intro j hj; simpa [up_rd] using h6 j hj
  · intro j hj; simpa [up_rd] using h7 j hj
  · intro j hj; have := h8 j hj; simp only [up_rd, true_and]; omega
  · intro j hj; have := h9 j hj; simp only [up_rd, true_and]
    by_cases c : j = (S 0 3).toNat
    · rw [if_pos c, if_pos (by omega)]
    · rw [if_neg c, if_neg (by omega), if_neg (by omega), if_neg (by omega)]; exact this
  · intro p f hp hf
    have := h10 p f hp hf
    simp only [up_rd]
    rw [if_neg (by omega), if_neg (by omega), if_neg (by omega), if_neg (by omega), this]
  · simpa [up_rd] using h11
theorem VS_seen (hS : VS B S) (h3 : S 0 3 < 6) {p t : Int} (hp : 0 ≤ p ∧ p ≤ 3) (ht : 0 ≤ t ∧ t ≤ 5) : VS B (s_seen S p t) := by
  have h03 := hS.2.2.2.1
  refine VS_up0 ?_ _ _ (by omega)
  obtain ⟨h1, h2, h3, h4, h5, h6, h7, h8, h9, h10, h11, h12, h13⟩ := hS
  refine ⟨by simpa [up_rd] using h1, by simpa [up_rd] using h2, by simpa [up_rd] using h3, by simpa [up_rd] using h4, by simpa [up_rd] using h5, by simpa [up_rd] using h6, by simpa [up_rd] using h7, by simpa [up_rd] using h8, by simpa [up_rd] using h9, by simpa [up_rd] using h10, ?_, ?_, ?_⟩
  · intro i hi; have := h11 i hi; simp only [up_rd, true_and]; rw [if_neg (by omega)]; split <;> omega
  · intro i hi; have := h12 i hi; simp only [up_rd, true_and]; split
    · omega
    · rw [if_neg (by omega)]; exact this
  · intro q hq
    have := h13 q hq
    have e : ∀ k, up (up S 7 (2 * (S 0 3).toNat) p) 7 (2 * (S 0 3).toNat + 1) t (8 + q) k = S (8 + q) k := fun k => by simp only [up_rd]; rw [if_neg (by omega), if_neg (by omega)]
    have e0 : up (up S 7 (2 * (S 0 3).toNat) p) 7 (2 * (S 0 3).toNat + 1) t 0 0 = S 0 0 := by simp [up_rd]
    unfold VP at this ⊢
    rw [e0]
    simp only [e]
    exact this
theorem c_seen (hI : IC T σ) (hV : IV B T) (p t : Int) : CO σ (X L 114 0 [some (xR 0), some (xI p), some (xI t)] [] σ) (a_seen T p t) (n_seen T p t) := by
  have e0 := hI.1.1 0 (by omega)
  have e3 := hI.1.1 3 (by omega)
  have h03 := hV.1.2.2.2.1
  unfold a_seen n_seen
  by_cases c : gSeen T p t
  · obtain ⟨c1, c2⟩ := id c
    rw [if_pos c]
    by_cases c3 : T 0 0 3 < 6
    · rw [if_pos c3, if_pos ⟨c, c3⟩]
      have p1 : pA L σ 8 (T 0 0 3) p = up σ 8 (T 0 0 3).toNat p := by
        have h8 : ((lenL L 8 : Nat) : Int) = 6 := gl_7 iV1 L
        unfold pA; rw [h8, if_pos (by omega)]
      have p2 : ∀ ρ, pA L ρ 9 (T 0 0 3) t = up ρ 9 (T 0 0 3).toNat t := by
        intro ρ
        have h9 : ((lenL L 9 : Nat) : Int) = 6 := gl_8 iV1 L
        unfold pA; rw [h9, if_pos (by omega)]
      have q1 : up σ 8 (T 0 0 3).toNat p 1 3 = T 0 0 3 := by simp [up_rd, e3]
      have q2 : up (up σ 8 (T 0 0 3).toNat p) 9 (T 0 0 3).toNat t 1 3 = T 0 0 3 := by simp [up_rd, e3]
      refine ⟨up (up (up σ 8 (T 0 0 3).toNat p) 9 (T 0 0 3).toNat t) 1 3 (T 0 0 3 + 1), fun Q => ?_, IC_V hI (RC_seen hI.1 (by omega) p t) ?_, ?_⟩
      · simp only [e_114_0, e_114_22, e_114_39, e_114_48, e_70_0, brI, not_true_eq_false, true_implies, false_implies, implies_true, and_true, cTag, cTgt, cLen, true_and, Int.toNat_natCast, retI_I, retR_R, retV_N, retL_L, ne_eq, Int.reduceEq, not_false_eq_true, x_isTown iV1, x_isWithin, bI_0, e0, e3, c1, c2, c3, gv_10 iV1, gv_11 iV1, x_put L 8 _ _ _ _ (gt_7 iV1), x_put L 9 _ _ _ _ (gt_8 iV1), p1, p2, q1, q2, if_true, if_false, and_self, w32_id (x := T 0 0 3 + 1) (by omega) (by omega)]
        simp [up_rd]
      · intro o ho; funext j; simp only [up_rd]; rw [if_neg (by omega), if_neg (by omega), if_neg (by omega)]
      · intro o ho; funext j; simp only [up_rd]; rw [if_neg (by omega), if_neg (by omega), if_neg (by omega)]
    · rw [if_neg c3, if_neg (fun q => c3 q.2)]
      refine CO_n hI (fun Q => ?_)
      simp only [e_114_0, e_114_22, e_114_48, brI, not_true_eq_false, true_implies, false_implies, implies_true, and_true, cTag, cTgt, cLen, true_and, Int.toNat_natCast, retI_I, retR_R, retV_N, retL_L, ne_eq, Int.reduceEq, not_false_eq_true, x_isTown iV1, x_isWithin, bI_0, e0, e3, c1, c2, c3, if_true, if_false, and_self]
  · rw [if_neg c, if_neg (fun q => c q.1)]
    refine CO_n hI (fun Q => ?_)
    simp only [e_114_0, e_114_20, brI, not_true_eq_false, true_implies, false_implies, implies_true, and_true, cTag, cTgt, cLen, true_and, Int.toNat_natCast, retI_I, retR_R, retV_N, retL_L, ne_eq, Int.reduceEq, not_false_eq_true, x_isTown iV1, x_isWithin, bI_0, e0]
    by_cases c1 : 0 ≤ p ∧ p ≤ 3
    · have c2 : ¬ isT T t := fun q => c ⟨c1, q⟩
      simp only [c1, c2, brI, not_true_eq_false, true_implies, false_implies, implies_true, and_true, cTag, cTgt, cLen, true_and, Int.toNat_natCast, retI_I, retR_R, retV_N, retL_L, ne_eq, Int.reduceEq, not_false_eq_true, if_true, if_false, and_self]
    · simp only [c1, brI, not_true_eq_false, true_implies, false_implies, implies_true, and_true, cTag, cTgt, cLen, true_and, Int.toNat_natCast, retI_I, retR_R, retV_N, retL_L, ne_eq, Int.reduceEq, not_false_eq_true, if_true, if_false]
theorem m_seen (hI : IM T σ) (hV : IV B T) (p t : Int) : MO σ (X L 199 0 [some (xR 75), some (xI p), some (xI t)] [] σ) (a_seen T p t) (n_seen T p t) := by
  have hn := hV.1.1
  have hw : 2 ≤ σ 75 0 ∧ σ 75 0 ≤ 6 := by rw [hI.tw]; exact hn
  have e3 : σ 75 17 = T 0 0 3 := hI.1.sg
  have h03 := hV.1.2.2.2.1
  unfold a_seen n_seen
  by_cases c : gSeen T p t
  · obtain ⟨c1, c2⟩ := id c
    rw [if_pos c]
    by_cases c3 : T 0 0 3 < 6
    · rw [if_pos c3, if_pos ⟨c, c3⟩]
      obtain ⟨k, hk⟩ : ∃ k : Nat, T 0 0 3 = (k : Int) := ⟨(T 0 0 3).toNat, by omega⟩
      have ne6 : ¬ T 0 0 3 = 6 := by omega
      have q1 : up σ 89 (2 * k) p 75 17 = T 0 0 3 := by simp [up_rd, e3]
      have q2 : up (up σ 89 (2 * k) p) 89 (2 * k + 1) t 75 17 = T 0 0 3 := by simp [up_rd, e3]
      refine ⟨up (up (up σ 89 (2 * k) p) 89 (2 * k + 1) t) 75 17 (T 0 0 3 + 1), fun Q => ?_, IM_V hI ?_ ?_ ?_, ?_⟩
      · simp only [e_199_0, e_199_19, e_199_31, brI, not_true_eq_false, true_implies, false_implies, implies_true, and_true, cTag, cTgt, cLen, true_and, Int.toNat_natCast, retI_I, retR_R, retV_N, retL_L, ne_eq, Int.reduceEq, not_false_eq_true, x_in, x_isTownM L _ _ _ hw, bI_0, hI.tw, e3, c1, c2, ne6, if_true, if_false, and_self]
        rw [hk] at q1 q2 ⊢
        simp only [w32_id (x := 2 * (k : Int)) (by omega) (by omega), w32_id (x := 2 * (k : Int) + 1) (by omega) (by omega), show (2 * (k : Int)).toNat = 2 * k by omega, show (2 * (k : Int) + 1).toNat = 2 * k + 1 by omega, q1, q2, w32_id (x := (k : Int) + 1) (by omega) (by omega), show (0 ≤ 2 * (k : Int) ∧ 2 * (k : Int) < 12) by omega, show (0 ≤ 2 * (k : Int) + 1 ∧ 2 * (k : Int) + 1 < 12) by omega, true_and]
        simp [up_rd]
      · unfold s_seen
        rw [show (T 0 0 3).toNat = k by omega]
        refine RM_up0 (f := vP (up (up σ 89 (2 * k) p) 89 (2 * k + 1) t)) ?_ (by omega) (by simp [vP, up_rd]) (vP_u17 _)
        obtain ⟨g1, g2, g3, g4, g5, g6, g7, g8, g9, g10, g11, g12, g13⟩ := hI.1
        refine ⟨?_, ?_, ?_, ?_, ?_, ?_, ?_, ?_, ?_, ?_, ?_, ?_, ?_⟩
        · simpa [vP, up_rd] using g1
        · simpa [vP, up_rd] using g2
        · simpa [vP, up_rd] using g3
        · simpa [vP, up_rd] using g4
        · simpa [vP, up_rd, thb] using g5
        · intro j hj; simpa [vP, up_rd] using g6 j hj
        · intro j hj; simpa [vP, up_rd] using g7 j hj
        · intro j hj; simpa [vP, up_rd] using g8 j hj
        · intro j hj; simpa [vP, up_rd] using g9 j hj
        · intro j hj; simpa [vP, up_rd] using g10 j hj
        · intro j hj; simpa [vP, up_rd] using g11 j hj
        · intro j hj; have g := g12 j hj; simp only [vP] at g; simp only [vP, up_rd, true_and]; rw [g]
        · intro q hq h
          have e : ∀ x, up (up (T 0) 7 (2 * k) p) 7 (2 * k + 1) t (8 + q) x = T 0 (8 + q) x := fun x => by simp only [up_rd]; rw [if_neg (by omega), if_neg (by omega)]
          rw [e] at h
          have z := g13 q hq h
          unfold RP at z ⊢
          simp only [e]
          simpa [vP, up_rd] using z
      · intro o ho; funext j; simp only [up_rd]; rw [if_neg (by omega), if_neg (by omega), if_neg (by omega)]
      · simp [up_rd]
      · intro o ho; funext j; simp only [up_rd]; rw [if_neg (by omega), if_neg (by omega), if_neg (by omega)]
    · rw [if_neg c3, if_neg (fun q => c3 q.2)]
      have e6 : T 0 0 3 = 6 := by omega
      refine MO_n hI (fun Q => ?_)
      simp only [e_199_0, e_199_19, brI, not_true_eq_false, true_implies, false_implies, implies_true, and_true, cTag, cTgt, cLen, true_and, Int.toNat_natCast, retI_I, retR_R, retV_N, retL_L, ne_eq, Int.reduceEq, not_false_eq_true, x_in, x_isTownM L _ _ _ hw, bI_0, hI.tw, e3, c1, c2, e6, if_true, if_false, and_self]
  · rw [if_neg c, if_neg (fun q => c q.1)]
    refine MO_n hI (fun Q => ?_)
    simp only [e_199_0, e_199_17, brI, not_true_eq_false, true_implies, false_implies, implies_true, and_true, cTag, cTgt, cLen, true_and, Int.toNat_natCast, retI_I, retR_R, retV_N, retL_L, ne_eq, Int.reduceEq, not_false_eq_true, x_in, x_isTownM L _ _ _ hw, bI_0, hI.tw]
    by_cases c1 : 0 ≤ p ∧ p ≤ 3
    · have c2 : ¬ isT T t := fun q => c ⟨c1, q⟩
      simp only [c1, c2, brI, not_true_eq_false, true_implies, false_implies, implies_true, and_true, cTag, cTgt, cLen, true_and, Int.toNat_natCast, retI_I, retR_R, retV_N, retL_L, ne_eq, Int.reduceEq, not_false_eq_true, if_true, if_false, and_self]
    · simp only [c1, brI, not_true_eq_false, true_implies, false_implies, implies_true, and_true, cTag, cTgt, cLen, true_and, Int.toNat_natCast, retI_I, retR_R, retV_N, retL_L, ne_eq, Int.reduceEq, not_false_eq_true, if_true, if_false]
theorem v_seen (hV : IV B T) (p t : Int) : IV B (n_seen T p t) := by
  have hn := hV.1.1
  unfold n_seen
  split
  · next c => exact IV_V hV (VS_seen hV.1 c.2 c.1.1 (by omega))
  · exact hV
def n_forget (T : Ful) : Ful := setV T (up (T 0) 0 3 0)
theorem c_forget (hI : IC T σ) : CO σ (X L 115 0 [some (xR 0), none] [] σ) (T 0 0 3) (n_forget T) := by
  refine ⟨up σ 1 3 0, fun Q => ?_, IC_V hI (RC_up0 hI.1 _ _) (Fr_up (by omega)), ?_⟩
  · simp only [e_115_0, brI, not_true_eq_false, true_implies, false_implies, implies_true, and_true, cTag, cTgt, cLen, true_and, Int.toNat_natCast, retI_I, retR_R, retV_N, retL_L, ne_eq, Int.reduceEq, not_false_eq_true, hI.1.1 3 (by omega)]
  · intro o ho; funext j; simp only [up_rd]; rw [if_neg (by omega)]
theorem m_forget (hI : IM T σ) : MO σ (X L 200 0 [some (xR 75), none] [] σ) (T 0 0 3) (n_forget T) := by
  have e3 : σ 75 17 = T 0 0 3 := hI.1.sg
  refine ⟨up σ 75 17 0, fun Q => ?_, IM_V hI (RM_up0 hI.1 (by omega) (by simp [vP, up_rd]) (vP_u17 _)) ?_ ?_, ?_⟩
  · simp only [e_200_0, brI, not_true_eq_false, true_implies, false_implies, implies_true, and_true, cTag, cTgt, cLen, true_and, Int.toNat_natCast, retI_I, retR_R, retV_N, retL_L, ne_eq, Int.reduceEq, not_false_eq_true, e3]
  · intro o ho; funext j; simp only [up_rd]; rw [if_neg (by omega)]
  · simp [up_rd]
  · intro o ho; funext j; simp only [up_rd]; rw [if_neg (by omega)]
theorem v_forget (hV : IV B T) : IV B (n_forget T) := IV_V hV (VS_up0 hV.1 _ _ (by omega))
end Small
