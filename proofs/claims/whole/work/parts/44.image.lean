/-! as now; images kept, images restored -/
section Img
variable {T : Ful} {σ τ : Mem} {B : Int} {L v : Nat} {S : Mem}
def bd (k j : Nat) : Prop := (k = 0 ∧ j ≤ 4) ∨ ((k = 1 ∨ k = 2) ∧ j < 36) ∨ (k = 3 ∧ j < 108) ∨ ((k = 4 ∨ k = 5) ∧ j < 6) ∨ (k = 6 ∧ j < 30) ∨ (k = 7 ∧ j < 12) ∨ ((k = 8 ∨ k = 10 ∨ k = 11 ∨ k = 12 ∨ k = 14) ∧ j < 4) ∨ ((k = 9 ∨ k = 13) ∧ j < 8)
theorem RM_cg2 {f g : Nat → Nat → Int} (h : ∀ k j, bd k j → g k j = f k j) (hM : RM f S) : RM g S := by
  obtain ⟨g1, g2, g3, g4, g5, g6, g7, g8, g9, g10, g11, g12, g13⟩ := hM
  refine ⟨?_, ?_, ?_, ?_, ?_, ?_, ?_, ?_, ?_, ?_, ?_, ?_, ?_⟩
  · rw [h _ _ (by unfold bd; omega)]; exact g1
  · rw [h _ _ (by unfold bd; omega)]; exact g2
  · rw [h _ _ (by unfold bd; omega)]; exact g3
  · rw [h _ _ (by unfold bd; omega)]; exact g4
  · rw [h _ _ (by unfold bd; omega)]; exact g5
  · intro j hj; rw [h _ _ (by unfold bd; omega)]; exact g6 j hj
  · intro j hj; rw [h _ _ (by unfold bd; omega)]; exact g7 j hj
  · intro j hj; rw [h _ _ (by unfold bd; omega)]; exact g8 j hj
  · intro j hj; rw [h _ _ (by unfold bd; omega)]; exact g9 j hj
  · intro j hj; rw [h _ _ (by unfold bd; omega)]; exact g10 j hj
  · intro j hj; rw [h _ _ (by unfold bd; omega)]; exact g11 j hj
  · intro j hj; rw [h _ _ (by unfold bd; omega)]; exact g12 j hj
  · intro p hp ht
    have q := g13 p hp ht
    unfold RP at q ⊢
    rw [h 8 p (by unfold bd; omega), h 9 (2 * p) (by unfold bd; omega), h 9 (2 * p + 1) (by unfold bd; omega), h 10 p (by unfold bd; omega), h 11 p (by unfold bd; omega), h 12 p (by unfold bd; omega), h 13 (2 * p) (by unfold bd; omega), h 13 (2 * p + 1) (by unfold bd; omega), h 14 p (by unfold bd; omega)]
    exact q
theorem bd_k {k j : Nat} (h : bd k j) : k = 0 ∨ k = 1 ∨ k = 2 ∨ k = 3 ∨ k = 4 ∨ k = 5 ∨ k = 6 ∨ k = 7 ∨ k = 8 ∨ k = 9 ∨ k = 10 ∨ k = 11 ∨ k = 12 ∨ k = 13 ∨ k = 14 := by unfold bd at h; omega
theorem x_asNow (hM : RM (vP σ) S) : ∃ τ, (∀ Q : PQ, X L 159 0 [some (xR 75), none] [] σ Q = Q none τ) ∧ RM (vN τ) S ∧ FrN σ τ := by
  obtain ⟨τ1, e1, a1, a2, a3, a4, a5, a6⟩ := cl_159_2 (L := L) σ
  obtain ⟨τ2, e2, b1, b2⟩ := cl_159_99 (L := L) τ1
  obtain ⟨τ3, e3, c1, c2⟩ := cl_159_125 (L := L) τ2
  refine ⟨τ3, fun Q => ?_, RM_cg2 ?_ hM, ?_⟩
  · rw [e_159_0, e1, e_159_2]
    simp only [brI, not_true_eq_false, true_implies, false_implies, implies_true, and_true, cTag, cTgt, cLen, true_and, Int.toNat_natCast, retI_I, retR_R, retV_N, retL_L, ne_eq, Int.reduceEq, not_false_eq_true, Int.le_refl, if_true, e_159_97, e2]
    rw [e_159_99]
    simp only [brI, not_true_eq_false, true_implies, false_implies, implies_true, and_true, cTag, cTgt, cLen, true_and, Int.toNat_natCast, retI_I, retR_R, retV_N, retL_L, ne_eq, Int.reduceEq, not_false_eq_true, Int.le_refl, if_true, e_159_123, e3]
    rw [e_159_125]
    simp only [brI, not_true_eq_false, true_implies, false_implies, implies_true, and_true, cTag, cTgt, cLen, true_and, Int.toNat_natCast, retI_I, retR_R, retV_N, retL_L, ne_eq, Int.reduceEq, not_false_eq_true, Int.le_refl, if_true, e_159_149]
  · have d : ∀ o, o < 91 ∨ 97 < o → τ3 o = σ o := by
      intro o ho; rw [c2 o (by omega), b2 o (by omega), a6 o (by omega) (by omega) (by omega) (by omega) (by omega)]
    have d1 : ∀ o, 91 ≤ o ∧ o ≤ 95 → τ3 o = τ1 o := by
      intro o ho; rw [c2 o (by omega), b2 o (by omega)]
    intro k j h
    have hk := bd_k h
    unfold bd at h
    rcases hk with rfl | rfl | rfl | rfl | rfl | rfl | rfl | rfl | rfl | rfl | rfl | rfl | rfl | rfl | rfl
    · have : j ≤ 4 := by omega
      rcases (show j = 0 ∨ j = 1 ∨ j = 2 ∨ j = 3 ∨ j = 4 by omega) with rfl | rfl | rfl | rfl | rfl <;> simp [vP, vN, d]
    · simp [vP, vN, d]
    · simp [vP, vN, d]
    · simp only [vP, vN]; rw [c1 j (by omega), b2 78 (by omega), a6 78 (by omega) (by omega) (by omega) (by omega) (by omega)]
    · simp [vP, vN, d]
    · simp [vP, vN, d]
    · simp only [vP, vN]; rw [c2 96 (by omega), b1 j (by omega), a6 81 (by omega) (by omega) (by omega) (by omega) (by omega)]
    · simp [vP, vN, d]
    · simp [vP, vN, d]
    · simp [vP, vN, d]
    · simp only [vP, vN]; rw [d1 91 (by omega), a1 j (by omega)]
    · simp only [vP, vN]; rw [d1 92 (by omega), a2 j (by omega)]
    · simp only [vP, vN]; rw [d1 93 (by omega), a3 j (by omega)]
    · simp only [vP, vN]; rw [d1 94 (by omega), a5 j (by omega)]
    · simp only [vP, vN]; rw [d1 95 (by omega), a4 j (by omega)]
  · intro o ho; rw [c2 o (by omega), b2 o (by omega), a6 o (by omega) (by omega) (by omega) (by omega) (by omega)]
/-! images -/
def imgF (T : Ful) (n : Nat) : Ful := fun k => if k = 1 + n then T 0 else if k = 3 then (fun a j => if a = 0 ∧ j = n then 1 else T 3 a j) else T k
def a_image (n : Int) : Int := if 0 ≤ n ∧ n ≤ 1 then 1 else -2
def n_image (T : Ful) (n : Int) : Ful := if 0 ≤ n ∧ n ≤ 1 then imgF T n.toNat else T
theorem img_3 (T : Ful) {n : Nat} (hn : n < 2) : imgF T n 0 = T 0 ∧ (∀ m, kp (imgF T n) m = if m = n then 1 else kp T m) ∧ pn (imgF T n) = pn T ∧ (∀ j, sg (imgF T n) j = sg T j) ∧ imgF T n (1 + n) = T 0 ∧ (∀ m, m < 2 → m ≠ n → imgF T n (1 + m) = T (1 + m)) := by
  refine ⟨?_, ?_, ?_, ?_, ?_, ?_⟩
  · unfold imgF; rw [if_neg (by omega), if_neg (by omega)]
  · intro m; unfold kp imgF; rw [if_neg (by omega), if_pos rfl]; simp only [true_and]
  · unfold pn imgF; rw [if_neg (by omega), if_pos rfl]; simp
  · intro j; unfold sg imgF; rw [if_neg (by omega), if_pos rfl]; simp
  · unfold imgF; rw [if_pos rfl]
  · intro m hm h; unfold imgF; rw [if_neg (by omega), if_neg (by omega)]
theorem x_isImage (i : Int) (Q : PQ) : X L 125 0 [some (xR 0), some (xI i)] [] σ Q = Q (some (xI (bI (0 ≤ i ∧ i ≤ 1)))) σ := by
  simp only [e_125_0, e_125_35, e_125_36, brI, cTag, cTgt, cLen, true_and, bI]
  by_cases c : 0 ≤ i ∧ i ≤ 1
  · have h1 : ¬ i < 0 := by omega
    have h2 : ¬ (2 : Int) ≤ i := by omega
    simp [c, h1, h2]
    omega
  · by_cases h1 : i < 0
    · simp [c, h1]
    · have h2 : (2 : Int) ≤ i := by omega
      simp [c, h1, h2]
theorem iVn {n : Nat} (hn : n < 2) : IsV (45 + 15 * n) ∧ tgt 16 n = 45 + 15 * n := by
  rcases (show n = 0 ∨ n = 1 by omega) with rfl | rfl
  · exact ⟨iV45, rfl⟩
  · exact ⟨iV60, rfl⟩
theorem c_image (hI : IC T σ) (hV : IV B T) (i : Int) : CO σ (X L 120 0 [some (xR 0), some (xI i)] [] σ) (a_image i) (n_image T i) := by
  unfold a_image n_image
  by_cases c : 0 ≤ i ∧ i ≤ 1
  · rw [if_pos c, if_pos c]
    obtain ⟨n, rfl⟩ : ∃ n : Nat, i = (n : Int) := ⟨i.toNat, by omega⟩
    have hn : n < 2 := by omega
    obtain ⟨hv, ht⟩ := iVn hn
    rw [Int.toNat_natCast]
    obtain ⟨h1, h2, h3, h4, h5, h6⟩ := id hI
    obtain ⟨τ, e, hR, hF⟩ := x_becomeLike (L := L) hv iV1 (by omega) h1 hV.1 (by
      rcases (show n = 0 ∨ n = 1 by omega) with rfl | rfl
      · exact h3.1
      · exact h3.2) none
    obtain ⟨q1, q2, q3, q4, q5, q6⟩ := img_3 T hn
    have hU : ∀ o, o ≠ 17 → up τ 17 n 1 o = τ o := by
      intro o ho; funext j; simp only [up_rd]; rw [if_neg (by omega)]
    refine ⟨up τ 17 n 1, fun Q => ?_, ⟨?_, ?_, ?_, ?_, ?_, ?_⟩, ?_⟩
    · simp only [e_120_0, e_120_11, brI, not_true_eq_false, true_implies, false_implies, implies_true, and_true, cTag, cTgt, cLen, true_and, Int.toNat_natCast, retI_I, retR_R, retV_N, retL_L, ne_eq, Int.reduceEq, not_false_eq_true, x_isImage, bI_0, c, ht, gv_t hv, e, if_true, if_false, and_self]
      simp (disch := omega) only [le_t, le_f, lt_t, lt_f, eq_t, eq_f, w32_id, inb, if_true, if_false, not_true_eq_false, not_false_eq_true, and_true, true_and, and_false, false_and, or_true, true_or, or_false, false_or, Int.add_zero, Int.zero_add, and_self, or_self]
    · rw [q1]; refine RC_eq (fun o ho => ?_) h1; rw [hU o (by omega), hF o (by omega)]
    · rw [hU 31 (by omega), hF 31 (by omega)]; exact h2
    · have n0 : τ (45 + 15 * n + 10) 0 = 0 := hR.2.2.2.2.2.2.2.2.2.2
      rw [hU 55 (by omega), hU 70 (by omega)]
      rcases (show n = 0 ∨ n = 1 by omega) with rfl | rfl
      · rw [hF 70 (by omega)]; exact ⟨n0, h3.2⟩
      · rw [hF 55 (by omega)]; exact ⟨h3.1, n0⟩
    · intro m hm
      have z : up τ 17 n 1 17 m = if m = n then 1 else kp T m := by
        simp only [up_rd, true_and]
        rw [hF 17 (by omega), (h4 m hm).1]
      refine ⟨by rw [q2]; exact z, fun k => ?_⟩
      by_cases cm : m = n
      · subst cm
        rw [q5]
        exact RC_eq (fun o ho => hU o (by omega)) hR
      · rw [q2, if_neg cm] at k
        rw [q6 m hm cm]
        exact RC_eq (fun o ho => by rw [hU o (by omega), hF o (by omega)]) ((h4 m hm).2 k)
    · rw [q3, hU 18 (by omega), hF 18 (by omega)]; exact h5
    · intro j hj; rw [q4, hU 19 (by omega), hF 19 (by omega)]; exact h6 j hj
    · intro o ho; rw [hU o (by omega), hF o (by omega)]
  · rw [if_neg c, if_neg c]
    refine CO_n hI (fun Q => ?_)
    simp only [e_120_0, brI, not_true_eq_false, true_implies, false_implies, implies_true, and_true, cTag, cTgt, cLen, true_and, Int.toNat_natCast, retI_I, retR_R, retV_N, retL_L, ne_eq, Int.reduceEq, not_false_eq_true, x_isImage, bI_0, c, if_true, if_false]
theorem v_image (hV : IV B T) (i : Int) : IV B (n_image T i) := by
  unfold n_image
  split
  · next c =>
    obtain ⟨n, rfl⟩ : ∃ n : Nat, i = (n : Int) := ⟨i.toNat, by omega⟩
    rw [Int.toNat_natCast]
    obtain ⟨q1, q2, q3, q4, q5, q6⟩ := img_3 T (show n < 2 by omega)
    obtain ⟨h1, h2, h3, h4⟩ := hV
    refine ⟨by rw [q1]; exact h1, ?_, by rw [q3]; exact h3, ?_⟩
    · intro m hm
      rw [q2]
      by_cases cm : m = n
      · subst cm; rw [if_pos rfl, q5]; exact ⟨Or.inr rfl, fun _ => h1⟩
      · rw [if_neg cm, q6 m hm cm]; exact h2 m hm
    · intro j hj; rw [q4]; exact h4 j hj
  · exact hV
def a_restore (T : Ful) (n : Int) : Int := if 0 ≤ n ∧ n ≤ 1 then (if kp T n.toNat = 0 then -3 else 1) else -2
def n_restore (T : Ful) (n : Int) : Ful := if (0 ≤ n ∧ n ≤ 1) ∧ ¬ kp T n.toNat = 0 then setV T (T (1 + n.toNat)) else T
theorem c_restore (hI : IC T σ) (hV : IV B T) (i : Int) : CO σ (X L 121 0 [some (xR 0), some (xI i)] [] σ) (a_restore T i) (n_restore T i) := by
  unfold a_restore n_restore
  by_cases c : 0 ≤ i ∧ i ≤ 1
  · rw [if_pos c]
    obtain ⟨n, rfl⟩ : ∃ n : Nat, i = (n : Int) := ⟨i.toNat, by omega⟩
    have hn : n < 2 := by omega
    obtain ⟨hv, ht⟩ := iVn hn
    rw [Int.toNat_natCast]
    have hk := (hI.2.2.2.1 n hn).1
    by_cases c2 : kp T n = 0
    · rw [if_pos c2, if_neg (fun q => q.2 c2)]
      refine CO_n hI (fun Q => ?_)
      simp only [e_121_0, e_121_11, brI, not_true_eq_false, true_implies, false_implies, implies_true, and_true, cTag, cTgt, cLen, true_and, Int.toNat_natCast, retI_I, retR_R, retV_N, retL_L, ne_eq, Int.reduceEq, not_false_eq_true, x_isImage, bI_0, c, hk, c2, if_true, if_false, and_self]
      simp (disch := omega) only [le_t, le_f, lt_t, lt_f, eq_t, eq_f, w32_id, inb, if_true, if_false, not_true_eq_false, not_false_eq_true, and_true, true_and, and_false, false_and, or_true, true_or, or_false, false_or, Int.add_zero, Int.zero_add, and_self, or_self]
    · rw [if_neg c2, if_pos ⟨c, c2⟩]
      have k1 : kp T n = 1 := (hV.2.1 n hn).1.resolve_left c2
      obtain ⟨τ, e, hR, hF⟩ := x_becomeLike (L := L) iV1 hv (by omega) ((hI.2.2.2.1 n hn).2 k1) ((hV.2.1 n hn).2 k1) hI.1.2.2.2.2.2.2.2.2.2.2 none
      refine ⟨τ, fun Q => ?_, IC_V hI hR hF, fun o ho => hF o (by omega)⟩
      simp only [e_121_0, e_121_11, e_121_23, brI, not_true_eq_false, true_implies, false_implies, implies_true, and_true, cTag, cTgt, cLen, true_and, Int.toNat_natCast, retI_I, retR_R, retV_N, retL_L, ne_eq, Int.reduceEq, not_false_eq_true, x_isImage, bI_0, c, hk, c2, ht, e, if_true, if_false, and_self]
      simp (disch := omega) only [le_t, le_f, lt_t, lt_f, eq_t, eq_f, w32_id, inb, if_true, if_false, not_true_eq_false, not_false_eq_true, and_true, true_and, and_false, false_and, or_true, true_or, or_false, false_or, Int.add_zero, Int.zero_add, and_self, or_self]
  · rw [if_neg c, if_neg (fun q => c q.1)]
    refine CO_n hI (fun Q => ?_)
    simp only [e_121_0, brI, not_true_eq_false, true_implies, false_implies, implies_true, and_true, cTag, cTgt, cLen, true_and, Int.toNat_natCast, retI_I, retR_R, retV_N, retL_L, ne_eq, Int.reduceEq, not_false_eq_true, x_isImage, bI_0, c, if_true, if_false]
theorem v_restore (hV : IV B T) (i : Int) : IV B (n_restore T i) := by
  unfold n_restore
  split
  · next c =>
    have hn : i.toNat < 2 := by omega
    exact IV_V hV ((hV.2.1 _ hn).2 ((hV.2.1 _ hn).1.resolve_left c.2))
  · exact hV
theorem m_image (hI : IM T σ) (i : Int) : MO σ (X L 206 0 [some (xR 75), some (xI i), none, none] [] σ) (a_image i) (n_image T i) := by
  unfold a_image n_image
  by_cases c : 0 ≤ i ∧ i ≤ 1
  · rw [if_pos c, if_pos c]
    obtain ⟨m, rfl⟩ : ∃ m : Nat, i = (m : Int) := ⟨i.toNat, by omega⟩
    have hm : m < 2 := by omega
    rw [Int.toNat_natCast]
    obtain ⟨h1, h2, h3, h4⟩ := id hI
    obtain ⟨t1, e1, a1, a2, fa, ba⟩ := cl_206_20 (L := L) hm σ
    obtain ⟨t2, e2, b1, fb, bb⟩ := cl_206_65 (L := L) hm t1
    obtain ⟨t3, e3, c1, fc, bc⟩ := cl_206_96 (L := L) hm t2
    obtain ⟨t4, e4, d1, d2, fd, bd'⟩ := cl_206_128 (L := L) hm t3
    obtain ⟨t5, e5, g1, g2, fg, bg⟩ := cl_206_178 (L := L) hm t4
    obtain ⟨t6, e6, k1, k2, k3, k4, k5, fk, bk⟩ := cl_206_228 (L := L) hm t5
    obtain ⟨t7, e7, l1, fl', bl⟩ := cl_206_331 (L := L) hm t6
    obtain ⟨τ, hτ⟩ : ∃ τ, up (up (up (up (up (up t7 102 (320 * m + 270) (t7 75 0)) 102 (320 * m + 271) (t7 75 7)) 102 (320 * m + 272) (t7 75 8)) 102 (320 * m + 273) (t7 75 9)) 102 (320 * m + 274) (t7 75 17)) 103 m 1 = τ := ⟨_, rfl⟩
    have f7 : ∀ o, o ≠ 102 → t7 o = σ o := by
      intro o ho; rw [fl' o ho, fk o ho, fg o ho, fd o ho, fc o ho, fb o ho, fa o ho]
    have fτ : ∀ o, o ≠ 102 → o ≠ 103 → τ o = σ o := by
      intro o ho h; rw [← f7 o ho, ← hτ]; funext j; simp only [up_rd]; rw [if_neg (by omega), if_neg (by omega), if_neg (by omega), if_neg (by omega), if_neg (by omega), if_neg (by omega)]
    have r7 : ∀ j, j < 320 * m + 270 ∨ 320 * m + 275 ≤ j → τ 102 j = t7 102 j := by
      intro j hj; rw [← hτ]; simp only [up_rd]; rw [if_neg (by omega), if_neg (by omega), if_neg (by omega), if_neg (by omega), if_neg (by omega), if_neg (by omega)]
    have r103 : ∀ j, τ 103 j = if j = m then 1 else σ 103 j := by
      intro j; rw [← f7 103 (by omega), ← hτ]; simp [up_rd]
    have rs : τ 102 (320 * m + 270) = σ 75 0 ∧ τ 102 (320 * m + 271) = σ 75 7 ∧ τ 102 (320 * m + 272) = σ 75 8 ∧ τ 102 (320 * m + 273) = σ 75 9 ∧ τ 102 (320 * m + 274) = σ 75 17 := by
      rw [← f7 75 (by omega), ← hτ]; simp [up_rd]
    obtain ⟨q1, q2, q3, q4, q5, q6⟩ := img_3 T hm
    refine ⟨τ, fun Q => ?_, ⟨?_, ?_, ?_, ?_⟩, ?_⟩
    · simp only [e_206_0, e_206_12, brI, not_true_eq_false, true_implies, false_implies, implies_true, and_true, cTag, cTgt, cLen, true_and, Int.toNat_natCast, retI_I, retR_R, retV_N, retL_L, ne_eq, Int.reduceEq, not_false_eq_true, x_in, bI_0, c, if_true, if_false, and_self]
      rw [show w32 (320 * (m : Int)) = ((320 * m : Nat) : Int) by rw [w32_id (by omega) (by omega)]; omega]
      rw [e1, e_206_20]
      simp only [brI, not_true_eq_false, true_implies, false_implies, implies_true, and_true, cTag, cTgt, cLen, true_and, Int.toNat_natCast, retI_I, retR_R, retV_N, retL_L, ne_eq, Int.reduceEq, not_false_eq_true, Int.le_refl, if_true, e_206_63, e2]
      rw [e_206_65]
      simp only [brI, not_true_eq_false, true_implies, false_implies, implies_true, and_true, cTag, cTgt, cLen, true_and, Int.toNat_natCast, retI_I, retR_R, retV_N, retL_L, ne_eq, Int.reduceEq, not_false_eq_true, Int.le_refl, if_true, e_206_94, e3]
      rw [e_206_96]
      simp only [brI, not_true_eq_false, true_implies, false_implies, implies_true, and_true, cTag, cTgt, cLen, true_and, Int.toNat_natCast, retI_I, retR_R, retV_N, retL_L, ne_eq, Int.reduceEq, not_false_eq_true, Int.le_refl, if_true, e_206_126, e4]
      rw [e_206_128]
      simp only [brI, not_true_eq_false, true_implies, false_implies, implies_true, and_true, cTag, cTgt, cLen, true_and, Int.toNat_natCast, retI_I, retR_R, retV_N, retL_L, ne_eq, Int.reduceEq, not_false_eq_true, Int.le_refl, if_true, e_206_176, e5]
      rw [e_206_178]
      simp only [brI, not_true_eq_false, true_implies, false_implies, implies_true, and_true, cTag, cTgt, cLen, true_and, Int.toNat_natCast, retI_I, retR_R, retV_N, retL_L, ne_eq, Int.reduceEq, not_false_eq_true, Int.le_refl, if_true, e_206_226, e6]
      rw [e_206_228]
      simp only [brI, not_true_eq_false, true_implies, false_implies, implies_true, and_true, cTag, cTgt, cLen, true_and, Int.toNat_natCast, retI_I, retR_R, retV_N, retL_L, ne_eq, Int.reduceEq, not_false_eq_true, Int.le_refl, if_true, e_206_329, e7]
      rw [e_206_331]
      simp only [brI, not_true_eq_false, true_implies, false_implies, implies_true, and_true, cTag, cTgt, cLen, true_and, Int.toNat_natCast, retI_I, retR_R, retV_N, retL_L, ne_eq, Int.reduceEq, not_false_eq_true, Int.le_refl, if_true]
      rw [e_206_361]
      simp only [brI, not_true_eq_false, true_implies, false_implies, implies_true, and_true, cTag, cTgt, cLen, true_and, Int.toNat_natCast, retI_I, retR_R, retV_N, retL_L, ne_eq, Int.reduceEq, not_false_eq_true, up_rd, Nat.reduceEqDiff, false_and, if_false]
      simp (disch := omega) only [le_t, le_f, lt_t, lt_f, eq_t, eq_f, w32_id, inb, if_true, if_false, not_true_eq_false, not_false_eq_true, and_true, true_and, and_false, false_and, or_true, true_or, or_false, false_or, Int.add_zero, Int.zero_add, and_self, or_self, Int.toNat_add, Int.toNat_mul, Int.toNat_natCast, Int.reduceToNat]
      rw [← hτ]
    · rw [q1]; exact RM_cg (vP_eq (fun o ho => fτ o (by omega) (by omega)) (fun j _ => by rw [fτ 75 (by omega) (by omega)])) h1
    · intro n hn
      refine ⟨by rw [r103, q2, (h2 n hn).1], fun k => ?_⟩
      by_cases cn : n = m
      · subst cn
        rw [q5]
        refine RM_cg2 ?_ h1
        intro k j h
        have hk := bd_k h
        unfold bd at h
        rcases hk with rfl | rfl | rfl | rfl | rfl | rfl | rfl | rfl | rfl | rfl | rfl | rfl | rfl | rfl | rfl
        · rcases (show j = 0 ∨ j = 1 ∨ j = 2 ∨ j = 3 ∨ j = 4 by omega) with rfl | rfl | rfl | rfl | rfl <;> simp [vP, vI, rs]
        · simp only [vP, vI]; rw [r7 _ (by omega), bl _ (by omega), bk _ (by omega), bg _ (by omega), bd' _ (by omega), bc _ (by omega), bb _ (by omega), a1 j (by omega)]
        · simp only [vP, vI]; rw [r7 _ (by omega), bl _ (by omega), bk _ (by omega), bg _ (by omega), bd' _ (by omega), bc _ (by omega), bb _ (by omega), a2 j (by omega)]
        · simp only [vP, vI]; rw [r7 _ (by omega), bl _ (by omega), bk _ (by omega), bg _ (by omega), bd' _ (by omega), bc _ (by omega), b1 j (by omega), fa 78 (by omega)]
        · simp only [vP, vI]; rw [r7 _ (by omega), bl _ (by omega), bk _ (by omega), bg _ (by omega), d1 j (by omega), fc 79 (by omega), fb 79 (by omega), fa 79 (by omega)]
        · simp only [vP, vI]; rw [r7 _ (by omega), bl _ (by omega), bk _ (by omega), bg _ (by omega), d2 j (by omega), fc 80 (by omega), fb 80 (by omega), fa 80 (by omega)]
        · simp only [vP, vI]; rw [r7 _ (by omega), bl _ (by omega), bk _ (by omega), bg _ (by omega), bd' _ (by omega), c1 j (by omega), fb 81 (by omega), fa 81 (by omega)]
        · simp only [vP, vI]; rw [r7 _ (by omega), l1 j (by omega), fk 89 (by omega), fg 89 (by omega), fd 89 (by omega), fc 89 (by omega), fb 89 (by omega), fa 89 (by omega)]
        · simp only [vP, vI]; rw [r7 _ (by omega), bl _ (by omega), k1 j (by omega), fg 82 (by omega), fd 82 (by omega), fc 82 (by omega), fb 82 (by omega), fa 82 (by omega)]
        · simp only [vP, vI]; rw [r7 _ (by omega), bl _ (by omega), bk _ (by omega), g1 j (by omega), fd 83 (by omega), fc 83 (by omega), fb 83 (by omega), fa 83 (by omega)]
        · simp only [vP, vI]; rw [r7 _ (by omega), bl _ (by omega), k2 j (by omega), fg 84 (by omega), fd 84 (by omega), fc 84 (by omega), fb 84 (by omega), fa 84 (by omega)]
        · simp only [vP, vI]; rw [r7 _ (by omega), bl _ (by omega), k3 j (by omega), fg 85 (by omega), fd 85 (by omega), fc 85 (by omega), fb 85 (by omega), fa 85 (by omega)]
        · simp only [vP, vI]; rw [r7 _ (by omega), bl _ (by omega), k4 j (by omega), fg 86 (by omega), fd 86 (by omega), fc 86 (by omega), fb 86 (by omega), fa 86 (by omega)]
        · simp only [vP, vI]; rw [r7 _ (by omega), bl _ (by omega), bk _ (by omega), g2 j (by omega), fd 87 (by omega), fc 87 (by omega), fb 87 (by omega), fa 87 (by omega)]
        · simp only [vP, vI]; rw [r7 _ (by omega), bl _ (by omega), k5 j (by omega), fg 88 (by omega), fd 88 (by omega), fc 88 (by omega), fb 88 (by omega), fa 88 (by omega)]
      · rw [q2, if_neg cn] at k
        rw [q6 n hn cn]
        refine RM_cg2 ?_ ((h2 n hn).2 k)
        have key : ∀ j, 320 * n ≤ j → j < 320 * n + 275 → τ 102 j = σ 102 j := by
          intro j h1 h2
          rw [r7 _ (by omega), bl _ (by omega), bk _ (by omega), bg _ (by omega), bd' _ (by omega), bc _ (by omega), bb _ (by omega), ba _ (by omega)]
        intro k j h
        have hk := bd_k h
        unfold bd at h
        rcases hk with rfl | rfl | rfl | rfl | rfl | rfl | rfl | rfl | rfl | rfl | rfl | rfl | rfl | rfl | rfl
        · rcases (show j = 0 ∨ j = 1 ∨ j = 2 ∨ j = 3 ∨ j = 4 by omega) with rfl | rfl | rfl | rfl | rfl <;> (simp only [vI]; exact key _ (by omega) (by omega))
        all_goals (simp only [vI]; exact key _ (by omega) (by omega))
    · rw [q3, fτ 75 (by omega) (by omega)]; exact h3
    · intro j hj; rw [q4, fτ 90 (by omega) (by omega)]; exact h4 j hj
    · intro o ho; exact fτ o (by omega) (by omega)
  · rw [if_neg c, if_neg c]
    refine MO_n hI (fun Q => ?_)
    simp only [e_206_0, brI, not_true_eq_false, true_implies, false_implies, implies_true, and_true, cTag, cTgt, cLen, true_and, Int.toNat_natCast, retI_I, retR_R, retV_N, retL_L, ne_eq, Int.reduceEq, not_false_eq_true, x_in, bI_0, c, if_true, if_false]
theorem m_restore (hI : IM T σ) (hV : IV B T) (i : Int) : MO σ (X L 207 0 [some (xR 75), some (xI i), none, none] [] σ) (a_restore T i) (n_restore T i) := by
  unfold a_restore n_restore
  by_cases c : 0 ≤ i ∧ i ≤ 1
  · rw [if_pos c]
    obtain ⟨m, rfl⟩ : ∃ m : Nat, i = (m : Int) := ⟨i.toNat, by omega⟩
    have hm : m < 2 := by omega
    rw [Int.toNat_natCast]
    have hk := (hI.2.1 m hm).1
    by_cases c2 : kp T m = 0
    · rw [if_pos c2, if_neg (fun q => q.2 c2)]
      refine MO_n hI (fun Q => ?_)
      simp only [e_207_0, e_207_12, brI, not_true_eq_false, true_implies, false_implies, implies_true, and_true, cTag, cTgt, cLen, true_and, Int.toNat_natCast, retI_I, retR_R, retV_N, retL_L, ne_eq, Int.reduceEq, not_false_eq_true, x_in, bI_0, c, hk, c2, if_true, if_false, and_self]
      simp (disch := omega) only [le_t, le_f, lt_t, lt_f, eq_t, eq_f, w32_id, inb, if_true, if_false, not_true_eq_false, not_false_eq_true, and_true, true_and, and_false, false_and, or_true, true_or, or_false, false_or, Int.add_zero, Int.zero_add, and_self, or_self]
    · rw [if_neg c2, if_pos ⟨c, c2⟩]
      have kk : kp T m = 1 := (hV.2.1 m hm).1.resolve_left c2
      have h1 := (hI.2.1 m hm).2 kk
      obtain ⟨t1, e1, a1, a2, fa⟩ := cl_207_32 (L := L) hm σ
      obtain ⟨t2, e2, b1, fb⟩ := cl_207_77 (L := L) hm t1
      obtain ⟨t3, e3, c1, fc⟩ := cl_207_108 (L := L) hm t2
      obtain ⟨t4, e4, d1, d2, fd⟩ := cl_207_140 (L := L) hm t3
      obtain ⟨t5, e5, g1, g2, fg⟩ := cl_207_190 (L := L) hm t4
      obtain ⟨t6, e6, k1, k2, k3, k4, k5, fk⟩ := cl_207_240 (L := L) hm t5
      obtain ⟨t7, e7, l1, fl'⟩ := cl_207_343 (L := L) hm t6
      obtain ⟨τ, hτ⟩ : ∃ τ, up (up (up (up (up t7 75 0 (t7 102 (320 * m + 270))) 75 7 (t7 102 (320 * m + 271))) 75 8 (t7 102 (320 * m + 272))) 75 9 (t7 102 (320 * m + 273))) 75 17 (t7 102 (320 * m + 274)) = τ := ⟨_, rfl⟩
      have f7 : ∀ o, o < 76 ∨ 89 < o → t7 o = σ o := by
        intro o ho; rw [fl' o (by omega), fk o (by omega) (by omega) (by omega) (by omega) (by omega), fg o (by omega) (by omega), fd o (by omega) (by omega), fc o (by omega), fb o (by omega), fa o (by omega) (by omega)]
      have fτ : ∀ o, o ≠ 75 → τ o = t7 o := by
        intro o ho; rw [← hτ]; funext j; simp only [up_rd]; rw [if_neg (by omega), if_neg (by omega), if_neg (by omega), if_neg (by omega), if_neg (by omega)]
      have rs : τ 75 0 = σ 102 (320 * m + 270) ∧ τ 75 7 = σ 102 (320 * m + 271) ∧ τ 75 8 = σ 102 (320 * m + 272) ∧ τ 75 9 = σ 102 (320 * m + 273) ∧ τ 75 17 = σ 102 (320 * m + 274) ∧ τ 75 19 = σ 75 19 := by
        rw [← f7 102 (by omega), ← f7 75 (by omega), ← hτ]; simp [up_rd]
      refine ⟨τ, fun Q => ?_, IM_V hI ?_ ?_ rs.2.2.2.2.2, ?_⟩
      · simp only [e_207_0, e_207_12, e_207_24, brI, not_true_eq_false, true_implies, false_implies, implies_true, and_true, cTag, cTgt, cLen, true_and, Int.toNat_natCast, retI_I, retR_R, retV_N, retL_L, ne_eq, Int.reduceEq, not_false_eq_true, x_in, bI_0, c, hk, c2, if_true, if_false, and_self]
        rw [show w32 (320 * (m : Int)) = ((320 * m : Nat) : Int) by rw [w32_id (by omega) (by omega)]; omega]
        rw [e1, e_207_32]
        simp only [brI, not_true_eq_false, true_implies, false_implies, implies_true, and_true, cTag, cTgt, cLen, true_and, Int.toNat_natCast, retI_I, retR_R, retV_N, retL_L, ne_eq, Int.reduceEq, not_false_eq_true, Int.le_refl, if_true, e_207_75, e2]
        rw [e_207_77]
        simp only [brI, not_true_eq_false, true_implies, false_implies, implies_true, and_true, cTag, cTgt, cLen, true_and, Int.toNat_natCast, retI_I, retR_R, retV_N, retL_L, ne_eq, Int.reduceEq, not_false_eq_true, Int.le_refl, if_true, e_207_106, e3]
        rw [e_207_108]
        simp only [brI, not_true_eq_false, true_implies, false_implies, implies_true, and_true, cTag, cTgt, cLen, true_and, Int.toNat_natCast, retI_I, retR_R, retV_N, retL_L, ne_eq, Int.reduceEq, not_false_eq_true, Int.le_refl, if_true, e_207_138, e4]
        rw [e_207_140]
        simp only [brI, not_true_eq_false, true_implies, false_implies, implies_true, and_true, cTag, cTgt, cLen, true_and, Int.toNat_natCast, retI_I, retR_R, retV_N, retL_L, ne_eq, Int.reduceEq, not_false_eq_true, Int.le_refl, if_true, e_207_188, e5]
        rw [e_207_190]
        simp only [brI, not_true_eq_false, true_implies, false_implies, implies_true, and_true, cTag, cTgt, cLen, true_and, Int.toNat_natCast, retI_I, retR_R, retV_N, retL_L, ne_eq, Int.reduceEq, not_false_eq_true, Int.le_refl, if_true, e_207_238, e6]
        rw [e_207_240]
        simp only [brI, not_true_eq_false, true_implies, false_implies, implies_true, and_true, cTag, cTgt, cLen, true_and, Int.toNat_natCast, retI_I, retR_R, retV_N, retL_L, ne_eq, Int.reduceEq, not_false_eq_true, Int.le_refl, if_true, e_207_341, e7]
        rw [e_207_343]
        simp only [brI, not_true_eq_false, true_implies, false_implies, implies_true, and_true, cTag, cTgt, cLen, true_and, Int.toNat_natCast, retI_I, retR_R, retV_N, retL_L, ne_eq, Int.reduceEq, not_false_eq_true, Int.le_refl, if_true]
        rw [e_207_373]
        simp only [brI, not_true_eq_false, true_implies, false_implies, implies_true, and_true, cTag, cTgt, cLen, true_and, Int.toNat_natCast, retI_I, retR_R, retV_N, retL_L, ne_eq, Int.reduceEq, not_false_eq_true, up_rd, Nat.reduceEqDiff, false_and, if_false]
        simp (disch := omega) only [le_t, le_f, lt_t, lt_f, eq_t, eq_f, w32_id, inb, if_true, if_false, not_true_eq_false, not_false_eq_true, and_true, true_and, and_false, false_and, or_true, true_or, or_false, false_or, Int.add_zero, Int.zero_add, and_self, or_self, Int.toNat_add, Int.toNat_mul, Int.toNat_natCast, Int.reduceToNat]
        rw [← hτ]
      · refine RM_cg2 ?_ h1
        intro k j h
        have hk := bd_k h
        unfold bd at h
        rcases hk with rfl | rfl | rfl | rfl | rfl | rfl | rfl | rfl | rfl | rfl | rfl | rfl | rfl | rfl | rfl
        · rcases (show j = 0 ∨ j = 1 ∨ j = 2 ∨ j = 3 ∨ j = 4 by omega) with rfl | rfl | rfl | rfl | rfl <;> simp [vP, vI, rs]
        · simp only [vP, vI]; rw [fτ 76 (by omega), fl' 76 (by omega), fk 76 (by omega) (by omega) (by omega) (by omega) (by omega), fg 76 (by omega) (by omega), fd 76 (by omega) (by omega), fc 76 (by omega), fb 76 (by omega), a1 j (by omega)]
        · simp only [vP, vI]; rw [fτ 77 (by omega), fl' 77 (by omega), fk 77 (by omega) (by omega) (by omega) (by omega) (by omega), fg 77 (by omega) (by omega), fd 77 (by omega) (by omega), fc 77 (by omega), fb 77 (by omega), a2 j (by omega)]
        · simp only [vP, vI]; rw [fτ 78 (by omega), fl' 78 (by omega), fk 78 (by omega) (by omega) (by omega) (by omega) (by omega), fg 78 (by omega) (by omega), fd 78 (by omega) (by omega), fc 78 (by omega), b1 j (by omega), fa 102 (by omega) (by omega)]
        · simp only [vP, vI]; rw [fτ 79 (by omega), fl' 79 (by omega), fk 79 (by omega) (by omega) (by omega) (by omega) (by omega), fg 79 (by omega) (by omega), d1 j (by omega), fc 102 (by omega), fb 102 (by omega), fa 102 (by omega) (by omega)]
        · simp only [vP, vI]; rw [fτ 80 (by omega), fl' 80 (by omega), fk 80 (by omega) (by omega) (by omega) (by omega) (by omega), fg 80 (by omega) (by omega), d2 j (by omega), fc 102 (by omega), fb 102 (by omega), fa 102 (by omega) (by omega)]
        · simp only [vP, vI]; rw [fτ 81 (by omega), fl' 81 (by omega), fk 81 (by omega) (by omega) (by omega) (by omega) (by omega), fg 81 (by omega) (by omega), fd 81 (by omega) (by omega), c1 j (by omega), fb 102 (by omega), fa 102 (by omega) (by omega)]
        · simp only [vP, vI]; rw [fτ 89 (by omega), l1 j (by omega), fk 102 (by omega) (by omega) (by omega) (by omega) (by omega), fg 102 (by omega) (by omega), fd 102 (by omega) (by omega), fc 102 (by omega), fb 102 (by omega), fa 102 (by omega) (by omega)]
        · simp only [vP, vI]; rw [fτ 82 (by omega), fl' 82 (by omega), k1 j (by omega), fg 102 (by omega) (by omega), fd 102 (by omega) (by omega), fc 102 (by omega), fb 102 (by omega), fa 102 (by omega) (by omega)]
        · simp only [vP, vI]; rw [fτ 83 (by omega), fl' 83 (by omega), fk 83 (by omega) (by omega) (by omega) (by omega) (by omega), g1 j (by omega), fd 102 (by omega) (by omega), fc 102 (by omega), fb 102 (by omega), fa 102 (by omega) (by omega)]
        · simp only [vP, vI]; rw [fτ 84 (by omega), fl' 84 (by omega), k2 j (by omega), fg 102 (by omega) (by omega), fd 102 (by omega) (by omega), fc 102 (by omega), fb 102 (by omega), fa 102 (by omega) (by omega)]
        · simp only [vP, vI]; rw [fτ 85 (by omega), fl' 85 (by omega), k3 j (by omega), fg 102 (by omega) (by omega), fd 102 (by omega) (by omega), fc 102 (by omega), fb 102 (by omega), fa 102 (by omega) (by omega)]
        · simp only [vP, vI]; rw [fτ 86 (by omega), fl' 86 (by omega), k4 j (by omega), fg 102 (by omega) (by omega), fd 102 (by omega) (by omega), fc 102 (by omega), fb 102 (by omega), fa 102 (by omega) (by omega)]
        · simp only [vP, vI]; rw [fτ 87 (by omega), fl' 87 (by omega), fk 87 (by omega) (by omega) (by omega) (by omega) (by omega), g2 j (by omega), fd 102 (by omega) (by omega), fc 102 (by omega), fb 102 (by omega), fa 102 (by omega) (by omega)]
        · simp only [vP, vI]; rw [fτ 88 (by omega), fl' 88 (by omega), k5 j (by omega), fg 102 (by omega) (by omega), fd 102 (by omega) (by omega), fc 102 (by omega), fb 102 (by omega), fa 102 (by omega) (by omega)]
      · intro o ho; rw [fτ o (by omega), f7 o (by omega)]
      · intro o ho; rw [fτ o (by omega), f7 o (by omega)]
  · rw [if_neg c, if_neg (fun q => c q.1)]
    refine MO_n hI (fun Q => ?_)
    simp only [e_207_0, brI, not_true_eq_false, true_implies, false_implies, implies_true, and_true, cTag, cTgt, cLen, true_and, Int.toNat_natCast, retI_I, retR_R, retV_N, retL_L, ne_eq, Int.reduceEq, not_false_eq_true, x_in, bI_0, c, if_true, if_false]
end Img
