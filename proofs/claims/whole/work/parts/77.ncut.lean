/-! PARTED, the Model's answer -/
section NCut
variable {B : Int} {S σ τ : Mem} {L v : Nat} {T : Ful}
theorem x_roads (hm : ∀ j, j < 36 → σ 76 j = S 1 j) (hS : VS B S) {t u : Nat} (i : Int) : ∃ d6, ∀ Q : PQ, X L 191 41 [some (xR 75), some (xI (t : Int)), some (xI (u : Int)), some (xI i), some (xI 0), some (xI 0), none] [] σ Q = X L 191 99 [some (xR 75), some (xI (t : Int)), some (xI (u : Int)), some (xI i), some (xI (rb S 6 : Int)), some (xI 6), d6] [] σ Q := by
  obtain ⟨d6, e1, -⟩ := lpE (n := 6) (fun a (d : Option PV) Q => X L 191 41 [some (xR 75), some (xI (t : Int)), some (xI (u : Int)), some (xI i), some (xI (rb S a : Int)), some (xI (a : Int)), d] [] σ Q) (fun _ _ => True) (by
    intro a d ha _
    refine ⟨some (xI 6), fun Q => ?_, trivial⟩
    have hb := rb_le S a (by omega)
    have h := lpF (n := 5 - a) (fun k (x : Nat) Q => X L 191 54 [some (xR 75), some (xI (t : Int)), some (xI (u : Int)), some (xI i), some (xI (x : Int)), some (xI (a : Int)), some (xI ((a + 1 + k : Nat) : Int))] [] σ Q) (fun k => rix S a k) (by
      intro k hk Q
      have hx := rix_lt S (a := a) (k := k) (by omega)
      have v3 : σ 76 (6 * a + (a + 1 + k)) = mil S a (a + 1 + k : Nat) := by rw [mil_at (by omega) (by omega)]; exact hm _ (by omega)
      have i2 : w32 (w32 (6 * (a : Int)) + ((a + 1 + k : Nat) : Int)) = ((6 * a + (a + 1 + k) : Nat) : Int) := by
        simp (disch := omega) only [w32_id]; omega
      have r2 : (0 ≤ ((6 * a + (a + 1 + k) : Nat) : Int) ∧ ((6 * a + (a + 1 + k) : Nat) : Int) < 36) := by omega
      have hix : rix S a (k + 1) = rix S a k + (if isr S a (a + 1 + k) then 1 else 0) := by
        unfold rix; simp only [rc]; omega
      show X L 191 54 [some (xR 75), some (xI (t : Int)), some (xI (u : Int)), some (xI i), some (xI (rix S a k : Int)), some (xI (a : Int)), some (xI ((a + 1 + k : Nat) : Int))] [] σ Q = X L 191 54 [some (xR 75), some (xI (t : Int)), some (xI (u : Int)), some (xI i), some (xI (rix S a (k + 1) : Int)), some (xI (a : Int)), some (xI ((a + 1 + (k + 1) : Nat) : Int))] [] σ Q
      rw [e_191_54]
      simp only [brI, not_true_eq_false, true_implies, false_implies, implies_true, and_true, cTag, cTgt, cLen, true_and, Int.toNat_natCast, retI_I, retR_R, retV_N, retL_L, ne_eq, Int.reduceEq, not_false_eq_true, i2, r2, v3, e_191_83, e_191_84, w32_id (x := ((a + 1 + k : Nat) : Int) + 1) (by omega) (by omega)]
      rw [if_neg (by omega), hix]
      by_cases c1 : isr S a (a + 1 + k)
      · rw [if_neg (by unfold isr at c1; omega), if_pos c1, w32_id (by omega) (by omega)]; rfl
      · rw [if_pos (by unfold isr at c1; omega), if_neg c1, w32_id (by omega) (by omega)]; rfl)
    show X L 191 41 [some (xR 75), some (xI (t : Int)), some (xI (u : Int)), some (xI i), some (xI (rb S a : Int)), some (xI (a : Int)), d] [] σ Q = X L 191 41 [some (xR 75), some (xI (t : Int)), some (xI (u : Int)), some (xI i), some (xI (rb S (a + 1) : Int)), some (xI ((a + 1 : Nat) : Int)), some (xI 6)] [] σ Q
    rw [e_191_41]
    simp only [brI]
    rw [if_neg (by omega), w32_id (by omega) (by omega)]
    refine Eq.trans (h Q) ?_
    have e : rix S a (5 - a) = rb S (a + 1) := rfl
    show X L 191 54 [some (xR 75), some (xI (t : Int)), some (xI (u : Int)), some (xI i), some (xI (rix S a (5 - a) : Int)), some (xI (a : Int)), some (xI ((a + 1 + (5 - a) : Nat) : Int))] [] σ Q = _
    rw [e, show a + 1 + (5 - a) = 6 by omega, e_191_54]
    simp only [brI, not_true_eq_false, true_implies, false_implies, implies_true, and_true, cTag, cTgt, cLen, true_and, Int.toNat_natCast, retI_I, retR_R, retV_N, retL_L, ne_eq, Int.reduceEq, not_false_eq_true]
    rw [if_pos (by omega), e_191_93, w32_id (by omega) (by omega)]
    rfl) (a := none) trivial
  refine ⟨d6, fun Q => ?_⟩
  refine Eq.trans (e1 Q) ?_
  show X L 191 41 [some (xR 75), some (xI (t : Int)), some (xI (u : Int)), some (xI i), some (xI (rb S 6 : Int)), some (xI 6), d6] [] σ Q = _
  rw [e_191_41]
  simp only [brI, Int.le_refl, if_true]
theorem x_least (hm : ∀ j, j < 36 → σ 76 j = S 1 j) (hS : VS B S) {n t u : Nat} (i : Int) (hn : (n : Int) = S 0 0) (ht : t < n) (hu : u < n) (htu : ¬ t = u) : ∃ (w : Nat), (∀ Q : PQ, X L 191 106 [some (xR 75), some (xI (t : Int)), some (xI (u : Int)), some (xI i), some (xI (rb S 6 : Int)), some (xI (-6)), some (xI 0)] [] σ Q = X L 191 162 [some (xR 75), some (xI (t : Int)), some (xI (u : Int)), some (xI i), some (xI (rb S 6 : Int)), some (xI (w : Int)), some (xI ((2 ^ rb S 6 : Nat) : Int))] [] σ Q) ∧ isB S t u (2 ^ n) w ∧ w < 32768 := by
  have hn6 := hS.1
  have hr := rb_le S 6 (by omega)
  have hr : rb S 6 ≤ 15 := by omega
  have hp : 2 ^ rb S 6 ≤ 2 ^ 15 := Nat.pow_le_pow_right (by omega) hr
  have hp : 2 ^ rb S 6 ≤ 32768 := hp
  have hsh := shl32_n (k := rb S 6) (by omega)
  obtain ⟨w, e1, hI⟩ := lpE (n := 2 ^ rb S 6) (fun c (w : Int) Q => X L 191 106 [some (xR 75), some (xI (t : Int)), some (xI (u : Int)), some (xI i), some (xI (rb S 6 : Int)), some (xI w), some (xI (c : Int))] [] σ Q) (fun c w => (w = -6 ∧ ∀ d, d < c → ¬ ctg S t u d) ∨ (∃ v : Nat, w = (v : Int) ∧ v < c ∧ ctg S t u v ∧ ∀ d, d < c → ctg S t u d → ¬ lss d v)) (by
    intro c w hc hI
    have hc3 : c < 32768 := by omega
    have hcm := cm_lt (S := S) (c := c) (t := t) (by omega) 6
    have hbu := bit_n (a := cm S c t 6) (k := u) (by omega) (by omega)
    have nx : ∀ (w : Int) (Q : PQ), X L 191 156 [some (xR 75), some (xI (t : Int)), some (xI (u : Int)), some (xI i), some (xI (rb S 6 : Int)), some (xI w), some (xI (c : Int))] [] σ Q = X L 191 106 [some (xR 75), some (xI (t : Int)), some (xI (u : Int)), some (xI i), some (xI (rb S 6 : Int)), some (xI w), some (xI ((c + 1 : Nat) : Int))] [] σ Q := by
      intro w Q; rw [e_191_156, w32_id (by omega) (by omega)]; rfl
    have tr : ∀ (w : Int) (Q : PQ), X L 191 133 [some (xR 75), some (xI (t : Int)), some (xI (u : Int)), some (xI i), some (xI (rb S 6 : Int)), some (xI w), some (xI (c : Int))] [] σ Q = X L 191 106 [some (xR 75), some (xI (t : Int)), some (xI (u : Int)), some (xI i), some (xI (rb S 6 : Int)), some (xI (if ctg S t u c then (c : Int) else w)), some (xI ((c + 1 : Nat) : Int))] [] σ Q := by
      intro w Q
      rw [e_191_133]
      simp only [brI, not_true_eq_false, true_implies, false_implies, implies_true, and_true, cTag, cTgt, cLen, true_and, Int.toNat_natCast, retI_I, retR_R, retV_N, retL_L, ne_eq, Int.reduceEq, not_false_eq_true, x_come hm hS hc3 (show t < 6 by omega), x_has, bI_0, e_191_152, e_191_154, nx]
      by_cases q : ctg S t u c
      · rw [if_pos q, if_pos (fun p => q (hbu.mp p))]
      · have q2 : (cm S c t 6).testBit u = true := Classical.byContradiction q
        rw [if_neg q, if_neg (fun p => p (hbu.mpr q2))]
    rcases hI with ⟨hw, hno⟩ | ⟨v, hw, hvc, hv, hmin⟩
    · refine ⟨if ctg S t u c then (c : Int) else w, fun Q => ?_, ?_⟩
      · show X L 191 106 [some (xR 75), some (xI (t : Int)), some (xI (u : Int)), some (xI i), some (xI (rb S 6 : Int)), some (xI w), some (xI (c : Int))] [] σ Q = _
        rw [e_191_106]
        simp only [brI, not_true_eq_false, true_implies, false_implies, implies_true, and_true, cTag, cTgt, cLen, true_and, Int.toNat_natCast, retI_I, retR_R, retV_N, retL_L, ne_eq, Int.reduceEq, not_false_eq_true, hsh, tr]
        rw [if_neg (by omega), if_pos (by omega)]
      · by_cases q : ctg S t u c
        · rw [if_pos q]
          refine Or.inr ⟨c, rfl, by omega, q, fun d hd hg => ?_⟩
          by_cases e : d = c
          · rw [e]; unfold lss; omega
          · exact absurd hg (hno d (by omega))
        · rw [if_neg q]
          refine Or.inl ⟨hw, fun d hd => ?_⟩
          by_cases e : d = c
          · rw [e]; exact q
          · exact hno d (by omega)
    · subst hw
      have hv3 : v < 2147483648 := by omega
      by_cases cp : pc v ≤ pc c
      · refine ⟨(v : Int), fun Q => ?_, Or.inr ⟨v, rfl, by omega, hv, fun d hd hg => ?_⟩⟩
        · show X L 191 106 [some (xR 75), some (xI (t : Int)), some (xI (u : Int)), some (xI i), some (xI (rb S 6 : Int)), some (xI (v : Int)), some (xI (c : Int))] [] σ Q = _
          rw [e_191_106]
          simp only [brI, not_true_eq_false, true_implies, false_implies, implies_true, and_true, cTag, cTgt, cLen, true_and, Int.toNat_natCast, retI_I, retR_R, retV_N, retL_L, ne_eq, Int.reduceEq, not_false_eq_true, hsh, tr, x_bits L hv3, x_bits L (show c < 2147483648 by omega), nx]
          rw [if_neg (by omega), if_neg (by omega), if_pos (by omega)]
        · by_cases e : d = c
          · rw [e]; unfold lss; omega
          · exact hmin d (by omega) hg
      · refine ⟨if ctg S t u c then (c : Int) else (v : Int), fun Q => ?_, ?_⟩
        · show X L 191 106 [some (xR 75), some (xI (t : Int)), some (xI (u : Int)), some (xI i), some (xI (rb S 6 : Int)), some (xI (v : Int)), some (xI (c : Int))] [] σ Q = _
          rw [e_191_106]
          simp only [brI, not_true_eq_false, true_implies, false_implies, implies_true, and_true, cTag, cTgt, cLen, true_and, Int.toNat_natCast, retI_I, retR_R, retV_N, retL_L, ne_eq, Int.reduceEq, not_false_eq_true, hsh, tr, x_bits L hv3, x_bits L (show c < 2147483648 by omega)]
          rw [if_neg (by omega), if_neg (by omega), if_neg (by omega)]
        · by_cases q : ctg S t u c
          · rw [if_pos q]
            refine Or.inr ⟨c, rfl, by omega, q, fun d hd hg => ?_⟩
            by_cases e : d = c
            · rw [e]; unfold lss; omega
            · have := hmin d (by omega) hg
              unfold lss at this ⊢; omega
          · rw [if_neg q]
            refine Or.inr ⟨v, rfl, by omega, hv, fun d hd hg => ?_⟩
            by_cases e : d = c
            · rw [e] at hg; exact absurd hg q
            · exact hmin d (by omega) hg) (a := -6) (Or.inl ⟨rfl, fun d hd => by omega⟩)
  rcases hI with ⟨-, hno⟩ | ⟨v, hw, hvc, hv, hmin⟩
  · exact absurd (ctg_mo (S := S) (t := t) (u := u) (A := 2 ^ t) ⟨(tb_pw t t).mpr rfl, fun q => htu ((tb_pw t u).mp q)⟩) (hno _ (mo_rb S _))
  · subst hw
    refine ⟨v, fun Q => ?_, ctg_B hS hn ht hvc hv hmin, by omega⟩
    refine Eq.trans (e1 Q) ?_
    rw [e_191_106]
    simp only [brI, not_true_eq_false, true_implies, false_implies, implies_true, and_true, cTag, cTgt, cLen, true_and, Int.toNat_natCast, retI_I, retR_R, retV_N, retL_L, ne_eq, Int.reduceEq, not_false_eq_true, hsh, Int.le_refl, if_true]
theorem m_part (hI : IM T σ) (hV : IV B T) (t u i : Int) : MO σ (X L 191 0 [some (xR 75), some (xI t), some (xI u), some (xI i), none, none, none] [] σ) (a_part T t u i) T := by
  have hn0 := hV.1.1
  have hw6 : 2 ≤ σ 75 0 ∧ σ 75 0 ≤ 6 := by rw [hI.tw]; exact hn0
  unfold a_part
  by_cases c : isT T t ∧ isT T u ∧ t ≠ u
  · obtain ⟨c1, c2, c3⟩ := id c
    rw [if_pos c]
    have c3 : ¬ t = u := c3
    by_cases ci : 0 ≤ i ∧ i ≤ 1
    · rw [if_pos ci]
      obtain ⟨t, rfl⟩ : ∃ a : Nat, t = (a : Int) := ⟨t.toNat, by omega⟩
      obtain ⟨u, rfl⟩ : ∃ a : Nat, u = (a : Int) := ⟨u.toNat, by omega⟩
      simp only [Int.toNat_natCast]
      obtain ⟨n, hn, hn2, hn6⟩ := tn hV
      have hnn : (T 0 0 0).toNat = n := by omega
      rw [hnn]
      have hm : ∀ j, j < 36 → σ 76 j = T 0 1 j := hI.1.mi
      obtain ⟨d6, e1⟩ := x_roads (L := L) (t := t) (u := u) hm hV.1 i
      obtain ⟨w, e2, hB, hw3⟩ := x_least (L := L) hm hV.1 i hn (t := t) (u := u) (by omega) (by omega) (by omega)
      rw [cutV_e hB]
      refine MO_n hI (fun Q => ?_)
      simp only [e_191_0, e_191_23, e_191_35, brI, not_true_eq_false, true_implies, false_implies, implies_true, and_true, cTag, cTgt, cLen, true_and, Int.toNat_natCast, retI_I, retR_R, retV_N, retL_L, ne_eq, Int.reduceEq, not_false_eq_true, x_isTownM L _ _ _ hw6, x_in, bI_0, hI.tw, c1, c2, c3, ci, e1, e_191_99, e2, x_bits L (show w < 2147483648 by omega), if_true, if_false, and_self, e_191_162, e_191_174, e_191_176]
      by_cases c0 : i = 0
      · rw [if_neg (fun q => q c0), if_pos c0]
      · rw [if_pos c0, if_neg c0]
    · rw [if_neg ci]
      refine MO_n hI (fun Q => ?_)
      simp only [e_191_0, e_191_23, brI, not_true_eq_false, true_implies, false_implies, implies_true, and_true, cTag, cTgt, cLen, true_and, Int.toNat_natCast, retI_I, retR_R, retV_N, retL_L, ne_eq, Int.reduceEq, not_false_eq_true, x_isTownM L _ _ _ hw6, x_in, bI_0, hI.tw, c1, c2, c3, ci, if_true, if_false, and_self]
  · rw [if_neg c]
    refine MO_n hI (fun Q => ?_)
    simp only [e_191_0, e_191_21, brI, not_true_eq_false, true_implies, false_implies, implies_true, and_true, cTag, cTgt, cLen, true_and, Int.toNat_natCast, retI_I, retR_R, retV_N, retL_L, ne_eq, Int.reduceEq, not_false_eq_true, x_isTownM L _ _ _ hw6, bI_0, hI.tw]
    by_cases c1 : isT T t
    · by_cases c2 : isT T u
      · have c3 : t = u := Classical.byContradiction (fun q => c ⟨c1, c2, q⟩)
        subst c3
        simp only [c1, brI, not_true_eq_false, true_implies, false_implies, implies_true, and_true, cTag, cTgt, cLen, true_and, Int.toNat_natCast, retI_I, retR_R, retV_N, retL_L, ne_eq, Int.reduceEq, not_false_eq_true, if_true, if_false, and_self]
      · simp only [c1, c2, brI, not_true_eq_false, true_implies, false_implies, implies_true, and_true, cTag, cTgt, cLen, true_and, Int.toNat_natCast, retI_I, retR_R, retV_N, retL_L, ne_eq, Int.reduceEq, not_false_eq_true, if_true, if_false, and_self]
    · simp only [c1, brI, not_true_eq_false, true_implies, false_implies, implies_true, and_true, cTag, cTgt, cLen, true_and, Int.toNat_natCast, retI_I, retR_R, retV_N, retL_L, ne_eq, Int.reduceEq, not_false_eq_true, if_true, if_false]
end NCut
