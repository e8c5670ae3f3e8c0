/-! FILLED -/
section Fill
variable {B : Int} {S σ τ : Mem} {L v : Nat} {T : Ful}
abbrev sgt (S : Mem) (i : Nat) : Prop := S (8 + (S 7 (2 * i)).toNat) 0 = 1 ∧ S (8 + (S 7 (2 * i)).toNat) 2 = S 7 (2 * i + 1)
def hol (S : Mem) : Nat → Nat → Bool
  | 0, _ => true
  | m + 1, i => if sgt S i then hol S m (i + 1) else false
theorem x_holds2 (hv : IsV v) (hR : RC v S σ) (hS : VS B S) (Q : PQ) : ∀ (m i : Nat), i + m = (S 0 3).toNat → ∀ d : Option PV, X L 71 2 [some (xR v), some (xI (i : Int)), d] [] σ Q = Q (some (xI (bI (hol S m i = true)))) σ := by
  have h3 := hS.2.2.2.1
  have e3 := hR.1 3 (by omega)
  intro m
  induction m with
  | zero =>
    intro i hi d
    rw [e_71_2]
    simp only [brI, not_true_eq_false, true_implies, false_implies, implies_true, and_true, cTag, cTgt, cLen, true_and, Int.toNat_natCast, retI_I, retR_R, retV_N, retL_L, ne_eq, Int.reduceEq, not_false_eq_true, gv_t hv, e3]
    rw [if_pos (by omega), e_71_53]
    simp [hol, bI]
  | succ m ih =>
    intro i hi d
    have hi6 : i < 6 := by omega
    have w1 := hS.2.2.2.2.2.2.2.2.2.2.1 i hi6
    have a1 : vA L σ (v + 7) (i : Int) = S 7 (2 * i) := by
      unfold vA; rw [gl_7 hv, if_pos (by omega), Int.toNat_natCast]; exact hR.2.2.2.2.2.2.2.1 i hi6
    have a2 : vA L σ (v + 8) (i : Int) = S 7 (2 * i + 1) := by
      unfold vA; rw [gl_8 hv, if_pos (by omega), Int.toNat_natCast]; exact hR.2.2.2.2.2.2.2.2.1 i hi6
    obtain ⟨p, hp⟩ : ∃ p : Nat, S 7 (2 * i) = (p : Int) := ⟨(S 7 (2 * i)).toNat, by omega⟩
    have hp4 : p < 4 := by omega
    have h01 := (hS.p hp4).1
    rw [e_71_2]
    simp only [brI, not_true_eq_false, true_implies, false_implies, implies_true, and_true, cTag, cTgt, cLen, true_and, Int.toNat_natCast, retI_I, retR_R, retV_N, retL_L, ne_eq, Int.reduceEq, not_false_eq_true, gv_t hv, e3, gv_10 hv, gv_11 hv, x_valueAt L (v + 7) _ _ _ (gt_7 hv), x_valueAt L (v + 8) _ _ _ (gt_8 hv), a1, a2, hp, x_personAt hv hp4, gt_p hv hp4, hR.p hp4 (f := 0) (by omega), hR.p hp4 (f := 2) (by omega)]
    rw [if_neg (by omega)]
    by_cases c : sgt S i
    · have f1 : hol S (m + 1) i = hol S m (i + 1) := if_pos c
      unfold sgt at c
      rw [hp, Int.toNat_natCast] at c
      rw [f1, if_neg (by omega), if_pos c.2, e_71_47, w32_id (by omega) (by omega)]
      exact ih (i + 1) (by omega) _
    · have f1 : hol S (m + 1) i = false := if_neg c
      unfold sgt at c
      rw [hp, Int.toNat_natCast] at c
      rw [f1]
      by_cases c0 : S (8 + p) 0 = 0
      · rw [if_pos c0, e_71_45]; simp [bI]
      · rw [if_neg c0, if_neg (fun q => c ⟨by omega, q⟩), e_71_45]; simp [bI]
theorem x_holds (hv : IsV v) (hR : RC v S σ) (hS : VS B S) (d1 d2 : Option PV) (Q : PQ) : X L 71 0 [some (xR v), d1, d2] [] σ Q = Q (some (xI (bI (hol S (S 0 3).toNat 0 = true)))) σ := by
  rw [e_71_0]
  exact x_holds2 hv hR hS Q _ 0 (by omega) d2
abbrev fit (T : Ful) (g : Nat) : Prop := bad T g = -6 ∧ hol (dS T g) (dS T g 0 3).toNat 0 = true
def fN (T : Ful) : Nat → Int × Int
  | 0 => (0, -6)
  | g + 1 => if fit T g then ((fN T g).1 + 1, if (fN T g).2 < 0 then (g : Int) else (fN T g).2) else fN T g
theorem fN_s (T : Ful) (g : Nat) : 0 ≤ (fN T g).1 ∧ (fN T g).1 ≤ g ∧ ((fN T g).1 = 0 → (fN T g).2 = -6) ∧ (¬ (fN T g).1 = 0 → 0 ≤ (fN T g).2 ∧ (fN T g).2 < g) := by
  induction g with
  | zero => exact ⟨Int.le_refl _, Int.le_refl _, fun _ => rfl, fun q => absurd rfl q⟩
  | succ g ih =>
    obtain ⟨a, b, c, d⟩ := ih
    simp only [fN]
    split
    · refine ⟨by show 0 ≤ (fN T g).1 + 1; omega, by show (fN T g).1 + 1 ≤ _; omega, fun q => ?_, fun _ => ?_⟩
      · have : (fN T g).1 + 1 = 0 := q
        omega
      · show 0 ≤ (if (fN T g).2 < 0 then (g : Int) else (fN T g).2) ∧ (if (fN T g).2 < 0 then (g : Int) else (fN T g).2) < ((g + 1 : Nat) : Int)
        split
        · omega
        · have := d (fun z => by have := c z; omega)
          omega
    · exact ⟨a, by omega, c, fun q => by have := d q; omega⟩
def mk (T : Ful) : Nat := (cq (sg T) (2 * dH T)).toNat
theorem mk_3 (hV : IV B T) (hf : a_fault T = -6) : mk T ≤ 3 ∧ cq (sg T) (2 * dH T) = (mk T : Int) := by
  obtain ⟨hP, hp⟩ := pad_ok hV hf
  have := cq_3 hP.1.2 hP.2.2.2
  have := cq_0 (sg T) (2 * dH T)
  unfold mk; omega
theorem p4_64 {m : Nat} (h : m ≤ 3) : 4 ^ m ≤ 64 := by
  rcases (show m = 0 ∨ m = 1 ∨ m = 2 ∨ m = 3 by omega) with rfl | rfl | rfl | rfl <;> decide
theorem shl_4 {m : Nat} (h : m ≤ 3) : shl32 1 (w32 (2 * (m : Int))) = ((4 ^ m : Nat) : Int) := by
  rcases (show m = 0 ∨ m = 1 ∨ m = 2 ∨ m = 3 by omega) with rfl | rfl | rfl | rfl <;> decide
theorem c_untold (hI : IC T σ) (hV : IV B T) (hf : a_fault T = -6) (Q : PQ) : X L 26 0 [some (xR 18), none, none] [] σ Q = Q (some (xI (mk T : Int))) σ := by
  obtain ⟨hP, hp⟩ := pad_ok hV hf
  rw [← (mk_3 hV hf).2]
  exact x_untold hP.2.1 (by rw [hI.2.2.2.2.1]; exact hp) hI.2.2.2.2.2 none none Q
theorem c_fill (hI : IC T σ) (hV : IV B T) (hB0 : 0 ≤ B) (hB : B ≤ 800000) (hf : a_fault T = -6) : ∃ τ, (∀ Q : PQ, X L 5 0 [some (xR 20), some (xR 1), some (xR 18), none, none] [] σ Q = Q none τ) ∧ FrQ σ τ ∧ τ 20 6 = (fN T (4 ^ mk T)).1 ∧ (¬ (fN T (4 ^ mk T)).1 = 0 → τ 20 7 = (fN T (4 ^ mk T)).2) := by
  obtain ⟨hm3, hme⟩ := mk_3 hV hf
  have h64 := p4_64 hm3
  have hmin : fMin (mk T : Int) 3 = (mk T : Int) := by unfold fMin; rw [if_neg (by omega)]
  obtain ⟨σ0, hσ0⟩ : ∃ σ0, up (up σ 20 6 0) 20 7 0 = σ0 := ⟨_, rfl⟩
  have F0 : FrQ σ σ0 := by
    refine ⟨fun o ho => ?_, ?_⟩
    · funext j; rw [← hσ0]; simp only [up_rd]; rw [if_neg (by omega), if_neg (by omega)]
    · rw [← hσ0]; simp only [up_rd]; rw [if_neg (by omega), if_neg (by omega)]; exact hI.2.1
  obtain ⟨τ, e, hF, h6, h7⟩ := lpE (n := 4 ^ mk T) (fun g (ρ : Mem) Q => X L 5 22 [some (xR 20), some (xR 1), some (xR 18), some (xI (mk T : Int)), some (xI (g : Int))] [] ρ Q) (fun g ρ => FrQ σ ρ ∧ ρ 20 6 = (fN T g).1 ∧ (¬ (fN T g).1 = 0 → ρ 20 7 = (fN T g).2)) (by
    intro g ρ hg ⟨hF, h6, h7⟩
    have hIr := IC_Q hI hF
    obtain ⟨ρ1, e1, hF1, h31, ha, hb⟩ := c_play (L := L) hIr hV hB0 hB hf (g := g) (by omega) 1000000
    have q6 : ρ1 20 6 = (fN T g).1 := by rw [hF1.2 6 (by omega), h6]
    have q7 : ¬ (fN T g).1 = 0 → ρ1 20 7 = (fN T g).2 := by intro z; rw [hF1.2 7 (by omega), h7 z]
    have hs := fN_s T g
    have hF' : FrQ σ ρ1 := hF.tr (FrQ_D hF1 h31)
    have nx : ∀ (ρ : Mem) (Q : PQ), X L 5 85 [some (xR 20), some (xR 1), some (xR 18), some (xI (mk T : Int)), some (xI (g : Int))] [] ρ Q = X L 5 22 [some (xR 20), some (xR 1), some (xR 18), some (xI (mk T : Int)), some (xI ((g + 1 : Nat) : Int))] [] ρ Q := by
      intro ρ Q; rw [e_5_85, w32_id (by omega) (by omega)]; rfl
    by_cases cb : bad T g = -6
    · obtain ⟨hR, -⟩ := ha cb
      have hV2 := dS_VS hV hB0 hf cb
      have hh := fun Q => x_holds (L := L) iV21 hR hV2 none none Q
      by_cases ch : hol (dS T g) (dS T g 0 3).toNat 0 = true
      · have f1 : fN T (g + 1) = ((fN T g).1 + 1, if (fN T g).2 < 0 then (g : Int) else (fN T g).2) := if_pos ⟨cb, ch⟩
        obtain ⟨x, hx⟩ : ∃ x, (if (fN T g).2 < 0 then (g : Int) else (fN T g).2) = x := ⟨_, rfl⟩
        rw [f1, hx]
        obtain ⟨ρ2, hρ2⟩ : ∃ ρ2, up (up ρ1 20 7 x) 20 6 ((fN T g).1 + 1) = ρ2 := ⟨_, rfl⟩
        refine ⟨ρ2, fun Q => ?_, ?_, ?_, ?_⟩
        · show X L 5 22 [some (xR 20), some (xR 1), some (xR 18), some (xI (mk T : Int)), some (xI (g : Int))] [] ρ Q = X L 5 22 [some (xR 20), some (xR 1), some (xR 18), some (xI (mk T : Int)), some (xI ((g + 1 : Nat) : Int))] [] ρ2 Q
          rw [← nx, e_5_22]
          simp only [brI, not_true_eq_false, true_implies, false_implies, implies_true, and_true, cTag, cTgt, cLen, true_and, Int.toNat_natCast, retI_I, retR_R, retV_N, retL_L, ne_eq, Int.reduceEq, not_false_eq_true, shl_4 hm3, e1, bI_0, cb, if_false, hh, ch, q6]
          rw [if_neg (by omega)]
          have e72 : X L 5 72 [some (xR 20), some (xR 1), some (xR 18), some (xI (mk T : Int)), some (xI (g : Int))] [xI x, xR 20] ρ1 Q = X L 5 85 [some (xR 20), some (xR 1), some (xR 18), some (xI (mk T : Int)), some (xI (g : Int))] [] ρ2 Q := by
            have u : up ρ1 20 7 x 20 6 = (fN T g).1 := by simp [up_rd, q6]
            rw [e_5_72]
            simp only [brI, not_true_eq_false, true_implies, false_implies, implies_true, and_true, cTag, cTgt, cLen, true_and, Int.toNat_natCast, retI_I, retR_R, retV_N, retL_L, ne_eq, Int.reduceEq, not_false_eq_true, u, w32_id (x := (fN T g).1 + 1) (by omega) (by omega), hρ2]
          by_cases cz : (fN T g).1 = 0
          · have := hs.2.2.1 cz
            rw [if_pos (by omega)] at hx
            rw [if_neg (fun q => q cz)]
            rw [← hx] at e72
            exact e72
          · have := hs.2.2.2 cz
            rw [if_neg (by omega)] at hx
            rw [if_pos cz, e_5_68]
            simp only [brI, not_true_eq_false, true_implies, false_implies, implies_true, and_true, cTag, cTgt, cLen, true_and, Int.toNat_natCast, retI_I, retR_R, retV_N, retL_L, ne_eq, Int.reduceEq, not_false_eq_true, q7 cz, hx]
            exact e72
        · refine hF'.tr ⟨fun o ho => ?_, ?_⟩
          · funext j; rw [← hρ2]; simp only [up_rd]; rw [if_neg (by omega), if_neg (by omega)]
          · rw [← hρ2]; simp only [up_rd]; rw [if_neg (by omega), if_neg (by omega)]; exact h31
        · rw [← hρ2]; simp [up_rd]
        · intro _; rw [← hρ2]; simp [up_rd]
      · have f1 : fN T (g + 1) = fN T g := if_neg (fun q => ch q.2)
        rw [f1]
        refine ⟨ρ1, fun Q => ?_, hF', q6, q7⟩
        show X L 5 22 [some (xR 20), some (xR 1), some (xR 18), some (xI (mk T : Int)), some (xI (g : Int))] [] ρ Q = X L 5 22 [some (xR 20), some (xR 1), some (xR 18), some (xI (mk T : Int)), some (xI ((g + 1 : Nat) : Int))] [] ρ1 Q
        rw [← nx, e_5_22]
        simp only [brI, not_true_eq_false, true_implies, false_implies, implies_true, and_true, cTag, cTgt, cLen, true_and, Int.toNat_natCast, retI_I, retR_R, retV_N, retL_L, ne_eq, Int.reduceEq, not_false_eq_true, shl_4 hm3, e1, bI_0, cb, if_false, if_true, hh, ch]
        rw [if_neg (by omega)]
        simp
    · have f1 : fN T (g + 1) = fN T g := if_neg (fun q => cb q.1)
      rw [f1]
      refine ⟨ρ1, fun Q => ?_, hF', q6, q7⟩
      show X L 5 22 [some (xR 20), some (xR 1), some (xR 18), some (xI (mk T : Int)), some (xI (g : Int))] [] ρ Q = X L 5 22 [some (xR 20), some (xR 1), some (xR 18), some (xI (mk T : Int)), some (xI ((g + 1 : Nat) : Int))] [] ρ1 Q
      rw [← nx, e_5_22]
      simp only [brI, not_true_eq_false, true_implies, false_implies, implies_true, and_true, cTag, cTgt, cLen, true_and, Int.toNat_natCast, retI_I, retR_R, retV_N, retL_L, ne_eq, Int.reduceEq, not_false_eq_true, shl_4 hm3, e1, bI_0, cb, if_true]
      rw [if_neg (by omega)]) (a := σ0) ⟨F0, by rw [← hσ0]; simp [up_rd, fN], fun q => absurd rfl q⟩
  refine ⟨τ, fun Q => ?_, hF, h6, h7⟩
  rw [e_5_0]
  simp only [brI, not_true_eq_false, true_implies, false_implies, implies_true, and_true, cTag, cTgt, cLen, true_and, Int.toNat_natCast, retI_I, retR_R, retV_N, retL_L, ne_eq, Int.reduceEq, not_false_eq_true, c_untold hI hV hf, hσ0, hmin]
  refine Eq.trans (e Q) ?_
  show X L 5 22 [some (xR 20), some (xR 1), some (xR 18), some (xI (mk T : Int)), some (xI ((4 ^ mk T : Nat) : Int))] [] τ Q = _
  rw [e_5_22]
  simp only [brI, not_true_eq_false, true_implies, false_implies, implies_true, and_true, cTag, cTgt, cLen, true_and, Int.toNat_natCast, retI_I, retR_R, retV_N, retL_L, ne_eq, Int.reduceEq, not_false_eq_true, shl_4 hm3]
  rw [if_pos (Int.le_refl _), e_5_91]
abbrev asked (T : Ful) (i : Int) : Prop := ¬ (fN T (4 ^ mk T)).1 = 0 ∧ (0 ≤ i ∧ i ≤ (mk T : Int) - 1)
def a_filled (T : Ful) (i : Int) : Int := if a_fault T = -6 then (if i = -1 then (fN T (4 ^ mk T)).1 else if asked T i then (gs (fN T (4 ^ mk T)).2.toNat ((mk T : Int) - 1 - i) : Int) else -6) else -5
theorem c_filled (hI : IC T σ) (hV : IV B T) (hB0 : 0 ≤ B) (hB : B ≤ 800000) (i : Int) : CO σ (X L 116 0 [some (xR 0), some (xI i), none] [] σ) (a_filled T i) T := by
  have e0 := hI.1.1 0 (by omega)
  unfold a_filled
  by_cases c : a_fault T = -6
  · rw [if_pos c]
    obtain ⟨hm3, hme⟩ := mk_3 hV c
    have h64 := p4_64 hm3
    obtain ⟨τ, e, hF, h6, h7⟩ := c_fill (L := L) hI hV hB0 hB c
    have hI1 := IC_Q hI hF
    have hs := fN_s T (4 ^ mk T)
    refine CO_q hI ⟨τ, fun Q => ?_, hF⟩
    simp only [e_116_0, e_116_22, brI, not_true_eq_false, true_implies, false_implies, implies_true, and_true, cTag, cTgt, cLen, true_and, Int.toNat_natCast, retI_I, retR_R, retV_N, retL_L, ne_eq, Int.reduceEq, not_false_eq_true, e0, c_ff hI hV, c, if_true, e, h6]
    by_cases c1 : i = -1
    · rw [if_neg (fun q => q c1), if_pos c1]
    · rw [if_pos c1, if_neg c1]
      simp only [e_116_50, e_116_81, e_116_82, e_116_108, e_116_110, brI, not_true_eq_false, true_implies, false_implies, implies_true, and_true, cTag, cTgt, cLen, true_and, Int.toNat_natCast, retI_I, retR_R, retV_N, retL_L, ne_eq, Int.reduceEq, not_false_eq_true, h6, c_untold hI1 hV c, x_isWithin, bI_0, w32_id (x := (mk T : Int) - 1) (by omega) (by omega)]
      by_cases cz : (fN T (4 ^ mk T)).1 = 0
      · rw [if_pos (by omega), if_neg (fun q => q.1 cz)]
      · rw [if_neg (by omega)]
        by_cases ci : 0 ≤ i ∧ i ≤ (mk T : Int) - 1
        · obtain ⟨f, hfe⟩ : ∃ f : Nat, (fN T (4 ^ mk T)).2 = (f : Int) := ⟨(fN T (4 ^ mk T)).2.toNat, by have := hs.2.2.2 cz; omega⟩
          have hf64 : f < 64 := by have := hs.2.2.2 cz; omega
          rw [if_neg (fun q => q ci), if_pos ⟨cz, ci⟩, hfe, Int.toNat_natCast]
          rw [hfe] at h7
          have hx := x_guessed (L := L) (σ := τ) hf64 i (mk T : Int) (by omega) (by omega) none
          simp [h7 cz, hx, retI_I]
        · rw [if_pos ci, if_neg (fun q => ci q.2)]
  · rw [if_neg c]
    refine CO_n hI (fun Q => ?_)
    simp only [e_116_0, brI, not_true_eq_false, true_implies, false_implies, implies_true, and_true, cTag, cTgt, cLen, true_and, Int.toNat_natCast, retI_I, retR_R, retV_N, retL_L, ne_eq, Int.reduceEq, not_false_eq_true, e0, c_ff hI hV, c, if_false]
/-! the Model -/
theorem x_sights {a1 a2 a3 a4 a5 : Int} (hM : RM (vN σ) S) (hS : VS B S) : ∀ (m i : Nat), i + m = (S 0 3).toNat → ∃ k : Int, ∀ Q : PQ, X L 201 68 [some (xR 75), some (xI a1), some (xI a2), some (xI a3), some (xI a4), some (xI a5), some (xI 1), some (xI (i : Int))] [] σ Q = X L 201 139 [some (xR 75), some (xI a1), some (xI a2), some (xI a3), some (xI a4), some (xI a5), some (xI (bI (hol S m i = true))), some (xI k)] [] σ Q := by
  have h3 := hS.2.2.2.1
  have e3 : σ 75 17 = S 0 3 := hM.sg
  have h9 : σ 75 9 = thb S := hM.th
  intro m
  induction m with
  | zero =>
    intro i hi
    refine ⟨(i : Int), fun Q => ?_⟩
    rw [e_201_68]
    simp only [brI, not_true_eq_false, true_implies, false_implies, implies_true, and_true, cTag, cTgt, cLen, true_and, Int.toNat_natCast, retI_I, retR_R, retV_N, retL_L, ne_eq, Int.reduceEq, not_false_eq_true, e3]
    rw [if_pos (by omega)]
    simp [hol, bI]
  | succ m ih =>
    intro i hi
    have hi6 : i < 6 := by omega
    have w1 := hS.2.2.2.2.2.2.2.2.2.2.1 i hi6
    have a1' : σ 89 (2 * i) = S 7 (2 * i) := hM.si _ (by omega)
    have a2' : σ 89 (2 * i + 1) = S 7 (2 * i + 1) := hM.si _ (by omega)
    obtain ⟨p, hp⟩ : ∃ p : Nat, S 7 (2 * i) = (p : Int) := ⟨(S 7 (2 * i)).toNat, by omega⟩
    have hp4 : p < 4 := by omega
    have h01 := (hS.p hp4).1
    have stop : ∃ k : Int, ∀ Q : PQ, X L 201 131 [some (xR 75), some (xI a1), some (xI a2), some (xI a3), some (xI a4), some (xI a5), some (xI 1), some (xI (i : Int))] [xI 0] σ Q = X L 201 139 [some (xR 75), some (xI a1), some (xI a2), some (xI a3), some (xI a4), some (xI a5), some (xI 0), some (xI k)] [] σ Q := by
      refine ⟨(i : Int) + 1, fun Q => ?_⟩
      rw [e_201_131, e_201_68]
      simp only [brI, not_true_eq_false, true_implies, false_implies, implies_true, and_true, cTag, cTgt, cLen, true_and, Int.toNat_natCast, retI_I, retR_R, retV_N, retL_L, ne_eq, Int.reduceEq, not_false_eq_true, if_true, w32_id (x := (i : Int) + 1) (by omega) (by omega)]
      split <;> rfl
    have hd : ∀ Q : PQ, X L 201 68 [some (xR 75), some (xI a1), some (xI a2), some (xI a3), some (xI a4), some (xI a5), some (xI 1), some (xI (i : Int))] [] σ Q = if S (8 + p) 0 = 0 then X L 201 131 [some (xR 75), some (xI a1), some (xI a2), some (xI a3), some (xI a4), some (xI a5), some (xI 1), some (xI (i : Int))] [xI 0] σ Q else if ¬ σ 92 p = S 7 (2 * i + 1) then X L 201 131 [some (xR 75), some (xI a1), some (xI a2), some (xI a3), some (xI a4), some (xI a5), some (xI 1), some (xI (i : Int))] [xI 0] σ Q else X L 201 131 [some (xR 75), some (xI a1), some (xI a2), some (xI a3), some (xI a4), some (xI a5), some (xI 1), some (xI (i : Int))] [xI 1] σ Q := by
      intro Q
      rw [e_201_68]
      simp only [brI, not_true_eq_false, true_implies, false_implies, implies_true, and_true, cTag, cTgt, cLen, true_and, Int.toNat_natCast, retI_I, retR_R, retV_N, retL_L, ne_eq, Int.reduceEq, not_false_eq_true, e3, Int.reduceEq, if_false, e_201_130, x_isThereM hS h9]
      simp (disch := omega) only [w32_id, inb, true_and, Int.toNat_add, Int.toNat_mul, Int.toNat_natCast, Int.reduceToNat, a1', a2', le_f, if_false]
      simp (disch := omega) only [hp, inb, true_and, Int.toNat_natCast, thr_n hp4]
    by_cases c : sgt S i
    · have f1 : hol S (m + 1) i = hol S m (i + 1) := if_pos c
      unfold sgt at c
      rw [hp, Int.toNat_natCast] at c
      have pl : σ 92 p = S (8 + p) 2 := (hM.pp p hp4 c.1).pl
      obtain ⟨k, hk⟩ := ih (i + 1) (by omega)
      refine ⟨k, fun Q => ?_⟩
      rw [hd, f1, if_neg (by omega), if_neg (by rw [pl]; simpa using c.2), e_201_131, w32_id (by omega) (by omega)]
      exact hk Q
    · have f1 : hol S (m + 1) i = false := if_neg c
      unfold sgt at c
      rw [hp, Int.toNat_natCast] at c
      rw [f1]
      have f2 : bI (false = true) = 0 := bI_f (by decide)
      obtain ⟨k, hk⟩ := stop
      refine ⟨k, fun Q => ?_⟩
      rw [f2, hd]
      by_cases c0 : S (8 + p) 0 = 0
      · rw [if_pos c0]; exact hk Q
      · have pl : σ 92 p = S (8 + p) 2 := (hM.pp p hp4 (by omega)).pl
        rw [if_neg c0, if_pos (by rw [pl]; exact fun q => c ⟨by omega, q⟩)]; exact hk Q
theorem div4 (f : Nat) : ∀ b : Nat, b ≤ 2 → ∀ (i a : Int), a = i + b → ∀ (a0 a1 a2 a3 : Int) (hf : f < 64) (d7 : Option PV) (hi : 0 ≤ i ∧ i ≤ 5) (Q : PQ), X L 201 208 [some (xR 75), some (xI i), some (xI a1), some (xI a2), some (xI a3), some (xI (f : Int)), some (xI a), d7] [] σ Q = Q (some (xI ((f / 4 ^ b % 4 : Nat) : Int))) σ := by
  have tm : ∀ x : Nat, Int.tmod (x : Int) 4 = ((x % 4 : Nat) : Int) := by intro x; rw [Int.tmod_eq_emod_of_nonneg (by omega)]; omega
  intro b
  induction b generalizing f with
  | zero =>
    intro _ i a ha a0 a1 a2 a3 hf d7 hi Q
    rw [e_201_208]
    simp only [brI, not_true_eq_false, true_implies, false_implies, implies_true, and_true, cTag, cTgt, cLen, true_and, Int.toNat_natCast, retI_I, retR_R, retV_N, retL_L, ne_eq, Int.reduceEq, not_false_eq_true]
    rw [if_pos (by omega), e_201_226]
    simp only [brI, not_true_eq_false, true_implies, false_implies, implies_true, and_true, cTag, cTgt, cLen, true_and, Int.toNat_natCast, retI_I, retR_R, retV_N, retL_L, ne_eq, Int.reduceEq, not_false_eq_true, tm]
    rw [show f / 4 ^ 0 = f by simp]
  | succ b ih =>
    intro hb i a ha a0 a1 a2 a3 hf d7 hi Q
    have td : Int.tdiv (f : Int) 4 = ((f / 4 : Nat) : Int) := by rw [Int.tdiv_eq_ediv_of_nonneg (by omega)]; omega
    rw [e_201_208]
    simp only [brI, not_true_eq_false, true_implies, false_implies, implies_true, and_true, cTag, cTgt, cLen, true_and, Int.toNat_natCast, retI_I, retR_R, retV_N, retL_L, ne_eq, Int.reduceEq, not_false_eq_true]
    rw [if_neg (by omega), td, w32_id (by omega) (by omega), w32_id (by omega) (by omega), ih (f / 4) (by omega) i (a + -1) (by omega) a0 a1 a2 a3 (by omega) d7 hi Q]
    rw [Nat.div_div_eq_div_mul, Nat.pow_succ, Nat.mul_comm]
theorem m_filled (hI : IM T σ) (hV : IV B T) (hB0 : 0 ≤ B) (hB : B ≤ 800000) (i : Int) : MO σ (X L 201 0 [some (xR 75), some (xI i), none, none, none, none, none, none] [] σ) (a_filled T i) T := by
  have hfs := flt_s T
  unfold a_filled
  by_cases c : a_fault T = -6
  · rw [if_pos c]
    obtain ⟨hm3, hme⟩ := mk_3 hV c
    have h64 := p4_64 hm3
    have hs := fN_s T (4 ^ mk T)
    have hop : ∀ (ρ : Mem) (_ : IM T ρ) (Q : PQ), X L 158 0 [some (xR 75), none, none] [] ρ Q = Q (some (xI (mk T : Int))) ρ := by
      intro ρ hr Q; rw [← hme]; exact m_op hr hV c Q
    -- the loop over the codes
    obtain ⟨⟨τ, d6, d7⟩, e, hF⟩ := lpE (n := 4 ^ mk T) (fun g (a : Mem × Option PV × Option PV) Q => X L 201 41 [some (xR 75), some (xI i), some (xI ((4 ^ mk T : Nat) : Int)), some (xI (fN T g).1), some (xI (fN T g).2), some (xI (g : Int)), a.2.1, a.2.2] [] a.1 Q) (fun _ a => FrM σ a.1) (by
      intro g ⟨ρ, d6, d7⟩ hg hF
      have hF : FrM σ ρ := hF
      have hIr := IM_Q hI hF
      have hs := fN_s T g
      obtain ⟨ρ1, e1, hF1, ha, hb⟩ := m_play (L := L) hIr hV hB0 hB c (g := g) (by omega) 1000000
      have hbs := bad_s T g
      have hF' : FrM σ ρ1 := hF.tr (FrM_G hF1)
      have nx : ∀ (n f x y : Int) (Q : PQ), X L 201 161 [some (xR 75), some (xI i), some (xI ((4 ^ mk T : Nat) : Int)), some (xI n), some (xI f), some (xI (g : Int)), some (xI x), some (xI y)] [] ρ1 Q = X L 201 41 [some (xR 75), some (xI i), some (xI ((4 ^ mk T : Nat) : Int)), some (xI n), some (xI f), some (xI ((g + 1 : Nat) : Int)), some (xI x), some (xI y)] [] ρ1 Q := by
        intro n f x y Q; rw [e_201_161, w32_id (by omega) (by omega)]; rfl
      have no : ∀ y : Int, fN T (g + 1) = fN T g → ∀ Q : PQ, X L 201 139 [some (xR 75), some (xI i), some (xI ((4 ^ mk T : Nat) : Int)), some (xI (fN T g).1), some (xI (fN T g).2), some (xI (g : Int)), some (xI 0), some (xI y)] [] ρ1 Q = X L 201 41 [some (xR 75), some (xI i), some (xI ((4 ^ mk T : Nat) : Int)), some (xI (fN T (g + 1)).1), some (xI (fN T (g + 1)).2), some (xI ((g + 1 : Nat) : Int)), some (xI 0), some (xI y)] [] ρ1 Q := by
        intro y f1 Q
        rw [f1, e_201_139]
        simp only [brI, not_true_eq_false, true_implies, false_implies, implies_true, and_true, cTag, cTgt, cLen, true_and, Int.toNat_natCast, retI_I, retR_R, retV_N, retL_L, ne_eq, Int.reduceEq, not_false_eq_true, if_true, nx]
      by_cases cb : bad T g = -6
      · obtain ⟨hR, -⟩ := ha cb
        have hV2 := dS_VS hV hB0 c cb
        have tl : ∀ (k : Int) (Q : PQ), X L 201 139 [some (xR 75), some (xI i), some (xI ((4 ^ mk T : Nat) : Int)), some (xI (fN T g).1), some (xI (fN T g).2), some (xI (g : Int)), some (xI (bI (hol (dS T g) (dS T g 0 3).toNat 0 = true))), some (xI k)] [] ρ1 Q = X L 201 41 [some (xR 75), some (xI i), some (xI ((4 ^ mk T : Nat) : Int)), some (xI (fN T (g + 1)).1), some (xI (fN T (g + 1)).2), some (xI ((g + 1 : Nat) : Int)), some (xI (bI (hol (dS T g) (dS T g 0 3).toNat 0 = true))), some (xI k)] [] ρ1 Q := by
          intro k Q
          by_cases ch : hol (dS T g) (dS T g 0 3).toNat 0 = true
          · have f1 : fN T (g + 1) = ((fN T g).1 + 1, if (fN T g).2 < 0 then (g : Int) else (fN T g).2) := if_pos ⟨cb, ch⟩
            rw [f1, bI_t ch, e_201_139]
            simp only [brI, not_true_eq_false, true_implies, false_implies, implies_true, and_true, cTag, cTgt, cLen, true_and, Int.toNat_natCast, retI_I, retR_R, retV_N, retL_L, ne_eq, Int.reduceEq, not_false_eq_true, Int.reduceEq, if_false]
            by_cases cz : 0 ≤ (fN T g).2
            · rw [if_pos cz, if_neg (by omega), e_201_154, e_201_156, w32_id (by omega) (by omega)]; exact nx _ _ _ _ Q
            · rw [if_neg cz, if_pos (by omega), e_201_156, w32_id (by omega) (by omega)]; exact nx _ _ _ _ Q
          · rw [bI_f ch]; exact no k (if_neg (fun q => ch q.2)) Q
        -- where the sights' loop ends
        have key : ∃ k : Int, ∀ Q : PQ, X L 201 68 [some (xR 75), some (xI i), some (xI ((4 ^ mk T : Nat) : Int)), some (xI (fN T g).1), some (xI (fN T g).2), some (xI (g : Int)), some (xI 1), some (xI 0)] [] ρ1 Q = X L 201 41 [some (xR 75), some (xI i), some (xI ((4 ^ mk T : Nat) : Int)), some (xI (fN T (g + 1)).1), some (xI (fN T (g + 1)).2), some (xI ((g + 1 : Nat) : Int)), some (xI (bI (hol (dS T g) (dS T g 0 3).toNat 0 = true))), some (xI k)] [] ρ1 Q := by
          obtain ⟨k, hk⟩ := x_sights (L := L) (a1 := i) (a2 := ((4 ^ mk T : Nat) : Int)) (a3 := (fN T g).1) (a4 := (fN T g).2) (a5 := (g : Int)) hR hV2 (dS T g 0 3).toNat 0 (by omega)
          exact ⟨k, fun Q => (hk Q).trans (tl k Q)⟩
        obtain ⟨k, hk⟩ := key
        refine ⟨(ρ1, some (xI (bI (hol (dS T g) (dS T g 0 3).toNat 0 = true))), some (xI k)), fun Q => ?_, hF'⟩
        show X L 201 41 [some (xR 75), some (xI i), some (xI ((4 ^ mk T : Nat) : Int)), some (xI (fN T g).1), some (xI (fN T g).2), some (xI (g : Int)), d6, d7] [] ρ Q = X L 201 41 [some (xR 75), some (xI i), some (xI ((4 ^ mk T : Nat) : Int)), some (xI (fN T (g + 1)).1), some (xI (fN T (g + 1)).2), some (xI ((g + 1 : Nat) : Int)), some (xI (bI (hol (dS T g) (dS T g 0 3).toNat 0 = true))), some (xI k)] [] ρ1 Q
        rw [← hk Q, e_201_41]
        simp only [brI, not_true_eq_false, true_implies, false_implies, implies_true, and_true, cTag, cTgt, cLen, true_and, Int.toNat_natCast, retI_I, retR_R, retV_N, retL_L, ne_eq, Int.reduceEq, not_false_eq_true, e1]
        rw [if_neg (by omega), if_neg (by omega), e_201_63]
      · refine ⟨(ρ1, some (xI 0), some (xI 0)), fun Q => ?_, hF'⟩
        show X L 201 41 [some (xR 75), some (xI i), some (xI ((4 ^ mk T : Nat) : Int)), some (xI (fN T g).1), some (xI (fN T g).2), some (xI (g : Int)), d6, d7] [] ρ Q = X L 201 41 [some (xR 75), some (xI i), some (xI ((4 ^ mk T : Nat) : Int)), some (xI (fN T (g + 1)).1), some (xI (fN T (g + 1)).2), some (xI ((g + 1 : Nat) : Int)), some (xI 0), some (xI 0)] [] ρ1 Q
        rw [← no 0 (if_neg (fun q => cb q.1)) Q, e_201_41]
        simp only [brI, not_true_eq_false, true_implies, false_implies, implies_true, and_true, cTag, cTgt, cLen, true_and, Int.toNat_natCast, retI_I, retR_R, retV_N, retL_L, ne_eq, Int.reduceEq, not_false_eq_true, e1]
        rw [if_neg (by omega), if_pos (by omega), e_201_62, e_201_63, e_201_68]
        simp only [brI, not_true_eq_false, true_implies, false_implies, implies_true, and_true, cTag, cTgt, cLen, true_and, Int.toNat_natCast, retI_I, retR_R, retV_N, retL_L, ne_eq, Int.reduceEq, not_false_eq_true, if_true]
        split <;> rfl) (a := (σ, none, none)) FrM.rf
    have hF : FrM σ τ := hF
    have hI1 := IM_Q hI hF
    have cds : ∀ Q : PQ, X L 201 14 [some (xR 75), some (xI i), some (xI 1), some (xI 0), none, none, none, none] [] σ Q = X L 201 41 [some (xR 75), some (xI i), some (xI ((4 ^ mk T : Nat) : Int)), some (xI 0), some (xI (-6)), some (xI 0), none, none] [] σ Q := by
      intro Q
      have st : ∀ a b : Int, X L 201 14 [some (xR 75), some (xI i), some (xI a), some (xI b), none, none, none, none] [] σ Q = if (mk T : Int) ≤ b then X L 201 41 [some (xR 75), some (xI i), some (xI a), some (xI 0), some (xI (-6)), some (xI 0), none, none] [] σ Q else X L 201 14 [some (xR 75), some (xI i), some (xI (w32 (a * 4))), some (xI (w32 (b + 1))), none, none, none, none] [] σ Q := by
        intro a b; rw [e_201_14]; simp only [brI, not_true_eq_false, true_implies, false_implies, implies_true, and_true, cTag, cTgt, cLen, true_and, Int.toNat_natCast, retI_I, retR_R, retV_N, retL_L, ne_eq, Int.reduceEq, not_false_eq_true, hop σ hI, e_201_32]
      rcases (show mk T = 0 ∨ mk T = 1 ∨ mk T = 2 ∨ mk T = 3 by omega) with hc | hc | hc | hc <;> rw [hc] at st ⊢
      · rw [st, if_pos (by decide)]; rfl
      · rw [st, if_neg (by decide), st, if_pos (by decide)]; rfl
      · rw [st, if_neg (by decide), st, if_neg (by decide), st, if_pos (by decide)]; rfl
      · rw [st, if_neg (by decide), st, if_neg (by decide), st, if_neg (by decide), st, if_pos (by decide)]; rfl
    refine MO_q hI ⟨τ, fun Q => ?_, hF⟩
    simp only [e_201_0, e_201_10, brI, not_true_eq_false, true_implies, false_implies, implies_true, and_true, cTag, cTgt, cLen, true_and, Int.toNat_natCast, retI_I, retR_R, retV_N, retL_L, ne_eq, Int.reduceEq, not_false_eq_true, m_ff hI hV, cds]
    rw [if_pos (by omega)]
    refine Eq.trans (e Q) ?_
    show X L 201 41 [some (xR 75), some (xI i), some (xI ((4 ^ mk T : Nat) : Int)), some (xI (fN T (4 ^ mk T)).1), some (xI (fN T (4 ^ mk T)).2), some (xI ((4 ^ mk T : Nat) : Int)), d6, d7] [] τ Q = _
    rw [e_201_41]
    simp only [brI, not_true_eq_false, true_implies, false_implies, implies_true, and_true, cTag, cTgt, cLen, true_and, Int.toNat_natCast, retI_I, retR_R, retV_N, retL_L, ne_eq, Int.reduceEq, not_false_eq_true]
    rw [if_pos (Int.le_refl _), e_201_167]
    simp only [brI, not_true_eq_false, true_implies, false_implies, implies_true, and_true, cTag, cTgt, cLen, true_and, Int.toNat_natCast, retI_I, retR_R, retV_N, retL_L, ne_eq, Int.reduceEq, not_false_eq_true]
    by_cases c1 : i = -1
    · rw [if_neg (fun q => q c1), if_pos c1]
    · rw [if_pos c1, if_neg c1, e_201_174]
      simp only [brI, not_true_eq_false, true_implies, false_implies, implies_true, and_true, cTag, cTgt, cLen, true_and, Int.toNat_natCast, retI_I, retR_R, retV_N, retL_L, ne_eq, Int.reduceEq, not_false_eq_true, e_201_193, hop τ hI1, x_in, bI_0, ite_not, w32_id (x := (mk T : Int) - 1) (by omega) (by omega)]
      by_cases cz : (fN T (4 ^ mk T)).1 = 0
      · have := hs.2.2.1 cz
        rw [if_pos (by omega), if_neg (fun q => q.1 cz)]
      · have hz := hs.2.2.2 cz
        rw [if_neg (by omega)]
        by_cases ci : 0 ≤ i ∧ i ≤ (mk T : Int) - 1
        · obtain ⟨f, hfe⟩ : ∃ f : Nat, (fN T (4 ^ mk T)).2 = (f : Int) := ⟨(fN T (4 ^ mk T)).2.toNat, by omega⟩
          obtain ⟨b, hbe⟩ : ∃ b : Nat, (mk T : Int) - 1 - i = (b : Int) := ⟨((mk T : Int) - 1 - i).toNat, by omega⟩
          rw [if_pos ci, if_pos ⟨cz, ci⟩, hfe, Int.toNat_natCast, e_201_196]
          simp only [brI, not_true_eq_false, true_implies, false_implies, implies_true, and_true, cTag, cTgt, cLen, true_and, Int.toNat_natCast, retI_I, retR_R, retV_N, retL_L, ne_eq, Int.reduceEq, not_false_eq_true, hop τ hI1, w32_id (x := (mk T : Int) - 1) (by omega) (by omega)]
          rw [div4 f b (by omega) i ((mk T : Int) - 1) (by omega) 0 _ _ _ (by omega) d7 (by omega) Q, hbe]
          unfold gs
          rw [if_pos (by omega), Int.toNat_natCast]
        · rw [if_neg ci, if_neg (fun q => ci q.2)]
  · rw [if_neg c]
    refine MO_n hI (fun Q => ?_)
    simp only [e_201_0, brI, not_true_eq_false, true_implies, false_implies, implies_true, and_true, cTag, cTgt, cLen, true_and, Int.toNat_natCast, retI_I, retR_R, retV_N, retL_L, ne_eq, Int.reduceEq, not_false_eq_true, m_ff hI hV]
    rw [if_neg (by omega)]
end Fill
