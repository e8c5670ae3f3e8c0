/-! the class plays a DAY -/
section Play
variable {B : Int} {S σ : Mem} {L : Nat}
theorem dst_VS2 {wh : Nat → Nat} {dd : Nat → Int} (hS : VS B S) (hB : 0 ≤ B) (hw : ∀ i, wh i < 4) {h : Nat} (hd : ∀ i, i < h → 0 ≤ dd i) : ∀ i : Nat, i ≤ h → (∀ j, j < i → why (dst wh dd S j) (wh j) (dd j) = 0) → VS (B + 18 * i) (dst wh dd S i) := by
  intro i
  induction i with
  | zero => intro _ _; exact hS.mono (by omega)
  | succ i ih =>
    intro hi h
    have := VS_stp (ih (by omega) (fun j hj => h j (by omega))) (by omega) (hw i) (hd i (by omega)) (h i (by omega))
    exact this.mono (by omega)
/-- what the PAD must be like for a DAY to be played -/
def PadOk (w : Int) (s : Nat → Int) (h : Nat) : Prop := (2 ≤ w ∧ w ≤ 6) ∧ 2 * h ≤ 60 ∧ (∀ j, j < 60 → 0 ≤ s j ∧ s j ≤ 126) ∧ (∀ j, j < 2 * h → okA w s j)
theorem PadOk.who {w : Int} {s : Nat → Int} {h : Nat} (hP : PadOk w s h) {i : Nat} (hi : i < h) : (65 ≤ s (2 * i) ∧ s (2 * i) ≤ 68) ∨ s (2 * i) = 63 := by
  have := hP.2.2.2 (2 * i) (by omega)
  omega
theorem PadOk.dk {w : Int} {s : Nat → Int} {h : Nat} (hP : PadOk w s h) {i : Nat} (hi : i < h) : ¬ s (2 * i + 1) = 63 ∧ 0 ≤ ded s i ∧ ded s i ≤ 7 ∧ (ded s i < 6 → ¬ s (2 * i + 1) = 43 ∧ ¬ s (2 * i + 1) = 45 ∧ ded s i = s (2 * i + 1) - 97) := by
  have := hP.2.2.2 (2 * i + 1) (by omega)
  have hw := hP.1
  have : okD w s (2 * i + 1) := by omega
  unfold ded
  refine ⟨by omega, ?_, ?_, ?_⟩
  · split
    · omega
    · split <;> omega
  · split
    · omega
    · split <;> omega
  · split
    · intro _; omega
    · split
      · intro _; omega
      · intro _; exact ⟨by assumption, by assumption, rfl⟩
theorem cq_step {w : Int} {s : Nat → Int} {h : Nat} (hP : PadOk w s h) {i : Nat} (hi : i < h) : cq s (2 * (i + 1)) = cq s (2 * i) + (if s (2 * i) = 63 then 1 else 0) := by
  show cq s (2 * i) + (if s (2 * i) = 63 then 1 else 0) + (if s (2 * i + 1) = 63 then 1 else 0) = _
  rw [if_neg (hP.dk hi).1, Int.add_zero]
def FrD (σ τ : Mem) : Prop := (∀ o, o < 20 ∨ 36 ≤ o → τ o = σ o) ∧ (∀ j, 6 ≤ j → τ 20 j = σ 20 j)
theorem FrD.tr {a b c : Mem} (h1 : FrD a b) (h2 : FrD b c) : FrD a c := ⟨fun o h => (h2.1 o h).trans (h1.1 o h), fun j h => (h2.2 j h).trans (h1.2 j h)⟩
theorem x_play2 {w : Int} {s : Nat → Int} {h : Nat} (hP : PadOk w s h) {g : Nat} (hg : g < 64) {l : Int} (hS : VS B S) (hB0 : 0 ≤ B) (hB : B + 18 * h ≤ 900000) {M : Int} (hM : M = cq s (2 * h)) :
    ∀ (m i : Nat), i + m = h → ∀ (σ : Mem) (d8 d9 : Option PV), σ 18 1 = ((2 * h : Nat) : Int) → (∀ j, j < 60 → σ 19 j = s j) → RC 21 (dst (whg s g M) (ded s) S i) σ → (∀ j, j < i → why (dst (whg s g M) (ded s) S j) (whg s g M j) (ded s j) = 0) →
      σ 20 3 = (ou (whg s g M) (ded s) S l i).1 → σ 20 4 = (ou (whg s g M) (ded s) S l i).2.1 → σ 20 5 = (ou (whg s g M) (ded s) S l i).2.2 →
      ∃ τ, (∀ Q : PQ, X L 3 38 [some (xR 20), some (xR 1), some (xR 18), some (xI (g : Int)), some (xI l), some (xI M), some (xI (cq s (2 * i))), some (xI (i : Int)), d8, d9] [] σ Q = Q (some (xI (bI (fbd (whg s g M) (ded s) S m i = -6)))) τ) ∧ FrD σ τ ∧ τ 31 0 = 0 ∧
        (fbd (whg s g M) (ded s) S m i = -6 → RC 21 (dst (whg s g M) (ded s) S h) τ ∧ τ 20 3 = (ou (whg s g M) (ded s) S l h).1 ∧ τ 20 4 = (ou (whg s g M) (ded s) S l h).2.1 ∧ τ 20 5 = (ou (whg s g M) (ded s) S l h).2.2) ∧
        (¬ fbd (whg s g M) (ded s) S m i = -6 → τ 20 1 = fbd (whg s g M) (ded s) S m i ∧ τ 20 2 = fwy (whg s g M) (ded s) S m i) := by
  intro m
  induction m with
  | zero =>
    intro i hi σ d8 d9 h1 h2 hR hy o3 o4 o5
    have : i = h := by omega
    subst this
    refine ⟨σ, fun Q => ?_, ⟨fun _ _ => rfl, fun _ _ => rfl⟩, hR.2.2.2.2.2.2.2.2.2.2, fun _ => ⟨hR, o3, o4, o5⟩, fun q => absurd rfl q⟩
    rw [e_3_38]
    simp only [brI, not_true_eq_false, true_implies, false_implies, implies_true, and_true, cTag, cTgt, cLen, true_and, Int.toNat_natCast, retI_I, retR_R, retV_N, retL_L, ne_eq, Int.reduceEq, not_false_eq_true, x_stepCount hP.2.1 h1, Int.le_refl, if_true, e_3_156]
    simp [fbd, bI]
  | succ m ih =>
    intro i hi σ d8 d9 h1 h2 hR hy o3 o4 o5
    have hih : i < h := by omega
    have h60 := hP.2.1
    have hs0 := hP.2.2.1 (2 * i) (by omega)
    have hs1 := hP.2.2.1 (2 * i + 1) (by omega)
    have hwo := hP.who hih
    obtain ⟨hd1, hd2, hd3, hd4⟩ := hP.dk hih
    have hcs := cq_step hP hih
    have c0 := cq_0 s (2 * i)
    have c1 := cq_le s (2 * i)
    have M0 := cq_0 s (2 * h)
    have M1 := cq_le s (2 * h)
    have hVi := dst_VS2 hS hB0 (whg_4 s g M) (fun i hi => (hP.dk hi).2.1) i (by omega) hy
    have hw4 := whg_4 s g M i
    -- from the choice of who on
    have go : ∀ k : Int, k = cq s (2 * (i + 1)) → ∃ τ, (∀ Q : PQ, X L 3 82 [some (xR 20), some (xR 1), some (xR 18), some (xI (g : Int)), some (xI l), some (xI M), some (xI k), some (xI (i : Int)), some (xI (ded s i)), some (xI (whg s g M i : Int))] [] σ Q = Q (some (xI (bI (fbd (whg s g M) (ded s) S (m + 1) i = -6)))) τ) ∧ FrD σ τ ∧ τ 31 0 = 0 ∧
        (fbd (whg s g M) (ded s) S (m + 1) i = -6 → RC 21 (dst (whg s g M) (ded s) S h) τ ∧ τ 20 3 = (ou (whg s g M) (ded s) S l h).1 ∧ τ 20 4 = (ou (whg s g M) (ded s) S l h).2.1 ∧ τ 20 5 = (ou (whg s g M) (ded s) S l h).2.2) ∧
        (¬ fbd (whg s g M) (ded s) S (m + 1) i = -6 → τ 20 1 = fbd (whg s g M) (ded s) S (m + 1) i ∧ τ 20 2 = fwy (whg s g M) (ded s) S (m + 1) i) := by
      intro k hk
      have hRa : ∀ x y, RC 21 (dst (whg s g M) (ded s) S i) (up (up σ 20 1 x) 20 2 y) := by
        intro x y; refine RC_eq (fun o ho => ?_) hR; funext j; simp only [up_rd]; rw [if_neg (by omega), if_neg (by omega)]
      have hRb : ∀ x, RC 21 (dst (whg s g M) (ded s) S i) (up σ 20 1 x) := by
        intro x; refine RC_eq (fun o ho => ?_) hR; funext j; simp only [up_rd]; rw [if_neg (by omega)]
      have ey : ∀ (x : Int) (Q : PQ), X L 72 0 [some (xR 21), some (xI (whg s g M i : Int)), some (xI (ded s i)), none] [] (up σ 20 1 x) Q = Q (some (xI (why (dst (whg s g M) (ded s) S i) (whg s g M i) (ded s i)))) (up σ 20 1 x) := fun x Q => x_whyNot iV21 (hRb x) hVi (by omega) hw4 _ _ Q
      obtain ⟨y, hye⟩ : ∃ y, why (dst (whg s g M) (ded s) S i) (whg s g M i) (ded s i) = y := ⟨_, rfl⟩
      rw [hye] at ey
      have F1 : FrD σ (up (up σ 20 1 (i : Int)) 20 2 y) := by
        refine ⟨fun o ho => ?_, fun j hj => ?_⟩
        · funext j; simp only [up_rd]; rw [if_neg (by omega), if_neg (by omega)]
        · simp only [up_rd]; rw [if_neg (by omega), if_neg (by omega)]
      by_cases cy : y = 0
      · subst cy
        have f1 : fbd (whg s g M) (ded s) S (m + 1) i = fbd (whg s g M) (ded s) S m (i + 1) := if_pos hye
        have f2 : fwy (whg s g M) (ded s) S (m + 1) i = fwy (whg s g M) (ded s) S m (i + 1) := if_pos hye
        rw [f1, f2]
        obtain ⟨τ1, e1, hR1, hV1, hF1⟩ := x_take (L := L) iV21 (hRa (i : Int) 0) hVi (by omega) hw4 hd2 hye none
        have hRi : RC 21 (dst (whg s g M) (ded s) S (i + 1)) τ1 := hR1
        have p8 : ∀ f, f < 11 → τ1 (21 + 11 + whg s g M i) f = dst (whg s g M) (ded s) S (i + 1) (8 + whg s g M i) f := fun f hf => hRi.p hw4 hf
        have z20 : ∀ j, j ≠ 1 → j ≠ 2 → τ1 20 j = σ 20 j := by
          intro j q1 q2; rw [hF1 20 (by omega)]; simp only [up_rd]; rw [if_neg (by omega), if_neg (by omega)]
        have FD1 : FrD σ τ1 := by
          refine ⟨fun o ho => ?_, fun j hj => z20 j (by omega) (by omega)⟩
          rw [hF1 o (by omega), F1.1 o ho]
        -- the cells at the next step
        obtain ⟨τ2, e2, hF2, hR2, q3, q4, q5⟩ : ∃ τ2, (∀ Q : PQ, X L 3 112 [some (xR 20), some (xR 1), some (xR 18), some (xI (g : Int)), some (xI l), some (xI M), some (xI k), some (xI (i : Int)), some (xI (ded s i)), some (xI (whg s g M i : Int))] [] (up (up σ 20 1 (i : Int)) 20 2 0) Q = X L 3 150 [some (xR 20), some (xR 1), some (xR 18), some (xI (g : Int)), some (xI l), some (xI M), some (xI k), some (xI (i : Int)), some (xI (ded s i)), some (xI (whg s g M i : Int))] [] τ2 Q) ∧ FrD σ τ2 ∧ RC 21 (dst (whg s g M) (ded s) S (i + 1)) τ2 ∧ τ2 20 3 = (ou (whg s g M) (ded s) S l (i + 1)).1 ∧ τ2 20 4 = (ou (whg s g M) (ded s) S l (i + 1)).2.1 ∧ τ2 20 5 = (ou (whg s g M) (ded s) S l (i + 1)).2.2 := by
          simp only [ou]
          by_cases cw : ded s i < 6
          · by_cases co : (ou (whg s g M) (ded s) S l i).1 = -6
            · have r3 : τ1 20 3 = -6 := by rw [z20 3 (by omega) (by omega), o3, co]
              by_cases cl : l < dst (whg s g M) (ded s) S (i + 1) (8 + whg s g M i) 8 ∨ l < dst (whg s g M) (ded s) S (i + 1) (8 + whg s g M i) 9
              · rw [if_pos ⟨co, cw, cl⟩]
                refine ⟨up (up (up τ1 20 3 (i : Int)) 20 4 (whg s g M i : Int)) 20 5 (if l < dst (whg s g M) (ded s) S (i + 1) (8 + whg s g M i) 8 then 0 else 1), fun Q => ?_, ?_, ?_, ?_, ?_, ?_⟩
                · rw [e_3_112]
                  simp only [brI, not_true_eq_false, true_implies, false_implies, implies_true, and_true, cTag, cTgt, cLen, true_and, Int.toNat_natCast, retI_I, retR_R, retV_N, retL_L, ne_eq, Int.reduceEq, not_false_eq_true, e1, x_isWalk, bI_0, cw, r3, x_look hw4, p8 8 (by omega), p8 9 (by omega), cl, if_true, if_false]
                · refine ⟨fun o ho => ?_, fun j hj => ?_⟩
                  · funext j; rw [← FD1.1 o ho]; simp only [up_rd]; rw [if_neg (by omega), if_neg (by omega), if_neg (by omega)]
                  · rw [← FD1.2 j hj]; simp only [up_rd]; rw [if_neg (by omega), if_neg (by omega), if_neg (by omega)]
                · refine RC_eq (fun o ho => ?_) hRi; funext j; simp only [up_rd]; rw [if_neg (by omega), if_neg (by omega), if_neg (by omega)]
                · simp [up_rd]
                · simp [up_rd]
                · simp [up_rd]
              · rw [if_neg (fun q => cl q.2.2)]
                refine ⟨τ1, fun Q => ?_, FD1, hRi, ?_, ?_, ?_⟩
                · rw [e_3_112]
                  simp only [brI, not_true_eq_false, true_implies, false_implies, implies_true, and_true, cTag, cTgt, cLen, true_and, Int.toNat_natCast, retI_I, retR_R, retV_N, retL_L, ne_eq, Int.reduceEq, not_false_eq_true, e1, x_isWalk, bI_0, cw, r3, x_look hw4, p8 8 (by omega), p8 9 (by omega), cl, if_true, if_false]
                · rw [z20 3 (by omega) (by omega), o3]
                · rw [z20 4 (by omega) (by omega), o4]
                · rw [z20 5 (by omega) (by omega), o5]
            · have r3 : ¬ τ1 20 3 = -6 := by rw [z20 3 (by omega) (by omega), o3]; exact co
              rw [if_neg (fun q => co q.1)]
              refine ⟨τ1, fun Q => ?_, FD1, hRi, ?_, ?_, ?_⟩
              · rw [e_3_112]
                simp only [brI, not_true_eq_false, true_implies, false_implies, implies_true, and_true, cTag, cTgt, cLen, true_and, Int.toNat_natCast, retI_I, retR_R, retV_N, retL_L, ne_eq, Int.reduceEq, not_false_eq_true, e1, x_isWalk, bI_0, cw, r3, if_true, if_false]
              · rw [z20 3 (by omega) (by omega), o3]
              · rw [z20 4 (by omega) (by omega), o4]
              · rw [z20 5 (by omega) (by omega), o5]
          · rw [if_neg (fun q => cw q.2.1)]
            refine ⟨τ1, fun Q => ?_, FD1, hRi, ?_, ?_, ?_⟩
            · rw [e_3_112]
              simp only [brI, not_true_eq_false, true_implies, false_implies, implies_true, and_true, cTag, cTgt, cLen, true_and, Int.toNat_natCast, retI_I, retR_R, retV_N, retL_L, ne_eq, Int.reduceEq, not_false_eq_true, e1, x_isWalk, bI_0, cw, if_true, if_false]
            · rw [z20 3 (by omega) (by omega), o3]
            · rw [z20 4 (by omega) (by omega), o4]
            · rw [z20 5 (by omega) (by omega), o5]
        have hy' : ∀ j, j < i + 1 → why (dst (whg s g M) (ded s) S j) (whg s g M j) (ded s j) = 0 := by
          intro j hj
          by_cases e : j = i
          · rw [e]; exact hye
          · exact hy j (by omega)
        obtain ⟨τ, e, hF, h31, ha, hb⟩ := ih (i + 1) (by omega) τ2 (some (xI (ded s i))) (some (xI (whg s g M i : Int))) (by rw [hF2.1 18 (by omega)]; exact h1) (fun j hj => by rw [hF2.1 19 (by omega)]; exact h2 j hj) hR2 hy' q3 q4 q5
        refine ⟨τ, fun Q => ?_, hF2.tr hF, h31, ha, hb⟩
        rw [e_3_82]
        simp only [brI, not_true_eq_false, true_implies, false_implies, implies_true, and_true, cTag, cTgt, cLen, true_and, Int.toNat_natCast, retI_I, retR_R, retV_N, retL_L, ne_eq, Int.reduceEq, not_false_eq_true, ey]
        have rd : up (up σ 20 1 (i : Int)) 20 2 0 20 2 = 0 := by simp [up_rd]
        simp only [rd, if_true, e2, e_3_150]
        rw [w32_id (by omega) (by omega), hk]
        exact e Q
      · have f1 : fbd (whg s g M) (ded s) S (m + 1) i = (i : Int) := if_neg (by rw [hye]; exact cy)
        have f2 : fwy (whg s g M) (ded s) S (m + 1) i = y := (if_neg (by rw [hye]; exact cy)).trans hye
        rw [f1, f2]
        refine ⟨up (up σ 20 1 (i : Int)) 20 2 y, fun Q => ?_, F1, (hRa _ _).2.2.2.2.2.2.2.2.2.2, fun q => by omega, fun _ => ⟨by simp [up_rd], by simp [up_rd]⟩⟩
        have rd : up (up σ 20 1 (i : Int)) 20 2 y 20 2 = y := by simp [up_rd]
        rw [e_3_82]
        simp only [brI, not_true_eq_false, true_implies, false_implies, implies_true, and_true, cTag, cTgt, cLen, true_and, Int.toNat_natCast, retI_I, retR_R, retV_N, retL_L, ne_eq, Int.reduceEq, not_false_eq_true, ey, rd, cy, if_false]
        have : ¬ (i : Int) = -6 := by omega
        simp [bI, this]
    have hsc := fun Q => x_stepCount (L := L) hP.2.1 h1 Q
    have hdo := fun Q => x_deedOf (L := L) h2 (show 2 * i + 1 < 60 by omega) hs1 none Q
    have hwh := fun Q => x_whoOf (L := L) h2 (show 2 * i + 1 < 60 by omega) hs0 none Q
    by_cases q : s (2 * i) = 63
    · obtain ⟨τ, e, rest⟩ := go (cq s (2 * i) + 1) (by rw [hcs, if_pos q])
      refine ⟨τ, fun Q => ?_, rest⟩
      rw [← e Q, e_3_38]
      simp only [brI, not_true_eq_false, true_implies, false_implies, implies_true, and_true, cTag, cTgt, cLen, true_and, Int.toNat_natCast, retI_I, retR_R, retV_N, retL_L, ne_eq, Int.reduceEq, not_false_eq_true, hsc, hdo, hwh, q, if_true]
      rw [if_neg (by omega)]
      have hgd := x_guessed (L := L) (σ := σ) hg (cq s (2 * i)) M (by omega) (by omega) none
      simp only [hgd, retI_I, if_false, w32_id (x := cq s (2 * i) + 1) (by omega) (by omega)]
      have : whg s g M i = gs g (M - 1 - cq s (2 * i)) := by unfold whg; rw [if_pos q]
      rw [this]
    · obtain ⟨τ, e, rest⟩ := go (cq s (2 * i)) (by rw [hcs, if_neg q, Int.add_zero])
      refine ⟨τ, fun Q => ?_, rest⟩
      rw [← e Q, e_3_38]
      simp only [brI, not_true_eq_false, true_implies, false_implies, implies_true, and_true, cTag, cTgt, cLen, true_and, Int.toNat_natCast, retI_I, retR_R, retV_N, retL_L, ne_eq, Int.reduceEq, not_false_eq_true, hsc, hdo, hwh, q, if_false]
      rw [if_neg (by omega), if_pos (by omega)]
      have : (whg s g M i : Int) = s (2 * i) - 65 := by unfold whg; rw [if_neg q, if_pos (by omega)]; omega
      rw [this]
theorem x_play {w : Int} {s : Nat → Int} {h : Nat} (hP : PadOk w s h) {g : Nat} (hg : g < 64) (l : Int) (hR : RC 1 S σ) (hS : VS B S) (hB0 : 0 ≤ B) (hB : B + 18 * h ≤ 900000) (h1 : σ 18 1 = ((2 * h : Nat) : Int)) (h2 : ∀ j, j < 60 → σ 19 j = s j) (h31 : σ 31 0 = 0) :
      ∃ τ, (∀ Q : PQ, X L 3 0 [some (xR 20), some (xR 1), some (xR 18), some (xI (g : Int)), some (xI l), none, none, none, none, none] [] σ Q = Q (some (xI (bI (fbd (whg s g (cq s (2 * h))) (ded s) S h 0 = -6)))) τ) ∧ FrD σ τ ∧ τ 31 0 = 0 ∧
        (fbd (whg s g (cq s (2 * h))) (ded s) S h 0 = -6 → RC 21 (dst (whg s g (cq s (2 * h))) (ded s) S h) τ ∧ τ 20 3 = (ou (whg s g (cq s (2 * h))) (ded s) S l h).1 ∧ τ 20 4 = (ou (whg s g (cq s (2 * h))) (ded s) S l h).2.1 ∧ τ 20 5 = (ou (whg s g (cq s (2 * h))) (ded s) S l h).2.2) ∧
        (¬ fbd (whg s g (cq s (2 * h))) (ded s) S h 0 = -6 → τ 20 1 = fbd (whg s g (cq s (2 * h))) (ded s) S h 0 ∧ τ 20 2 = fwy (whg s g (cq s (2 * h))) (ded s) S h 0) := by
  obtain ⟨τ0, e0, hR0, hF0⟩ := x_becomeLike (L := L) iV21 iV1 (by omega) hR hS h31 none
  obtain ⟨τ1, hτ1⟩ : ∃ τ1, up (up (up τ0 20 3 (-6)) 20 4 (-6)) 20 5 (-6) = τ1 := ⟨_, rfl⟩
  have F1 : FrD σ τ1 := by
    refine ⟨fun o ho => ?_, fun j hj => ?_⟩
    · funext j; rw [← hτ1]; simp only [up_rd]; rw [if_neg (by omega), if_neg (by omega), if_neg (by omega), hF0 o (by omega)]
    · rw [← hτ1]; simp only [up_rd]; rw [if_neg (by omega), if_neg (by omega), if_neg (by omega), hF0 20 (by omega)]
  have hR1 : RC 21 S τ1 := by
    refine RC_eq (fun o ho => ?_) hR0; funext j; rw [← hτ1]; simp only [up_rd]; rw [if_neg (by omega), if_neg (by omega), if_neg (by omega)]
  have k1 : τ1 18 1 = ((2 * h : Nat) : Int) := by rw [F1.1 18 (by omega)]; exact h1
  have k2 : ∀ j, j < 60 → τ1 19 j = s j := fun j hj => by rw [F1.1 19 (by omega)]; exact h2 j hj
  obtain ⟨τ, e, hF, r⟩ := x_play2 (L := L) hP hg (l := l) hS hB0 hB rfl h 0 (by omega) τ1 none none k1 k2 hR1 (fun j hj => by omega) (by rw [← hτ1]; simp [up_rd, ou]) (by rw [← hτ1]; simp [up_rd, ou]) (by rw [← hτ1]; simp [up_rd, ou])
  refine ⟨τ, fun Q => ?_, F1.tr hF, r⟩
  rw [e_3_0]
  simp only [brI, not_true_eq_false, true_implies, false_implies, implies_true, and_true, cTag, cTgt, cLen, true_and, Int.toNat_natCast, retI_I, retR_R, retV_N, retL_L, ne_eq, Int.reduceEq, not_false_eq_true, e0, hτ1, x_untold hP.2.1 k1 k2]
  exact e Q
end Play
