/-! the Model lays the ways -/
section LayFar
variable {B : Int} {S σ τ : Mem} {L v : Nat} {T : Ful}
def FrF (l : Nat) (σ ρ : Mem) : Prop := (∀ o, o ≠ 98 → ρ o = σ o) ∧ (∀ j, j < 36 * l ∨ 36 * l + 36 ≤ j → ρ 98 j = σ 98 j)
theorem FrF.rf {l : Nat} : FrF l σ σ := ⟨fun _ _ => rfl, fun _ _ => rfl⟩
theorem FrF.tr {l : Nat} {a b c : Mem} (h1 : FrF l a b) (h2 : FrF l b c) : FrF l a c := ⟨fun o h => (h2.1 o h).trans (h1.1 o h), fun j h => (h2.2 j h).trans (h1.2 j h)⟩
theorem FrF_u {l a b : Nat} (ha : a < 6) (hb : b < 6) (x : Int) : FrF l σ (up σ 98 (ix l a b) x) := by
  refine ⟨fun o ho => ?_, fun j hj => ?_⟩
  · funext j; simp only [up_rd]; rw [if_neg (by omega)]
  · simp only [up_rd]; rw [if_neg (by show ¬ (True ∧ j = 36 * l + (6 * a + b)); omega)]
theorem u98 {l a b c d : Nat} (hb : b < 6) (hd : d < 6) (x : Int) : up σ 98 (ix l a b) x 98 (ix l c d) = if c = a ∧ d = b then x else σ 98 (ix l c d) := by
  simp only [up_rd, true_and]
  by_cases e : c = a ∧ d = b
  · rw [if_pos e, if_pos ((ix_in hd hb).mpr e)]
  · rw [if_neg e, if_neg (fun q => e ((ix_in hd hb).mp q))]
theorem x_lay1 (hm : ∀ j, j < 36 → σ 76 j = S 1 j) (hr : ∀ j, j < 36 → σ 77 j = S 2 j) (hS : VS B S) {l : Nat} (hl : l < 2) (d2 d3 d4 d5 : Option PV) : ∃ (ρ : Mem) (c3 c4 : Option PV), (∀ Q : PQ, X L 176 9 [some (xR 75), some (xI (l : Int)), some (xI 0), d3, d4, d5] [] σ Q = X L 176 9 [some (xR 75), some (xI (l : Int)), some (xI 6), c3, c4, d5] [] ρ Q) ∧ FrF l σ ρ ∧ ∀ a b, a < 6 → b < 6 → ρ 98 (ix l a b) = w2 S l a b := by
  obtain ⟨⟨ρ, c3, c4⟩, e, hF, hA⟩ := lpE (n := 6) (fun t (x : Mem × Option PV × Option PV) Q => X L 176 9 [some (xR 75), some (xI (l : Int)), some (xI (t : Int)), x.2.1, x.2.2, d5] [] x.1 Q) (fun t x => FrF l σ x.1 ∧ ∀ i j, i < 6 → j < 6 → i < t ∨ j < t → x.1 98 (ix l i j) = w2 S l i j) (by
    intro t ⟨ρ, d3, d4⟩ ht ⟨hF, hA⟩
    have hF : FrF l σ ρ := hF
    have hA : ∀ i j, i < 6 → j < 6 → i < t ∨ j < t → ρ 98 (ix l i j) = w2 S l i j := hA
    have hF0 : FrF l σ (up ρ 98 (ix l t t) 0) := hF.tr (FrF_u ht ht 0)
    have hA0 : ∀ i j, i < 6 → j < 6 → i < t ∨ j < t ∨ (i = t ∧ j ≤ t + 0) ∨ (j = t ∧ i ≤ t + 0) → up ρ 98 (ix l t t) 0 98 (ix l i j) = w2 S l i j := by
      intro i j hi hj h
      rw [u98 ht hj]
      by_cases e : i = t ∧ j = t
      · rw [if_pos e, e.1, e.2]; exact (if_pos rfl).symm
      · rw [if_neg e]; exact hA i j hi hj (by omega)
    obtain ⟨⟨ρ1, e4⟩, e, hF1, hA1⟩ := lpE (n := 5 - t) (fun i (x : Mem × Option PV) Q => X L 176 34 [some (xR 75), some (xI (l : Int)), some (xI (t : Int)), some (xI ((t + 1 + i : Nat) : Int)), x.2, d5] [] x.1 Q) (fun u x => FrF l σ x.1 ∧ ∀ i j, i < 6 → j < 6 → i < t ∨ j < t ∨ (i = t ∧ j ≤ t + u) ∨ (j = t ∧ i ≤ t + u) → x.1 98 (ix l i j) = w2 S l i j) (by
      intro q ⟨ρ, d4⟩ hq ⟨hF, hA⟩
      have hF : FrF l σ ρ := hF
      have hA : ∀ i j, i < 6 → j < 6 → i < t ∨ j < t ∨ (i = t ∧ j ≤ t + q) ∨ (j = t ∧ i ≤ t + q) → ρ 98 (ix l i j) = w2 S l i j := hA
      obtain ⟨u, hu⟩ : ∃ u : Nat, t + 1 + q = u := ⟨_, rfl⟩
      have hu6 : u < 6 := by omega
      have hm' : ∀ j, j < 36 → ρ 76 j = S 1 j := fun j hj => by rw [hF.1 76 (by omega)]; exact hm j hj
      have hr' : ∀ j, j < 36 → ρ 77 j = S 2 j := fun j hj => by rw [hF.1 77 (by omega)]; exact hr j hj
      have mw := fun Q => x_mayWalkM (L := L) (σ := ρ) (l := (l : Int)) hS hm' hr' ht hu6 (by omega) none Q
      have hmi : ρ 76 (6 * t + u) = mil S t u := by rw [mil_at ht hu6]; exact hm' _ (by omega)
      have hw : w2 S l t u = if opn S l t u then mil S t u else 1000000 := if_neg (by omega)
      have hw' : w2 S l u t = w2 S l t u := w2_sym hS l u t
      obtain ⟨ρ1, hρ1⟩ : ∃ ρ1, up (up ρ 98 (ix l t u) (w2 S l t u)) 98 (ix l u t) (w2 S l t u) = ρ1 := ⟨_, rfl⟩
      refine ⟨(ρ1, some (xI (bI (opn S l t u)))), fun Q => ?_, ?_, ?_⟩
      · show X L 176 34 [some (xR 75), some (xI (l : Int)), some (xI (t : Int)), some (xI ((t + 1 + q : Nat) : Int)), d4, d5] [] ρ Q = X L 176 34 [some (xR 75), some (xI (l : Int)), some (xI (t : Int)), some (xI ((t + 1 + (q + 1) : Nat) : Int)), some (xI (bI (opn S l t u))), d5] [] ρ1 Q
        rw [show t + 1 + (q + 1) = u + 1 by omega, hu]
        have e94 : ∀ b : Int, b = bI (opn S l t u) → X L 176 94 [some (xR 75), some (xI (l : Int)), some (xI (t : Int)), some (xI (u : Int)), some (xI b), d5] [xI (w2 S l t u), xI (ix l t u : Int), xR 98] ρ Q = X L 176 34 [some (xR 75), some (xI (l : Int)), some (xI (t : Int)), some (xI ((u + 1 : Nat) : Int)), some (xI b), d5] [] ρ1 Q := by
          intro b hb
          have e131 : X L 176 131 [some (xR 75), some (xI (l : Int)), some (xI (t : Int)), some (xI (u : Int)), some (xI b), d5] [xI (w2 S l t u), xI (ix l u t : Int), xR 98] (up ρ 98 (ix l t u) (w2 S l t u)) Q = X L 176 34 [some (xR 75), some (xI (l : Int)), some (xI (t : Int)), some (xI ((u + 1 : Nat) : Int)), some (xI b), d5] [] ρ1 Q := by
            rw [e_176_131]
            simp only [brI, not_true_eq_false, true_implies, false_implies, implies_true, and_true, cTag, cTgt, cLen, true_and, Int.toNat_natCast, retI_I, retR_R, retV_N, retL_L, ne_eq, Int.reduceEq, not_false_eq_true, hρ1]
            rw [w32_id (by omega) (by omega)]
            simp only [show (0 ≤ (ix l u t : Int) ∧ (ix l u t : Int) < 72) by show 0 ≤ ((36 * l + (6 * u + t) : Nat) : Int) ∧ ((36 * l + (6 * u + t) : Nat) : Int) < 72; omega, true_and]
            rfl
          rw [e_176_94]
          have i1 : w32 (w32 (w32 (36 * (l : Int)) + w32 (6 * (u : Int))) + (t : Int)) = (ix l u t : Int) := by
            simp (disch := omega) only [w32_id]
            show _ = ((36 * l + (6 * u + t) : Nat) : Int)
            omega
          have h76 : up ρ 98 (ix l t u) (w2 S l t u) 76 (6 * t + u) = mil S t u := by simp [up_rd, hmi]
          simp only [brI, not_true_eq_false, true_implies, false_implies, implies_true, and_true, cTag, cTgt, cLen, true_and, Int.toNat_natCast, retI_I, retR_R, retV_N, retL_L, ne_eq, Int.reduceEq, not_false_eq_true, i1, show (0 ≤ (ix l t u : Int) ∧ (ix l t u : Int) < 72) by show 0 ≤ ((36 * l + (6 * t + u) : Nat) : Int) ∧ ((36 * l + (6 * t + u) : Nat) : Int) < 72; omega, e_176_129]
          by_cases c : opn S l t u
          · have hb1 : b = 1 := by rw [hb, bI_t c]
            rw [if_pos c] at hw
            rw [if_neg (by rw [hb1]; decide)]
            simp only [w32_id (x := 6 * (t : Int)) (by clear c; omega) (by clear c; omega), w32_id (x := 6 * (t : Int) + (u : Int)) (by clear c; omega) (by clear c; omega), show (6 * (t : Int) + (u : Int)).toNat = 6 * t + u by clear c; omega, h76, show (0 ≤ 6 * (t : Int) + (u : Int) ∧ 6 * (t : Int) + (u : Int) < 36) by clear c; omega, true_and]
            rw [← hw]; exact e131
          · have hb0 : b = 0 := by rw [hb, bI_f c]
            rw [if_neg c] at hw
            rw [if_pos hb0, ← hw]; exact e131
        have i2 : w32 (w32 (w32 (36 * (l : Int)) + w32 (6 * (t : Int))) + (u : Int)) = (ix l t u : Int) := by
          simp (disch := omega) only [w32_id]
          show _ = ((36 * l + (6 * t + u) : Nat) : Int)
          omega
        have e53 : X L 176 53 [some (xR 75), some (xI (l : Int)), some (xI (t : Int)), some (xI (u : Int)), d4, d5] [xI (l : Int), xI (u : Int), xI (t : Int), xR 75] ρ Q = X L 176 34 [some (xR 75), some (xI (l : Int)), some (xI (t : Int)), some (xI ((u + 1 : Nat) : Int)), some (xI (bI (opn S l t u))), d5] [] ρ1 Q := by
          rw [e_176_53]
          simp only [brI, not_true_eq_false, true_implies, false_implies, implies_true, and_true, cTag, cTgt, cLen, true_and, Int.toNat_natCast, retI_I, retR_R, retV_N, retL_L, ne_eq, Int.reduceEq, not_false_eq_true, mw, i2, e_176_92, bI_0]
          by_cases c : opn S l t u
          · rw [if_neg (fun q => q c)]
            simp only [w32_id (x := 6 * (t : Int)) (by clear c; omega) (by clear c; omega), w32_id (x := 6 * (t : Int) + (u : Int)) (by clear c; omega) (by clear c; omega), show (6 * (t : Int) + (u : Int)).toNat = 6 * t + u by clear c; omega, hmi, show (0 ≤ 6 * (t : Int) + (u : Int) ∧ 6 * (t : Int) + (u : Int) < 36) by clear c; omega, true_and]
            have := e94 (bI (opn S l t u)) rfl
            rw [hw, if_pos c] at this
            exact this
          · rw [if_pos c]
            have := e94 (bI (opn S l t u)) rfl
            rw [hw, if_neg c] at this
            exact this
        rw [e_176_34]
        simp only [brI, not_true_eq_false, true_implies, false_implies, implies_true, and_true, cTag, cTgt, cLen, true_and, Int.toNat_natCast, retI_I, retR_R, retV_N, retL_L, ne_eq, Int.reduceEq, not_false_eq_true, e_176_52]
        rw [if_neg (by omega)]
        rcases (show l = 0 ∨ l = 1 by omega) with rfl | rfl
        · rw [if_pos (by decide)]; exact e53
        · rw [if_neg (by decide)]; exact e53
      · rw [← hρ1]; exact hF.tr ((FrF_u ht hu6 _).tr (FrF_u hu6 ht _))
      · intro i j hi hj h
        show ρ1 98 (ix l i j) = _
        rw [← hρ1, u98 ht hj, u98 hu6 hj]
        by_cases e1 : i = u ∧ j = t
        · rw [if_pos e1, e1.1, e1.2, hw']
        · rw [if_neg e1]
          by_cases e2 : i = t ∧ j = u
          · rw [if_pos e2, e2.1, e2.2]
          · rw [if_neg e2]; exact hA i j hi hj (by omega)) (a := (up ρ 98 (ix l t t) 0, d4)) ⟨hF0, hA0⟩
    have hA1 : ∀ i j, i < 6 → j < 6 → i < t ∨ j < t ∨ (i = t ∧ j ≤ t + (5 - t)) ∨ (j = t ∧ i ≤ t + (5 - t)) → ρ1 98 (ix l i j) = w2 S l i j := hA1
    refine ⟨(ρ1, some (xI 6), e4), fun Q => ?_, hF1, fun i j hi hj h => hA1 i j hi hj (by omega)⟩
    show X L 176 9 [some (xR 75), some (xI (l : Int)), some (xI (t : Int)), d3, d4, d5] [] ρ Q = X L 176 9 [some (xR 75), some (xI (l : Int)), some (xI ((t + 1 : Nat) : Int)), some (xI 6), e4, d5] [] ρ1 Q
    have e := e Q
    have e : X L 176 34 [some (xR 75), some (xI (l : Int)), some (xI (t : Int)), some (xI ((t + 1 + 0 : Nat) : Int)), d4, d5] [] (up ρ 98 (ix l t t) 0) Q = X L 176 34 [some (xR 75), some (xI (l : Int)), some (xI (t : Int)), some (xI ((t + 1 + (5 - t) : Nat) : Int)), e4, d5] [] ρ1 Q := e
    rw [show t + 1 + (5 - t) = 6 by omega, e_176_34] at e
    rw [e_176_9]
    simp only [brI, not_true_eq_false, true_implies, false_implies, implies_true, and_true, cTag, cTgt, cLen, true_and, Int.toNat_natCast, retI_I, retR_R, retV_N, retL_L, ne_eq, Int.reduceEq, not_false_eq_true]
    rw [if_neg (by omega)]
    have i3 : w32 (w32 (36 * (l : Int)) + w32 (7 * (t : Int))) = (ix l t t : Int) := by
      simp (disch := omega) only [w32_id]
      show _ = ((36 * l + (6 * t + t) : Nat) : Int)
      omega
    simp only [i3, Int.toNat_natCast, show (0 ≤ (ix l t t : Int) ∧ (ix l t t : Int) < 72) by show 0 ≤ ((36 * l + (6 * t + t) : Nat) : Int) ∧ ((36 * l + (6 * t + t) : Nat) : Int) < 72; omega, true_and]
    rw [w32_id (by omega) (by omega), e_176_34]
    refine Eq.trans e ?_
    show X L 176 34 [some (xR 75), some (xI (l : Int)), some (xI (t : Int)), some (xI 6), e4, d5] [] ρ1 Q = _
    rw [e_176_34]
    simp only [brI, not_true_eq_false, true_implies, false_implies, implies_true, and_true, cTag, cTgt, cLen, true_and, Int.toNat_natCast, retI_I, retR_R, retV_N, retL_L, ne_eq, Int.reduceEq, not_false_eq_true, Int.le_refl, if_true, e_176_138]
    rw [w32_id (by omega) (by omega)]; rfl) (a := (σ, d3, d4)) ⟨FrF.rf, fun i j _ _ h => by omega⟩
  exact ⟨ρ, c3, c4, e, hF, fun a b ha hb => hA a b ha hb (by omega)⟩
theorem x_lay2 {w : Nat → Nat → Int} (hok : okW' w) (hwb : ∀ a b, w a b ≤ 8000000) {l : Nat} (hl : l < 2) (d3 d4 d5 : Option PV) (hA : ∀ a b, a < 6 → b < 6 → σ 98 (ix l a b) = w a b) : ∃ (ρ : Mem) (c3 c4 c5 : Option PV), (∀ Q : PQ, X L 176 146 [some (xR 75), some (xI (l : Int)), some (xI 0), d3, d4, d5] [] σ Q = X L 176 146 [some (xR 75), some (xI (l : Int)), some (xI 6), c3, c4, c5] [] ρ Q) ∧ FrF l σ ρ ∧ ∀ a b, a < 6 → b < 6 → ρ 98 (ix l a b) = fws w 6 a b := by
  have ii : ∀ a b : Nat, a < 6 → b < 6 → w32 (w32 (w32 (36 * (l : Int)) + w32 (6 * (a : Int))) + (b : Int)) = (ix l a b : Int) := by
    intro a b ha hb
    simp (disch := omega) only [w32_id]
    show _ = ((36 * l + (6 * a + b) : Nat) : Int)
    omega
  have ir : ∀ a b : Nat, a < 6 → b < 6 → (0 ≤ (ix l a b : Int) ∧ (ix l a b : Int) < 72) := by
    intro a b ha hb
    show 0 ≤ ((36 * l + (6 * a + b) : Nat) : Int) ∧ ((36 * l + (6 * a + b) : Nat) : Int) < 72
    omega
  obtain ⟨⟨ρ, c3, c4, c5⟩, e, hF, hB⟩ := lpE (n := 6) (fun k (x : Mem × Option PV × Option PV × Option PV) Q => X L 176 146 [some (xR 75), some (xI (l : Int)), some (xI (k : Int)), x.2.1, x.2.2.1, x.2.2.2] [] x.1 Q) (fun k x => FrF l σ x.1 ∧ ∀ a b, a < 6 → b < 6 → x.1 98 (ix l a b) = fws w k a b) (by
    intro k ⟨ρ, d3, d4, d5⟩ hk ⟨hF, hA⟩
    have hF : FrF l σ ρ := hF
    have hA : ∀ a b, a < 6 → b < 6 → ρ 98 (ix l a b) = fws w k a b := hA
    obtain ⟨⟨ρ1, e4, e5⟩, e1, hF1, hA1⟩ := lpE (n := 6) (fun a (x : Mem × Option PV × Option PV) Q => X L 176 154 [some (xR 75), some (xI (l : Int)), some (xI (k : Int)), some (xI (a : Int)), x.2.1, x.2.2] [] x.1 Q) (fun a x => FrF l σ x.1 ∧ ∀ i j, i < 6 → j < 6 → x.1 98 (ix l i j) = mix w k a 0 i j) (by
      intro a ⟨ρ, d4, d5⟩ ha ⟨hF, hA⟩
      have hF : FrF l σ ρ := hF
      have hA : ∀ i j, i < 6 → j < 6 → ρ 98 (ix l i j) = mix w k a 0 i j := hA
      obtain ⟨⟨ρ1, e5⟩, e1, hF1, hA1⟩ := lpE (n := 6) (fun b (x : Mem × Option PV) Q => X L 176 163 [some (xR 75), some (xI (l : Int)), some (xI (k : Int)), some (xI (a : Int)), some (xI (b : Int)), x.2] [] x.1 Q) (fun b x => FrF l σ x.1 ∧ ∀ i j, i < 6 → j < 6 → x.1 98 (ix l i j) = mix w k a b i j) (by
        intro b ⟨ρ, d5⟩ hb ⟨hF, hA⟩
        have hF : FrF l σ ρ := hF
        have hA : ∀ i j, i < 6 → j < 6 → ρ 98 (ix l i j) = mix w k a b i j := hA
        have v1 : ρ 98 (ix l a k) = fws w k a k := by
          rw [hA a k ha hk]; unfold mix; split
          · exact fws_col hok k a
          · rfl
        have v2 : ρ 98 (ix l k b) = fws w k k b := by
          rw [hA k b hk hb]; unfold mix; split
          · exact fws_row hok k b
          · rfl
        have v3 : ρ 98 (ix l a b) = fws w k a b := by
          rw [hA a b ha hb]; unfold mix; rw [if_neg (by omega)]
        have n1 := fws_nn hok k a k
        have n2 := fws_nn hok k k b
        have b1 := fws_le (w := w) k a k
        have b2 := fws_le (w := w) k k b
        have b3 := hwb a k
        have b4 := hwb k b
        refine ⟨(up ρ 98 (ix l a b) (fws w (k + 1) a b), some (xI (fws w k a k + fws w k k b))), fun Q => ?_, hF.tr (FrF_u ha hb _), ?_⟩
        · show X L 176 163 [some (xR 75), some (xI (l : Int)), some (xI (k : Int)), some (xI (a : Int)), some (xI (b : Int)), d5] [] ρ Q = X L 176 163 [some (xR 75), some (xI (l : Int)), some (xI (k : Int)), some (xI (a : Int)), some (xI ((b + 1 : Nat) : Int)), some (xI (fws w k a k + fws w k k b))] [] (up ρ 98 (ix l a b) (fws w (k + 1) a b)) Q
          have e266 : ∀ x : Int, X L 176 266 [some (xR 75), some (xI (l : Int)), some (xI (k : Int)), some (xI (a : Int)), some (xI (b : Int)), some (xI (fws w k a k + fws w k k b))] [xI x, xI (ix l a b : Int), xR 98] ρ Q = X L 176 163 [some (xR 75), some (xI (l : Int)), some (xI (k : Int)), some (xI (a : Int)), some (xI ((b + 1 : Nat) : Int)), some (xI (fws w k a k + fws w k k b))] [] (up ρ 98 (ix l a b) x) Q := by
            intro x
            rw [e_176_266]
            simp only [brI, not_true_eq_false, true_implies, false_implies, implies_true, and_true, cTag, cTgt, cLen, true_and, Int.toNat_natCast, retI_I, retR_R, retV_N, retL_L, ne_eq, Int.reduceEq, not_false_eq_true, ir a b ha hb]
            rw [w32_id (by omega) (by omega)]; rfl
          rw [e_176_163]
          simp only [brI, not_true_eq_false, true_implies, false_implies, implies_true, and_true, cTag, cTgt, cLen, true_and, Int.toNat_natCast, retI_I, retR_R, retV_N, retL_L, ne_eq, Int.reduceEq, not_false_eq_true, ii a b ha hb, ii a k ha hk, ii k b hk hb, ir a b ha hb, ir a k ha hk, ir k b hk hb, v1, v2, v3, w32_id (x := fws w k a k + fws w k k b) (by omega) (by omega)]
          rw [if_neg (by omega)]
          by_cases c : fws w k a k + fws w k k b < fws w k a b
          · have u : fws w (k + 1) a b = fws w k a k + fws w k k b := if_pos c
            rw [if_neg (by omega), u]; exact e266 _
          · have u : fws w (k + 1) a b = fws w k a b := if_neg c
            rw [if_pos (by omega), e_176_249]
            simp only [brI, not_true_eq_false, true_implies, false_implies, implies_true, and_true, cTag, cTgt, cLen, true_and, Int.toNat_natCast, retI_I, retR_R, retV_N, retL_L, ne_eq, Int.reduceEq, not_false_eq_true, ii a b ha hb, ir a b ha hb, v3, u]
            exact e266 _
        · intro x y hx hy
          show up ρ 98 (ix l a b) (fws w (k + 1) a b) 98 (ix l x y) = _
          rw [u98 hb hy]
          by_cases e : x = a ∧ y = b
          · rw [if_pos e, e.1, e.2]; unfold mix; rw [if_pos (by omega)]
          · rw [if_neg e, hA x y hx hy]
            unfold mix
            by_cases z : x < a ∨ (x = a ∧ y < b)
            · rw [if_pos z, if_pos (by omega)]
            · rw [if_neg z, if_neg (by omega)]) (a := (ρ, d5)) ⟨hF, hA⟩
      have hA1 : ∀ i j, i < 6 → j < 6 → ρ1 98 (ix l i j) = mix w k a 6 i j := hA1
      refine ⟨(ρ1, some (xI 6), e5), fun Q => ?_, hF1, ?_⟩
      · show X L 176 154 [some (xR 75), some (xI (l : Int)), some (xI (k : Int)), some (xI (a : Int)), d4, d5] [] ρ Q = X L 176 154 [some (xR 75), some (xI (l : Int)), some (xI (k : Int)), some (xI ((a + 1 : Nat) : Int)), some (xI 6), e5] [] ρ1 Q
        rw [e_176_154]
        simp only [brI, not_true_eq_false, true_implies, false_implies, implies_true, and_true, cTag, cTgt, cLen, true_and, Int.toNat_natCast, retI_I, retR_R, retV_N, retL_L, ne_eq, Int.reduceEq, not_false_eq_true]
        rw [if_neg (by omega)]
        refine Eq.trans (e1 Q) ?_
        show X L 176 163 [some (xR 75), some (xI (l : Int)), some (xI (k : Int)), some (xI (a : Int)), some (xI 6), e5] [] ρ1 Q = _
        rw [e_176_163]
        simp only [brI, Int.le_refl, if_true]
        rw [e_176_273, w32_id (by omega) (by omega)]; rfl
      · intro i j hi hj
        show ρ1 98 (ix l i j) = _
        rw [hA1 i j hi hj]
        unfold mix
        by_cases z : i < a ∨ (i = a ∧ j < 6)
        · rw [if_pos z, if_pos (by omega)]
        · rw [if_neg z, if_neg (by omega)]) (a := (ρ, d4, d5)) ⟨hF, fun i j hi hj => by
        show ρ 98 (ix l i j) = _
        rw [hA i j hi hj]; unfold mix; rw [if_neg (by omega)]⟩
    refine ⟨(ρ1, some (xI 6), e4, e5), fun Q => ?_, hF1, ?_⟩
    · show X L 176 146 [some (xR 75), some (xI (l : Int)), some (xI (k : Int)), d3, d4, d5] [] ρ Q = X L 176 146 [some (xR 75), some (xI (l : Int)), some (xI ((k + 1 : Nat) : Int)), some (xI 6), e4, e5] [] ρ1 Q
      rw [e_176_146]
      simp only [brI, not_true_eq_false, true_implies, false_implies, implies_true, and_true, cTag, cTgt, cLen, true_and, Int.toNat_natCast, retI_I, retR_R, retV_N, retL_L, ne_eq, Int.reduceEq, not_false_eq_true]
      rw [if_neg (by omega)]
      refine Eq.trans (e1 Q) ?_
      show X L 176 154 [some (xR 75), some (xI (l : Int)), some (xI (k : Int)), some (xI 6), e4, e5] [] ρ1 Q = _
      rw [e_176_154]
      simp only [brI, Int.le_refl, if_true]
      rw [e_176_279, w32_id (by omega) (by omega)]; rfl
    · intro i j hi hj
      show ρ1 98 (ix l i j) = _
      have h : ρ1 98 (ix l i j) = mix w k 6 0 i j := hA1 i j hi hj
      rw [h]; unfold mix; rw [if_pos (by omega)]) (a := (σ, d3, d4, d5)) ⟨FrF.rf, hA⟩
  exact ⟨ρ, c3, c4, c5, e, hF, hB⟩
theorem w2_8 (hS : VS B S) (l : Int) (a b : Nat) : w2 S l a b ≤ 8000000 := by
  have := mil_b hS a b
  unfold w2; split
  · omega
  · split <;> omega
theorem x_layFar (hm : ∀ j, j < 36 → σ 76 j = S 1 j) (hr : ∀ j, j < 36 → σ 77 j = S 2 j) (hS : VS B S) : ∃ ρ, (∀ Q : PQ, X L 176 0 [some (xR 75), none, none, none, none, none] [] σ Q = Q none ρ) ∧ (∀ o, o ≠ 98 → ρ o = σ o) ∧ ∀ l a b : Nat, l < 2 → a < 6 → b < 6 → ρ 98 (ix l a b) = dd S l a b := by
  have half : ∀ (l : Nat) (hl : l < 2) (σ : Mem) (d2 d3 d4 d5 : Option PV), (∀ j, j < 36 → σ 76 j = S 1 j) → (∀ j, j < 36 → σ 77 j = S 2 j) → ∃ (ρ : Mem) (c2 c3 c4 c5 : Option PV), (∀ Q : PQ, X L 176 2 [some (xR 75), some (xI (l : Int)), d2, d3, d4, d5] [] σ Q = X L 176 2 [some (xR 75), some (xI ((l + 1 : Nat) : Int)), c2, c3, c4, c5] [] ρ Q) ∧ FrF l σ ρ ∧ ∀ a b, a < 6 → b < 6 → ρ 98 (ix l a b) = dd S l a b := by
    intro l hl σ d2 d3 d4 d5 hm hr
    obtain ⟨ρ, c3, c4, e, hF, hA⟩ := x_lay1 (L := L) hm hr hS hl d2 d3 d4 d5
    obtain ⟨ρ1, f3, f4, f5, e1, hF1, hA1⟩ := x_lay2 (L := L) (w2_ok hS l) (w2_8 hS l) hl c3 c4 d5 hA
    refine ⟨ρ1, some (xI 6), f3, f4, f5, fun Q => ?_, hF.tr hF1, fun a b ha hb => by rw [hA1 a b ha hb]; exact fw_dd hS l⟩
    rw [e_176_2]
    simp only [brI, not_true_eq_false, true_implies, false_implies, implies_true, and_true, cTag, cTgt, cLen, true_and, Int.toNat_natCast, retI_I, retR_R, retV_N, retL_L, ne_eq, Int.reduceEq, not_false_eq_true]
    rw [if_neg (by omega), e, e_176_9]
    simp only [brI, Int.le_refl, if_true]
    rw [e_176_144, e1, e_176_146]
    simp only [brI, Int.le_refl, if_true]
    rw [e_176_285, w32_id (by omega) (by omega)]; rfl
  obtain ⟨ρ0, c2, c3, c4, c5, e0, hF0, hA0⟩ := half 0 (by omega) σ none none none none hm hr
  obtain ⟨ρ1, f2, f3, f4, f5, e1, hF1, hA1⟩ := half 1 (by omega) ρ0 c2 c3 c4 c5 (fun j hj => by rw [hF0.1 76 (by omega)]; exact hm j hj) (fun j hj => by rw [hF0.1 77 (by omega)]; exact hr j hj)
  refine ⟨ρ1, fun Q => ?_, fun o ho => by rw [hF1.1 o ho, hF0.1 o ho], ?_⟩
  · rw [e_176_0]
    refine Eq.trans (e0 Q) (Eq.trans (e1 Q) ?_)
    show X L 176 2 [some (xR 75), some (xI 2), f2, f3, f4, f5] [] ρ1 Q = _
    rw [e_176_2]
    simp only [brI, Int.le_refl, if_true]
    rw [e_176_291]
  · intro l a b hl ha hb
    rcases (show l = 0 ∨ l = 1 by omega) with rfl | rfl
    · rw [hF1.2 _ (by show 36 * 0 + (6 * a + b) < 36 * 1 ∨ _; omega)]; exact hA0 a b ha hb
    · exact hA1 a b ha hb
/-- the laid ways, read -/
def LdF (S σ : Mem) : Prop := ∀ l a b : Nat, l < 2 → a < 6 → b < 6 → σ 98 (ix l a b) = dd S l a b
theorem x_farOf (hS : VS B S) (hF : LdF S σ) {l a b : Nat} (hl : l < 2) (ha : a < 6) (hb : b < 6) (Q : PQ) : X L 177 0 [some (xR 75), some (xI (a : Int)), some (xI (b : Int)), some (xI (l : Int)), none] [] σ Q = Q (some (xI (dd S l a b))) σ := by
  have hd := dd_b hS l a b
  have h := hF l a b hl ha hb
  have e14 : X L 177 14 [some (xR 75), some (xI (a : Int)), some (xI (b : Int)), some (xI (l : Int)), none] [xI ((36 * l : Nat) : Int), xR 98] σ Q = Q (some (xI (dd S l a b))) σ := by
    rw [e_177_14]
    have i1 : w32 (w32 (((36 * l : Nat) : Int) + w32 (6 * (a : Int))) + (b : Int)) = (ix l a b : Int) := by
      simp (disch := omega) only [w32_id]
      show _ = ((36 * l + (6 * a + b) : Nat) : Int)
      omega
    simp only [brI, not_true_eq_false, true_implies, false_implies, implies_true, and_true, cTag, cTgt, cLen, true_and, Int.toNat_natCast, retI_I, retR_R, retV_N, retL_L, ne_eq, Int.reduceEq, not_false_eq_true, i1, h, e_177_36, e_177_38, show (0 ≤ (ix l a b : Int) ∧ (ix l a b : Int) < 72) by show 0 ≤ ((36 * l + (6 * a + b) : Nat) : Int) ∧ ((36 * l + (6 * a + b) : Nat) : Int) < 72; omega]
    by_cases c : 1000000 ≤ dd S l a b
    · rw [if_pos c, show dd S l a b = 1000000 by omega]
    · rw [if_neg c]
  simp only [e_177_0, e_177_13, brI, not_true_eq_false, true_implies, false_implies, implies_true, and_true, cTag, cTgt, cLen, true_and, Int.toNat_natCast, retI_I, retR_R, retV_N, retL_L, ne_eq, Int.reduceEq, not_false_eq_true]
  rcases (show l = 0 ∨ l = 1 by omega) with rfl | rfl
  · rw [if_pos (by decide)]; exact e14
  · rw [if_neg (by decide)]; exact e14
/-- the surveyed ways, read -/
def LdC (S σ : Mem) : Prop := ∀ l a b : Nat, l < 2 → (a : Int) < S 0 0 → (b : Int) < S 0 0 → σ 37 (ix l a b) = dw S l a b
theorem x_milesBt (hS : VS B S) (hF : LdC S σ) {l a b : Nat} (hl : l < 2) (ha : (a : Int) < S 0 0) (hb : (b : Int) < S 0 0) (Q : PQ) : X L 85 0 [some (xR 36), some (xI (a : Int)), some (xI (b : Int)), some (xI (l : Int))] [] σ Q = Q (some (xI (dd S l a b))) σ := by
  have hn := hS.1
  have h := hF l a b hl ha hb
  have hx : ix l a b < 72 := by show 36 * l + (6 * a + b) < 72; omega
  have hb2 := dw_b hS l a b
  have hd := dd_b hS l a b
  have td : Int.tdiv (dw S l a b) 8 = dd S l a b := by rw [Int.tdiv_eq_ediv_of_nonneg (by omega)]; exact dw_dd hS l a b
  simp only [e_85_0, brI, not_true_eq_false, true_implies, false_implies, implies_true, and_true, cTag, cTgt, cLen, true_and, Int.toNat_natCast, retI_I, retR_R, retV_N, retL_L, ne_eq, Int.reduceEq, not_false_eq_true, x_place hl (show a < 6 by omega) (show b < 6 by omega), x_valueAt L 37 _ _ _ t37, vA37 hx, h, td]
  rw [w32_id (by omega) (by omega)]
end LayFar
