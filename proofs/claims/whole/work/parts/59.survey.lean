/-! the class surveys the ways -/
section Survey
variable {B : Int} {S σ τ : Mem} {L v : Nat} {T : Ful}
abbrev ix (l a b : Nat) : Nat := 36 * l + (6 * a + b)
theorem x_place {l a b : Nat} (hl : l < 2) (ha : a < 6) (hb : b < 6) (Q : PQ) : X L 82 0 [some (xI (a : Int)), some (xI (b : Int)), some (xI (l : Int))] [] σ Q = Q (some (xI (ix l a b : Int))) σ := by
  simp only [e_82_0, e_82_9, e_82_10, brI]
  rcases (show l = 0 ∨ l = 1 by omega) with rfl | rfl
  · rw [if_pos (show ((0 : Nat) : Int) = 0 from rfl)]
    simp (disch := omega) only [w32_id]
    congr 3
    show _ = ((36 * 0 + (6 * a + b) : Nat) : Int)
    omega
  · rw [if_neg (by decide)]
    simp (disch := omega) only [w32_id]
    congr 3
    show _ = ((36 * 1 + (6 * a + b) : Nat) : Int)
    omega
def wr (S : Mem) (l : Int) (a b : Nat) : Int := if opn S l a b then 8 * mil S a b + 1 else 8000000
theorem x_wOf (hv : IsV v) (hR : RC v S σ) (hS : VS B S) {l a b : Nat} (hl : l < 2) (Q : PQ) : X L 83 0 [some (xR v), some (xI (a : Int)), some (xI (b : Int)), some (xI (l : Int)), none, none] [] σ Q = Q (some (xI (wr S l a b))) σ := by
  have hm := mil_b hS a b
  simp only [e_83_0, e_83_30, e_83_31, e_83_52, e_83_54, brI, not_true_eq_false, true_implies, false_implies, implies_true, and_true, cTag, cTgt, cLen, true_and, Int.toNat_natCast, retI_I, retR_R, retV_N, retL_L, ne_eq, Int.reduceEq, not_false_eq_true, gv_t hv, x_roadNumber, x_milesOf hv, rc_mil hv hR hS, x_mayWalk hv, bI_0]
  unfold wr opn
  by_cases c : mil S a b = 0
  · rw [if_pos (by omega), if_neg (fun q => q.1 c)]
  · have hne : ¬ (a : Int) = (b : Int) := by intro e; rw [e] at c; exact c (mil_d hS _)
    rw [if_neg (by omega), rc_rul hv hR hS _ _ hne]
    simp (disch := omega) only [w32_id]
    unfold may
    rcases (show l = 0 ∨ l = 1 by omega) with rfl | rfl
    · by_cases c2 : rul S a b = 0 ∨ rul S a b = 2 <;> simp [c, c2]
    · by_cases c2 : rul S a b = 0 ∨ rul S a b = 1 <;> simp [c, c2]
theorem vA37 {j : Nat} (hj : j < 72) : vA L σ 37 (j : Int) = σ 37 j := by
  unfold vA; rw [(cLen L).2.2.2.1, if_pos (by omega), Int.toNat_natCast]
theorem pA37 {j : Nat} (hj : j < 72) (x : Int) : pA L σ 37 (j : Int) x = up σ 37 j x := by
  unfold pA; rw [(cLen L).2.2.2.1, if_pos (by omega), Int.toNat_natCast]
theorem t37 : tag 37 = 0 := rfl
theorem x_wBt {l a b : Nat} (hl : l < 2) (ha : a < 6) (hb : b < 6) (Q : PQ) : X L 84 0 [some (xR 36), some (xI (a : Int)), some (xI (b : Int)), some (xI (l : Int))] [] σ Q = Q (some (xI (σ 37 (ix l a b)))) σ := by
  have h : ix l a b < 72 := by show 36 * l + (6 * a + b) < 72; omega
  simp only [e_84_0, brI, not_true_eq_false, true_implies, false_implies, implies_true, and_true, cTag, cTgt, cLen, true_and, Int.toNat_natCast, retI_I, retR_R, retV_N, retL_L, ne_eq, Int.reduceEq, not_false_eq_true, x_place hl ha hb, x_valueAt L 37 _ _ _ t37, vA37 h]
def FrW (l : Nat) (σ ρ : Mem) : Prop := (∀ o, o ≠ 37 → ρ o = σ o) ∧ (∀ j, j < 36 * l ∨ 36 * l + 36 ≤ j → ρ 37 j = σ 37 j)
theorem FrW.rf {l : Nat} : FrW l σ σ := ⟨fun _ _ => rfl, fun _ _ => rfl⟩
theorem FrW.tr {l : Nat} {a b c : Mem} (h1 : FrW l a b) (h2 : FrW l b c) : FrW l a c := ⟨fun o h => (h2.1 o h).trans (h1.1 o h), fun j h => (h2.2 j h).trans (h1.2 j h)⟩
theorem FrW_u {l a b : Nat} (ha : a < 6) (hb : b < 6) (x : Int) : FrW l σ (up σ 37 (ix l a b) x) := by
  refine ⟨fun o ho => ?_, fun j hj => ?_⟩
  · funext j; simp only [up_rd]; rw [if_neg (by omega)]
  · simp only [up_rd]; rw [if_neg (by show ¬ (True ∧ j = 36 * l + (6 * a + b)); omega)]
theorem ix_in {l a b c d : Nat} (hb : b < 6) (hd : d < 6) : ix l a b = ix l c d ↔ a = c ∧ b = d := by
  show 36 * l + (6 * a + b) = 36 * l + (6 * c + d) ↔ _
  omega
/-- the first half: weights of roads -/
theorem x_surv1 (hR : RC 1 S σ) (hS : VS B S) {l n : Nat} (hl : l < 2) (hn : (n : Int) = S 0 0) : ∃ (ρ : Mem) (d5 d6 : Option PV), (∀ Q : PQ, X L 80 8 [some (xR 36), some (xR 1), some (xI (l : Int)), some (xI (n : Int)), some (xI 0), none, none] [] σ Q = X L 80 8 [some (xR 36), some (xR 1), some (xI (l : Int)), some (xI (n : Int)), some (xI (n : Int)), d5, d6] [] ρ Q) ∧ FrW l σ ρ ∧ ∀ a b, a < n → b < n → ρ 37 (ix l a b) = w1 S l a b := by
  have hn6 := hS.1
  obtain ⟨⟨ρ, d5, d6⟩, e, hF, hA⟩ := lpE (n := n) (fun a (x : Mem × Option PV × Option PV) Q => X L 80 8 [some (xR 36), some (xR 1), some (xI (l : Int)), some (xI (n : Int)), some (xI (a : Int)), x.2.1, x.2.2] [] x.1 Q) (fun a x => FrW l σ x.1 ∧ ∀ i j, i < a → j < n → x.1 37 (ix l i j) = w1 S l i j) (by
    intro a ⟨ρ, d5, d6⟩ ha ⟨hF, hA⟩
    have hF : FrW l σ ρ := hF
    have hA : ∀ i j, i < a → j < n → ρ 37 (ix l i j) = w1 S l i j := hA
    obtain ⟨⟨ρ1, e6⟩, e, hF1, hA1, hA2⟩ := lpE (n := n) (fun b (x : Mem × Option PV) Q => X L 80 17 [some (xR 36), some (xR 1), some (xI (l : Int)), some (xI (n : Int)), some (xI (a : Int)), some (xI (b : Int)), x.2] [] x.1 Q) (fun b x => FrW l σ x.1 ∧ (∀ i j, i < a → j < n → x.1 37 (ix l i j) = w1 S l i j) ∧ ∀ j, j < b → x.1 37 (ix l a j) = w1 S l a j) (by
      intro b ⟨ρ, d6⟩ hb ⟨hF, hA, hA2⟩
      have hF : FrW l σ ρ := hF
      have hA : ∀ i j, i < a → j < n → ρ 37 (ix l i j) = w1 S l i j := hA
      have hA2 : ∀ j, j < b → ρ 37 (ix l a j) = w1 S l a j := hA2
      have hRr : RC 1 S ρ := RC_eq (fun o ho => hF.1 o (by omega)) hR
      have hx : ix l a b < 72 := by show 36 * l + (6 * a + b) < 72; omega
      refine ⟨(up ρ 37 (ix l a b) (w1 S l a b), some (xI (w1 S l a b))), fun Q => ?_, hF.tr (FrW_u (by omega) (by omega) _), ?_, ?_⟩
      · show X L 80 17 [some (xR 36), some (xR 1), some (xI (l : Int)), some (xI (n : Int)), some (xI (a : Int)), some (xI (b : Int)), d6] [] ρ Q = X L 80 17 [some (xR 36), some (xR 1), some (xI (l : Int)), some (xI (n : Int)), some (xI (a : Int)), some (xI ((b + 1 : Nat) : Int)), some (xI (w1 S l a b))] [] (up ρ 37 (ix l a b) (w1 S l a b)) Q
        have e43 : ∀ x : Int, X L 80 43 [some (xR 36), some (xR 1), some (xI (l : Int)), some (xI (n : Int)), some (xI (a : Int)), some (xI (b : Int)), d6] [xI x] ρ Q = X L 80 17 [some (xR 36), some (xR 1), some (xI (l : Int)), some (xI (n : Int)), some (xI (a : Int)), some (xI ((b + 1 : Nat) : Int)), some (xI x)] [] (up ρ 37 (ix l a b) x) Q := by
          intro x
          rw [e_80_43]
          simp only [brI, not_true_eq_false, true_implies, false_implies, implies_true, and_true, cTag, cTgt, cLen, true_and, Int.toNat_natCast, retI_I, retR_R, retV_N, retL_L, ne_eq, Int.reduceEq, not_false_eq_true, x_place hl (show a < 6 by omega) (show b < 6 by omega), x_put L 37 _ _ _ _ t37, pA37 hx]
          rw [w32_id (by omega) (by omega)]; rfl
        rw [e_80_17]
        simp only [brI, not_true_eq_false, true_implies, false_implies, implies_true, and_true, cTag, cTgt, cLen, true_and, Int.toNat_natCast, retI_I, retR_R, retV_N, retL_L, ne_eq, Int.reduceEq, not_false_eq_true]
        rw [if_neg (by omega)]
        by_cases c : a = b
        · rw [if_neg (by simp [c]), e43]
          have : w1 S l a b = 0 := if_pos c
          rw [this]
        · have : w1 S l a b = wr S l a b := if_neg c
          rw [if_pos (by omega), e_80_34]
          simp only [brI, not_true_eq_false, true_implies, false_implies, implies_true, and_true, cTag, cTgt, cLen, true_and, Int.toNat_natCast, retI_I, retR_R, retV_N, retL_L, ne_eq, Int.reduceEq, not_false_eq_true, x_wOf iV1 hRr hS hl, e43, this]
      · intro i j hi hj
        show up ρ 37 (ix l a b) (w1 S l a b) 37 (ix l i j) = _
        simp only [up_rd]; rw [if_neg (by rw [ix_in (by omega) (by omega)]; omega)]
        exact hA i j hi hj
      · intro j hj
        show up ρ 37 (ix l a b) (w1 S l a b) 37 (ix l a j) = _
        simp only [up_rd, true_and]
        by_cases c : j = b
        · subst c; rw [if_pos rfl]
        · rw [if_neg (by rw [ix_in (by omega) (by omega)]; omega)]
          exact hA2 j (by omega)) (a := (ρ, d6)) ⟨hF, hA, fun j hj => by omega⟩
    have hA1 : ∀ i j, i < a → j < n → ρ1 37 (ix l i j) = w1 S l i j := hA1
    have hA2 : ∀ j, j < n → ρ1 37 (ix l a j) = w1 S l a j := hA2
    refine ⟨(ρ1, some (xI (n : Int)), e6), fun Q => ?_, hF1, ?_⟩
    · show X L 80 8 [some (xR 36), some (xR 1), some (xI (l : Int)), some (xI (n : Int)), some (xI (a : Int)), d5, d6] [] ρ Q = X L 80 8 [some (xR 36), some (xR 1), some (xI (l : Int)), some (xI (n : Int)), some (xI ((a + 1 : Nat) : Int)), some (xI (n : Int)), e6] [] ρ1 Q
      rw [e_80_8]
      simp only [brI, not_true_eq_false, true_implies, false_implies, implies_true, and_true, cTag, cTgt, cLen, true_and, Int.toNat_natCast, retI_I, retR_R, retV_N, retL_L, ne_eq, Int.reduceEq, not_false_eq_true]
      rw [if_neg (by omega)]
      refine Eq.trans (e Q) ?_
      show X L 80 17 [some (xR 36), some (xR 1), some (xI (l : Int)), some (xI (n : Int)), some (xI (a : Int)), some (xI (n : Int)), e6] [] ρ1 Q = _
      rw [e_80_17]
      simp only [brI, not_true_eq_false, true_implies, false_implies, implies_true, and_true, cTag, cTgt, cLen, true_and, Int.toNat_natCast, retI_I, retR_R, retV_N, retL_L, ne_eq, Int.reduceEq, not_false_eq_true]
      rw [if_pos (Int.le_refl _), e_80_68, w32_id (by omega) (by omega)]; rfl
    · intro i j hi hj
      show ρ1 37 (ix l i j) = _
      by_cases c : i = a
      · subst c; exact hA2 j hj
      · exact hA1 i j (by omega) hj) (a := (σ, none, none)) ⟨FrW.rf, fun i j hi => by omega⟩
  exact ⟨ρ, d5, d6, e, hF, fun a b ha hb => hA a b ha hb⟩
/-- between two rounds -/
abbrev mix (w : Nat → Nat → Int) (k a b x y : Nat) : Int := if x < a ∨ (x = a ∧ y < b) then fws w (k + 1) x y else fws w k x y
theorem x_shorten {w : Nat → Nat → Int} (hok : okW' w) (hwb : ∀ a b, w a b ≤ 8000000) {l n k a b : Nat} (hl : l < 2) (hn : n ≤ 6) (hk : k < n) (ha : a < n) (hb : b < n) (hA : ∀ x y, x < n → y < n → σ 37 (ix l x y) = mix w k a b x y) : ∃ ρ, (∀ Q : PQ, X L 81 0 [some (xR 36), some (xI (a : Int)), some (xI (k : Int)), some (xI (b : Int)), some (xI (l : Int)), none] [] σ Q = Q none ρ) ∧ FrW l σ ρ ∧ ∀ x y, x < n → y < n → ρ 37 (ix l x y) = mix w k a (b + 1) x y := by
  have hx : ix l a b < 72 := by show 36 * l + (6 * a + b) < 72; omega
  have v1 : σ 37 (ix l a k) = fws w k a k := by
    rw [hA a k ha hk]; unfold mix; split
    · exact fws_col hok k a
    · rfl
  have v2 : σ 37 (ix l k b) = fws w k k b := by
    rw [hA k b hk hb]; unfold mix; split
    · exact fws_row hok k b
    · rfl
  have v3 : σ 37 (ix l a b) = fws w k a b := by
    rw [hA a b ha hb]; unfold mix; rw [if_neg (by omega)]
  have n1 := fws_nn hok k a k
  have n2 := fws_nn hok k k b
  have b1 := fws_le (w := w) k a k
  have b2 := fws_le (w := w) k k b
  have b3 := hwb a k
  have b4 := hwb k b
  have pl := fun Q => x_place (L := L) (σ := σ) hl (show a < 6 by omega) (show b < 6 by omega) Q
  by_cases c : fws w k a k + fws w k k b < fws w k a b
  · have u : fws w (k + 1) a b = fws w k a k + fws w k k b := if_pos c
    refine ⟨up σ 37 (ix l a b) (fws w k a k + fws w k k b), fun Q => ?_, FrW_u (by omega) (by omega) _, ?_⟩
    · rw [e_81_0]
      simp only [brI, not_true_eq_false, true_implies, false_implies, implies_true, and_true, cTag, cTgt, cLen, true_and, Int.toNat_natCast, retI_I, retR_R, retV_N, retL_L, ne_eq, Int.reduceEq, not_false_eq_true, x_wBt hl (show a < 6 by omega) (show k < 6 by omega), x_wBt hl (show k < 6 by omega) (show b < 6 by omega), x_wBt hl (show a < 6 by omega) (show b < 6 by omega), v1, v2, v3, w32_id (x := fws w k a k + fws w k k b) (by omega) (by omega), pl, x_put L 37 _ _ _ _ t37, pA37 hx, e_81_48]
      rw [if_neg (by omega)]
    · intro x y hxx hy
      simp only [up_rd, true_and]
      by_cases e : ix l x y = ix l a b
      · have e' := (ix_in (l := l) (by omega) (by omega)).mp e
        rw [if_pos e, e'.1, e'.2, ← u]
        unfold mix; rw [if_pos (by omega)]
      · have e' : ¬ (x = a ∧ y = b) := fun q => e ((ix_in (l := l) (by omega) (by omega)).mpr q)
        rw [if_neg e, hA x y hxx hy]
        unfold mix
        by_cases z : x < a ∨ (x = a ∧ y < b)
        · rw [if_pos z, if_pos (by omega)]
        · rw [if_neg z, if_neg (by omega)]
  · have u : fws w (k + 1) a b = fws w k a b := if_neg c
    refine ⟨σ, fun Q => ?_, FrW.rf, ?_⟩
    · rw [e_81_0]
      simp only [brI, not_true_eq_false, true_implies, false_implies, implies_true, and_true, cTag, cTgt, cLen, true_and, Int.toNat_natCast, retI_I, retR_R, retV_N, retL_L, ne_eq, Int.reduceEq, not_false_eq_true, x_wBt hl (show a < 6 by omega) (show k < 6 by omega), x_wBt hl (show k < 6 by omega) (show b < 6 by omega), x_wBt hl (show a < 6 by omega) (show b < 6 by omega), v1, v2, v3, w32_id (x := fws w k a k + fws w k k b) (by omega) (by omega), e_81_48]
      rw [if_pos (by omega)]
    · intro x y hxx hy
      rw [hA x y hxx hy]
      unfold mix
      by_cases e : x = a ∧ y = b
      · rw [if_neg (by omega), if_pos (by omega), e.1, e.2, u]
      · by_cases z : x < a ∨ (x = a ∧ y < b)
        · rw [if_pos z, if_pos (by omega)]
        · rw [if_neg z, if_neg (by omega)]
theorem w1_8 (hS : VS B S) (l : Int) (a b : Nat) : w1 S l a b ≤ 8000000 := by
  have := mil_b hS a b
  unfold w1; split
  · omega
  · split <;> omega
/-- the second half: the rounds -/
theorem x_surv2 {w : Nat → Nat → Int} (hok : okW' w) (hwb : ∀ a b, w a b ≤ 8000000) {l n : Nat} (hl : l < 2) (hn : n ≤ 6) (d5 d6 : Option PV) (hA : ∀ a b, a < n → b < n → σ 37 (ix l a b) = w a b) : ∃ (ρ : Mem), (∀ Q : PQ, X L 80 77 [some (xR 36), some (xR 1), some (xI (l : Int)), some (xI (n : Int)), some (xI 0), d5, d6] [] σ Q = Q none ρ) ∧ FrW l σ ρ ∧ ∀ a b, a < n → b < n → ρ 37 (ix l a b) = fws w n a b := by
  obtain ⟨⟨ρ, e5, e6⟩, e, hF, hB⟩ := lpE (n := n) (fun k (x : Mem × Option PV × Option PV) Q => X L 80 77 [some (xR 36), some (xR 1), some (xI (l : Int)), some (xI (n : Int)), some (xI (k : Int)), x.2.1, x.2.2] [] x.1 Q) (fun k x => FrW l σ x.1 ∧ ∀ a b, a < n → b < n → x.1 37 (ix l a b) = fws w k a b) (by
    intro k ⟨ρ, d5, d6⟩ hk ⟨hF, hA⟩
    have hF : FrW l σ ρ := hF
    have hA : ∀ a b, a < n → b < n → ρ 37 (ix l a b) = fws w k a b := hA
    obtain ⟨⟨ρ1, e6⟩, e1, hF1, hA1⟩ := lpE (n := n) (fun a (x : Mem × Option PV) Q => X L 80 86 [some (xR 36), some (xR 1), some (xI (l : Int)), some (xI (n : Int)), some (xI (k : Int)), some (xI (a : Int)), x.2] [] x.1 Q) (fun a x => FrW l σ x.1 ∧ ∀ i j, i < n → j < n → x.1 37 (ix l i j) = mix w k a 0 i j) (by
      intro a ⟨ρ, d6⟩ ha ⟨hF, hA⟩
      have hF : FrW l σ ρ := hF
      have hA : ∀ i j, i < n → j < n → ρ 37 (ix l i j) = mix w k a 0 i j := hA
      obtain ⟨ρ1, e1, hF1, hA1⟩ := lpE (n := n) (fun b (x : Mem) Q => X L 80 95 [some (xR 36), some (xR 1), some (xI (l : Int)), some (xI (n : Int)), some (xI (k : Int)), some (xI (a : Int)), some (xI (b : Int))] [] x Q) (fun b x => FrW l σ x ∧ ∀ i j, i < n → j < n → x 37 (ix l i j) = mix w k a b i j) (by
        intro b ρ hb ⟨hF, hA⟩
        obtain ⟨ρ1, e1, hF1, hA1⟩ := x_shorten (L := L) hok hwb hl hn hk ha hb hA
        refine ⟨ρ1, fun Q => ?_, hF.tr hF1, hA1⟩
        show X L 80 95 [some (xR 36), some (xR 1), some (xI (l : Int)), some (xI (n : Int)), some (xI (k : Int)), some (xI (a : Int)), some (xI (b : Int))] [] ρ Q = X L 80 95 [some (xR 36), some (xR 1), some (xI (l : Int)), some (xI (n : Int)), some (xI (k : Int)), some (xI (a : Int)), some (xI ((b + 1 : Nat) : Int))] [] ρ1 Q
        rw [e_80_95]
        simp only [brI, not_true_eq_false, true_implies, false_implies, implies_true, and_true, cTag, cTgt, cLen, true_and, Int.toNat_natCast, retI_I, retR_R, retV_N, retL_L, ne_eq, Int.reduceEq, not_false_eq_true, e1]
        rw [if_neg (by omega), w32_id (by omega) (by omega)]; rfl) (a := ρ) ⟨hF, hA⟩
      refine ⟨(ρ1, some (xI (n : Int))), fun Q => ?_, hF1, ?_⟩
      · show X L 80 86 [some (xR 36), some (xR 1), some (xI (l : Int)), some (xI (n : Int)), some (xI (k : Int)), some (xI (a : Int)), d6] [] ρ Q = X L 80 86 [some (xR 36), some (xR 1), some (xI (l : Int)), some (xI (n : Int)), some (xI (k : Int)), some (xI ((a + 1 : Nat) : Int)), some (xI (n : Int))] [] ρ1 Q
        rw [e_80_86]
        simp only [brI, not_true_eq_false, true_implies, false_implies, implies_true, and_true, cTag, cTgt, cLen, true_and, Int.toNat_natCast, retI_I, retR_R, retV_N, retL_L, ne_eq, Int.reduceEq, not_false_eq_true]
        rw [if_neg (by omega)]
        refine Eq.trans (e1 Q) ?_
        show X L 80 95 [some (xR 36), some (xR 1), some (xI (l : Int)), some (xI (n : Int)), some (xI (k : Int)), some (xI (a : Int)), some (xI (n : Int))] [] ρ1 Q = _
        rw [e_80_95]
        simp only [brI, not_true_eq_false, true_implies, false_implies, implies_true, and_true, cTag, cTgt, cLen, true_and, Int.toNat_natCast, retI_I, retR_R, retV_N, retL_L, ne_eq, Int.reduceEq, not_false_eq_true]
        rw [if_pos (Int.le_refl _), e_80_118, w32_id (by omega) (by omega)]; rfl
      · intro i j hi hj
        show ρ1 37 (ix l i j) = _
        rw [hA1 i j hi hj]
        unfold mix
        by_cases z : i < a ∨ (i = a ∧ j < n)
        · rw [if_pos z, if_pos (by omega)]
        · rw [if_neg z, if_neg (by omega)]) (a := (ρ, d6)) ⟨hF, fun i j hi hj => by
        show ρ 37 (ix l i j) = _
        rw [hA i j hi hj]; unfold mix; rw [if_neg (by omega)]⟩
    refine ⟨(ρ1, some (xI (n : Int)), e6), fun Q => ?_, hF1, ?_⟩
    · show X L 80 77 [some (xR 36), some (xR 1), some (xI (l : Int)), some (xI (n : Int)), some (xI (k : Int)), d5, d6] [] ρ Q = X L 80 77 [some (xR 36), some (xR 1), some (xI (l : Int)), some (xI (n : Int)), some (xI ((k + 1 : Nat) : Int)), some (xI (n : Int)), e6] [] ρ1 Q
      rw [e_80_77]
      simp only [brI, not_true_eq_false, true_implies, false_implies, implies_true, and_true, cTag, cTgt, cLen, true_and, Int.toNat_natCast, retI_I, retR_R, retV_N, retL_L, ne_eq, Int.reduceEq, not_false_eq_true]
      rw [if_neg (by omega)]
      refine Eq.trans (e1 Q) ?_
      show X L 80 86 [some (xR 36), some (xR 1), some (xI (l : Int)), some (xI (n : Int)), some (xI (k : Int)), some (xI (n : Int)), e6] [] ρ1 Q = _
      rw [e_80_86]
      simp only [brI, not_true_eq_false, true_implies, false_implies, implies_true, and_true, cTag, cTgt, cLen, true_and, Int.toNat_natCast, retI_I, retR_R, retV_N, retL_L, ne_eq, Int.reduceEq, not_false_eq_true]
      rw [if_pos (Int.le_refl _), e_80_124, w32_id (by omega) (by omega)]; rfl
    · intro i j hi hj
      show ρ1 37 (ix l i j) = _
      have h := hA1 i j hi hj
      have h : ρ1 37 (ix l i j) = mix w k n 0 i j := h
      rw [h]; unfold mix; rw [if_pos (by omega)]) (a := (σ, d5, d6)) ⟨FrW.rf, hA⟩
  refine ⟨ρ, fun Q => ?_, hF, hB⟩
  refine Eq.trans (e Q) ?_
  show X L 80 77 [some (xR 36), some (xR 1), some (xI (l : Int)), some (xI (n : Int)), some (xI (n : Int)), e5, e6] [] ρ Q = _
  rw [e_80_77]
  simp only [brI, not_true_eq_false, true_implies, false_implies, implies_true, and_true, cTag, cTgt, cLen, true_and, Int.toNat_natCast, retI_I, retR_R, retV_N, retL_L, ne_eq, Int.reduceEq, not_false_eq_true]
  rw [if_pos (Int.le_refl _), e_80_130]
theorem x_survF (hR : RC 1 S σ) (hS : VS B S) {l n : Nat} (hl : l < 2) (hn : (n : Int) = S 0 0) : ∃ ρ, (∀ Q : PQ, X L 80 0 [some (xR 36), some (xR 1), some (xI (l : Int)), none, none, none, none] [] σ Q = Q none ρ) ∧ FrW l σ ρ ∧ ∀ a b, a < n → b < n → ρ 37 (ix l a b) = dw S l a b := by
  have hn6 := hS.1
  obtain ⟨ρ, d5, d6, e, hF, hA⟩ := x_surv1 (L := L) hR hS hl hn
  obtain ⟨ρ1, e1, hF1, hA1⟩ := x_surv2 (L := L) (w1_ok hS l) (w1_8 hS l) hl (show n ≤ 6 by omega) d5 d6 hA
  refine ⟨ρ1, fun Q => ?_, hF.tr hF1, fun a b ha hb => by rw [hA1 a b ha hb]; exact fw_dw hS l hn⟩
  rw [e_80_0]
  simp only [brI, not_true_eq_false, true_implies, false_implies, implies_true, and_true, cTag, cTgt, cLen, true_and, Int.toNat_natCast, retI_I, retR_R, retV_N, retL_L, ne_eq, Int.reduceEq, not_false_eq_true, hR.1 0 (by omega), ← hn, e]
  rw [e_80_8]
  simp only [brI, not_true_eq_false, true_implies, false_implies, implies_true, and_true, cTag, cTgt, cLen, true_and, Int.toNat_natCast, retI_I, retR_R, retV_N, retL_L, ne_eq, Int.reduceEq, not_false_eq_true]
  rw [if_pos (Int.le_refl _), e_80_74]
  exact e1 Q
theorem x_survey (hR : RC 1 S σ) (hS : VS B S) {n : Nat} (hn : (n : Int) = S 0 0) : ∃ ρ, (∀ Q : PQ, X L 79 0 [some (xR 36), some (xR 1)] [] σ Q = Q none ρ) ∧ (∀ o, o ≠ 37 → ρ o = σ o) ∧ ∀ l a b : Nat, l < 2 → a < n → b < n → ρ 37 (ix l a b) = dw S l a b := by
  have hn6 := hS.1
  obtain ⟨ρ0, e0, hF0, hA0⟩ := x_survF (L := L) hR hS (l := 0) (by omega) hn
  have hR0 : RC 1 S ρ0 := RC_eq (fun o ho => hF0.1 o (by omega)) hR
  obtain ⟨ρ1, e1, hF1, hA1⟩ := x_survF (L := L) hR0 hS (l := 1) (by omega) hn
  have e0 : ∀ Q : PQ, X L 80 0 [some (xR 36), some (xR 1), some (xI 0), none, none, none, none] [] σ Q = Q none ρ0 := e0
  have e1 : ∀ Q : PQ, X L 80 0 [some (xR 36), some (xR 1), some (xI 1), none, none, none, none] [] ρ0 Q = Q none ρ1 := e1
  refine ⟨ρ1, fun Q => ?_, fun o ho => by rw [hF1.1 o ho, hF0.1 o ho], ?_⟩
  · rw [e_79_0]
    simp only [brI, not_true_eq_false, true_implies, false_implies, implies_true, and_true, cTag, cTgt, cLen, true_and, Int.toNat_natCast, retI_I, retR_R, retV_N, retL_L, ne_eq, Int.reduceEq, not_false_eq_true, e0, e1]
  · intro l a b hl ha hb
    rcases (show l = 0 ∨ l = 1 by omega) with rfl | rfl
    · rw [hF1.2 _ (by show 36 * 0 + (6 * a + b) < 36 * 1 ∨ _; omega)]; exact hA0 a b ha hb
    · exact hA1 a b ha hb
end Survey
