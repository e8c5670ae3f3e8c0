/-! the Model's WAY -/
section MWay
variable {B : Int} {S σ τ : Mem} {L v : Nat} {T : Ful}
def FrL (σ ρ : Mem) : Prop := ∀ o, o ≠ 99 → ρ o = σ o
abbrev wA (a1 a2 a3 a4 : Int) (r : LSt) : LSt := some (xR 75) :: some (xI a1) :: some (xI a2) :: some (xI a3) :: some (xI a4) :: r
/-- the first row -/
theorem x_left0 {t : Nat} (S : Mem) (l a1 a3 a4 : Int) (d6 d7 d8 d9 d10 : Option PV) : ∃ ρ, (∀ Q : PQ, X L 179 32 (wA a1 (t : Int) a3 a4 [some (xI 0), d6, d7, d8, d9, d10]) [] σ Q = X L 179 32 (wA a1 (t : Int) a3 a4 [some (xI 6), d6, d7, d8, d9, d10]) [] ρ Q) ∧ FrL σ ρ ∧ ∀ u, u < 6 → ρ 99 u = lf S l t 0 u := by
  obtain ⟨ρ, e, hF, hA⟩ := lpE (n := 6) (fun u (x : Mem) Q => X L 179 32 (wA a1 (t : Int) a3 a4 [some (xI (u : Int)), d6, d7, d8, d9, d10]) [] x Q) (fun u x => FrL σ x ∧ ∀ j, j < u → x 99 j = lf S l t 0 j) (by
    intro u ρ hu ⟨hF, hA⟩
    refine ⟨up ρ 99 u (lf S l t 0 u), fun Q => ?_, ?_, ?_⟩
    · show X L 179 32 (wA a1 (t : Int) a3 a4 [some (xI (u : Int)), d6, d7, d8, d9, d10]) [] ρ Q = X L 179 32 (wA a1 (t : Int) a3 a4 [some (xI ((u + 1 : Nat) : Int)), d6, d7, d8, d9, d10]) [] (up ρ 99 u (lf S l t 0 u)) Q
      have e57 : ∀ x : Int, X L 179 57 (wA a1 (t : Int) a3 a4 [some (xI (u : Int)), d6, d7, d8, d9, d10]) [xI x, xI (u : Int), xR 99] ρ Q = X L 179 32 (wA a1 (t : Int) a3 a4 [some (xI ((u + 1 : Nat) : Int)), d6, d7, d8, d9, d10]) [] (up ρ 99 u x) Q := by
        intro x
        rw [e_179_57]
        simp only [brI, not_true_eq_false, true_implies, false_implies, implies_true, and_true, cTag, cTgt, cLen, true_and, Int.toNat_natCast, retI_I, retR_R, retV_N, retL_L, ne_eq, Int.reduceEq, not_false_eq_true]
        simp (disch := omega) only [w32_id, inb, true_and]
        rfl
      rw [e_179_32]
      simp only [brI, not_true_eq_false, true_implies, false_implies, implies_true, and_true, cTag, cTgt, cLen, true_and, Int.toNat_natCast, retI_I, retR_R, retV_N, retL_L, ne_eq, Int.reduceEq, not_false_eq_true, e_179_55, e57]
      rw [if_neg (by omega)]
      simp only [lf]
      by_cases c : u = t
      · rw [if_neg (fun q => q (by omega)), if_pos c]
      · rw [if_pos (by omega), if_neg c]
    · intro o ho; rw [← hF o ho]; funext j; simp only [up_rd]; rw [if_neg (by omega)]
    · intro j hj
      simp only [up_rd, true_and]
      by_cases c : j = u
      · rw [if_pos c, c]
      · rw [if_neg c]; exact hA j (by omega)) (a := σ) ⟨fun _ _ => rfl, fun j hj => by omega⟩
  exact ⟨ρ, e, hF, hA⟩
/-- the other rows -/
theorem x_leftK (hm : ∀ j, j < 36 → σ 76 j = S 1 j) (hr : ∀ j, j < 36 → σ 77 j = S 2 j) (hS : VS B S) {l t : Nat} (hl : l < 2) (a1 a2 a3 : Int) (d6 d7 d8 d9 d10 : Option PV) (hA0 : ∀ u, u < 6 → σ 99 u = lf S l t 0 u) : ∃ (ρ : Mem) (c6 c7 c8 c9 c10 : Option PV), (∀ Q : PQ, X L 179 67 (wA a1 a2 a3 (l : Int) [some (xI 1), d6, d7, d8, d9, d10]) [] σ Q = X L 179 67 (wA a1 a2 a3 (l : Int) [some (xI 6), c6, c7, c8, c9, c10]) [] ρ Q) ∧ FrL σ ρ ∧ ∀ k u, k < 6 → u < 6 → ρ 99 (6 * k + u) = lf S l t k u := by
  obtain ⟨⟨ρ, c6, c7, c8, c9, c10⟩, e, hF, hA⟩ := lpE (n := 5) (fun k (x : Mem × Option PV × Option PV × Option PV × Option PV × Option PV) Q => X L 179 67 (wA a1 a2 a3 (l : Int) [some (xI ((k + 1 : Nat) : Int)), x.2.1, x.2.2.1, x.2.2.2.1, x.2.2.2.2.1, x.2.2.2.2.2]) [] x.1 Q) (fun k x => FrL σ x.1 ∧ ∀ j u, j ≤ k → u < 6 → x.1 99 (6 * j + u) = lf S l t j u) (by
    intro k ⟨ρ, d6, d7, d8, d9, d10⟩ hk ⟨hF, hA⟩
    have hF : FrL σ ρ := hF
    have hA : ∀ j u, j ≤ k → u < 6 → ρ 99 (6 * j + u) = lf S l t j u := hA
    obtain ⟨⟨ρ1, f7, f8, f9, f10⟩, e1, hF1, hA1, hB1⟩ := lpE (n := 6) (fun u (x : Mem × Option PV × Option PV × Option PV × Option PV) Q => X L 179 77 (wA a1 a2 a3 (l : Int) [some (xI ((k + 1 : Nat) : Int)), some (xI (u : Int)), x.2.1, x.2.2.1, x.2.2.2.1, x.2.2.2.2]) [] x.1 Q) (fun u x => FrL σ x.1 ∧ (∀ j u, j ≤ k → u < 6 → x.1 99 (6 * j + u) = lf S l t j u) ∧ ∀ j, j < u → x.1 99 (6 * (k + 1) + j) = lf S l t (k + 1) j) (by
      intro u ⟨ρ, d7, d8, d9, d10⟩ hu ⟨hF, hA, hB⟩
      have hF : FrL σ ρ := hF
      have hA : ∀ j u, j ≤ k → u < 6 → ρ 99 (6 * j + u) = lf S l t j u := hA
      have hB : ∀ j, j < u → ρ 99 (6 * (k + 1) + j) = lf S l t (k + 1) j := hB
      have hm' : ∀ j, j < 36 → ρ 76 j = S 1 j := fun j hj => by rw [hF 76 (by omega)]; exact hm j hj
      have hr' : ∀ j, j < 36 → ρ 77 j = S 2 j := fun j hj => by rw [hF 77 (by omega)]; exact hr j hj
      -- the least over the towns v
      obtain ⟨⟨g9, g10⟩, e2, -⟩ := lpE (n := 6) (fun v (x : Option PV × Option PV) Q => X L 179 91 (wA a1 a2 a3 (l : Int) [some (xI ((k + 1 : Nat) : Int)), some (xI (u : Int)), some (xI (mni 1000000 (fun v => if opn S l u v ∧ lf S l t k v < 1000000 then lf S l t k v + mil S u v else 1000000) v)), some (xI (v : Int)), x.1, x.2]) [] ρ Q) (fun _ _ => True) (by
        intro v ⟨d9, d10⟩ hv _
        have mw := fun Q => x_mayWalkM (L := L) (σ := ρ) (l := (l : Int)) hS hm' hr' hu hv (by omega) none Q
        have hb := lf_b hS l t k v
        have hmb := mil_b hS u v
        have v99 : ρ 99 (6 * k + v) = lf S l t k v := hA k v (Nat.le_refl _) hv
        have v76 : ρ 76 (6 * u + v) = mil S u v := by rw [mil_at hu hv]; exact hm' _ (by omega)
        obtain ⟨own, hown⟩ : ∃ own, (if opn S l u v ∧ lf S l t k v < 1000000 then lf S l t k v + mil S u v else 1000000) = own := ⟨_, rfl⟩
        refine ⟨(some (xI (bI (opn S l u v ∧ lf S l t k v < 1000000))), some (xI own)), fun Q => ?_, trivial⟩
        obtain ⟨le, hle⟩ : ∃ le, mni 1000000 (fun v => if opn S l u v ∧ lf S l t k v < 1000000 then lf S l t k v + mil S u v else 1000000) v = le := ⟨_, rfl⟩
        have hst : mni 1000000 (fun v => if opn S l u v ∧ lf S l t k v < 1000000 then lf S l t k v + mil S u v else 1000000) (v + 1) = if own < le then own else le := by
          rw [← hown, ← hle]; rfl
        show X L 179 91 (wA a1 a2 a3 (l : Int) [some (xI ((k + 1 : Nat) : Int)), some (xI (u : Int)), some (xI (mni 1000000 (fun v => if opn S l u v ∧ lf S l t k v < 1000000 then lf S l t k v + mil S u v else 1000000) v)), some (xI (v : Int)), d9, d10]) [] ρ Q = X L 179 91 (wA a1 a2 a3 (l : Int) [some (xI ((k + 1 : Nat) : Int)), some (xI (u : Int)), some (xI (mni 1000000 (fun v => if opn S l u v ∧ lf S l t k v < 1000000 then lf S l t k v + mil S u v else 1000000) (v + 1))), some (xI ((v + 1 : Nat) : Int)), some (xI (bI (opn S l u v ∧ lf S l t k v < 1000000))), some (xI own)]) [] ρ Q
        rw [hst, hle]
        have e179 : ∀ b : Int, X L 179 179 (wA a1 a2 a3 (l : Int) [some (xI ((k + 1 : Nat) : Int)), some (xI (u : Int)), some (xI le), some (xI (v : Int)), some (xI b), d10]) [xI own] ρ Q = X L 179 91 (wA a1 a2 a3 (l : Int) [some (xI ((k + 1 : Nat) : Int)), some (xI (u : Int)), some (xI (if own < le then own else le)), some (xI ((v + 1 : Nat) : Int)), some (xI b), some (xI own)]) [] ρ Q := by
          intro b
          rw [e_179_179]
          simp only [brI, not_true_eq_false, true_implies, false_implies, implies_true, and_true, cTag, cTgt, cLen, true_and, Int.toNat_natCast, retI_I, retR_R, retV_N, retL_L, ne_eq, Int.reduceEq, not_false_eq_true, e_179_193, e_179_195, w32_id (x := (v : Int) + 1) (by omega) (by omega)]
          by_cases c : le ≤ own
          · rw [if_pos c, if_neg (by omega)]; rfl
          · rw [if_neg c, if_pos (by omega)]; rfl
        have i1 : w32 (w32 (w32 (6 * ((k + 1 : Nat) : Int)) - 6) + (v : Int)) = ((6 * k + v : Nat) : Int) := by
          simp (disch := omega) only [w32_id]; omega
        have i2 : w32 (w32 (6 * (u : Int)) + (v : Int)) = ((6 * u + v : Nat) : Int) := by
          simp (disch := omega) only [w32_id]; omega
        rw [e_179_91]
        simp only [brI, not_true_eq_false, true_implies, false_implies, implies_true, and_true, cTag, cTgt, cLen, true_and, Int.toNat_natCast, retI_I, retR_R, retV_N, retL_L, ne_eq, Int.reduceEq, not_false_eq_true, mw, i1, v99, bI_0, show (0 ≤ ((6 * k + v : Nat) : Int) ∧ ((6 * k + v : Nat) : Int) < 36) by omega, e_179_136]
        rw [if_neg (by omega)]
        have h137 : ∀ b : Int, b = bI (opn S l u v ∧ lf S l t k v < 1000000) → X L 179 137 (wA a1 a2 a3 (l : Int) [some (xI ((k + 1 : Nat) : Int)), some (xI (u : Int)), some (xI le), some (xI (v : Int)), d9, d10]) [xI b] ρ Q = X L 179 91 (wA a1 a2 a3 (l : Int) [some (xI ((k + 1 : Nat) : Int)), some (xI (u : Int)), some (xI (if own < le then own else le)), some (xI ((v + 1 : Nat) : Int)), some (xI b), some (xI own)]) [] ρ Q := by
          intro b hb'
          rw [e_179_137]
          simp only [brI, not_true_eq_false, true_implies, false_implies, implies_true, and_true, cTag, cTgt, cLen, true_and, Int.toNat_natCast, retI_I, retR_R, retV_N, retL_L, ne_eq, Int.reduceEq, not_false_eq_true, i1, i2, v99, v76, show (0 ≤ ((6 * k + v : Nat) : Int) ∧ ((6 * k + v : Nat) : Int) < 36) by omega, show (0 ≤ ((6 * u + v : Nat) : Int) ∧ ((6 * u + v : Nat) : Int) < 36) by omega, e_179_177]
          by_cases c : opn S l u v ∧ lf S l t k v < 1000000
          · have c2 := hb.2 c.2
            rw [if_pos c] at hown
            have b1 : ¬ b = 0 := by rw [hb', bI_t c]; decide
            clear c
            rw [if_neg b1, w32_id (by omega) (by omega), hown]
            exact e179 b
          · rw [if_neg c] at hown
            have b0 : b = 0 := by rw [hb', bI_f c]
            rw [if_pos b0, hown]
            exact e179 b
        by_cases co : opn S l u v
        · rw [if_neg (fun q => q co)]
          by_cases c2 : 1000000 ≤ lf S l t k v
          · rw [if_pos c2]
            have : bI (opn S l u v ∧ lf S l t k v < 1000000) = 0 := bI_f (fun q => by have := q.2; clear co q; omega)
            rw [this]; exact h137 0 this.symm
          · rw [if_neg c2]
            have : bI (opn S l u v ∧ lf S l t k v < 1000000) = 1 := bI_t ⟨co, by clear co; omega⟩
            rw [this]; exact h137 1 this.symm
        · rw [if_pos co]
          have : bI (opn S l u v ∧ lf S l t k v < 1000000) = 0 := bI_f (fun q => co q.1)
          rw [this]; exact h137 0 this.symm) (a := (d9, d10)) trivial
      refine ⟨(up ρ 99 (6 * (k + 1) + u) (lf S l t (k + 1) u), some (xI (lf S l t (k + 1) u)), some (xI 6), g9, g10), fun Q => ?_, ?_, ?_, ?_⟩
      · show X L 179 77 (wA a1 a2 a3 (l : Int) [some (xI ((k + 1 : Nat) : Int)), some (xI (u : Int)), d7, d8, d9, d10]) [] ρ Q = X L 179 77 (wA a1 a2 a3 (l : Int) [some (xI ((k + 1 : Nat) : Int)), some (xI ((u + 1 : Nat) : Int)), some (xI (lf S l t (k + 1) u)), some (xI 6), g9, g10]) [] (up ρ 99 (6 * (k + 1) + u) (lf S l t (k + 1) u)) Q
        rw [e_179_77]
        simp only [brI, not_true_eq_false, true_implies, false_implies, implies_true, and_true, cTag, cTgt, cLen, true_and, Int.toNat_natCast, retI_I, retR_R, retV_N, retL_L, ne_eq, Int.reduceEq, not_false_eq_true]
        rw [if_neg (by omega)]
        refine Eq.trans (e2 Q) ?_
        show X L 179 91 (wA a1 a2 a3 (l : Int) [some (xI ((k + 1 : Nat) : Int)), some (xI (u : Int)), some (xI (lf S l t (k + 1) u)), some (xI 6), g9, g10]) [] ρ Q = _
        rw [e_179_91]
        simp only [brI, Int.le_refl, if_true]
        rw [e_179_203]
        have i3 : w32 (w32 (6 * ((k + 1 : Nat) : Int)) + (u : Int)) = ((6 * (k + 1) + u : Nat) : Int) := by
          simp (disch := omega) only [w32_id]; omega
        simp only [brI, not_true_eq_false, true_implies, false_implies, implies_true, and_true, cTag, cTgt, cLen, true_and, Int.toNat_natCast, retI_I, retR_R, retV_N, retL_L, ne_eq, Int.reduceEq, not_false_eq_true, i3, show (0 ≤ ((6 * (k + 1) + u : Nat) : Int) ∧ ((6 * (k + 1) + u : Nat) : Int) < 36) by omega]
        rw [w32_id (by omega) (by omega)]; rfl
      · intro o ho; show up ρ 99 (6 * (k + 1) + u) (lf S l t (k + 1) u) o = _; rw [← hF o ho]; funext j; simp only [up_rd]; rw [if_neg (by omega)]
      · intro j w hj hw
        show up ρ 99 (6 * (k + 1) + u) (lf S l t (k + 1) u) 99 (6 * j + w) = _
        simp only [up_rd]; rw [if_neg (by omega)]; exact hA j w hj hw
      · intro j hj
        show up ρ 99 (6 * (k + 1) + u) (lf S l t (k + 1) u) 99 (6 * (k + 1) + j) = _
        simp only [up_rd, true_and]
        by_cases c : j = u
        · rw [if_pos (by omega), c]
        · rw [if_neg (by omega)]; exact hB j (by omega)) (a := (ρ, d7, d8, d9, d10)) ⟨hF, hA, fun j hj => by omega⟩
    have hA1 : ∀ j u, j ≤ k → u < 6 → ρ1 99 (6 * j + u) = lf S l t j u := hA1
    have hB1 : ∀ j, j < 6 → ρ1 99 (6 * (k + 1) + j) = lf S l t (k + 1) j := hB1
    refine ⟨(ρ1, some (xI 6), f7, f8, f9, f10), fun Q => ?_, hF1, ?_⟩
    · show X L 179 67 (wA a1 a2 a3 (l : Int) [some (xI ((k + 1 : Nat) : Int)), d6, d7, d8, d9, d10]) [] ρ Q = X L 179 67 (wA a1 a2 a3 (l : Int) [some (xI ((k + 1 + 1 : Nat) : Int)), some (xI 6), f7, f8, f9, f10]) [] ρ1 Q
      rw [e_179_67]
      simp only [brI, not_true_eq_false, true_implies, false_implies, implies_true, and_true, cTag, cTgt, cLen, true_and, Int.toNat_natCast, retI_I, retR_R, retV_N, retL_L, ne_eq, Int.reduceEq, not_false_eq_true]
      rw [if_neg (by omega)]
      refine Eq.trans (e1 Q) ?_
      show X L 179 77 (wA a1 a2 a3 (l : Int) [some (xI ((k + 1 : Nat) : Int)), some (xI 6), f7, f8, f9, f10]) [] ρ1 Q = _
      rw [e_179_77]
      simp only [brI, Int.le_refl, if_true]
      rw [e_179_224, w32_id (by omega) (by omega)]; rfl
    · intro j u hj hu
      show ρ1 99 (6 * j + u) = _
      by_cases c : j = k + 1
      · rw [c]; exact hB1 u hu
      · exact hA1 j u (by omega) hu) (a := (σ, d6, d7, d8, d9, d10)) ⟨fun _ _ => rfl, fun j u hj hu => by
      have : j = 0 := by omega
      subst this
      show σ 99 (6 * 0 + u) = _
      rw [show 6 * 0 + u = u by omega]; exact hA0 u hu⟩
  have hA : ∀ j u, j ≤ 5 → u < 6 → ρ 99 (6 * j + u) = lf S l t j u := hA
  exact ⟨ρ, c6, c7, c8, c9, c10, e, hF, fun k u hk hu => hA k u (by omega) hu⟩
/-- the least number of roads with the fewest miles -/
def ro (f : Nat → Int) : Nat → Nat
  | 0 => 0
  | j + 1 => if f (j + 1) < f (ro f j) then j + 1 else ro f j
theorem ro_sp (f : Nat → Int) : ∀ j : Nat, ro f j ≤ j ∧ ∀ i, i ≤ j → f (ro f j) ≤ f i ∧ (f i = f (ro f j) → ro f j ≤ i) := by
  intro j
  induction j with
  | zero =>
    refine ⟨Nat.le_refl _, fun i hi => ?_⟩
    have h0 : i = 0 := by omega
    subst h0
    exact ⟨Int.le_refl _, fun _ => Nat.le_refl _⟩
  | succ j ih =>
    obtain ⟨h1, h2⟩ := ih
    simp only [ro]
    by_cases c : f (j + 1) < f (ro f j)
    · rw [if_pos c]
      refine ⟨Nat.le_refl _, fun i hi => ?_⟩
      by_cases e : i = j + 1
      · subst e; exact ⟨Int.le_refl _, fun _ => Nat.le_refl _⟩
      · have := h2 i (by omega)
        exact ⟨by omega, fun q => by omega⟩
    · rw [if_neg c]
      refine ⟨by omega, fun i hi => ?_⟩
      by_cases e : i = j + 1
      · subst e; exact ⟨by omega, fun q => by omega⟩
      · exact h2 i (by omega)
theorem ro_k (hS : VS B S) {l : Int} {t a : Nat} (h : dd S l a t < 1000000) : ro (fun k => lf S l t k a) 5 = (dw S l a t % 8).toNat ∧ lf S l t (ro (fun k => lf S l t k a) 5) a = dd S l a t := by
  obtain ⟨r1, r2⟩ := ro_sp (fun k => lf S l t k a) 5
  obtain ⟨w1', w2', w3'⟩ := onW_ex hS h
  generalize hk : (dw S l a t % 8).toNat = k at *
  have g1 := (r2 k w1').1
  have g2 := (r2 k w1').2
  have g1 : lf S l t (ro (fun k => lf S l t k a) 5) a ≤ lf S l t k a := g1
  have g2 : lf S l t k a = lf S l t (ro (fun k => lf S l t k a) 5) a → ro (fun k => lf S l t k a) 5 ≤ k := g2
  have g3 := dw_le (S := S) (l := l) (a := a) (t := t) r1 (by omega)
  have hd := dw_dd hS l a t
  have hb := (lf_b hS l t k a).1
  have e : lf S l t k a = lf S l t (ro (fun k => lf S l t k a) 5) a := by omega
  have := g2 e
  omega
theorem ro_far (hS : VS B S) {l : Int} {t a : Nat} (h : ¬ dd S l a t < 1000000) : lf S l t (ro (fun k => lf S l t k a) 5) a = 1000000 := by
  have r1 := (ro_sp (fun k => lf S l t k a) 5).1
  have := dd_le (S := S) (l := l) (a := a) (t := t) r1
  have := lf_le S l t (ro (fun k => lf S l t k a) 5) a
  have := dd_b hS l a t
  omega
theorem x_walkW (hm : ∀ j, j < 36 → σ 76 j = S 1 j) (hr : ∀ j, j < 36 → σ 77 j = S 2 j) (hS : VS B S) {l t k a : Nat} (hl : l < 2) (ha : a < 6) (hw : onW S l t k a) (h99 : ∀ k u, k < 6 → u < 6 → σ 99 (6 * k + u) = lf S l t k u) {i : Nat} (hi : i ≤ k) (a1 a2 a5 a7 : Int) (d10 : Option PV) (Q : PQ) : X L 179 358 (wA a1 a2 (i : Int) (l : Int) [some (xI a5), some (xI (k : Int)), some (xI a7), some (xI (a : Int)), some (xI (k : Int)), d10]) [] σ Q = Q (some (xI (pth S l t k a i : Int))) σ := by
  have hk5 := hw.1
  have lp : ∀ (m j : Nat) (d10 : Option PV), j + m = i → X L 179 358 (wA a1 a2 (i : Int) (l : Int) [some (xI a5), some (xI (k : Int)), some (xI a7), some (xI (pth S l t k a j : Int)), some (xI ((k - j : Nat) : Int)), d10]) [] σ Q = Q (some (xI (pth S l t k a i : Int))) σ := by
    intro m
    induction m with
    | zero =>
      intro j d10 hj
      have : j = i := by omega
      subst this
      rw [e_179_358]
      simp only [brI, not_true_eq_false, true_implies, false_implies, implies_true, and_true, cTag, cTgt, cLen, true_and, Int.toNat_natCast, retI_I, retR_R, retV_N, retL_L, ne_eq, Int.reduceEq, not_false_eq_true]
      rw [w32_id (by omega) (by omega), if_pos (by omega), e_179_466]
    | succ m ih =>
      intro j d10 hj
      have ho := onW_pth hS hw j (by omega)
      obtain ⟨s1, s2, s3⟩ := nxt_sp S l (t := t) (k := k - j) (a := pth S l t k a j) (by omega) ho.2.1
      have hp6 : pth S l t k a j < 6 := by
        cases j with
        | zero => exact ha
        | succ j =>
          have ho := onW_pth hS hw j (by omega)
          exact (nxt_sp S l (t := t) (k := k - j) (a := pth S l t k a j) (by omega) ho.2.1).2.2
      have e1 : pth S l t k a (j + 1) = nxt S l t (k - j) (pth S l t k a j) := rfl
      generalize pth S l t k a j = x at *
      have srch : ∀ (q v : Nat), v + q = nxt S l t (k - j) x → X L 179 370 (wA a1 a2 (i : Int) (l : Int) [some (xI a5), some (xI (k : Int)), some (xI a7), some (xI (x : Int)), some (xI ((k - j : Nat) : Int)), some (xI (v : Int))]) [] σ Q = X L 179 456 (wA a1 a2 (i : Int) (l : Int) [some (xI a5), some (xI (k : Int)), some (xI a7), some (xI (x : Int)), some (xI ((k - j : Nat) : Int)), some (xI (nxt S l t (k - j) x : Int))]) [] σ Q := by
        intro q
        induction q with
        | zero =>
          intro v hv
          have hv6 : v < 6 := by omega
          have s1' : nxC S l t (k - j) x v := by rw [show v = nxt S l t (k - j) x by omega]; exact s1
          rw [show nxt S l t (k - j) x = v by omega]
          have mw := fun Q => x_mayWalkM (L := L) (σ := σ) (l := (l : Int)) hS hm hr hp6 hv6 (by omega) none Q
          obtain ⟨p1, p2, p3⟩ := s1'
          have hb := lf_b hS l t (k - j - 1) v
          have hmb := mil_b hS x v
          have v1 : σ 99 (6 * (k - j - 1) + v) = lf S l t (k - j - 1) v := h99 _ _ (by omega) hv6
          have v2 : σ 99 (6 * (k - j) + x) = lf S l t (k - j) x := h99 _ _ (by omega) hp6
          have v3 : σ 76 (6 * x + v) = mil S x v := by rw [mil_at hp6 hv6]; exact hm _ (by omega)
          have hb2 := hb.2 p2
          have i1 : w32 (w32 (w32 (6 * ((k - j : Nat) : Int)) - 6) + (v : Int)) = ((6 * (k - j - 1) + v : Nat) : Int) := by
            simp (disch := omega) only [w32_id]; omega
          have i2 : w32 (w32 (6 * (x : Int)) + (v : Int)) = ((6 * x + v : Nat) : Int) := by
            simp (disch := omega) only [w32_id]; omega
          have i3 : w32 (w32 (6 * ((k - j : Nat) : Int)) + (x : Int)) = ((6 * (k - j) + x : Nat) : Int) := by
            simp (disch := omega) only [w32_id]; omega
          rw [e_179_370]
          simp only [brI, not_true_eq_false, true_implies, false_implies, implies_true, and_true, cTag, cTgt, cLen, true_and, Int.toNat_natCast, retI_I, retR_R, retV_N, retL_L, ne_eq, Int.reduceEq, not_false_eq_true, mw, bI_0, i1, i2, i3, v1, v2, v3, show (0 ≤ ((6 * (k - j - 1) + v : Nat) : Int) ∧ ((6 * (k - j - 1) + v : Nat) : Int) < 36) by clear p1; omega, show (0 ≤ ((6 * x + v : Nat) : Int) ∧ ((6 * x + v : Nat) : Int) < 36) by clear p1; omega, show (0 ≤ ((6 * (k - j) + x : Nat) : Int) ∧ ((6 * (k - j) + x : Nat) : Int) < 36) by clear p1; omega]
          rw [if_neg (fun q => q p1)]
          clear p1 s1
          rw [if_neg (by omega), w32_id (by omega) (by omega), if_pos p3]
        | succ q ihq =>
          intro v hv
          have hv6 : v < 6 := by omega
          have hno := s2 v (by omega)
          have mw := fun Q => x_mayWalkM (L := L) (σ := σ) (l := (l : Int)) hS hm hr hp6 hv6 (by omega) none Q
          have hb := lf_b hS l t (k - j - 1) v
          have hbl := lf_le S l t (k - j - 1) v
          have hmb := mil_b hS x v
          have v1 : σ 99 (6 * (k - j - 1) + v) = lf S l t (k - j - 1) v := h99 _ _ (by omega) hv6
          have v2 : σ 99 (6 * (k - j) + x) = lf S l t (k - j) x := h99 _ _ (by omega) hp6
          have v3 : σ 76 (6 * x + v) = mil S x v := by rw [mil_at hp6 hv6]; exact hm _ (by omega)
          have i1 : w32 (w32 (w32 (6 * ((k - j : Nat) : Int)) - 6) + (v : Int)) = ((6 * (k - j - 1) + v : Nat) : Int) := by
            simp (disch := omega) only [w32_id]; omega
          have i2 : w32 (w32 (6 * (x : Int)) + (v : Int)) = ((6 * x + v : Nat) : Int) := by
            simp (disch := omega) only [w32_id]; omega
          have i3 : w32 (w32 (6 * ((k - j : Nat) : Int)) + (x : Int)) = ((6 * (k - j) + x : Nat) : Int) := by
            simp (disch := omega) only [w32_id]; omega
          have r1 : (0 ≤ ((6 * (k - j - 1) + v : Nat) : Int) ∧ ((6 * (k - j - 1) + v : Nat) : Int) < 36) := by omega
          have r2 : (0 ≤ ((6 * x + v : Nat) : Int) ∧ ((6 * x + v : Nat) : Int) < 36) := by omega
          have r3 : (0 ≤ ((6 * (k - j) + x : Nat) : Int) ∧ ((6 * (k - j) + x : Nat) : Int) < 36) := by omega
          have nx : X L 179 450 (wA a1 a2 (i : Int) (l : Int) [some (xI a5), some (xI (k : Int)), some (xI a7), some (xI (x : Int)), some (xI ((k - j : Nat) : Int)), some (xI (v : Int))]) [] σ Q = X L 179 456 (wA a1 a2 (i : Int) (l : Int) [some (xI a5), some (xI (k : Int)), some (xI a7), some (xI (x : Int)), some (xI ((k - j : Nat) : Int)), some (xI (nxt S l t (k - j) x : Int))]) [] σ Q := by
            rw [e_179_450, w32_id (by omega) (by omega)]
            exact ihq (v + 1) (by omega)
          rw [e_179_370]
          simp only [brI, not_true_eq_false, true_implies, false_implies, implies_true, and_true, cTag, cTgt, cLen, true_and, Int.toNat_natCast, retI_I, retR_R, retV_N, retL_L, ne_eq, Int.reduceEq, not_false_eq_true, mw, bI_0, i1, i2, i3, v1, v2, v3, r1, r2, r3]
          by_cases co : opn S l x v
          · rw [if_neg (fun q => q co)]
            by_cases c2 : lf S l t (k - j - 1) v = 1000000
            · rw [if_pos c2]; exact nx
            · have c3 : lf S l t (k - j - 1) v < 1000000 := by clear co hno s1; omega
              have c4 := hb.2 c3
              rw [if_neg c2, w32_id (by clear co hno s1; omega) (by clear co hno s1; omega), if_neg (fun q => hno ⟨co, c3, q⟩)]
              exact nx
          · rw [if_pos co]; exact nx
      rw [e_179_358]
      simp only [brI, not_true_eq_false, true_implies, false_implies, implies_true, and_true, cTag, cTgt, cLen, true_and, Int.toNat_natCast, retI_I, retR_R, retV_N, retL_L, ne_eq, Int.reduceEq, not_false_eq_true]
      rw [w32_id (by clear s1; omega) (by clear s1; omega), if_neg (by clear s1; omega)]
      refine Eq.trans (srch (nxt S l t (k - j) x) 0 (by clear s1; omega)) ?_
      rw [e_179_456, w32_id (by clear s1; omega) (by clear s1; omega), ← e1, show ((k - j : Nat) : Int) + -1 = ((k - (j + 1) : Nat) : Int) by clear s1; omega]
      exact ih (j + 1) _ (by clear s1; omega)
  exact lp i 0 d10 (by omega)
theorem m_way (hI : IM T σ) (hV : IV B T) (hB : B ≤ 1000000) (p t i : Int) : MO σ (X L 179 0 [some (xR 75), some (xI p), some (xI t), some (xI i), none, none, none, none, none, none, none] [] σ) (a_way T p t i) T := by
  have hn := hV.1.1
  have hw6 : 2 ≤ σ 75 0 ∧ σ 75 0 ≤ 6 := by rw [hI.tw]; exact hn
  unfold a_way
  by_cases c : ¬ thr (T 0) p = 0 ∧ isT T t
  · obtain ⟨c1, c2⟩ := id c
    rw [if_pos c]
    obtain ⟨q, hq, rfl, h1⟩ := thr_in (B := B) c1
    have hone := h1 hV.1
    obtain ⟨t, rfl⟩ : ∃ a : Nat, t = (a : Int) := ⟨t.toNat, by omega⟩
    simp only [Int.toNat_natCast]
    obtain ⟨a1, a2, a3, a4, a5, a6, a7, a8, a9, a10, a11, a12⟩ := hV.1.p hq
    obtain ⟨a, hae⟩ : ∃ a : Nat, T 0 (8 + q) 2 = (a : Int) := ⟨(T 0 (8 + q) 2).toNat, by omega⟩
    have ha6 : a < 6 := by omega
    obtain ⟨τ, e, hM, hF⟩ := x_asNow (L := L) hI.1
    obtain ⟨l, hle⟩ : ∃ l : Nat, lmI (T 0) q = (l : Int) := ⟨(lmI (T 0) q).toNat, by show bI _ = _; unfold lmI bI; split <;> rfl⟩
    have hl2 : l < 2 := by
      have : lmI (T 0) q = 0 ∨ lmI (T 0) q = 1 := by unfold lmI bI; split <;> simp
      omega
    have hpl : τ 92 q = (a : Int) := (hM.pp q hq hone).pl.trans hae
    rw [hae, Int.toNat_natCast, hle]
    obtain ⟨ρ0, e0, hF0, hA0⟩ := x_left0 (L := L) (σ := τ) (t := t) (T 0) (l : Int) (q : Int) i (l : Int) none none none none none
    obtain ⟨ρ, c6, c7, c8, c9, c10, eK, hFK, h99⟩ := x_leftK (L := L) (σ := ρ0) (S := T 0) (fun j hj => by rw [hF0 76 (by omega)]; exact hM.mi j hj) (fun j hj => by rw [hF0 77 (by omega)]; exact hM.ru j hj) hV.1 (l := l) (t := t) hl2 (q : Int) (t : Int) i none none none none none hA0
    have hpl2 : ρ 92 q = (a : Int) := by rw [hFK 92 (by omega), hF0 92 (by omega)]; exact hpl
    have hm : ∀ j, j < 36 → ρ 76 j = T 0 1 j := fun j hj => by rw [hFK 76 (by omega), hF0 76 (by omega)]; exact hM.mi j hj
    have hr : ∀ j, j < 36 → ρ 77 j = T 0 2 j := fun j hj => by rw [hFK 77 (by omega), hF0 77 (by omega)]; exact hM.ru j hj
    have hFr : FrM σ ρ := by
      refine ⟨fun o ho => ?_, fun j _ => ?_⟩
      · rw [hFK o (by omega), hF0 o (by omega), hF o (by omega)]
      · rw [hFK 75 (by omega), hF0 75 (by omega), hF 75 (by omega)]
    -- the least number of roads
    have rds := lpF (n := 5) (fun k (x : Nat) Q => X L 179 244 (wA (q : Int) (t : Int) i (l : Int) [some (xI (a : Int)), some (xI (x : Int)), some (xI ((k + 1 : Nat) : Int)), c8, c9, c10]) [] ρ Q) (fun k => ro (fun k => lf (T 0) l t k a) k) (by
      intro k hk Q
      have hb := (ro_sp (fun k => lf (T 0) l t k a) k).1
      obtain ⟨x, hx⟩ : ∃ x, ro (fun k => lf (T 0) l t k a) k = x := ⟨_, rfl⟩
      have hst : ro (fun k => lf (T 0) l t k a) (k + 1) = if lf (T 0) l t (k + 1) a < lf (T 0) l t x a then k + 1 else x := by rw [← hx]; rfl
      show X L 179 244 (wA (q : Int) (t : Int) i (l : Int) [some (xI (a : Int)), some (xI (ro (fun k => lf (T 0) l t k a) k : Int)), some (xI ((k + 1 : Nat) : Int)), c8, c9, c10]) [] ρ Q = X L 179 244 (wA (q : Int) (t : Int) i (l : Int) [some (xI (a : Int)), some (xI (ro (fun k => lf (T 0) l t k a) (k + 1) : Int)), some (xI ((k + 1 + 1 : Nat) : Int)), c8, c9, c10]) [] ρ Q
      rw [hst, hx]
      rw [hx] at hb
      have i1 : w32 (w32 (6 * (x : Int)) + (a : Int)) = ((6 * x + a : Nat) : Int) := by
        simp (disch := omega) only [w32_id]; omega
      have i2 : w32 (w32 (6 * ((k + 1 : Nat) : Int)) + (a : Int)) = ((6 * (k + 1) + a : Nat) : Int) := by
        simp (disch := omega) only [w32_id]; omega
      rw [e_179_244]
      simp only [brI, not_true_eq_false, true_implies, false_implies, implies_true, and_true, cTag, cTgt, cLen, true_and, Int.toNat_natCast, retI_I, retR_R, retV_N, retL_L, ne_eq, Int.reduceEq, not_false_eq_true, i1, i2, h99 x a (by omega) ha6, h99 (k + 1) a (by omega) ha6, show (0 ≤ ((6 * x + a : Nat) : Int) ∧ ((6 * x + a : Nat) : Int) < 36) by omega, show (0 ≤ ((6 * (k + 1) + a : Nat) : Int) ∧ ((6 * (k + 1) + a : Nat) : Int) < 36) by omega, e_179_285, e_179_287, w32_id (x := ((k + 1 : Nat) : Int) + 1) (by omega) (by omega)]
      rw [if_neg (by omega)]
      by_cases c : lf (T 0) l t (k + 1) a < lf (T 0) l t x a
      · rw [if_neg (by omega), if_pos c]; rfl
      · rw [if_pos (by omega), if_neg c]; rfl)
    obtain ⟨r, hre⟩ : ∃ r, ro (fun k => lf (T 0) l t k a) 5 = r := ⟨_, rfl⟩
    have hr5 : r ≤ 5 := by rw [← hre]; exact (ro_sp _ 5).1
    have rds : ∀ Q : PQ, X L 179 244 (wA (q : Int) (t : Int) i (l : Int) [some (xI (a : Int)), some (xI 0), some (xI 1), c8, c9, c10]) [] ρ Q = X L 179 244 (wA (q : Int) (t : Int) i (l : Int) [some (xI (a : Int)), some (xI (r : Int)), some (xI 6), c8, c9, c10]) [] ρ Q := by
      rw [← hre]; exact rds
    have i1 : w32 (w32 (6 * (r : Int)) + (a : Int)) = ((6 * r + a : Nat) : Int) := by
      simp (disch := omega) only [w32_id]; omega
    refine MO_q hI ⟨ρ, fun Q => ?_, hFr⟩
    have hlN := fun Q => x_limpsNow (L := L) hV.1 hB hM hq hone Q
    have hle' : bI (lmp (T 0 (8 + q)) (T 0 0 2)) = (l : Int) := hle
    simp only [e_179_0, e_179_18, brI, not_true_eq_false, true_implies, false_implies, implies_true, and_true, cTag, cTgt, cLen, true_and, Int.toNat_natCast, retI_I, retR_R, retV_N, retL_L, ne_eq, Int.reduceEq, not_false_eq_true, x_isThereM hV.1 hI.th, x_isTownM L _ _ _ hw6, bI_0, hI.tw, c1, c2, e, hlN, hle', if_true, if_false, and_self]
    refine Eq.trans (e0 Q) ?_
    rw [e_179_32]
    simp only [brI, Int.le_refl, if_true]
    rw [e_179_64]
    refine Eq.trans (eK Q) ?_
    rw [e_179_67]
    simp only [brI, Int.le_refl, if_true]
    rw [e_179_230]
    simp only [brI, not_true_eq_false, true_implies, false_implies, implies_true, and_true, cTag, cTgt, cLen, true_and, Int.toNat_natCast, retI_I, retR_R, retV_N, retL_L, ne_eq, Int.reduceEq, not_false_eq_true, hpl2, show (0 ≤ (q : Int) ∧ (q : Int) < 4) by omega]
    refine Eq.trans (rds Q) ?_
    rw [e_179_244]
    simp only [brI, Int.le_refl, if_true]
    rw [e_179_295]
    simp only [brI, not_true_eq_false, true_implies, false_implies, implies_true, and_true, cTag, cTgt, cLen, true_and, Int.toNat_natCast, retI_I, retR_R, retV_N, retL_L, ne_eq, Int.reduceEq, not_false_eq_true, i1, h99 r a (by omega) ha6, show (0 ≤ ((6 * r + a : Nat) : Int) ∧ ((6 * r + a : Nat) : Int) < 36) by omega, e_179_322, e_179_334, e_179_336, e_179_337]
    by_cases c4 : dd (T 0) l a t < 1000000
    · obtain ⟨k1, k2⟩ := ro_k hV.1 c4
      rw [hre] at k1 k2
      have hw := onW_ex hV.1 c4
      rw [← k1] at hw ⊢
      rw [k2, if_neg (by omega), if_pos c4]
      by_cases ci : i = -1
      · rw [if_neg (fun q => q ci), if_pos ci, if_pos (by omega)]
      · rw [if_pos ci, if_neg ci]
        simp only [x_in, retI_I, bI_0]
        unfold wyI
        by_cases cr : 0 ≤ i ∧ i ≤ (r : Int)
        · rw [if_pos (fun q => q cr), if_pos cr, e_179_350]
          obtain ⟨j, rfl⟩ : ∃ j : Nat, i = (j : Int) := ⟨i.toNat, by omega⟩
          rw [Int.toNat_natCast]
          exact x_walkW hm hr hV.1 hl2 ha6 hw h99 (by omega) _ _ _ _ _ Q
        · rw [if_neg (fun q => q cr), if_neg cr]
    · have k2 := ro_far hV.1 c4
      rw [hre] at k2
      rw [k2, if_pos rfl, if_neg c4, if_neg (by simp)]
  · rw [if_neg c]
    refine MO_n hI (fun Q => ?_)
    simp only [e_179_0, e_179_16, brI, not_true_eq_false, true_implies, false_implies, implies_true, and_true, cTag, cTgt, cLen, true_and, Int.toNat_natCast, retI_I, retR_R, retV_N, retL_L, ne_eq, Int.reduceEq, not_false_eq_true, x_isThereM hV.1 hI.th, x_isTownM L _ _ _ hw6, bI_0, hI.tw]
    by_cases c1 : thr (T 0) p = 0
    · simp only [c1, brI, not_true_eq_false, true_implies, false_implies, implies_true, and_true, cTag, cTgt, cLen, true_and, Int.toNat_natCast, retI_I, retR_R, retV_N, retL_L, ne_eq, Int.reduceEq, not_false_eq_true, if_true]
    · have c2 : ¬ isT T t := fun q => c ⟨c1, q⟩
      simp only [c1, c2, brI, not_true_eq_false, true_implies, false_implies, implies_true, and_true, cTag, cTgt, cLen, true_and, Int.toNat_natCast, retI_I, retR_R, retV_N, retL_L, ne_eq, Int.reduceEq, not_false_eq_true, if_true, if_false]
end MWay
