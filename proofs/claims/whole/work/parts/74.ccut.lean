/-! PARTED, the class -/
section CCut
variable {B : Int} {S σ τ : Mem} {L v : Nat} {T : Ful}
abbrev lss (x y : Nat) : Prop := pc x < pc y ∨ (pc x = pc y ∧ x < y)
abbrev gda (t u A : Nat) : Prop := A.testBit t = true ∧ ¬ A.testBit u = true
def isB (S : Mem) (t u m v : Nat) : Prop := (∃ A, A < m ∧ gda t u A ∧ v = mo S A 6) ∧ ∀ A, A < m → gda t u A → ¬ lss (mo S A 6) v
theorem isB_u {t u m v w : Nat} (h1 : isB S t u m v) (h2 : isB S t u m w) : v = w := by
  obtain ⟨⟨A, a1, a2, a3⟩, a4⟩ := h1
  obtain ⟨⟨C, c1, c2, c3⟩, c4⟩ := h2
  have p := a4 C c1 c2
  have q := c4 A a1 a2
  rw [← c3] at p
  rw [← a3] at q
  unfold lss at p q
  omega
noncomputable def cutV (S : Mem) (t u m : Nat) : Nat := by
  classical exact if h : ∃ v, isB S t u m v then Classical.choose h else 0
theorem cutV_e {t u m v : Nat} (h : isB S t u m v) : cutV S t u m = v := by
  have hx : ∃ v, isB S t u m v := ⟨v, h⟩
  unfold cutV
  rw [dif_pos hx]
  exact isB_u (Classical.choose_spec hx) h
theorem x_isLess {x y : Nat} (hx : x < 32768) (hy : y < 32768) (Q : PQ) : X L 1 0 [some (xI (x : Int)), some (xI (y : Int)), none, none] [] σ Q = Q (some (xI (bI (lss x y)))) σ := by
  rw [e_1_0]
  simp only [brI, not_true_eq_false, true_implies, false_implies, implies_true, and_true, cTag, cTgt, cLen, true_and, Int.toNat_natCast, retI_I, retR_R, retV_N, retL_L, ne_eq, Int.reduceEq, not_false_eq_true, x_bitCount L hx, x_bitCount L hy, e_1_25, e_1_29, e_1_30]
  by_cases c : lss x y
  · rw [bI_t c]
    unfold lss at c
    by_cases c1 : (pc x : Int) < (pc y : Int)
    · rw [if_pos c1]; simp
    · rw [if_neg c1, if_neg (fun q => q (by omega)), if_neg (by omega)]; simp
  · rw [bI_f c]
    unfold lss at c
    rw [if_neg (by omega)]
    by_cases c1 : (pc x : Int) = (pc y : Int)
    · rw [if_neg (fun q => q c1), if_pos (by omega)]; simp
    · rw [if_pos c1]; simp
def Fr43 (σ τ : Mem) : Prop := ∀ o, o ≠ 43 → τ o = σ o
theorem Fr43.tr {a b c : Mem} (h1 : Fr43 a b) (h2 : Fr43 b c) : Fr43 a c := fun o h => (h2 o h).trans (h1 o h)
theorem Fr43.wr (j : Nat) (x : Int) : Fr43 σ (up σ 43 j x) := by
  intro o ho; funext i; rw [up_rd, if_neg (by omega)]
theorem x_find (hR : RC 1 S σ) (hS : VS B S) {n t u : Nat} (hn : (n : Int) = S 0 0) (ht : t < n) (hu : u < n) (htu : ¬ t = u) : ∃ (τ : Mem) (v : Nat), (∀ Q : PQ, X L 0 0 [some (xR 43), some (xR 1), some (xI (t : Int)), some (xI (u : Int)), none, none, none] [] σ Q = Q none τ) ∧ Fr43 σ τ ∧ τ 43 0 = (v : Int) ∧ isB S t u (2 ^ n) v ∧ v < 32768 := by
  have hn6 := hS.1
  have h1 : 1 ≤ 2 ^ n := Nat.one_le_two_pow
  have h2 : 2 ^ n ≤ 2 ^ 6 := Nat.pow_le_pow_right (by omega) (by omega)
  have h2 : 2 ^ n ≤ 64 := h2
  have hlt : ∀ A, mo S A 6 < 32768 := fun A => mo_lt S A 6 (by omega)
  obtain ⟨⟨τ, f, d⟩, e1, hF, hI⟩ := lpE (n := 2 ^ n) (fun A (z : Mem × Int × Option PV) Q => X L 0 6 [some (xR 43), some (xR 1), some (xI (t : Int)), some (xI (u : Int)), some (xI z.2.1), some (xI (A : Int)), z.2.2] [] z.1 Q) (fun A z => Fr43 σ z.1 ∧ ((z.2.1 = 0 ∧ ∀ C, C < A → ¬ gda t u C) ∨ (z.2.1 = 1 ∧ ∃ v : Nat, z.1 43 0 = (v : Int) ∧ isB S t u A v))) (by
    intro A ⟨ρ, f, d⟩ hA ⟨hF, hI⟩
    have hF : Fr43 σ ρ := hF
    have hI : (f = 0 ∧ ∀ C, C < A → ¬ gda t u C) ∨ (f = 1 ∧ ∃ v : Nat, ρ 43 0 = (v : Int) ∧ isB S t u A v) := hI
    have hRr : RC 1 S ρ := RC_eq (fun o ho => hF o (by omega)) hR
    have hbt := bit_n (a := A) (k := t) (by omega) (by omega)
    have hbu := bit_n (a := A) (k := u) (by omega) (by omega)
    have nx : ∀ (ρ : Mem) (f : Int) (d : Option PV) (Q : PQ), X L 0 74 [some (xR 43), some (xR 1), some (xI (t : Int)), some (xI (u : Int)), some (xI f), some (xI (A : Int)), d] [] ρ Q = X L 0 6 [some (xR 43), some (xR 1), some (xI (t : Int)), some (xI (u : Int)), some (xI f), some (xI ((A + 1 : Nat) : Int)), d] [] ρ Q := by
      intro ρ f d Q; rw [e_0_74, w32_id (by omega) (by omega)]; rfl
    by_cases c : gda t u A
    · -- what is kept
      obtain ⟨x, hx, hxB, e80⟩ : ∃ x : Nat, x < 32768 ∧ isB S t u (A + 1) x ∧ ∀ Q : PQ, X L 0 6 [some (xR 43), some (xR 1), some (xI (t : Int)), some (xI (u : Int)), some (xI f), some (xI (A : Int)), d] [] ρ Q = X L 0 68 [some (xR 43), some (xR 1), some (xI (t : Int)), some (xI (u : Int)), some (xI f), some (xI (A : Int)), some (xI (mo S A 6 : Int))] [xI (x : Int), xR 43] ρ Q := by
        rcases hI with ⟨f0, hno⟩ | ⟨f1, v, hv, hB⟩
        · refine ⟨mo S A 6, hlt A, ⟨⟨A, by omega, c, rfl⟩, fun C hC hg => ?_⟩, fun Q => ?_⟩
          · by_cases e : C = A
            · rw [e]; unfold lss; omega
            · exact absurd hg (hno C (by omega))
          · rw [e_0_6]
            simp only [brI, not_true_eq_false, true_implies, false_implies, implies_true, and_true, cTag, cTgt, cLen, true_and, Int.toNat_natCast, retI_I, retR_R, retV_N, retL_L, ne_eq, Int.reduceEq, not_false_eq_true, x_allTowns hRr hS hn, x_isIn, bI_0, x_roadsOut hRr hS hn (show A < 64 by omega), e_0_66]
            rw [if_neg (by omega), if_neg (fun q => q (hbt.mpr c.1)), if_neg (fun q => q (fun q => c.2 (hbu.mp q))), if_pos f0]
        · obtain ⟨⟨C, c1, c2, c3⟩, c4⟩ := hB
          have hv3 : v < 32768 := by rw [c3]; exact hlt C
          by_cases cl : lss (mo S A 6) v
          · refine ⟨mo S A 6, hlt A, ⟨⟨A, by omega, c, rfl⟩, fun D hD hg => ?_⟩, fun Q => ?_⟩
            · by_cases e : D = A
              · rw [e]; unfold lss; omega
              · have := c4 D (by omega) hg
                unfold lss at this cl ⊢; omega
            · rw [e_0_6]
              simp only [brI, not_true_eq_false, true_implies, false_implies, implies_true, and_true, cTag, cTgt, cLen, true_and, Int.toNat_natCast, retI_I, retR_R, retV_N, retL_L, ne_eq, Int.reduceEq, not_false_eq_true, x_allTowns hRr hS hn, x_isIn, bI_0, x_roadsOut hRr hS hn (show A < 64 by omega), e_0_66, hv, x_isLess (hlt A) hv3]
              rw [if_neg (by omega), if_neg (fun q => q (hbt.mpr c.1)), if_neg (fun q => q (fun q => c.2 (hbu.mp q))), if_neg (by omega), if_pos (fun q => q cl)]
          · refine ⟨v, hv3, ⟨⟨C, by omega, c2, c3⟩, fun D hD hg => ?_⟩, fun Q => ?_⟩
            · by_cases e : D = A
              · rw [e]; exact cl
              · exact c4 D (by omega) hg
            · rw [e_0_6]
              simp only [brI, not_true_eq_false, true_implies, false_implies, implies_true, and_true, cTag, cTgt, cLen, true_and, Int.toNat_natCast, retI_I, retR_R, retV_N, retL_L, ne_eq, Int.reduceEq, not_false_eq_true, x_allTowns hRr hS hn, x_isIn, bI_0, x_roadsOut hRr hS hn (show A < 64 by omega), e_0_66, hv, x_isLess (hlt A) hv3]
              rw [if_neg (by omega), if_neg (fun q => q (hbt.mpr c.1)), if_neg (fun q => q (fun q => c.2 (hbu.mp q))), if_neg (by omega), if_neg (fun q => q cl)]
      refine ⟨(up ρ 43 0 (x : Int), 1, some (xI (mo S A 6 : Int))), fun Q => ?_, hF.tr (Fr43.wr _ _), Or.inr ⟨rfl, x, by show up ρ 43 0 (x : Int) 43 0 = _; simp [up_rd], hxB⟩⟩
      refine Eq.trans (e80 Q) ?_
      rw [e_0_68]
      simp only [brI, not_true_eq_false, true_implies, false_implies, implies_true, and_true, cTag, cTgt, cLen, true_and, Int.toNat_natCast, retI_I, retR_R, retV_N, retL_L, ne_eq, Int.reduceEq, not_false_eq_true, nx]
    · refine ⟨(ρ, f, d), fun Q => ?_, hF, ?_⟩
      · show X L 0 6 [some (xR 43), some (xR 1), some (xI (t : Int)), some (xI (u : Int)), some (xI f), some (xI (A : Int)), d] [] ρ Q = X L 0 6 [some (xR 43), some (xR 1), some (xI (t : Int)), some (xI (u : Int)), some (xI f), some (xI ((A + 1 : Nat) : Int)), d] [] ρ Q
        rw [e_0_6]
        simp only [brI, not_true_eq_false, true_implies, false_implies, implies_true, and_true, cTag, cTgt, cLen, true_and, Int.toNat_natCast, retI_I, retR_R, retV_N, retL_L, ne_eq, Int.reduceEq, not_false_eq_true, x_allTowns hRr hS hn, x_isIn, bI_0, nx]
        rw [if_neg (by omega)]
        by_cases ct : A.testBit t = true
        · have cu : A.testBit u = true := Classical.byContradiction (fun q => c ⟨ct, q⟩)
          rw [if_neg (fun q => q (hbt.mpr ct)), if_pos (fun q => q (hbu.mpr cu))]
        · rw [if_pos (fun q => ct (hbt.mp q))]
      · show (f = 0 ∧ ∀ C, C < A + 1 → ¬ gda t u C) ∨ (f = 1 ∧ ∃ v : Nat, ρ 43 0 = (v : Int) ∧ isB S t u (A + 1) v)
        rcases hI with ⟨f0, hno⟩ | ⟨f1, v, hv, ⟨⟨C, c1, c2, c3⟩, c4⟩⟩
        · refine Or.inl ⟨f0, fun C hC => ?_⟩
          by_cases e : C = A
          · rw [e]; exact c
          · exact hno C (by omega)
        · refine Or.inr ⟨f1, v, hv, ⟨C, by omega, c2, c3⟩, fun D hD hg => ?_⟩
          by_cases e : D = A
          · rw [e] at hg; exact absurd hg c
          · exact c4 D (by omega) hg) (a := (σ, 0, none)) ⟨fun _ _ => rfl, Or.inl ⟨rfl, fun C hC => by omega⟩⟩
  have hF : Fr43 σ τ := hF
  have hI : (f = 0 ∧ ∀ C, C < 2 ^ n → ¬ gda t u C) ∨ (f = 1 ∧ ∃ v : Nat, τ 43 0 = (v : Int) ∧ isB S t u (2 ^ n) v) := hI
  have hRt : RC 1 S τ := RC_eq (fun o ho => hF o (by omega)) hR
  rcases hI with ⟨f0, hno⟩ | ⟨f1, v, hv, hB⟩
  · exact absurd ⟨by simp, by simp [Nat.testBit_two_pow, htu]⟩ (hno (2 ^ t) (Nat.pow_lt_pow_right (by omega) ht))
  · have hv3 : v < 32768 := by
      obtain ⟨⟨C, c1, c2, c3⟩, c4⟩ := hB
      rw [c3]; exact hlt C
    refine ⟨τ, v, fun Q => ?_, hF, hv, hB, hv3⟩
    rw [e_0_0]
    refine Eq.trans (e1 Q) ?_
    show X L 0 6 [some (xR 43), some (xR 1), some (xI (t : Int)), some (xI (u : Int)), some (xI f), some (xI ((2 ^ n : Nat) : Int)), d] [] τ Q = _
    rw [e_0_6]
    simp only [brI, not_true_eq_false, true_implies, false_implies, implies_true, and_true, cTag, cTgt, cLen, true_and, Int.toNat_natCast, retI_I, retR_R, retV_N, retL_L, ne_eq, Int.reduceEq, not_false_eq_true, x_allTowns hRt hS hn]
    rw [if_pos (by omega), e_0_80]
noncomputable def a_part (T : Ful) (t u i : Int) : Int := if isT T t ∧ isT T u ∧ t ≠ u then (if 0 ≤ i ∧ i ≤ 1 then (if i = 0 then (pc (cutV (T 0) t.toNat u.toNat (2 ^ (T 0 0 0).toNat)) : Int) else (cutV (T 0) t.toNat u.toNat (2 ^ (T 0 0 0).toNat) : Int)) else -2) else -1
theorem c_part (hI : IC T σ) (hV : IV B T) (t u i : Int) : CO σ (X L 109 0 [some (xR 0), some (xI t), some (xI u), some (xI i)] [] σ) (a_part T t u i) T := by
  have e00 := hI.1.1 0 (by omega)
  unfold a_part
  by_cases c : isT T t ∧ isT T u ∧ t ≠ u
  · rw [if_pos c]
    by_cases ci : 0 ≤ i ∧ i ≤ 1
    · rw [if_pos ci]
      obtain ⟨c1, c2, c3⟩ := id c
      obtain ⟨t, rfl⟩ : ∃ a : Nat, t = (a : Int) := ⟨t.toNat, by omega⟩
      obtain ⟨u, rfl⟩ : ∃ a : Nat, u = (a : Int) := ⟨u.toNat, by omega⟩
      simp only [Int.toNat_natCast]
      obtain ⟨n, hn, hn2, hn6⟩ := tn hV
      have hnn : (T 0 0 0).toNat = n := by omega
      rw [hnn]
      obtain ⟨τ, v, e1, hF, hv, hB, hv3⟩ := x_find (L := L) hI.1 hV.1 hn (t := t) (u := u) (by omega) (by omega) (by omega)
      rw [cutV_e hB]
      have h31 : τ 31 0 = 0 := by rw [hF 31 (by omega)]; exact hI.2.1
      refine CO_q hI ⟨τ, fun Q => ?_, fun o ho => hF o (by omega), h31⟩
      simp only [e_109_0, e_109_14, e_109_26, brI, not_true_eq_false, true_implies, false_implies, implies_true, and_true, cTag, cTgt, cLen, true_and, Int.toNat_natCast, retI_I, retR_R, retV_N, retL_L, ne_eq, Int.reduceEq, not_false_eq_true, x_two iV1, x_isWithin, bI_0, e00, c, ci, e1, hv, x_bitCount L hv3, if_true, if_false, and_self, e_109_56, e_109_63]
      by_cases c0 : i = 0
      · rw [if_neg (fun q => q c0), if_pos c0]
      · rw [if_pos c0, if_neg c0]
    · rw [if_neg ci]
      refine CO_n hI (fun Q => ?_)
      simp only [e_109_0, e_109_14, brI, not_true_eq_false, true_implies, false_implies, implies_true, and_true, cTag, cTgt, cLen, true_and, Int.toNat_natCast, retI_I, retR_R, retV_N, retL_L, ne_eq, Int.reduceEq, not_false_eq_true, x_two iV1, x_isWithin, bI_0, e00, c, ci, if_true, if_false]
  · rw [if_neg c]
    refine CO_n hI (fun Q => ?_)
    rw [e_109_0]
    simp only [brI, cTag, cTgt, cLen, true_and, x_two iV1, e00, retI_I, bI_0]
    rw [if_neg (fun q => q c)]
end CCut
