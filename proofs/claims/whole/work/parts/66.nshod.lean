/-! SHOD, the Model's answer -/
section NShod
variable {B : Int} {S σ τ : Mem} {L v : Nat} {T : Ful}
theorem x_layShod (hI : IM T σ) (hS : VS B (T 0)) (hB : B ≤ 1000000) (hL : LdF (T 0) σ) {p n o : Nat} (hp : PsV (T 0) p n) (h1 : T 0 (8 + p) 0 = 1) (ho : o < 64) : ∃ τ, (∀ Q : PQ, X L 183 0 [some (xR 75), some (xI (p : Int)), some (xI (o : Int)), none, none, none, none, none, none, none] [] σ Q = Q none τ) ∧ FrJ σ τ ∧ HM τ (shd (T 0) p o n) := by
  obtain ⟨p1, p2, p3, p4, p5, p6⟩ := id hp
  have hn6 := hS.1
  have hK := hS.2.2.1
  obtain ⟨a1, a2, a3, a4, a5, a6, a7, a8, a9, a10, a11, a12, a13⟩ := hS.p p1
  obtain ⟨σ0, hσ0⟩ : ∃ σ0, up (up (up (up σ 75 34 (-6)) 75 35 (-6)) 75 36 (-6)) 75 37 (-6) = σ0 := ⟨_, rfl⟩
  have F0 : FrJ σ σ0 := by
    refine ⟨fun o ho => ?_, fun j hj => ?_⟩
    · funext j; rw [← hσ0]; simp only [up_rd]; rw [if_neg (by omega), if_neg (by omega), if_neg (by omega), if_neg (by omega)]
    · rw [← hσ0]; simp only [up_rd]; rw [if_neg (by omega), if_neg (by omega), if_neg (by omega), if_neg (by omega)]
  have H0 : HM σ0 (fun _ => -6) := by
    intro j hj; rw [← hσ0]
    rcases (show j = 0 ∨ j = 1 ∨ j = 2 ∨ j = 3 by omega) with rfl | rfl | rfl | rfl <;> simp [up_rd]
  have hI0 := IM_Q hI F0.m
  have hL0 := LdF_J hL F0
  have hP := hI0.1.pp p p1 h1
  have pl : σ0 85 p = (aT (T 0) p : Int) := hP.pl.trans p5
  have hom : σ0 82 p = (aH (T 0) p : Int) := hP.ho.trans p6
  have sh : σ0 86 p = T 0 (8 + p) 6 + 2 * T 0 (8 + p) 7 := hP.sh
  have wl : σ0 87 (2 * p) = T 0 (8 + p) 8 := hP.wl
  have wr : σ0 87 (2 * p + 1) = T 0 (8 + p) 9 := hP.wr
  have K : σ0 75 8 = T 0 0 2 := hI0.1.kk
  have dl := fun Q => x_doesLimp (L := L) (σ := σ0) (T 0 (8 + p) 6 + 2 * T 0 (8 + p) 7) (T 0 (8 + p) 8) (T 0 (8 + p) 9) (by omega) (by omega) (by omega) none Q
  have hlm : bI (T 0 (8 + p) 6 + 2 * T 0 (8 + p) 7 = 1 ∨ T 0 (8 + p) 6 + 2 * T 0 (8 + p) 7 = 2 ∨ (T 0 (8 + p) 6 + 2 * T 0 (8 + p) 7 = 3 ∧ (σ0 75 8 ≤ T 0 (8 + p) 8 - T 0 (8 + p) 9 ∨ σ0 75 8 ≤ T 0 (8 + p) 9 - T 0 (8 + p) 8))) = bI (lmp (T 0 (8 + p)) (T 0 0 2)) := by
    rw [K]
    refine bI_c ?_
    show _ ↔ (¬ T 0 (8 + p) 6 = T 0 (8 + p) 7 ∨ (¬ T 0 (8 + p) 6 = 0 ∧ (T 0 0 2 ≤ T 0 (8 + p) 8 - T 0 (8 + p) 9 ∨ T 0 0 2 ≤ T 0 (8 + p) 9 - T 0 (8 + p) 8)))
    omega
  rw [hlm] at dl
  have i1 : w32 (2 * (p : Int)) = ((2 * p : Nat) : Int) := by rw [w32_id (by omega) (by omega)]; omega
  have i2 : w32 (((2 * p : Nat) : Int) + 1) = ((2 * p + 1 : Nat) : Int) := by rw [w32_id (by omega) (by omega)]; omega
  have j0 : (0 ≤ (p : Int) ∧ (p : Int) < 4) := by omega
  have j1 : (0 ≤ ((2 * p : Nat) : Int) ∧ ((2 * p : Nat) : Int) < 8) := by omega
  have j2 : (0 ≤ ((2 * p + 1 : Nat) : Int) ∧ ((2 * p + 1 : Nat) : Int) < 8) := by omega
  unfold shd
  by_cases c : ¬ T 0 (8 + p) 6 = 0 ∧ ¬ T 0 (8 + p) 7 = 0
  · rw [if_pos c]
    obtain ⟨l, hle, hl2⟩ := bI_n (lmp (T 0 (8 + p)) (T 0 0 2))
    rw [hle] at dl ⊢
    have m1 := fun Q => x_farOf (L := L) hS hL0 (l := l) (a := aT (T 0) p) (b := aH (T 0) p) hl2 (by omega) (by omega) Q
    have hb := dd_b hS l (aT (T 0) p) (aH (T 0) p)
    obtain ⟨τ, e1, hF, hH⟩ := x_offerM (L := L) hI0 hS p1 h1 0 (dd (T 0) l (aT (T 0) p) (aH (T 0) p)) (-6) (-6) (by omega) (by omega) H0 (Or.inl rfl)
    refine ⟨τ, fun Q => ?_, F0.tr hF, hH⟩
    rw [e_183_0]
    simp only [brI, not_true_eq_false, true_implies, false_implies, implies_true, and_true, cTag, cTgt, cLen, true_and, Int.toNat_natCast, retI_I, retR_R, retV_N, retL_L, ne_eq, Int.reduceEq, not_false_eq_true, hσ0, pl, hom, sh, i1, i2, j0, j1, j2, wl, wr, dl, m1, e1]
    rw [if_neg (by omega)]
  · rw [if_neg c]
    obtain ⟨kk, hkk⟩ : ∃ kk, kk = T 0 (8 + p) 6 + 2 * T 0 (8 + p) 7 := ⟨_, rfl⟩
    obtain ⟨l0, hl0⟩ : ∃ l0, l0 = bI (lmp (T 0 (8 + p)) (T 0 0 2)) := ⟨_, rfl⟩
    obtain ⟨⟨τ, d7, d8, d9⟩, e1, hF, hH⟩ := lpE (n := n) (fun x (y : Mem × Option PV × Option PV × Option PV) Q => X L 183 98 [some (xR 75), some (xI (p : Int)), some (xI (o : Int)), some (xI (aT (T 0) p : Int)), some (xI kk), some (xI l0), some (xI (x : Int)), y.2.1, y.2.2.1, y.2.2.2] [] y.1 Q) (fun x y => FrJ σ y.1 ∧ HM y.1 (plE (T 0) p o n x)) (by
      intro x ⟨ρ, d7, d8, d9⟩ hx ⟨hF, hH⟩
      have hF : FrJ σ ρ := hF
      have hH : HM ρ (plE (T 0) p o n x) := hH
      have hIr := IM_Q hI hF.m
      have e0 : ρ 75 0 = T 0 0 0 := hIr.1.tw
      have hok := one_ok (S := T 0) hS (p := p) (o := o) (x := x) (n := n) hx (by omega)
      obtain ⟨ρ1, b8, b9, e1, hF1, hH1⟩ := x_stepS (L := L) hIr hS hB (LdF_J hL hF) hp h1 hx ho hkk hl0 c (Or.inl rfl) d8 d9 hH hok
      have hF1 := hF.tr hF1
      obtain ⟨ρ2, c8, c9, e2, hF2, hH2⟩ := x_stepS (L := L) (IM_Q hI hF1.m) hS hB (LdF_J hL hF1) hp h1 hx ho hkk hl0 c (Or.inr rfl) b8 b9 hH1 (stq_ok hS hx (by omega) hok)
      rw [stq2 hS (by omega)] at hH2
      refine ⟨(ρ2, some (xI 3), c8, c9), fun Q => ?_, hF1.tr hF2, hH2⟩
      show X L 183 98 [some (xR 75), some (xI (p : Int)), some (xI (o : Int)), some (xI (aT (T 0) p : Int)), some (xI kk), some (xI l0), some (xI (x : Int)), d7, d8, d9] [] ρ Q = X L 183 98 [some (xR 75), some (xI (p : Int)), some (xI (o : Int)), some (xI (aT (T 0) p : Int)), some (xI kk), some (xI l0), some (xI ((x + 1 : Nat) : Int)), some (xI 3), c8, c9] [] ρ2 Q
      have e1 : ∀ Q : PQ, X L 183 110 [some (xR 75), some (xI (p : Int)), some (xI (o : Int)), some (xI (aT (T 0) p : Int)), some (xI kk), some (xI l0), some (xI (x : Int)), some (xI 1), d8, d9] [] ρ Q = X L 183 110 [some (xR 75), some (xI (p : Int)), some (xI (o : Int)), some (xI (aT (T 0) p : Int)), some (xI kk), some (xI l0), some (xI (x : Int)), some (xI 2), b8, b9] [] ρ1 Q := e1
      have e2 : ∀ Q : PQ, X L 183 110 [some (xR 75), some (xI (p : Int)), some (xI (o : Int)), some (xI (aT (T 0) p : Int)), some (xI kk), some (xI l0), some (xI (x : Int)), some (xI 2), b8, b9] [] ρ1 Q = X L 183 110 [some (xR 75), some (xI (p : Int)), some (xI (o : Int)), some (xI (aT (T 0) p : Int)), some (xI kk), some (xI l0), some (xI (x : Int)), some (xI 3), c8, c9] [] ρ2 Q := e2
      rw [e_183_98]
      simp only [brI, not_true_eq_false, true_implies, false_implies, implies_true, and_true, cTag, cTgt, cLen, true_and, Int.toNat_natCast, retI_I, retR_R, retV_N, retL_L, ne_eq, Int.reduceEq, not_false_eq_true, e0, e1, e2]
      rw [if_neg (by omega), e_183_110]
      simp only [brI, not_true_eq_false, true_implies, false_implies, implies_true, and_true, cTag, cTgt, cLen, true_and, Int.toNat_natCast, retI_I, retR_R, retV_N, retL_L, ne_eq, Int.reduceEq, not_false_eq_true, Int.le_refl, if_true]
      rw [e_183_250, w32_id (by omega) (by omega)]
      rfl) (a := (σ0, none, none, none)) ⟨F0, H0⟩
    have hF : FrJ σ τ := hF
    have hH : HM τ (plE (T 0) p o n n) := hH
    refine ⟨τ, fun Q => ?_, hF, hH⟩
    have e1 : ∀ Q : PQ, X L 183 98 [some (xR 75), some (xI (p : Int)), some (xI (o : Int)), some (xI (aT (T 0) p : Int)), some (xI kk), some (xI l0), some (xI 0), none, none, none] [] σ0 Q = X L 183 98 [some (xR 75), some (xI (p : Int)), some (xI (o : Int)), some (xI (aT (T 0) p : Int)), some (xI kk), some (xI l0), some (xI (n : Int)), d7, d8, d9] [] τ Q := e1
    have e0 : τ 75 0 = T 0 0 0 := (IM_Q hI hF.m).1.tw
    rw [← hl0] at dl
    rw [e_183_0]
    simp only [brI, not_true_eq_false, true_implies, false_implies, implies_true, and_true, cTag, cTgt, cLen, true_and, Int.toNat_natCast, retI_I, retR_R, retV_N, retL_L, ne_eq, Int.reduceEq, not_false_eq_true, hσ0, pl, hom, sh, i1, i2, j0, j1, j2, wl, wr, dl]
    rw [if_pos (by omega), e_183_95, ← hkk, e1, e_183_98]
    simp only [brI, not_true_eq_false, true_implies, false_implies, implies_true, and_true, cTag, cTgt, cLen, true_and, Int.toNat_natCast, retI_I, retR_R, retV_N, retL_L, ne_eq, Int.reduceEq, not_false_eq_true, e0]
    rw [if_pos (by omega), e_183_256]
theorem m_shod (hI : IM T σ) (hV : IV B T) (hB : B ≤ 1000000) (p i : Int) : MO σ (X L 185 0 [some (xR 75), some (xI p), some (xI i)] [] σ) (a_shod T p i) T := by
  unfold a_shod
  by_cases c : thr (T 0) p = 0
  · rw [if_neg (fun q => q c)]
    refine MO_n hI (fun Q => ?_)
    simp only [e_185_0, brI, not_true_eq_false, true_implies, false_implies, implies_true, and_true, cTag, cTgt, cLen, true_and, Int.toNat_natCast, retI_I, retR_R, retV_N, retL_L, ne_eq, Int.reduceEq, not_false_eq_true, x_isThereM hV.1 hI.th, c, if_true, if_false]
  · rw [if_pos c]
    obtain ⟨q, hq, rfl, h1⟩ := thr_in (B := B) c
    have h1 := h1 hV.1
    by_cases ci : 0 ≤ i ∧ i ≤ 3
    · rw [if_pos ci]
      obtain ⟨i, rfl⟩ : ∃ a : Nat, i = (a : Int) := ⟨i.toNat, by omega⟩
      simp only [Int.toNat_natCast]
      obtain ⟨n, hn, hn2, hn6⟩ := tn hV
      have hnn : (T 0 0 0).toNat = n := by omega
      rw [hnn]
      obtain ⟨τ, e, hF, hQ, hI1, hL⟩ := m_lay (L := L) hI hV
      obtain ⟨ρ, e1, hE, hH⟩ := x_layShod (L := L) hI1 hV.1 hB hL (psv hV.1 hq hn) h1 (o := 63) (by omega)
      have e1 : ∀ Q : PQ, X L 183 0 [some (xR 75), some (xI (q : Int)), some (xI 63), none, none, none, none, none, none, none] [] τ Q = Q none ρ := e1
      refine MO_q hI ⟨ρ, fun Q => ?_, hQ.tr hE.m⟩
      have h0 : ρ 75 34 = _ := hH 0 (by omega)
      have h1 : ρ 75 35 = _ := hH 1 (by omega)
      have h2 : ρ 75 36 = _ := hH 2 (by omega)
      have h3 : ρ 75 37 = _ := hH 3 (by omega)
      simp only [e_185_0, e_185_10, e_185_22, brI, not_true_eq_false, true_implies, false_implies, implies_true, and_true, cTag, cTgt, cLen, true_and, Int.toNat_natCast, retI_I, retR_R, retV_N, retL_L, ne_eq, Int.reduceEq, not_false_eq_true, x_isThereM hV.1 hI.th, x_in, bI_0, c, ci, e, e1, if_true, if_false, and_self, e_185_44, e_185_56, e_185_68, e_185_72, h0, h1, h2, h3]
      rcases (show i = 0 ∨ i = 1 ∨ i = 2 ∨ i = 3 by omega) with rfl | rfl | rfl | rfl <;> simp
    · rw [if_neg ci]
      refine MO_n hI (fun Q => ?_)
      simp only [e_185_0, e_185_10, brI, not_true_eq_false, true_implies, false_implies, implies_true, and_true, cTag, cTgt, cLen, true_and, Int.toNat_natCast, retI_I, retR_R, retV_N, retL_L, ne_eq, Int.reduceEq, not_false_eq_true, x_isThereM hV.1 hI.th, x_in, bI_0, c, ci, if_true, if_false]
end NShod
