/-! DAYS: judged, done, behind, where shoes give out -/
section Days
variable {B : Int} {S σ τ : Mem} {L : Nat} {T : Ful}
theorem PadOk.k43 {w : Int} {s : Nat → Int} {h : Nat} (hP : PadOk w s h) {i : Nat} (hi : i < h) : (s (2 * i + 1) = 43) ↔ ded s i = 6 := by
  have hk := hP.2.2.2 (2 * i + 1) (by omega)
  have hw := hP.1
  have hk : okD w s (2 * i + 1) := by omega
  unfold ded
  (repeat' split) <;> omega
theorem x_goDay2 {w : Int} {s : Nat → Int} {h : Nat} (hP : PadOk w s h) {g : Nat} (hg : g < 64) {l : Int} (hS : VS B S) (hB0 : 0 ≤ B) (hB : B + 18 * h ≤ 900000) {M : Int} (hM : M = cq s (2 * h)) :
    ∀ (m i : Nat), i + m = h → ∀ (σ : Mem) (d5 d6 d7 d8 d9 d10 : Option PV), σ 75 19 = ((2 * h : Nat) : Int) → (∀ j, j < 60 → σ 90 j = s j) → RM (vN σ) (dst (whg s g M) (ded s) S i) → (∀ j, j < i → why (dst (whg s g M) (ded s) S j) (whg s g M j) (ded s j) = 0) →
      σ 75 29 = (ou (whg s g M) (ded s) S l i).1 → σ 75 30 = (ou (whg s g M) (ded s) S l i).2.1 → σ 75 31 = (ou (whg s g M) (ded s) S l i).2.2 →
      ∃ τ, (∀ Q : PQ, X L 167 54 [some (xR 75), some (xI (g : Int)), some (xI l), some (xI (byv M (cq s (2 * i)))), some (xI (2 * (i : Int))), d5, d6, d7, d8, d9, d10] [] σ Q = Q (some (xI (fbd (whg s g M) (ded s) S m i))) τ) ∧ FrG σ τ ∧
        (fbd (whg s g M) (ded s) S m i = -6 → RM (vN τ) (dst (whg s g M) (ded s) S h) ∧ τ 75 29 = (ou (whg s g M) (ded s) S l h).1 ∧ τ 75 30 = (ou (whg s g M) (ded s) S l h).2.1 ∧ τ 75 31 = (ou (whg s g M) (ded s) S l h).2.2) ∧
        (¬ fbd (whg s g M) (ded s) S m i = -6 → τ 75 28 = fwy (whg s g M) (ded s) S m i) := by
  have hM3 : M ≤ 3 := by rw [hM]; exact cq_3 hP.1.2 hP.2.2.2
  intro m
  induction m with
  | zero =>
    intro i hi σ d5 d6 d7 d8 d9 d10 h1 h2 hR hy o3 o4 o5
    have : i = h := by omega
    subst this
    refine ⟨σ, fun Q => ?_, FrG.rf, fun _ => ⟨hR, o3, o4, o5⟩, fun q => absurd rfl q⟩
    rw [e_167_54]
    simp only [brI, not_true_eq_false, true_implies, false_implies, implies_true, and_true, cTag, cTgt, cLen, true_and, Int.toNat_natCast, retI_I, retR_R, retV_N, retL_L, ne_eq, Int.reduceEq, not_false_eq_true, h1]
    rw [if_pos (by omega), e_167_385]
    rfl
  | succ m ih =>
    intro i hi σ d5 d6 d7 d8 d9 d10 h1 h2 hR hy o3 o4 o5
    have hih : i < h := by omega
    have h60 := hP.2.1
    have hs0 := hP.2.2.1 (2 * i) (by omega)
    have hwo := hP.who hih
    obtain ⟨hd1, hd2, hd3, hd4⟩ := hP.dk hih
    have hcs := cq_step hP hih
    have c0 := cq_0 s (2 * i)
    have hVi := dst_VS2 hS hB0 (whg_4 s g M) (fun i hi => (hP.dk hi).2.1) i (by omega) hy
    have hw4 := whg_4 s g M i
    have e0 : σ 90 (2 * i) = s (2 * i) := h2 _ (by omega)
    have td : Int.tdiv (2 * (i : Int)) 2 = (i : Int) := by rw [Int.tdiv_eq_ediv_of_nonneg (by omega)]; omega
    have go : ∀ k : Int, ∃ τ, (∀ (Q : PQ), X L 167 119 [some (xR 75), some (xI (g : Int)), some (xI l), some (xI k), some (xI (2 * (i : Int))), some (xI (whg s g M i : Int)), d6, d7, d8, d9, d10] [xI (byv M (cq s (2 * (i + 1))))] σ Q = Q (some (xI (fbd (whg s g M) (ded s) S (m + 1) i))) τ) ∧ FrG σ τ ∧
        (fbd (whg s g M) (ded s) S (m + 1) i = -6 → RM (vN τ) (dst (whg s g M) (ded s) S h) ∧ τ 75 29 = (ou (whg s g M) (ded s) S l h).1 ∧ τ 75 30 = (ou (whg s g M) (ded s) S l h).2.1 ∧ τ 75 31 = (ou (whg s g M) (ded s) S l h).2.2) ∧
        (¬ fbd (whg s g M) (ded s) S (m + 1) i = -6 → τ 75 28 = fwy (whg s g M) (ded s) S (m + 1) i) := by
      intro k
      obtain ⟨y, hye⟩ : ∃ y, why (dst (whg s g M) (ded s) S i) (whg s g M i) (ded s i) = y := ⟨_, rfl⟩
      have y0 := why_nn hVi (whg s g M i) (ded s i)
      rw [hye] at y0
      have e119 := fun Q => x_go119 (L := L) hP hih hw4 hVi (by omega) hR h2 (g : Int) l k (byv M (cq s (2 * (i + 1)))) d6 d7 d8 d9 d10 Q
      rw [hye] at e119
      by_cases cy : y = 0
      · subst cy
        have f1 : fbd (whg s g M) (ded s) S (m + 1) i = fbd (whg s g M) (ded s) S m (i + 1) := if_pos hye
        have f2 : fwy (whg s g M) (ded s) S (m + 1) i = fwy (whg s g M) (ded s) S m (i + 1) := if_pos hye
        rw [f1, f2]
        obtain ⟨τ1, a9, a10, e1, F1, hR1, q3, q4, q5⟩ := x_go215 (L := L) (show i < 30 by omega) hw4 rfl ⟨hd2, hd3⟩ (hP.k43 hih) hVi (by omega) (by omega) hR hye (g : Int) l (byv M (cq s (2 * (i + 1)))) d9 d10 o3 o4 o5
        have hy' : ∀ j, j < i + 1 → why (dst (whg s g M) (ded s) S j) (whg s g M j) (ded s j) = 0 := by
          intro j hj
          by_cases e : j = i
          · rw [e]; exact hye
          · exact hy j (by omega)
        obtain ⟨τ, e, hF, r⟩ := ih (i + 1) (by omega) τ1 (some (xI (whg s g M i : Int))) (some (xI (s (2 * i + 1)))) (some (xI (bI (ded s i < 6)))) (some (xI (if ded s i < 6 then ded s i else 0))) a9 a10 (by rw [F1.2 19 (by omega)]; exact h1) (fun j hj => by rw [F1.1 90 (by omega) (by omega)]; exact h2 j hj) hR1 hy' q3 q4 q5
        refine ⟨τ, fun Q => ?_, F1.tr hF, r⟩
        rw [e119, e1, e_167_379]
        rw [w32_id (by omega) (by omega), show 2 * (i : Int) + 2 = 2 * ((i + 1 : Nat) : Int) by omega]
        exact e Q
      · have f1 : fbd (whg s g M) (ded s) S (m + 1) i = (i : Int) := if_neg (by rw [hye]; exact cy)
        have f2 : fwy (whg s g M) (ded s) S (m + 1) i = y := (if_neg (by rw [hye]; exact cy)).trans hye
        rw [f1, f2]
        refine ⟨up σ 75 28 y, fun Q => ?_, FrG_u (by omega), fun q => by omega, fun _ => by simp [up_rd]⟩
        have rd : up σ 75 28 y 75 28 = y := by simp [up_rd]
        rw [e119, e_167_215]
        simp only [brI, not_true_eq_false, true_implies, false_implies, implies_true, and_true, cTag, cTgt, cLen, true_and, Int.toNat_natCast, retI_I, retR_R, retV_N, retL_L, ne_eq, Int.reduceEq, not_false_eq_true, rd, td, w32_id (x := (i : Int)) (by omega) (by omega)]
        rw [if_neg (by omega)]
    by_cases q : s (2 * i) = 63
    · have hlt : cq s (2 * i) < M := by rw [hM]; exact cq_lt (by omega) q
      obtain ⟨b1, b2, b3, b4⟩ := byv_q (M := M) (k := cq s (2 * i)) ⟨c0, hlt⟩ hM3
      rw [if_pos q] at hcs
      rw [← hcs] at b1
      have b4 := b4 g
      have hwe : (whg s g M i : Int) = (gs g (M - 1 - cq s (2 * i)) : Int) := by unfold whg; rw [if_pos q]
      have hq0 : Int.tdiv (g : Int) (byv M (cq s (2 * i))) ≤ 63 ∧ 0 ≤ Int.tdiv (g : Int) (byv M (cq s (2 * i))) := by
        rw [Int.tdiv_eq_ediv_of_nonneg (by omega)]
        have h1 := Int.ediv_le_self (a := (g : Int)) (byv M (cq s (2 * i))) (by omega)
        have h2 : 0 ≤ (g : Int) / byv M (cq s (2 * i)) := Int.ediv_nonneg (by omega) (by omega)
        omega
      obtain ⟨τ, e, r⟩ := go (byv M (cq s (2 * i)))
      refine ⟨τ, fun Q => ?_, r⟩
      rw [← e Q, hwe, ← b4, e_167_54]
      simp only [brI, not_true_eq_false, true_implies, false_implies, implies_true, and_true, cTag, cTgt, cLen, true_and, Int.toNat_natCast, retI_I, retR_R, retV_N, retL_L, ne_eq, Int.reduceEq, not_false_eq_true, h1]
      simp (disch := omega) only [w32_id, inb, true_and, Int.toNat_add, Int.toNat_mul, Int.toNat_natCast, Int.reduceToNat, e0, le_f, if_false, q, not_true_eq_false, eq_f, not_false_eq_true]
      rw [e_167_93]
      simp only [brI, not_true_eq_false, true_implies, false_implies, implies_true, and_true, cTag, cTgt, cLen, true_and, Int.toNat_natCast, retI_I, retR_R, retV_N, retL_L, ne_eq, Int.reduceEq, not_false_eq_true]
      simp (disch := omega) only [w32_id, inb, true_and, Int.toNat_add, Int.toNat_mul, Int.toNat_natCast, Int.reduceToNat, e0, if_false, q, not_true_eq_false]
      by_cases cb : byv M (cq s (2 * i)) ≤ 1
      · rw [if_pos cb] at b1 ⊢
        rw [e_167_118, b1]
      · rw [if_neg cb] at b1 ⊢
        have : Int.tdiv (byv M (cq s (2 * i))) 4 = byv M (cq s (2 * i)) / 4 := Int.tdiv_eq_ediv_of_nonneg (by omega)
        rw [w32_id (by omega) (by omega), b1]
    · rw [if_neg q, Int.add_zero] at hcs
      obtain ⟨τ, e, r⟩ := go (byv M (cq s (2 * i)))
      refine ⟨τ, fun Q => ?_, r⟩
      have hwe : (whg s g M i : Int) = s (2 * i) - 65 := by unfold whg; rw [if_neg q, if_pos (by omega)]; omega
      rw [← e Q, hcs, hwe, e_167_54]
      simp only [brI, not_true_eq_false, true_implies, false_implies, implies_true, and_true, cTag, cTgt, cLen, true_and, Int.toNat_natCast, retI_I, retR_R, retV_N, retL_L, ne_eq, Int.reduceEq, not_false_eq_true, h1]
      simp (disch := omega) only [w32_id, inb, true_and, Int.toNat_add, Int.toNat_mul, Int.toNat_natCast, Int.reduceToNat, e0, le_f, if_false, if_true, q, not_false_eq_true]
      rw [e_167_83]
      simp only [brI, not_true_eq_false, true_implies, false_implies, implies_true, and_true, cTag, cTgt, cLen, true_and, Int.toNat_natCast, retI_I, retR_R, retV_N, retL_L, ne_eq, Int.reduceEq, not_false_eq_true]
      simp (disch := omega) only [w32_id, inb, true_and, Int.toNat_add, Int.toNat_mul, Int.toNat_natCast, Int.reduceToNat, e0]
      rw [e_167_93]
      simp only [brI, not_true_eq_false, true_implies, false_implies, implies_true, and_true, cTag, cTgt, cLen, true_and, Int.toNat_natCast, retI_I, retR_R, retV_N, retL_L, ne_eq, Int.reduceEq, not_false_eq_true]
      simp (disch := omega) only [w32_id, inb, true_and, Int.toNat_add, Int.toNat_mul, Int.toNat_natCast, Int.reduceToNat, e0, if_true, q, not_false_eq_true]
      rw [e_167_118]
theorem x_goDay {w : Int} {s : Nat → Int} {h : Nat} (hP : PadOk w s h) {g : Nat} (hg : g < 64) (l : Int) (hR : RM (vP σ) S) (hS : VS B S) (hB0 : 0 ≤ B) (hB : B + 18 * h ≤ 900000) (h1 : σ 75 19 = ((2 * h : Nat) : Int)) (h2 : ∀ j, j < 60 → σ 90 j = s j) :
      ∃ τ, (∀ Q : PQ, X L 167 0 [some (xR 75), some (xI (g : Int)), some (xI l), none, none, none, none, none, none, none, none] [] σ Q = Q (some (xI (fbd (whg s g (cq s (2 * h))) (ded s) S h 0))) τ) ∧ FrG σ τ ∧
        (fbd (whg s g (cq s (2 * h))) (ded s) S h 0 = -6 → RM (vN τ) (dst (whg s g (cq s (2 * h))) (ded s) S h) ∧ τ 75 29 = (ou (whg s g (cq s (2 * h))) (ded s) S l h).1 ∧ τ 75 30 = (ou (whg s g (cq s (2 * h))) (ded s) S l h).2.1 ∧ τ 75 31 = (ou (whg s g (cq s (2 * h))) (ded s) S l h).2.2) ∧
        (¬ fbd (whg s g (cq s (2 * h))) (ded s) S h 0 = -6 → τ 75 28 = fwy (whg s g (cq s (2 * h))) (ded s) S h 0) := by
  obtain ⟨τ0, e0, hR0, hF0⟩ := x_asNow (L := L) hR
  obtain ⟨τ1, hτ1⟩ : ∃ τ1, up (up (up (up τ0 75 28 0) 75 29 (-6)) 75 30 (-6)) 75 31 (-6) = τ1 := ⟨_, rfl⟩
  have F1 : FrG σ τ1 := by
    rw [← hτ1]; exact (FrG_N hF0).tr ((FrG_u (by omega)).tr ((FrG_u (by omega)).tr ((FrG_u (by omega)).tr (FrG_u (by omega)))))
  have hR1 : RM (vN τ1) S := by
    rw [← hτ1, vN_u (by omega), vN_u (by omega), vN_u (by omega), vN_u (by omega)]; exact hR0
  have k1 : τ1 75 19 = ((2 * h : Nat) : Int) := by rw [F1.2 19 (by omega)]; exact h1
  have k2 : ∀ j, j < 60 → τ1 90 j = s j := fun j hj => by rw [F1.1 90 (by omega) (by omega)]; exact h2 j hj
  have hM3 : cq s (2 * h) ≤ 3 := cq_3 hP.1.2 hP.2.2.2
  have hM0 := cq_0 s (2 * h)
  have hop := fun Q => x_opens (L := L) hP.2.1 k1 k2 (fun j hj ho => by
    have := (hP.dk (i := j / 2) (by omega)).1
    rw [show 2 * (j / 2) + 1 = j by omega] at this
    exact this) none none Q
  obtain ⟨τ, e, hF, r⟩ := x_goDay2 (L := L) hP hg (l := l) hS hB0 hB rfl h 0 (by omega) τ1 none none none none none none k1 k2 hR1 (fun j hj => by omega) (by rw [← hτ1]; simp [up_rd, ou]) (by rw [← hτ1]; simp [up_rd, ou]) (by rw [← hτ1]; simp [up_rd, ou])
  refine ⟨τ, fun Q => ?_, F1.tr hF, r⟩
  rw [← e Q, e_167_0]
  simp only [brI, not_true_eq_false, true_implies, false_implies, implies_true, and_true, cTag, cTgt, cLen, true_and, Int.toNat_natCast, retI_I, retR_R, retV_N, retL_L, ne_eq, Int.reduceEq, not_false_eq_true, e0, hτ1]
  have st : ∀ b i : Int, X L 167 32 [some (xR 75), some (xI (g : Int)), some (xI l), some (xI b), some (xI i), none, none, none, none, none, none] [] τ1 Q = if cq s (2 * h) ≤ i then X L 167 54 [some (xR 75), some (xI (g : Int)), some (xI l), some (xI b), some (xI 0), none, none, none, none, none, none] [] τ1 Q else X L 167 32 [some (xR 75), some (xI (g : Int)), some (xI l), some (xI (w32 (b * 4))), some (xI (w32 (i + 1))), none, none, none, none, none, none] [] τ1 Q := by
    intro b i
    rw [e_167_32]
    simp only [brI, not_true_eq_false, true_implies, false_implies, implies_true, and_true, cTag, cTgt, cLen, true_and, Int.toNat_natCast, retI_I, retR_R, retV_N, retL_L, ne_eq, Int.reduceEq, not_false_eq_true, hop, e_167_51]
  have hz : cq s (2 * 0) = 0 := rfl
  rw [hz]
  rcases (show cq s (2 * h) = 0 ∨ cq s (2 * h) = 1 ∨ cq s (2 * h) = 2 ∨ cq s (2 * h) = 3 by omega) with hc | hc | hc | hc
  · rw [st, hc, if_pos (by omega)]; rfl
  · rw [st, hc, if_pos (by omega)]; rfl
  · rw [st, if_neg (by omega), st, if_pos (by rw [hc]; decide), hc]; rfl
  · rw [st, if_neg (by omega), st, if_neg (by rw [hc]; decide), st, if_pos (by rw [hc]; decide), hc]; rfl
end Days
