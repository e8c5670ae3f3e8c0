/-! the Model walks, buys, throws -/
section MT
variable {B : Int} {S σ : Mem} {L : Nat}
theorem x_walkM (hS : VS B S) (hB : B ≤ 900000) (hM : RM (vN σ) S) {p t : Nat} (hp : p < 4) (ht : S (8 + p) 0 = 1) (hm : ¬ mil S (S (8 + p) 2) t = 0) : ∃ τ, (∀ Q : PQ, X L 165 0 [some (xR 75), some (xI (p : Int)), some (xI (t : Int)), none, none, none, none, none, none] [] σ Q = Q none τ) ∧ RM (vN τ) (stW S p t) ∧ FrN σ τ := by
  obtain ⟨a1, a2, a3, a4, a5, a6, a7, a8, a9, a10, a11, a12⟩ := hS.p hp
  have hP := hM.pp p hp ht
  have ha := VP_at hS hp
  obtain ⟨a, hae⟩ : ∃ a : Nat, S (8 + p) 2 = (a : Int) := ⟨(S (8 + p) 2).toNat, by omega⟩
  have ha6 : a < 6 := by omega
  rw [hae] at hm
  have ht6 : t < 6 := by
    unfold mil at hm; split at hm
    · omega
    · exact absurd rfl hm
  have hat : a ≠ t := by
    intro e; rw [e] at hm; exact hm (mil_d hS t)
  have hm9 := mil_b hS a t
  have s1 : σ 92 p = (a : Int) := hP.pl.trans hae
  have s2 : σ 93 p = S (8 + p) 6 + 2 * S (8 + p) 7 := hP.sh
  have s3 : σ 94 (2 * p) = S (8 + p) 8 := hP.wl
  have s4 : σ 94 (2 * p + 1) = S (8 + p) 9 := hP.wr
  have s5 : σ 95 p = S (8 + p) 10 := hP.wk
  have s6 : σ 76 (6 * a + t) = mil S a t := by rw [mil_at ha6 ht6]; exact hM.mi _ (by omega)
  have h97 : ∀ j, j < 108 → 0 ≤ σ 97 j ∧ σ 97 j ≤ B := by
    intro j hj
    have e : σ 97 j = S 3 j := hM.tr j hj
    have q := (hS.tr (a := j / 3 / 6) (b := j / 3 % 6) (f := j % 3) (by omega) (by omega) (by omega)).1
    rw [show 3 * (6 * (j / 3 / 6) + j / 3 % 6) + j % 3 = j by omega] at q
    rw [e]; exact q
  have hb := bit_sh a7 a8
  obtain ⟨m, hme⟩ : ∃ m, mil S a t = m := ⟨_, rfl⟩
  rw [hme] at hm hm9 s6
  obtain ⟨f1, hf1⟩ : ∃ f1 : Nat, (if ¬ S (8 + p) 6 = 0 then 0 else 2) = f1 := ⟨_, rfl⟩
  obtain ⟨f2, hf2⟩ : ∃ f2 : Nat, (if ¬ S (8 + p) 7 = 0 then 1 else 2) = f2 := ⟨_, rfl⟩
  obtain ⟨e1, he1⟩ : ∃ e1 : Int, (if ¬ S (8 + p) 6 = 0 then m else 0) = e1 := ⟨_, rfl⟩
  obtain ⟨e2, he2⟩ : ∃ e2 : Int, (if ¬ S (8 + p) 7 = 0 then m else 0) = e2 := ⟨_, rfl⟩
  have hf1' : f1 < 3 := by rw [← hf1]; split <;> omega
  have hf2' : f2 < 3 := by rw [← hf2]; split <;> omega
  obtain ⟨σ1, hσ1⟩ : ∃ σ1, mst σ p 0 e1 m (3 * (6 * a + t) + f1) (3 * (6 * t + a) + f1) = σ1 := ⟨_, rfl⟩
  obtain ⟨σ2, hσ2⟩ : ∃ σ2, mst σ1 p 1 e2 m (3 * (6 * a + t) + f2) (3 * (6 * t + a) + f2) = σ2 := ⟨_, rfl⟩
  have k1 : ∀ o, o ≠ 94 → o ≠ 97 → σ1 o = σ o := by
    intro o h1 h2; funext j; rw [← hσ1]; simp only [mst]; rw [if_neg (by omega), if_neg (by omega)]
  have k2 : ∀ o, o ≠ 94 → o ≠ 97 → σ2 o = σ o := by
    intro o h1 h2; funext j; rw [← k1 o h1 h2, ← hσ2]; simp only [mst]; rw [if_neg (by omega), if_neg (by omega)]
  have w1 : ∀ j, σ1 94 j = if j = 2 * p then S (8 + p) 8 + e1 else σ 94 j := by
    intro j; rw [← hσ1]; simp only [mst, true_and, Nat.reduceEqDiff, false_and, if_false, Nat.add_zero, s3]
  have w2 : ∀ j, σ2 94 j = if j = 2 * p + 1 then S (8 + p) 9 + e2 else if j = 2 * p then S (8 + p) 8 + e1 else σ 94 j := by
    intro j; rw [← hσ2]; simp only [mst, true_and, Nat.reduceEqDiff, false_and, if_false, w1]
    rw [if_neg (show ¬ 2 * p + 1 = 2 * p by omega), s4]
  have v1 : ∀ j, σ1 97 j = if j = 3 * (6 * a + t) + f1 ∨ j = 3 * (6 * t + a) + f1 then σ 97 j + m else σ 97 j := by
    intro j; rw [← hσ1]; simp only [mst, true_and, Nat.reduceEqDiff, false_and, if_false]
  have v2 : ∀ j, σ2 97 j = if j = 3 * (6 * a + t) + f2 ∨ j = 3 * (6 * t + a) + f2 then σ1 97 j + m else σ1 97 j := by
    intro j; rw [← hσ2]; simp only [mst, true_and, Nat.reduceEqDiff, false_and, if_false]
  obtain ⟨τ, hτ⟩ : ∃ τ, up (up σ2 95 p (S (8 + p) 10 + m)) 92 p (t : Int) = τ := ⟨_, rfl⟩
  have kt : ∀ o, o ≠ 92 → o ≠ 95 → τ o = σ2 o := by
    intro o h1 h2; funext j; rw [← hτ]; simp only [up_rd]; rw [if_neg (by omega), if_neg (by omega)]
  have t92 : ∀ j, τ 92 j = if j = p then (t : Int) else σ 92 j := by
    intro j; rw [← hτ, ← k2 92 (by omega) (by omega)]; simp [up_rd]
  have t95 : ∀ j, τ 95 j = if j = p then S (8 + p) 10 + m else σ 95 j := by
    intro j; rw [← hτ, ← k2 95 (by omega) (by omega)]; simp [up_rd]
  refine ⟨τ, fun Q => ?_, ?_, ?_⟩
  · obtain ⟨q1, g1, E1⟩ := x_walkS (L := L) (σ := σ) (p := p) (s := 0) (r1 := 6 * a + t) (r2 := 6 * t + a) (t := (t : Int)) (m := m) hp (by omega) (by omega) (by omega) (by omega) (¬ S (8 + p) 6 = 0) (by rw [s2]; exact hb.1) hm9 (by rw [show 2 * p + 0 = 2 * p from rfl, s3]; omega) (fun j hj => by have := h97 j hj; omega) none none Q
    rw [hf1, he1, hσ1] at E1
    obtain ⟨q2, g2, E2⟩ := x_walkS (L := L) (σ := σ1) (p := p) (s := 1) (r1 := 6 * a + t) (r2 := 6 * t + a) (t := (t : Int)) (m := m) hp (by omega) (by omega) (by omega) (by omega) (¬ S (8 + p) 7 = 0) (by rw [k1 93 (by omega) (by omega), s2]; exact hb.2) hm9 (by rw [w1, if_neg (by omega), s4]; omega) (fun j hj => by
      rw [v1]; have := h97 j hj
      split <;> omega) (some (xI q1)) (some (xI g1)) Q
    rw [hf2, he2, hσ2] at E2
    rw [e_165_0]
    simp only [brI, not_true_eq_false, true_implies, false_implies, implies_true, and_true, cTag, cTgt, cLen, true_and, Int.toNat_natCast, retI_I, retR_R, retV_N, retL_L, ne_eq, Int.reduceEq, not_false_eq_true, s1]
    simp (disch := omega) only [w32_id, inb, true_and, Int.toNat_add, Int.toNat_mul, Int.toNat_natCast, Int.reduceToNat, s6]
    have c1 : (6 * (a : Int) + (t : Int)) = ((6 * a + t : Nat) : Int) := by omega
    have c2 : (6 * (t : Int) + (a : Int)) = ((6 * t + a : Nat) : Int) := by omega
    rw [c1, c2]
    refine Eq.trans E1 (Eq.trans E2 ?_)
    rw [e_165_36]
    simp only [brI, not_true_eq_false, true_implies, false_implies, implies_true, and_true, cTag, cTgt, cLen, true_and, Int.toNat_natCast, retI_I, retR_R, retV_N, retL_L, ne_eq, Int.reduceEq, not_false_eq_true]
    rw [if_pos (by omega), e_165_132]
    simp only [brI, not_true_eq_false, true_implies, false_implies, implies_true, and_true, cTag, cTgt, cLen, true_and, Int.toNat_natCast, retI_I, retR_R, retV_N, retL_L, ne_eq, Int.reduceEq, not_false_eq_true, k2 95 (by omega) (by omega), s5]
    simp (disch := omega) only [w32_id, inb, true_and]
    rw [hτ]
  · unfold stW
    have hx1 : (if S (8 + p) 6 = 0 then 2 else 0) = f1 := by rw [← hf1]; split <;> simp_all
    have hx2 : (if S (8 + p) 7 = 0 then 2 else 1) = f2 := by rw [← hf2]; split <;> simp_all
    rw [hx1, hx2, hae, Int.toNat_natCast, hme]
    have g1 : RM (fun k j => if k = 3 then τ 97 j else vN σ k j) (trd (trd S a t f1 m) a t f2 m) := by
      refine RM_k (f := vN σ) hM ?_ ?_ ?_ ?_
      · intro k j h3 h6; rw [trd_lo h3, trd_lo h3]
      · intro k j h3 h6; show (if k = 3 then τ 97 j else vN σ k j) = _; rw [if_neg h3]
      · intro j hj
        show (if (3 : Nat) = 3 then τ 97 j else vN σ 3 j) = _
        rw [if_pos rfl, kt 97 (by omega) (by omega), v2, v1]
        have e : σ 97 j = S 3 j := hM.tr j hj
        rw [e]
        simp only [trd, true_and]
      · intro j hj
        show (if (6 : Nat) = 3 then τ 97 j else vN σ 6 j) = _
        rw [if_neg (by omega), trd_lo (by omega), trd_lo (by omega)]; exact hM.st j hj
    refine RM_pw g1 hp ?_ ?_ ?_ ?_ ?_
    · rw [trd_lo (by omega), trd_lo (by omega)]; simp [fW]
    · intro k j hk
      by_cases c3 : k = 3
      · subst c3; simp [vN]
      · rw [if_neg c3]
        rcases (show k = 0 ∨ k = 1 ∨ k = 2 ∨ k = 4 ∨ k = 5 ∨ k = 6 ∨ k = 7 by omega) with rfl | rfl | rfl | rfl | rfl | rfl | rfl
        · unfold vN; simp only [kt 75 (by omega) (by omega), k2 75 (by omega) (by omega)]
        all_goals simp only [vN, kt _ (show (76 : Nat) ≠ 92 by omega) (by omega), kt _ (show (77 : Nat) ≠ 92 by omega) (by omega), kt _ (show (79 : Nat) ≠ 92 by omega) (by omega), kt _ (show (80 : Nat) ≠ 92 by omega) (by omega), kt _ (show (96 : Nat) ≠ 92 by omega) (by omega), kt _ (show (89 : Nat) ≠ 92 by omega) (by omega), k2 76 (by omega) (by omega), k2 77 (by omega) (by omega), k2 79 (by omega) (by omega), k2 80 (by omega) (by omega), k2 96 (by omega) (by omega), k2 89 (by omega) (by omega)]
    · intro q hq hne k h1 h2
      rw [if_neg (by omega)]
      by_cases c : k = 9 ∨ k = 13
      · exact Or.inr c
      · left
        rcases (show k = 8 ∨ k = 10 ∨ k = 11 ∨ k = 12 ∨ k = 14 by omega) with rfl | rfl | rfl | rfl | rfl
        · simp only [vN, kt 82 (by omega) (by omega), k2 82 (by omega) (by omega)]
        · simp only [vN, kt 91 (by omega) (by omega), k2 91 (by omega) (by omega)]
        · simp only [vN, t92, if_neg hne]
        · simp only [vN, kt 93 (by omega) (by omega), k2 93 (by omega) (by omega)]
        · simp only [vN, t95, if_neg hne]
    · intro q hq hne k h1
      rw [if_neg (by omega), if_neg (by omega)]
      rcases h1 with rfl | rfl
      · simp only [vN, kt 83 (by omega) (by omega), k2 83 (by omega) (by omega), and_self]
      · simp only [vN, kt 94 (by omega) (by omega), w2]
        rw [if_neg (by omega), if_neg (by omega), if_neg (by omega), if_neg (by omega)]
        exact ⟨rfl, rfl⟩
    · intro _
      have z : ∀ j, trd (trd S a t f1 m) a t f2 m (8 + p) j = S (8 + p) j := fun j => by rw [trd_lo (by omega), trd_lo (by omega)]
      have u : ∀ j, pw (trd (trd S a t f1 m) a t f2 m) (8 + p) (fW (S (8 + p)) m t) (8 + p) j = fW (S (8 + p)) m t j := fun j => by simp [pw]
      refine ⟨?_, ?_, ?_, ?_, ?_, ?_, ?_, ?_, ?_⟩
      · rw [u]; simp only [vN, kt 82 (by omega) (by omega), k2 82 (by omega) (by omega)]; exact hP.ho
      · rw [u]; simp only [vN, kt 83 (by omega) (by omega), k2 83 (by omega) (by omega)]; exact hP.fl
      · rw [u]; simp only [vN, kt 83 (by omega) (by omega), k2 83 (by omega) (by omega)]; exact hP.fr
      · rw [u]; simp only [vN, kt 91 (by omega) (by omega), k2 91 (by omega) (by omega)]; exact hP.pu
      · rw [u]; simp only [vN, t92, if_true]; rfl
      · rw [u, u]; simp only [vN, kt 93 (by omega) (by omega), k2 93 (by omega) (by omega), s2]; rfl
      · rw [u]; simp only [vN, kt 94 (by omega) (by omega), w2]
        rw [if_neg (by omega), if_pos trivial, ← he1]
        show _ = if S (8 + p) 6 = 0 then S (8 + p) 8 else S (8 + p) 8 + m
        by_cases c : S (8 + p) 6 = 0 <;> simp [c]
      · rw [u]; simp only [vN, kt 94 (by omega) (by omega), w2]
        rw [if_pos trivial, ← he2]
        show _ = if S (8 + p) 7 = 0 then S (8 + p) 9 else S (8 + p) 9 + m
        by_cases c : S (8 + p) 7 = 0 <;> simp [c]
      · rw [u]; simp only [vN, t95, if_true]; rfl
  · intro o ho; rw [kt o (by omega) (by omega), k2 o (by omega) (by omega)]
theorem or_sh {x y s : Int} (hx : x = 0 ∨ x = 1) (hy : y = 0 ∨ y = 1) (hs : s = 1 ∨ s = 2) : or32 (x + 2 * y) s = (if s = 1 then 1 else x) + 2 * (if s = 1 then y else 1) := by
  rcases hx with rfl | rfl <;> rcases hy with rfl | rfl <;> rcases hs with rfl | rfl <;> decide
theorem x_buyM (hS : VS B S) (hM : RM (vN σ) S) {p : Nat} (hp : p < 4) (ht : S (8 + p) 0 = 1) (hw : whyB S p = 0) : ∃ τ, (∀ Q : PQ, X L 166 0 [some (xR 75), some (xI (p : Int)), none, none] [] σ Q = Q none τ) ∧ RM (vN τ) (stB S p) ∧ FrN σ τ := by
  obtain ⟨a1, a2, a3, a4, a5, a6, a7, a8, a9, a10, a11, a12⟩ := hS.p hp
  have hP := hM.pp p hp ht
  have ha := VP_at hS hp
  obtain ⟨a, hae⟩ : ∃ a : Nat, S (8 + p) 2 = (a : Int) := ⟨(S (8 + p) 2).toNat, by omega⟩
  have ha6 : a < 6 := by omega
  unfold whyB at hw
  unfold stB
  rw [hae, g1_at ha6, g1_at ha6] at hw
  rw [hae, g1_at ha6, g1_at ha6, Int.toNat_natCast]
  have s1 : σ 92 p = (a : Int) := hP.pl.trans hae
  have hsd : σ 79 a = S 4 a := hM.sd a ha6
  have hpr : σ 80 a = S 5 a := hM.pr a ha6
  have hpu : σ 91 p = S (8 + p) 5 := hP.pu
  have hsh : σ 93 p = S (8 + p) 6 + 2 * S (8 + p) 7 := hP.sh
  have hs := hS.2.2.2.2.2.2.2.1 a ha6
  have hp5 := hS.2.2.2.2.2.2.2.2.1 a ha6
  generalize hse : S 4 a = s at *
  generalize hpe : S 5 a = pr at *
  have c1 : ¬ (s = 0 ∨ stk S a (szo (S (8 + p)) s) ≤ 0) := by intro c; rw [if_pos c] at hw; omega
  rw [if_neg c1] at hw
  have c2 : wrs (S (8 + p)) s = 0 := Classical.byContradiction (fun c => by rw [if_pos c] at hw; omega)
  rw [if_neg (fun q => q c2)] at hw
  have hs12 : s = 1 ∨ s = 2 := by omega
  have hz : σ 83 (2 * p + s.toNat - 1) = szo (S (8 + p)) s := by
    have z1 : σ 83 (2 * p) = S (8 + p) 3 := hP.fl
    have z2 : σ 83 (2 * p + 1) = S (8 + p) 4 := hP.fr
    unfold szo
    rcases hs12 with rfl | rfl <;> simp [z1, z2]
  have hzb : 0 ≤ szo (S (8 + p)) s ∧ szo (S (8 + p)) s ≤ 4 := by unfold szo; split <;> omega
  obtain ⟨z, hze⟩ : ∃ z : Nat, szo (S (8 + p)) s = (z : Int) := ⟨(szo (S (8 + p)) s).toNat, by omega⟩
  rw [hze] at hz c1 hzb ⊢
  rw [Int.toNat_natCast]
  have hst : σ 96 (5 * a + z) = stk S a z := by rw [stk_at ha6 (by omega)]; exact hM.st _ (by omega)
  have hnn := hS.2.2.2.2.2.2.2.2.2.1 (5 * a + z) (by omega)
  rw [← stk_at (S := S) ha6 (show z < 5 by omega)] at hnn
  generalize hke : stk S a z = k at *
  obtain ⟨τ, hτ⟩ : ∃ τ, up (up (up (up σ 96 (5 * a + z) (k - 1)) 91 p (S (8 + p) 5 - pr)) 93 p (or32 (S (8 + p) 6 + 2 * S (8 + p) 7) s)) 94 (2 * p + s.toNat - 1) 0 = τ := ⟨_, rfl⟩
  have kt : ∀ o, o ≠ 96 → o ≠ 91 → o ≠ 93 → o ≠ 94 → τ o = σ o := by
    intro o h1 h2 h3 h4; funext j; rw [← hτ]; simp only [up_rd]; rw [if_neg (by omega), if_neg (by omega), if_neg (by omega), if_neg (by omega)]
  have t96 : ∀ j, τ 96 j = if j = 5 * a + z then k - 1 else σ 96 j := by intro j; rw [← hτ]; simp [up_rd]
  have t91 : ∀ j, τ 91 j = if j = p then S (8 + p) 5 - pr else σ 91 j := by intro j; rw [← hτ]; simp [up_rd]
  have t93 : ∀ j, τ 93 j = if j = p then or32 (S (8 + p) 6 + 2 * S (8 + p) 7) s else σ 93 j := by intro j; rw [← hτ]; simp [up_rd]
  have t94 : ∀ j, τ 94 j = if j = 2 * p + s.toNat - 1 then 0 else σ 94 j := by intro j; rw [← hτ]; simp [up_rd]
  refine ⟨τ, fun Q => ?_, ?_, ?_⟩
  · rw [e_166_0]
    simp only [brI, not_true_eq_false, true_implies, false_implies, implies_true, and_true, cTag, cTgt, cLen, true_and, Int.toNat_natCast, retI_I, retR_R, retV_N, retL_L, ne_eq, Int.reduceEq, not_false_eq_true, s1, hsd]
    simp only [w32_id (x := 2 * (p : Int)) (by omega) (by omega), w32_id (x := 2 * (p : Int) + s) (by omega) (by omega), w32_id (x := 2 * (p : Int) + s - 1) (by omega) (by omega), show (2 * (p : Int) + s - 1).toNat = 2 * p + s.toNat - 1 by omega, hz, w32_id (x := 5 * (a : Int)) (by omega) (by omega), w32_id (x := 5 * (a : Int) + (z : Int)) (by omega) (by omega), show (5 * (a : Int) + (z : Int)).toNat = 5 * a + z by omega, hst, up_rd, Nat.reduceEqDiff, false_and, if_false, hpr, hpu, hsh, w32_id (x := k - 1) (by omega) (by omega), w32_id (x := S (8 + p) 5 - pr) (by omega) (by omega), show (0 ≤ 2 * (p : Int) + s - 1 ∧ 2 * (p : Int) + s - 1 < 8) by omega, show (0 ≤ 5 * (a : Int) + (z : Int) ∧ 5 * (a : Int) + (z : Int) < 30) by omega, show (0 ≤ (p : Int) ∧ (p : Int) < 4) by omega, show (0 ≤ (a : Int) ∧ (a : Int) < 6) by omega, true_and]
    rw [hτ]
  · have g1 : RM (fun x j => if x = 6 then τ 96 j else vN σ x j) (up S 6 (5 * a + z) (k - 1)) := by
      refine RM_k (f := vN σ) hM ?_ ?_ ?_ ?_
      · intro x j h3 h6; simp only [up_rd]; rw [if_neg (by omega)]
      · intro x j h3 h6; show (if x = 6 then τ 96 j else vN σ x j) = _; rw [if_neg h6]
      · intro j hj
        show (if (3 : Nat) = 6 then τ 96 j else vN σ 3 j) = _
        rw [if_neg (by omega)]; simp only [up_rd]; rw [if_neg (by omega)]; exact hM.tr j hj
      · intro j hj
        show (if (6 : Nat) = 6 then τ 96 j else vN σ 6 j) = _
        rw [if_pos rfl, t96]
        have e : σ 96 j = S 6 j := hM.st j hj
        rw [e]; simp only [up_rd, true_and]
    have z8 : ∀ j, up S 6 (5 * a + z) (k - 1) (8 + p) j = S (8 + p) j := fun j => by simp only [up_rd]; rw [if_neg (by omega)]
    refine RM_pw g1 hp ?_ ?_ ?_ ?_ ?_
    · rw [z8]; simp [fB]
    · intro x j hx
      by_cases c6 : x = 6
      · subst c6; simp [vN]
      · rw [if_neg c6]
        rcases (show x = 0 ∨ x = 1 ∨ x = 2 ∨ x = 3 ∨ x = 4 ∨ x = 5 ∨ x = 7 by omega) with rfl | rfl | rfl | rfl | rfl | rfl | rfl
        · unfold vN; simp only [kt 75 (by omega) (by omega) (by omega) (by omega)]
        all_goals simp only [vN, kt 76 (by omega) (by omega) (by omega) (by omega), kt 77 (by omega) (by omega) (by omega) (by omega), kt 97 (by omega) (by omega) (by omega) (by omega), kt 79 (by omega) (by omega) (by omega) (by omega), kt 80 (by omega) (by omega) (by omega) (by omega), kt 89 (by omega) (by omega) (by omega) (by omega)]
    · intro q hq hne x h1 h2
      rw [if_neg (by omega)]
      by_cases c : x = 9 ∨ x = 13
      · exact Or.inr c
      · left
        rcases (show x = 8 ∨ x = 10 ∨ x = 11 ∨ x = 12 ∨ x = 14 by omega) with rfl | rfl | rfl | rfl | rfl
        · simp only [vN, kt 82 (by omega) (by omega) (by omega) (by omega)]
        · simp only [vN, t91, if_neg hne]
        · simp only [vN, kt 92 (by omega) (by omega) (by omega) (by omega)]
        · simp only [vN, t93, if_neg hne]
        · simp only [vN, kt 95 (by omega) (by omega) (by omega) (by omega)]
    · intro q hq hne x h1
      rw [if_neg (by omega), if_neg (by omega)]
      rcases h1 with rfl | rfl
      · simp only [vN, kt 83 (by omega) (by omega) (by omega) (by omega), and_self]
      · simp only [vN, t94]
        rw [if_neg (by omega), if_neg (by omega)]
        exact ⟨rfl, rfl⟩
    · intro _
      have u : ∀ j, pw (up S 6 (5 * a + z) (k - 1)) (8 + p) (fB (S (8 + p)) s pr) (8 + p) j = fB (S (8 + p)) s pr j := fun j => by simp [pw]
      have d1 : s = 1 → S (8 + p) 8 = 0 := fun e => a12.1 (by unfold wrs at c2; rw [if_pos e] at c2; exact c2)
      have d2 : ¬ s = 1 → S (8 + p) 9 = 0 := fun e => a12.2 (by unfold wrs at c2; rw [if_neg e] at c2; exact c2)
      refine ⟨?_, ?_, ?_, ?_, ?_, ?_, ?_, ?_, ?_⟩
      · rw [u]; simp only [vN, kt 82 (by omega) (by omega) (by omega) (by omega)]; refine hP.ho.trans ?_; simp [fB]
      · rw [u]; simp only [vN, kt 83 (by omega) (by omega) (by omega) (by omega)]; refine hP.fl.trans ?_; simp [fB]
      · rw [u]; simp only [vN, kt 83 (by omega) (by omega) (by omega) (by omega)]; refine hP.fr.trans ?_; simp [fB]
      · rw [u]; simp only [vN, t91, if_true]; simp [fB]
      · rw [u]; simp only [vN, kt 92 (by omega) (by omega) (by omega) (by omega)]; refine hP.pl.trans ?_; simp [fB]
      · rw [u, u]; simp only [vN, t93, if_true, or_sh a7 a8 hs12]; simp [fB]
      · rw [u]; simp only [vN, t94]
        have e : σ 94 (2 * p) = S (8 + p) 8 := hP.wl
        rw [e]
        show _ = (if s = 1 then S (8 + p) 8 else S (8 + p) 8)
        split <;> split <;> omega
      · rw [u]; simp only [vN, t94]
        have e : σ 94 (2 * p + 1) = S (8 + p) 9 := hP.wr
        rw [e]
        show _ = (if s = 1 then S (8 + p) 9 else S (8 + p) 9)
        split <;> split <;> omega
      · rw [u]; simp only [vN, kt 95 (by omega) (by omega) (by omega) (by omega)]; refine hP.wk.trans ?_; simp [fB]
  · intro o ho; exact kt o (by omega) (by omega) (by omega) (by omega)
theorem x_thrM (hM : RM (vN σ) S) {p : Nat} (hp : p < 4) : RM (vN (up (up (up σ 93 p 0) 94 (2 * p) 0) 94 (2 * p + 1) 0)) (pw S (8 + p) (fTh (S (8 + p)))) ∧ FrN σ (up (up (up σ 93 p 0) 94 (2 * p) 0) 94 (2 * p + 1) 0) := by
  obtain ⟨τ, hτ⟩ : ∃ τ, up (up (up σ 93 p 0) 94 (2 * p) 0) 94 (2 * p + 1) 0 = τ := ⟨_, rfl⟩
  have kt : ∀ o, o ≠ 93 → o ≠ 94 → τ o = σ o := by
    intro o h1 h2; funext j; rw [← hτ]; simp only [up_rd]; rw [if_neg (by omega), if_neg (by omega), if_neg (by omega)]
  have t93 : ∀ j, τ 93 j = if j = p then 0 else σ 93 j := by intro j; rw [← hτ]; simp [up_rd]
  have t94 : ∀ j, τ 94 j = if j = 2 * p + 1 then 0 else if j = 2 * p then 0 else σ 94 j := by intro j; rw [← hτ]; simp [up_rd]
  rw [hτ]
  refine ⟨?_, fun o ho => kt o (by omega) (by omega)⟩
  refine RM_pw hM hp ?_ ?_ ?_ ?_ ?_
  · simp [fTh]
  · intro x j hx
    rcases (show x = 0 ∨ x = 1 ∨ x = 2 ∨ x = 3 ∨ x = 4 ∨ x = 5 ∨ x = 6 ∨ x = 7 by omega) with rfl | rfl | rfl | rfl | rfl | rfl | rfl | rfl
    · unfold vN; simp only [kt 75 (by omega) (by omega)]
    all_goals simp only [vN, kt 76 (by omega) (by omega), kt 77 (by omega) (by omega), kt 97 (by omega) (by omega), kt 79 (by omega) (by omega), kt 80 (by omega) (by omega), kt 96 (by omega) (by omega), kt 89 (by omega) (by omega)]
  · intro q hq hne x h1 h2
    by_cases c : x = 9 ∨ x = 13
    · exact Or.inr c
    · left
      rcases (show x = 8 ∨ x = 10 ∨ x = 11 ∨ x = 12 ∨ x = 14 by omega) with rfl | rfl | rfl | rfl | rfl
      · simp only [vN, kt 82 (by omega) (by omega)]
      · simp only [vN, kt 91 (by omega) (by omega)]
      · simp only [vN, kt 92 (by omega) (by omega)]
      · simp only [vN, t93, if_neg hne]
      · simp only [vN, kt 95 (by omega) (by omega)]
  · intro q hq hne x h1
    rcases h1 with rfl | rfl
    · simp only [vN, kt 83 (by omega) (by omega), and_self]
    · simp only [vN, t94]
      rw [if_neg (by omega), if_neg (by omega), if_neg (by omega), if_neg (by omega)]
      exact ⟨rfl, rfl⟩
  · intro ht
    have hP := hM.pp p hp ht
    have u : ∀ j, pw S (8 + p) (fTh (S (8 + p))) (8 + p) j = fTh (S (8 + p)) j := fun j => by simp [pw]
    refine ⟨?_, ?_, ?_, ?_, ?_, ?_, ?_, ?_, ?_⟩
    · rw [u]; simp only [vN, kt 82 (by omega) (by omega)]; refine hP.ho.trans ?_; simp [fTh]
    · rw [u]; simp only [vN, kt 83 (by omega) (by omega)]; refine hP.fl.trans ?_; simp [fTh]
    · rw [u]; simp only [vN, kt 83 (by omega) (by omega)]; refine hP.fr.trans ?_; simp [fTh]
    · rw [u]; simp only [vN, kt 91 (by omega) (by omega)]; refine hP.pu.trans ?_; simp [fTh]
    · rw [u]; simp only [vN, kt 92 (by omega) (by omega)]; refine hP.pl.trans ?_; simp [fTh]
    · rw [u, u]; simp only [vN, t93, if_true]; simp [fTh]
    · rw [u]; simp only [vN, t94]; rw [if_neg (by omega)]; simp [fTh]
    · rw [u]; simp only [vN, t94]; simp [fTh]
    · rw [u]; simp only [vN, kt 95 (by omega) (by omega)]; refine hP.wk.trans ?_; simp [fTh]
end MT
