/-! SHUT, the class -/
section CShut
variable {B : Int} {S σ τ : Mem} {L v : Nat} {T : Ful}
def stw (S : Mem) : Nat → Nat
  | 0 => 0
  | x + 1 => stw S x ||| (if S 4 x = 0 then 0 else 2 ^ x)
theorem stw_b (S : Mem) : ∀ x, stw S x < 2 ^ x := by
  intro x
  induction x with
  | zero => exact Nat.lt_add_one _
  | succ x ih =>
    simp only [stw]
    have h1 : 2 ^ x < 2 ^ (x + 1) := Nat.pow_lt_pow_right (by omega) (by omega)
    refine Nat.or_lt_two_pow (by omega) ?_
    split <;> omega
theorem stw_64 (S : Mem) {n : Nat} (hn : n ≤ 6) : stw S n < 64 := Nat.lt_of_lt_of_le (stw_b S n) (Nat.pow_le_pow_right (n := 2) (by omega) hn)
theorem x_stw (hR : RC 1 S σ) (hS : VS B S) {n : Nat} (hn : (n : Int) = S 0 0) (Q : PQ) : X L 14 0 [some (xR 1), none, none] [] σ Q = Q (some (xI (stw S n : Int))) σ := by
  have hn6 := hS.1
  have e0 := hR.1 0 (by omega)
  have h := lpF (n := n) (fun i (x : Nat) Q => X L 14 4 [some (xR 1), some (xI (x : Int)), some (xI (i : Int))] [] σ Q) (fun i => stw S i) (by
    intro i hi Q
    show X L 14 4 [some (xR 1), some (xI (stw S i : Int)), some (xI (i : Int))] [] σ Q = X L 14 4 [some (xR 1), some (xI ((stw S i ||| (if S 4 i = 0 then 0 else 2 ^ i) : Nat) : Int)), some (xI ((i + 1 : Nat) : Int))] [] σ Q
    have hb := stw_64 S (n := i) (by omega)
    have h2 : 2 ^ i ≤ 2 ^ 6 := Nat.pow_le_pow_right (by omega) (by omega)
    have h2 : 2 ^ i ≤ 64 := h2
    have hsd := fun Q => x_sideAt (L := L) iV1 hR (i : Int) Q
    rw [g1_at (show i < 6 by omega)] at hsd
    rw [e_14_4]
    simp only [brI, not_true_eq_false, true_implies, false_implies, implies_true, and_true, cTag, cTgt, cLen, true_and, Int.toNat_natCast, retI_I, retR_R, retV_N, retL_L, ne_eq, Int.reduceEq, not_false_eq_true, e0, hsd, e_14_25, e_14_28, shl32_n (show i < 31 by omega), w32_id (x := (i : Int) + 1) (by omega) (by omega)]
    rw [if_neg (by omega)]
    by_cases c : S 4 i = 0
    · rw [if_neg (fun q => q c), if_pos c, show (0 : Int) = ((0 : Nat) : Int) from rfl, or32_n (by omega) (by omega)]; rfl
    · rw [if_pos c, if_neg c, or32_n (by omega) (by omega)]; rfl)
  rw [e_14_0]
  refine Eq.trans (h Q) ?_
  show X L 14 4 [some (xR 1), some (xI (stw S n : Int)), some (xI (n : Int))] [] σ Q = _
  rw [e_14_4]
  simp only [brI, not_true_eq_false, true_implies, false_implies, implies_true, and_true, cTag, cTgt, cLen, true_and, Int.toNat_natCast, retI_I, retR_R, retV_N, retL_L, ne_eq, Int.reduceEq, not_false_eq_true, e0]
  rw [if_pos (by omega), e_14_36]
theorem plE_ok (hS : VS B S) {p o n : Nat} (hn : n ≤ 6) : ∀ x, x ≤ n → okE (plE S p o n x) := by
  intro x
  induction x with
  | zero => intro _; exact Or.inl rfl
  | succ x ih =>
    intro hx
    have h5 := hS.2.2.2.2.2.2.2.2.1 x (by omega)
    have := ih (by omega)
    simp only [plE]
    split
    · split
      · exact ofE_ok hS h5.1 (d1_b hS p x).1 this
      · exact sec_ok hS (by omega) this n hn
    · exact this
theorem shd_ok (hS : VS B S) {p o n : Nat} (hn : n ≤ 6) : okE (shd S p o n) := by
  unfold shd
  split
  · exact ofE_ok hS (by omega) (dd_b hS _ _ _).1 (Or.inl rfl)
  · exact plE_ok hS hn n (Nat.le_refl _)
abbrev smC (S : Mem) (p k n o : Nat) : Prop := and32 (o : Int) (xor32 (k : Int) (-1)) = 0 ∧ ¬ shd S p o n 0 = -6
def wsm (S : Mem) (p k w n : Nat) : Nat → Nat
  | 0 => 0
  | o + 1 => wsm S p k w n o + (if smC S p k n o then wp k o w 6 else 0)
theorem wp6 (k o : Nat) {w : Nat} (hw : w ≤ 10) : wp k o w 6 ≤ 1000000 := wp_b k o hw 6
theorem wsm_b (S : Mem) (p k n : Nat) {w : Nat} (hw : w ≤ 10) : ∀ o, wsm S p k w n o ≤ 1000000 * o := by
  intro o
  induction o with
  | zero => exact Nat.le_refl _
  | succ o ih =>
    have h := wp6 k o hw
    simp only [wsm]
    split <;> omega
def FrZ8 (σ τ : Mem) : Prop := ∀ o, o ≠ 38 → τ o = σ o
theorem FrZ8.tr {a b c : Mem} (h1 : FrZ8 a b) (h2 : FrZ8 b c) : FrZ8 a c := fun o h => (h2 o h).trans (h1 o h)
theorem FrZ8.wr (j : Nat) (x : Int) : FrZ8 σ (up σ 38 j x) := by
  intro o ho; funext i; rw [up_rd, if_neg (by omega)]
def shU (S : Mem) (p w n : Nat) : Nat := wsm S p (stw S n) w n 64
def shL (S : Mem) (n : Nat) : Nat := 10 ^ pc (stw S n)
def shG (S : Mem) (p w n : Nat) : Nat := Nat.gcd (shU S p w n) (shL S n)
theorem shL_b (S : Mem) {n : Nat} (hn : n ≤ 6) : 1 ≤ shL S n ∧ shL S n ≤ 1000000 := by
  have h := (pc6 (stw S n) (stw_64 S hn)).2
  unfold shL
  have h1 : 10 ^ pc (stw S n) ≤ 10 ^ 6 := Nat.pow_le_pow_right (by omega) h
  exact ⟨Nat.one_le_pow _ _ (by omega), h1⟩
theorem x_weigh (hR : RC 1 S σ) (hS : VS B S) (hB : B ≤ 1000000) (hL : LdC S σ) {p n w : Nat} (hp : PsV S p n) (hw : w ≤ 10) : ∃ τ, (∀ Q : PQ, X L 13 0 [some (xR 38), some (xR 1), some (xR 36), some (xR (1 + 11 + p)), some (xI (w : Int)), none, none, none] [] σ Q = Q none τ) ∧ FrZ8 σ τ ∧ τ 38 4 = ((shU S p w n / shG S p w n : Nat) : Int) ∧ τ 38 5 = ((shL S n / shG S p w n : Nat) : Int) := by
  obtain ⟨p1, p2, p3, p4, p5, p6⟩ := id hp
  have hn6 := hS.1
  have hk := stw_64 S (n := n) (by omega)
  obtain ⟨k, hke⟩ : ∃ k, stw S n = k := ⟨_, rfl⟩
  have hlb := shL_b S (n := n) (by omega)
  have hpc := pc6 (stw S n) hk
  have hkd := x_stw (L := L) hR hS p2
  unfold shG shU
  unfold shL at hlb ⊢
  rw [hke] at hk hlb hpc hkd ⊢
  obtain ⟨σ0, hσ0⟩ : ∃ σ0, up (up σ 38 4 0) 38 5 1 = σ0 := ⟨_, rfl⟩
  have F0 : FrZ8 σ σ0 := by rw [← hσ0]; exact (FrZ8.wr 4 0).tr (FrZ8.wr 5 1)
  have z4 : σ0 38 4 = ((0 : Nat) : Int) := by rw [← hσ0]; simp [up_rd]
  have z5 : σ0 38 5 = ((1 : Nat) : Int) := by rw [← hσ0]; simp [up_rd]
  obtain ⟨ρ, e1, hF1, h14, h15⟩ := lpE (n := 64) (fun o (ρ : Mem) Q => X L 13 19 [some (xR 38), some (xR 1), some (xR 36), some (xR (1 + 11 + p)), some (xI (w : Int)), some (xI (k : Int)), some (xI (o : Int)), none] [] ρ Q) (fun o ρ => FrZ8 σ ρ ∧ ρ 38 4 = (wsm S p k w n o : Int) ∧ ρ 38 5 = ((1 : Nat) : Int)) (by
    intro o ρ ho ⟨hF, h4, h5⟩
    have hb := wsm_b S p k n hw o
    have hb6 := wp6 k o hw
    have nx : ∀ (ρ : Mem) (Q : PQ), X L 13 76 [some (xR 38), some (xR 1), some (xR 36), some (xR (1 + 11 + p)), some (xI (w : Int)), some (xI (k : Int)), some (xI (o : Int)), none] [] ρ Q = X L 13 19 [some (xR 38), some (xR 1), some (xR 36), some (xR (1 + 11 + p)), some (xI (w : Int)), some (xI (k : Int)), some (xI ((o + 1 : Nat) : Int)), none] [] ρ Q := by
      intro ρ Q; rw [e_13_76, w32_id (by omega) (by omega)]; rfl
    by_cases c1 : and32 (o : Int) (xor32 (k : Int) (-1)) = 0
    · have hRr : RC 1 S ρ := RC_eq (fun q hq => hF q (by omega)) hR
      have hLr : LdC S ρ := fun l a b h1 h2 h3 => by rw [hF 37 (by omega)]; exact hL l a b h1 h2 h3
      obtain ⟨ρ1, e1, hF1, hH1⟩ := x_plan (L := L) hRr hS hB hLr hp ho
      have g0 := hH1 0 (by omega)
      have g4 : ρ1 38 4 = (wsm S p k w n o : Int) := (hF1.2 4 (by omega)).trans h4
      have g5 : ρ1 38 5 = ((1 : Nat) : Int) := (hF1.2 5 (by omega)).trans h5
      have hFr : FrZ8 σ ρ1 := hF.tr hF1.1
      by_cases c2 : shd S p o n 0 = -6
      · have u : wsm S p k w n (o + 1) = wsm S p k w n o := by
          simp only [wsm]; rw [if_neg (fun q => q.2 c2)]; rfl
        refine ⟨up ρ1 38 4 (wsm S p k w n (o + 1) : Int), fun Q => ?_, hFr.tr (FrZ8.wr _ _), by simp [up_rd], by rw [up_rd, if_neg (by omega)]; exact g5⟩
        rw [e_13_19]
        simp only [brI, not_true_eq_false, true_implies, false_implies, implies_true, and_true, cTag, cTgt, cLen, true_and, Int.toNat_natCast, retI_I, retR_R, retV_N, retL_L, ne_eq, Int.reduceEq, not_false_eq_true, e1, g0, g4, e_13_72, nx, Int.add_zero, w64_i (x := (wsm S p k w n o : Int)) (by omega) (by omega), u]
        rw [if_neg (by omega), if_neg (fun q => q c1), if_neg (fun q => q c2)]
      · have u : wsm S p k w n (o + 1) = wsm S p k w n o + wp k o w 6 := by
          simp only [wsm]; rw [if_pos ⟨c1, c2⟩]
        refine ⟨up ρ1 38 4 (wsm S p k w n (o + 1) : Int), fun Q => ?_, hFr.tr (FrZ8.wr _ _), by simp [up_rd], by rw [up_rd, if_neg (by omega)]; exact g5⟩
        rw [e_13_19]
        simp only [brI, not_true_eq_false, true_implies, false_implies, implies_true, and_true, cTag, cTgt, cLen, true_and, Int.toNat_natCast, retI_I, retR_R, retV_N, retL_L, ne_eq, Int.reduceEq, not_false_eq_true, e1, g0, g4, e_13_63, x_wgt hk ho hw, e_13_72, nx, w64_i (x := (wsm S p k w n o : Int) + (wp k o w 6 : Int)) (by omega) (by omega), u, Int.natCast_add]
        rw [if_neg (by omega), if_neg (fun q => q c1), if_pos c2]
    · have u : wsm S p k w n (o + 1) = wsm S p k w n o := by
        simp only [wsm]; rw [if_neg (fun q => c1 q.1)]; rfl
      refine ⟨ρ, fun Q => ?_, hF, by rw [u]; exact h4, h5⟩
      rw [e_13_19]
      simp only [brI, not_true_eq_false, true_implies, false_implies, implies_true, and_true, cTag, cTgt, cLen, true_and, Int.toNat_natCast, retI_I, retR_R, retV_N, retL_L, ne_eq, Int.reduceEq, not_false_eq_true, nx]
      rw [if_neg (by omega), if_pos c1]) (a := σ0) ⟨F0, z4, z5⟩
  obtain ⟨ρ2, e2, hF2, h24, h25⟩ := lpE (n := pc k) (fun o (ρ : Mem) Q => X L 13 85 [some (xR 38), some (xR 1), some (xR 36), some (xR (1 + 11 + p)), some (xI (w : Int)), some (xI (k : Int)), some (xI (o : Int)), none] [] ρ Q) (fun o r => FrZ8 σ r ∧ r 38 4 = (wsm S p k w n 64 : Int) ∧ r 38 5 = ((10 ^ o : Nat) : Int)) (by
    intro o r ho ⟨hF, h4, h5⟩
    have h10 : 10 ^ (o + 1) ≤ 10 ^ 6 := Nat.pow_le_pow_right (by omega) (by omega)
    have h10 : 10 ^ (o + 1) ≤ 1000000 := h10
    refine ⟨up r 38 5 ((10 ^ (o + 1) : Nat) : Int), fun Q => ?_, hF.tr (FrZ8.wr _ _), by rw [up_rd, if_neg (by omega)]; exact h4, by simp [up_rd]⟩
    rw [e_13_85]
    simp only [brI, not_true_eq_false, true_implies, false_implies, implies_true, and_true, cTag, cTgt, cLen, true_and, Int.toNat_natCast, retI_I, retR_R, retV_N, retL_L, ne_eq, Int.reduceEq, not_false_eq_true, x_bitCount L (show k < 32768 by omega), h5]
    have em : ((10 ^ o : Nat) : Int) * 10 = ((10 ^ (o + 1) : Nat) : Int) := by rw [Nat.pow_succ, Int.natCast_mul]; rfl
    rw [if_neg (by omega), w32_id (by omega) (by omega), em, w64_i (Int.natCast_nonneg _) (by omega)]
    rfl) (a := ρ) ⟨hF1, h14, h15⟩
  have hUb := wsm_b S p k n hw 64
  generalize wsm S p k w n 64 = U at *
  have hbc : ∀ Q : PQ, X L 13 0 [some (xR 38), some (xR 1), some (xR 36), some (xR (1 + 11 + p)), some (xI (w : Int)), none, none, none] [] σ Q = X L 13 113 [some (xR 38), some (xR 1), some (xR 36), some (xR (1 + 11 + p)), some (xI (w : Int)), some (xI (k : Int)), some (xI (pc k : Int)), none] [] ρ2 Q := by
    intro Q
    rw [e_13_0]
    simp only [brI, not_true_eq_false, true_implies, false_implies, implies_true, and_true, cTag, cTgt, cLen, true_and, Int.toNat_natCast, retI_I, retR_R, retV_N, retL_L, ne_eq, Int.reduceEq, not_false_eq_true, hkd, hσ0]
    refine Eq.trans (e1 Q) ?_
    show X L 13 19 [some (xR 38), some (xR 1), some (xR 36), some (xR (1 + 11 + p)), some (xI (w : Int)), some (xI (k : Int)), some (xI 64), none] [] ρ Q = _
    rw [e_13_19]
    simp only [brI, Int.le_refl, if_true]
    rw [e_13_82]
    refine Eq.trans (e2 Q) ?_
    rw [e_13_85]
    simp only [brI, not_true_eq_false, true_implies, false_implies, implies_true, and_true, cTag, cTgt, cLen, true_and, Int.toNat_natCast, retI_I, retR_R, retV_N, retL_L, ne_eq, Int.reduceEq, not_false_eq_true, x_bitCount L (show k < 32768 by omega), Int.le_refl, if_true]
  generalize hl : 10 ^ pc k = l at *
  have hg1 : 1 ≤ Nat.gcd U l := Nat.gcd_pos_of_pos_right U (by omega)
  by_cases cg : Nat.gcd U l ≤ 1
  · have : Nat.gcd U l = 1 := by omega
    refine ⟨ρ2, fun Q => ?_, hF2, by rw [this, Nat.div_one]; exact h24, by rw [this, Nat.div_one]; exact h25⟩
    rw [hbc, e_13_113]
    simp only [brI, not_true_eq_false, true_implies, false_implies, implies_true, and_true, cTag, cTgt, cLen, true_and, Int.toNat_natCast, retI_I, retR_R, retV_N, retL_L, ne_eq, Int.reduceEq, not_false_eq_true, h24, h25, x_gcd hlb.2, cmp1]
    rw [if_pos cg, e_13_155]
  · have q1 : U / Nat.gcd U l ≤ U := Nat.div_le_self _ _
    have q2 : l / Nat.gcd U l ≤ l := Nat.div_le_self _ _
    have g64 : ∀ a b : Nat, a ≤ b → b ≤ 64000000 → w64 (a : Int) = (a : Int) := fun a b h1 h2 => w64_i (Int.natCast_nonneg _) (by omega)
    have v1 := g64 _ _ q1 (by omega)
    have v2 := g64 _ _ q2 (by omega)
    refine ⟨up (up ρ2 38 4 ((U / Nat.gcd U l : Nat) : Int)) 38 5 ((l / Nat.gcd U l : Nat) : Int), fun Q => ?_, hF2.tr ((FrZ8.wr _ _).tr (FrZ8.wr _ _)), by simp [up_rd], by simp [up_rd]⟩
    rw [hbc, e_13_113]
    simp only [brI, not_true_eq_false, true_implies, false_implies, implies_true, and_true, cTag, cTgt, cLen, true_and, Int.toNat_natCast, retI_I, retR_R, retV_N, retL_L, ne_eq, Int.reduceEq, not_false_eq_true, h24, h25, x_gcd hlb.2, cmp1, up_rd, ← Int.ofNat_tdiv, show ¬ ((Nat.gcd U l : Int) = 0) by omega]
    rw [if_neg cg]
    simp only [brI, not_true_eq_false, true_implies, false_implies, implies_true, and_true, cTag, cTgt, cLen, true_and, Int.toNat_natCast, retI_I, retR_R, retV_N, retL_L, ne_eq, Int.reduceEq, not_false_eq_true, if_false, e_13_155, h25, ← Int.ofNat_tdiv, Nat.reduceEqDiff, and_false, v1, v2]
def COL (σ : Mem) (G : PQ → Prop) (r : Int) (T : Ful) : Prop := ∃ τ, (∀ Q, G Q = Q (some (xL r)) τ) ∧ IC T τ ∧ (∀ o, 75 ≤ o → τ o = σ o)
def MOL (σ : Mem) (G : PQ → Prop) (r : Int) (T : Ful) : Prop := ∃ τ, (∀ Q, G Q = Q (some (xL r)) τ) ∧ IM T τ ∧ (∀ o, o < 75 ∨ 104 ≤ o → τ o = σ o)
def a_shut (T : Ful) (p w i : Int) : Int := if ¬ thr (T 0) p = 0 then (if (0 ≤ w ∧ w ≤ 10) ∧ (0 ≤ i ∧ i ≤ 1) then (if i = 0 then ((shU (T 0) p.toNat w.toNat (T 0 0 0).toNat / shG (T 0) p.toNat w.toNat (T 0 0 0).toNat : Nat) : Int) else ((shL (T 0) (T 0 0 0).toNat / shG (T 0) p.toNat w.toNat (T 0 0 0).toNat : Nat) : Int)) else -1000000000000000002) else -1000000000000000001
theorem c_shut (hI : IC T σ) (hV : IV B T) (hB : B ≤ 1000000) (p w i : Int) : COL σ (X L 118 0 [some (xR 0), some (xI p), some (xI w), some (xI i)] [] σ) (a_shut T p w i) T := by
  unfold a_shut
  by_cases c : thr (T 0) p = 0
  · rw [if_neg (fun q => q c)]
    refine ⟨σ, fun Q => ?_, hI, fun _ _ => rfl⟩
    simp only [e_118_0, brI, not_true_eq_false, true_implies, false_implies, implies_true, and_true, cTag, cTgt, cLen, true_and, Int.toNat_natCast, retI_I, retR_R, retV_N, retL_L, ne_eq, Int.reduceEq, not_false_eq_true, x_isThere iV1 hI.1 hV.1, c, if_true, if_false]
  · rw [if_pos c]
    obtain ⟨q, hq, rfl, -⟩ := thr_in (B := B) c
    by_cases ci : (0 ≤ w ∧ w ≤ 10) ∧ (0 ≤ i ∧ i ≤ 1)
    · rw [if_pos ci]
      obtain ⟨cw, ci⟩ := ci
      obtain ⟨w, rfl⟩ : ∃ a : Nat, w = (a : Int) := ⟨w.toNat, by omega⟩
      simp only [Int.toNat_natCast]
      obtain ⟨n, hn, hn2, hn6⟩ := tn hV
      have hnn : (T 0 0 0).toNat = n := by omega
      rw [hnn]
      obtain ⟨τ, e, hF, hQ, hI1, hL⟩ := c_surv (L := L) hI hV
      obtain ⟨ρ, e1, hE, h4, h5⟩ := x_weigh (L := L) hI1.1 hV.1 hB hL (psv hV.1 hq hn) (w := w) (by omega)
      have h31 : ρ 31 0 = 0 := by rw [hE 31 (by omega)]; exact hQ.2
      have hQ2 : FrQ σ ρ := hQ.tr ⟨fun o ho => hE o (by omega), h31⟩
      refine ⟨ρ, fun Q => ?_, IC_Q hI hQ2, fun o ho => hQ2.1 o (by omega)⟩
      simp only [e_118_0, e_118_15, e_118_38, brI, not_true_eq_false, true_implies, false_implies, implies_true, and_true, cTag, cTgt, cLen, true_and, Int.toNat_natCast, retI_I, retR_R, retV_N, retL_L, ne_eq, Int.reduceEq, not_false_eq_true, x_isThere iV1 hI.1 hV.1, x_isWithin, bI_0, c, cw, ci, e, x_personAt iV1 hq, e1, if_true, if_false, and_self, e_118_87, e_118_94, h4, h5]
      by_cases c0 : i = 0
      · rw [if_neg (fun q => q c0), if_pos c0]
      · rw [if_pos c0, if_neg c0]
    · rw [if_neg ci]
      refine ⟨σ, fun Q => ?_, hI, fun _ _ => rfl⟩
      simp only [e_118_0, e_118_15, brI, not_true_eq_false, true_implies, false_implies, implies_true, and_true, cTag, cTgt, cLen, true_and, Int.toNat_natCast, retI_I, retR_R, retV_N, retL_L, ne_eq, Int.reduceEq, not_false_eq_true, x_isThere iV1 hI.1 hV.1, x_isWithin, bI_0, c, if_true, if_false, e_118_34]
      by_cases cw : 0 ≤ w ∧ w ≤ 10
      · have ci2 : ¬ (0 ≤ i ∧ i ≤ 1) := fun q => ci ⟨cw, q⟩
        simp only [cw, ci2, brI, not_true_eq_false, true_implies, false_implies, implies_true, and_true, cTag, cTgt, cLen, true_and, Int.toNat_natCast, retI_I, retR_R, retV_N, retL_L, ne_eq, Int.reduceEq, not_false_eq_true, if_true, if_false, and_self]
      · simp only [cw, brI, not_true_eq_false, true_implies, false_implies, implies_true, and_true, cTag, cTgt, cLen, true_and, Int.toNat_natCast, retI_I, retR_R, retV_N, retL_L, ne_eq, Int.reduceEq, not_false_eq_true, if_true, if_false]
end CShut
