/-! roads, shops: a Valley's reads in the words of the abstract state; whether a step can be -/
def rnI (t u : Int) : Int := if ((0 ≤ t ∧ t < 6) ∧ (0 ≤ u ∧ u < 6)) ∧ ¬ t = u then ((rn (min t.toNat u.toNat) (max t.toNat u.toNat) : Nat) : Int) else -1
theorem rn_w : ∀ b : Nat, b < 6 → ∀ a : Nat, a < b → w32 (w32 (w32 (w32 (Int.tdiv (w32 ((a : Int) * w32 (11 - (a : Int)))) 2) + (b : Int)) - (a : Int)) - 1) = (rn a b : Int) := by decide +kernel
theorem rn_lt : ∀ b : Nat, b < 6 → ∀ a : Nat, a < b → rn a b < 15 := by decide +kernel
theorem rn_inj0 : ∀ b : Nat, b < 6 → ∀ a : Nat, a < b → ∀ d : Nat, d < 6 → ∀ c : Nat, c < d → (¬ rn a b = rn c d ∨ (a = c ∧ b = d)) := by decide +kernel
theorem rn_inj {a b c d : Nat} (h1 : a < b) (h2 : b < 6) (h3 : c < d) (h4 : d < 6) (h : rn a b = rn c d) : a = c ∧ b = d := (rn_inj0 b h2 a h1 d h4 c h3).resolve_left (fun n => n h)
theorem x_roadNumber (L : Nat) (t u : Int) (d2 d3 : Option PV) (σ : Mem) (Q : PQ) : X L 138 0 [some (xI t), some (xI u), d2, d3] [] σ Q = Q (some (xI (rnI t u))) σ := by
  simp only [e_138_0, e_138_27, e_138_29, brI, fMin, fMax]
  by_cases h : ((0 ≤ t ∧ t < 6) ∧ (0 ≤ u ∧ u < 6)) ∧ ¬ t = u
  · obtain ⟨a, rfl⟩ : ∃ a : Nat, t = (a : Int) := ⟨t.toNat, by omega⟩
    obtain ⟨b, rfl⟩ : ∃ b : Nat, u = (b : Int) := ⟨u.toNat, by omega⟩
    unfold rnI
    rw [if_pos h]
    simp only [Int.toNat_natCast]
    by_cases hab : (b : Int) < (a : Int)
    · have hn : ¬ ((a : Int) < (b : Int)) := by omega
      simp only [if_pos hab, if_neg hn]
      rw [if_neg (by omega), if_neg (by omega), if_pos (by omega), rn_w a (by omega) b (by omega), Nat.min_eq_right (by omega), Nat.max_eq_left (by omega)]
      simp
    · have hn : (a : Int) < (b : Int) := by omega
      simp only [if_neg hab, if_pos hn]
      rw [if_neg (by omega), if_neg (by omega), if_pos (by omega), rn_w b (by omega) a (by omega), Nat.min_eq_left (by omega), Nat.max_eq_right (by omega)]
      simp
  · unfold rnI
    rw [if_neg h]
    (repeat' split) <;> first | rfl | (exfalso; omega)
def mil (S : Mem) (t u : Int) : Int := if (0 ≤ t ∧ t < 6) ∧ (0 ≤ u ∧ u < 6) then S 1 (6 * t.toNat + u.toNat) else 0
def rul (S : Mem) (t u : Int) : Int := if (0 ≤ t ∧ t < 6) ∧ (0 ≤ u ∧ u < 6) then S 2 (6 * t.toNat + u.toNat) else 0
def tr3 (S : Mem) (t u f : Int) : Int := if ((0 ≤ t ∧ t < 6) ∧ (0 ≤ u ∧ u < 6)) ∧ (0 ≤ f ∧ f < 3) then S 3 (3 * (6 * t.toNat + u.toNat) + f.toNat) else 0
section Reads2
variable {v : Nat} {B : Int} {S σ : Mem} {L : Nat}
theorem VS.mi (h : VS B S) {a b : Nat} (ha : a < 6) (hb : b < 6) : (0 ≤ S 1 (6 * a + b) ∧ S 1 (6 * a + b) ≤ 9) ∧ S 1 (6 * a + b) = S 1 (6 * b + a) ∧ ((a = b ∨ S 0 0 ≤ (a : Int) ∨ S 0 0 ≤ (b : Int)) → S 1 (6 * a + b) = 0) := h.2.2.2.2.1 a b ha hb
theorem VS.ru (h : VS B S) {a b : Nat} (ha : a < 6) (hb : b < 6) : (0 ≤ S 2 (6 * a + b) ∧ S 2 (6 * a + b) ≤ 2) ∧ S 2 (6 * a + b) = S 2 (6 * b + a) := h.2.2.2.2.2.1 a b ha hb
theorem VS.tr (h : VS B S) {a b f : Nat} (ha : a < 6) (hb : b < 6) (hf : f < 3) : (0 ≤ S 3 (3 * (6 * a + b) + f) ∧ S 3 (3 * (6 * a + b) + f) ≤ B) ∧ S 3 (3 * (6 * a + b) + f) = S 3 (3 * (6 * b + a) + f) := h.2.2.2.2.2.2.1 a b f ha hb hf
theorem mil_b (h : VS B S) (t u : Int) : 0 ≤ mil S t u ∧ mil S t u ≤ 9 := by
  unfold mil
  split
  · exact (h.mi (a := t.toNat) (b := u.toNat) (by omega) (by omega)).1
  · omega
theorem rul_b (h : VS B S) (t u : Int) : 0 ≤ rul S t u ∧ rul S t u ≤ 2 := by
  unfold rul
  split
  · exact (h.ru (a := t.toNat) (b := u.toNat) (by omega) (by omega)).1
  · omega
theorem mil_c (h : VS B S) (t u : Int) : mil S t u = mil S u t := by
  unfold mil
  by_cases c : (0 ≤ t ∧ t < 6) ∧ (0 ≤ u ∧ u < 6)
  · rw [if_pos c, if_pos ⟨c.2, c.1⟩]
    exact (h.mi (a := t.toNat) (b := u.toNat) (by omega) (by omega)).2.1
  · rw [if_neg c, if_neg (fun q => c ⟨q.2, q.1⟩)]
theorem rul_c (h : VS B S) (t u : Int) : rul S t u = rul S u t := by
  unfold rul
  by_cases c : (0 ≤ t ∧ t < 6) ∧ (0 ≤ u ∧ u < 6)
  · rw [if_pos c, if_pos ⟨c.2, c.1⟩]
    exact (h.ru (a := t.toNat) (b := u.toNat) (by omega) (by omega)).2
  · rw [if_neg c, if_neg (fun q => c ⟨q.2, q.1⟩)]
theorem mil_d (h : VS B S) (t : Int) : mil S t t = 0 := by
  unfold mil
  split
  · exact (h.mi (a := t.toNat) (b := t.toNat) (by omega) (by omega)).2.2 (Or.inl rfl)
  · rfl
theorem rnI_at {t u : Int} (h : ((0 ≤ t ∧ t < 6) ∧ (0 ≤ u ∧ u < 6)) ∧ ¬ t = u) : ∃ a b : Nat, a < b ∧ b < 6 ∧ rnI t u = (rn a b : Int) ∧ ((t = a ∧ u = b) ∨ (t = b ∧ u = a)) := by
  unfold rnI
  rw [if_pos h]
  by_cases c : t < u
  · exact ⟨t.toNat, u.toNat, by omega, by omega, by rw [Nat.min_eq_left (by omega), Nat.max_eq_right (by omega)], Or.inl (by omega)⟩
  · exact ⟨u.toNat, t.toNat, by omega, by omega, by rw [Nat.min_eq_right (by omega), Nat.max_eq_left (by omega)], Or.inr (by omega)⟩
theorem rc_mil (hv : IsV v) (hR : RC v S σ) (hS : VS B S) (t u : Int) : vA L σ (v + 1) (rnI t u) = mil S t u := by
  unfold vA
  rw [gl_1 hv]
  by_cases c : ((0 ≤ t ∧ t < 6) ∧ (0 ≤ u ∧ u < 6)) ∧ ¬ t = u
  · obtain ⟨a, b, h1, h2, h3, h4⟩ := rnI_at c
    have h5 := rn_lt b h2 a h1
    rw [h3, if_pos (by omega), Int.toNat_natCast, hR.2.1 a b h1 h2]
    rcases h4 with ⟨rfl, rfl⟩ | ⟨rfl, rfl⟩
    · unfold mil; rw [if_pos c.1]; simp
    · rw [mil_c hS]; unfold mil; rw [if_pos ⟨c.1.2, c.1.1⟩]; simp
  · have e : rnI t u = -1 := if_neg c
    rw [e, if_neg (by omega)]
    by_cases c2 : t = u
    · rw [c2, mil_d hS]
    · unfold mil; rw [if_neg (fun q => c ⟨q, c2⟩)]
theorem rc_rul (hv : IsV v) (hR : RC v S σ) (hS : VS B S) (t u : Int) (hne : ¬ t = u) : vA L σ (v + 2) (rnI t u) = rul S t u := by
  unfold vA
  rw [gl_2 hv]
  by_cases c : ((0 ≤ t ∧ t < 6) ∧ (0 ≤ u ∧ u < 6)) ∧ ¬ t = u
  · obtain ⟨a, b, h1, h2, h3, h4⟩ := rnI_at c
    have h5 := rn_lt b h2 a h1
    rw [h3, if_pos (by omega), Int.toNat_natCast, hR.2.2.1 a b h1 h2]
    rcases h4 with ⟨rfl, rfl⟩ | ⟨rfl, rfl⟩
    · unfold rul; rw [if_pos c.1]; simp
    · rw [rul_c hS]; unfold rul; rw [if_pos ⟨c.1.2, c.1.1⟩]; simp
  · have e : rnI t u = -1 := if_neg c
    rw [e, if_neg (by omega)]
    unfold rul; rw [if_neg (fun q => c ⟨q, hne⟩)]
def g1 (S : Mem) (k n : Nat) (t : Int) : Int := if 0 ≤ t ∧ t < (n : Int) then S k t.toNat else 0
theorem x_milesOf (hv : IsV v) (r : Int) (Q : PQ) : X L 59 0 [some (xR v), some (xI r)] [] σ Q = Q (some (xI (vA L σ (v + 1) r))) σ := by
  simp only [e_59_0, gv_t hv, gv_4 hv, true_and, x_valueAt L (v + 1) _ _ _ (gt_1 hv), retI_I]
theorem x_ruleOf (hv : IsV v) (r : Int) (Q : PQ) : X L 60 0 [some (xR v), some (xI r)] [] σ Q = Q (some (xI (vA L σ (v + 2) r))) σ := by
  simp only [e_60_0, gv_t hv, gv_5 hv, true_and, x_valueAt L (v + 2) _ _ _ (gt_2 hv), retI_I]
theorem x_wornBy (hv : IsV v) (r f : Int) (hr : -1 ≤ r ∧ r < 15) (hf : 0 ≤ f ∧ f < 3) (Q : PQ) : X L 61 0 [some (xR v), some (xI r), some (xI f)] [] σ Q = Q (some (xI (vA L σ (v + 3) (3 * r + f)))) σ := by
  simp only [e_61_0, gv_t hv, gv_6 hv, true_and, x_valueAt L (v + 3) _ _ _ (gt_3 hv), retI_I, w32_id (x := 3 * r) (by omega) (by omega), w32_id (x := 3 * r + f) (by omega) (by omega)]
theorem x_sideAt (hv : IsV v) (hR : RC v S σ) (t : Int) (Q : PQ) : X L 64 0 [some (xR v), some (xI t)] [] σ Q = Q (some (xI (g1 S 4 6 t))) σ := by
  simp only [e_64_0, gv_t hv, gv_7 hv, true_and, x_valueAt L (v + 4) _ _ _ (gt_4 hv), retI_I, vA, gl_4 hv]
  unfold g1
  by_cases c : 0 ≤ t ∧ t < 6
  · rw [if_pos c, if_pos (by omega), hR.2.2.2.2.1 t.toNat (by omega)]
  · rw [if_neg c, if_neg (by omega)]
theorem x_priceAt (hv : IsV v) (hR : RC v S σ) (t : Int) (Q : PQ) : X L 65 0 [some (xR v), some (xI t)] [] σ Q = Q (some (xI (g1 S 5 6 t))) σ := by
  simp only [e_65_0, gv_t hv, gv_8 hv, true_and, x_valueAt L (v + 5) _ _ _ (gt_5 hv), retI_I, vA, gl_5 hv]
  unfold g1
  by_cases c : 0 ≤ t ∧ t < 6
  · rw [if_pos c, if_pos (by omega), hR.2.2.2.2.2.1 t.toNat (by omega)]
  · rw [if_neg c, if_neg (by omega)]
def stk (S : Mem) (t z : Int) : Int := if (0 ≤ t ∧ t < 6) ∧ (0 ≤ z ∧ z < 5) then S 6 (5 * t.toNat + z.toNat) else 0
theorem x_stockAt (hv : IsV v) (hR : RC v S σ) (t z : Int) (ht : 0 ≤ t ∧ t < 6) (Q : PQ) : X L 66 0 [some (xR v), some (xI t), some (xI z)] [] σ Q = Q (some (xI (stk S t z))) σ := by
  simp only [e_66_0, e_66_22, e_66_23, brI, x_isSize, retI_I, bI_0, gv_t hv, gv_9 hv, true_and, x_valueAt L (v + 6) _ _ _ (gt_6 hv)]
  unfold stk
  by_cases c : 0 ≤ z ∧ z < 5
  · rw [if_neg (by simpa using c), if_pos ⟨ht, c⟩, w32_id (x := 5 * t) (by omega) (by omega), w32_id (x := 5 * t + z) (by omega) (by omega)]
    unfold vA
    rw [gl_6 hv, if_pos (by omega), show (5 * t + z).toNat = 5 * t.toNat + z.toNat by omega, hR.2.2.2.2.2.2.1 _ (by omega)]
  · rw [if_pos c, if_neg (fun q => c q.2)]
abbrev may (S : Mem) (t u : Int) (l : Prop) [Decidable l] : Prop := rul S t u = 0 ∨ rul S t u = (if l then 1 else 2)
theorem x_mayWalk (hv : IsV v) (r l : Int) (d : Option PV) (Q : PQ) : X L 63 0 [some (xR v), some (xI r), some (xI l), d] [] σ Q = Q (some (xI (bI (vA L σ (v + 2) r = 0 ∨ vA L σ (v + 2) r = (if l = 0 then 2 else 1))))) σ := by
  simp only [e_63_0, e_63_22, e_63_23, e_63_26, e_63_30, e_63_31, brI, gv_t hv, gv_5 hv, true_and, x_valueAt L (v + 2) _ _ _ (gt_2 hv), retI_I, bI]
  (repeat' split) <;> first | rfl | (exfalso; omega) | (simp; done)
/-- why a walk, a purchase can not be -/
def whyW (S : Mem) (p : Nat) (t : Int) : Int := if mil S (S (8 + p) 2) t = 0 then 2 else if may S (S (8 + p) 2) t (lmp (S (8 + p)) (S 0 2)) then 0 else 3
def whyB (S : Mem) (p : Nat) : Int :=
  if g1 S 4 6 (S (8 + p) 2) = 0 ∨ stk S (S (8 + p) 2) (szo (S (8 + p)) (g1 S 4 6 (S (8 + p) 2))) ≤ 0 then 4 else if ¬ wrs (S (8 + p)) (g1 S 4 6 (S (8 + p) 2)) = 0 then 5 else if S (8 + p) 5 < g1 S 5 6 (S (8 + p) 2) then 6 else 0
def why (S : Mem) (p : Nat) (d : Int) : Int := if S (8 + p) 0 = 0 then 1 else if d = 7 then 0 else if d < 6 then whyW S p d else whyB S p
theorem RC_lmp (hR : RC v S σ) {p : Nat} (hp : p < 4) (k : Int) : lmp (σ (v + 11 + p)) k ↔ lmp (S (8 + p)) k := by
  simp only [lmp, hR.p hp (f := 6) (by omega), hR.p hp (f := 7) (by omega), hR.p hp (f := 8) (by omega), hR.p hp (f := 9) (by omega)]
theorem bI_c {p q : Prop} [Decidable p] [Decidable q] (h : p ↔ q) : bI p = bI q := by
  unfold bI
  by_cases c : p
  · rw [if_pos c, if_pos (h.mp c)]
  · rw [if_neg c, if_neg (fun z => c (h.mpr z))]
end Reads2
