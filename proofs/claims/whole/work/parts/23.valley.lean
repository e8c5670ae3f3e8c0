/-! the Valleys' cells -/
def IsV (v : Nat) : Prop := v = 1 ∨ v = 21 ∨ v = 45 ∨ v = 60
theorem gv_4 {v : Nat} (h : IsV v) : tgt v 4 = v + 1 := by rcases h with rfl | rfl | rfl | rfl <;> rfl
theorem gv_5 {v : Nat} (h : IsV v) : tgt v 5 = v + 2 := by rcases h with rfl | rfl | rfl | rfl <;> rfl
theorem gv_6 {v : Nat} (h : IsV v) : tgt v 6 = v + 3 := by rcases h with rfl | rfl | rfl | rfl <;> rfl
theorem gv_7 {v : Nat} (h : IsV v) : tgt v 7 = v + 4 := by rcases h with rfl | rfl | rfl | rfl <;> rfl
theorem gv_8 {v : Nat} (h : IsV v) : tgt v 8 = v + 5 := by rcases h with rfl | rfl | rfl | rfl <;> rfl
theorem gv_9 {v : Nat} (h : IsV v) : tgt v 9 = v + 6 := by rcases h with rfl | rfl | rfl | rfl <;> rfl
theorem gv_10 {v : Nat} (h : IsV v) : tgt v 10 = v + 7 := by rcases h with rfl | rfl | rfl | rfl <;> rfl
theorem gv_11 {v : Nat} (h : IsV v) : tgt v 11 = v + 8 := by rcases h with rfl | rfl | rfl | rfl <;> rfl
theorem gv_12 {v : Nat} (h : IsV v) : tgt v 12 = v + 9 := by rcases h with rfl | rfl | rfl | rfl <;> rfl
theorem gv_13 {v : Nat} (h : IsV v) : tgt v 13 = v + 10 := by rcases h with rfl | rfl | rfl | rfl <;> rfl
theorem gv_t {v : Nat} (h : IsV v) : tag v = 18 := by rcases h with rfl | rfl | rfl | rfl <;> rfl
theorem gt_1 {v : Nat} (h : IsV v) : tag (v + 1) = 0 := by rcases h with rfl | rfl | rfl | rfl <;> rfl
theorem gl_1 {v : Nat} (h : IsV v) (L : Nat) : ((lenL L (v + 1) : Nat) : Int) = 15 := by rcases h with rfl | rfl | rfl | rfl <;> rfl
theorem gt_2 {v : Nat} (h : IsV v) : tag (v + 2) = 0 := by rcases h with rfl | rfl | rfl | rfl <;> rfl
theorem gl_2 {v : Nat} (h : IsV v) (L : Nat) : ((lenL L (v + 2) : Nat) : Int) = 15 := by rcases h with rfl | rfl | rfl | rfl <;> rfl
theorem gt_3 {v : Nat} (h : IsV v) : tag (v + 3) = 0 := by rcases h with rfl | rfl | rfl | rfl <;> rfl
theorem gl_3 {v : Nat} (h : IsV v) (L : Nat) : ((lenL L (v + 3) : Nat) : Int) = 45 := by rcases h with rfl | rfl | rfl | rfl <;> rfl
theorem gt_4 {v : Nat} (h : IsV v) : tag (v + 4) = 0 := by rcases h with rfl | rfl | rfl | rfl <;> rfl
theorem gl_4 {v : Nat} (h : IsV v) (L : Nat) : ((lenL L (v + 4) : Nat) : Int) = 6 := by rcases h with rfl | rfl | rfl | rfl <;> rfl
theorem gt_5 {v : Nat} (h : IsV v) : tag (v + 5) = 0 := by rcases h with rfl | rfl | rfl | rfl <;> rfl
theorem gl_5 {v : Nat} (h : IsV v) (L : Nat) : ((lenL L (v + 5) : Nat) : Int) = 6 := by rcases h with rfl | rfl | rfl | rfl <;> rfl
theorem gt_6 {v : Nat} (h : IsV v) : tag (v + 6) = 0 := by rcases h with rfl | rfl | rfl | rfl <;> rfl
theorem gl_6 {v : Nat} (h : IsV v) (L : Nat) : ((lenL L (v + 6) : Nat) : Int) = 30 := by rcases h with rfl | rfl | rfl | rfl <;> rfl
theorem gt_7 {v : Nat} (h : IsV v) : tag (v + 7) = 0 := by rcases h with rfl | rfl | rfl | rfl <;> rfl
theorem gl_7 {v : Nat} (h : IsV v) (L : Nat) : ((lenL L (v + 7) : Nat) : Int) = 6 := by rcases h with rfl | rfl | rfl | rfl <;> rfl
theorem gt_8 {v : Nat} (h : IsV v) : tag (v + 8) = 0 := by rcases h with rfl | rfl | rfl | rfl <;> rfl
theorem gl_8 {v : Nat} (h : IsV v) (L : Nat) : ((lenL L (v + 8) : Nat) : Int) = 6 := by rcases h with rfl | rfl | rfl | rfl <;> rfl
theorem gt_9 {v : Nat} (h : IsV v) : tag (v + 9) = 2 := by rcases h with rfl | rfl | rfl | rfl <;> rfl
theorem gl_9 {v : Nat} (h : IsV v) (L : Nat) : ((lenL L (v + 9) : Nat) : Int) = 4 := by rcases h with rfl | rfl | rfl | rfl <;> rfl
theorem gt_10 {v : Nat} (h : IsV v) : tag (v + 10) = 16 := by rcases h with rfl | rfl | rfl | rfl <;> rfl
theorem gt_p {v p : Nat} (h : IsV v) (hp : p < 4) : tag (v + 11 + p) = 16 := by
  rcases h with rfl | rfl | rfl | rfl <;> (match p, hp with
    | 0, _ => rfl
    | 1, _ => rfl
    | 2, _ => rfl
    | 3, _ => rfl)
theorem gv_p {v p : Nat} (h : IsV v) (hp : p < 4) : tgt (v + 9) p = v + 11 + p := by
  rcases h with rfl | rfl | rfl | rfl <;> (match p, hp with
    | 0, _ => rfl
    | 1, _ => rfl
    | 2, _ => rfl
    | 3, _ => rfl)
/-! the abstract state: 0 [towns, toll, K, sights]; 1 miles, 2 rules (6 a + b), 3 trodden (3 (6 a + b) + foot), 4 sides, 5 prices, 6 stocks (5 t + size), 7 sights (2 i: who, 2 i + 1: where), 8 + p: the fields of PERSON p as the class has them -/
def rn (a b : Nat) : Nat := a * (11 - a) / 2 + b - a - 1
def RC (v : Nat) (S σ : Mem) : Prop :=
  (∀ j, j < 4 → σ v j = S 0 j) ∧ (∀ a b, a < b → b < 6 → σ (v + 1) (rn a b) = S 1 (6 * a + b)) ∧ (∀ a b, a < b → b < 6 → σ (v + 2) (rn a b) = S 2 (6 * a + b)) ∧
  (∀ a b f, a < b → b < 6 → f < 3 → σ (v + 3) (3 * rn a b + f) = S 3 (3 * (6 * a + b) + f)) ∧ (∀ t, t < 6 → σ (v + 4) t = S 4 t) ∧ (∀ t, t < 6 → σ (v + 5) t = S 5 t) ∧ (∀ j, j < 30 → σ (v + 6) j = S 6 j) ∧
  (∀ i, i < 6 → σ (v + 7) i = S 7 (2 * i)) ∧ (∀ i, i < 6 → σ (v + 8) i = S 7 (2 * i + 1)) ∧ (∀ p f, p < 4 → f < 11 → σ (v + 11 + p) f = S (8 + p) f) ∧ σ (v + 10) 0 = 0
def VP (B n : Int) (S : Mem) (p : Nat) : Prop :=
  (S (8 + p) 0 = 0 ∨ S (8 + p) 0 = 1) ∧ (0 ≤ S (8 + p) 1 ∧ S (8 + p) 1 < n) ∧ (0 ≤ S (8 + p) 2 ∧ S (8 + p) 2 < n) ∧ (0 ≤ S (8 + p) 3 ∧ S (8 + p) 3 ≤ 4) ∧ (0 ≤ S (8 + p) 4 ∧ S (8 + p) 4 ≤ 4) ∧ (0 ≤ S (8 + p) 5 ∧ S (8 + p) 5 ≤ 99) ∧
  (S (8 + p) 6 = 0 ∨ S (8 + p) 6 = 1) ∧ (S (8 + p) 7 = 0 ∨ S (8 + p) 7 = 1) ∧ (0 ≤ S (8 + p) 8 ∧ S (8 + p) 8 ≤ B) ∧ (0 ≤ S (8 + p) 9 ∧ S (8 + p) 9 ≤ B) ∧ (0 ≤ S (8 + p) 10 ∧ S (8 + p) 10 ≤ B) ∧ (S (8 + p) 6 = 0 → S (8 + p) 8 = 0) ∧ (S (8 + p) 7 = 0 → S (8 + p) 9 = 0)
def VS (B : Int) (S : Mem) : Prop :=
  (2 ≤ S 0 0 ∧ S 0 0 ≤ 6) ∧ (0 ≤ S 0 1 ∧ S 0 1 ≤ 9) ∧ (1 ≤ S 0 2 ∧ S 0 2 ≤ 9) ∧ (0 ≤ S 0 3 ∧ S 0 3 ≤ 6) ∧
  (∀ a b, a < 6 → b < 6 → (0 ≤ S 1 (6 * a + b) ∧ S 1 (6 * a + b) ≤ 9) ∧ S 1 (6 * a + b) = S 1 (6 * b + a) ∧ ((a = b ∨ S 0 0 ≤ (a : Int) ∨ S 0 0 ≤ (b : Int)) → S 1 (6 * a + b) = 0)) ∧
  (∀ a b, a < 6 → b < 6 → (0 ≤ S 2 (6 * a + b) ∧ S 2 (6 * a + b) ≤ 2) ∧ S 2 (6 * a + b) = S 2 (6 * b + a)) ∧
  (∀ a b f, a < 6 → b < 6 → f < 3 → (0 ≤ S 3 (3 * (6 * a + b) + f) ∧ S 3 (3 * (6 * a + b) + f) ≤ B) ∧ S 3 (3 * (6 * a + b) + f) = S 3 (3 * (6 * b + a) + f)) ∧
  (∀ t, t < 6 → 0 ≤ S 4 t ∧ S 4 t ≤ 2) ∧ (∀ t, t < 6 → 0 ≤ S 5 t ∧ S 5 t ≤ 20) ∧ (∀ j, j < 30 → 0 ≤ S 6 j ∧ S 6 j ≤ 9) ∧
  (∀ i, i < 6 → 0 ≤ S 7 (2 * i) ∧ S 7 (2 * i) ≤ 3) ∧ (∀ i, i < 6 → 0 ≤ S 7 (2 * i + 1) ∧ S 7 (2 * i + 1) ≤ 5) ∧ (∀ p, p < 4 → VP B (S 0 0) S p)
/-! reads of a Valley -/
section Reads
variable {v : Nat} {B : Int} {S σ : Mem} {L : Nat}
theorem x_isTown (hv : IsV v) (t : Int) (Q : PQ) : X L 50 0 [some (xR v), some (xI t)] [] σ Q = Q (some (xI (bI (0 ≤ t ∧ t < σ v 0)))) σ := by
  simp only [e_50_0, e_50_16, e_50_17, brI, bI, gv_t hv, true_and]
  (repeat' split) <;> first | rfl | (exfalso; omega) | (simp; done)
theorem x_two (hv : IsV v) (t u : Int) (Q : PQ) : X L 51 0 [some (xR v), some (xI t), some (xI u)] [] σ Q = Q (some (xI (bI ((0 ≤ t ∧ t < σ v 0) ∧ (0 ≤ u ∧ u < σ v 0) ∧ t ≠ u)))) σ := by
  simp only [e_51_0, e_51_25, e_51_26, x_isTown hv, retI_I, brI, bI_0, gv_t hv, true_and]
  by_cases h1 : 0 ≤ t ∧ t < σ v 0 <;> by_cases h2 : 0 ≤ u ∧ u < σ v 0 <;> by_cases h3 : t = u <;> simp [h1, h2, h3, bI]
theorem x_personAt (hv : IsV v) {p : Nat} (hp : p < 4) (Q : PQ) : X L 53 0 [some (xR v), some (xI (p : Int))] [] σ Q = Q (some (xR (v + 11 + p))) σ := by
  simp only [e_53_0, e_53_22, e_53_27, brI, gv_t hv, gv_4 hv, gv_5 hv, gv_6 hv, gv_7 hv, gv_8 hv, gv_9 hv, gv_10 hv, gv_11 hv, gv_12 hv, gv_13 hv, gt_1 hv, gt_2 hv, gt_3 hv, gt_4 hv, gt_5 hv, gt_6 hv, gt_7 hv, gt_8 hv, gt_9 hv, gt_10 hv, gl_1 hv, gl_2 hv, gl_3 hv, gl_4 hv, gl_5 hv, gl_6 hv, gl_7 hv, gl_8 hv, gl_9 hv, true_and]
  rw [if_neg (by omega), if_neg (by omega)]
  simp only [Int.toNat_natCast, gv_p hv hp]
  simp [show (p : Int) < 4 by omega]
theorem x_personOut (hv : IsV v) {p : Int} (hp : p < 0 ∨ 4 ≤ p) (Q : PQ) : X L 53 0 [some (xR v), some (xI p)] [] σ Q = Q (some (xR (v + 10))) σ := by
  simp only [e_53_0, e_53_22, e_53_27, brI, gv_t hv, gv_4 hv, gv_5 hv, gv_6 hv, gv_7 hv, gv_8 hv, gv_9 hv, gv_10 hv, gv_11 hv, gv_12 hv, gv_13 hv, gt_1 hv, gt_2 hv, gt_3 hv, gt_4 hv, gt_5 hv, gt_6 hv, gt_7 hv, gt_8 hv, gt_9 hv, gt_10 hv, gl_1 hv, gl_2 hv, gl_3 hv, gl_4 hv, gl_5 hv, gl_6 hv, gl_7 hv, gl_8 hv, gl_9 hv, true_and]
  by_cases h : p < 0
  · rw [if_pos h]
  · rw [if_neg h, if_pos (by omega)]
theorem RC.p (h : RC v S σ) {p f : Nat} (hp : p < 4) (hf : f < 11) : σ (v + 11 + p) f = S (8 + p) f := h.2.2.2.2.2.2.2.2.2.1 p f hp hf
theorem VS.p (h : VS B S) {p : Nat} (hp : p < 4) : VP B (S 0 0) S p := h.2.2.2.2.2.2.2.2.2.2.2.2 p hp
def thr (S : Mem) (p : Int) : Int := if 0 ≤ p ∧ p < 4 then S (8 + p.toNat) 0 else 0
theorem thr_01 (h : VS B S) (p : Int) : thr S p = 0 ∨ thr S p = 1 := by
  unfold thr
  split
  · exact (h.p (p := p.toNat) (by omega)).1
  · exact Or.inl rfl
theorem x_isThere (hv : IsV v) (hR : RC v S σ) (hS : VS B S) (p : Int) (Q : PQ) : X L 54 0 [some (xR v), some (xI p)] [] σ Q = Q (some (xI (thr S p))) σ := by
  have h01 := thr_01 hS p
  rw [e_54_0]
  simp only [gv_t hv, true_and]
  by_cases h : 0 ≤ p ∧ p < 4
  · obtain ⟨q, rfl⟩ : ∃ q : Nat, p = (q : Int) := ⟨p.toNat, by omega⟩
    have hq : q < 4 := by omega
    rw [x_personAt hv hq]
    have e : thr S q = S (8 + q) 0 := by unfold thr; rw [if_pos h]; simp
    rw [e] at h01 ⊢
    simp only [retR_R, gt_p hv hq, hR.p hq (f := 0) (by omega), true_and, h01]
  · rw [x_personOut hv (by omega)]
    have e : thr S p = 0 := by unfold thr; rw [if_neg h]
    simp only [retR_R, gt_10 hv, true_and, hR.2.2.2.2.2.2.2.2.2.2, e, true_or]
end Reads

