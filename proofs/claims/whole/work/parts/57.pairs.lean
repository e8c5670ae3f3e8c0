/-! PAIRS -/
section Pairs
variable {B : Int} {S σ τ : Mem} {L v : Nat} {T : Ful}
def ch (f g : Nat → Int) (sp : Int) : Nat → Nat → Nat → Int → Int → Int → Int
  | 0, _, _, _, _, n => n
  | m + 1, a, b, l, r, n => if 5 ≤ a ∨ 5 ≤ b then n else if f a - l = 0 ∨ (a : Int) < (b : Int) - sp then ch f g sp m (a + 1) b 0 r n else if g b - r = 0 ∨ (b : Int) < (a : Int) - sp then ch f g sp m a (b + 1) l 0 n else ch f g sp m a b (l + fMin (f a - l) (g b - r)) (r + fMin (f a - l) (g b - r)) (n + fMin (f a - l) (g b - r))
def okP (f g : Nat → Int) (a b : Nat) (l r n : Int) : Prop := (∀ z, z < 5 → 0 ≤ f z ∧ f z ≤ 9) ∧ (∀ z, z < 5 → 0 ≤ g z ∧ g z ≤ 9) ∧ (0 ≤ l ∧ (a < 5 → l ≤ f a)) ∧ (0 ≤ r ∧ (b < 5 → r ≤ g b)) ∧ (0 ≤ n ∧ n ≤ 9 * a + l) ∧ a ≤ 5 ∧ b ≤ 5 ∧ l ≤ 9 ∧ r ≤ 9
abbrev f5 (S : Mem) (t : Int) (z : Nat) : Int := stk S t z
theorem f5_b (hS : VS B S) {t : Int} (ht : 0 ≤ t ∧ t < 6) : ∀ z, z < 5 → 0 ≤ f5 S t z ∧ f5 S t z ≤ 9 := by
  intro z hz
  show 0 ≤ stk S t z ∧ stk S t z ≤ 9
  unfold stk; rw [if_pos (by omega)]; exact hS.2.2.2.2.2.2.2.2.2.1 _ (by omega)
theorem fMin_b {x y : Int} (hx : 0 < x) (hy : 0 < y) : 0 < fMin x y ∧ fMin x y ≤ x ∧ fMin x y ≤ y ∧ (fMin x y = x ∨ fMin x y = y) := by
  unfold fMin; split <;> omega
theorem x_most (hI : IC T σ) (hV : IV B T) {t u sp : Int} (ht : 0 ≤ t ∧ t < 6) (hu : 0 ≤ u ∧ u < 6) (hsp : 0 ≤ sp ∧ sp ≤ 4) (Q : PQ) : ∀ (m k a b : Nat) (l r n : Int), k + m = 20 → okP (f5 (T 0) t) (f5 (T 0) u) a b l r n → ∀ d10 d11 d12 : Option PV, X L 128 18 [some (xR 0), some (xI t), some (xI u), some (xI sp), some (xI n), some (xI (a : Int)), some (xI (b : Int)), some (xI l), some (xI r), some (xI (k : Int)), d10, d11, d12] [] σ Q = Q (some (xI (ch (f5 (T 0) t) (f5 (T 0) u) sp m a b l r n))) σ := by
  intro m
  induction m with
  | zero =>
    intro k a b l r n hk _ d10 d11 d12
    rw [e_128_18]
    simp only [brI, not_true_eq_false, true_implies, false_implies, implies_true, and_true, cTag, cTgt, cLen, true_and, Int.toNat_natCast, retI_I, retR_R, retV_N, retL_L, ne_eq, Int.reduceEq, not_false_eq_true, e_128_149]
    rw [if_pos (by omega)]
    rfl
  | succ m ih =>
    intro k a b l r n hk ok d10 d11 d12
    obtain ⟨o1, o2, o3, o4, o5, o6, o7, o8, o9⟩ := id ok
    rw [e_128_18]
    simp only [brI, not_true_eq_false, true_implies, false_implies, implies_true, and_true, cTag, cTgt, cLen, true_and, Int.toNat_natCast, retI_I, retR_R, retV_N, retL_L, ne_eq, Int.reduceEq, not_false_eq_true, e_128_149]
    rw [if_neg (by omega)]
    by_cases c5 : 5 ≤ a ∨ 5 ≤ b
    · have u : ch (f5 (T 0) t) (f5 (T 0) u) sp (m + 1) a b l r n = n := if_pos c5
      rw [u]
      by_cases ca : 5 ≤ a
      · rw [if_pos (by omega)]
      · rw [if_neg (by omega), if_pos (by omega)]
    · have ua : a < 5 := by omega
      have ub : b < 5 := by omega
      have fa := o1 a ua
      have gb := o2 b ub
      have la := o3.2 ua
      have rb := o4.2 ub
      have ea : stk (T 0) t (a : Int) = f5 (T 0) t a := rfl
      have eb : stk (T 0) u (b : Int) = f5 (T 0) u b := rfl
      rw [if_neg (by omega), if_neg (by omega)]
      simp only [x_stockAt iV1 hI.1 t _ ht, x_stockAt iV1 hI.1 u _ hu, retI_I, ea, eb, w32_id (x := f5 (T 0) t a - l) (by omega) (by omega), w32_id (x := f5 (T 0) u b - r) (by omega) (by omega), w32_id (x := (b : Int) - sp) (by omega) (by omega)]
      have nx : ∀ (n : Int) (a b : Nat) (l r x y : Int) (d12 : Option PV), X L 128 143 [some (xR 0), some (xI t), some (xI u), some (xI sp), some (xI n), some (xI (a : Int)), some (xI (b : Int)), some (xI l), some (xI r), some (xI (k : Int)), some (xI x), some (xI y), d12] [] σ Q = X L 128 18 [some (xR 0), some (xI t), some (xI u), some (xI sp), some (xI n), some (xI (a : Int)), some (xI (b : Int)), some (xI l), some (xI r), some (xI ((k + 1 : Nat) : Int)), some (xI x), some (xI y), d12] [] σ Q := by
        intro n a b l r x y d12; rw [e_128_143, w32_id (by omega) (by omega)]; rfl
      by_cases c1 : f5 (T 0) t a - l = 0 ∨ (a : Int) < (b : Int) - sp
      · have e : ch (f5 (T 0) t) (f5 (T 0) u) sp (m + 1) a b l r n = ch (f5 (T 0) t) (f5 (T 0) u) sp m (a + 1) b 0 r n := by
          simp only [ch]; rw [if_neg c5, if_pos c1]
        have go : X L 128 81 [some (xR 0), some (xI t), some (xI u), some (xI sp), some (xI n), some (xI (a : Int)), some (xI (b : Int)), some (xI l), some (xI r), some (xI (k : Int)), some (xI (f5 (T 0) t a - l)), some (xI (f5 (T 0) u b - r)), d12] [] σ Q = Q (some (xI (ch (f5 (T 0) t) (f5 (T 0) u) sp (m + 1) a b l r n))) σ := by
          rw [e, e_128_81, w32_id (by omega) (by omega)]
          refine Eq.trans (nx n (a + 1) b 0 r _ _ _) ?_
          refine ih (k + 1) (a + 1) b 0 r n (by omega) ⟨o1, o2, ⟨Int.le_refl _, fun h => (o1 _ h).1⟩, o4, ⟨o5.1, by omega⟩, by omega, by omega, by omega, o9⟩ _ _ _
        by_cases z : f5 (T 0) t a - l = 0
        · rw [if_pos z]; exact go
        · rw [if_neg z, if_neg (by omega)]; exact go
      · rw [if_neg (by omega), if_pos (by omega), e_128_90]
        simp only [brI, not_true_eq_false, true_implies, false_implies, implies_true, and_true, cTag, cTgt, cLen, true_and, Int.toNat_natCast, retI_I, retR_R, retV_N, retL_L, ne_eq, Int.reduceEq, not_false_eq_true, w32_id (x := (a : Int) - sp) (by omega) (by omega)]
        by_cases c2 : f5 (T 0) u b - r = 0 ∨ (b : Int) < (a : Int) - sp
        · have e : ch (f5 (T 0) t) (f5 (T 0) u) sp (m + 1) a b l r n = ch (f5 (T 0) t) (f5 (T 0) u) sp m a (b + 1) l 0 n := by
            simp only [ch]; rw [if_neg c5, if_neg c1, if_pos c2]
          have go : X L 128 104 [some (xR 0), some (xI t), some (xI u), some (xI sp), some (xI n), some (xI (a : Int)), some (xI (b : Int)), some (xI l), some (xI r), some (xI (k : Int)), some (xI (f5 (T 0) t a - l)), some (xI (f5 (T 0) u b - r)), d12] [] σ Q = Q (some (xI (ch (f5 (T 0) t) (f5 (T 0) u) sp (m + 1) a b l r n))) σ := by
            rw [e, e_128_104, w32_id (by omega) (by omega)]
            refine Eq.trans (nx n a (b + 1) l 0 _ _ _) ?_
            exact ih (k + 1) a (b + 1) l 0 n (by omega) ⟨o1, o2, o3, ⟨Int.le_refl _, fun h => (o2 _ h).1⟩, o5, by omega, by omega, o8, by omega⟩ _ _ _
          by_cases z : f5 (T 0) u b - r = 0
          · rw [if_pos z]; exact go
          · rw [if_neg z, if_neg (by omega)]; exact go
        · have e : ch (f5 (T 0) t) (f5 (T 0) u) sp (m + 1) a b l r n = ch (f5 (T 0) t) (f5 (T 0) u) sp m a b (l + fMin (f5 (T 0) t a - l) (f5 (T 0) u b - r)) (r + fMin (f5 (T 0) t a - l) (f5 (T 0) u b - r)) (n + fMin (f5 (T 0) t a - l) (f5 (T 0) u b - r)) := by
            simp only [ch]; rw [if_neg c5, if_neg c1, if_neg c2]
          have hmn := fMin_b (x := f5 (T 0) t a - l) (y := f5 (T 0) u b - r) (by omega) (by omega)
          rw [if_neg (by omega), if_pos (by omega), e, e_128_113]
          generalize fMin (f5 (T 0) t a - l) (f5 (T 0) u b - r) = q at hmn ⊢
          rw [w32_id (by omega) (by omega), w32_id (by omega) (by omega), w32_id (by omega) (by omega)]
          refine Eq.trans (nx (n + q) a b (l + q) (r + q) _ _ _) ?_
          exact ih (k + 1) a b (l + q) (r + q) (n + q) (by omega) ⟨o1, o2, ⟨by omega, fun _ => by omega⟩, ⟨by omega, fun _ => by omega⟩, by omega, o6, o7, by omega, by omega⟩ _ _ _
/-- how many turns there may still be -/
def pt (f g : Nat → Int) (sp : Int) (a b : Nat) (l r : Int) : Nat := 2 * (9 - a - b) + (if f a - l = 0 ∨ g b - r = 0 ∨ (a : Int) < (b : Int) - sp ∨ (b : Int) < (a : Int) - sp then 0 else 1)
abbrev pL (t u sp w al : Int) (a b : Nat) (l r n : Int) (d11 d12 d13 : Option PV) : LSt := [some (xR 75), some (xI t), some (xI u), some (xI sp), some (xI w), some (xI al), some (xI (a : Int)), some (xI (b : Int)), some (xI l), some (xI r), some (xI n), d11, d12, d13]
theorem x_pairsM (hI : IM T σ) (hV : IV B T) {t u sp w al : Int} (ht : 0 ≤ t ∧ t < 6) (hu : 0 ≤ u ∧ u < 6) (hsp : 0 ≤ sp ∧ sp ≤ 4) : ∀ (m a b : Nat) (l r n : Int), okP (f5 (T 0) t) (f5 (T 0) u) a b l r n → (5 ≤ a ∨ 5 ≤ b ∨ pt (f5 (T 0) t) (f5 (T 0) u) sp a b l r ≤ m) → ∀ d11 d12 d13 : Option PV, ∃ (a' b' : Nat) (l' r' : Int) (c11 c12 c13 : Option PV), ∀ Q : PQ, X L 192 106 (pL t u sp w al a b l r n d11 d12 d13) [] σ Q = X L 192 231 (pL t u sp w al a' b' l' r' (ch (f5 (T 0) t) (f5 (T 0) u) sp m a b l r n) c11 c12 c13) [] σ Q := by
  obtain ⟨t, rfl⟩ : ∃ q : Nat, t = (q : Int) := ⟨t.toNat, by omega⟩
  obtain ⟨u, rfl⟩ : ∃ q : Nat, u = (q : Int) := ⟨u.toNat, by omega⟩
  have stop : ∀ (a b : Nat) (l r n : Int) (d11 d12 d13 : Option PV), 5 ≤ a ∨ 5 ≤ b → ∀ Q : PQ, X L 192 106 (pL t u sp w al a b l r n d11 d12 d13) [] σ Q = X L 192 231 (pL t u sp w al a b l r n d11 d12 d13) [] σ Q := by
    intro a b l r n d11 d12 d13 h Q
    rw [e_192_106]
    simp only [brI, not_true_eq_false, true_implies, false_implies, implies_true, and_true, cTag, cTgt, cLen, true_and, Int.toNat_natCast, retI_I, retR_R, retV_N, retL_L, ne_eq, Int.reduceEq, not_false_eq_true]
    by_cases ca : 5 ≤ a
    · rw [if_pos (by omega)]
    · rw [if_neg (by omega), if_pos (by omega)]
  -- the head of a round
  have hd : ∀ (a b : Nat) (l r n : Int) (d11 d12 d13 : Option PV), okP (f5 (T 0) t) (f5 (T 0) u) a b l r n → a < 5 → b < 5 → ∀ Q : PQ, X L 192 106 (pL t u sp w al a b l r n d11 d12 d13) [] σ Q = X L 192 170 (pL t u sp w al a b l r n (some (xI (f5 (T 0) t a - l))) (some (xI (f5 (T 0) u b - r))) d13) [xI (if a ≤ b then (b : Int) - a else (a : Int) - b)] σ Q := by
    intro a b l r n d11 d12 d13 ok ha hb Q
    obtain ⟨o1, o2, o3, o4, o5, o6, o7, o8, o9⟩ := ok
    have fa := o1 a ha
    have gb := o2 b hb
    have la := o3.2 ha
    have rb := o4.2 hb
    have s1 : σ 81 (5 * t + a) = f5 (T 0) t a := by rw [show f5 (T 0) t a = stk (T 0) (t : Int) (a : Int) from rfl, stk_at (by omega) ha]; exact hI.1.st _ (by omega)
    have s2 : σ 81 (5 * u + b) = f5 (T 0) u b := by rw [show f5 (T 0) u b = stk (T 0) (u : Int) (b : Int) from rfl, stk_at (by omega) hb]; exact hI.1.st _ (by omega)
    rw [e_192_106]
    simp only [brI, not_true_eq_false, true_implies, false_implies, implies_true, and_true, cTag, cTgt, cLen, true_and, Int.toNat_natCast, retI_I, retR_R, retV_N, retL_L, ne_eq, Int.reduceEq, not_false_eq_true]
    rw [if_neg (by omega), if_neg (by omega)]
    simp (disch := omega) only [w32_id, inb, true_and, Int.toNat_add, Int.toNat_mul, Int.toNat_natCast, Int.reduceToNat, s1, s2]
    by_cases cab : a ≤ b
    · rw [if_pos (by omega), if_pos cab, e_192_165, w32_id (by omega) (by omega)]
    · rw [if_neg (by omega), if_neg cab]
  intro m
  induction m with
  | zero =>
    intro a b l r n ok h d11 d12 d13
    have hx : 5 ≤ a ∨ 5 ≤ b := by
      unfold pt at h
      omega
    exact ⟨a, b, l, r, d11, d12, d13, fun Q => stop a b l r n d11 d12 d13 hx Q⟩
  | succ m ih =>
    intro a b l r n ok h d11 d12 d13
    obtain ⟨o1, o2, o3, o4, o5, o6, o7, o8, o9⟩ := id ok
    by_cases c5 : 5 ≤ a ∨ 5 ≤ b
    · have e : ch (f5 (T 0) t) (f5 (T 0) u) sp (m + 1) a b l r n = n := if_pos c5
      rw [e]
      exact ⟨a, b, l, r, d11, d12, d13, fun Q => stop a b l r n d11 d12 d13 c5 Q⟩
    · have ua : a < 5 := by omega
      have ub : b < 5 := by omega
      have fa := o1 a ua
      have gb := o2 b ub
      have la := o3.2 ua
      have rb := o4.2 ub
      have hpt : pt (f5 (T 0) t) (f5 (T 0) u) sp a b l r ≤ m + 1 := by omega
      by_cases c1 : f5 (T 0) t a - l = 0 ∨ (a : Int) < (b : Int) - sp
      · have e : ch (f5 (T 0) t) (f5 (T 0) u) sp (m + 1) a b l r n = ch (f5 (T 0) t) (f5 (T 0) u) sp m (a + 1) b 0 r n := by
          simp only [ch]; rw [if_neg c5, if_pos c1]
        have hp2 : 5 ≤ a + 1 ∨ 5 ≤ b ∨ pt (f5 (T 0) t) (f5 (T 0) u) sp (a + 1) b 0 r ≤ m := by
          unfold pt at hpt ⊢
          rw [if_pos (by omega)] at hpt
          by_cases z : 5 ≤ a + 1
          · exact Or.inl z
          · right; right; split <;> omega
        obtain ⟨a', b', l', r', c11, c12, c13, go⟩ := ih (a + 1) b 0 r n ⟨o1, o2, ⟨Int.le_refl _, fun h => (o1 _ h).1⟩, o4, ⟨o5.1, by omega⟩, by omega, by omega, by omega, o9⟩ hp2 (some (xI (f5 (T 0) t a - l))) (some (xI (f5 (T 0) u b - r))) (some (xI (if a ≤ b then (b : Int) - a else (a : Int) - b)))
        refine ⟨a', b', l', r', c11, c12, c13, fun Q => ?_⟩
        rw [hd a b l r n d11 d12 d13 ok ua ub, e, ← go Q, e_192_170]
        simp only [brI, not_true_eq_false, true_implies, false_implies, implies_true, and_true, cTag, cTgt, cLen, true_and, Int.toNat_natCast, retI_I, retR_R, retV_N, retL_L, ne_eq, Int.reduceEq, not_false_eq_true]
        have go2 : X L 192 190 (pL t u sp w al a b l r n (some (xI (f5 (T 0) t a - l))) (some (xI (f5 (T 0) u b - r))) (some (xI (if a ≤ b then (b : Int) - a else (a : Int) - b)))) [] σ Q = X L 192 106 (pL t u sp w al (a + 1) b 0 r n (some (xI (f5 (T 0) t a - l))) (some (xI (f5 (T 0) u b - r))) (some (xI (if a ≤ b then (b : Int) - a else (a : Int) - b)))) [] σ Q := by
          rw [e_192_190, e_192_228, w32_id (by omega) (by omega)]; rfl
        by_cases z : f5 (T 0) t a - l = 0
        · rw [if_pos z]; exact go2
        · have z2 : (a : Int) < (b : Int) - sp := c1.resolve_left z
          rw [if_neg z, if_neg (by rw [if_pos (by omega)]; omega), if_neg (by omega)]; exact go2
      · by_cases c2 : f5 (T 0) u b - r = 0 ∨ (b : Int) < (a : Int) - sp
        · have e : ch (f5 (T 0) t) (f5 (T 0) u) sp (m + 1) a b l r n = ch (f5 (T 0) t) (f5 (T 0) u) sp m a (b + 1) l 0 n := by
            simp only [ch]; rw [if_neg c5, if_neg c1, if_pos c2]
          have hp2 : 5 ≤ a ∨ 5 ≤ b + 1 ∨ pt (f5 (T 0) t) (f5 (T 0) u) sp a (b + 1) l 0 ≤ m := by
            unfold pt at hpt ⊢
            rw [if_pos (by omega)] at hpt
            by_cases z : 5 ≤ b + 1
            · exact Or.inr (Or.inl z)
            · right; right; split <;> omega
          obtain ⟨a', b', l', r', c11, c12, c13, go⟩ := ih a (b + 1) l 0 n ⟨o1, o2, o3, ⟨Int.le_refl _, fun h => (o2 _ h).1⟩, o5, by omega, by omega, o8, by omega⟩ hp2 (some (xI (f5 (T 0) t a - l))) (some (xI (f5 (T 0) u b - r))) (some (xI (if a ≤ b then (b : Int) - a else (a : Int) - b)))
          refine ⟨a', b', l', r', c11, c12, c13, fun Q => ?_⟩
          rw [hd a b l r n d11 d12 d13 ok ua ub, e, ← go Q, e_192_170]
          simp only [brI, not_true_eq_false, true_implies, false_implies, implies_true, and_true, cTag, cTgt, cLen, true_and, Int.toNat_natCast, retI_I, retR_R, retV_N, retL_L, ne_eq, Int.reduceEq, not_false_eq_true]
          have go2 : X L 192 210 (pL t u sp w al a b l r n (some (xI (f5 (T 0) t a - l))) (some (xI (f5 (T 0) u b - r))) (some (xI (if a ≤ b then (b : Int) - a else (a : Int) - b)))) [] σ Q = X L 192 106 (pL t u sp w al a (b + 1) l 0 n (some (xI (f5 (T 0) t a - l))) (some (xI (f5 (T 0) u b - r))) (some (xI (if a ≤ b then (b : Int) - a else (a : Int) - b)))) [] σ Q := by
            rw [e_192_210, e_192_228, w32_id (by omega) (by omega)]; rfl
          have go3 : X L 192 199 (pL t u sp w al a b l r n (some (xI (f5 (T 0) t a - l))) (some (xI (f5 (T 0) u b - r))) (some (xI (if a ≤ b then (b : Int) - a else (a : Int) - b)))) [] σ Q = X L 192 106 (pL t u sp w al a (b + 1) l 0 n (some (xI (f5 (T 0) t a - l))) (some (xI (f5 (T 0) u b - r))) (some (xI (if a ≤ b then (b : Int) - a else (a : Int) - b)))) [] σ Q := by
            rw [e_192_199]
            simp only [brI, not_true_eq_false, true_implies, false_implies, implies_true, and_true, cTag, cTgt, cLen, true_and, Int.toNat_natCast, retI_I, retR_R, retV_N, retL_L, ne_eq, Int.reduceEq, not_false_eq_true]
            by_cases z : f5 (T 0) u b - r = 0
            · rw [if_pos z]; exact go2
            · have z2 : (b : Int) < (a : Int) - sp := c2.resolve_left z
              rw [if_neg z, if_neg (by rw [if_neg (by omega)]; omega)]; exact go2
          rw [if_neg (by omega)]
          by_cases z : (if a ≤ b then (b : Int) - a else (a : Int) - b) ≤ sp
          · rw [if_pos z]; exact go3
          · have z3 : (b : Int) ≤ a := by
              by_cases q : a ≤ b
              · rw [if_pos q] at z; omega
              · omega
            rw [if_neg z, if_pos z3]; exact go3
        · have e : ch (f5 (T 0) t) (f5 (T 0) u) sp (m + 1) a b l r n = ch (f5 (T 0) t) (f5 (T 0) u) sp m a b (l + fMin (f5 (T 0) t a - l) (f5 (T 0) u b - r)) (r + fMin (f5 (T 0) t a - l) (f5 (T 0) u b - r)) (n + fMin (f5 (T 0) t a - l) (f5 (T 0) u b - r)) := by
            simp only [ch]; rw [if_neg c5, if_neg c1, if_neg c2]
          have hmn := fMin_b (x := f5 (T 0) t a - l) (y := f5 (T 0) u b - r) (by omega) (by omega)
          rw [e]
          obtain ⟨q, hq⟩ : ∃ q : Nat, fMin (f5 (T 0) t a - l) (f5 (T 0) u b - r) = (q : Int) := ⟨(fMin (f5 (T 0) t a - l) (f5 (T 0) u b - r)).toNat, by omega⟩
          rw [hq] at hmn ⊢
          -- q single pairs
          have sing : ∀ (j : Nat) (l r n : Int) (d11 d12 d13 : Option PV), okP (f5 (T 0) t) (f5 (T 0) u) a b l r n → (j : Int) ≤ f5 (T 0) t a - l → (j : Int) ≤ f5 (T 0) u b - r → ∃ c11 c12 c13 : Option PV, ∀ Q : PQ, X L 192 106 (pL t u sp w al a b l r n d11 d12 d13) [] σ Q = X L 192 106 (pL t u sp w al a b (l + j) (r + j) (n + j) c11 c12 c13) [] σ Q := by
            intro j
            induction j with
            | zero =>
              intro l r n d11 d12 d13 _ _ _
              refine ⟨d11, d12, d13, fun Q => ?_⟩
              rw [show ((0 : Nat) : Int) = 0 from rfl, Int.add_zero, Int.add_zero, Int.add_zero]
            | succ j ihj =>
              intro l r n d11 d12 d13 ok h1 h2
              obtain ⟨o1, o2, o3, o4, o5, o6, o7, o8, o9⟩ := id ok
              obtain ⟨c11, c12, c13, go⟩ := ihj (l + 1) (r + 1) (n + 1) (some (xI (f5 (T 0) t a - l))) (some (xI (f5 (T 0) u b - r))) (some (xI (if a ≤ b then (b : Int) - a else (a : Int) - b))) ⟨o1, o2, ⟨by omega, fun _ => by omega⟩, ⟨by omega, fun _ => by omega⟩, by omega, o6, o7, by omega, by omega⟩ (by omega) (by omega)
              refine ⟨c11, c12, c13, fun Q => ?_⟩
              rw [hd a b l r n d11 d12 d13 ok ua ub, show l + ((j + 1 : Nat) : Int) = l + 1 + j by omega, show r + ((j + 1 : Nat) : Int) = r + 1 + j by omega, show n + ((j + 1 : Nat) : Int) = n + 1 + j by omega, ← go Q, e_192_170]
              simp only [brI, not_true_eq_false, true_implies, false_implies, implies_true, and_true, cTag, cTgt, cLen, true_and, Int.toNat_natCast, retI_I, retR_R, retV_N, retL_L, ne_eq, Int.reduceEq, not_false_eq_true]
              have off : (if a ≤ b then (b : Int) - a else (a : Int) - b) ≤ sp := by split <;> omega
              rw [if_neg (by omega), if_pos off, e_192_199]
              simp only [brI, not_true_eq_false, true_implies, false_implies, implies_true, and_true, cTag, cTgt, cLen, true_and, Int.toNat_natCast, retI_I, retR_R, retV_N, retL_L, ne_eq, Int.reduceEq, not_false_eq_true]
              rw [if_neg (by omega), if_pos off, e_192_219, e_192_228]
              simp (disch := omega) only [w32_id]
          have hp2 : 5 ≤ a ∨ 5 ≤ b ∨ pt (f5 (T 0) t) (f5 (T 0) u) sp a b (l + q) (r + q) ≤ m := by
            right; right
            unfold pt at hpt ⊢
            rw [if_neg (by omega)] at hpt
            rw [if_pos (by omega)]
            omega
          obtain ⟨x11, x12, x13, go1⟩ := sing q l r n d11 d12 d13 ok (by omega) (by omega)
          obtain ⟨a', b', l', r', c11, c12, c13, go⟩ := ih a b (l + q) (r + q) (n + q) ⟨o1, o2, ⟨by omega, fun _ => by omega⟩, ⟨by omega, fun _ => by omega⟩, by omega, o6, o7, by omega, by omega⟩ hp2 x11 x12 x13
          exact ⟨a', b', l', r', c11, c12, c13, fun Q => (go1 Q).trans (go Q)⟩
/-! all shoes of a shop -/
def shn (S : Mem) (t : Int) : Nat → Int
  | 0 => 0
  | i + 1 => shn S t i + f5 S t i
theorem shn_b (hS : VS B S) {t : Int} (ht : 0 ≤ t ∧ t < 6) (i : Nat) (hi : i ≤ 5) : 0 ≤ shn S t i ∧ shn S t i ≤ 9 * i := by
  induction i with
  | zero => exact ⟨Int.le_refl _, Int.le_refl _⟩
  | succ i ih => have := f5_b hS ht i (by omega); have := ih (by omega); simp only [shn]; omega
theorem x_shoesAt (hv : IsV v) (hR : RC v S σ) (hS : VS B S) {t : Int} (ht : 0 ≤ t ∧ t < 6) (d2 d3 : Option PV) (Q : PQ) : X L 68 0 [some (xR v), some (xI t), d2, d3] [] σ Q = Q (some (xI (shn S t 5))) σ := by
  have st := lpF (n := 5) (fun i (x : Int) Q => X L 68 4 [some (xR v), some (xI t), some (xI x), some (xI (i : Int))] [] σ Q) (fun i => shn S t i) (by
    intro i hi Q
    have hb := shn_b hS ht i (by omega)
    have hf := f5_b hS ht i hi
    show X L 68 4 [some (xR v), some (xI t), some (xI (shn S t i)), some (xI (i : Int))] [] σ Q = X L 68 4 [some (xR v), some (xI t), some (xI (shn S t i + f5 S t i)), some (xI ((i + 1 : Nat) : Int))] [] σ Q
    rw [e_68_4]
    simp only [brI, not_true_eq_false, true_implies, false_implies, implies_true, and_true, cTag, cTgt, cLen, true_and, Int.toNat_natCast, retI_I, retR_R, retV_N, retL_L, ne_eq, Int.reduceEq, not_false_eq_true, gv_t hv, x_stockAt hv hR t _ ht]
    rw [if_neg (by omega), show stk S t (i : Int) = f5 S t i from rfl]
    simp (disch := omega) only [w32_id]; rfl) Q
  rw [e_68_0]
  refine Eq.trans st ?_
  show X L 68 4 [some (xR v), some (xI t), some (xI (shn S t 5)), some (xI (5 : Int))] [] σ Q = _
  rw [e_68_4, e_68_24]
  simp only [brI, Int.le_refl, if_true]
abbrev gPr (T : Ful) (t u sp w : Int) : Prop := two T t u ∧ (0 ≤ sp ∧ sp ≤ 4) ∧ (0 ≤ w ∧ w ≤ 1)
def prs (T : Ful) (t u sp : Int) : Int := ch (f5 (T 0) t) (f5 (T 0) u) sp 20 0 0 0 0 0
def a_pairs (T : Ful) (t u sp w : Int) : Int := if gPr T t u sp w then (if w = 0 then prs T t u sp else shn (T 0) t 5 + shn (T 0) u 5 - 2 * prs T t u sp) else if two T t u then -2 else -1
theorem ch_b (f g : Nat → Int) (sp : Int) : ∀ (m a b : Nat) (l r n : Int), okP f g a b l r n → 0 ≤ ch f g sp m a b l r n ∧ ch f g sp m a b l r n ≤ 54 := by
  intro m
  induction m with
  | zero => intro a b l r n ok; obtain ⟨o1, o2, o3, o4, o5, o6, o7, o8, o9⟩ := ok; show 0 ≤ n ∧ n ≤ 54; omega
  | succ m ih =>
    intro a b l r n ok
    obtain ⟨o1, o2, o3, o4, o5, o6, o7, o8, o9⟩ := id ok
    simp only [ch]
    split
    · omega
    · next c5 =>
      have ua : a < 5 := by omega
      have ub : b < 5 := by omega
      have fa := o1 a ua
      have gb := o2 b ub
      have la := o3.2 ua
      have rb := o4.2 ub
      split
      · exact ih (a + 1) b 0 r n ⟨o1, o2, ⟨Int.le_refl _, fun h => (o1 _ h).1⟩, o4, ⟨o5.1, by omega⟩, by omega, by omega, by omega, o9⟩
      · split
        · exact ih a (b + 1) l 0 n ⟨o1, o2, o3, ⟨Int.le_refl _, fun h => (o2 _ h).1⟩, o5, by omega, by omega, o8, by omega⟩
        · have hmn := fMin_b (x := f a - l) (y := g b - r) (by omega) (by omega)
          exact ih a b _ _ _ ⟨o1, o2, ⟨by omega, fun _ => by omega⟩, ⟨by omega, fun _ => by omega⟩, by omega, o6, o7, by omega, by omega⟩
theorem ok0 (hS : VS B S) {t u : Int} (ht : 0 ≤ t ∧ t < 6) (hu : 0 ≤ u ∧ u < 6) : okP (f5 S t) (f5 S u) 0 0 0 0 0 := ⟨f5_b hS ht, f5_b hS hu, ⟨Int.le_refl _, fun h => (f5_b hS ht 0 h).1⟩, ⟨Int.le_refl _, fun h => (f5_b hS hu 0 h).1⟩, by decide, by decide, by decide, by decide, by decide⟩
theorem c_pairs (hI : IC T σ) (hV : IV B T) (t u sp w : Int) : CO σ (X L 110 0 [some (xR 0), some (xI t), some (xI u), some (xI sp), some (xI w), none] [] σ) (a_pairs T t u sp w) T := by
  refine CO_n hI (fun Q => ?_)
  have e00 := hI.1.1 0 (by omega)
  have hn := hV.1.1
  unfold a_pairs
  by_cases c : two T t u
  · have ht : 0 ≤ t ∧ t < 6 := by omega
    have hu : 0 ≤ u ∧ u < 6 := by omega
    by_cases c2 : (0 ≤ sp ∧ sp ≤ 4) ∧ (0 ≤ w ∧ w ≤ 1)
    · rw [if_pos ⟨c, c2⟩]
      have ok := ok0 hV.1 ht hu
      have hb : 0 ≤ prs T t u sp ∧ prs T t u sp ≤ 54 := ch_b _ _ sp 20 0 0 0 0 0 ok
      have s1 := shn_b hV.1 ht 5 (by omega)
      have s2 := shn_b hV.1 hu 5 (by omega)
      have hm : ∀ Q : PQ, X L 128 0 [some (xR 0), some (xI t), some (xI u), some (xI sp), none, none, none, none, none, none, none, none, none] [] σ Q = Q (some (xI (prs T t u sp))) σ := by
        intro Q; rw [e_128_0]; exact x_most hI hV ht hu c2.1 Q 20 0 0 0 0 0 0 (by omega) ok _ _ _
      simp only [e_110_0, e_110_14, e_110_36, e_110_53, brI, not_true_eq_false, true_implies, false_implies, implies_true, and_true, cTag, cTgt, cLen, true_and, Int.toNat_natCast, retI_I, retR_R, retV_N, retL_L, ne_eq, Int.reduceEq, not_false_eq_true, x_two iV1, x_isWithin, bI_0, e00, c, c2, hm, x_shoesAt iV1 hI.1 hV.1 ht, x_shoesAt iV1 hI.1 hV.1 hu, if_true, if_false, and_self]
      by_cases w0 : w = 0
      · rw [if_neg (fun q => q w0), if_pos w0]
      · rw [if_pos w0, if_neg w0]
        simp (disch := omega) only [w32_id]
    · rw [if_neg (fun q => c2 q.2), if_pos c]
      simp only [e_110_0, e_110_14, e_110_33, brI, not_true_eq_false, true_implies, false_implies, implies_true, and_true, cTag, cTgt, cLen, true_and, Int.toNat_natCast, retI_I, retR_R, retV_N, retL_L, ne_eq, Int.reduceEq, not_false_eq_true, x_two iV1, x_isWithin, bI_0, e00, c, if_true, if_false, and_self]
      by_cases c3 : 0 ≤ sp ∧ sp ≤ 4
      · have c4 : ¬ (0 ≤ w ∧ w ≤ 1) := fun q => c2 ⟨c3, q⟩
        simp only [c3, c4, brI, not_true_eq_false, true_implies, false_implies, implies_true, and_true, cTag, cTgt, cLen, true_and, Int.toNat_natCast, retI_I, retR_R, retV_N, retL_L, ne_eq, Int.reduceEq, not_false_eq_true, if_false, if_true, and_self]
      · simp only [c3, brI, not_true_eq_false, true_implies, false_implies, implies_true, and_true, cTag, cTgt, cLen, true_and, Int.toNat_natCast, retI_I, retR_R, retV_N, retL_L, ne_eq, Int.reduceEq, not_false_eq_true, if_true]
  · rw [if_neg (fun q => c q.1), if_neg c]
    simp only [e_110_0, brI, not_true_eq_false, true_implies, false_implies, implies_true, and_true, cTag, cTgt, cLen, true_and, Int.toNat_natCast, retI_I, retR_R, retV_N, retL_L, ne_eq, Int.reduceEq, not_false_eq_true, x_two iV1, bI_0, e00, c, if_true, if_false]
theorem m_pairs (hI : IM T σ) (hV : IV B T) (t u sp w : Int) : MO σ (X L 192 0 [some (xR 75), some (xI t), some (xI u), some (xI sp), some (xI w), none, none, none, none, none, none, none, none, none] [] σ) (a_pairs T t u sp w) T := by
  refine MO_n hI (fun Q => ?_)
  have hn := hV.1.1
  have hw6 : 2 ≤ σ 75 0 ∧ σ 75 0 ≤ 6 := by rw [hI.tw]; exact hn
  unfold a_pairs
  by_cases c : two T t u
  · obtain ⟨d1, d2, d3⟩ := id c
    have ht : 0 ≤ t ∧ t < 6 := by omega
    have hu : 0 ≤ u ∧ u < 6 := by omega
    by_cases c2 : (0 ≤ sp ∧ sp ≤ 4) ∧ (0 ≤ w ∧ w ≤ 1)
    · rw [if_pos ⟨c, c2⟩]
      have ok := ok0 hV.1 ht hu
      have hb : 0 ≤ prs T t u sp ∧ prs T t u sp ≤ 54 := ch_b _ _ sp 20 0 0 0 0 0 ok
      have s1 := shn_b hV.1 ht 5 (by omega)
      have s2 := shn_b hV.1 hu 5 (by omega)
      have st := lpF (n := 5) (fun i (x : Int) Q => X L 192 51 [some (xR 75), some (xI t), some (xI u), some (xI sp), some (xI w), some (xI x), some (xI (i : Int)), none, none, none, none, none, none, none] [] σ Q) (fun i => shn (T 0) t i + shn (T 0) u i) (by
        intro i hi Q
        have b1 := shn_b hV.1 ht i (by omega)
        have b2 := shn_b hV.1 hu i (by omega)
        have f1 := f5_b hV.1 ht i hi
        have f2 := f5_b hV.1 hu i hi
        have v1 : σ 81 (5 * t.toNat + i) = f5 (T 0) t i := by
          show _ = stk (T 0) t i
          unfold stk; rw [if_pos (by omega), Int.toNat_natCast]; exact hI.1.st _ (by omega)
        have v2 : σ 81 (5 * u.toNat + i) = f5 (T 0) u i := by
          show _ = stk (T 0) u i
          unfold stk; rw [if_pos (by omega), Int.toNat_natCast]; exact hI.1.st _ (by omega)
        show X L 192 51 [some (xR 75), some (xI t), some (xI u), some (xI sp), some (xI w), some (xI (shn (T 0) t i + shn (T 0) u i)), some (xI (i : Int)), none, none, none, none, none, none, none] [] σ Q = X L 192 51 [some (xR 75), some (xI t), some (xI u), some (xI sp), some (xI w), some (xI (shn (T 0) t i + f5 (T 0) t i + (shn (T 0) u i + f5 (T 0) u i))), some (xI ((i + 1 : Nat) : Int)), none, none, none, none, none, none, none] [] σ Q
        rw [e_192_51]
        simp only [brI, not_true_eq_false, true_implies, false_implies, implies_true, and_true, cTag, cTgt, cLen, true_and, Int.toNat_natCast, retI_I, retR_R, retV_N, retL_L, ne_eq, Int.reduceEq, not_false_eq_true]
        rw [if_neg (by omega)]
        simp (disch := omega) only [w32_id, inb, true_and, Int.toNat_add, Int.toNat_mul, Int.toNat_natCast, Int.reduceToNat, v1, v2]
        rw [show shn (T 0) t i + shn (T 0) u i + (f5 (T 0) t i + f5 (T 0) u i) = shn (T 0) t i + f5 (T 0) t i + (shn (T 0) u i + f5 (T 0) u i) by omega]
        rfl) Q
      have st : X L 192 51 [some (xR 75), some (xI t), some (xI u), some (xI sp), some (xI w), some (xI 0), some (xI 0), none, none, none, none, none, none, none] [] σ Q = X L 192 51 [some (xR 75), some (xI t), some (xI u), some (xI sp), some (xI w), some (xI (shn (T 0) t 5 + shn (T 0) u 5)), some (xI 5), none, none, none, none, none, none, none] [] σ Q := st
      obtain ⟨a', b', l', r', c11, c12, c13, go⟩ := x_pairsM (L := L) (w := w) (al := shn (T 0) t 5 + shn (T 0) u 5) hI hV ht hu c2.1 20 0 0 0 0 0 ok (by unfold pt; split <;> omega) none none none
      have go : ∀ Q : PQ, X L 192 106 [some (xR 75), some (xI t), some (xI u), some (xI sp), some (xI w), some (xI (shn (T 0) t 5 + shn (T 0) u 5)), some (xI 0), some (xI 0), some (xI 0), some (xI 0), some (xI 0), none, none, none] [] σ Q = X L 192 231 (pL t u sp w (shn (T 0) t 5 + shn (T 0) u 5) a' b' l' r' (prs T t u sp) c11 c12 c13) [] σ Q := go
      simp only [e_192_0, e_192_23, e_192_45, brI, not_true_eq_false, true_implies, false_implies, implies_true, and_true, cTag, cTgt, cLen, true_and, Int.toNat_natCast, retI_I, retR_R, retV_N, retL_L, ne_eq, Int.reduceEq, not_false_eq_true, x_isTownM L _ _ _ hw6, x_in, bI_0, hI.tw, d1, d2, d3, c2, if_true, if_false, and_self, st]
      rw [e_192_51]
      simp only [brI, not_true_eq_false, true_implies, false_implies, implies_true, and_true, cTag, cTgt, cLen, true_and, Int.toNat_natCast, retI_I, retR_R, retV_N, retL_L, ne_eq, Int.reduceEq, not_false_eq_true, Int.le_refl, if_true, e_192_91, go]
      rw [e_192_231]
      simp only [e_192_241, e_192_248, brI, not_true_eq_false, true_implies, false_implies, implies_true, and_true, cTag, cTgt, cLen, true_and, Int.toNat_natCast, retI_I, retR_R, retV_N, retL_L, ne_eq, Int.reduceEq, not_false_eq_true]
      by_cases w0 : w = 0
      · rw [if_neg (fun q => q w0), if_pos w0]
      · rw [if_pos w0, if_neg w0]
        simp (disch := omega) only [w32_id]
    · rw [if_neg (fun q => c2 q.2), if_pos c]
      simp only [e_192_0, e_192_23, e_192_42, brI, not_true_eq_false, true_implies, false_implies, implies_true, and_true, cTag, cTgt, cLen, true_and, Int.toNat_natCast, retI_I, retR_R, retV_N, retL_L, ne_eq, Int.reduceEq, not_false_eq_true, x_isTownM L _ _ _ hw6, x_in, bI_0, hI.tw, d1, d2, d3, if_true, if_false, and_self]
      by_cases c3 : 0 ≤ sp ∧ sp ≤ 4
      · have c4 : ¬ (0 ≤ w ∧ w ≤ 1) := fun q => c2 ⟨c3, q⟩
        simp only [c3, c4, brI, not_true_eq_false, true_implies, false_implies, implies_true, and_true, cTag, cTgt, cLen, true_and, Int.toNat_natCast, retI_I, retR_R, retV_N, retL_L, ne_eq, Int.reduceEq, not_false_eq_true, if_false, if_true, and_self]
      · simp only [c3, brI, not_true_eq_false, true_implies, false_implies, implies_true, and_true, cTag, cTgt, cLen, true_and, Int.toNat_natCast, retI_I, retR_R, retV_N, retL_L, ne_eq, Int.reduceEq, not_false_eq_true, if_true]
  · rw [if_neg (fun q => c q.1), if_neg c]
    simp only [e_192_0, e_192_21, brI, not_true_eq_false, true_implies, false_implies, implies_true, and_true, cTag, cTgt, cLen, true_and, Int.toNat_natCast, retI_I, retR_R, retV_N, retL_L, ne_eq, Int.reduceEq, not_false_eq_true, x_isTownM L _ _ _ hw6, bI_0, hI.tw]
    by_cases d1 : 0 ≤ t ∧ t < T 0 0 0
    · by_cases d2 : 0 ≤ u ∧ u < T 0 0 0
      · have d3 : t = u := Classical.byContradiction (fun q => c ⟨d1, d2, q⟩)
        simp only [d1, d2, d3, brI, not_true_eq_false, true_implies, false_implies, implies_true, and_true, cTag, cTgt, cLen, true_and, Int.toNat_natCast, retI_I, retR_R, retV_N, retL_L, ne_eq, Int.reduceEq, not_false_eq_true, if_false, if_true, and_self]
      · simp only [d1, d2, brI, not_true_eq_false, true_implies, false_implies, implies_true, and_true, cTag, cTgt, cLen, true_and, Int.toNat_natCast, retI_I, retR_R, retV_N, retL_L, ne_eq, Int.reduceEq, not_false_eq_true, if_false, if_true, and_self]
    · simp only [d1, brI, not_true_eq_false, true_implies, false_implies, implies_true, and_true, cTag, cTgt, cLen, true_and, Int.toNat_natCast, retI_I, retR_R, retV_N, retL_L, ne_eq, Int.reduceEq, not_false_eq_true, if_false, if_true]
end Pairs
