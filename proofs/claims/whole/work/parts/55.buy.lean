/-! buyers, owner, rests; tracks; a spy's best pair -/
section Buy
variable {B : Int} {S σ τ : Mem} {L v : Nat} {T : Ful}
def byn (S : Mem) (x : Int) : Nat → Int
  | 0 => 0
  | i + 1 => byn S x i + (if S (8 + i) 0 = 1 ∧ x ≤ S (8 + i) 5 then 1 else 0)
theorem byn_b (S : Mem) (x : Int) (i : Nat) : 0 ≤ byn S x i ∧ byn S x i ≤ i := by
  induction i with
  | zero => exact ⟨Int.le_refl _, Int.le_refl _⟩
  | succ i ih => simp only [byn]; split <;> omega
def byr (S : Mem) (x : Int) : Int := byn S x 4
theorem byr_b (S : Mem) (x : Int) : 0 ≤ byr S x ∧ byr S x ≤ 4 := byn_b S x 4
theorem x_buyersAt (hv : IsV v) (hR : RC v S σ) (hS : VS B S) (x : Int) (d2 d3 : Option PV) (Q : PQ) : X L 57 0 [some (xR v), some (xI x), d2, d3] [] σ Q = Q (some (xI (byr S x))) σ := by
  have st := lpF (n := 4) (fun i (y : Int) Q => X L 57 4 [some (xR v), some (xI x), some (xI y), some (xI (i : Int))] [] σ Q) (fun i => byn S x i) (by
    intro i hi Q
    have h01 := (hS.p hi).1
    have hb := byn_b S x i
    show X L 57 4 [some (xR v), some (xI x), some (xI (byn S x i)), some (xI (i : Int))] [] σ Q = X L 57 4 [some (xR v), some (xI x), some (xI (byn S x i + (if S (8 + i) 0 = 1 ∧ x ≤ S (8 + i) 5 then 1 else 0))), some (xI ((i + 1 : Nat) : Int))] [] σ Q
    rw [e_57_4]
    simp only [brI, not_true_eq_false, true_implies, false_implies, implies_true, and_true, cTag, cTgt, cLen, true_and, Int.toNat_natCast, retI_I, retR_R, retV_N, retL_L, ne_eq, Int.reduceEq, not_false_eq_true, gv_t hv, x_isThere hv hR hS, thr_n hi, x_personAt hv hi, gt_p hv hi, hR.p hi (f := 5) (by omega), e_57_34, e_57_35]
    rw [if_neg (by omega)]
    by_cases c : S (8 + i) 0 = 1
    · rw [if_neg (by omega)]
      by_cases c2 : x ≤ S (8 + i) 5
      · rw [if_neg (by omega), if_pos ⟨c, c2⟩]
        simp (disch := omega) only [w32_id]; rfl
      · rw [if_pos (by omega), if_neg (fun q => c2 q.2)]
        simp (disch := omega) only [w32_id]; rfl
    · rw [if_pos (by omega), if_neg (fun q => c q.1)]
      simp (disch := omega) only [w32_id]; rfl) Q
  rw [e_57_0]
  refine Eq.trans st ?_
  show X L 57 4 [some (xR v), some (xI x), some (xI (byn S x 4)), some (xI (4 : Int))] [] σ Q = _
  rw [e_57_4, e_57_43]
  simp only [brI, Int.le_refl, if_true]
  rfl
theorem x_buyersM (hM : RM (vP σ) S) (hS : VS B S) (x : Int) (d2 d3 : Option PV) (Q : PQ) : X L 193 0 [some (xR 75), some (xI x), d2, d3] [] σ Q = Q (some (xI (byr S x))) σ := by
  have h9 : σ 75 9 = thb S := hM.th
  have st := lpF (n := 4) (fun i (y : Int) Q => X L 193 4 [some (xR 75), some (xI x), some (xI y), some (xI (i : Int))] [] σ Q) (fun i => byn S x i) (by
    intro i hi Q
    have h01 := (hS.p hi).1
    have hb := byn_b S x i
    show X L 193 4 [some (xR 75), some (xI x), some (xI (byn S x i)), some (xI (i : Int))] [] σ Q = X L 193 4 [some (xR 75), some (xI x), some (xI (byn S x i + (if S (8 + i) 0 = 1 ∧ x ≤ S (8 + i) 5 then 1 else 0))), some (xI ((i + 1 : Nat) : Int))] [] σ Q
    rw [e_193_4]
    simp only [brI, not_true_eq_false, true_implies, false_implies, implies_true, and_true, cTag, cTgt, cLen, true_and, Int.toNat_natCast, retI_I, retR_R, retV_N, retL_L, ne_eq, Int.reduceEq, not_false_eq_true, x_isThereM hS h9, thr_n hi, e_193_32, e_193_33]
    simp (disch := omega) only [inb, true_and]
    rw [if_neg (by omega)]
    by_cases c : S (8 + i) 0 = 1
    · have pu : σ 84 i = S (8 + i) 5 := (hM.pp i hi c).pu
      rw [if_neg (by omega), pu]
      by_cases c2 : x ≤ S (8 + i) 5
      · rw [if_neg (by omega), if_pos ⟨c, c2⟩]
        simp (disch := omega) only [w32_id]; rfl
      · rw [if_pos (by omega), if_neg (fun q => c2 q.2)]
        simp (disch := omega) only [w32_id]; rfl
    · rw [if_pos (by omega), if_neg (fun q => c q.1)]
      simp (disch := omega) only [w32_id]; rfl) Q
  rw [e_193_0]
  refine Eq.trans st ?_
  show X L 193 4 [some (xR 75), some (xI x), some (xI (byn S x 4)), some (xI (4 : Int))] [] σ Q = _
  rw [e_193_4, e_193_41]
  simp only [brI, Int.le_refl, if_true]
  rfl
theorem mb {a b : Int} (h : 0 ≤ a ∧ a ≤ 99) (h2 : 0 ≤ b ∧ b ≤ 4) : 0 ≤ a * b ∧ a * b ≤ 396 := by
  refine ⟨Int.mul_nonneg h.1 h2.1, ?_⟩
  have := Int.mul_le_mul h.2 h2.2 h2.1 (by omega : (0 : Int) ≤ 99)
  omega
/-! OWNER -/
def ow (S : Mem) : Nat → Int
  | 0 => 0
  | v + 1 => if ow S v * byr S (ow S v) < (v : Int) * byr S v then (v : Int) else ow S v
theorem ow_b (S : Mem) (k : Nat) : 0 ≤ ow S k ∧ (ow S k ≤ k) ∧ (k ≤ 100 → ow S k ≤ 99) := by
  induction k with
  | zero => exact ⟨Int.le_refl _, Int.le_refl _, fun _ => (by decide : (0 : Int) ≤ 99)⟩
  | succ k ih => simp only [ow]; split <;> omega
def a_owner (T : Ful) (w : Int) : Int := if 0 ≤ w ∧ w ≤ 1 then (if w = 0 then ow (T 0) 100 else ow (T 0) 100 * byr (T 0) (ow (T 0) 100)) else -2
theorem c_owner (hI : IC T σ) (hV : IV B T) (w : Int) : CO σ (X L 112 0 [some (xR 0), some (xI w), none, none, none, none] [] σ) (a_owner T w) T := by
  refine CO_n hI (fun Q => ?_)
  unfold a_owner
  by_cases c : 0 ≤ w ∧ w ≤ 1
  · rw [if_pos c]
    obtain ⟨d5, st⟩ : ∃ d5 : Option PV, X L 112 19 [some (xR 0), some (xI w), some (xI 0), some (xI 0), some (xI 0), none] [] σ Q = X L 112 19 [some (xR 0), some (xI w), some (xI (ow (T 0) 100)), some (xI (ow (T 0) 100 * byr (T 0) (ow (T 0) 100))), some (xI 100), d5] [] σ Q := by
      obtain ⟨a, e, -⟩ := lpE (n := 100) (fun k (d : Option PV) Q => X L 112 19 [some (xR 0), some (xI w), some (xI (ow (T 0) k)), some (xI (ow (T 0) k * byr (T 0) (ow (T 0) k))), some (xI (k : Int)), d] [] σ Q) (fun _ _ => True) (by
        intro k d hk _
        have hb := byr_b (T 0) k
        have ho := ow_b (T 0) k
        have h1 := mb (a := (k : Int)) (by omega) hb
        have h2 := mb (a := ow (T 0) k) (by omega) (byr_b (T 0) (ow (T 0) k))
        refine ⟨some (xI ((k : Int) * byr (T 0) k)), fun Q => ?_, trivial⟩
        show X L 112 19 [some (xR 0), some (xI w), some (xI (ow (T 0) k)), some (xI (ow (T 0) k * byr (T 0) (ow (T 0) k))), some (xI (k : Int)), d] [] σ Q = X L 112 19 [some (xR 0), some (xI w), some (xI (ow (T 0) (k + 1))), some (xI (ow (T 0) (k + 1) * byr (T 0) (ow (T 0) (k + 1)))), some (xI ((k + 1 : Nat) : Int)), some (xI ((k : Int) * byr (T 0) k))] [] σ Q
        rw [e_112_19]
        simp only [brI, not_true_eq_false, true_implies, false_implies, implies_true, and_true, cTag, cTgt, cLen, true_and, Int.toNat_natCast, retI_I, retR_R, retV_N, retL_L, ne_eq, Int.reduceEq, not_false_eq_true, x_buyersAt iV1 hI.1 hV.1, e_112_52, w32_id (x := (k : Int) * byr (T 0) k) (by omega) (by omega), w32_id (x := (k : Int) + 1) (by omega) (by omega)]
        rw [if_neg (by omega)]
        by_cases c2 : (k : Int) * byr (T 0) k ≤ ow (T 0) k * byr (T 0) (ow (T 0) k)
        · have u : ow (T 0) (k + 1) = ow (T 0) k := if_neg (by omega)
          rw [if_pos c2, u]; rfl
        · have u : ow (T 0) (k + 1) = (k : Int) := if_pos (by omega)
          rw [if_neg c2, u]; rfl) (a := none) trivial
      refine ⟨a, ?_⟩
      have e := e Q
      have z : ow (T 0) 0 * byr (T 0) (ow (T 0) 0) = 0 := Int.zero_mul _
      rw [z] at e
      exact e
    simp only [e_112_0, e_112_12, brI, not_true_eq_false, true_implies, false_implies, implies_true, and_true, cTag, cTgt, cLen, true_and, Int.toNat_natCast, retI_I, retR_R, retV_N, retL_L, ne_eq, Int.reduceEq, not_false_eq_true, x_isWithin, bI_0, c, if_true, if_false, and_self, st]
    rw [e_112_19]
    simp only [e_112_58, e_112_66, e_112_67, brI, not_true_eq_false, true_implies, false_implies, implies_true, and_true, cTag, cTgt, cLen, true_and, Int.toNat_natCast, retI_I, retR_R, retV_N, retL_L, ne_eq, Int.reduceEq, not_false_eq_true, Int.le_refl, if_true]
    by_cases w0 : w = 0
    · rw [if_neg (fun q => q w0), if_pos w0]
    · rw [if_pos w0, if_neg w0]
  · rw [if_neg c]
    simp only [e_112_0, brI, not_true_eq_false, true_implies, false_implies, implies_true, and_true, cTag, cTgt, cLen, true_and, Int.toNat_natCast, retI_I, retR_R, retV_N, retL_L, ne_eq, Int.reduceEq, not_false_eq_true, x_isWithin, bI_0, c, if_true, if_false]
theorem m_owner (hI : IM T σ) (hV : IV B T) (w : Int) : MO σ (X L 196 0 [some (xR 75), some (xI w), none, none] [] σ) (a_owner T w) T := by
  refine MO_n hI (fun Q => ?_)
  unfold a_owner
  by_cases c : 0 ≤ w ∧ w ≤ 1
  · rw [if_pos c]
    have st := lpF (n := 99) (fun k (x : Int) Q => X L 196 16 [some (xR 75), some (xI w), some (xI x), some (xI ((k + 1 : Nat) : Int))] [] σ Q) (fun k => ow (T 0) (k + 1)) (by
      intro k hk Q
      have hb := byr_b (T 0) ((k + 1 : Nat) : Int)
      have ho := ow_b (T 0) (k + 1)
      have h1 := mb (a := ((k + 1 : Nat) : Int)) (by omega) hb
      have h2 := mb (a := ow (T 0) (k + 1)) (by omega) (byr_b (T 0) (ow (T 0) (k + 1)))
      show X L 196 16 [some (xR 75), some (xI w), some (xI (ow (T 0) (k + 1))), some (xI ((k + 1 : Nat) : Int))] [] σ Q = X L 196 16 [some (xR 75), some (xI w), some (xI (ow (T 0) (k + 1 + 1))), some (xI ((k + 1 + 1 : Nat) : Int))] [] σ Q
      rw [e_196_16]
      simp only [brI, not_true_eq_false, true_implies, false_implies, implies_true, and_true, cTag, cTgt, cLen, true_and, Int.toNat_natCast, retI_I, retR_R, retV_N, retL_L, ne_eq, Int.reduceEq, not_false_eq_true, x_buyersM hI.1 hV.1, e_196_43, e_196_44, w32_id (x := ((k + 1 : Nat) : Int) * byr (T 0) ((k + 1 : Nat) : Int)) (by omega) (by omega), w32_id (x := ow (T 0) (k + 1) * byr (T 0) (ow (T 0) (k + 1))) (by omega) (by omega), w32_id (x := ((k + 1 : Nat) : Int) + 1) (by omega) (by omega)]
      rw [if_neg (by omega)]
      by_cases c2 : ((k + 1 : Nat) : Int) * byr (T 0) ((k + 1 : Nat) : Int) ≤ ow (T 0) (k + 1) * byr (T 0) (ow (T 0) (k + 1))
      · have u : ow (T 0) (k + 1 + 1) = ow (T 0) (k + 1) := if_neg (by omega)
        rw [if_pos c2, u]; rfl
      · have u : ow (T 0) (k + 1 + 1) = ((k + 1 : Nat) : Int) := if_pos (by omega)
        rw [if_neg c2, u]; rfl) Q
    have o1 : ow (T 0) (0 + 1) = 0 := by
      show (if (0 : Int) * byr (T 0) 0 < ((0 : Nat) : Int) * byr (T 0) ((0 : Nat) : Int) then ((0 : Nat) : Int) else 0) = 0
      split <;> rfl
    have st : X L 196 16 [some (xR 75), some (xI w), some (xI (ow (T 0) (0 + 1))), some (xI 1)] [] σ Q = X L 196 16 [some (xR 75), some (xI w), some (xI (ow (T 0) 100)), some (xI 100)] [] σ Q := st
    rw [o1] at st
    have ho := ow_b (T 0) 100
    have h2 := mb (a := ow (T 0) 100) (by omega) (byr_b (T 0) (ow (T 0) 100))
    simp only [e_196_0, e_196_12, brI, not_true_eq_false, true_implies, false_implies, implies_true, and_true, cTag, cTgt, cLen, true_and, Int.toNat_natCast, retI_I, retR_R, retV_N, retL_L, ne_eq, Int.reduceEq, not_false_eq_true, x_in, bI_0, c, if_true, if_false, and_self, st]
    rw [e_196_16]
    simp only [e_196_51, e_196_59, e_196_66, brI, not_true_eq_false, true_implies, false_implies, implies_true, and_true, cTag, cTgt, cLen, true_and, Int.toNat_natCast, retI_I, retR_R, retV_N, retL_L, ne_eq, Int.reduceEq, not_false_eq_true, Int.le_refl, if_true, x_buyersM hI.1 hV.1, w32_id (x := ow (T 0) 100 * byr (T 0) (ow (T 0) 100)) (by omega) (by omega)]
    by_cases w0 : w = 0
    · rw [if_neg (fun q => q w0), if_pos w0]
    · rw [if_pos w0, if_neg w0]
  · rw [if_neg c]
    simp only [e_196_0, brI, not_true_eq_false, true_implies, false_implies, implies_true, and_true, cTag, cTgt, cLen, true_and, Int.toNat_natCast, retI_I, retR_R, retV_N, retL_L, ne_eq, Int.reduceEq, not_false_eq_true, x_in, bI_0, c, if_true, if_false]
/-! RESTS -/
abbrev rsC (S : Mem) (a b x : Int) : Prop := x * byr S (x + b) ≤ a * byr S (a + b) ∧ x * byr S (a + x) ≤ b * byr S (a + b)
def rsn (S : Mem) (a b : Int) : Nat → Nat → Bool
  | 0, _ => true
  | m + 1, x => if rsC S a b x then rsn S a b m (x + 1) else false
theorem x_atRest (hI : IC T σ) (hV : IV B T) {a b : Nat} (ha : a < 10) (hb : b < 10) (Q : PQ) : X L 129 0 [some (xR 0), some (xI (a : Int)), some (xI (b : Int)), none, none] [] σ Q = Q (some (xI (bI (rsn (T 0) a b 10 0 = true)))) σ := by
  have hab := mb (a := (a : Int)) (by omega) (byr_b (T 0) ((a : Int) + b))
  have hbb := mb (a := (b : Int)) (by omega) (byr_b (T 0) ((a : Int) + b))
  have st : ∀ (m i : Nat), i + m = 10 → X L 129 14 [some (xR 0), some (xI (a : Int)), some (xI (b : Int)), some (xI (byr (T 0) ((a : Int) + b))), some (xI (i : Int))] [] σ Q = Q (some (xI (bI (rsn (T 0) a b m i = true)))) σ := by
    intro m
    induction m with
    | zero =>
      intro i hi
      rw [e_129_14]
      simp only [brI, not_true_eq_false, true_implies, false_implies, implies_true, and_true, cTag, cTgt, cLen, true_and, Int.toNat_natCast, retI_I, retR_R, retV_N, retL_L, ne_eq, Int.reduceEq, not_false_eq_true]
      rw [if_pos (by omega), e_129_71]
      simp [rsn, bI]
    | succ m ih =>
      intro i hi
      have h1 := mb (a := (i : Int)) (by omega) (byr_b (T 0) ((i : Int) + b))
      have h2 := mb (a := (i : Int)) (by omega) (byr_b (T 0) ((a : Int) + i))
      rw [e_129_14]
      simp only [brI, not_true_eq_false, true_implies, false_implies, implies_true, and_true, cTag, cTgt, cLen, true_and, Int.toNat_natCast, retI_I, retR_R, retV_N, retL_L, ne_eq, Int.reduceEq, not_false_eq_true, e_129_43, e_129_65, x_buyersAt iV1 hI.1 hV.1, w32_id (x := (i : Int) + b) (by omega) (by omega), w32_id (x := (a : Int) + i) (by omega) (by omega), w32_id (x := (i : Int) * byr (T 0) ((i : Int) + b)) (by omega) (by omega), w32_id (x := (i : Int) * byr (T 0) ((a : Int) + i)) (by omega) (by omega), w32_id (x := (a : Int) * byr (T 0) ((a : Int) + b)) (by omega) (by omega), w32_id (x := (b : Int) * byr (T 0) ((a : Int) + b)) (by omega) (by omega), w32_id (x := (i : Int) + 1) (by omega) (by omega)]
      rw [if_neg (by omega)]
      by_cases c : rsC (T 0) a b i
      · have f1 : rsn (T 0) a b (m + 1) i = rsn (T 0) a b m (i + 1) := if_pos c
        rw [f1, if_pos c.1, if_pos c.2]
        exact ih (i + 1) (by omega)
      · have f1 : rsn (T 0) a b (m + 1) i = false := if_neg c
        rw [f1]
        by_cases c1 : (i : Int) * byr (T 0) ((i : Int) + b) ≤ (a : Int) * byr (T 0) ((a : Int) + b)
        · have c2 : ¬ (i : Int) * byr (T 0) ((a : Int) + i) ≤ (b : Int) * byr (T 0) ((a : Int) + b) := fun q => c ⟨c1, q⟩
          rw [if_pos c1, if_neg c2]; simp [bI]
        · rw [if_neg c1]; simp [bI]
  rw [e_129_0]
  simp only [brI, not_true_eq_false, true_implies, false_implies, implies_true, and_true, cTag, cTgt, cLen, true_and, Int.toNat_natCast, retI_I, retR_R, retV_N, retL_L, ne_eq, Int.reduceEq, not_false_eq_true, x_buyersAt iV1 hI.1 hV.1, w32_id (x := (a : Int) + b) (by omega) (by omega)]
  exact st 10 0 (by omega)
theorem x_restM (hI : IM T σ) (hV : IV B T) {a b : Nat} (ha : a < 10) (hb : b < 10) (Q : PQ) : X L 194 0 [some (xR 75), some (xI (a : Int)), some (xI (b : Int)), none, none] [] σ Q = Q (some (xI (bI (rsn (T 0) a b 10 0 = true)))) σ := by
  have hab := mb (a := (a : Int)) (by omega) (byr_b (T 0) ((a : Int) + b))
  have hbb := mb (a := (b : Int)) (by omega) (byr_b (T 0) ((a : Int) + b))
  have s0 : ∀ (m i : Nat), i + m = 10 → X L 194 5 [some (xR 75), some (xI (a : Int)), some (xI (b : Int)), some (xI 0), some (xI (i : Int))] [] σ Q = Q (some (xI 0)) σ := by
    intro m
    induction m with
    | zero =>
      intro i hi
      rw [e_194_5]
      simp only [brI, not_true_eq_false, true_implies, false_implies, implies_true, and_true, cTag, cTgt, cLen, true_and, Int.toNat_natCast, retI_I, retR_R, retV_N, retL_L, ne_eq, Int.reduceEq, not_false_eq_true]
      rw [if_pos (by omega), e_194_74]
      simp
    | succ m ih =>
      intro i hi
      rw [e_194_5]
      simp only [brI, not_true_eq_false, true_implies, false_implies, implies_true, and_true, cTag, cTgt, cLen, true_and, Int.toNat_natCast, retI_I, retR_R, retV_N, retL_L, ne_eq, Int.reduceEq, not_false_eq_true, if_true, e_194_66, e_194_67]
      rw [if_neg (by omega), w32_id (by omega) (by omega)]
      exact ih (i + 1) (by omega)
  have st : ∀ (m i : Nat), i + m = 10 → X L 194 5 [some (xR 75), some (xI (a : Int)), some (xI (b : Int)), some (xI 1), some (xI (i : Int))] [] σ Q = Q (some (xI (bI (rsn (T 0) a b m i = true)))) σ := by
    intro m
    induction m with
    | zero =>
      intro i hi
      rw [e_194_5]
      simp only [brI, not_true_eq_false, true_implies, false_implies, implies_true, and_true, cTag, cTgt, cLen, true_and, Int.toNat_natCast, retI_I, retR_R, retV_N, retL_L, ne_eq, Int.reduceEq, not_false_eq_true]
      rw [if_pos (by omega), e_194_74]
      simp [rsn, bI]
    | succ m ih =>
      intro i hi
      have h1 := mb (a := (i : Int)) (by omega) (byr_b (T 0) ((i : Int) + b))
      have h2 := mb (a := (i : Int)) (by omega) (byr_b (T 0) ((a : Int) + i))
      rw [e_194_5]
      simp only [brI, not_true_eq_false, true_implies, false_implies, implies_true, and_true, cTag, cTgt, cLen, true_and, Int.toNat_natCast, retI_I, retR_R, retV_N, retL_L, ne_eq, Int.reduceEq, not_false_eq_true, e_194_66, e_194_67, x_buyersM hI.1 hV.1, w32_id (x := (a : Int) + b) (by omega) (by omega), w32_id (x := (i : Int) + b) (by omega) (by omega), w32_id (x := (a : Int) + i) (by omega) (by omega), w32_id (x := (i : Int) * byr (T 0) ((i : Int) + b)) (by omega) (by omega), w32_id (x := (i : Int) * byr (T 0) ((a : Int) + i)) (by omega) (by omega), w32_id (x := (a : Int) * byr (T 0) ((a : Int) + b)) (by omega) (by omega), w32_id (x := (b : Int) * byr (T 0) ((a : Int) + b)) (by omega) (by omega), w32_id (x := (i : Int) + 1) (by omega) (by omega), Int.reduceEq, if_false]
      rw [if_neg (by omega)]
      by_cases c : rsC (T 0) a b i
      · have f1 : rsn (T 0) a b (m + 1) i = rsn (T 0) a b m (i + 1) := if_pos c
        rw [f1, if_neg (by have := c.1; omega), if_neg (by have := c.2; omega)]
        exact ih (i + 1) (by omega)
      · have f1 : rsn (T 0) a b (m + 1) i = false := if_neg c
        have f2 : bI (false = true) = 0 := bI_f (by decide)
        rw [f1, f2]
        by_cases c1 : (i : Int) * byr (T 0) ((i : Int) + b) ≤ (a : Int) * byr (T 0) ((a : Int) + b)
        · have c2 : ¬ (i : Int) * byr (T 0) ((a : Int) + i) ≤ (b : Int) * byr (T 0) ((a : Int) + b) := fun q => c ⟨c1, q⟩
          rw [if_neg (by omega), if_pos (by omega)]
          exact s0 m (i + 1) (by omega)
        · rw [if_pos (by omega)]
          exact s0 m (i + 1) (by omega)
  rw [e_194_0]
  exact st 10 0 (by omega)
def rs (S : Mem) (i : Int) : Nat → Nat → Int → Int
  | 0, _, n => if i = -1 then n else -6
  | m + 1, k, n => if rsn S ((k / 10 : Nat) : Int) ((k % 10 : Nat) : Int) 10 0 = true then (if n = i then (k : Int) else rs S i m (k + 1) (n + 1)) else rs S i m (k + 1) n
theorem c_rests (hI : IC T σ) (hV : IV B T) (i : Int) : CO σ (X L 111 0 [some (xR 0), some (xI i), none, none] [] σ) (rs (T 0) i 100 0 0) T := by
  refine CO_n hI (fun Q => ?_)
  have st : ∀ (m k : Nat) (n : Int), k + m = 100 → 0 ≤ n ∧ n ≤ k → X L 111 4 [some (xR 0), some (xI i), some (xI n), some (xI (k : Int))] [] σ Q = Q (some (xI (rs (T 0) i m k n))) σ := by
    intro m
    induction m with
    | zero =>
      intro k n hk hn
      rw [e_111_4]
      simp only [brI, not_true_eq_false, true_implies, false_implies, implies_true, and_true, cTag, cTgt, cLen, true_and, Int.toNat_natCast, retI_I, retR_R, retV_N, retL_L, ne_eq, Int.reduceEq, not_false_eq_true, e_111_41, e_111_50, e_111_52, rs]
      rw [if_pos (by omega)]
      by_cases c : i = -1
      · rw [if_neg (fun q => q c), if_pos c]
      · rw [if_pos c, if_neg c]
    | succ m ih =>
      intro k n hk hn
      have t1 : Int.tdiv (k : Int) 10 = ((k / 10 : Nat) : Int) := by rw [Int.tdiv_eq_ediv_of_nonneg (by omega)]; omega
      have t2 : Int.tmod (k : Int) 10 = ((k % 10 : Nat) : Int) := by rw [Int.tmod_eq_emod_of_nonneg (by omega)]; omega
      have hx := fun Q => x_atRest (L := L) hI hV (a := k / 10) (b := k % 10) (by omega) (by omega) Q
      rw [e_111_4]
      simp only [brI, not_true_eq_false, true_implies, false_implies, implies_true, and_true, cTag, cTgt, cLen, true_and, Int.toNat_natCast, retI_I, retR_R, retV_N, retL_L, ne_eq, Int.reduceEq, not_false_eq_true, t1, t2, w32_id (x := ((k / 10 : Nat) : Int)) (by omega) (by omega), hx, e_111_32, e_111_35, w32_id (x := (k : Int) + 1) (by omega) (by omega), w32_id (x := n + 1) (by omega) (by omega), bI_0]
      rw [if_neg (by omega)]
      by_cases c : rsn (T 0) ((k / 10 : Nat) : Int) ((k % 10 : Nat) : Int) 10 0 = true
      · rw [if_neg (fun q => q c)]
        by_cases c2 : n = i
        · have f1 : rs (T 0) i (m + 1) k n = (k : Int) := (if_pos c).trans (if_pos c2)
          rw [if_neg (fun q => q c2), f1]
        · have f1 : rs (T 0) i (m + 1) k n = rs (T 0) i m (k + 1) (n + 1) := (if_pos c).trans (if_neg c2)
          rw [if_pos c2, f1]
          exact ih (k + 1) (n + 1) (by omega) (by omega)
      · have f1 : rs (T 0) i (m + 1) k n = rs (T 0) i m (k + 1) n := if_neg c
        rw [if_pos c, f1]
        exact ih (k + 1) n (by omega) (by omega)
  rw [e_111_0]
  exact st 100 0 0 (by omega) (by omega)
theorem m_rests (hI : IM T σ) (hV : IV B T) (i : Int) : MO σ (X L 195 0 [some (xR 75), some (xI i), none, none] [] σ) (rs (T 0) i 100 0 0) T := by
  refine MO_n hI (fun Q => ?_)
  have st : ∀ (m k : Nat) (n : Int), k + m = 100 → 0 ≤ n ∧ n ≤ k → X L 195 4 [some (xR 75), some (xI i), some (xI n), some (xI (k : Int))] [] σ Q = Q (some (xI (rs (T 0) i m k n))) σ := by
    intro m
    induction m with
    | zero =>
      intro k n hk hn
      rw [e_195_4]
      simp only [brI, not_true_eq_false, true_implies, false_implies, implies_true, and_true, cTag, cTgt, cLen, true_and, Int.toNat_natCast, retI_I, retR_R, retV_N, retL_L, ne_eq, Int.reduceEq, not_false_eq_true, e_195_41, e_195_50, e_195_52, rs]
      rw [if_pos (by omega)]
      by_cases c : i = -1
      · rw [if_neg (fun q => q c), if_pos c]
      · rw [if_pos c, if_neg c]
    | succ m ih =>
      intro k n hk hn
      have t1 : Int.tdiv (k : Int) 10 = ((k / 10 : Nat) : Int) := by rw [Int.tdiv_eq_ediv_of_nonneg (by omega)]; omega
      have t2 : Int.tmod (k : Int) 10 = ((k % 10 : Nat) : Int) := by rw [Int.tmod_eq_emod_of_nonneg (by omega)]; omega
      have hx := fun Q => x_restM (L := L) hI hV (a := k / 10) (b := k % 10) (by omega) (by omega) Q
      rw [e_195_4]
      simp only [brI, not_true_eq_false, true_implies, false_implies, implies_true, and_true, cTag, cTgt, cLen, true_and, Int.toNat_natCast, retI_I, retR_R, retV_N, retL_L, ne_eq, Int.reduceEq, not_false_eq_true, t1, t2, w32_id (x := ((k / 10 : Nat) : Int)) (by omega) (by omega), hx, e_195_32, e_195_35, w32_id (x := (k : Int) + 1) (by omega) (by omega), w32_id (x := n + 1) (by omega) (by omega), bI_0]
      rw [if_neg (by omega)]
      by_cases c : rsn (T 0) ((k / 10 : Nat) : Int) ((k % 10 : Nat) : Int) 10 0 = true
      · rw [if_neg (fun q => q c)]
        by_cases c2 : n = i
        · have f1 : rs (T 0) i (m + 1) k n = (k : Int) := (if_pos c).trans (if_pos c2)
          rw [if_neg (fun q => q c2), f1]
        · have f1 : rs (T 0) i (m + 1) k n = rs (T 0) i m (k + 1) (n + 1) := (if_pos c).trans (if_neg c2)
          rw [if_pos c2, f1]
          exact ih (k + 1) (n + 1) (by omega) (by omega)
      · have f1 : rs (T 0) i (m + 1) k n = rs (T 0) i m (k + 1) n := if_neg c
        rw [if_pos c, f1]
        exact ih (k + 1) n (by omega) (by omega)
  rw [e_195_0]
  exact st 100 0 0 (by omega) (by omega)
end Buy
