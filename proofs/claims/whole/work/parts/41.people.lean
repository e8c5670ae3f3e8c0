/-! who is there, as bits -/
section People
variable {T : Ful} {σ τ : Mem} {B : Int} {L v : Nat} {S : Mem}
theorem thr_n {p : Nat} (hp : p < 4) : thr S (p : Int) = S (8 + p) 0 := by unfold thr; rw [if_pos (by omega), Int.toNat_natCast]
theorem x_peopleBits (hv : IsV v) (hR : RC v S σ) (hS : VS B S) (d1 d2 : Option PV) (Q : PQ) : X L 55 0 [some (xR v), d1, d2] [] σ Q = Q (some (xI (thb S))) σ := by
  have st : ∀ (i : Nat) (x : Int), i < 4 → X L 55 4 [some (xR v), some (xI x), some (xI (i : Int))] [] σ Q = X L 55 4 [some (xR v), some (xI (or32 x (if S (8 + i) 0 = 0 then 0 else shl32 1 i))), some (xI ((i + 1 : Nat) : Int))] [] σ Q := by
    intro i x hi
    rw [e_55_4]
    simp only [brI, not_true_eq_false, true_implies, false_implies, implies_true, and_true, cTag, cTgt, cLen, true_and, Int.toNat_natCast, retI_I, retR_R, retV_N, retL_L, ne_eq, Int.reduceEq, not_false_eq_true, gv_t hv, x_isThere hv hR hS, thr_n hi, e_55_24, e_55_25]
    simp (disch := omega) only [le_t, le_f, lt_t, lt_f, eq_t, eq_f, w32_id, inb, if_true, if_false, not_true_eq_false, not_false_eq_true, and_true, true_and, and_false, false_and, or_true, true_or, or_false, false_or, Int.add_zero, Int.zero_add, and_self, or_self]
    by_cases c : S (8 + i) 0 = 0
    · rw [if_pos c, if_pos c]; rfl
    · rw [if_neg c, if_neg c]; rfl
  rw [e_55_0]
  refine Eq.trans (st 0 0 (by omega)) (Eq.trans (st 1 _ (by omega)) (Eq.trans (st 2 _ (by omega)) (Eq.trans (st 3 _ (by omega)) ?_)))
  rw [e_55_4, e_55_33]
  have h0 := (hS.p (p := 0) (by omega)).1
  have h1 := (hS.p (p := 1) (by omega)).1
  have h2 := (hS.p (p := 2) (by omega)).1
  have h3 := (hS.p (p := 3) (by omega)).1
  simp only [Nat.add_zero, Nat.reduceAdd] at h0 h1 h2 h3
  unfold thb
  simp only [Nat.add_zero, Nat.reduceAdd, brI]
  rw [if_pos (by omega)]
  congr 3
  rcases h0 with h0 | h0 <;> rcases h1 with h1 | h1 <;> rcases h2 with h2 | h2 <;> rcases h3 with h3 | h3 <;> rw [h0, h1, h2, h3] <;> decide
theorem thb_pw {p : Nat} (hp : p < 4) (h : Nat → Int) : thb (pw S (8 + p) h) = thb S + (h 0 - S (8 + p) 0) * (2 ^ p : Nat) := by
  rcases (show p = 0 ∨ p = 1 ∨ p = 2 ∨ p = 3 by omega) with rfl | rfl | rfl | rfl <;> simp [thb, pw] <;> omega
theorem thb_or (hS : VS B S) {p : Nat} (hp : p < 4) {h : Nat → Int} (h1 : h 0 = 1) : or32 (thb S) (shl32 1 (p : Int)) = thb (pw S (8 + p) h) := by
  rw [thb_pw hp, h1]
  have h0 := (hS.p (p := 0) (by omega)).1
  have h1 := (hS.p (p := 1) (by omega)).1
  have h2 := (hS.p (p := 2) (by omega)).1
  have h3 := (hS.p (p := 3) (by omega)).1
  simp only [Nat.add_zero, Nat.reduceAdd] at h0 h1 h2 h3
  unfold thb
  rcases (show p = 0 ∨ p = 1 ∨ p = 2 ∨ p = 3 by omega) with rfl | rfl | rfl | rfl <;> simp only [Nat.add_zero, Nat.reduceAdd] <;> rcases h0 with h0 | h0 <;> rcases h1 with h1 | h1 <;> rcases h2 with h2 | h2 <;> rcases h3 with h3 | h3 <;> rw [h0, h1, h2, h3] <;> decide
theorem thb_an (hS : VS B S) {p : Nat} (hp : p < 4) {h : Nat → Int} (h1 : h 0 = 0) : and32 (thb S) (xor32 (shl32 1 (p : Int)) (-1)) = thb (pw S (8 + p) h) := by
  rw [thb_pw hp, h1]
  have h0 := (hS.p (p := 0) (by omega)).1
  have h1 := (hS.p (p := 1) (by omega)).1
  have h2 := (hS.p (p := 2) (by omega)).1
  have h3 := (hS.p (p := 3) (by omega)).1
  simp only [Nat.add_zero, Nat.reduceAdd] at h0 h1 h2 h3
  unfold thb
  rcases (show p = 0 ∨ p = 1 ∨ p = 2 ∨ p = 3 by omega) with rfl | rfl | rfl | rfl <;> simp only [Nat.add_zero, Nat.reduceAdd] <;> rcases h0 with h0 | h0 <;> rcases h1 with h1 | h1 <;> rcases h2 with h2 | h2 <;> rcases h3 with h3 | h3 <;> rw [h0, h1, h2, h3] <;> decide
/-- how many are there -/
def ppl (S : Mem) : Int := (pc (thb S).toNat : Int)
theorem x_count (hv : IsV v) (hR : RC v S σ) (hS : VS B S) (Q : PQ) : X L 55 0 [some (xR v), none, none] [] σ (fun r s => retI r (fun q => X L 209 0 [some (xI q)] [] s (fun r s => retI r (fun q => Q (some (xI q)) s)))) = Q (some (xI (ppl S))) σ := by
  rw [x_peopleBits hv hR hS]
  obtain ⟨a, ha⟩ : ∃ a : Nat, thb S = (a : Int) := ⟨(thb S).toNat, by have := thb_b hS; omega⟩
  have hb := thb_b hS
  have h2 := x_bitCount L (a := a) (by omega) σ (fun r s => retI r (fun q => Q (some (xI q)) s))
  simp only [retI_I, ppl, ha, h2, Int.toNat_natCast]
theorem x_countM (hS : VS B S) (h : σ 75 9 = thb S) (Q : PQ) : X L 150 0 [some (xR 75)] [] σ Q = Q (some (xI (ppl S))) σ := by
  obtain ⟨a, ha⟩ : ∃ a : Nat, thb S = (a : Int) := ⟨(thb S).toNat, by have := thb_b hS; omega⟩
  have hb := thb_b hS
  simp only [e_150_0, brI, not_true_eq_false, true_implies, false_implies, implies_true, and_true, cTag, cTgt, cLen, true_and, Int.toNat_natCast, retI_I, retR_R, retV_N, retL_L, ne_eq, Int.reduceEq, not_false_eq_true, h, ha, x_bits L (a := a) (by omega), ppl]
def fPer (h l r m : Int) : Nat → Int := fun j => if j = 0 then 1 else if j = 1 then h else if j = 2 then h else if j = 3 then l else if j = 4 then r else if j = 5 then m else 0
abbrev gPer (T : Ful) (p h l r : Int) : Prop := ((0 ≤ p ∧ p ≤ 3) ∧ isT T h) ∧ (0 ≤ l ∧ l < 5) ∧ (0 ≤ r ∧ r < 5)
def s_per (T : Ful) (p h l r m : Int) : Mem := pw (T 0) (8 + p.toNat) (fPer h l r m)
def a_person (T : Ful) (p h l r m : Int) : Int := if gPer T p h l r then (if 0 ≤ m ∧ m ≤ 99 then ppl (s_per T p h l r m) else -2) else -1
def n_person (T : Ful) (p h l r m : Int) : Ful := if gPer T p h l r ∧ (0 ≤ m ∧ m ≤ 99) then setV T (s_per T p h l r m) else T
theorem VS_per (hV : IV B T) (hB : 0 ≤ B) {p h l r m : Int} (c : gPer T p h l r) (c2 : 0 ≤ m ∧ m ≤ 99) : VS B (s_per T p h l r m) := by
  refine VS_pw hV.1 ?_
  unfold fV fPer
  simp
  omega
theorem c_person (hI : IC T σ) (hV : IV B T) (hB : 0 ≤ B) (p h l r m : Int) : CO σ (X L 92 0 [some (xR 0), some (xI p), some (xI h), some (xI l), some (xI r), some (xI m)] [] σ) (a_person T p h l r m) (n_person T p h l r m) := by
  have e00 := hI.1.1 0 (by omega)
  have hn := hV.1.1
  unfold a_person n_person
  by_cases c : gPer T p h l r
  · obtain ⟨⟨c1, c2⟩, c3, c4⟩ := id c
    rw [if_pos c]
    by_cases c5 : 0 ≤ m ∧ m ≤ 99
    · rw [if_pos c5, if_pos ⟨c, c5⟩]
      have hS := VS_per hV hB c c5
      obtain ⟨q, rfl⟩ : ∃ q : Nat, p = (q : Int) := ⟨p.toNat, by omega⟩
      have hq : q < 4 := by omega
      have hR : RC 1 (s_per T q h l r m) (stl σ (1 + 11 + q) h l r m) := by
        have e : stl σ (1 + 11 + q) h l r m = pw σ (1 + 11 + q) (fun j => stl σ (1 + 11 + q) h l r m (1 + 11 + q) j) := by
          funext o j
          simp only [pw]
          by_cases co : o = 1 + 11 + q
          · rw [if_pos co, co]
          · rw [if_neg co]; simp only [stl]; rw [if_neg co]
        rw [e]
        unfold s_per
        rw [Int.toNat_natCast]
        refine RC_pw hI.1 hq ?_
        intro j hj
        simp only [stl, fPer, if_true]
        simp (disch := omega) only [hj, le_t, le_f, lt_t, lt_f, eq_t, eq_f, w32_id, inb, if_true, if_false, not_true_eq_false, not_false_eq_true, and_true, true_and, and_false, false_and, or_true, true_or, or_false, false_or, Int.add_zero, Int.zero_add, and_self, or_self]
      refine ⟨stl σ (1 + 11 + q) h l r m, fun Q => ?_, IC_V hI hR ?_, ?_⟩
      · simp only [e_92_0, e_92_22, e_92_39, e_92_53, brI, not_true_eq_false, true_implies, false_implies, implies_true, and_true, cTag, cTgt, cLen, true_and, Int.toNat_natCast, retI_I, retR_R, retV_N, retL_L, ne_eq, Int.reduceEq, not_false_eq_true, x_isTown iV1, x_isSize, x_isWithin, bI_0, e00, c1, c2, c3, c4, c5, x_personAt iV1 hq, x_settle (gt_p iV1 hq), gt_p iV1 hq, if_true, if_false, and_self, x_count iV1 hR hS]
      · intro o ho; funext j; simp only [stl]; rw [if_neg (by omega)]
      · intro o ho; funext j; simp only [stl]; rw [if_neg (by omega)]
    · rw [if_neg c5, if_neg (fun q => c5 q.2)]
      refine CO_n hI (fun Q => ?_)
      simp only [e_92_0, e_92_22, e_92_39, brI, not_true_eq_false, true_implies, false_implies, implies_true, and_true, cTag, cTgt, cLen, true_and, Int.toNat_natCast, retI_I, retR_R, retV_N, retL_L, ne_eq, Int.reduceEq, not_false_eq_true, x_isTown iV1, x_isSize, x_isWithin, bI_0, e00, c1, c2, c3, c4, c5, if_true, if_false, and_self]
  · rw [if_neg c, if_neg (fun q => c q.1)]
    refine CO_n hI (fun Q => ?_)
    simp only [e_92_0, e_92_20, e_92_22, e_92_37, brI, not_true_eq_false, true_implies, false_implies, implies_true, and_true, cTag, cTgt, cLen, true_and, Int.toNat_natCast, retI_I, retR_R, retV_N, retL_L, ne_eq, Int.reduceEq, not_false_eq_true, x_isTown iV1, x_isSize, x_isWithin, bI_0, e00]
    by_cases c1 : 0 ≤ p ∧ p ≤ 3
    · by_cases c2 : isT T h
      · by_cases c3 : 0 ≤ l ∧ l < 5
        · have c4 : ¬ (0 ≤ r ∧ r < 5) := fun q => c ⟨⟨c1, c2⟩, c3, q⟩
          simp only [c1, c2, c3, c4, brI, not_true_eq_false, true_implies, false_implies, implies_true, and_true, cTag, cTgt, cLen, true_and, Int.toNat_natCast, retI_I, retR_R, retV_N, retL_L, ne_eq, Int.reduceEq, not_false_eq_true, if_true, if_false, and_self]
        · simp only [c1, c2, c3, brI, not_true_eq_false, true_implies, false_implies, implies_true, and_true, cTag, cTgt, cLen, true_and, Int.toNat_natCast, retI_I, retR_R, retV_N, retL_L, ne_eq, Int.reduceEq, not_false_eq_true, if_true, if_false, and_self]
      · simp only [c1, c2, brI, not_true_eq_false, true_implies, false_implies, implies_true, and_true, cTag, cTgt, cLen, true_and, Int.toNat_natCast, retI_I, retR_R, retV_N, retL_L, ne_eq, Int.reduceEq, not_false_eq_true, if_true, if_false, and_self]
    · simp only [c1, brI, not_true_eq_false, true_implies, false_implies, implies_true, and_true, cTag, cTgt, cLen, true_and, Int.toNat_natCast, retI_I, retR_R, retV_N, retL_L, ne_eq, Int.reduceEq, not_false_eq_true, if_true, if_false, and_self]
theorem v_person (hV : IV B T) (hB : 0 ≤ B) (p h l r m : Int) : IV B (n_person T p h l r m) := by
  unfold n_person
  split
  · next c => exact IV_V hV (VS_per hV hB c.1 c.2)
  · exact hV
/-- one PERSON's fields change, and whether it is there -/
theorem RM_pw2 {f g : Nat → Nat → Int} (hM : RM f S) {p : Nat} (hp : p < 4) {h : Nat → Int} (h0 : g 0 4 = thb (pw S (8 + p) h)) (hk : ∀ k j, k < 8 → (k = 0 → j < 4) → g k j = f k j) (hq : ∀ q, q < 4 → q ≠ p → ∀ k, 8 ≤ k → k ≤ 14 → k ≠ 9 → k ≠ 13 → g k q = f k q) (hq2 : ∀ q, q < 4 → q ≠ p → ∀ k, k = 9 ∨ k = 13 → g k (2 * q) = f k (2 * q) ∧ g k (2 * q + 1) = f k (2 * q + 1)) (hP : h 0 = 1 → RP g (pw S (8 + p) h) p) : RM g (pw S (8 + p) h) := by
  have z : ∀ k j, k < 8 → pw S (8 + p) h k j = S k j := by
    intro k j hk; simp only [pw]; rw [if_neg (by omega)]
  refine ⟨?_, ?_, ?_, ?_, h0, ?_, ?_, ?_, ?_, ?_, ?_, ?_, ?_⟩
  · rw [hk _ _ (by omega) (by omega), z _ _ (by omega)]; exact hM.tw
  · rw [hk _ _ (by omega) (by omega), z _ _ (by omega)]; exact hM.tl
  · rw [hk _ _ (by omega) (by omega), z _ _ (by omega)]; exact hM.kk
  · rw [hk _ _ (by omega) (by omega), z _ _ (by omega)]; exact hM.sg
  · intro j hj; rw [hk _ _ (by omega) (by omega), z _ _ (by omega)]; exact hM.mi j hj
  · intro j hj; rw [hk _ _ (by omega) (by omega), z _ _ (by omega)]; exact hM.ru j hj
  · intro j hj; rw [hk _ _ (by omega) (by omega), z _ _ (by omega)]; exact hM.tr j hj
  · intro j hj; rw [hk _ _ (by omega) (by omega), z _ _ (by omega)]; exact hM.sd j hj
  · intro j hj; rw [hk _ _ (by omega) (by omega), z _ _ (by omega)]; exact hM.pr j hj
  · intro j hj; rw [hk _ _ (by omega) (by omega), z _ _ (by omega)]; exact hM.st j hj
  · intro j hj; rw [hk _ _ (by omega) (by omega), z _ _ (by omega)]; exact hM.si j hj
  · intro q hq4 ht
    by_cases c : q = p
    · subst c; refine hP ?_; simpa [pw] using ht
    · have zq : ∀ j, pw S (8 + p) h (8 + q) j = S (8 + q) j := by
        intro j; simp only [pw]; rw [if_neg (by omega)]
      rw [zq] at ht
      have hR := hM.pp q hq4 ht
      have y9 := hq2 q hq4 c 9 (by omega)
      have y13 := hq2 q hq4 c 13 (by omega)
      have y := hq q hq4 c
      refine ⟨?_, ?_, ?_, ?_, ?_, ?_, ?_, ?_, ?_⟩
      · rw [zq, y 8 (by omega) (by omega) (by omega) (by omega)]; exact hR.ho
      · rw [zq, y9.1]; exact hR.fl
      · rw [zq, y9.2]; exact hR.fr
      · rw [zq, y 10 (by omega) (by omega) (by omega) (by omega)]; exact hR.pu
      · rw [zq, y 11 (by omega) (by omega) (by omega) (by omega)]; exact hR.pl
      · rw [zq, zq, y 12 (by omega) (by omega) (by omega) (by omega)]; exact hR.sh
      · rw [zq, y13.1]; exact hR.wl
      · rw [zq, y13.2]; exact hR.wr
      · rw [zq, y 14 (by omega) (by omega) (by omega) (by omega)]; exact hR.wk
def perM (σ : Mem) (q : Nat) (h l r m : Int) : Mem := (up (up (up (up (up (up (up (up (up (up σ 75 9 (or32 (σ 75 9) (shl32 1 q))) 82 q h) 83 (2 * q) l) 83 (2 * q + 1) r) 84 q m) 85 q h) 86 q 0) 87 (2 * q) 0) 87 (2 * q + 1) 0) 88 q 0)
theorem perM_r (σ : Mem) (q : Nat) (h l r m : Int) : (∀ j, perM σ q h l r m 82 j = if j = q then h else σ 82 j) ∧ (∀ j, perM σ q h l r m 83 j = if j = 2 * q + 1 then r else if j = 2 * q then l else σ 83 j) ∧ (∀ j, perM σ q h l r m 84 j = if j = q then m else σ 84 j) ∧ (∀ j, perM σ q h l r m 85 j = if j = q then h else σ 85 j) ∧ (∀ j, perM σ q h l r m 86 j = if j = q then 0 else σ 86 j) ∧ (∀ j, perM σ q h l r m 87 j = if j = 2 * q + 1 then 0 else if j = 2 * q then 0 else σ 87 j) ∧ (∀ j, perM σ q h l r m 88 j = if j = q then 0 else σ 88 j) ∧ (∀ j, j ≠ 9 → perM σ q h l r m 75 j = σ 75 j) ∧ (∀ o, o ≠ 75 → o < 82 ∨ 88 < o → perM σ q h l r m o = σ o) := by
  refine ⟨?_, ?_, ?_, ?_, ?_, ?_, ?_, ?_, ?_⟩
  · intro j; simp [perM, up_rd]
  · intro j; simp [perM, up_rd]
  · intro j; simp [perM, up_rd]
  · intro j; simp [perM, up_rd]
  · intro j; simp [perM, up_rd]
  · intro j; simp [perM, up_rd]
  · intro j; simp [perM, up_rd]
  · intro j hj; simp [perM, up_rd, hj]
  · intro o ho h2; funext j; simp only [perM, up_rd]; rw [if_neg (by omega), if_neg (by omega), if_neg (by omega), if_neg (by omega), if_neg (by omega), if_neg (by omega), if_neg (by omega), if_neg (by omega), if_neg (by omega), if_neg (by omega)]
theorem RM_perM (hM : RM (vP σ) (T 0)) {q : Nat} (hq : q < 4) {h l r m : Int} (ht : perM σ q h l r m 75 9 = thb (s_per T q h l r m)) : RM (vP (perM σ q h l r m)) (s_per T q h l r m) := by
  obtain ⟨r1, r2, r3, r4, r5, r6, r7, r8, r9⟩ := perM_r σ q h l r m
  unfold s_per at ht ⊢
  rw [Int.toNat_natCast] at ht ⊢
  generalize perM σ q h l r m = τ at *
  refine RM_pw2 hM hq ht ?_ ?_ ?_ ?_
  · intro k j hk hj
    rcases (show k = 0 ∨ k = 1 ∨ k = 2 ∨ k = 3 ∨ k = 4 ∨ k = 5 ∨ k = 6 ∨ k = 7 by omega) with rfl | rfl | rfl | rfl | rfl | rfl | rfl | rfl
    · have := hj rfl
      rcases (show j = 0 ∨ j = 1 ∨ j = 2 ∨ j = 3 by omega) with rfl | rfl | rfl | rfl <;> simp [vP, r8]
    all_goals simp [vP, r9]
  · intro z hz hne k h1 h2 h3 h4
    rcases (show k = 8 ∨ k = 10 ∨ k = 11 ∨ k = 12 ∨ k = 14 by omega) with rfl | rfl | rfl | rfl | rfl <;> simp [vP, r1, r3, r4, r5, r7, hne]
  · intro z hz hne k h1
    rcases h1 with rfl | rfl
    · simp only [vP, r2]; omega
    · simp only [vP, r6]; omega
  · intro _
    refine ⟨?_, ?_, ?_, ?_, ?_, ?_, ?_, ?_, ?_⟩ <;> simp [vP, r1, r2, r3, r4, r5, r6, r7, pw, fPer]
theorem m_person (hI : IM T σ) (hV : IV B T) (hB : 0 ≤ B) (p h l r m : Int) : MO σ (X L 151 0 [some (xR 75), some (xI p), some (xI h), some (xI l), some (xI r), some (xI m)] [] σ) (a_person T p h l r m) (n_person T p h l r m) := by
  have hn := hV.1.1
  have hw : 2 ≤ σ 75 0 ∧ σ 75 0 ≤ 6 := by rw [hI.tw]; exact hn
  have el : (0 ≤ l ∧ l ≤ 4) = (0 ≤ l ∧ l < 5) := propext (by omega)
  have er : (0 ≤ r ∧ r ≤ 4) = (0 ≤ r ∧ r < 5) := propext (by omega)
  unfold a_person n_person
  by_cases c : gPer T p h l r
  · obtain ⟨⟨c1, c2⟩, c3, c4⟩ := id c
    have c3' : 0 ≤ l ∧ l ≤ 4 := by omega
    have c4' : 0 ≤ r ∧ r ≤ 4 := by omega
    rw [if_pos c]
    by_cases c5 : 0 ≤ m ∧ m ≤ 99
    · rw [if_pos c5, if_pos ⟨c, c5⟩]
      have hS := VS_per hV hB c c5
      obtain ⟨q, rfl⟩ : ∃ q : Nat, p = (q : Int) := ⟨p.toNat, by omega⟩
      have hq : q < 4 := by omega
      have ht : perM σ q h l r m 75 9 = thb (s_per T q h l r m) := by
        unfold s_per
        rw [Int.toNat_natCast, ← thb_or hV.1 hq (h := fPer h l r m) rfl, ← hI.th]
        simp [perM, up_rd]
      refine ⟨perM σ q h l r m, fun Q => ?_, IM_V hI ?_ ?_ ?_, ?_⟩
      · have hc := x_countM (L := L) hS ht
        simp only [e_151_0, e_151_38, brI, not_true_eq_false, true_implies, false_implies, implies_true, and_true, cTag, cTgt, cLen, true_and, Int.toNat_natCast, retI_I, retR_R, retV_N, retL_L, ne_eq, Int.reduceEq, not_false_eq_true, x_in, x_isTownM L _ _ _ hw, bI_0, hI.tw, c1, c2, c3', c4', c5, if_true, if_false, and_self]
        rw [e_151_52]
        simp only [cTag, cTgt, cLen, true_and, Int.toNat_natCast, w32_id (x := 2 * (q : Int)) (by omega) (by omega), w32_id (x := 2 * (q : Int) + 1) (by omega) (by omega), show (2 * (q : Int)).toNat = 2 * q by omega, show (2 * (q : Int) + 1).toNat = 2 * q + 1 by omega, show (0 ≤ (q : Int) ∧ (q : Int) < 4) by omega, show (0 ≤ 2 * (q : Int) ∧ 2 * (q : Int) < 8) by omega, show (0 ≤ 2 * (q : Int) + 1 ∧ 2 * (q : Int) + 1 < 8) by omega]
        exact (hc _).trans (retI_I _ _)
      · exact RM_perM hI.1 hq ht
      · intro o ho; exact (perM_r σ q h l r m).2.2.2.2.2.2.2.2 o (by omega) (by omega)
      · exact (perM_r σ q h l r m).2.2.2.2.2.2.2.1 19 (by omega)
      · intro o ho; exact (perM_r σ q h l r m).2.2.2.2.2.2.2.2 o (by omega) (by omega)
    · rw [if_neg c5, if_neg (fun q => c5 q.2)]
      refine MO_n hI (fun Q => ?_)
      simp only [e_151_0, e_151_38, brI, not_true_eq_false, true_implies, false_implies, implies_true, and_true, cTag, cTgt, cLen, true_and, Int.toNat_natCast, retI_I, retR_R, retV_N, retL_L, ne_eq, Int.reduceEq, not_false_eq_true, x_in, x_isTownM L _ _ _ hw, bI_0, hI.tw, c1, c2, c3', c4', c5, if_true, if_false, and_self]
  · rw [if_neg c, if_neg (fun q => c q.1)]
    refine MO_n hI (fun Q => ?_)
    simp only [e_151_0, e_151_36, brI, not_true_eq_false, true_implies, false_implies, implies_true, and_true, cTag, cTgt, cLen, true_and, Int.toNat_natCast, retI_I, retR_R, retV_N, retL_L, ne_eq, Int.reduceEq, not_false_eq_true, x_in, x_isTownM L _ _ _ hw, bI_0, hI.tw, el, er]
    by_cases c1 : 0 ≤ p ∧ p ≤ 3
    · by_cases c2 : isT T h
      · by_cases c3 : 0 ≤ l ∧ l < 5
        · have c4 : ¬ (0 ≤ r ∧ r < 5) := fun q => c ⟨⟨c1, c2⟩, c3, q⟩
          simp only [c1, c2, c3, c4, brI, not_true_eq_false, true_implies, false_implies, implies_true, and_true, cTag, cTgt, cLen, true_and, Int.toNat_natCast, retI_I, retR_R, retV_N, retL_L, ne_eq, Int.reduceEq, not_false_eq_true, if_true, if_false, and_self]
        · simp only [c1, c2, c3, brI, not_true_eq_false, true_implies, false_implies, implies_true, and_true, cTag, cTgt, cLen, true_and, Int.toNat_natCast, retI_I, retR_R, retV_N, retL_L, ne_eq, Int.reduceEq, not_false_eq_true, if_true, if_false, and_self]
      · simp only [c1, c2, brI, not_true_eq_false, true_implies, false_implies, implies_true, and_true, cTag, cTgt, cLen, true_and, Int.toNat_natCast, retI_I, retR_R, retV_N, retL_L, ne_eq, Int.reduceEq, not_false_eq_true, if_true, if_false, and_self]
    · simp only [c1, brI, not_true_eq_false, true_implies, false_implies, implies_true, and_true, cTag, cTgt, cLen, true_and, Int.toNat_natCast, retI_I, retR_R, retV_N, retL_L, ne_eq, Int.reduceEq, not_false_eq_true, if_true, if_false, and_self]
/-! leave -/
def s_lv (T : Ful) (p : Int) : Mem := pw (T 0) (8 + p.toNat) (fun _ => 0)
def a_leave (T : Ful) (p : Int) : Int := if thr (T 0) p = 0 then -1 else ppl (s_lv T p)
def n_leave (T : Ful) (p : Int) : Ful := if thr (T 0) p = 0 then T else setV T (s_lv T p)
theorem thr_in {p : Int} (h : ¬ thr S p = 0) : ∃ q : Nat, q < 4 ∧ p = (q : Int) ∧ (VS B S → S (8 + q) 0 = 1) := by
  unfold thr at h
  split at h
  · next c => exact ⟨p.toNat, by omega, by omega, fun hS => by
      rcases (hS.p (p := p.toNat) (by omega)).1 with e | e
      · exact absurd e h
      · exact e⟩
  · exact absurd rfl h
theorem VS_lv (hV : IV B T) (hB : 0 ≤ B) (p : Int) : VS B (s_lv T p) := by
  have hn := hV.1.1
  refine VS_pw hV.1 ?_
  unfold fV
  simp
  omega
theorem c_leave (hI : IC T σ) (hV : IV B T) (hB : 0 ≤ B) (p : Int) : CO σ (X L 93 0 [some (xR 0), some (xI p)] [] σ) (a_leave T p) (n_leave T p) := by
  unfold a_leave n_leave
  by_cases c : thr (T 0) p = 0
  · rw [if_pos c, if_pos c]
    refine CO_n hI (fun Q => ?_)
    simp only [e_93_0, brI, not_true_eq_false, true_implies, false_implies, implies_true, and_true, cTag, cTgt, cLen, true_and, Int.toNat_natCast, retI_I, retR_R, retV_N, retL_L, ne_eq, Int.reduceEq, not_false_eq_true, x_isThere iV1 hI.1 hV.1, c, if_true, if_false]
  · rw [if_neg c, if_neg c]
    have hS := VS_lv hV hB p
    obtain ⟨q, hq, rfl, -⟩ := thr_in (B := B) c
    have hR : RC 1 (s_lv T q) (vns σ (1 + 11 + q)) := by
      have e : vns σ (1 + 11 + q) = pw σ (1 + 11 + q) (fun j => vns σ (1 + 11 + q) (1 + 11 + q) j) := by
        funext o j
        simp only [pw]
        by_cases co : o = 1 + 11 + q
        · rw [if_pos co, co]
        · rw [if_neg co]; simp only [vns]; rw [if_neg (fun z => co z.1)]
      rw [e]
      unfold s_lv
      rw [Int.toNat_natCast]
      refine RC_pw hI.1 hq ?_
      intro j hj
      simp only [vns, hj, and_self, if_true]
    refine ⟨vns σ (1 + 11 + q), fun Q => ?_, IC_V hI hR ?_, ?_⟩
    · simp only [e_93_0, e_93_13, brI, not_true_eq_false, true_implies, false_implies, implies_true, and_true, cTag, cTgt, cLen, true_and, Int.toNat_natCast, retI_I, retR_R, retV_N, retL_L, ne_eq, Int.reduceEq, not_false_eq_true, x_isThere iV1 hI.1 hV.1, c, x_personAt iV1 hq, x_vanish (gt_p iV1 hq), gt_p iV1 hq, if_true, if_false, x_count iV1 hR hS]
    · intro o ho; funext j; simp only [vns]; rw [if_neg (by omega)]
    · intro o ho; funext j; simp only [vns]; rw [if_neg (by omega)]
theorem v_leave (hV : IV B T) (hB : 0 ≤ B) (p : Int) : IV B (n_leave T p) := by
  unfold n_leave
  split
  · exact hV
  · exact IV_V hV (VS_lv hV hB p)
theorem m_leave (hI : IM T σ) (hV : IV B T) (hB : 0 ≤ B) (p : Int) : MO σ (X L 152 0 [some (xR 75), some (xI p)] [] σ) (a_leave T p) (n_leave T p) := by
  unfold a_leave n_leave
  by_cases c : thr (T 0) p = 0
  · rw [if_pos c, if_pos c]
    refine MO_n hI (fun Q => ?_)
    simp only [e_152_0, brI, not_true_eq_false, true_implies, false_implies, implies_true, and_true, cTag, cTgt, cLen, true_and, Int.toNat_natCast, retI_I, retR_R, retV_N, retL_L, ne_eq, Int.reduceEq, not_false_eq_true, x_isThereM hV.1 hI.th, c, if_true, if_false]
  · rw [if_neg c, if_neg c]
    have hS := VS_lv hV hB p
    obtain ⟨q, hq, rfl, -⟩ := thr_in (B := B) c
    have ht : up σ 75 9 (and32 (σ 75 9) (xor32 (shl32 1 (q : Int)) (-1))) 75 9 = thb (s_lv T q) := by
      unfold s_lv
      rw [Int.toNat_natCast, ← thb_an hV.1 hq (h := fun _ => 0) rfl, ← hI.th]
      simp [up_rd]
    refine ⟨up σ 75 9 (and32 (σ 75 9) (xor32 (shl32 1 (q : Int)) (-1))), fun Q => ?_, IM_V hI ?_ ?_ ?_, ?_⟩
    · simp only [e_152_0, e_152_10, brI, not_true_eq_false, true_implies, false_implies, implies_true, and_true, cTag, cTgt, cLen, true_and, Int.toNat_natCast, retI_I, retR_R, retV_N, retL_L, ne_eq, Int.reduceEq, not_false_eq_true, x_isThereM hV.1 hI.th, c, if_true, if_false, x_countM hS ht]
    · have ht' := ht
      unfold s_lv at ht' ⊢
      rw [Int.toNat_natCast] at ht' ⊢
      refine RM_pw2 hI.1 hq ht' ?_ ?_ ?_ ?_
      · intro k j hk hj
        rcases (show k = 0 ∨ k = 1 ∨ k = 2 ∨ k = 3 ∨ k = 4 ∨ k = 5 ∨ k = 6 ∨ k = 7 by omega) with rfl | rfl | rfl | rfl | rfl | rfl | rfl | rfl
        · have := hj rfl
          rcases (show j = 0 ∨ j = 1 ∨ j = 2 ∨ j = 3 by omega) with rfl | rfl | rfl | rfl <;> simp [vP, up_rd]
        all_goals simp [vP, up_rd]
      · intro z hz hne k h1 h2 h3 h4
        rcases (show k = 8 ∨ k = 10 ∨ k = 11 ∨ k = 12 ∨ k = 14 by omega) with rfl | rfl | rfl | rfl | rfl <;> simp [vP, up_rd]
      · intro z hz hne k h1
        rcases h1 with rfl | rfl <;> simp [vP, up_rd]
      · intro z; simp at z
    · intro o ho; funext j; simp (disch := omega) only [up_rd, nq_f, le_t, le_f, lt_t, lt_f, eq_t, eq_f, w32_id, inb, if_true, if_false, not_true_eq_false, not_false_eq_true, and_true, true_and, and_false, false_and, or_true, true_or, or_false, false_or, Int.add_zero, Int.zero_add, and_self, or_self]
    · simp [up_rd]
    · intro o ho; funext j; simp (disch := omega) only [up_rd, nq_f, le_t, le_f, lt_t, lt_f, eq_t, eq_f, w32_id, inb, if_true, if_false, not_true_eq_false, not_false_eq_true, and_true, true_and, and_false, false_and, or_true, true_or, or_false, false_or, Int.add_zero, Int.zero_add, and_self, or_self]
end People
