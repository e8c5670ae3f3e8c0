/-! the PAD: its fault, its marks -/
def cq (s : Nat → Int) : Nat → Int
  | 0 => 0
  | k + 1 => cq s k + (if s k = 63 then 1 else 0)
abbrev okW (s : Nat → Int) (k : Nat) : Prop := (65 ≤ s k ∧ s k ≤ 68) ∨ (s k = 63 ∧ cq s (k + 1) ≤ 3)
abbrev okD (w : Int) (s : Nat → Int) (k : Nat) : Prop := s k = 43 ∨ s k = 45 ∨ (97 ≤ s k ∧ s k < 97 + w)
abbrev okA (w : Int) (s : Nat → Int) (k : Nat) : Prop := (k % 2 = 0 ∧ okW s k) ∨ (k % 2 = 1 ∧ okD w s k)
def fl (w : Int) (s : Nat → Int) (n : Nat) : Nat → Nat → Int
  | 0, _ => if n % 2 = 0 then -6 else (n : Int)
  | m + 1, k => if okA w s k then fl w s n m (k + 1) else (k : Int)
def flt (w : Int) (s : Nat → Int) (n : Nat) : Int := fl w s n n 0
theorem cq_0 (s : Nat → Int) (k : Nat) : 0 ≤ cq s k := by
  induction k with
  | zero => exact Int.le_refl _
  | succ k ih => simp only [cq]; split <;> omega
theorem cq_le (s : Nat → Int) (k : Nat) : cq s k ≤ k := by
  induction k with
  | zero => exact Int.le_refl _
  | succ k ih => simp only [cq]; split <;> omega
theorem cq_3 {w : Int} {s : Nat → Int} (hw : w ≤ 6) {n : Nat} (h : ∀ j, j < n → okA w s j) : cq s n ≤ 3 := by
  induction n with
  | zero => simp [cq]
  | succ n ih =>
    have h0 := ih (fun j hj => h j (by omega))
    rcases h n (by omega) with ⟨_, a | a⟩ | ⟨_, a | a | a⟩
    · simp only [cq]; rw [if_neg (by omega)]; omega
    · exact a.2
    · simp only [cq]; rw [if_neg (by omega)]; omega
    · simp only [cq]; rw [if_neg (by omega)]; omega
    · simp only [cq]; rw [if_neg (by omega)]; omega
theorem fl_non {w : Int} {s : Nat → Int} {n : Nat} : ∀ (m k : Nat), k + m = n → fl w s n m k = -6 → n % 2 = 0 ∧ ∀ j, k ≤ j → j < n → okA w s j := by
  intro m
  induction m with
  | zero =>
    intro k h e
    simp only [fl] at e
    split at e
    · exact ⟨by assumption, fun j h1 h2 => by omega⟩
    · omega
  | succ m ih =>
    intro k h e
    simp only [fl] at e
    split at e
    · next c =>
      obtain ⟨h1, h2⟩ := ih (k + 1) (by omega) e
      refine ⟨h1, fun j a b => ?_⟩
      by_cases q : j = k
      · rw [q]; exact c
      · exact h2 j (by omega) b
    · omega
theorem fl_or {w : Int} {s : Nat → Int} {n : Nat} : ∀ (m k : Nat), fl w s n m k = -6 ∨ 0 ≤ fl w s n m k := by
  intro m
  induction m with
  | zero =>
    intro k
    simp only [fl]
    split <;> omega
  | succ m ih =>
    intro k
    simp only [fl]
    split
    · exact ih _
    · omega
theorem flt_non {w : Int} {s : Nat → Int} {n : Nat} (h : flt w s n = -6) : n % 2 = 0 ∧ ∀ j, j < n → okA w s j := by
  obtain ⟨h1, h2⟩ := fl_non n 0 (by omega) h
  exact ⟨h1, fun j hj => h2 j (by omega) hj⟩
theorem tm2 (k : Nat) : (Int.tmod (k : Int) 2 = 0) = (k % 2 = 0) := by
  rw [Int.tmod_eq_emod_of_nonneg (by omega)]
  exact propext ⟨fun h => by omega, fun h => by omega⟩
section Pad
variable {σ : Mem} {L : Nat}
theorem x_isWho (v : Int) (Q : PQ) : X L 24 0 [some (xR 18), some (xI v)] [] σ Q = Q (some (xI (bI (v = 63 ∨ (65 ≤ v ∧ v ≤ 68))))) σ := by
  simp only [e_24_0, e_24_17, e_24_21, e_24_22, brI, cTag, true_and, x_isWithin, retI_I, bI_0, bI]
  (repeat' split) <;> first | rfl | (exfalso; omega) | (simp; done)
theorem x_isDeed (v w : Int) (hw : 2 ≤ w ∧ w ≤ 6) (Q : PQ) : X L 25 0 [some (xR 18), some (xI v), some (xI w)] [] σ Q = Q (some (xI (bI (v = 43 ∨ v = 45 ∨ (97 ≤ v ∧ v < 97 + w))))) σ := by
  simp only [e_25_0, e_25_27, e_25_31, e_25_32, brI, cTag, true_and, x_isWithin, retI_I, bI_0, bI, w32_id (x := 97 + w) (by omega) (by omega), w32_id (x := 97 + w - 1) (by omega) (by omega)]
  (repeat' split) <;> first | rfl | (exfalso; omega) | (simp; done)
theorem vA19 {j : Nat} (hj : j < 60) : vA L σ 19 (j : Int) = σ 19 j := by
  unfold vA; rw [(cLen L).2.2.1, if_pos (by omega), Int.toNat_natCast]
theorem x_fault2 {s : Nat → Int} {n : Nat} (hn : n ≤ 60) (h1 : σ 18 1 = (n : Int)) (h2 : ∀ j, j < 60 → σ 19 j = s j) (w : Int) (hw : 2 ≤ w ∧ w ≤ 6) (Q : PQ) : ∀ (m k : Nat), k + m = n → cq s k ≤ 3 → ∀ d4 d5 : Option PV, X L 23 4 [some (xR 18), some (xI w), some (xI (cq s k)), some (xI (k : Int)), d4, d5] [] σ Q = Q (some (xI (fl w s n m k))) σ := by
  intro m
  induction m with
  | zero =>
    intro k hk _ d4 d5
    have : k = n := by omega
    subst this
    rw [e_23_4]
    simp only [e_23_87, e_23_101, e_23_105, brI, cTag, true_and, h1, tm2, fl, ne_eq, Int.reduceEq, not_false_eq_true, Int.le_refl, if_true]
    by_cases c : k % 2 = 0 <;> simp [c]
  | succ m ih =>
    intro k hk hc d4 d5
    have c0 := cq_0 s k
    have e0 : vA L σ 19 (k : Int) = s k := by rw [vA19 (by omega), h2 k (by omega)]
    have hcs : cq s (k + 1) = cq s k + (if s k = 63 then 1 else 0) := rfl
    rw [e_23_4]
    simp only [brI, cTag, cTgt, true_and, h1, x_valueAt L 19 _ _ _ cTag.2.2.2.2.2.1, retI_I, e0, e_23_34, e_23_35, e_23_61, e_23_65, e_23_72, e_23_81, x_isWho, x_isDeed _ _ hw, tm2, bI_0, ne_eq, Int.reduceEq, not_false_eq_true, fl]
    rw [if_neg (by omega)]
    by_cases q : s k = 63
    · rw [if_pos q] at hcs
      rw [if_neg (by simpa using q)]
      by_cases p : k % 2 = 0
      · rw [if_neg (by simpa using p), if_neg (by simp [q]), w32_id (by omega) (by omega), ← hcs]
        by_cases z : cq s (k + 1) ≤ 3
        · rw [if_neg (by omega), if_pos (by simp), if_pos (Or.inl ⟨p, Or.inr ⟨q, z⟩⟩), w32_id (by omega) (by omega)]
          exact ih (k + 1) (by omega) z _ _
        · rw [if_pos (by omega), if_neg (by simp), if_neg (by omega)]
      · rw [if_pos p, w32_id (by omega) (by omega), if_neg (show ¬ okA w s k by omega), if_neg (by omega)]
    · rw [if_neg q, Int.add_zero] at hcs
      rw [if_pos q, Int.add_zero, w32_id (by omega) (by omega)]
      by_cases p : k % 2 = 0
      · rw [if_neg (by simpa using p)]
        by_cases z : 65 ≤ s k ∧ s k ≤ 68
        · rw [if_neg (by omega), if_neg (by omega), if_pos (by simp), if_pos (Or.inl ⟨p, Or.inl z⟩), w32_id (by omega) (by omega), ← hcs]
          exact ih (k + 1) (by omega) (by omega) _ _
        · rw [if_pos (by omega), if_neg (by simp), if_neg (by omega)]
      · rw [if_pos p]
        by_cases z : okD w s k
        · rw [if_pos (fun q => q z), if_pos (Or.inr ⟨by omega, z⟩), w32_id (by omega) (by omega), ← hcs]
          exact ih (k + 1) (by omega) (by omega) _ _
        · rw [if_neg (fun q => q z), if_neg (by omega)]
theorem x_firstFault {s : Nat → Int} {n : Nat} (hn : n ≤ 60) (h1 : σ 18 1 = (n : Int)) (h2 : ∀ j, j < 60 → σ 19 j = s j) (w : Int) (hw : 2 ≤ w ∧ w ≤ 6) (d2 d3 d4 d5 : Option PV) (Q : PQ) : X L 23 0 [some (xR 18), some (xI w), d2, d3, d4, d5] [] σ Q = Q (some (xI (flt w s n))) σ := by
  rw [e_23_0]
  exact x_fault2 hn h1 h2 w hw Q n 0 (by omega) (by simp [cq]) d4 d5
theorem x_faultM2 {s : Nat → Int} {n : Nat} (hn : n ≤ 60) (h1 : σ 75 19 = (n : Int)) (h2 : ∀ j, j < 60 → σ 90 j = s j) (w : Int) (h0 : σ 75 0 = w) (hw : 2 ≤ w ∧ w ≤ 6) (Q : PQ) : ∀ (m k : Nat), k + m = n → cq s k ≤ 3 → ∀ d4 d5 : Option PV, X L 156 4 [some (xR 75), some (xI (cq s k)), some (xI (k : Int)), d4, d5] [] σ Q = Q (some (xI (fl w s n m k))) σ := by
  intro m
  induction m with
  | zero =>
    intro k hk _ d4 d5
    have : k = n := by omega
    subst this
    rw [e_156_4]
    simp only [e_156_125, e_156_139, e_156_143, brI, cTag, true_and, h1, tm2, fl, ne_eq, Int.reduceEq, not_false_eq_true, Int.le_refl, if_true]
    by_cases c : k % 2 = 0 <;> simp [c]
  | succ m ih =>
    intro k hk hc d4 d5
    have c0 := cq_0 s k
    have e0 := h2 k (by omega)
    have hcs : cq s (k + 1) = cq s k + (if s k = 63 then 1 else 0) := rfl
    rw [e_156_4]
    simp only [brI, cTag, cTgt, cLen, true_and, h1, x_in, retI_I, Int.toNat_natCast, e0, e_156_36, e_156_37, e_156_67, e_156_71, e_156_75, e_156_105, e_156_109, e_156_110, e_156_119, tm2, bI_0, ne_eq, Int.reduceEq, not_false_eq_true, fl, h0, w32_id (x := 97 + w) (by omega) (by omega), w32_id (x := 97 + w - 1) (by omega) (by omega), show (0 ≤ (k : Int) ∧ (k : Int) < 60) by omega]
    rw [if_neg (by omega)]
    have go : ∀ d5 : Option PV, cq s (k + 1) ≤ 3 → X L 156 4 [some (xR 75), some (xI (cq s (k + 1))), some (xI ((k : Int) + 1)), some (xI (s k)), d5] [] σ Q = Q (some (xI (fl w s n m (k + 1)))) σ := fun d5 h => ih (k + 1) (by omega) h _ d5
    by_cases q : s k = 63
    · rw [if_pos q] at hcs
      by_cases p : k % 2 = 0
      · by_cases z : cq s (k + 1) ≤ 3
        · have e := go (some (xI 1)) z
          rw [hcs] at e z
          rw [if_pos (show okA w s k from Or.inl ⟨p, Or.inr ⟨q, by omega⟩⟩), ← e]
          simp (disch := omega) only [p, le_t, le_f, lt_t, lt_f, eq_t, eq_f, w32_id, inb, if_true, if_false, not_true_eq_false, not_false_eq_true, and_true, true_and, and_false, false_and, or_true, true_or, or_false, false_or, Int.add_zero, Int.zero_add, and_self, or_self]
        · rw [if_neg (show ¬ okA w s k by omega)]
          rw [hcs] at z
          simp (disch := omega) only [p, le_t, le_f, lt_t, lt_f, eq_t, eq_f, w32_id, inb, if_true, if_false, not_true_eq_false, not_false_eq_true, and_true, true_and, and_false, false_and, or_true, true_or, or_false, false_or, Int.add_zero, Int.zero_add, and_self, or_self]
      · rw [if_neg (show ¬ okA w s k by omega)]
        simp (disch := omega) only [p, le_t, le_f, lt_t, lt_f, eq_t, eq_f, w32_id, inb, if_true, if_false, not_true_eq_false, not_false_eq_true, and_true, true_and, and_false, false_and, or_true, true_or, or_false, false_or, Int.add_zero, Int.zero_add, and_self, or_self]
    · rw [if_neg q, Int.add_zero] at hcs
      have e := go (some (xI 1)) (by omega)
      rw [hcs] at e
      by_cases p : k % 2 = 0
      · by_cases z : 65 ≤ s k ∧ s k ≤ 68
        · rw [if_pos (show okA w s k from Or.inl ⟨p, Or.inl z⟩), ← e]
          simp (disch := omega) only [p, z, le_t, le_f, lt_t, lt_f, eq_t, eq_f, w32_id, inb, if_true, if_false, not_true_eq_false, not_false_eq_true, and_true, true_and, and_false, false_and, or_true, true_or, or_false, false_or, Int.add_zero, Int.zero_add, and_self, or_self]
        · rw [if_neg (show ¬ okA w s k by omega)]
          simp (disch := omega) only [p, z, le_t, le_f, lt_t, lt_f, eq_t, eq_f, w32_id, inb, if_true, if_false, not_true_eq_false, not_false_eq_true, and_true, true_and, and_false, false_and, or_true, true_or, or_false, false_or, Int.add_zero, Int.zero_add, and_self, or_self]
      · by_cases z1 : 97 ≤ s k ∧ s k ≤ 97 + w - 1
        · rw [if_pos (show okA w s k from Or.inr ⟨by omega, by omega⟩), ← e]
          simp (disch := omega) only [p, z1, le_t, le_f, lt_t, lt_f, eq_t, eq_f, w32_id, inb, if_true, if_false, not_true_eq_false, not_false_eq_true, and_true, true_and, and_false, false_and, or_true, true_or, or_false, false_or, Int.add_zero, Int.zero_add, and_self, or_self]
        · by_cases z2 : s k = 43
          · rw [if_pos (show okA w s k from Or.inr ⟨by omega, by omega⟩), ← e]
            simp (disch := omega) only [p, z1, le_t, le_f, lt_t, lt_f, eq_t, eq_f, w32_id, inb, if_true, if_false, not_true_eq_false, not_false_eq_true, and_true, true_and, and_false, false_and, or_true, true_or, or_false, false_or, Int.add_zero, Int.zero_add, and_self, or_self]
          · by_cases z3 : s k = 45
            · rw [if_pos (show okA w s k from Or.inr ⟨by omega, by omega⟩), ← e]
              simp (disch := omega) only [p, z1, le_t, le_f, lt_t, lt_f, eq_t, eq_f, w32_id, inb, if_true, if_false, not_true_eq_false, not_false_eq_true, and_true, true_and, and_false, false_and, or_true, true_or, or_false, false_or, Int.add_zero, Int.zero_add, and_self, or_self]
            · rw [if_neg (show ¬ okA w s k by omega)]
              simp (disch := omega) only [p, z1, le_t, le_f, lt_t, lt_f, eq_t, eq_f, w32_id, inb, if_true, if_false, not_true_eq_false, not_false_eq_true, and_true, true_and, and_false, false_and, or_true, true_or, or_false, false_or, Int.add_zero, Int.zero_add, and_self, or_self]
theorem x_faultOf {s : Nat → Int} {n : Nat} (hn : n ≤ 60) (h1 : σ 75 19 = (n : Int)) (h2 : ∀ j, j < 60 → σ 90 j = s j) (w : Int) (h0 : σ 75 0 = w) (hw : 2 ≤ w ∧ w ≤ 6) (d1 d2 d3 d4 : Option PV) (Q : PQ) : X L 156 0 [some (xR 75), d1, d2, d3, d4] [] σ Q = Q (some (xI (flt w s n))) σ := by
  rw [e_156_0]
  exact x_faultM2 hn h1 h2 w h0 hw Q n 0 (by omega) (by simp [cq]) d3 d4
theorem x_untold {s : Nat → Int} {n : Nat} (hn : n ≤ 60) (h1 : σ 18 1 = (n : Int)) (h2 : ∀ j, j < 60 → σ 19 j = s j) (d1 d2 : Option PV) (Q : PQ) : X L 26 0 [some (xR 18), d1, d2] [] σ Q = Q (some (xI (cq s n))) σ := by
  have h := lpF (n := n) (fun i (x : Int) Q => X L 26 4 [some (xR 18), some (xI x), some (xI (i : Int))] [] σ Q) (fun i => cq s i) (by
    intro i hi Q
    have c0 := cq_0 s i
    have c1 := cq_le s i
    have e0 : vA L σ 19 (i : Int) = s i := by rw [vA19 (by omega), h2 i (by omega)]
    show X L 26 4 [some (xR 18), some (xI (cq s i)), some (xI (i : Int))] [] σ Q = X L 26 4 [some (xR 18), some (xI (cq s i + (if s i = 63 then 1 else 0))), some (xI ((i + 1 : Nat) : Int))] [] σ Q
    rw [e_26_4]
    simp only [brI, cTag, cTgt, true_and, h1, x_valueAt L 19 _ _ _ cTag.2.2.2.2.2.1, retI_I, e0, e_26_30, e_26_31]
    rw [if_neg (by omega), w32_id (x := (i : Int) + 1) (by omega) (by omega)]
    by_cases q : s i = 63
    · rw [if_neg (by simpa using q), if_pos q, w32_id (by omega) (by omega)]; rfl
    · rw [if_pos q, if_neg q, w32_id (by omega) (by omega)]; rfl) Q
  rw [e_26_0]
  refine Eq.trans h ?_
  show X L 26 4 [some (xR 18), some (xI (cq s n)), some (xI (n : Int))] [] σ Q = _
  rw [e_26_4, e_26_39]
  simp only [brI, cTag, true_and, h1, Int.le_refl, if_true]
theorem x_opens {s : Nat → Int} {h : Nat} (hn : 2 * h ≤ 60) (h1 : σ 75 19 = ((2 * h : Nat) : Int)) (h2 : ∀ j, j < 60 → σ 90 j = s j) (hq : ∀ j, j < 2 * h → j % 2 = 1 → ¬ s j = 63) (d1 d2 : Option PV) (Q : PQ) : X L 158 0 [some (xR 75), d1, d2] [] σ Q = Q (some (xI (cq s (2 * h)))) σ := by
  have h := lpF (n := h) (fun i (x : Int) Q => X L 158 4 [some (xR 75), some (xI x), some (xI ((2 * i : Nat) : Int))] [] σ Q) (fun i => cq s (2 * i)) (by
    intro i hi Q
    have c0 := cq_0 s (2 * i)
    have c1 := cq_le s (2 * i)
    have e0 := h2 (2 * i) (by omega)
    show X L 158 4 [some (xR 75), some (xI (cq s (2 * i))), some (xI ((2 * i : Nat) : Int))] [] σ Q = X L 158 4 [some (xR 75), some (xI (cq s (2 * i) + (if s (2 * i) = 63 then 1 else 0) + (if s (2 * i + 1) = 63 then 1 else 0))), some (xI ((2 * i + 2 : Nat) : Int))] [] σ Q
    rw [if_neg (hq (2 * i + 1) (by omega) (by omega)), e_158_4]
    simp only [brI, cTag, cTgt, cLen, true_and, h1, Int.toNat_natCast, e0, e_158_28, e_158_29, show (0 ≤ ((2 * i : Nat) : Int) ∧ ((2 * i : Nat) : Int) < 60) by omega]
    rw [if_neg (by omega), w32_id (x := ((2 * i : Nat) : Int) + 2) (by omega) (by omega)]
    by_cases q : s (2 * i) = 63
    · rw [if_neg (by simpa using q), if_pos q, w32_id (by omega) (by omega), Int.add_zero]; rfl
    · rw [if_pos q, if_neg q]; simp (disch := omega) only [Int.add_zero, w32_id]; rfl) Q
  rw [e_158_0]
  refine Eq.trans h ?_
  show X L 158 4 [some (xR 75), some (xI (cq s (2 * _))), some (xI ((2 * _ : Nat) : Int))] [] σ Q = _
  rw [e_158_4, e_158_37]
  simp only [brI, cTag, true_and, h1, Int.le_refl, if_true]
/-- who a step tells, what it tells -/
theorem x_whoOf {s : Nat → Int} (h2 : ∀ j, j < 60 → σ 19 j = s j) {i : Nat} (hi : 2 * i + 1 < 60) (hs : 0 ≤ s (2 * i) ∧ s (2 * i) ≤ 126) (d : Option PV) (Q : PQ) : X L 28 0 [some (xR 18), some (xI (i : Int)), d] [] σ Q = Q (some (xI (if s (2 * i) = 63 then -1 else s (2 * i) - 65))) σ := by
  have e0 : vA L σ 19 (2 * (i : Int)) = s (2 * i) := by
    rw [show (2 * (i : Int)) = ((2 * i : Nat) : Int) by omega, vA19 (by omega), h2 _ (by omega)]
  simp only [e_28_0, e_28_21, e_28_25, brI, cTag, cTgt, true_and, w32_id (x := 2 * (i : Int)) (by omega) (by omega), x_valueAt L 19 _ _ _ cTag.2.2.2.2.2.1, retI_I, e0, w32_id (x := s (2 * i) - 65) (by omega) (by omega)]
  by_cases q : s (2 * i) = 63 <;> simp [q]
def ded (s : Nat → Int) (i : Nat) : Int := if s (2 * i + 1) = 43 then 6 else if s (2 * i + 1) = 45 then 7 else s (2 * i + 1) - 97
theorem x_deedOf {s : Nat → Int} (h2 : ∀ j, j < 60 → σ 19 j = s j) {i : Nat} (hi : 2 * i + 1 < 60) (hs : 0 ≤ s (2 * i + 1) ∧ s (2 * i + 1) ≤ 126) (d : Option PV) (Q : PQ) : X L 29 0 [some (xR 18), some (xI (i : Int)), d] [] σ Q = Q (some (xI (ded s i))) σ := by
  have e0 : vA L σ 19 (2 * (i : Int) + 1) = s (2 * i + 1) := by
    rw [show (2 * (i : Int) + 1) = ((2 * i + 1 : Nat) : Int) by omega, vA19 (by omega), h2 _ (by omega)]
  simp only [e_29_0, e_29_22, e_29_33, e_29_37, brI, cTag, cTgt, true_and, w32_id (x := 2 * (i : Int)) (by omega) (by omega), w32_id (x := 2 * (i : Int) + 1) (by omega) (by omega), x_valueAt L 19 _ _ _ cTag.2.2.2.2.2.1, retI_I, e0, w32_id (x := s (2 * i + 1) - 97) (by omega) (by omega), ded]
  by_cases q : s (2 * i + 1) = 43
  · simp [q]
  · by_cases q2 : s (2 * i + 1) = 45 <;> simp [q, q2]
theorem x_stepCount {h : Nat} (hn : 2 * h ≤ 60) (h1 : σ 18 1 = ((2 * h : Nat) : Int)) (Q : PQ) : X L 27 0 [some (xR 18)] [] σ Q = Q (some (xI (h : Int))) σ := by
  have e : Int.tdiv ((2 * h : Nat) : Int) 2 = (h : Int) := by
    rw [Int.tdiv_eq_ediv_of_nonneg (by omega)]; omega
  simp only [e_27_0, cTag, true_and, h1, e, ne_eq, Int.reduceEq, not_false_eq_true, w32_id (x := (h : Int)) (by omega) (by omega)]
end Pad
